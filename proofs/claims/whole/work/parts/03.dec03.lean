theorem dX11_lay_25 : decode cX11_lay 25 = .ok (.iload_n 3, 1) := by decide +kernel
theorem dX11_lay_26 : decode cX11_lay 26 = .ok (.invokevirtual 341, 3) := by decide +kernel
theorem dX11_lay_29 : decode cX11_lay 29 = .ok (.istore 6, 2) := by decide +kernel
theorem dX11_lay_31 : decode cX11_lay 31 = .ok (.iload 6, 2) := by decide +kernel
theorem dX11_lay_33 : decode cX11_lay 33 = .ok (.ifCond .eq 10, 3) := by decide +kernel
theorem dX11_lay_36 : decode cX11_lay 36 = .ok (.aload_n 0, 1) := by decide +kernel
theorem dX11_lay_37 : decode cX11_lay 37 = .ok (.iload 6, 2) := by decide +kernel
theorem dX11_lay_39 : decode cX11_lay 39 = .ok (.invokevirtual 166, 3) := by decide +kernel
theorem dX11_lay_42 : decode cX11_lay 42 = .ok (.ireturn, 1) := by decide +kernel
theorem dX11_lay_43 : decode cX11_lay 43 = .ok (.aload 5, 2) := by decide +kernel
theorem dX11_lay_45 : decode cX11_lay 45 = .ok (.iload_n 3, 1) := by decide +kernel
theorem dX11_lay_46 : decode cX11_lay 46 = .ok (.iload 4, 2) := by decide +kernel
theorem dX11_lay_48 : decode cX11_lay 48 = .ok (.invokevirtual 344, 3) := by decide +kernel
theorem dX11_lay_51 : decode cX11_lay 51 = .ok (.iconst 1, 1) := by decide +kernel
theorem dX11_lay_52 : decode cX11_lay 52 = .ok (.ireturn, 1) := by decide +kernel
theorem dX11_get_0 : decode cX11_get 0 = .ok (.aload_n 0, 1) := by decide +kernel
theorem dX11_get_1 : decode cX11_get 1 = .ok (.iload_n 1, 1) := by decide +kernel
theorem dX11_get_2 : decode cX11_get 2 = .ok (.invokevirtual 159, 3) := by decide +kernel
theorem dX11_get_5 : decode cX11_get 5 = .ok (.astore 4, 2) := by decide +kernel
theorem dX11_get_7 : decode cX11_get 7 = .ok (.aload 4, 2) := by decide +kernel
theorem dX11_get_9 : decode cX11_get 9 = .ok (.ifnull 10, 3) := by decide +kernel
theorem dX11_get_12 : decode cX11_get 12 = .ok (.iload_n 2, 1) := by decide +kernel
theorem dX11_get_13 : decode cX11_get 13 = .ok (.invokestatic 331, 3) := by decide +kernel
theorem dX11_get_16 : decode cX11_get 16 = .ok (.ifCond .ne 7, 3) := by decide +kernel
theorem dX11_get_19 : decode cX11_get 19 = .ok (.ldc_w 347, 3) := by decide +kernel
theorem dX11_get_22 : decode cX11_get 22 = .ok (.ireturn, 1) := by decide +kernel
theorem dX11_get_23 : decode cX11_get 23 = .ok (.aload 4, 2) := by decide +kernel
theorem dX11_get_25 : decode cX11_get 25 = .ok (.iload_n 2, 1) := by decide +kernel
theorem dX11_get_26 : decode cX11_get 26 = .ok (.iload_n 3, 1) := by decide +kernel
theorem dX11_get_27 : decode cX11_get 27 = .ok (.invokevirtual 341, 3) := by decide +kernel
theorem dX11_get_30 : decode cX11_get 30 = .ok (.istore 5, 2) := by decide +kernel
theorem dX11_get_32 : decode cX11_get 32 = .ok (.iload 5, 2) := by decide +kernel
theorem dX11_get_34 : decode cX11_get 34 = .ok (.ifCond .eq 13, 3) := by decide +kernel
theorem dX11_get_37 : decode cX11_get 37 = .ok (.aload_n 0, 1) := by decide +kernel
theorem dX11_get_38 : decode cX11_get 38 = .ok (.iload 5, 2) := by decide +kernel
theorem dX11_get_40 : decode cX11_get 40 = .ok (.putfield 348, 3) := by decide +kernel
theorem dX11_get_43 : decode cX11_get 43 = .ok (.ldc_w 347, 3) := by decide +kernel
theorem dX11_get_46 : decode cX11_get 46 = .ok (.ireturn, 1) := by decide +kernel
theorem dX11_get_47 : decode cX11_get 47 = .ok (.aload 4, 2) := by decide +kernel
theorem dX11_get_49 : decode cX11_get 49 = .ok (.iload_n 3, 1) := by decide +kernel
theorem dX11_get_50 : decode cX11_get 50 = .ok (.invokevirtual 173, 3) := by decide +kernel
theorem dX11_get_53 : decode cX11_get 53 = .ok (.ireturn, 1) := by decide +kernel
theorem dX11_copy_0 : decode cX11_copy 0 = .ok (.aload_n 0, 1) := by decide +kernel
theorem dX11_copy_1 : decode cX11_copy 1 = .ok (.iload_n 1, 1) := by decide +kernel
theorem dX11_copy_2 : decode cX11_copy 2 = .ok (.invokevirtual 159, 3) := by decide +kernel
theorem dX11_copy_5 : decode cX11_copy 5 = .ok (.astore 6, 2) := by decide +kernel
theorem dX11_copy_7 : decode cX11_copy 7 = .ok (.aload_n 0, 1) := by decide +kernel
theorem dX11_copy_8 : decode cX11_copy 8 = .ok (.iload_n 3, 1) := by decide +kernel
theorem dX11_copy_9 : decode cX11_copy 9 = .ok (.invokevirtual 159, 3) := by decide +kernel
theorem dX11_copy_12 : decode cX11_copy 12 = .ok (.astore 7, 2) := by decide +kernel
theorem dX11_copy_14 : decode cX11_copy 14 = .ok (.aload 6, 2) := by decide +kernel
theorem dX11_copy_16 : decode cX11_copy 16 = .ok (.ifnull 8, 3) := by decide +kernel
theorem dX11_copy_19 : decode cX11_copy 19 = .ok (.aload 7, 2) := by decide +kernel
theorem dX11_copy_21 : decode cX11_copy 21 = .ok (.ifnonnull 6, 3) := by decide +kernel
theorem dX11_copy_24 : decode cX11_copy 24 = .ok (.bipush (-2), 2) := by decide +kernel
theorem dX11_copy_26 : decode cX11_copy 26 = .ok (.ireturn, 1) := by decide +kernel
theorem dX11_copy_27 : decode cX11_copy 27 = .ok (.aload 6, 2) := by decide +kernel
theorem dX11_copy_29 : decode cX11_copy 29 = .ok (.invokevirtual 163, 3) := by decide +kernel
theorem dX11_copy_32 : decode cX11_copy 32 = .ok (.ifCond .ne 11, 3) := by decide +kernel
theorem dX11_copy_35 : decode cX11_copy 35 = .ok (.aload 7, 2) := by decide +kernel
theorem dX11_copy_37 : decode cX11_copy 37 = .ok (.invokevirtual 163, 3) := by decide +kernel
theorem dX11_copy_40 : decode cX11_copy 40 = .ok (.ifCond .eq 9, 3) := by decide +kernel
theorem dX11_copy_43 : decode cX11_copy 43 = .ok (.aload_n 0, 1) := by decide +kernel
theorem dX11_copy_44 : decode cX11_copy 44 = .ok (.iconst 1, 1) := by decide +kernel
theorem dX11_copy_45 : decode cX11_copy 45 = .ok (.invokevirtual 166, 3) := by decide +kernel
theorem dX11_copy_48 : decode cX11_copy 48 = .ok (.ireturn, 1) := by decide +kernel
theorem dX11_copy_49 : decode cX11_copy 49 = .ok (.aload 6, 2) := by decide +kernel
theorem dX11_copy_51 : decode cX11_copy 51 = .ok (.getfield 351, 3) := by decide +kernel
theorem dX11_copy_54 : decode cX11_copy 54 = .ok (.aload 7, 2) := by decide +kernel
theorem dX11_copy_56 : decode cX11_copy 56 = .ok (.getfield 351, 3) := by decide +kernel
theorem dX11_copy_59 : decode cX11_copy 59 = .ok (.if_icmp .eq 9, 3) := by decide +kernel
theorem dX11_copy_62 : decode cX11_copy 62 = .ok (.aload_n 0, 1) := by decide +kernel
theorem dX11_copy_63 : decode cX11_copy 63 = .ok (.iconst 4, 1) := by decide +kernel
theorem dX11_copy_64 : decode cX11_copy 64 = .ok (.invokevirtual 166, 3) := by decide +kernel
theorem dX11_copy_67 : decode cX11_copy 67 = .ok (.ireturn, 1) := by decide +kernel
theorem dX11_copy_68 : decode cX11_copy 68 = .ok (.aload 6, 2) := by decide +kernel
theorem dX11_copy_70 : decode cX11_copy 70 = .ok (.iload_n 2, 1) := by decide +kernel
theorem dX11_copy_71 : decode cX11_copy 71 = .ok (.iload 5, 2) := by decide +kernel
theorem dX11_copy_73 : decode cX11_copy 73 = .ok (.invokevirtual 354, 3) := by decide +kernel
theorem dX11_copy_76 : decode cX11_copy 76 = .ok (.ifCond .eq 15, 3) := by decide +kernel
theorem dX11_copy_79 : decode cX11_copy 79 = .ok (.aload 7, 2) := by decide +kernel
theorem dX11_copy_81 : decode cX11_copy 81 = .ok (.iload 4, 2) := by decide +kernel
theorem dX11_copy_83 : decode cX11_copy 83 = .ok (.iload 5, 2) := by decide +kernel
theorem dX11_copy_85 : decode cX11_copy 85 = .ok (.invokevirtual 354, 3) := by decide +kernel
theorem dX11_copy_88 : decode cX11_copy 88 = .ok (.ifCond .ne 9, 3) := by decide +kernel
theorem dX11_copy_91 : decode cX11_copy 91 = .ok (.aload_n 0, 1) := by decide +kernel
theorem dX11_copy_92 : decode cX11_copy 92 = .ok (.iconst 2, 1) := by decide +kernel
theorem dX11_copy_93 : decode cX11_copy 93 = .ok (.invokevirtual 166, 3) := by decide +kernel
theorem dX11_copy_96 : decode cX11_copy 96 = .ok (.ireturn, 1) := by decide +kernel
theorem dX11_copy_97 : decode cX11_copy 97 = .ok (.aload 6, 2) := by decide +kernel
theorem dX11_copy_99 : decode cX11_copy 99 = .ok (.getfield 357, 3) := by decide +kernel
theorem dX11_copy_102 : decode cX11_copy 102 = .ok (.iload_n 2, 1) := by decide +kernel
theorem dX11_copy_103 : decode cX11_copy 103 = .ok (.aload 7, 2) := by decide +kernel
theorem dX11_copy_105 : decode cX11_copy 105 = .ok (.getfield 357, 3) := by decide +kernel
theorem dX11_copy_108 : decode cX11_copy 108 = .ok (.iload 4, 2) := by decide +kernel
theorem dX11_copy_110 : decode cX11_copy 110 = .ok (.iload 5, 2) := by decide +kernel
theorem dX11_copy_112 : decode cX11_copy 112 = .ok (.invokestatic 360, 3) := by decide +kernel
theorem dX11_copy_115 : decode cX11_copy 115 = .ok (.iconst 1, 1) := by decide +kernel
theorem dX11_copy_116 : decode cX11_copy 116 = .ok (.ireturn, 1) := by decide +kernel
theorem dX11_write_0 : decode cX11_write 0 = .ok (.aload_n 0, 1) := by decide +kernel
theorem dX11_write_1 : decode cX11_write 1 = .ok (.iload_n 2, 1) := by decide +kernel
theorem dX11_write_2 : decode cX11_write 2 = .ok (.invokevirtual 159, 3) := by decide +kernel
theorem dX11_write_5 : decode cX11_write 5 = .ok (.astore_n 3, 1) := by decide +kernel
theorem dX11_write_6 : decode cX11_write 6 = .ok (.aload_n 0, 1) := by decide +kernel
theorem dX11_write_7 : decode cX11_write 7 = .ok (.getfield 27, 3) := by decide +kernel
theorem dX11_write_10 : decode cX11_write 10 = .ok (.iload_n 1, 1) := by decide +kernel
theorem dX11_write_11 : decode cX11_write 11 = .ok (.invokevirtual 176, 3) := by decide +kernel
theorem dX11_write_14 : decode cX11_write 14 = .ok (.ifCond .eq 7, 3) := by decide +kernel
theorem dX11_write_17 : decode cX11_write 17 = .ok (.aload_n 3, 1) := by decide +kernel
theorem dX11_write_18 : decode cX11_write 18 = .ok (.ifnonnull 6, 3) := by decide +kernel
theorem dX11_write_21 : decode cX11_write 21 = .ok (.bipush (-2), 2) := by decide +kernel
theorem dX11_write_23 : decode cX11_write 23 = .ok (.ireturn, 1) := by decide +kernel
theorem dX11_write_24 : decode cX11_write 24 = .ok (.aload_n 3, 1) := by decide +kernel
theorem dX11_write_25 : decode cX11_write 25 = .ok (.invokevirtual 163, 3) := by decide +kernel
theorem dX11_write_28 : decode cX11_write 28 = .ok (.ifCond .eq 9, 3) := by decide +kernel
theorem dX11_write_31 : decode cX11_write 31 = .ok (.aload_n 0, 1) := by decide +kernel
theorem dX11_write_32 : decode cX11_write 32 = .ok (.iconst 1, 1) := by decide +kernel
theorem dX11_write_33 : decode cX11_write 33 = .ok (.invokevirtual 166, 3) := by decide +kernel
theorem dX11_write_36 : decode cX11_write 36 = .ok (.ireturn, 1) := by decide +kernel
theorem dX11_write_37 : decode cX11_write 37 = .ok (.aload_n 0, 1) := by decide +kernel
theorem dX11_write_38 : decode cX11_write 38 = .ok (.getfield 36, 3) := by decide +kernel
theorem dX11_write_41 : decode cX11_write 41 = .ok (.iload_n 1, 1) := by decide +kernel
theorem dX11_write_42 : decode cX11_write 42 = .ok (.invokevirtual 189, 3) := by decide +kernel
theorem dX11_write_45 : decode cX11_write 45 = .ok (.iconst 0, 1) := by decide +kernel
theorem dX11_write_46 : decode cX11_write 46 = .ok (.istore 4, 2) := by decide +kernel
theorem dX11_write_48 : decode cX11_write 48 = .ok (.iload 4, 2) := by decide +kernel
theorem dX11_write_50 : decode cX11_write 50 = .ok (.aload_n 3, 1) := by decide +kernel
theorem dX11_write_51 : decode cX11_write 51 = .ok (.getfield 337, 3) := by decide +kernel
theorem dX11_write_54 : decode cX11_write 54 = .ok (.if_icmp .ge 24, 3) := by decide +kernel
theorem dX11_write_57 : decode cX11_write 57 = .ok (.aload_n 3, 1) := by decide +kernel
theorem dX11_write_58 : decode cX11_write 58 = .ok (.iload 4, 2) := by decide +kernel
theorem dX11_write_60 : decode cX11_write 60 = .ok (.aload_n 0, 1) := by decide +kernel
theorem dX11_write_61 : decode cX11_write 61 = .ok (.getfield 36, 3) := by decide +kernel
theorem dX11_write_64 : decode cX11_write 64 = .ok (.iload 4, 2) := by decide +kernel
theorem dX11_write_66 : decode cX11_write 66 = .ok (.invokevirtual 192, 3) := by decide +kernel
theorem dX11_write_69 : decode cX11_write 69 = .ok (.invokevirtual 344, 3) := by decide +kernel
theorem dX11_write_72 : decode cX11_write 72 = .ok (.iinc 4 1, 3) := by decide +kernel
theorem dX11_write_75 : decode cX11_write 75 = .ok (.goto (-27), 3) := by decide +kernel
theorem dX11_write_78 : decode cX11_write 78 = .ok (.aload_n 3, 1) := by decide +kernel
theorem dX11_write_79 : decode cX11_write 79 = .ok (.getfield 337, 3) := by decide +kernel
theorem dX11_write_82 : decode cX11_write 82 = .ok (.ireturn, 1) := by decide +kernel
theorem dX11_count_0 : decode cX11_count 0 = .ok (.iload_n 1, 1) := by decide +kernel
theorem dX11_count_1 : decode cX11_count 1 = .ok (.tableswitch 120 0 8 #[51, 59, 67, 75, 83, 91, 99, 107, 115], 51) := by decide +kernel
theorem dX11_count_52 : decode cX11_count 52 = .ok (.aload_n 0, 1) := by decide +kernel
theorem dX11_count_53 : decode cX11_count 53 = .ok (.getfield 27, 3) := by decide +kernel
theorem dX11_count_56 : decode cX11_count 56 = .ok (.getfield 366, 3) := by decide +kernel
theorem dX11_count_59 : decode cX11_count 59 = .ok (.ireturn, 1) := by decide +kernel
theorem dX11_count_60 : decode cX11_count 60 = .ok (.aload_n 0, 1) := by decide +kernel
theorem dX11_count_61 : decode cX11_count 61 = .ok (.getfield 50, 3) := by decide +kernel
theorem dX11_count_64 : decode cX11_count 64 = .ok (.getfield 254, 3) := by decide +kernel
theorem dX11_count_67 : decode cX11_count 67 = .ok (.ireturn, 1) := by decide +kernel
theorem dX11_count_68 : decode cX11_count 68 = .ok (.aload_n 0, 1) := by decide +kernel
theorem dX11_count_69 : decode cX11_count 69 = .ok (.getfield 57, 3) := by decide +kernel
theorem dX11_count_72 : decode cX11_count 72 = .ok (.getfield 185, 3) := by decide +kernel
theorem dX11_count_75 : decode cX11_count 75 = .ok (.ireturn, 1) := by decide +kernel
theorem dX11_count_76 : decode cX11_count 76 = .ok (.aload_n 0, 1) := by decide +kernel
theorem dX11_count_77 : decode cX11_count 77 = .ok (.getfield 57, 3) := by decide +kernel
theorem dX11_count_80 : decode cX11_count 80 = .ok (.getfield 182, 3) := by decide +kernel
theorem dX11_count_83 : decode cX11_count 83 = .ok (.ireturn, 1) := by decide +kernel
theorem dX11_count_84 : decode cX11_count 84 = .ok (.aload_n 0, 1) := by decide +kernel
theorem dX11_count_85 : decode cX11_count 85 = .ok (.getfield 14, 3) := by decide +kernel
theorem dX11_count_88 : decode cX11_count 88 = .ok (.getfield 116, 3) := by decide +kernel
theorem dX11_count_91 : decode cX11_count 91 = .ok (.ireturn, 1) := by decide +kernel
theorem dX11_count_92 : decode cX11_count 92 = .ok (.aload_n 0, 1) := by decide +kernel
theorem dX11_count_93 : decode cX11_count 93 = .ok (.getfield 18, 3) := by decide +kernel
theorem dX11_count_96 : decode cX11_count 96 = .ok (.getfield 116, 3) := by decide +kernel
theorem dX11_count_99 : decode cX11_count 99 = .ok (.ireturn, 1) := by decide +kernel
theorem dX11_count_100 : decode cX11_count 100 = .ok (.aload_n 0, 1) := by decide +kernel
theorem dX11_count_101 : decode cX11_count 101 = .ok (.getfield 21, 3) := by decide +kernel
theorem dX11_count_104 : decode cX11_count 104 = .ok (.getfield 116, 3) := by decide +kernel
theorem dX11_count_107 : decode cX11_count 107 = .ok (.ireturn, 1) := by decide +kernel
theorem dX11_count_108 : decode cX11_count 108 = .ok (.aload_n 0, 1) := by decide +kernel
theorem dX11_count_109 : decode cX11_count 109 = .ok (.getfield 80, 3) := by decide +kernel
theorem dX11_count_112 : decode cX11_count 112 = .ok (.getfield 297, 3) := by decide +kernel
theorem dX11_count_115 : decode cX11_count 115 = .ok (.ireturn, 1) := by decide +kernel
theorem dX11_count_116 : decode cX11_count 116 = .ok (.aload_n 0, 1) := by decide +kernel
theorem dX11_count_117 : decode cX11_count 117 = .ok (.getfield 348, 3) := by decide +kernel
theorem dX11_count_120 : decode cX11_count 120 = .ok (.ireturn, 1) := by decide +kernel
theorem dX11_count_121 : decode cX11_count 121 = .ok (.bipush (-2), 2) := by decide +kernel
theorem dX11_count_123 : decode cX11_count 123 = .ok (.ireturn, 1) := by decide +kernel
theorem dX11_digest_0 : decode cX11_digest 0 = .ok (.ldc2_w 369, 3) := by decide +kernel
theorem dX11_digest_3 : decode cX11_digest 3 = .ok (.lstore_n 1, 1) := by decide +kernel
theorem dX11_digest_4 : decode cX11_digest 4 = .ok (.iconst 0, 1) := by decide +kernel
theorem dX11_digest_5 : decode cX11_digest 5 = .ok (.istore_n 3, 1) := by decide +kernel
theorem dX11_digest_6 : decode cX11_digest 6 = .ok (.iload_n 3, 1) := by decide +kernel
theorem dX11_digest_7 : decode cX11_digest 7 = .ok (.bipush 8, 2) := by decide +kernel
theorem dX11_digest_9 : decode cX11_digest 9 = .ok (.if_icmp .ge 22, 3) := by decide +kernel
theorem dX11_digest_12 : decode cX11_digest 12 = .ok (.ldc2_w 371, 3) := by decide +kernel
theorem dX11_digest_15 : decode cX11_digest 15 = .ok (.lload_n 1, 1) := by decide +kernel
theorem dX11_digest_16 : decode cX11_digest 16 = .ok (.lmul, 1) := by decide +kernel
theorem dX11_digest_17 : decode cX11_digest 17 = .ok (.aload_n 0, 1) := by decide +kernel
theorem dX11_digest_18 : decode cX11_digest 18 = .ok (.iload_n 3, 1) := by decide +kernel
theorem dX11_digest_19 : decode cX11_digest 19 = .ok (.invokevirtual 373, 3) := by decide +kernel
theorem dX11_digest_22 : decode cX11_digest 22 = .ok (.i2l, 1) := by decide +kernel
theorem dX11_digest_23 : decode cX11_digest 23 = .ok (.ladd, 1) := by decide +kernel
theorem dX11_digest_24 : decode cX11_digest 24 = .ok (.lstore_n 1, 1) := by decide +kernel
theorem dX11_digest_25 : decode cX11_digest 25 = .ok (.iinc 3 1, 3) := by decide +kernel
theorem dX11_digest_28 : decode cX11_digest 28 = .ok (.goto (-22), 3) := by decide +kernel
theorem dX11_digest_31 : decode cX11_digest 31 = .ok (.iconst 0, 1) := by decide +kernel
theorem dX11_digest_32 : decode cX11_digest 32 = .ok (.istore_n 3, 1) := by decide +kernel
theorem dX11_digest_33 : decode cX11_digest 33 = .ok (.iload_n 3, 1) := by decide +kernel
theorem dX11_digest_34 : decode cX11_digest 34 = .ok (.iconst 3, 1) := by decide +kernel
theorem dX11_digest_35 : decode cX11_digest 35 = .ok (.if_icmp .ge 22, 3) := by decide +kernel
theorem dX11_digest_38 : decode cX11_digest 38 = .ok (.ldc2_w 371, 3) := by decide +kernel
theorem dX11_digest_41 : decode cX11_digest 41 = .ok (.lload_n 1, 1) := by decide +kernel
theorem dX11_digest_42 : decode cX11_digest 42 = .ok (.lmul, 1) := by decide +kernel
theorem dX11_digest_43 : decode cX11_digest 43 = .ok (.aload_n 0, 1) := by decide +kernel
theorem dX11_digest_44 : decode cX11_digest 44 = .ok (.iload_n 3, 1) := by decide +kernel
theorem dX11_digest_45 : decode cX11_digest 45 = .ok (.invokevirtual 376, 3) := by decide +kernel
theorem dX11_digest_48 : decode cX11_digest 48 = .ok (.i2l, 1) := by decide +kernel
theorem dX11_digest_49 : decode cX11_digest 49 = .ok (.ladd, 1) := by decide +kernel
theorem dX11_digest_50 : decode cX11_digest 50 = .ok (.lstore_n 1, 1) := by decide +kernel
theorem dX11_digest_51 : decode cX11_digest 51 = .ok (.iinc 3 1, 3) := by decide +kernel
theorem dX11_digest_54 : decode cX11_digest 54 = .ok (.goto (-21), 3) := by decide +kernel
theorem dX11_digest_57 : decode cX11_digest 57 = .ok (.ldc2_w 371, 3) := by decide +kernel
theorem dX11_digest_60 : decode cX11_digest 60 = .ok (.lload_n 1, 1) := by decide +kernel
theorem dX11_digest_61 : decode cX11_digest 61 = .ok (.lmul, 1) := by decide +kernel
theorem dX11_digest_62 : decode cX11_digest 62 = .ok (.aload_n 0, 1) := by decide +kernel
theorem dX11_digest_63 : decode cX11_digest 63 = .ok (.invokevirtual 379, 3) := by decide +kernel
theorem dX11_digest_66 : decode cX11_digest 66 = .ok (.i2l, 1) := by decide +kernel
theorem dX11_digest_67 : decode cX11_digest 67 = .ok (.ladd, 1) := by decide +kernel
theorem dX11_digest_68 : decode cX11_digest 68 = .ok (.lstore_n 1, 1) := by decide +kernel
theorem dX11_digest_69 : decode cX11_digest 69 = .ok (.ldc2_w 371, 3) := by decide +kernel
theorem dX11_digest_72 : decode cX11_digest 72 = .ok (.lload_n 1, 1) := by decide +kernel
theorem dX11_digest_73 : decode cX11_digest 73 = .ok (.lmul, 1) := by decide +kernel
theorem dX11_digest_74 : decode cX11_digest 74 = .ok (.aload_n 0, 1) := by decide +kernel
theorem dX11_digest_75 : decode cX11_digest 75 = .ok (.aload_n 0, 1) := by decide +kernel
theorem dX11_digest_76 : decode cX11_digest 76 = .ok (.getfield 57, 3) := by decide +kernel
theorem dX11_digest_79 : decode cX11_digest 79 = .ok (.getfield 182, 3) := by decide +kernel
theorem dX11_digest_82 : decode cX11_digest 82 = .ok (.invokevirtual 382, 3) := by decide +kernel
theorem dX11_digest_85 : decode cX11_digest 85 = .ok (.i2l, 1) := by decide +kernel
theorem dX11_digest_86 : decode cX11_digest 86 = .ok (.ladd, 1) := by decide +kernel
theorem dX11_digest_87 : decode cX11_digest 87 = .ok (.lstore_n 1, 1) := by decide +kernel
theorem dX11_digest_88 : decode cX11_digest 88 = .ok (.ldc2_w 371, 3) := by decide +kernel
theorem dX11_digest_91 : decode cX11_digest 91 = .ok (.lload_n 1, 1) := by decide +kernel
theorem dX11_digest_92 : decode cX11_digest 92 = .ok (.lmul, 1) := by decide +kernel
theorem dX11_digest_93 : decode cX11_digest 93 = .ok (.aload_n 0, 1) := by decide +kernel
theorem dX11_digest_94 : decode cX11_digest 94 = .ok (.invokevirtual 385, 3) := by decide +kernel
theorem dX11_digest_97 : decode cX11_digest 97 = .ok (.i2l, 1) := by decide +kernel
theorem dX11_digest_98 : decode cX11_digest 98 = .ok (.ladd, 1) := by decide +kernel
theorem dX11_digest_99 : decode cX11_digest 99 = .ok (.lstore_n 1, 1) := by decide +kernel
theorem dX11_digest_100 : decode cX11_digest 100 = .ok (.ldc2_w 371, 3) := by decide +kernel
theorem dX11_digest_103 : decode cX11_digest 103 = .ok (.lload_n 1, 1) := by decide +kernel
theorem dX11_digest_104 : decode cX11_digest 104 = .ok (.lmul, 1) := by decide +kernel
theorem dX11_digest_105 : decode cX11_digest 105 = .ok (.aload_n 0, 1) := by decide +kernel
theorem dX11_digest_106 : decode cX11_digest 106 = .ok (.invokevirtual 388, 3) := by decide +kernel
theorem dX11_digest_109 : decode cX11_digest 109 = .ok (.i2l, 1) := by decide +kernel
theorem dX11_digest_110 : decode cX11_digest 110 = .ok (.ladd, 1) := by decide +kernel
theorem dX11_digest_111 : decode cX11_digest 111 = .ok (.lstore_n 1, 1) := by decide +kernel
theorem dX11_digest_112 : decode cX11_digest 112 = .ok (.ldc2_w 371, 3) := by decide +kernel
theorem dX11_digest_115 : decode cX11_digest 115 = .ok (.lload_n 1, 1) := by decide +kernel
theorem dX11_digest_116 : decode cX11_digest 116 = .ok (.lmul, 1) := by decide +kernel
theorem dX11_digest_117 : decode cX11_digest 117 = .ok (.aload_n 0, 1) := by decide +kernel
theorem dX11_digest_118 : decode cX11_digest 118 = .ok (.iconst 0, 1) := by decide +kernel
theorem dX11_digest_119 : decode cX11_digest 119 = .ok (.invokevirtual 391, 3) := by decide +kernel
theorem dX11_digest_122 : decode cX11_digest 122 = .ok (.ladd, 1) := by decide +kernel
theorem dX11_digest_123 : decode cX11_digest 123 = .ok (.lstore_n 1, 1) := by decide +kernel
theorem dX11_digest_124 : decode cX11_digest 124 = .ok (.ldc2_w 371, 3) := by decide +kernel
theorem dX11_digest_127 : decode cX11_digest 127 = .ok (.lload_n 1, 1) := by decide +kernel
theorem dX11_digest_128 : decode cX11_digest 128 = .ok (.lmul, 1) := by decide +kernel
theorem dX11_digest_129 : decode cX11_digest 129 = .ok (.aload_n 0, 1) := by decide +kernel
theorem dX11_digest_130 : decode cX11_digest 130 = .ok (.iconst 1, 1) := by decide +kernel
theorem dX11_digest_131 : decode cX11_digest 131 = .ok (.invokevirtual 391, 3) := by decide +kernel
theorem dX11_digest_134 : decode cX11_digest 134 = .ok (.ladd, 1) := by decide +kernel
theorem dX11_digest_135 : decode cX11_digest 135 = .ok (.lstore_n 1, 1) := by decide +kernel
theorem dX11_digest_136 : decode cX11_digest 136 = .ok (.aload_n 0, 1) := by decide +kernel
theorem dX11_digest_137 : decode cX11_digest 137 = .ok (.lload_n 1, 1) := by decide +kernel
theorem dX11_digest_138 : decode cX11_digest 138 = .ok (.invokevirtual 394, 3) := by decide +kernel
theorem dX11_digest_141 : decode cX11_digest 141 = .ok (.lstore_n 1, 1) := by decide +kernel
theorem dX11_digest_142 : decode cX11_digest 142 = .ok (.aload_n 0, 1) := by decide +kernel
theorem dX11_digest_143 : decode cX11_digest 143 = .ok (.lload_n 1, 1) := by decide +kernel
theorem dX11_digest_144 : decode cX11_digest 144 = .ok (.invokevirtual 398, 3) := by decide +kernel
theorem dX11_digest_147 : decode cX11_digest 147 = .ok (.lstore_n 1, 1) := by decide +kernel
theorem dX11_digest_148 : decode cX11_digest 148 = .ok (.aload_n 0, 1) := by decide +kernel
theorem dX11_digest_149 : decode cX11_digest 149 = .ok (.lload_n 1, 1) := by decide +kernel
theorem dX11_digest_150 : decode cX11_digest 150 = .ok (.invokevirtual 401, 3) := by decide +kernel
theorem dX11_digest_153 : decode cX11_digest 153 = .ok (.lstore_n 1, 1) := by decide +kernel
theorem dX11_digest_154 : decode cX11_digest 154 = .ok (.aload_n 0, 1) := by decide +kernel
theorem dX11_digest_155 : decode cX11_digest 155 = .ok (.lload_n 1, 1) := by decide +kernel
theorem dX11_digest_156 : decode cX11_digest 156 = .ok (.invokevirtual 404, 3) := by decide +kernel
theorem dX11_digest_159 : decode cX11_digest 159 = .ok (.lreturn, 1) := by decide +kernel
theorem dX11_withPersons_0 : decode cX11_withPersons 0 = .ok (.lload_n 1, 1) := by decide +kernel
theorem dX11_withPersons_1 : decode cX11_withPersons 1 = .ok (.lstore_n 3, 1) := by decide +kernel
theorem dX11_withPersons_2 : decode cX11_withPersons 2 = .ok (.iconst 0, 1) := by decide +kernel
theorem dX11_withPersons_3 : decode cX11_withPersons 3 = .ok (.istore 5, 2) := by decide +kernel
theorem dX11_withPersons_5 : decode cX11_withPersons 5 = .ok (.iload 5, 2) := by decide +kernel
theorem dX11_withPersons_7 : decode cX11_withPersons 7 = .ok (.iconst 5, 1) := by decide +kernel
theorem dX11_withPersons_8 : decode cX11_withPersons 8 = .ok (.if_icmp .ge 53, 3) := by decide +kernel
theorem dX11_withPersons_11 : decode cX11_withPersons 11 = .ok (.ldc2_w 371, 3) := by decide +kernel
theorem dX11_withPersons_14 : decode cX11_withPersons 14 = .ok (.lload_n 3, 1) := by decide +kernel
theorem dX11_withPersons_15 : decode cX11_withPersons 15 = .ok (.lmul, 1) := by decide +kernel
theorem dX11_withPersons_16 : decode cX11_withPersons 16 = .ok (.aload_n 0, 1) := by decide +kernel
theorem dX11_withPersons_17 : decode cX11_withPersons 17 = .ok (.iload 5, 2) := by decide +kernel
theorem dX11_withPersons_19 : decode cX11_withPersons 19 = .ok (.invokevirtual 407, 3) := by decide +kernel
theorem dX11_withPersons_22 : decode cX11_withPersons 22 = .ok (.i2l, 1) := by decide +kernel
theorem dX11_withPersons_23 : decode cX11_withPersons 23 = .ok (.ladd, 1) := by decide +kernel
theorem dX11_withPersons_24 : decode cX11_withPersons 24 = .ok (.lstore_n 3, 1) := by decide +kernel
theorem dX11_withPersons_25 : decode cX11_withPersons 25 = .ok (.bipush (-2), 2) := by decide +kernel
theorem dX11_withPersons_27 : decode cX11_withPersons 27 = .ok (.istore 6, 2) := by decide +kernel
theorem dX11_withPersons_29 : decode cX11_withPersons 29 = .ok (.iload 6, 2) := by decide +kernel
theorem dX11_withPersons_31 : decode cX11_withPersons 31 = .ok (.ifCond .gt 24, 3) := by decide +kernel
theorem dX11_withPersons_34 : decode cX11_withPersons 34 = .ok (.ldc2_w 371, 3) := by decide +kernel
theorem dX11_withPersons_37 : decode cX11_withPersons 37 = .ok (.lload_n 3, 1) := by decide +kernel
theorem dX11_withPersons_38 : decode cX11_withPersons 38 = .ok (.lmul, 1) := by decide +kernel
theorem dX11_withPersons_39 : decode cX11_withPersons 39 = .ok (.aload_n 0, 1) := by decide +kernel
theorem dX11_withPersons_40 : decode cX11_withPersons 40 = .ok (.iload 5, 2) := by decide +kernel
theorem dX11_withPersons_42 : decode cX11_withPersons 42 = .ok (.iload 6, 2) := by decide +kernel
theorem dX11_withPersons_44 : decode cX11_withPersons 44 = .ok (.invokevirtual 410, 3) := by decide +kernel
theorem dX11_withPersons_47 : decode cX11_withPersons 47 = .ok (.ladd, 1) := by decide +kernel
theorem dX11_withPersons_48 : decode cX11_withPersons 48 = .ok (.lstore_n 3, 1) := by decide +kernel
theorem dX11_withPersons_49 : decode cX11_withPersons 49 = .ok (.iinc 6 1, 3) := by decide +kernel
theorem dX11_withPersons_52 : decode cX11_withPersons 52 = .ok (.goto (-23), 3) := by decide +kernel
theorem dX11_withPersons_55 : decode cX11_withPersons 55 = .ok (.iinc 5 1, 3) := by decide +kernel
theorem dX11_withPersons_58 : decode cX11_withPersons 58 = .ok (.goto (-53), 3) := by decide +kernel
theorem dX11_withPersons_61 : decode cX11_withPersons 61 = .ok (.lload_n 3, 1) := by decide +kernel
theorem dX11_withPersons_62 : decode cX11_withPersons 62 = .ok (.lreturn, 1) := by decide +kernel
theorem dX11_withWays_0 : decode cX11_withWays 0 = .ok (.ldc2_w 371, 3) := by decide +kernel
theorem dX11_withWays_3 : decode cX11_withWays 3 = .ok (.lload_n 1, 1) := by decide +kernel
theorem dX11_withWays_4 : decode cX11_withWays 4 = .ok (.lmul, 1) := by decide +kernel
theorem dX11_withWays_5 : decode cX11_withWays 5 = .ok (.aload_n 0, 1) := by decide +kernel
theorem dX11_withWays_6 : decode cX11_withWays 6 = .ok (.iconst 0, 1) := by decide +kernel
theorem dX11_withWays_7 : decode cX11_withWays 7 = .ok (.bipush 9, 2) := by decide +kernel
theorem dX11_withWays_9 : decode cX11_withWays 9 = .ok (.invokevirtual 414, 3) := by decide +kernel
theorem dX11_withWays_12 : decode cX11_withWays 12 = .ok (.i2l, 1) := by decide +kernel
theorem dX11_withWays_13 : decode cX11_withWays 13 = .ok (.ladd, 1) := by decide +kernel
theorem dX11_withWays_14 : decode cX11_withWays 14 = .ok (.lstore_n 3, 1) := by decide +kernel
theorem dX11_withWays_15 : decode cX11_withWays 15 = .ok (.bipush (-2), 2) := by decide +kernel
theorem dX11_withWays_17 : decode cX11_withWays 17 = .ok (.istore 5, 2) := by decide +kernel
theorem dX11_withWays_19 : decode cX11_withWays 19 = .ok (.iload 5, 2) := by decide +kernel
theorem dX11_withWays_21 : decode cX11_withWays 21 = .ok (.iconst 1, 1) := by decide +kernel
theorem dX11_withWays_22 : decode cX11_withWays 22 = .ok (.if_icmp .gt 26, 3) := by decide +kernel
theorem dX11_withWays_25 : decode cX11_withWays 25 = .ok (.ldc2_w 371, 3) := by decide +kernel
theorem dX11_withWays_28 : decode cX11_withWays 28 = .ok (.lload_n 3, 1) := by decide +kernel
theorem dX11_withWays_29 : decode cX11_withWays 29 = .ok (.lmul, 1) := by decide +kernel
theorem dX11_withWays_30 : decode cX11_withWays 30 = .ok (.aload_n 0, 1) := by decide +kernel
theorem dX11_withWays_31 : decode cX11_withWays 31 = .ok (.iconst 0, 1) := by decide +kernel
theorem dX11_withWays_32 : decode cX11_withWays 32 = .ok (.bipush 9, 2) := by decide +kernel
theorem dX11_withWays_34 : decode cX11_withWays 34 = .ok (.iload 5, 2) := by decide +kernel
theorem dX11_withWays_36 : decode cX11_withWays 36 = .ok (.invokevirtual 417, 3) := by decide +kernel
theorem dX11_withWays_39 : decode cX11_withWays 39 = .ok (.i2l, 1) := by decide +kernel
theorem dX11_withWays_40 : decode cX11_withWays 40 = .ok (.ladd, 1) := by decide +kernel
theorem dX11_withWays_41 : decode cX11_withWays 41 = .ok (.lstore_n 3, 1) := by decide +kernel
theorem dX11_withWays_42 : decode cX11_withWays 42 = .ok (.iinc 5 1, 3) := by decide +kernel
theorem dX11_withWays_45 : decode cX11_withWays 45 = .ok (.goto (-26), 3) := by decide +kernel
theorem dX11_withWays_48 : decode cX11_withWays 48 = .ok (.iconst (-1), 1) := by decide +kernel
theorem dX11_withWays_49 : decode cX11_withWays 49 = .ok (.istore 5, 2) := by decide +kernel
theorem dX11_withWays_51 : decode cX11_withWays 51 = .ok (.iload 5, 2) := by decide +kernel
theorem dX11_withWays_53 : decode cX11_withWays 53 = .ok (.iconst 5, 1) := by decide +kernel
theorem dX11_withWays_54 : decode cX11_withWays 54 = .ok (.if_icmp .ge 25, 3) := by decide +kernel
theorem dX11_withWays_57 : decode cX11_withWays 57 = .ok (.ldc2_w 371, 3) := by decide +kernel
theorem dX11_withWays_60 : decode cX11_withWays 60 = .ok (.lload_n 3, 1) := by decide +kernel
theorem dX11_withWays_61 : decode cX11_withWays 61 = .ok (.lmul, 1) := by decide +kernel
theorem dX11_withWays_62 : decode cX11_withWays 62 = .ok (.aload_n 0, 1) := by decide +kernel
theorem dX11_withWays_63 : decode cX11_withWays 63 = .ok (.bipush 31, 2) := by decide +kernel
theorem dX11_withWays_65 : decode cX11_withWays 65 = .ok (.iload 5, 2) := by decide +kernel
theorem dX11_withWays_67 : decode cX11_withWays 67 = .ok (.invokevirtual 421, 3) := by decide +kernel
theorem dX11_withWays_70 : decode cX11_withWays 70 = .ok (.i2l, 1) := by decide +kernel
theorem dX11_withWays_71 : decode cX11_withWays 71 = .ok (.ladd, 1) := by decide +kernel
theorem dX11_withWays_72 : decode cX11_withWays 72 = .ok (.lstore_n 3, 1) := by decide +kernel
theorem dX11_withWays_73 : decode cX11_withWays 73 = .ok (.iinc 5 1, 3) := by decide +kernel
theorem dX11_withWays_76 : decode cX11_withWays 76 = .ok (.goto (-25), 3) := by decide +kernel
theorem dX11_withWays_79 : decode cX11_withWays 79 = .ok (.ldc2_w 371, 3) := by decide +kernel
theorem dX11_withWays_82 : decode cX11_withWays 82 = .ok (.lload_n 3, 1) := by decide +kernel
theorem dX11_withWays_83 : decode cX11_withWays 83 = .ok (.lmul, 1) := by decide +kernel
theorem dX11_withWays_84 : decode cX11_withWays 84 = .ok (.aload_n 0, 1) := by decide +kernel
theorem dX11_withWays_85 : decode cX11_withWays 85 = .ok (.iconst 0, 1) := by decide +kernel
theorem dX11_withWays_86 : decode cX11_withWays 86 = .ok (.iconst 0, 1) := by decide +kernel
theorem dX11_withWays_87 : decode cX11_withWays 87 = .ok (.iconst 2, 1) := by decide +kernel
theorem dX11_withWays_88 : decode cX11_withWays 88 = .ok (.iconst 0, 1) := by decide +kernel
theorem dX11_withWays_89 : decode cX11_withWays 89 = .ok (.invokevirtual 424, 3) := by decide +kernel
theorem dX11_withWays_92 : decode cX11_withWays 92 = .ok (.ladd, 1) := by decide +kernel
theorem dX11_withWays_93 : decode cX11_withWays 93 = .ok (.lreturn, 1) := by decide +kernel
theorem dX11_withTearing_0 : decode cX11_withTearing 0 = .ok (.lload_n 1, 1) := by decide +kernel
theorem dX11_withTearing_1 : decode cX11_withTearing 1 = .ok (.lstore_n 3, 1) := by decide +kernel
theorem dX11_withTearing_2 : decode cX11_withTearing 2 = .ok (.iconst 0, 1) := by decide +kernel
theorem dX11_withTearing_3 : decode cX11_withTearing 3 = .ok (.istore 5, 2) := by decide +kernel
theorem dX11_withTearing_5 : decode cX11_withTearing 5 = .ok (.iload 5, 2) := by decide +kernel
theorem dX11_withTearing_7 : decode cX11_withTearing 7 = .ok (.iconst 3, 1) := by decide +kernel
theorem dX11_withTearing_8 : decode cX11_withTearing 8 = .ok (.if_icmp .gt 25, 3) := by decide +kernel
theorem dX11_withTearing_11 : decode cX11_withTearing 11 = .ok (.ldc2_w 371, 3) := by decide +kernel
theorem dX11_withTearing_14 : decode cX11_withTearing 14 = .ok (.lload_n 3, 1) := by decide +kernel
theorem dX11_withTearing_15 : decode cX11_withTearing 15 = .ok (.lmul, 1) := by decide +kernel
theorem dX11_withTearing_16 : decode cX11_withTearing 16 = .ok (.aload_n 0, 1) := by decide +kernel
theorem dX11_withTearing_17 : decode cX11_withTearing 17 = .ok (.bipush 7, 2) := by decide +kernel
theorem dX11_withTearing_19 : decode cX11_withTearing 19 = .ok (.iload 5, 2) := by decide +kernel
theorem dX11_withTearing_21 : decode cX11_withTearing 21 = .ok (.invokevirtual 428, 3) := by decide +kernel
theorem dX11_withTearing_24 : decode cX11_withTearing 24 = .ok (.i2l, 1) := by decide +kernel
theorem dX11_withTearing_25 : decode cX11_withTearing 25 = .ok (.ladd, 1) := by decide +kernel
theorem dX11_withTearing_26 : decode cX11_withTearing 26 = .ok (.lstore_n 3, 1) := by decide +kernel
theorem dX11_withTearing_27 : decode cX11_withTearing 27 = .ok (.iinc 5 1, 3) := by decide +kernel
theorem dX11_withTearing_30 : decode cX11_withTearing 30 = .ok (.goto (-25), 3) := by decide +kernel
theorem dX11_withTearing_33 : decode cX11_withTearing 33 = .ok (.ldc2_w 371, 3) := by decide +kernel
theorem dX11_withTearing_36 : decode cX11_withTearing 36 = .ok (.lload_n 3, 1) := by decide +kernel
theorem dX11_withTearing_37 : decode cX11_withTearing 37 = .ok (.lmul, 1) := by decide +kernel
theorem dX11_withTearing_38 : decode cX11_withTearing 38 = .ok (.aload_n 0, 1) := by decide +kernel
theorem dX11_withTearing_39 : decode cX11_withTearing 39 = .ok (.bipush 7, 2) := by decide +kernel
theorem dX11_withTearing_41 : decode cX11_withTearing 41 = .ok (.bipush 9, 2) := by decide +kernel
theorem dX11_withTearing_43 : decode cX11_withTearing 43 = .ok (.invokevirtual 431, 3) := by decide +kernel
theorem dX11_withTearing_46 : decode cX11_withTearing 46 = .ok (.i2l, 1) := by decide +kernel
theorem dX11_withTearing_47 : decode cX11_withTearing 47 = .ok (.ladd, 1) := by decide +kernel
theorem dX11_withTearing_48 : decode cX11_withTearing 48 = .ok (.lstore_n 3, 1) := by decide +kernel
theorem dX11_withTearing_49 : decode cX11_withTearing 49 = .ok (.ldc2_w 371, 3) := by decide +kernel
theorem dX11_withTearing_52 : decode cX11_withTearing 52 = .ok (.lload_n 3, 1) := by decide +kernel
theorem dX11_withTearing_53 : decode cX11_withTearing 53 = .ok (.lmul, 1) := by decide +kernel
theorem dX11_withTearing_54 : decode cX11_withTearing 54 = .ok (.aload_n 0, 1) := by decide +kernel
theorem dX11_withTearing_55 : decode cX11_withTearing 55 = .ok (.iconst 0, 1) := by decide +kernel
theorem dX11_withTearing_56 : decode cX11_withTearing 56 = .ok (.iconst 3, 1) := by decide +kernel
theorem dX11_withTearing_57 : decode cX11_withTearing 57 = .ok (.iconst 1, 1) := by decide +kernel
theorem dX11_withTearing_58 : decode cX11_withTearing 58 = .ok (.iconst 0, 1) := by decide +kernel
theorem dX11_withTearing_59 : decode cX11_withTearing 59 = .ok (.invokevirtual 434, 3) := by decide +kernel
theorem dX11_withTearing_62 : decode cX11_withTearing 62 = .ok (.ladd, 1) := by decide +kernel
theorem dX11_withTearing_63 : decode cX11_withTearing 63 = .ok (.lstore_n 3, 1) := by decide +kernel
theorem dX11_withTearing_64 : decode cX11_withTearing 64 = .ok (.ldc2_w 371, 3) := by decide +kernel
theorem dX11_withTearing_67 : decode cX11_withTearing 67 = .ok (.lload_n 3, 1) := by decide +kernel
theorem dX11_withTearing_68 : decode cX11_withTearing 68 = .ok (.lmul, 1) := by decide +kernel
theorem dX11_withTearing_69 : decode cX11_withTearing 69 = .ok (.aload_n 0, 1) := by decide +kernel
theorem dX11_withTearing_70 : decode cX11_withTearing 70 = .ok (.iconst 0, 1) := by decide +kernel
theorem dX11_withTearing_71 : decode cX11_withTearing 71 = .ok (.iconst 3, 1) := by decide +kernel
theorem dX11_withTearing_72 : decode cX11_withTearing 72 = .ok (.iconst 1, 1) := by decide +kernel
theorem dX11_withTearing_73 : decode cX11_withTearing 73 = .ok (.iconst 1, 1) := by decide +kernel
theorem dX11_withTearing_74 : decode cX11_withTearing 74 = .ok (.invokevirtual 434, 3) := by decide +kernel
theorem dX11_withTearing_77 : decode cX11_withTearing 77 = .ok (.ladd, 1) := by decide +kernel
theorem dX11_withTearing_78 : decode cX11_withTearing 78 = .ok (.lstore_n 3, 1) := by decide +kernel
theorem dX11_withTearing_79 : decode cX11_withTearing 79 = .ok (.ldc2_w 371, 3) := by decide +kernel
theorem dX11_withTearing_82 : decode cX11_withTearing 82 = .ok (.lload_n 3, 1) := by decide +kernel
theorem dX11_withTearing_83 : decode cX11_withTearing 83 = .ok (.lmul, 1) := by decide +kernel
theorem dX11_withTearing_84 : decode cX11_withTearing 84 = .ok (.aload_n 0, 1) := by decide +kernel
theorem dX11_withTearing_85 : decode cX11_withTearing 85 = .ok (.iconst 0, 1) := by decide +kernel
theorem dX11_withTearing_86 : decode cX11_withTearing 86 = .ok (.iconst 4, 1) := by decide +kernel
theorem dX11_withTearing_87 : decode cX11_withTearing 87 = .ok (.invokevirtual 437, 3) := by decide +kernel
theorem dX11_withTearing_90 : decode cX11_withTearing 90 = .ok (.i2l, 1) := by decide +kernel
theorem dX11_withTearing_91 : decode cX11_withTearing 91 = .ok (.ladd, 1) := by decide +kernel
theorem dX11_withTearing_92 : decode cX11_withTearing 92 = .ok (.lreturn, 1) := by decide +kernel
theorem dX11_withSeeking_0 : decode cX11_withSeeking 0 = .ok (.lload_n 1, 1) := by decide +kernel
theorem dX11_withSeeking_1 : decode cX11_withSeeking 1 = .ok (.lstore_n 3, 1) := by decide +kernel
theorem dX11_withSeeking_2 : decode cX11_withSeeking 2 = .ok (.iconst 0, 1) := by decide +kernel
theorem dX11_withSeeking_3 : decode cX11_withSeeking 3 = .ok (.istore 5, 2) := by decide +kernel
theorem dX11_withSeeking_5 : decode cX11_withSeeking 5 = .ok (.iload 5, 2) := by decide +kernel
theorem dX11_withSeeking_7 : decode cX11_withSeeking 7 = .ok (.iconst 2, 1) := by decide +kernel
theorem dX11_withSeeking_8 : decode cX11_withSeeking 8 = .ok (.if_icmp .gt 24, 3) := by decide +kernel
theorem dX11_withSeeking_11 : decode cX11_withSeeking 11 = .ok (.ldc2_w 371, 3) := by decide +kernel
theorem dX11_withSeeking_14 : decode cX11_withSeeking 14 = .ok (.lload_n 3, 1) := by decide +kernel
theorem dX11_withSeeking_15 : decode cX11_withSeeking 15 = .ok (.lmul, 1) := by decide +kernel
theorem dX11_withSeeking_16 : decode cX11_withSeeking 16 = .ok (.aload_n 0, 1) := by decide +kernel
theorem dX11_withSeeking_17 : decode cX11_withSeeking 17 = .ok (.iconst 0, 1) := by decide +kernel
theorem dX11_withSeeking_18 : decode cX11_withSeeking 18 = .ok (.iconst 1, 1) := by decide +kernel
theorem dX11_withSeeking_19 : decode cX11_withSeeking 19 = .ok (.iload 5, 2) := by decide +kernel
theorem dX11_withSeeking_21 : decode cX11_withSeeking 21 = .ok (.invokevirtual 440, 3) := by decide +kernel
theorem dX11_withSeeking_24 : decode cX11_withSeeking 24 = .ok (.ladd, 1) := by decide +kernel
theorem dX11_withSeeking_25 : decode cX11_withSeeking 25 = .ok (.lstore_n 3, 1) := by decide +kernel
theorem dX11_withSeeking_26 : decode cX11_withSeeking 26 = .ok (.iinc 5 1, 3) := by decide +kernel
theorem dX11_withSeeking_29 : decode cX11_withSeeking 29 = .ok (.goto (-24), 3) := by decide +kernel
theorem dX11_withSeeking_32 : decode cX11_withSeeking 32 = .ok (.ldc2_w 371, 3) := by decide +kernel
theorem dX11_withSeeking_35 : decode cX11_withSeeking 35 = .ok (.lload_n 3, 1) := by decide +kernel
theorem dX11_withSeeking_36 : decode cX11_withSeeking 36 = .ok (.lmul, 1) := by decide +kernel
theorem dX11_withSeeking_37 : decode cX11_withSeeking 37 = .ok (.aload_n 0, 1) := by decide +kernel
theorem dX11_withSeeking_38 : decode cX11_withSeeking 38 = .ok (.bipush 7, 2) := by decide +kernel
theorem dX11_withSeeking_40 : decode cX11_withSeeking 40 = .ok (.iconst 0, 1) := by decide +kernel
theorem dX11_withSeeking_41 : decode cX11_withSeeking 41 = .ok (.invokevirtual 444, 3) := by decide +kernel
theorem dX11_withSeeking_44 : decode cX11_withSeeking 44 = .ok (.i2l, 1) := by decide +kernel
theorem dX11_withSeeking_45 : decode cX11_withSeeking 45 = .ok (.ladd, 1) := by decide +kernel
theorem dX11_withSeeking_46 : decode cX11_withSeeking 46 = .ok (.lstore_n 3, 1) := by decide +kernel
theorem dX11_withSeeking_47 : decode cX11_withSeeking 47 = .ok (.ldc2_w 371, 3) := by decide +kernel
theorem dX11_withSeeking_50 : decode cX11_withSeeking 50 = .ok (.lload_n 3, 1) := by decide +kernel
theorem dX11_withSeeking_51 : decode cX11_withSeeking 51 = .ok (.lmul, 1) := by decide +kernel
theorem dX11_withSeeking_52 : decode cX11_withSeeking 52 = .ok (.aload_n 0, 1) := by decide +kernel
theorem dX11_withSeeking_53 : decode cX11_withSeeking 53 = .ok (.bipush 7, 2) := by decide +kernel
theorem dX11_withSeeking_55 : decode cX11_withSeeking 55 = .ok (.iconst 1, 1) := by decide +kernel
theorem dX11_withSeeking_56 : decode cX11_withSeeking 56 = .ok (.invokevirtual 444, 3) := by decide +kernel
theorem dX11_withSeeking_59 : decode cX11_withSeeking 59 = .ok (.i2l, 1) := by decide +kernel
theorem dX11_withSeeking_60 : decode cX11_withSeeking 60 = .ok (.ladd, 1) := by decide +kernel
theorem dX11_withSeeking_61 : decode cX11_withSeeking 61 = .ok (.lstore_n 3, 1) := by decide +kernel
theorem dX11_withSeeking_62 : decode cX11_withSeeking 62 = .ok (.ldc2_w 371, 3) := by decide +kernel
theorem dX11_withSeeking_65 : decode cX11_withSeeking 65 = .ok (.lload_n 3, 1) := by decide +kernel
theorem dX11_withSeeking_66 : decode cX11_withSeeking 66 = .ok (.lmul, 1) := by decide +kernel
theorem dX11_withSeeking_67 : decode cX11_withSeeking 67 = .ok (.aload_n 0, 1) := by decide +kernel
theorem dX11_withSeeking_68 : decode cX11_withSeeking 68 = .ok (.bipush 60, 2) := by decide +kernel
theorem dX11_withSeeking_70 : decode cX11_withSeeking 70 = .ok (.iconst 3, 1) := by decide +kernel
theorem dX11_withSeeking_71 : decode cX11_withSeeking 71 = .ok (.iconst 2, 1) := by decide +kernel
theorem dX11_withSeeking_72 : decode cX11_withSeeking 72 = .ok (.invokevirtual 447, 3) := by decide +kernel
theorem dX11_withSeeking_75 : decode cX11_withSeeking 75 = .ok (.i2l, 1) := by decide +kernel
theorem dX11_withSeeking_76 : decode cX11_withSeeking 76 = .ok (.ladd, 1) := by decide +kernel
theorem dX11_withSeeking_77 : decode cX11_withSeeking 77 = .ok (.lreturn, 1) := by decide +kernel
theorem dX11_textOf_0 : decode cX11_textOf 0 = .ok (.iload_n 1, 1) := by decide +kernel
theorem dX11_textOf_1 : decode cX11_textOf 1 = .ok (.tableswitch 42 0 2 #[27, 32, 37], 27) := by decide +kernel
theorem dX11_textOf_28 : decode cX11_textOf 28 = .ok (.aload_n 0, 1) := by decide +kernel
theorem dX11_textOf_29 : decode cX11_textOf 29 = .ok (.getfield 14, 3) := by decide +kernel
theorem dX11_textOf_32 : decode cX11_textOf 32 = .ok (.areturn, 1) := by decide +kernel
theorem dX11_textOf_33 : decode cX11_textOf 33 = .ok (.aload_n 0, 1) := by decide +kernel
theorem dX11_textOf_34 : decode cX11_textOf 34 = .ok (.getfield 18, 3) := by decide +kernel
theorem dX11_textOf_37 : decode cX11_textOf 37 = .ok (.areturn, 1) := by decide +kernel
theorem dX11_textOf_38 : decode cX11_textOf 38 = .ok (.aload_n 0, 1) := by decide +kernel
theorem dX11_textOf_39 : decode cX11_textOf 39 = .ok (.getfield 21, 3) := by decide +kernel
theorem dX11_textOf_42 : decode cX11_textOf 42 = .ok (.areturn, 1) := by decide +kernel
theorem dX11_textOf_43 : decode cX11_textOf 43 = .ok (.aconst_null, 1) := by decide +kernel
theorem dX11_textOf_44 : decode cX11_textOf 44 = .ok (.areturn, 1) := by decide +kernel
theorem dX11_reread_0 : decode cX11_reread 0 = .ok (.iload_n 1, 1) := by decide +kernel
theorem dX11_reread_1 : decode cX11_reread 1 = .ok (.ifCond .ne 35, 3) := by decide +kernel
theorem dX11_reread_4 : decode cX11_reread 4 = .ok (.aload_n 0, 1) := by decide +kernel
theorem dX11_reread_5 : decode cX11_reread 5 = .ok (.getfield 14, 3) := by decide +kernel
theorem dX11_reread_8 : decode cX11_reread 8 = .ok (.aload_n 0, 1) := by decide +kernel
theorem dX11_reread_9 : decode cX11_reread 9 = .ok (.getfield 27, 3) := by decide +kernel
theorem dX11_reread_12 : decode cX11_reread 12 = .ok (.aload_n 0, 1) := by decide +kernel
theorem dX11_reread_13 : decode cX11_reread 13 = .ok (.getfield 14, 3) := by decide +kernel
theorem dX11_reread_16 : decode cX11_reread 16 = .ok (.invokevirtual 450, 3) := by decide +kernel
theorem dX11_reread_19 : decode cX11_reread 19 = .ok (.putfield 120, 3) := by decide +kernel
theorem dX11_reread_22 : decode cX11_reread 22 = .ok (.aload_n 0, 1) := by decide +kernel
theorem dX11_reread_23 : decode cX11_reread 23 = .ok (.getfield 57, 3) := by decide +kernel
theorem dX11_reread_26 : decode cX11_reread 26 = .ok (.aload_n 0, 1) := by decide +kernel
theorem dX11_reread_27 : decode cX11_reread 27 = .ok (.getfield 27, 3) := by decide +kernel
theorem dX11_reread_30 : decode cX11_reread 30 = .ok (.invokevirtual 126, 3) := by decide +kernel
theorem dX11_reread_33 : decode cX11_reread 33 = .ok (.goto 58, 3) := by decide +kernel
theorem dX11_reread_36 : decode cX11_reread 36 = .ok (.iload_n 1, 1) := by decide +kernel
theorem dX11_reread_37 : decode cX11_reread 37 = .ok (.iconst 1, 1) := by decide +kernel
theorem dX11_reread_38 : decode cX11_reread 38 = .ok (.if_icmp .ne 24, 3) := by decide +kernel
theorem dX11_reread_41 : decode cX11_reread 41 = .ok (.aload_n 0, 1) := by decide +kernel
theorem dX11_reread_42 : decode cX11_reread 42 = .ok (.getfield 18, 3) := by decide +kernel
theorem dX11_reread_45 : decode cX11_reread 45 = .ok (.aload_n 0, 1) := by decide +kernel
theorem dX11_reread_46 : decode cX11_reread 46 = .ok (.getfield 50, 3) := by decide +kernel
theorem dX11_reread_49 : decode cX11_reread 49 = .ok (.aload_n 0, 1) := by decide +kernel
theorem dX11_reread_50 : decode cX11_reread 50 = .ok (.getfield 18, 3) := by decide +kernel
theorem dX11_reread_53 : decode cX11_reread 53 = .ok (.invokevirtual 454, 3) := by decide +kernel
theorem dX11_reread_56 : decode cX11_reread 56 = .ok (.putfield 120, 3) := by decide +kernel
theorem dX11_reread_59 : decode cX11_reread 59 = .ok (.goto 32, 3) := by decide +kernel
theorem dX11_reread_62 : decode cX11_reread 62 = .ok (.aload_n 0, 1) := by decide +kernel
theorem dX11_reread_63 : decode cX11_reread 63 = .ok (.getfield 21, 3) := by decide +kernel
theorem dX11_reread_66 : decode cX11_reread 66 = .ok (.aload_n 0, 1) := by decide +kernel
theorem dX11_reread_67 : decode cX11_reread 67 = .ok (.getfield 57, 3) := by decide +kernel
theorem dX11_reread_70 : decode cX11_reread 70 = .ok (.aload_n 0, 1) := by decide +kernel
theorem dX11_reread_71 : decode cX11_reread 71 = .ok (.getfield 21, 3) := by decide +kernel
theorem dX11_reread_74 : decode cX11_reread 74 = .ok (.invokevirtual 455, 3) := by decide +kernel
theorem dX11_reread_77 : decode cX11_reread 77 = .ok (.putfield 120, 3) := by decide +kernel
theorem dX11_reread_80 : decode cX11_reread 80 = .ok (.aload_n 0, 1) := by decide +kernel
theorem dX11_reread_81 : decode cX11_reread 81 = .ok (.getfield 57, 3) := by decide +kernel
theorem dX11_reread_84 : decode cX11_reread 84 = .ok (.aload_n 0, 1) := by decide +kernel
theorem dX11_reread_85 : decode cX11_reread 85 = .ok (.getfield 27, 3) := by decide +kernel
theorem dX11_reread_88 : decode cX11_reread 88 = .ok (.invokevirtual 126, 3) := by decide +kernel
theorem dX11_reread_91 : decode cX11_reread 91 = .ok (.return_, 1) := by decide +kernel
theorem dX11_sheetOf_0 : decode cX11_sheetOf 0 = .ok (.iload_n 1, 1) := by decide +kernel
theorem dX11_sheetOf_1 : decode cX11_sheetOf 1 = .ok (.ifCond .lt 17, 3) := by decide +kernel
theorem dX11_sheetOf_4 : decode cX11_sheetOf 4 = .ok (.iload_n 1, 1) := by decide +kernel
theorem dX11_sheetOf_5 : decode cX11_sheetOf 5 = .ok (.iconst 4, 1) := by decide +kernel
theorem dX11_sheetOf_6 : decode cX11_sheetOf 6 = .ok (.if_icmp .ge 12, 3) := by decide +kernel
theorem dX11_sheetOf_9 : decode cX11_sheetOf 9 = .ok (.aload_n 0, 1) := by decide +kernel
theorem dX11_sheetOf_10 : decode cX11_sheetOf 10 = .ok (.getfield 93, 3) := by decide +kernel
theorem dX11_sheetOf_13 : decode cX11_sheetOf 13 = .ok (.iload_n 1, 1) := by decide +kernel
theorem dX11_sheetOf_14 : decode cX11_sheetOf 14 = .ok (.aaload, 1) := by decide +kernel
theorem dX11_sheetOf_15 : decode cX11_sheetOf 15 = .ok (.goto 4, 3) := by decide +kernel
theorem dX11_sheetOf_18 : decode cX11_sheetOf 18 = .ok (.aconst_null, 1) := by decide +kernel
theorem dX11_sheetOf_19 : decode cX11_sheetOf 19 = .ok (.areturn, 1) := by decide +kernel
theorem dX11_found_0 : decode cX11_found 0 = .ok (.aload_n 0, 1) := by decide +kernel
theorem dX11_found_1 : decode cX11_found 1 = .ok (.iload_n 1, 1) := by decide +kernel
theorem dX11_found_2 : decode cX11_found 2 = .ok (.putfield 348, 3) := by decide +kernel
theorem dX11_found_5 : decode cX11_found 5 = .ok (.bipush (-10), 2) := by decide +kernel
theorem dX11_found_7 : decode cX11_found 7 = .ok (.iload_n 1, 1) := by decide +kernel
theorem dX11_found_8 : decode cX11_found 8 = .ok (.isub, 1) := by decide +kernel
theorem dX11_found_9 : decode cX11_found 9 = .ok (.ireturn, 1) := by decide +kernel
theorem dX11_densityOfStep_0 : decode cX11_densityOfStep 0 = .ok (.aload_n 0, 1) := by decide +kernel
theorem dX11_densityOfStep_1 : decode cX11_densityOfStep 1 = .ok (.getfield 27, 3) := by decide +kernel
theorem dX11_densityOfStep_4 : decode cX11_densityOfStep 4 = .ok (.aload_n 0, 1) := by decide +kernel
theorem dX11_densityOfStep_5 : decode cX11_densityOfStep 5 = .ok (.getfield 57, 3) := by decide +kernel
theorem dX11_densityOfStep_8 : decode cX11_densityOfStep 8 = .ok (.iload_n 1, 1) := by decide +kernel
theorem dX11_densityOfStep_9 : decode cX11_densityOfStep 9 = .ok (.iconst 1, 1) := by decide +kernel
theorem dX11_densityOfStep_10 : decode cX11_densityOfStep 10 = .ok (.iadd, 1) := by decide +kernel
theorem dX11_densityOfStep_11 : decode cX11_densityOfStep 11 = .ok (.invokevirtual 186, 3) := by decide +kernel
theorem dX11_densityOfStep_14 : decode cX11_densityOfStep 14 = .ok (.invokevirtual 179, 3) := by decide +kernel
theorem dX11_densityOfStep_17 : decode cX11_densityOfStep 17 = .ok (.ireturn, 1) := by decide +kernel
theorem dX11_goThroughFair_0 : decode cX11_goThroughFair 0 = .ok (.aload_n 0, 1) := by decide +kernel
theorem dX11_goThroughFair_1 : decode cX11_goThroughFair 1 = .ok (.getfield 64, 3) := by decide +kernel
theorem dX11_goThroughFair_4 : decode cX11_goThroughFair 4 = .ok (.invokevirtual 456, 3) := by decide +kernel
theorem dX11_goThroughFair_7 : decode cX11_goThroughFair 7 = .ok (.iconst 0, 1) := by decide +kernel
theorem dX11_goThroughFair_8 : decode cX11_goThroughFair 8 = .ok (.istore_n 1, 1) := by decide +kernel
theorem dX11_goThroughFair_9 : decode cX11_goThroughFair 9 = .ok (.iload_n 1, 1) := by decide +kernel
theorem dX11_goThroughFair_10 : decode cX11_goThroughFair 10 = .ok (.aload_n 0, 1) := by decide +kernel
theorem dX11_goThroughFair_11 : decode cX11_goThroughFair 11 = .ok (.getfield 57, 3) := by decide +kernel
theorem dX11_goThroughFair_14 : decode cX11_goThroughFair 14 = .ok (.getfield 182, 3) := by decide +kernel
theorem dX11_goThroughFair_17 : decode cX11_goThroughFair 17 = .ok (.if_icmp .ge 26, 3) := by decide +kernel
theorem dX11_goThroughFair_20 : decode cX11_goThroughFair 20 = .ok (.aload_n 0, 1) := by decide +kernel
theorem dX11_goThroughFair_21 : decode cX11_goThroughFair 21 = .ok (.getfield 64, 3) := by decide +kernel
theorem dX11_goThroughFair_24 : decode cX11_goThroughFair 24 = .ok (.iload_n 1, 1) := by decide +kernel
theorem dX11_goThroughFair_25 : decode cX11_goThroughFair 25 = .ok (.aload_n 0, 1) := by decide +kernel
theorem dX11_goThroughFair_26 : decode cX11_goThroughFair 26 = .ok (.iload_n 1, 1) := by decide +kernel
theorem dX11_goThroughFair_27 : decode cX11_goThroughFair 27 = .ok (.invokevirtual 214, 3) := by decide +kernel
theorem dX11_goThroughFair_30 : decode cX11_goThroughFair 30 = .ok (.aload_n 0, 1) := by decide +kernel
theorem dX11_goThroughFair_31 : decode cX11_goThroughFair 31 = .ok (.getfield 50, 3) := by decide +kernel
theorem dX11_goThroughFair_34 : decode cX11_goThroughFair 34 = .ok (.invokevirtual 459, 3) := by decide +kernel
theorem dX11_goThroughFair_37 : decode cX11_goThroughFair 37 = .ok (.iinc 1 1, 3) := by decide +kernel
theorem dX11_goThroughFair_40 : decode cX11_goThroughFair 40 = .ok (.goto (-31), 3) := by decide +kernel
theorem dX11_goThroughFair_43 : decode cX11_goThroughFair 43 = .ok (.return_, 1) := by decide +kernel
theorem dX11_loseFrom_0 : decode cX11_loseFrom 0 = .ok (.aload_n 0, 1) := by decide +kernel
theorem dX11_loseFrom_1 : decode cX11_loseFrom 1 = .ok (.getfield 73, 3) := by decide +kernel
theorem dX11_loseFrom_4 : decode cX11_loseFrom 4 = .ok (.iload_n 1, 1) := by decide +kernel
theorem dX11_loseFrom_5 : decode cX11_loseFrom 5 = .ok (.invokevirtual 463, 3) := by decide +kernel
theorem dX11_loseFrom_8 : decode cX11_loseFrom 8 = .ok (.aload_n 0, 1) := by decide +kernel
theorem dX11_loseFrom_9 : decode cX11_loseFrom 9 = .ok (.getfield 132, 3) := by decide +kernel
theorem dX11_loseFrom_12 : decode cX11_loseFrom 12 = .ok (.iconst 2, 1) := by decide +kernel
theorem dX11_loseFrom_13 : decode cX11_loseFrom 13 = .ok (.if_icmp .ne 14, 3) := by decide +kernel
theorem dX11_loseFrom_16 : decode cX11_loseFrom 16 = .ok (.aload_n 0, 1) := by decide +kernel
theorem dX11_loseFrom_17 : decode cX11_loseFrom 17 = .ok (.getfield 36, 3) := by decide +kernel
theorem dX11_loseFrom_20 : decode cX11_loseFrom 20 = .ok (.aload_n 0, 1) := by decide +kernel
theorem dX11_loseFrom_21 : decode cX11_loseFrom 21 = .ok (.getfield 129, 3) := by decide +kernel
theorem dX11_loseFrom_24 : decode cX11_loseFrom 24 = .ok (.invokevirtual 189, 3) := by decide +kernel
theorem dX11_loseFrom_27 : decode cX11_loseFrom 27 = .ok (.iconst 0, 1) := by decide +kernel
theorem dX11_loseFrom_28 : decode cX11_loseFrom 28 = .ok (.istore_n 3, 1) := by decide +kernel
theorem dX11_loseFrom_29 : decode cX11_loseFrom 29 = .ok (.iload_n 3, 1) := by decide +kernel
theorem dX11_loseFrom_30 : decode cX11_loseFrom 30 = .ok (.iload_n 2, 1) := by decide +kernel
theorem dX11_loseFrom_31 : decode cX11_loseFrom 31 = .ok (.if_icmp .ge 41, 3) := by decide +kernel
theorem dX11_loseFrom_34 : decode cX11_loseFrom 34 = .ok (.aload_n 0, 1) := by decide +kernel
theorem dX11_loseFrom_35 : decode cX11_loseFrom 35 = .ok (.getfield 132, 3) := by decide +kernel
theorem dX11_loseFrom_38 : decode cX11_loseFrom 38 = .ok (.ifCond .eq 34, 3) := by decide +kernel
theorem dX11_loseFrom_41 : decode cX11_loseFrom 41 = .ok (.aload_n 0, 1) := by decide +kernel
theorem dX11_loseFrom_42 : decode cX11_loseFrom 42 = .ok (.getfield 132, 3) := by decide +kernel
theorem dX11_loseFrom_45 : decode cX11_loseFrom 45 = .ok (.iconst 1, 1) := by decide +kernel
theorem dX11_loseFrom_46 : decode cX11_loseFrom 46 = .ok (.if_icmp .ne 13, 3) := by decide +kernel
theorem dX11_loseFrom_49 : decode cX11_loseFrom 49 = .ok (.aload_n 0, 1) := by decide +kernel
theorem dX11_loseFrom_50 : decode cX11_loseFrom 50 = .ok (.getfield 73, 3) := by decide +kernel
theorem dX11_loseFrom_53 : decode cX11_loseFrom 53 = .ok (.invokevirtual 466, 3) := by decide +kernel
theorem dX11_loseFrom_56 : decode cX11_loseFrom 56 = .ok (.goto 10, 3) := by decide +kernel
theorem dX11_loseFrom_59 : decode cX11_loseFrom 59 = .ok (.aload_n 0, 1) := by decide +kernel
theorem dX11_loseFrom_60 : decode cX11_loseFrom 60 = .ok (.getfield 73, 3) := by decide +kernel
theorem dX11_loseFrom_63 : decode cX11_loseFrom 63 = .ok (.invokevirtual 469, 3) := by decide +kernel
theorem dX11_loseFrom_66 : decode cX11_loseFrom 66 = .ok (.iinc 3 1, 3) := by decide +kernel
theorem dX11_loseFrom_69 : decode cX11_loseFrom 69 = .ok (.goto (-40), 3) := by decide +kernel
theorem dX11_loseFrom_72 : decode cX11_loseFrom 72 = .ok (.return_, 1) := by decide +kernel
theorem dX11_canSeek_0 : decode cX11_canSeek 0 = .ok (.aload_n 0, 1) := by decide +kernel
theorem dX11_canSeek_1 : decode cX11_canSeek 1 = .ok (.getfield 80, 3) := by decide +kernel
theorem dX11_canSeek_4 : decode cX11_canSeek 4 = .ok (.getfield 297, 3) := by decide +kernel
theorem dX11_canSeek_7 : decode cX11_canSeek 7 = .ok (.ifCond .ne 5, 3) := by decide +kernel
theorem dX11_canSeek_10 : decode cX11_canSeek 10 = .ok (.iconst 0, 1) := by decide +kernel
theorem dX11_canSeek_11 : decode cX11_canSeek 11 = .ok (.ireturn, 1) := by decide +kernel
theorem dX11_canSeek_12 : decode cX11_canSeek 12 = .ok (.aload_n 0, 1) := by decide +kernel
theorem dX11_canSeek_13 : decode cX11_canSeek 13 = .ok (.getfield 87, 3) := by decide +kernel
theorem dX11_canSeek_16 : decode cX11_canSeek 16 = .ok (.aload_n 0, 1) := by decide +kernel
theorem dX11_canSeek_17 : decode cX11_canSeek 17 = .ok (.getfield 80, 3) := by decide +kernel
theorem dX11_canSeek_20 : decode cX11_canSeek 20 = .ok (.invokevirtual 472, 3) := by decide +kernel
theorem dX11_canSeek_23 : decode cX11_canSeek 23 = .ok (.iconst 0, 1) := by decide +kernel
theorem dX11_canSeek_24 : decode cX11_canSeek 24 = .ok (.istore_n 3, 1) := by decide +kernel
theorem dX11_canSeek_25 : decode cX11_canSeek 25 = .ok (.iload_n 3, 1) := by decide +kernel
theorem dX11_canSeek_26 : decode cX11_canSeek 26 = .ok (.aload_n 0, 1) := by decide +kernel
theorem dX11_canSeek_27 : decode cX11_canSeek 27 = .ok (.getfield 80, 3) := by decide +kernel
theorem dX11_canSeek_30 : decode cX11_canSeek 30 = .ok (.getfield 297, 3) := by decide +kernel
theorem dX11_canSeek_33 : decode cX11_canSeek 33 = .ok (.if_icmp .ge 23, 3) := by decide +kernel
theorem dX11_canSeek_36 : decode cX11_canSeek 36 = .ok (.aload_n 0, 1) := by decide +kernel
theorem dX11_canSeek_37 : decode cX11_canSeek 37 = .ok (.iload_n 3, 1) := by decide +kernel
theorem dX11_canSeek_38 : decode cX11_canSeek 38 = .ok (.aload_n 0, 1) := by decide +kernel
theorem dX11_canSeek_39 : decode cX11_canSeek 39 = .ok (.getfield 80, 3) := by decide +kernel
theorem dX11_canSeek_42 : decode cX11_canSeek 42 = .ok (.iload_n 3, 1) := by decide +kernel
theorem dX11_canSeek_43 : decode cX11_canSeek 43 = .ok (.invokevirtual 476, 3) := by decide +kernel
theorem dX11_canSeek_46 : decode cX11_canSeek 46 = .ok (.invokevirtual 479, 3) := by decide +kernel
theorem dX11_canSeek_49 : decode cX11_canSeek 49 = .ok (.pop, 1) := by decide +kernel
theorem dX11_canSeek_50 : decode cX11_canSeek 50 = .ok (.iinc 3 1, 3) := by decide +kernel
theorem dX11_canSeek_53 : decode cX11_canSeek 53 = .ok (.goto (-28), 3) := by decide +kernel
theorem dX11_canSeek_56 : decode cX11_canSeek 56 = .ok (.aload_n 0, 1) := by decide +kernel
theorem dX11_canSeek_57 : decode cX11_canSeek 57 = .ok (.iconst 5, 1) := by decide +kernel
theorem dX11_canSeek_58 : decode cX11_canSeek 58 = .ok (.aload_n 0, 1) := by decide +kernel
theorem dX11_canSeek_59 : decode cX11_canSeek 59 = .ok (.getfield 50, 3) := by decide +kernel
theorem dX11_canSeek_62 : decode cX11_canSeek 62 = .ok (.iload_n 1, 1) := by decide +kernel
theorem dX11_canSeek_63 : decode cX11_canSeek 63 = .ok (.invokevirtual 322, 3) := by decide +kernel
theorem dX11_canSeek_66 : decode cX11_canSeek 66 = .ok (.invokevirtual 479, 3) := by decide +kernel
theorem dX11_canSeek_69 : decode cX11_canSeek 69 = .ok (.ifCond .eq 24, 3) := by decide +kernel
theorem dX11_canSeek_72 : decode cX11_canSeek 72 = .ok (.aload_n 0, 1) := by decide +kernel
theorem dX11_canSeek_73 : decode cX11_canSeek 73 = .ok (.bipush 6, 2) := by decide +kernel
theorem dX11_canSeek_75 : decode cX11_canSeek 75 = .ok (.aload_n 0, 1) := by decide +kernel
theorem dX11_canSeek_76 : decode cX11_canSeek 76 = .ok (.getfield 50, 3) := by decide +kernel
theorem dX11_canSeek_79 : decode cX11_canSeek 79 = .ok (.iload_n 2, 1) := by decide +kernel
theorem dX11_canSeek_80 : decode cX11_canSeek 80 = .ok (.invokevirtual 322, 3) := by decide +kernel
theorem dX11_canSeek_83 : decode cX11_canSeek 83 = .ok (.invokevirtual 479, 3) := by decide +kernel
theorem dX11_canSeek_86 : decode cX11_canSeek 86 = .ok (.ifCond .eq 7, 3) := by decide +kernel
theorem dX11_canSeek_89 : decode cX11_canSeek 89 = .ok (.iconst 1, 1) := by decide +kernel
theorem dX11_canSeek_90 : decode cX11_canSeek 90 = .ok (.goto 4, 3) := by decide +kernel
theorem dX11_canSeek_93 : decode cX11_canSeek 93 = .ok (.iconst 0, 1) := by decide +kernel
theorem dX11_canSeek_94 : decode cX11_canSeek 94 = .ok (.ireturn, 1) := by decide +kernel
theorem dX11_layLegs_0 : decode cX11_layLegs 0 = .ok (.iconst 1, 1) := by decide +kernel
theorem dX11_layLegs_1 : decode cX11_layLegs 1 = .ok (.istore_n 3, 1) := by decide +kernel
theorem dX11_layLegs_2 : decode cX11_layLegs 2 = .ok (.aload_n 0, 1) := by decide +kernel
theorem dX11_layLegs_3 : decode cX11_layLegs 3 = .ok (.getfield 36, 3) := by decide +kernel
theorem dX11_layLegs_6 : decode cX11_layLegs 6 = .ok (.iload_n 2, 1) := by decide +kernel
theorem dX11_layLegs_7 : decode cX11_layLegs 7 = .ok (.invokevirtual 189, 3) := by decide +kernel
theorem dX11_layLegs_10 : decode cX11_layLegs 10 = .ok (.iconst 0, 1) := by decide +kernel
theorem dX11_layLegs_11 : decode cX11_layLegs 11 = .ok (.istore 4, 2) := by decide +kernel
theorem dX11_layLegs_13 : decode cX11_layLegs 13 = .ok (.iload 4, 2) := by decide +kernel
theorem dX11_layLegs_15 : decode cX11_layLegs 15 = .ok (.aload_n 0, 1) := by decide +kernel
theorem dX11_layLegs_16 : decode cX11_layLegs 16 = .ok (.getfield 80, 3) := by decide +kernel
theorem dX11_layLegs_19 : decode cX11_layLegs 19 = .ok (.getfield 297, 3) := by decide +kernel
theorem dX11_layLegs_22 : decode cX11_layLegs 22 = .ok (.if_icmp .ge 55, 3) := by decide +kernel
theorem dX11_layLegs_25 : decode cX11_layLegs 25 = .ok (.aload_n 0, 1) := by decide +kernel
theorem dX11_layLegs_26 : decode cX11_layLegs 26 = .ok (.getfield 36, 3) := by decide +kernel
theorem dX11_layLegs_29 : decode cX11_layLegs 29 = .ok (.aload_n 0, 1) := by decide +kernel
theorem dX11_layLegs_30 : decode cX11_layLegs 30 = .ok (.getfield 80, 3) := by decide +kernel
theorem dX11_layLegs_33 : decode cX11_layLegs 33 = .ok (.iload 4, 2) := by decide +kernel
theorem dX11_layLegs_35 : decode cX11_layLegs 35 = .ok (.invokevirtual 476, 3) := by decide +kernel
theorem dX11_layLegs_38 : decode cX11_layLegs 38 = .ok (.invokevirtual 192, 3) := by decide +kernel
theorem dX11_layLegs_41 : decode cX11_layLegs 41 = .ok (.istore 5, 2) := by decide +kernel
theorem dX11_layLegs_43 : decode cX11_layLegs 43 = .ok (.aload_n 0, 1) := by decide +kernel
theorem dX11_layLegs_44 : decode cX11_layLegs 44 = .ok (.getfield 87, 3) := by decide +kernel
theorem dX11_layLegs_47 : decode cX11_layLegs 47 = .ok (.iload_n 1, 1) := by decide +kernel
theorem dX11_layLegs_48 : decode cX11_layLegs 48 = .ok (.iload 4, 2) := by decide +kernel
theorem dX11_layLegs_50 : decode cX11_layLegs 50 = .ok (.iload 5, 2) := by decide +kernel
theorem dX11_layLegs_52 : decode cX11_layLegs 52 = .ok (.invokevirtual 482, 3) := by decide +kernel
theorem dX11_layLegs_55 : decode cX11_layLegs 55 = .ok (.iload_n 3, 1) := by decide +kernel
theorem dX11_layLegs_56 : decode cX11_layLegs 56 = .ok (.ifCond .eq 13, 3) := by decide +kernel
theorem dX11_layLegs_59 : decode cX11_layLegs 59 = .ok (.iload 5, 2) := by decide +kernel
theorem dX11_layLegs_61 : decode cX11_layLegs 61 = .ok (.iconst (-1), 1) := by decide +kernel
theorem dX11_layLegs_62 : decode cX11_layLegs 62 = .ok (.if_icmp .eq 7, 3) := by decide +kernel
theorem dX11_layLegs_65 : decode cX11_layLegs 65 = .ok (.iconst 1, 1) := by decide +kernel
theorem dX11_layLegs_66 : decode cX11_layLegs 66 = .ok (.goto 4, 3) := by decide +kernel
theorem dX11_layLegs_69 : decode cX11_layLegs 69 = .ok (.iconst 0, 1) := by decide +kernel
theorem dX11_layLegs_70 : decode cX11_layLegs 70 = .ok (.istore_n 3, 1) := by decide +kernel
theorem dX11_layLegs_71 : decode cX11_layLegs 71 = .ok (.iinc 4 1, 3) := by decide +kernel
theorem dX11_layLegs_74 : decode cX11_layLegs 74 = .ok (.goto (-61), 3) := by decide +kernel
theorem dX11_layLegs_77 : decode cX11_layLegs 77 = .ok (.iload_n 3, 1) := by decide +kernel
theorem dX11_layLegs_78 : decode cX11_layLegs 78 = .ok (.ireturn, 1) := by decide +kernel
theorem dX11_comeFrom_0 : decode cX11_comeFrom 0 = .ok (.aload_n 0, 1) := by decide +kernel
theorem dX11_comeFrom_1 : decode cX11_comeFrom 1 = .ok (.getfield 36, 3) := by decide +kernel
theorem dX11_comeFrom_4 : decode cX11_comeFrom 4 = .ok (.iload_n 1, 1) := by decide +kernel
theorem dX11_comeFrom_5 : decode cX11_comeFrom 5 = .ok (.invokevirtual 189, 3) := by decide +kernel
theorem dX11_comeFrom_8 : decode cX11_comeFrom 8 = .ok (.iconst 0, 1) := by decide +kernel
theorem dX11_comeFrom_9 : decode cX11_comeFrom 9 = .ok (.istore_n 2, 1) := by decide +kernel
theorem dX11_comeFrom_10 : decode cX11_comeFrom 10 = .ok (.iload_n 2, 1) := by decide +kernel
theorem dX11_comeFrom_11 : decode cX11_comeFrom 11 = .ok (.bipush 64, 2) := by decide +kernel
theorem dX11_comeFrom_13 : decode cX11_comeFrom 13 = .ok (.if_icmp .ge 65, 3) := by decide +kernel
theorem dX11_comeFrom_16 : decode cX11_comeFrom 16 = .ok (.aload_n 0, 1) := by decide +kernel
theorem dX11_comeFrom_17 : decode cX11_comeFrom 17 = .ok (.getfield 36, 3) := by decide +kernel
theorem dX11_comeFrom_20 : decode cX11_comeFrom 20 = .ok (.iload_n 2, 1) := by decide +kernel
theorem dX11_comeFrom_21 : decode cX11_comeFrom 21 = .ok (.invokevirtual 192, 3) := by decide +kernel
theorem dX11_comeFrom_24 : decode cX11_comeFrom 24 = .ok (.istore_n 3, 1) := by decide +kernel
theorem dX11_comeFrom_25 : decode cX11_comeFrom 25 = .ok (.iload_n 3, 1) := by decide +kernel
theorem dX11_comeFrom_26 : decode cX11_comeFrom 26 = .ok (.iconst (-1), 1) := by decide +kernel
theorem dX11_comeFrom_27 : decode cX11_comeFrom 27 = .ok (.if_icmp .eq 13, 3) := by decide +kernel
theorem dX11_comeFrom_30 : decode cX11_comeFrom 30 = .ok (.aload_n 0, 1) := by decide +kernel
theorem dX11_comeFrom_31 : decode cX11_comeFrom 31 = .ok (.getfield 98, 3) := by decide +kernel
theorem dX11_comeFrom_34 : decode cX11_comeFrom 34 = .ok (.iload_n 2, 1) := by decide +kernel
theorem dX11_comeFrom_35 : decode cX11_comeFrom 35 = .ok (.iaload, 1) := by decide +kernel
theorem dX11_comeFrom_36 : decode cX11_comeFrom 36 = .ok (.iconst (-1), 1) := by decide +kernel
theorem dX11_comeFrom_37 : decode cX11_comeFrom 37 = .ok (.if_icmp .ne 7, 3) := by decide +kernel
theorem dX11_comeFrom_40 : decode cX11_comeFrom 40 = .ok (.iconst 1, 1) := by decide +kernel
theorem dX11_comeFrom_41 : decode cX11_comeFrom 41 = .ok (.goto 4, 3) := by decide +kernel
theorem dX11_comeFrom_44 : decode cX11_comeFrom 44 = .ok (.iconst 0, 1) := by decide +kernel
theorem dX11_comeFrom_45 : decode cX11_comeFrom 45 = .ok (.istore 4, 2) := by decide +kernel
theorem dX11_comeFrom_47 : decode cX11_comeFrom 47 = .ok (.aload_n 0, 1) := by decide +kernel
theorem dX11_comeFrom_48 : decode cX11_comeFrom 48 = .ok (.getfield 98, 3) := by decide +kernel
theorem dX11_comeFrom_51 : decode cX11_comeFrom 51 = .ok (.iload_n 2, 1) := by decide +kernel
theorem dX11_comeFrom_52 : decode cX11_comeFrom 52 = .ok (.iload 4, 2) := by decide +kernel
theorem dX11_comeFrom_54 : decode cX11_comeFrom 54 = .ok (.ifCond .eq 7, 3) := by decide +kernel
theorem dX11_comeFrom_57 : decode cX11_comeFrom 57 = .ok (.iconst (-1), 1) := by decide +kernel
theorem dX11_comeFrom_58 : decode cX11_comeFrom 58 = .ok (.goto 13, 3) := by decide +kernel
theorem dX11_comeFrom_61 : decode cX11_comeFrom 61 = .ok (.aload_n 0, 1) := by decide +kernel
theorem dX11_comeFrom_62 : decode cX11_comeFrom 62 = .ok (.getfield 98, 3) := by decide +kernel
theorem dX11_comeFrom_65 : decode cX11_comeFrom 65 = .ok (.iload_n 2, 1) := by decide +kernel
theorem dX11_comeFrom_66 : decode cX11_comeFrom 66 = .ok (.iaload, 1) := by decide +kernel
theorem dX11_comeFrom_67 : decode cX11_comeFrom 67 = .ok (.iload_n 3, 1) := by decide +kernel
theorem dX11_comeFrom_68 : decode cX11_comeFrom 68 = .ok (.invokestatic 485, 3) := by decide +kernel
theorem dX11_comeFrom_71 : decode cX11_comeFrom 71 = .ok (.iastore, 1) := by decide +kernel
theorem dX11_comeFrom_72 : decode cX11_comeFrom 72 = .ok (.iinc 2 1, 3) := by decide +kernel
theorem dX11_comeFrom_75 : decode cX11_comeFrom 75 = .ok (.goto (-65), 3) := by decide +kernel
theorem dX11_comeFrom_78 : decode cX11_comeFrom 78 = .ok (.return_, 1) := by decide +kernel
theorem dX11_leastFar_0 : decode cX11_leastFar 0 = .ok (.iconst (-1), 1) := by decide +kernel
theorem dX11_leastFar_1 : decode cX11_leastFar 1 = .ok (.istore_n 1, 1) := by decide +kernel
theorem dX11_leastFar_2 : decode cX11_leastFar 2 = .ok (.iconst 0, 1) := by decide +kernel
theorem dX11_leastFar_3 : decode cX11_leastFar 3 = .ok (.istore_n 2, 1) := by decide +kernel
theorem dX11_leastFar_4 : decode cX11_leastFar 4 = .ok (.iload_n 2, 1) := by decide +kernel
theorem dX11_leastFar_5 : decode cX11_leastFar 5 = .ok (.bipush 64, 2) := by decide +kernel
theorem dX11_leastFar_7 : decode cX11_leastFar 7 = .ok (.if_icmp .ge 41, 3) := by decide +kernel
theorem dX11_leastFar_10 : decode cX11_leastFar 10 = .ok (.aload_n 0, 1) := by decide +kernel
theorem dX11_leastFar_11 : decode cX11_leastFar 11 = .ok (.getfield 98, 3) := by decide +kernel
theorem dX11_leastFar_14 : decode cX11_leastFar 14 = .ok (.iload_n 2, 1) := by decide +kernel
theorem dX11_leastFar_15 : decode cX11_leastFar 15 = .ok (.iaload, 1) := by decide +kernel
theorem dX11_leastFar_16 : decode cX11_leastFar 16 = .ok (.iconst (-1), 1) := by decide +kernel
theorem dX11_leastFar_17 : decode cX11_leastFar 17 = .ok (.if_icmp .eq 25, 3) := by decide +kernel
theorem dX11_leastFar_20 : decode cX11_leastFar 20 = .ok (.iload_n 1, 1) := by decide +kernel
theorem dX11_leastFar_21 : decode cX11_leastFar 21 = .ok (.iconst (-1), 1) := by decide +kernel
theorem dX11_leastFar_22 : decode cX11_leastFar 22 = .ok (.if_icmp .eq 18, 3) := by decide +kernel
theorem dX11_leastFar_25 : decode cX11_leastFar 25 = .ok (.aload_n 0, 1) := by decide +kernel
theorem dX11_leastFar_26 : decode cX11_leastFar 26 = .ok (.getfield 98, 3) := by decide +kernel
theorem dX11_leastFar_29 : decode cX11_leastFar 29 = .ok (.iload_n 2, 1) := by decide +kernel
theorem dX11_leastFar_30 : decode cX11_leastFar 30 = .ok (.iaload, 1) := by decide +kernel
theorem dX11_leastFar_31 : decode cX11_leastFar 31 = .ok (.aload_n 0, 1) := by decide +kernel
theorem dX11_leastFar_32 : decode cX11_leastFar 32 = .ok (.getfield 98, 3) := by decide +kernel
theorem dX11_leastFar_35 : decode cX11_leastFar 35 = .ok (.iload_n 1, 1) := by decide +kernel
theorem dX11_leastFar_36 : decode cX11_leastFar 36 = .ok (.iaload, 1) := by decide +kernel
theorem dX11_leastFar_37 : decode cX11_leastFar 37 = .ok (.if_icmp .ge 5, 3) := by decide +kernel
theorem dX11_leastFar_40 : decode cX11_leastFar 40 = .ok (.iload_n 2, 1) := by decide +kernel
theorem dX11_leastFar_41 : decode cX11_leastFar 41 = .ok (.istore_n 1, 1) := by decide +kernel
theorem dX11_leastFar_42 : decode cX11_leastFar 42 = .ok (.iinc 2 1, 3) := by decide +kernel
theorem dX11_leastFar_45 : decode cX11_leastFar 45 = .ok (.goto (-41), 3) := by decide +kernel
theorem dX11_leastFar_48 : decode cX11_leastFar 48 = .ok (.iload_n 1, 1) := by decide +kernel
theorem dX11_leastFar_49 : decode cX11_leastFar 49 = .ok (.ireturn, 1) := by decide +kernel
theorem dX11_isSixteenths_0 : decode cX11_isSixteenths 0 = .ok (.iload_n 0, 1) := by decide +kernel
theorem dX11_isSixteenths_1 : decode cX11_isSixteenths 1 = .ok (.ifCond .lt 13, 3) := by decide +kernel
theorem dX11_isSixteenths_4 : decode cX11_isSixteenths 4 = .ok (.iload_n 0, 1) := by decide +kernel
theorem dX11_isSixteenths_5 : decode cX11_isSixteenths 5 = .ok (.bipush 16, 2) := by decide +kernel
theorem dX11_isSixteenths_7 : decode cX11_isSixteenths 7 = .ok (.if_icmp .gt 7, 3) := by decide +kernel
theorem dX11_isSixteenths_10 : decode cX11_isSixteenths 10 = .ok (.iconst 1, 1) := by decide +kernel
theorem dX11_isSixteenths_11 : decode cX11_isSixteenths 11 = .ok (.goto 4, 3) := by decide +kernel
theorem dX11_isSixteenths_14 : decode cX11_isSixteenths 14 = .ok (.iconst 0, 1) := by decide +kernel
theorem dX11_isSixteenths_15 : decode cX11_isSixteenths 15 = .ok (.ireturn, 1) := by decide +kernel
theorem dX11_isPart_0 : decode cX11_isPart 0 = .ok (.iload_n 0, 1) := by decide +kernel
theorem dX11_isPart_1 : decode cX11_isPart 1 = .ok (.ifCond .eq 8, 3) := by decide +kernel
theorem dX11_isPart_4 : decode cX11_isPart 4 = .ok (.iload_n 0, 1) := by decide +kernel
theorem dX11_isPart_5 : decode cX11_isPart 5 = .ok (.iconst 1, 1) := by decide +kernel
theorem dX11_isPart_6 : decode cX11_isPart 6 = .ok (.if_icmp .ne 7, 3) := by decide +kernel
theorem dX11_isPart_9 : decode cX11_isPart 9 = .ok (.iconst 1, 1) := by decide +kernel
theorem dX11_isPart_10 : decode cX11_isPart 10 = .ok (.goto 4, 3) := by decide +kernel
theorem dX11_isPart_13 : decode cX11_isPart 13 = .ok (.iconst 0, 1) := by decide +kernel
theorem dX11_isPart_14 : decode cX11_isPart 14 = .ok (.ireturn, 1) := by decide +kernel
theorem dX11_areMinutes_0 : decode cX11_areMinutes 0 = .ok (.iload_n 0, 1) := by decide +kernel
theorem dX11_areMinutes_1 : decode cX11_areMinutes 1 = .ok (.ifCond .lt 12, 3) := by decide +kernel
theorem dX11_areMinutes_4 : decode cX11_areMinutes 4 = .ok (.iload_n 0, 1) := by decide +kernel
theorem dX11_areMinutes_5 : decode cX11_areMinutes 5 = .ok (.iconst 5, 1) := by decide +kernel
theorem dX11_areMinutes_6 : decode cX11_areMinutes 6 = .ok (.if_icmp .gt 7, 3) := by decide +kernel
theorem dX11_areMinutes_9 : decode cX11_areMinutes 9 = .ok (.iconst 1, 1) := by decide +kernel
theorem dX11_areMinutes_10 : decode cX11_areMinutes 10 = .ok (.goto 4, 3) := by decide +kernel
theorem dX11_areMinutes_13 : decode cX11_areMinutes 13 = .ok (.iconst 0, 1) := by decide +kernel
theorem dX11_areMinutes_14 : decode cX11_areMinutes 14 = .ok (.ireturn, 1) := by decide +kernel
theorem dX11_isForm_0 : decode cX11_isForm 0 = .ok (.iload_n 0, 1) := by decide +kernel
theorem dX11_isForm_1 : decode cX11_isForm 1 = .ok (.ifCond .lt 12, 3) := by decide +kernel
theorem dX11_isForm_4 : decode cX11_isForm 4 = .ok (.iload_n 0, 1) := by decide +kernel
theorem dX11_isForm_5 : decode cX11_isForm 5 = .ok (.iconst 3, 1) := by decide +kernel
theorem dX11_isForm_6 : decode cX11_isForm 6 = .ok (.if_icmp .ge 7, 3) := by decide +kernel
theorem dX11_isForm_9 : decode cX11_isForm 9 = .ok (.iconst 1, 1) := by decide +kernel
theorem dX11_isForm_10 : decode cX11_isForm 10 = .ok (.goto 4, 3) := by decide +kernel
theorem dX11_isForm_13 : decode cX11_isForm 13 = .ok (.iconst 0, 1) := by decide +kernel
theorem dX11_isForm_14 : decode cX11_isForm 14 = .ok (.ireturn, 1) := by decide +kernel
theorem dX11_refused_0 : decode cX11_refused 0 = .ok (.ldc2_w 490, 3) := by decide +kernel
theorem dX11_refused_3 : decode cX11_refused 3 = .ok (.iload_n 0, 1) := by decide +kernel
theorem dX11_refused_4 : decode cX11_refused 4 = .ok (.i2l, 1) := by decide +kernel
theorem dX11_refused_5 : decode cX11_refused 5 = .ok (.lsub, 1) := by decide +kernel
theorem dX11_refused_6 : decode cX11_refused 6 = .ok (.lreturn, 1) := by decide +kernel
theorem dX11_lowest_0 : decode cX11_lowest 0 = .ok (.lload_n 0, 1) := by decide +kernel
theorem dX11_lowest_1 : decode cX11_lowest 1 = .ok (.lstore 5, 2) := by decide +kernel
theorem dX11_lowest_3 : decode cX11_lowest 3 = .ok (.lload_n 2, 1) := by decide +kernel
theorem dX11_lowest_4 : decode cX11_lowest 4 = .ok (.lstore 7, 2) := by decide +kernel
theorem dX11_lowest_6 : decode cX11_lowest 6 = .ok (.iconst 0, 1) := by decide +kernel
theorem dX11_lowest_7 : decode cX11_lowest 7 = .ok (.istore 9, 2) := by decide +kernel
theorem dX11_lowest_9 : decode cX11_lowest 9 = .ok (.iload 9, 2) := by decide +kernel
theorem dX11_lowest_11 : decode cX11_lowest 11 = .ok (.sipush 128, 3) := by decide +kernel
theorem dX11_lowest_14 : decode cX11_lowest 14 = .ok (.if_icmp .ge 31, 3) := by decide +kernel
theorem dX11_lowest_17 : decode cX11_lowest 17 = .ok (.lload 7, 2) := by decide +kernel
theorem dX11_lowest_19 : decode cX11_lowest 19 = .ok (.lconst 0, 1) := by decide +kernel
theorem dX11_lowest_20 : decode cX11_lowest 20 = .ok (.lcmp, 1) := by decide +kernel
theorem dX11_lowest_21 : decode cX11_lowest 21 = .ok (.ifCond .eq 24, 3) := by decide +kernel
theorem dX11_lowest_24 : decode cX11_lowest 24 = .ok (.lload 5, 2) := by decide +kernel
theorem dX11_lowest_26 : decode cX11_lowest 26 = .ok (.lload 7, 2) := by decide +kernel
theorem dX11_lowest_28 : decode cX11_lowest 28 = .ok (.lrem, 1) := by decide +kernel
theorem dX11_lowest_29 : decode cX11_lowest 29 = .ok (.lstore 10, 2) := by decide +kernel
theorem dX11_lowest_31 : decode cX11_lowest 31 = .ok (.lload 7, 2) := by decide +kernel
theorem dX11_lowest_33 : decode cX11_lowest 33 = .ok (.lstore 5, 2) := by decide +kernel
theorem dX11_lowest_35 : decode cX11_lowest 35 = .ok (.lload 10, 2) := by decide +kernel
theorem dX11_lowest_37 : decode cX11_lowest 37 = .ok (.lstore 7, 2) := by decide +kernel
theorem dX11_lowest_39 : decode cX11_lowest 39 = .ok (.iinc 9 1, 3) := by decide +kernel
theorem dX11_lowest_42 : decode cX11_lowest 42 = .ok (.goto (-33), 3) := by decide +kernel
theorem dX11_lowest_45 : decode cX11_lowest 45 = .ok (.iload 4, 2) := by decide +kernel
theorem dX11_lowest_47 : decode cX11_lowest 47 = .ok (.ifCond .ne 7, 3) := by decide +kernel
theorem dX11_lowest_50 : decode cX11_lowest 50 = .ok (.lload_n 0, 1) := by decide +kernel
theorem dX11_lowest_51 : decode cX11_lowest 51 = .ok (.goto 4, 3) := by decide +kernel
theorem dX11_lowest_54 : decode cX11_lowest 54 = .ok (.lload_n 2, 1) := by decide +kernel
theorem dX11_lowest_55 : decode cX11_lowest 55 = .ok (.lstore 9, 2) := by decide +kernel
theorem dX11_lowest_57 : decode cX11_lowest 57 = .ok (.lload 5, 2) := by decide +kernel
theorem dX11_lowest_59 : decode cX11_lowest 59 = .ok (.lconst 0, 1) := by decide +kernel
theorem dX11_lowest_60 : decode cX11_lowest 60 = .ok (.lcmp, 1) := by decide +kernel
theorem dX11_lowest_61 : decode cX11_lowest 61 = .ok (.ifCond .ne 8, 3) := by decide +kernel
theorem dX11_lowest_64 : decode cX11_lowest 64 = .ok (.lload 9, 2) := by decide +kernel
theorem dX11_lowest_66 : decode cX11_lowest 66 = .ok (.goto 8, 3) := by decide +kernel
theorem dX11_lowest_69 : decode cX11_lowest 69 = .ok (.lload 9, 2) := by decide +kernel
theorem dX11_lowest_71 : decode cX11_lowest 71 = .ok (.lload 5, 2) := by decide +kernel
theorem dX11_lowest_73 : decode cX11_lowest 73 = .ok (.ldiv, 1) := by decide +kernel
theorem dX11_lowest_74 : decode cX11_lowest 74 = .ok (.lreturn, 1) := by decide +kernel
theorem dX12_init_0 : decode cX12_init 0 = .ok (.aload_n 0, 1) := by decide +kernel
theorem dX12_init_1 : decode cX12_init 1 = .ok (.invokespecial 1, 3) := by decide +kernel
theorem dX12_init_4 : decode cX12_init 4 = .ok (.aload_n 0, 1) := by decide +kernel
theorem dX12_init_5 : decode cX12_init 5 = .ok (.iconst 4, 1) := by decide +kernel
theorem dX12_init_6 : decode cX12_init 6 = .ok (.newarray .int, 2) := by decide +kernel
theorem dX12_init_8 : decode cX12_init 8 = .ok (.putfield 7, 3) := by decide +kernel
theorem dX12_init_11 : decode cX12_init 11 = .ok (.aload_n 0, 1) := by decide +kernel
theorem dX12_init_12 : decode cX12_init 12 = .ok (.iconst 4, 1) := by decide +kernel
theorem dX12_init_13 : decode cX12_init 13 = .ok (.newarray .int, 2) := by decide +kernel
theorem dX12_init_15 : decode cX12_init 15 = .ok (.putfield 13, 3) := by decide +kernel
theorem dX12_init_18 : decode cX12_init 18 = .ok (.aload_n 0, 1) := by decide +kernel
theorem dX12_init_19 : decode cX12_init 19 = .ok (.sipush 256, 3) := by decide +kernel
theorem dX12_init_22 : decode cX12_init 22 = .ok (.newarray .int, 2) := by decide +kernel
theorem dX12_init_24 : decode cX12_init 24 = .ok (.putfield 16, 3) := by decide +kernel
theorem dX12_init_27 : decode cX12_init 27 = .ok (.aload_n 0, 1) := by decide +kernel
theorem dX12_init_28 : decode cX12_init 28 = .ok (.bipush 64, 2) := by decide +kernel
theorem dX12_init_30 : decode cX12_init 30 = .ok (.newarray .int, 2) := by decide +kernel
theorem dX12_init_32 : decode cX12_init 32 = .ok (.putfield 19, 3) := by decide +kernel
theorem dX12_init_35 : decode cX12_init 35 = .ok (.aload_n 0, 1) := by decide +kernel
theorem dX12_init_36 : decode cX12_init 36 = .ok (.sipush 240, 3) := by decide +kernel
theorem dX12_init_39 : decode cX12_init 39 = .ok (.newarray .int, 2) := by decide +kernel
theorem dX12_init_41 : decode cX12_init 41 = .ok (.putfield 22, 3) := by decide +kernel
theorem dX12_init_44 : decode cX12_init 44 = .ok (.aload_n 0, 1) := by decide +kernel
theorem dX12_init_45 : decode cX12_init 45 = .ok (.iconst 3, 1) := by decide +kernel
theorem dX12_init_46 : decode cX12_init 46 = .ok (.newarray .int, 2) := by decide +kernel
theorem dX12_init_48 : decode cX12_init 48 = .ok (.putfield 25, 3) := by decide +kernel
theorem dX12_init_51 : decode cX12_init 51 = .ok (.aload_n 0, 1) := by decide +kernel
theorem dX12_init_52 : decode cX12_init 52 = .ok (.bipush 64, 2) := by decide +kernel
theorem dX12_init_54 : decode cX12_init 54 = .ok (.newarray .int, 2) := by decide +kernel
theorem dX12_init_56 : decode cX12_init 56 = .ok (.putfield 28, 3) := by decide +kernel
theorem dX12_init_59 : decode cX12_init 59 = .ok (.aload_n 0, 1) := by decide +kernel
theorem dX12_init_60 : decode cX12_init 60 = .ok (.iconst 5, 1) := by decide +kernel
theorem dX12_init_61 : decode cX12_init 61 = .ok (.newarray .int, 2) := by decide +kernel
theorem dX12_init_63 : decode cX12_init 63 = .ok (.putfield 31, 3) := by decide +kernel
theorem dX12_init_66 : decode cX12_init 66 = .ok (.aload_n 0, 1) := by decide +kernel
theorem dX12_init_67 : decode cX12_init 67 = .ok (.bipush 40, 2) := by decide +kernel
theorem dX12_init_69 : decode cX12_init 69 = .ok (.newarray .int, 2) := by decide +kernel
theorem dX12_init_71 : decode cX12_init 71 = .ok (.putfield 34, 3) := by decide +kernel
theorem dX12_init_74 : decode cX12_init 74 = .ok (.aload_n 0, 1) := by decide +kernel
theorem dX12_init_75 : decode cX12_init 75 = .ok (.iconst 3, 1) := by decide +kernel
theorem dX12_init_76 : decode cX12_init 76 = .ok (.newarray .int, 2) := by decide +kernel
theorem dX12_init_78 : decode cX12_init 78 = .ok (.putfield 37, 3) := by decide +kernel
theorem dX12_init_81 : decode cX12_init 81 = .ok (.aload_n 0, 1) := by decide +kernel
theorem dX12_init_82 : decode cX12_init 82 = .ok (.bipush 25, 2) := by decide +kernel
theorem dX12_init_84 : decode cX12_init 84 = .ok (.newarray .int, 2) := by decide +kernel
theorem dX12_init_86 : decode cX12_init 86 = .ok (.putfield 40, 3) := by decide +kernel
theorem dX12_init_89 : decode cX12_init 89 = .ok (.aload_n 0, 1) := by decide +kernel
theorem dX12_init_90 : decode cX12_init 90 = .ok (.iconst 5, 1) := by decide +kernel
theorem dX12_init_91 : decode cX12_init 91 = .ok (.newarray .int, 2) := by decide +kernel
theorem dX12_init_93 : decode cX12_init 93 = .ok (.putfield 43, 3) := by decide +kernel
theorem dX12_init_96 : decode cX12_init 96 = .ok (.aload_n 0, 1) := by decide +kernel
theorem dX12_init_97 : decode cX12_init 97 = .ok (.iconst 5, 1) := by decide +kernel
theorem dX12_init_98 : decode cX12_init 98 = .ok (.newarray .int, 2) := by decide +kernel
theorem dX12_init_100 : decode cX12_init 100 = .ok (.putfield 46, 3) := by decide +kernel
theorem dX12_init_103 : decode cX12_init 103 = .ok (.aload_n 0, 1) := by decide +kernel
theorem dX12_init_104 : decode cX12_init 104 = .ok (.bipush 41, 2) := by decide +kernel
theorem dX12_init_106 : decode cX12_init 106 = .ok (.newarray .int, 2) := by decide +kernel
theorem dX12_init_108 : decode cX12_init 108 = .ok (.putfield 49, 3) := by decide +kernel
theorem dX12_init_111 : decode cX12_init 111 = .ok (.aload_n 0, 1) := by decide +kernel
theorem dX12_init_112 : decode cX12_init 112 = .ok (.bipush 64, 2) := by decide +kernel
theorem dX12_init_114 : decode cX12_init 114 = .ok (.newarray .int, 2) := by decide +kernel
theorem dX12_init_116 : decode cX12_init 116 = .ok (.putfield 52, 3) := by decide +kernel
theorem dX12_init_119 : decode cX12_init 119 = .ok (.aload_n 0, 1) := by decide +kernel
theorem dX12_init_120 : decode cX12_init 120 = .ok (.iconst 5, 1) := by decide +kernel
theorem dX12_init_121 : decode cX12_init 121 = .ok (.newarray .int, 2) := by decide +kernel
theorem dX12_init_123 : decode cX12_init 123 = .ok (.putfield 55, 3) := by decide +kernel
theorem dX12_init_126 : decode cX12_init 126 = .ok (.aload_n 0, 1) := by decide +kernel
theorem dX12_init_127 : decode cX12_init 127 = .ok (.iconst 5, 1) := by decide +kernel
theorem dX12_init_128 : decode cX12_init 128 = .ok (.newarray .int, 2) := by decide +kernel
theorem dX12_init_130 : decode cX12_init 130 = .ok (.putfield 58, 3) := by decide +kernel
theorem dX12_init_133 : decode cX12_init 133 = .ok (.aload_n 0, 1) := by decide +kernel
theorem dX12_init_134 : decode cX12_init 134 = .ok (.bipush 64, 2) := by decide +kernel
theorem dX12_init_136 : decode cX12_init 136 = .ok (.newarray .long, 2) := by decide +kernel
theorem dX12_init_138 : decode cX12_init 138 = .ok (.putfield 61, 3) := by decide +kernel
theorem dX12_init_141 : decode cX12_init 141 = .ok (.aload_n 0, 1) := by decide +kernel
theorem dX12_init_142 : decode cX12_init 142 = .ok (.bipush 64, 2) := by decide +kernel
theorem dX12_init_144 : decode cX12_init 144 = .ok (.newarray .long, 2) := by decide +kernel
theorem dX12_init_146 : decode cX12_init 146 = .ok (.putfield 65, 3) := by decide +kernel
theorem dX12_init_149 : decode cX12_init 149 = .ok (.aload_n 0, 1) := by decide +kernel
theorem dX12_init_150 : decode cX12_init 150 = .ok (.bipush 10, 2) := by decide +kernel
theorem dX12_init_152 : decode cX12_init 152 = .ok (.newarray .int, 2) := by decide +kernel
theorem dX12_init_154 : decode cX12_init 154 = .ok (.putfield 68, 3) := by decide +kernel
theorem dX12_init_157 : decode cX12_init 157 = .ok (.aload_n 0, 1) := by decide +kernel
theorem dX12_init_158 : decode cX12_init 158 = .ok (.bipush 30, 2) := by decide +kernel
theorem dX12_init_160 : decode cX12_init 160 = .ok (.newarray .int, 2) := by decide +kernel
theorem dX12_init_162 : decode cX12_init 162 = .ok (.putfield 71, 3) := by decide +kernel
theorem dX12_init_165 : decode cX12_init 165 = .ok (.aload_n 0, 1) := by decide +kernel
theorem dX12_init_166 : decode cX12_init 166 = .ok (.bipush 6, 2) := by decide +kernel
theorem dX12_init_168 : decode cX12_init 168 = .ok (.newarray .int, 2) := by decide +kernel
theorem dX12_init_170 : decode cX12_init 170 = .ok (.putfield 74, 3) := by decide +kernel
theorem dX12_init_173 : decode cX12_init 173 = .ok (.aload_n 0, 1) := by decide +kernel
theorem dX12_init_174 : decode cX12_init 174 = .ok (.bipush 32, 2) := by decide +kernel
theorem dX12_init_176 : decode cX12_init 176 = .ok (.newarray .int, 2) := by decide +kernel
theorem dX12_init_178 : decode cX12_init 178 = .ok (.putfield 77, 3) := by decide +kernel
theorem dX12_init_181 : decode cX12_init 181 = .ok (.iconst 0, 1) := by decide +kernel
theorem dX12_init_182 : decode cX12_init 182 = .ok (.istore_n 1, 1) := by decide +kernel
theorem dX12_init_183 : decode cX12_init 183 = .ok (.iload_n 1, 1) := by decide +kernel
theorem dX12_init_184 : decode cX12_init 184 = .ok (.iconst 4, 1) := by decide +kernel
theorem dX12_init_185 : decode cX12_init 185 = .ok (.if_icmp .ge 16, 3) := by decide +kernel
theorem dX12_init_188 : decode cX12_init 188 = .ok (.aload_n 0, 1) := by decide +kernel
theorem dX12_init_189 : decode cX12_init 189 = .ok (.getfield 7, 3) := by decide +kernel
theorem dX12_init_192 : decode cX12_init 192 = .ok (.iload_n 1, 1) := by decide +kernel
theorem dX12_init_193 : decode cX12_init 193 = .ok (.iconst (-1), 1) := by decide +kernel
theorem dX12_init_194 : decode cX12_init 194 = .ok (.iastore, 1) := by decide +kernel
theorem dX12_init_195 : decode cX12_init 195 = .ok (.iinc 1 1, 3) := by decide +kernel
theorem dX12_init_198 : decode cX12_init 198 = .ok (.goto (-15), 3) := by decide +kernel
theorem dX12_init_201 : decode cX12_init 201 = .ok (.iconst 0, 1) := by decide +kernel
theorem dX12_init_202 : decode cX12_init 202 = .ok (.istore_n 1, 1) := by decide +kernel
theorem dX12_init_203 : decode cX12_init 203 = .ok (.iload_n 1, 1) := by decide +kernel
theorem dX12_init_204 : decode cX12_init 204 = .ok (.bipush 25, 2) := by decide +kernel
theorem dX12_init_206 : decode cX12_init 206 = .ok (.if_icmp .ge 17, 3) := by decide +kernel
theorem dX12_init_209 : decode cX12_init 209 = .ok (.aload_n 0, 1) := by decide +kernel
theorem dX12_init_210 : decode cX12_init 210 = .ok (.getfield 40, 3) := by decide +kernel
theorem dX12_init_213 : decode cX12_init 213 = .ok (.iload_n 1, 1) := by decide +kernel
theorem dX12_init_214 : decode cX12_init 214 = .ok (.bipush 8, 2) := by decide +kernel
theorem dX12_init_216 : decode cX12_init 216 = .ok (.iastore, 1) := by decide +kernel
theorem dX12_init_217 : decode cX12_init 217 = .ok (.iinc 1 1, 3) := by decide +kernel
theorem dX12_init_220 : decode cX12_init 220 = .ok (.goto (-17), 3) := by decide +kernel
theorem dX12_init_223 : decode cX12_init 223 = .ok (.iconst 0, 1) := by decide +kernel
theorem dX12_init_224 : decode cX12_init 224 = .ok (.istore_n 1, 1) := by decide +kernel
theorem dX12_init_225 : decode cX12_init 225 = .ok (.iload_n 1, 1) := by decide +kernel
theorem dX12_init_226 : decode cX12_init 226 = .ok (.iconst 5, 1) := by decide +kernel
theorem dX12_init_227 : decode cX12_init 227 = .ok (.if_icmp .ge 17, 3) := by decide +kernel
theorem dX12_init_230 : decode cX12_init 230 = .ok (.aload_n 0, 1) := by decide +kernel
theorem dX12_init_231 : decode cX12_init 231 = .ok (.getfield 43, 3) := by decide +kernel
theorem dX12_init_234 : decode cX12_init 234 = .ok (.iload_n 1, 1) := by decide +kernel
theorem dX12_init_235 : decode cX12_init 235 = .ok (.bipush 8, 2) := by decide +kernel
theorem dX12_init_237 : decode cX12_init 237 = .ok (.iastore, 1) := by decide +kernel
theorem dX12_init_238 : decode cX12_init 238 = .ok (.iinc 1 1, 3) := by decide +kernel
theorem dX12_init_241 : decode cX12_init 241 = .ok (.goto (-16), 3) := by decide +kernel
theorem dX12_init_244 : decode cX12_init 244 = .ok (.return_, 1) := by decide +kernel
theorem dX12_in_0 : decode cX12_in 0 = .ok (.lload_n 0, 1) := by decide +kernel
theorem dX12_in_1 : decode cX12_in 1 = .ok (.lload_n 2, 1) := by decide +kernel
theorem dX12_in_2 : decode cX12_in 2 = .ok (.lcmp, 1) := by decide +kernel
theorem dX12_in_3 : decode cX12_in 3 = .ok (.ifCond .lt 14, 3) := by decide +kernel
theorem dX12_in_6 : decode cX12_in 6 = .ok (.lload_n 0, 1) := by decide +kernel
theorem dX12_in_7 : decode cX12_in 7 = .ok (.lload 4, 2) := by decide +kernel
theorem dX12_in_9 : decode cX12_in 9 = .ok (.lcmp, 1) := by decide +kernel
theorem dX12_in_10 : decode cX12_in 10 = .ok (.ifCond .gt 7, 3) := by decide +kernel
theorem dX12_in_13 : decode cX12_in 13 = .ok (.iconst 1, 1) := by decide +kernel
theorem dX12_in_14 : decode cX12_in 14 = .ok (.goto 4, 3) := by decide +kernel
theorem dX12_in_17 : decode cX12_in 17 = .ok (.iconst 0, 1) := by decide +kernel
theorem dX12_in_18 : decode cX12_in 18 = .ok (.ireturn, 1) := by decide +kernel
theorem dX12_no_0 : decode cX12_no 0 = .ok (.ldc2_w 80, 3) := by decide +kernel
theorem dX12_no_3 : decode cX12_no 3 = .ok (.iload_n 0, 1) := by decide +kernel
theorem dX12_no_4 : decode cX12_no 4 = .ok (.i2l, 1) := by decide +kernel
theorem dX12_no_5 : decode cX12_no 5 = .ok (.lsub, 1) := by decide +kernel
theorem dX12_no_6 : decode cX12_no 6 = .ok (.lreturn, 1) := by decide +kernel
theorem dX12_isTwo_0 : decode cX12_isTwo 0 = .ok (.iload_n 0, 1) := by decide +kernel
theorem dX12_isTwo_1 : decode cX12_isTwo 1 = .ok (.i2l, 1) := by decide +kernel
theorem dX12_isTwo_2 : decode cX12_isTwo 2 = .ok (.lconst 0, 1) := by decide +kernel
theorem dX12_isTwo_3 : decode cX12_isTwo 3 = .ok (.lconst 1, 1) := by decide +kernel
theorem dX12_isTwo_4 : decode cX12_isTwo 4 = .ok (.invokestatic 82, 3) := by decide +kernel
theorem dX12_isTwo_7 : decode cX12_isTwo 7 = .ok (.ireturn, 1) := by decide +kernel
theorem dX12_isIn_0 : decode cX12_isIn 0 = .ok (.iload_n 0, 1) := by decide +kernel
theorem dX12_isIn_1 : decode cX12_isIn 1 = .ok (.iload_n 1, 1) := by decide +kernel
theorem dX12_isIn_2 : decode cX12_isIn 2 = .ok (.ishr, 1) := by decide +kernel
theorem dX12_isIn_3 : decode cX12_isIn 3 = .ok (.iconst 1, 1) := by decide +kernel
theorem dX12_isIn_4 : decode cX12_isIn 4 = .ok (.iand, 1) := by decide +kernel
theorem dX12_isIn_5 : decode cX12_isIn 5 = .ok (.iconst 1, 1) := by decide +kernel
theorem dX12_isIn_6 : decode cX12_isIn 6 = .ok (.if_icmp .ne 7, 3) := by decide +kernel
theorem dX12_isIn_9 : decode cX12_isIn 9 = .ok (.iconst 1, 1) := by decide +kernel
theorem dX12_isIn_10 : decode cX12_isIn 10 = .ok (.goto 4, 3) := by decide +kernel
theorem dX12_isIn_13 : decode cX12_isIn 13 = .ok (.iconst 0, 1) := by decide +kernel
theorem dX12_isIn_14 : decode cX12_isIn 14 = .ok (.ireturn, 1) := by decide +kernel
theorem dX12_ones_0 : decode cX12_ones 0 = .ok (.iconst 0, 1) := by decide +kernel
theorem dX12_ones_1 : decode cX12_ones 1 = .ok (.istore_n 1, 1) := by decide +kernel
theorem dX12_ones_2 : decode cX12_ones 2 = .ok (.iload_n 0, 1) := by decide +kernel
theorem dX12_ones_3 : decode cX12_ones 3 = .ok (.istore_n 2, 1) := by decide +kernel
theorem dX12_ones_4 : decode cX12_ones 4 = .ok (.iload_n 2, 1) := by decide +kernel
theorem dX12_ones_5 : decode cX12_ones 5 = .ok (.ifCond .eq 15, 3) := by decide +kernel
theorem dX12_ones_8 : decode cX12_ones 8 = .ok (.iinc 1 1, 3) := by decide +kernel
theorem dX12_ones_11 : decode cX12_ones 11 = .ok (.iload_n 2, 1) := by decide +kernel
theorem dX12_ones_12 : decode cX12_ones 12 = .ok (.iload_n 2, 1) := by decide +kernel
theorem dX12_ones_13 : decode cX12_ones 13 = .ok (.iconst 1, 1) := by decide +kernel
theorem dX12_ones_14 : decode cX12_ones 14 = .ok (.isub, 1) := by decide +kernel
theorem dX12_ones_15 : decode cX12_ones 15 = .ok (.iand, 1) := by decide +kernel
theorem dX12_ones_16 : decode cX12_ones 16 = .ok (.istore_n 2, 1) := by decide +kernel
theorem dX12_ones_17 : decode cX12_ones 17 = .ok (.goto (-13), 3) := by decide +kernel
theorem dX12_ones_20 : decode cX12_ones 20 = .ok (.iload_n 1, 1) := by decide +kernel
theorem dX12_ones_21 : decode cX12_ones 21 = .ok (.ireturn, 1) := by decide +kernel
theorem dX12_met_0 : decode cX12_met 0 = .ok (.aload_n 0, 1) := by decide +kernel
theorem dX12_met_1 : decode cX12_met 1 = .ok (.iload_n 1, 1) := by decide +kernel
theorem dX12_met_2 : decode cX12_met 2 = .ok (.putfield 86, 3) := by decide +kernel
theorem dX12_met_5 : decode cX12_met 5 = .ok (.bipush (-10), 2) := by decide +kernel
theorem dX12_met_7 : decode cX12_met 7 = .ok (.iload_n 1, 1) := by decide +kernel
theorem dX12_met_8 : decode cX12_met 8 = .ok (.isub, 1) := by decide +kernel
theorem dX12_met_9 : decode cX12_met 9 = .ok (.ireturn, 1) := by decide +kernel
theorem dX12_isSheet_0 : decode cX12_isSheet 0 = .ok (.iload_n 0, 1) := by decide +kernel
theorem dX12_isSheet_1 : decode cX12_isSheet 1 = .ok (.i2l, 1) := by decide +kernel
theorem dX12_isSheet_2 : decode cX12_isSheet 2 = .ok (.lconst 0, 1) := by decide +kernel
theorem dX12_isSheet_3 : decode cX12_isSheet 3 = .ok (.ldc2_w 90, 3) := by decide +kernel
theorem dX12_isSheet_6 : decode cX12_isSheet 6 = .ok (.invokestatic 82, 3) := by decide +kernel
theorem dX12_isSheet_9 : decode cX12_isSheet 9 = .ok (.ireturn, 1) := by decide +kernel
theorem dX12_sheet_0 : decode cX12_sheet 0 = .ok (.iload_n 1, 1) := by decide +kernel
theorem dX12_sheet_1 : decode cX12_sheet 1 = .ok (.invokestatic 92, 3) := by decide +kernel
theorem dX12_sheet_4 : decode cX12_sheet 4 = .ok (.ifCond .eq 21, 3) := by decide +kernel
theorem dX12_sheet_7 : decode cX12_sheet 7 = .ok (.iload_n 2, 1) := by decide +kernel
theorem dX12_sheet_8 : decode cX12_sheet 8 = .ok (.i2l, 1) := by decide +kernel
theorem dX12_sheet_9 : decode cX12_sheet 9 = .ok (.lconst 0, 1) := by decide +kernel
theorem dX12_sheet_10 : decode cX12_sheet 10 = .ok (.ldc2_w 96, 3) := by decide +kernel
theorem dX12_sheet_13 : decode cX12_sheet 13 = .ok (.invokestatic 82, 3) := by decide +kernel
theorem dX12_sheet_16 : decode cX12_sheet 16 = .ok (.ifCond .eq 9, 3) := by decide +kernel
theorem dX12_sheet_19 : decode cX12_sheet 19 = .ok (.iload_n 3, 1) := by decide +kernel
theorem dX12_sheet_20 : decode cX12_sheet 20 = .ok (.bipush 64, 2) := by decide +kernel
theorem dX12_sheet_22 : decode cX12_sheet 22 = .ok (.if_icmp .le 6, 3) := by decide +kernel
theorem dX12_sheet_25 : decode cX12_sheet 25 = .ok (.bipush (-2), 2) := by decide +kernel
theorem dX12_sheet_27 : decode cX12_sheet 27 = .ok (.ireturn, 1) := by decide +kernel
theorem dX12_sheet_28 : decode cX12_sheet 28 = .ok (.iload_n 3, 1) := by decide +kernel
theorem dX12_sheet_29 : decode cX12_sheet 29 = .ok (.ifCond .ge 9, 3) := by decide +kernel
theorem dX12_sheet_32 : decode cX12_sheet 32 = .ok (.aload_n 0, 1) := by decide +kernel
theorem dX12_sheet_33 : decode cX12_sheet 33 = .ok (.iconst 5, 1) := by decide +kernel
theorem dX12_sheet_34 : decode cX12_sheet 34 = .ok (.invokevirtual 98, 3) := by decide +kernel
theorem dX12_sheet_37 : decode cX12_sheet 37 = .ok (.ireturn, 1) := by decide +kernel
theorem dX12_sheet_38 : decode cX12_sheet 38 = .ok (.aload_n 0, 1) := by decide +kernel
theorem dX12_sheet_39 : decode cX12_sheet 39 = .ok (.getfield 7, 3) := by decide +kernel
theorem dX12_sheet_42 : decode cX12_sheet 42 = .ok (.iload_n 1, 1) := by decide +kernel
theorem dX12_sheet_43 : decode cX12_sheet 43 = .ok (.iload_n 2, 1) := by decide +kernel
theorem dX12_sheet_44 : decode cX12_sheet 44 = .ok (.iastore, 1) := by decide +kernel
theorem dX12_sheet_45 : decode cX12_sheet 45 = .ok (.aload_n 0, 1) := by decide +kernel
theorem dX12_sheet_46 : decode cX12_sheet 46 = .ok (.getfield 13, 3) := by decide +kernel
theorem dX12_sheet_49 : decode cX12_sheet 49 = .ok (.iload_n 1, 1) := by decide +kernel
theorem dX12_sheet_50 : decode cX12_sheet 50 = .ok (.iload_n 3, 1) := by decide +kernel
theorem dX12_sheet_51 : decode cX12_sheet 51 = .ok (.iastore, 1) := by decide +kernel
theorem dX12_sheet_52 : decode cX12_sheet 52 = .ok (.iconst 0, 1) := by decide +kernel
theorem dX12_sheet_53 : decode cX12_sheet 53 = .ok (.istore 4, 2) := by decide +kernel
theorem dX12_sheet_55 : decode cX12_sheet 55 = .ok (.iload 4, 2) := by decide +kernel
theorem dX12_sheet_57 : decode cX12_sheet 57 = .ok (.iload_n 3, 1) := by decide +kernel
theorem dX12_sheet_58 : decode cX12_sheet 58 = .ok (.if_icmp .ge 22, 3) := by decide +kernel
theorem dX12_sheet_61 : decode cX12_sheet 61 = .ok (.aload_n 0, 1) := by decide +kernel
theorem dX12_sheet_62 : decode cX12_sheet 62 = .ok (.getfield 16, 3) := by decide +kernel
theorem dX12_sheet_65 : decode cX12_sheet 65 = .ok (.bipush 64, 2) := by decide +kernel
theorem dX12_sheet_67 : decode cX12_sheet 67 = .ok (.iload_n 1, 1) := by decide +kernel
theorem dX12_sheet_68 : decode cX12_sheet 68 = .ok (.imul, 1) := by decide +kernel
theorem dX12_sheet_69 : decode cX12_sheet 69 = .ok (.iload 4, 2) := by decide +kernel
theorem dX12_sheet_71 : decode cX12_sheet 71 = .ok (.iadd, 1) := by decide +kernel
theorem dX12_sheet_72 : decode cX12_sheet 72 = .ok (.iconst 0, 1) := by decide +kernel
theorem dX12_sheet_73 : decode cX12_sheet 73 = .ok (.iastore, 1) := by decide +kernel
theorem dX12_sheet_74 : decode cX12_sheet 74 = .ok (.iinc 4 1, 3) := by decide +kernel
theorem dX12_sheet_77 : decode cX12_sheet 77 = .ok (.goto (-22), 3) := by decide +kernel
theorem dX12_sheet_80 : decode cX12_sheet 80 = .ok (.iload_n 3, 1) := by decide +kernel
theorem dX12_sheet_81 : decode cX12_sheet 81 = .ok (.ireturn, 1) := by decide +kernel
theorem dX12_lose_0 : decode cX12_lose 0 = .ok (.iload_n 1, 1) := by decide +kernel
theorem dX12_lose_1 : decode cX12_lose 1 = .ok (.invokestatic 92, 3) := by decide +kernel
theorem dX12_lose_4 : decode cX12_lose 4 = .ok (.ifCond .ne 6, 3) := by decide +kernel
theorem dX12_lose_7 : decode cX12_lose 7 = .ok (.bipush (-2), 2) := by decide +kernel
theorem dX12_lose_9 : decode cX12_lose 9 = .ok (.ireturn, 1) := by decide +kernel
theorem dX12_lose_10 : decode cX12_lose 10 = .ok (.aload_n 0, 1) := by decide +kernel
theorem dX12_lose_11 : decode cX12_lose 11 = .ok (.getfield 7, 3) := by decide +kernel
theorem dX12_lose_14 : decode cX12_lose 14 = .ok (.iload_n 1, 1) := by decide +kernel
theorem dX12_lose_15 : decode cX12_lose 15 = .ok (.iaload, 1) := by decide +kernel
theorem dX12_lose_16 : decode cX12_lose 16 = .ok (.ifCond .ge 9, 3) := by decide +kernel
theorem dX12_lose_19 : decode cX12_lose 19 = .ok (.aload_n 0, 1) := by decide +kernel
theorem dX12_lose_20 : decode cX12_lose 20 = .ok (.iconst 1, 1) := by decide +kernel
theorem dX12_lose_21 : decode cX12_lose 21 = .ok (.invokevirtual 98, 3) := by decide +kernel
theorem dX12_lose_24 : decode cX12_lose 24 = .ok (.ireturn, 1) := by decide +kernel
theorem dX12_lose_25 : decode cX12_lose 25 = .ok (.aload_n 0, 1) := by decide +kernel
theorem dX12_lose_26 : decode cX12_lose 26 = .ok (.getfield 7, 3) := by decide +kernel
theorem dX12_lose_29 : decode cX12_lose 29 = .ok (.iload_n 1, 1) := by decide +kernel
theorem dX12_lose_30 : decode cX12_lose 30 = .ok (.iconst (-1), 1) := by decide +kernel
theorem dX12_lose_31 : decode cX12_lose 31 = .ok (.iastore, 1) := by decide +kernel
theorem dX12_lose_32 : decode cX12_lose 32 = .ok (.aload_n 0, 1) := by decide +kernel
theorem dX12_lose_33 : decode cX12_lose 33 = .ok (.getfield 13, 3) := by decide +kernel
theorem dX12_lose_36 : decode cX12_lose 36 = .ok (.iload_n 1, 1) := by decide +kernel
theorem dX12_lose_37 : decode cX12_lose 37 = .ok (.iaload, 1) := by decide +kernel
theorem dX12_lose_38 : decode cX12_lose 38 = .ok (.ireturn, 1) := by decide +kernel
theorem dX12_lacks_0 : decode cX12_lacks 0 = .ok (.aload_n 0, 1) := by decide +kernel
theorem dX12_lacks_1 : decode cX12_lacks 1 = .ok (.getfield 7, 3) := by decide +kernel
theorem dX12_lacks_4 : decode cX12_lacks 4 = .ok (.iload_n 1, 1) := by decide +kernel
theorem dX12_lacks_5 : decode cX12_lacks 5 = .ok (.iaload, 1) := by decide +kernel
theorem dX12_lacks_6 : decode cX12_lacks 6 = .ok (.ifCond .ge 9, 3) := by decide +kernel
theorem dX12_lacks_9 : decode cX12_lacks 9 = .ok (.aload_n 0, 1) := by decide +kernel
theorem dX12_lacks_10 : decode cX12_lacks 10 = .ok (.iconst 1, 1) := by decide +kernel
theorem dX12_lacks_11 : decode cX12_lacks 11 = .ok (.invokevirtual 98, 3) := by decide +kernel
theorem dX12_lacks_14 : decode cX12_lacks 14 = .ok (.ireturn, 1) := by decide +kernel
theorem dX12_lacks_15 : decode cX12_lacks 15 = .ok (.aload_n 0, 1) := by decide +kernel
theorem dX12_lacks_16 : decode cX12_lacks 16 = .ok (.getfield 7, 3) := by decide +kernel
theorem dX12_lacks_19 : decode cX12_lacks 19 = .ok (.iload_n 1, 1) := by decide +kernel
theorem dX12_lacks_20 : decode cX12_lacks 20 = .ok (.iaload, 1) := by decide +kernel
theorem dX12_lacks_21 : decode cX12_lacks 21 = .ok (.iload_n 2, 1) := by decide +kernel
theorem dX12_lacks_22 : decode cX12_lacks 22 = .ok (.if_icmp .eq 9, 3) := by decide +kernel
theorem dX12_lacks_25 : decode cX12_lacks 25 = .ok (.aload_n 0, 1) := by decide +kernel
theorem dX12_lacks_26 : decode cX12_lacks 26 = .ok (.iconst 3, 1) := by decide +kernel
theorem dX12_lacks_27 : decode cX12_lacks 27 = .ok (.invokevirtual 98, 3) := by decide +kernel
theorem dX12_lacks_30 : decode cX12_lacks 30 = .ok (.ireturn, 1) := by decide +kernel
theorem dX12_lacks_31 : decode cX12_lacks 31 = .ok (.iload_n 3, 1) := by decide +kernel
theorem dX12_lacks_32 : decode cX12_lacks 32 = .ok (.i2l, 1) := by decide +kernel
theorem dX12_lacks_33 : decode cX12_lacks 33 = .ok (.lconst 0, 1) := by decide +kernel
theorem dX12_lacks_34 : decode cX12_lacks 34 = .ok (.aload_n 0, 1) := by decide +kernel
theorem dX12_lacks_35 : decode cX12_lacks 35 = .ok (.getfield 13, 3) := by decide +kernel
theorem dX12_lacks_38 : decode cX12_lacks 38 = .ok (.iload_n 1, 1) := by decide +kernel
theorem dX12_lacks_39 : decode cX12_lacks 39 = .ok (.iaload, 1) := by decide +kernel
theorem dX12_lacks_40 : decode cX12_lacks 40 = .ok (.iconst 1, 1) := by decide +kernel
theorem dX12_lacks_41 : decode cX12_lacks 41 = .ok (.isub, 1) := by decide +kernel
theorem dX12_lacks_42 : decode cX12_lacks 42 = .ok (.i2l, 1) := by decide +kernel
theorem dX12_lacks_43 : decode cX12_lacks 43 = .ok (.invokestatic 82, 3) := by decide +kernel
theorem dX12_lacks_46 : decode cX12_lacks 46 = .ok (.ifCond .eq 7, 3) := by decide +kernel
theorem dX12_lacks_49 : decode cX12_lacks 49 = .ok (.iconst 0, 1) := by decide +kernel
theorem dX12_lacks_50 : decode cX12_lacks 50 = .ok (.goto 8, 3) := by decide +kernel
theorem dX12_lacks_53 : decode cX12_lacks 53 = .ok (.aload_n 0, 1) := by decide +kernel
theorem dX12_lacks_54 : decode cX12_lacks 54 = .ok (.iconst 2, 1) := by decide +kernel
theorem dX12_lacks_55 : decode cX12_lacks 55 = .ok (.invokevirtual 98, 3) := by decide +kernel
theorem dX12_lacks_58 : decode cX12_lacks 58 = .ok (.ireturn, 1) := by decide +kernel
theorem dX12_cut_0 : decode cX12_cut 0 = .ok (.iload_n 0, 1) := by decide +kernel
theorem dX12_cut_1 : decode cX12_cut 1 = .ok (.ifCond .ne 8, 3) := by decide +kernel
theorem dX12_cut_4 : decode cX12_cut 4 = .ok (.iload_n 1, 1) := by decide +kernel
theorem dX12_cut_5 : decode cX12_cut 5 = .ok (.i2b, 1) := by decide +kernel
theorem dX12_cut_6 : decode cX12_cut 6 = .ok (.goto 14, 3) := by decide +kernel
theorem dX12_cut_9 : decode cX12_cut 9 = .ok (.iload_n 0, 1) := by decide +kernel
theorem dX12_cut_10 : decode cX12_cut 10 = .ok (.iconst 1, 1) := by decide +kernel
theorem dX12_cut_11 : decode cX12_cut 11 = .ok (.if_icmp .ne 8, 3) := by decide +kernel
theorem dX12_cut_14 : decode cX12_cut 14 = .ok (.iload_n 1, 1) := by decide +kernel
theorem dX12_cut_15 : decode cX12_cut 15 = .ok (.i2s, 1) := by decide +kernel
theorem dX12_cut_16 : decode cX12_cut 16 = .ok (.goto 4, 3) := by decide +kernel
theorem dX12_cut_19 : decode cX12_cut 19 = .ok (.iload_n 1, 1) := by decide +kernel
theorem dX12_cut_20 : decode cX12_cut 20 = .ok (.ireturn, 1) := by decide +kernel
theorem dX12_lay_0 : decode cX12_lay 0 = .ok (.iload_n 1, 1) := by decide +kernel
theorem dX12_lay_1 : decode cX12_lay 1 = .ok (.invokestatic 92, 3) := by decide +kernel
theorem dX12_lay_4 : decode cX12_lay 4 = .ok (.ifCond .eq 15, 3) := by decide +kernel
theorem dX12_lay_7 : decode cX12_lay 7 = .ok (.iload_n 2, 1) := by decide +kernel
theorem dX12_lay_8 : decode cX12_lay 8 = .ok (.i2l, 1) := by decide +kernel
theorem dX12_lay_9 : decode cX12_lay 9 = .ok (.lconst 0, 1) := by decide +kernel
theorem dX12_lay_10 : decode cX12_lay 10 = .ok (.ldc2_w 96, 3) := by decide +kernel
theorem dX12_lay_13 : decode cX12_lay 13 = .ok (.invokestatic 82, 3) := by decide +kernel
theorem dX12_lay_16 : decode cX12_lay 16 = .ok (.ifCond .ne 6, 3) := by decide +kernel
theorem dX12_lay_19 : decode cX12_lay 19 = .ok (.bipush (-2), 2) := by decide +kernel
theorem dX12_lay_21 : decode cX12_lay 21 = .ok (.ireturn, 1) := by decide +kernel
theorem dX12_lay_22 : decode cX12_lay 22 = .ok (.aload_n 0, 1) := by decide +kernel
theorem dX12_lay_23 : decode cX12_lay 23 = .ok (.iload_n 1, 1) := by decide +kernel
theorem dX12_lay_24 : decode cX12_lay 24 = .ok (.iload_n 2, 1) := by decide +kernel
theorem dX12_lay_25 : decode cX12_lay 25 = .ok (.iload_n 3, 1) := by decide +kernel
theorem dX12_lay_26 : decode cX12_lay 26 = .ok (.invokevirtual 102, 3) := by decide +kernel
theorem dX12_lay_29 : decode cX12_lay 29 = .ok (.istore 5, 2) := by decide +kernel
theorem dX12_lay_31 : decode cX12_lay 31 = .ok (.iload 5, 2) := by decide +kernel
theorem dX12_lay_33 : decode cX12_lay 33 = .ok (.ifCond .eq 6, 3) := by decide +kernel
theorem dX12_lay_36 : decode cX12_lay 36 = .ok (.iload 5, 2) := by decide +kernel
theorem dX12_lay_38 : decode cX12_lay 38 = .ok (.ireturn, 1) := by decide +kernel
theorem dX12_lay_39 : decode cX12_lay 39 = .ok (.aload_n 0, 1) := by decide +kernel
theorem dX12_lay_40 : decode cX12_lay 40 = .ok (.getfield 16, 3) := by decide +kernel
theorem dX12_lay_43 : decode cX12_lay 43 = .ok (.bipush 64, 2) := by decide +kernel
theorem dX12_lay_45 : decode cX12_lay 45 = .ok (.iload_n 1, 1) := by decide +kernel
theorem dX12_lay_46 : decode cX12_lay 46 = .ok (.imul, 1) := by decide +kernel
theorem dX12_lay_47 : decode cX12_lay 47 = .ok (.iload_n 3, 1) := by decide +kernel
theorem dX12_lay_48 : decode cX12_lay 48 = .ok (.iadd, 1) := by decide +kernel
theorem dX12_lay_49 : decode cX12_lay 49 = .ok (.iload_n 2, 1) := by decide +kernel
theorem dX12_lay_50 : decode cX12_lay 50 = .ok (.iload 4, 2) := by decide +kernel
theorem dX12_lay_52 : decode cX12_lay 52 = .ok (.invokestatic 106, 3) := by decide +kernel
theorem dX12_lay_55 : decode cX12_lay 55 = .ok (.iastore, 1) := by decide +kernel
theorem dX12_lay_56 : decode cX12_lay 56 = .ok (.iconst 1, 1) := by decide +kernel
theorem dX12_lay_57 : decode cX12_lay 57 = .ok (.ireturn, 1) := by decide +kernel
theorem dX12_get_0 : decode cX12_get 0 = .ok (.iload_n 1, 1) := by decide +kernel
theorem dX12_get_1 : decode cX12_get 1 = .ok (.invokestatic 92, 3) := by decide +kernel
theorem dX12_get_4 : decode cX12_get 4 = .ok (.ifCond .eq 25, 3) := by decide +kernel
theorem dX12_get_7 : decode cX12_get 7 = .ok (.iload_n 2, 1) := by decide +kernel
theorem dX12_get_8 : decode cX12_get 8 = .ok (.i2l, 1) := by decide +kernel
theorem dX12_get_9 : decode cX12_get 9 = .ok (.lconst 0, 1) := by decide +kernel
theorem dX12_get_10 : decode cX12_get 10 = .ok (.ldc2_w 96, 3) := by decide +kernel
theorem dX12_get_13 : decode cX12_get 13 = .ok (.invokestatic 82, 3) := by decide +kernel
theorem dX12_get_16 : decode cX12_get 16 = .ok (.ifCond .eq 13, 3) := by decide +kernel
theorem dX12_get_19 : decode cX12_get 19 = .ok (.aload_n 0, 1) := by decide +kernel
theorem dX12_get_20 : decode cX12_get 20 = .ok (.iload_n 1, 1) := by decide +kernel
theorem dX12_get_21 : decode cX12_get 21 = .ok (.iload_n 2, 1) := by decide +kernel
theorem dX12_get_22 : decode cX12_get 22 = .ok (.iload_n 3, 1) := by decide +kernel
theorem dX12_get_23 : decode cX12_get 23 = .ok (.invokevirtual 102, 3) := by decide +kernel
theorem dX12_get_26 : decode cX12_get 26 = .ok (.ifCond .eq 6, 3) := by decide +kernel
theorem dX12_get_29 : decode cX12_get 29 = .ok (.ldc 110, 2) := by decide +kernel
theorem dX12_get_31 : decode cX12_get 31 = .ok (.ireturn, 1) := by decide +kernel
theorem dX12_get_32 : decode cX12_get 32 = .ok (.aload_n 0, 1) := by decide +kernel
theorem dX12_get_33 : decode cX12_get 33 = .ok (.getfield 16, 3) := by decide +kernel
theorem dX12_get_36 : decode cX12_get 36 = .ok (.bipush 64, 2) := by decide +kernel
theorem dX12_get_38 : decode cX12_get 38 = .ok (.iload_n 1, 1) := by decide +kernel
theorem dX12_get_39 : decode cX12_get 39 = .ok (.imul, 1) := by decide +kernel
theorem dX12_get_40 : decode cX12_get 40 = .ok (.iload_n 3, 1) := by decide +kernel
theorem dX12_get_41 : decode cX12_get 41 = .ok (.iadd, 1) := by decide +kernel
theorem dX12_get_42 : decode cX12_get 42 = .ok (.iaload, 1) := by decide +kernel
theorem dX12_get_43 : decode cX12_get 43 = .ok (.ireturn, 1) := by decide +kernel
theorem dX12_copy_0 : decode cX12_copy 0 = .ok (.iload_n 1, 1) := by decide +kernel
theorem dX12_copy_1 : decode cX12_copy 1 = .ok (.invokestatic 92, 3) := by decide +kernel
theorem dX12_copy_4 : decode cX12_copy 4 = .ok (.ifCond .eq 10, 3) := by decide +kernel
theorem dX12_copy_7 : decode cX12_copy 7 = .ok (.iload_n 3, 1) := by decide +kernel
theorem dX12_copy_8 : decode cX12_copy 8 = .ok (.invokestatic 92, 3) := by decide +kernel
theorem dX12_copy_11 : decode cX12_copy 11 = .ok (.ifCond .ne 6, 3) := by decide +kernel
theorem dX12_copy_14 : decode cX12_copy 14 = .ok (.bipush (-2), 2) := by decide +kernel
theorem dX12_copy_16 : decode cX12_copy 16 = .ok (.ireturn, 1) := by decide +kernel
theorem dX12_copy_17 : decode cX12_copy 17 = .ok (.aload_n 0, 1) := by decide +kernel
theorem dX12_copy_18 : decode cX12_copy 18 = .ok (.getfield 7, 3) := by decide +kernel
theorem dX12_copy_21 : decode cX12_copy 21 = .ok (.iload_n 1, 1) := by decide +kernel
theorem dX12_copy_22 : decode cX12_copy 22 = .ok (.iaload, 1) := by decide +kernel
theorem dX12_copy_23 : decode cX12_copy 23 = .ok (.ifCond .lt 12, 3) := by decide +kernel
theorem dX12_copy_26 : decode cX12_copy 26 = .ok (.aload_n 0, 1) := by decide +kernel
theorem dX12_copy_27 : decode cX12_copy 27 = .ok (.getfield 7, 3) := by decide +kernel
theorem dX12_copy_30 : decode cX12_copy 30 = .ok (.iload_n 3, 1) := by decide +kernel
theorem dX12_copy_31 : decode cX12_copy 31 = .ok (.iaload, 1) := by decide +kernel
theorem dX12_copy_32 : decode cX12_copy 32 = .ok (.ifCond .ge 9, 3) := by decide +kernel
theorem dX12_copy_35 : decode cX12_copy 35 = .ok (.aload_n 0, 1) := by decide +kernel
theorem dX12_copy_36 : decode cX12_copy 36 = .ok (.iconst 1, 1) := by decide +kernel
theorem dX12_copy_37 : decode cX12_copy 37 = .ok (.invokevirtual 98, 3) := by decide +kernel
theorem dX12_copy_40 : decode cX12_copy 40 = .ok (.ireturn, 1) := by decide +kernel
theorem dX12_copy_41 : decode cX12_copy 41 = .ok (.aload_n 0, 1) := by decide +kernel
theorem dX12_copy_42 : decode cX12_copy 42 = .ok (.getfield 7, 3) := by decide +kernel
theorem dX12_copy_45 : decode cX12_copy 45 = .ok (.iload_n 1, 1) := by decide +kernel
theorem dX12_copy_46 : decode cX12_copy 46 = .ok (.iaload, 1) := by decide +kernel
theorem dX12_copy_47 : decode cX12_copy 47 = .ok (.aload_n 0, 1) := by decide +kernel
theorem dX12_copy_48 : decode cX12_copy 48 = .ok (.getfield 7, 3) := by decide +kernel
theorem dX12_copy_51 : decode cX12_copy 51 = .ok (.iload_n 3, 1) := by decide +kernel
theorem dX12_copy_52 : decode cX12_copy 52 = .ok (.iaload, 1) := by decide +kernel
theorem dX12_copy_53 : decode cX12_copy 53 = .ok (.if_icmp .eq 9, 3) := by decide +kernel
theorem dX12_copy_56 : decode cX12_copy 56 = .ok (.aload_n 0, 1) := by decide +kernel
theorem dX12_copy_57 : decode cX12_copy 57 = .ok (.iconst 4, 1) := by decide +kernel
theorem dX12_copy_58 : decode cX12_copy 58 = .ok (.invokevirtual 98, 3) := by decide +kernel
theorem dX12_copy_61 : decode cX12_copy 61 = .ok (.ireturn, 1) := by decide +kernel
theorem dX12_copy_62 : decode cX12_copy 62 = .ok (.iload_n 2, 1) := by decide +kernel
theorem dX12_copy_63 : decode cX12_copy 63 = .ok (.ifCond .lt 48, 3) := by decide +kernel
theorem dX12_copy_66 : decode cX12_copy 66 = .ok (.iload 4, 2) := by decide +kernel
theorem dX12_copy_68 : decode cX12_copy 68 = .ok (.ifCond .lt 43, 3) := by decide +kernel
theorem dX12_copy_71 : decode cX12_copy 71 = .ok (.iload 5, 2) := by decide +kernel
theorem dX12_copy_73 : decode cX12_copy 73 = .ok (.ifCond .lt 38, 3) := by decide +kernel
theorem dX12_copy_76 : decode cX12_copy 76 = .ok (.iload_n 2, 1) := by decide +kernel
theorem dX12_copy_77 : decode cX12_copy 77 = .ok (.i2l, 1) := by decide +kernel
theorem dX12_copy_78 : decode cX12_copy 78 = .ok (.iload 5, 2) := by decide +kernel
theorem dX12_copy_80 : decode cX12_copy 80 = .ok (.i2l, 1) := by decide +kernel
theorem dX12_copy_81 : decode cX12_copy 81 = .ok (.ladd, 1) := by decide +kernel
theorem dX12_copy_82 : decode cX12_copy 82 = .ok (.aload_n 0, 1) := by decide +kernel
theorem dX12_copy_83 : decode cX12_copy 83 = .ok (.getfield 13, 3) := by decide +kernel
theorem dX12_copy_86 : decode cX12_copy 86 = .ok (.iload_n 1, 1) := by decide +kernel
theorem dX12_copy_87 : decode cX12_copy 87 = .ok (.iaload, 1) := by decide +kernel
theorem dX12_copy_88 : decode cX12_copy 88 = .ok (.i2l, 1) := by decide +kernel
theorem dX12_copy_89 : decode cX12_copy 89 = .ok (.lcmp, 1) := by decide +kernel
theorem dX12_copy_90 : decode cX12_copy 90 = .ok (.ifCond .gt 21, 3) := by decide +kernel
theorem dX12_copy_93 : decode cX12_copy 93 = .ok (.iload 4, 2) := by decide +kernel
theorem dX12_copy_95 : decode cX12_copy 95 = .ok (.i2l, 1) := by decide +kernel
theorem dX12_copy_96 : decode cX12_copy 96 = .ok (.iload 5, 2) := by decide +kernel
theorem dX12_copy_98 : decode cX12_copy 98 = .ok (.i2l, 1) := by decide +kernel
theorem dX12_copy_99 : decode cX12_copy 99 = .ok (.ladd, 1) := by decide +kernel
theorem dX12_copy_100 : decode cX12_copy 100 = .ok (.aload_n 0, 1) := by decide +kernel
theorem dX12_copy_101 : decode cX12_copy 101 = .ok (.getfield 13, 3) := by decide +kernel
theorem dX12_copy_104 : decode cX12_copy 104 = .ok (.iload_n 3, 1) := by decide +kernel
theorem dX12_copy_105 : decode cX12_copy 105 = .ok (.iaload, 1) := by decide +kernel
theorem dX12_copy_106 : decode cX12_copy 106 = .ok (.i2l, 1) := by decide +kernel
theorem dX12_copy_107 : decode cX12_copy 107 = .ok (.lcmp, 1) := by decide +kernel
theorem dX12_copy_108 : decode cX12_copy 108 = .ok (.ifCond .le 9, 3) := by decide +kernel
theorem dX12_copy_111 : decode cX12_copy 111 = .ok (.aload_n 0, 1) := by decide +kernel
theorem dX12_copy_112 : decode cX12_copy 112 = .ok (.iconst 2, 1) := by decide +kernel
theorem dX12_copy_113 : decode cX12_copy 113 = .ok (.invokevirtual 98, 3) := by decide +kernel
theorem dX12_copy_116 : decode cX12_copy 116 = .ok (.ireturn, 1) := by decide +kernel
theorem dX12_copy_117 : decode cX12_copy 117 = .ok (.iconst 0, 1) := by decide +kernel
theorem dX12_copy_118 : decode cX12_copy 118 = .ok (.istore 6, 2) := by decide +kernel
theorem dX12_copy_120 : decode cX12_copy 120 = .ok (.iload 6, 2) := by decide +kernel
theorem dX12_copy_122 : decode cX12_copy 122 = .ok (.iload 5, 2) := by decide +kernel
theorem dX12_copy_124 : decode cX12_copy 124 = .ok (.if_icmp .ge 30, 3) := by decide +kernel
theorem dX12_copy_127 : decode cX12_copy 127 = .ok (.aload_n 0, 1) := by decide +kernel
theorem dX12_copy_128 : decode cX12_copy 128 = .ok (.getfield 19, 3) := by decide +kernel
theorem dX12_copy_131 : decode cX12_copy 131 = .ok (.iload 6, 2) := by decide +kernel
theorem dX12_copy_133 : decode cX12_copy 133 = .ok (.aload_n 0, 1) := by decide +kernel
theorem dX12_copy_134 : decode cX12_copy 134 = .ok (.getfield 16, 3) := by decide +kernel
theorem dX12_copy_137 : decode cX12_copy 137 = .ok (.bipush 64, 2) := by decide +kernel
theorem dX12_copy_139 : decode cX12_copy 139 = .ok (.iload_n 1, 1) := by decide +kernel
theorem dX12_copy_140 : decode cX12_copy 140 = .ok (.imul, 1) := by decide +kernel
theorem dX12_copy_141 : decode cX12_copy 141 = .ok (.iload_n 2, 1) := by decide +kernel
theorem dX12_copy_142 : decode cX12_copy 142 = .ok (.iadd, 1) := by decide +kernel
theorem dX12_copy_143 : decode cX12_copy 143 = .ok (.iload 6, 2) := by decide +kernel
theorem dX12_copy_145 : decode cX12_copy 145 = .ok (.iadd, 1) := by decide +kernel
theorem dX12_copy_146 : decode cX12_copy 146 = .ok (.iaload, 1) := by decide +kernel
theorem dX12_copy_147 : decode cX12_copy 147 = .ok (.iastore, 1) := by decide +kernel
theorem dX12_copy_148 : decode cX12_copy 148 = .ok (.iinc 6 1, 3) := by decide +kernel
theorem dX12_copy_151 : decode cX12_copy 151 = .ok (.goto (-31), 3) := by decide +kernel
theorem dX12_copy_154 : decode cX12_copy 154 = .ok (.iconst 0, 1) := by decide +kernel
theorem dX12_copy_155 : decode cX12_copy 155 = .ok (.istore 6, 2) := by decide +kernel
theorem dX12_copy_157 : decode cX12_copy 157 = .ok (.iload 6, 2) := by decide +kernel
theorem dX12_copy_159 : decode cX12_copy 159 = .ok (.iload 5, 2) := by decide +kernel
theorem dX12_copy_161 : decode cX12_copy 161 = .ok (.if_icmp .ge 31, 3) := by decide +kernel
theorem dX12_copy_164 : decode cX12_copy 164 = .ok (.aload_n 0, 1) := by decide +kernel
theorem dX12_copy_165 : decode cX12_copy 165 = .ok (.getfield 16, 3) := by decide +kernel
theorem dX12_copy_168 : decode cX12_copy 168 = .ok (.bipush 64, 2) := by decide +kernel
theorem dX12_copy_170 : decode cX12_copy 170 = .ok (.iload_n 3, 1) := by decide +kernel
theorem dX12_copy_171 : decode cX12_copy 171 = .ok (.imul, 1) := by decide +kernel
theorem dX12_copy_172 : decode cX12_copy 172 = .ok (.iload 4, 2) := by decide +kernel
theorem dX12_copy_174 : decode cX12_copy 174 = .ok (.iadd, 1) := by decide +kernel
theorem dX12_copy_175 : decode cX12_copy 175 = .ok (.iload 6, 2) := by decide +kernel
theorem dX12_copy_177 : decode cX12_copy 177 = .ok (.iadd, 1) := by decide +kernel
theorem dX12_copy_178 : decode cX12_copy 178 = .ok (.aload_n 0, 1) := by decide +kernel
theorem dX12_copy_179 : decode cX12_copy 179 = .ok (.getfield 19, 3) := by decide +kernel
theorem dX12_copy_182 : decode cX12_copy 182 = .ok (.iload 6, 2) := by decide +kernel
theorem dX12_copy_184 : decode cX12_copy 184 = .ok (.iaload, 1) := by decide +kernel
theorem dX12_copy_185 : decode cX12_copy 185 = .ok (.iastore, 1) := by decide +kernel
theorem dX12_copy_186 : decode cX12_copy 186 = .ok (.iinc 6 1, 3) := by decide +kernel
theorem dX12_copy_189 : decode cX12_copy 189 = .ok (.goto (-32), 3) := by decide +kernel
theorem dX12_copy_192 : decode cX12_copy 192 = .ok (.iconst 1, 1) := by decide +kernel
theorem dX12_copy_193 : decode cX12_copy 193 = .ok (.ireturn, 1) := by decide +kernel
theorem dX12_room_0 : decode cX12_room 0 = .ok (.iload_n 0, 1) := by decide +kernel
theorem dX12_room_1 : decode cX12_room 1 = .ok (.ifCond .ne 8, 3) := by decide +kernel
theorem dX12_room_4 : decode cX12_room 4 = .ok (.bipush 71, 2) := by decide +kernel
theorem dX12_room_6 : decode cX12_room 6 = .ok (.goto 14, 3) := by decide +kernel
theorem dX12_room_9 : decode cX12_room 9 = .ok (.iload_n 0, 1) := by decide +kernel
theorem dX12_room_10 : decode cX12_room 10 = .ok (.iconst 1, 1) := by decide +kernel
theorem dX12_room_11 : decode cX12_room 11 = .ok (.if_icmp .ne 7, 3) := by decide +kernel
theorem dX12_room_14 : decode cX12_room 14 = .ok (.iconst 5, 1) := by decide +kernel
theorem dX12_room_15 : decode cX12_room 15 = .ok (.goto 5, 3) := by decide +kernel
theorem dX12_room_18 : decode cX12_room 18 = .ok (.bipush 40, 2) := by decide +kernel
theorem dX12_room_20 : decode cX12_room 20 = .ok (.ireturn, 1) := by decide +kernel
theorem dX12_type_0 : decode cX12_type 0 = .ok (.iload_n 1, 1) := by decide +kernel
theorem dX12_type_1 : decode cX12_type 1 = .ok (.i2l, 1) := by decide +kernel
theorem dX12_type_2 : decode cX12_type 2 = .ok (.lconst 0, 1) := by decide +kernel
theorem dX12_type_3 : decode cX12_type 3 = .ok (.ldc2_w 96, 3) := by decide +kernel
theorem dX12_type_6 : decode cX12_type 6 = .ok (.invokestatic 82, 3) := by decide +kernel
theorem dX12_type_9 : decode cX12_type 9 = .ok (.ifCond .eq 15, 3) := by decide +kernel
theorem dX12_type_12 : decode cX12_type 12 = .ok (.iload_n 2, 1) := by decide +kernel
theorem dX12_type_13 : decode cX12_type 13 = .ok (.i2l, 1) := by decide +kernel
theorem dX12_type_14 : decode cX12_type 14 = .ok (.lconst 0, 1) := by decide +kernel
theorem dX12_type_15 : decode cX12_type 15 = .ok (.ldc2_w 111, 3) := by decide +kernel
theorem dX12_type_18 : decode cX12_type 18 = .ok (.invokestatic 82, 3) := by decide +kernel
theorem dX12_type_21 : decode cX12_type 21 = .ok (.ifCond .ne 6, 3) := by decide +kernel
theorem dX12_type_24 : decode cX12_type 24 = .ok (.bipush (-2), 2) := by decide +kernel
theorem dX12_type_26 : decode cX12_type 26 = .ok (.ireturn, 1) := by decide +kernel
theorem dX12_type_27 : decode cX12_type 27 = .ok (.aload_n 0, 1) := by decide +kernel
theorem dX12_type_28 : decode cX12_type 28 = .ok (.getfield 25, 3) := by decide +kernel
theorem dX12_type_31 : decode cX12_type 31 = .ok (.iload_n 1, 1) := by decide +kernel
theorem dX12_type_32 : decode cX12_type 32 = .ok (.iaload, 1) := by decide +kernel
theorem dX12_type_33 : decode cX12_type 33 = .ok (.iload_n 1, 1) := by decide +kernel
theorem dX12_type_34 : decode cX12_type 34 = .ok (.invokestatic 113, 3) := by decide +kernel
theorem dX12_type_37 : decode cX12_type 37 = .ok (.if_icmp .ne 6, 3) := by decide +kernel
theorem dX12_type_40 : decode cX12_type 40 = .ok (.bipush (-4), 2) := by decide +kernel
theorem dX12_type_42 : decode cX12_type 42 = .ok (.ireturn, 1) := by decide +kernel
theorem dX12_type_43 : decode cX12_type 43 = .ok (.aload_n 0, 1) := by decide +kernel
theorem dX12_type_44 : decode cX12_type 44 = .ok (.getfield 22, 3) := by decide +kernel
theorem dX12_type_47 : decode cX12_type 47 = .ok (.bipush 80, 2) := by decide +kernel
theorem dX12_type_49 : decode cX12_type 49 = .ok (.iload_n 1, 1) := by decide +kernel
theorem dX12_type_50 : decode cX12_type 50 = .ok (.imul, 1) := by decide +kernel
theorem dX12_type_51 : decode cX12_type 51 = .ok (.aload_n 0, 1) := by decide +kernel
theorem dX12_type_52 : decode cX12_type 52 = .ok (.getfield 25, 3) := by decide +kernel
theorem dX12_type_55 : decode cX12_type 55 = .ok (.iload_n 1, 1) := by decide +kernel
theorem dX12_type_56 : decode cX12_type 56 = .ok (.iaload, 1) := by decide +kernel
theorem dX12_type_57 : decode cX12_type 57 = .ok (.iadd, 1) := by decide +kernel
theorem dX12_type_58 : decode cX12_type 58 = .ok (.iload_n 2, 1) := by decide +kernel
theorem dX12_type_59 : decode cX12_type 59 = .ok (.iastore, 1) := by decide +kernel
theorem dX12_type_60 : decode cX12_type 60 = .ok (.aload_n 0, 1) := by decide +kernel
theorem dX12_type_61 : decode cX12_type 61 = .ok (.getfield 25, 3) := by decide +kernel
theorem dX12_type_64 : decode cX12_type 64 = .ok (.iload_n 1, 1) := by decide +kernel
theorem dX12_type_65 : decode cX12_type 65 = .ok (.dup2, 1) := by decide +kernel
theorem dX12_type_66 : decode cX12_type 66 = .ok (.iaload, 1) := by decide +kernel
theorem dX12_type_67 : decode cX12_type 67 = .ok (.iconst 1, 1) := by decide +kernel
theorem dX12_type_68 : decode cX12_type 68 = .ok (.iadd, 1) := by decide +kernel
theorem dX12_type_69 : decode cX12_type 69 = .ok (.iastore, 1) := by decide +kernel
theorem dX12_type_70 : decode cX12_type 70 = .ok (.aload_n 0, 1) := by decide +kernel
theorem dX12_type_71 : decode cX12_type 71 = .ok (.getfield 25, 3) := by decide +kernel
theorem dX12_type_74 : decode cX12_type 74 = .ok (.iload_n 1, 1) := by decide +kernel
theorem dX12_type_75 : decode cX12_type 75 = .ok (.iaload, 1) := by decide +kernel
theorem dX12_type_76 : decode cX12_type 76 = .ok (.ireturn, 1) := by decide +kernel
theorem dX12_wipe_0 : decode cX12_wipe 0 = .ok (.iload_n 1, 1) := by decide +kernel
theorem dX12_wipe_1 : decode cX12_wipe 1 = .ok (.i2l, 1) := by decide +kernel
theorem dX12_wipe_2 : decode cX12_wipe 2 = .ok (.lconst 0, 1) := by decide +kernel
theorem dX12_wipe_3 : decode cX12_wipe 3 = .ok (.ldc2_w 96, 3) := by decide +kernel
theorem dX12_wipe_6 : decode cX12_wipe 6 = .ok (.invokestatic 82, 3) := by decide +kernel
theorem dX12_wipe_9 : decode cX12_wipe 9 = .ok (.ifCond .ne 6, 3) := by decide +kernel
theorem dX12_wipe_12 : decode cX12_wipe 12 = .ok (.bipush (-2), 2) := by decide +kernel
theorem dX12_wipe_14 : decode cX12_wipe 14 = .ok (.ireturn, 1) := by decide +kernel
theorem dX12_wipe_15 : decode cX12_wipe 15 = .ok (.aload_n 0, 1) := by decide +kernel
theorem dX12_wipe_16 : decode cX12_wipe 16 = .ok (.getfield 25, 3) := by decide +kernel
theorem dX12_wipe_19 : decode cX12_wipe 19 = .ok (.iload_n 1, 1) := by decide +kernel
theorem dX12_wipe_20 : decode cX12_wipe 20 = .ok (.iaload, 1) := by decide +kernel
theorem dX12_wipe_21 : decode cX12_wipe 21 = .ok (.istore_n 2, 1) := by decide +kernel
theorem dX12_wipe_22 : decode cX12_wipe 22 = .ok (.aload_n 0, 1) := by decide +kernel
theorem dX12_wipe_23 : decode cX12_wipe 23 = .ok (.getfield 25, 3) := by decide +kernel
theorem dX12_wipe_26 : decode cX12_wipe 26 = .ok (.iload_n 1, 1) := by decide +kernel
theorem dX12_wipe_27 : decode cX12_wipe 27 = .ok (.iconst 0, 1) := by decide +kernel
theorem dX12_wipe_28 : decode cX12_wipe 28 = .ok (.iastore, 1) := by decide +kernel
theorem dX12_wipe_29 : decode cX12_wipe 29 = .ok (.iload_n 2, 1) := by decide +kernel
theorem dX12_wipe_30 : decode cX12_wipe 30 = .ok (.ireturn, 1) := by decide +kernel
theorem dX12_undo_0 : decode cX12_undo 0 = .ok (.iload_n 1, 1) := by decide +kernel
theorem dX12_undo_1 : decode cX12_undo 1 = .ok (.i2l, 1) := by decide +kernel
theorem dX12_undo_2 : decode cX12_undo 2 = .ok (.lconst 0, 1) := by decide +kernel
theorem dX12_undo_3 : decode cX12_undo 3 = .ok (.ldc2_w 96, 3) := by decide +kernel
theorem dX12_undo_6 : decode cX12_undo 6 = .ok (.invokestatic 82, 3) := by decide +kernel
theorem dX12_undo_9 : decode cX12_undo 9 = .ok (.ifCond .ne 6, 3) := by decide +kernel
theorem dX12_undo_12 : decode cX12_undo 12 = .ok (.bipush (-2), 2) := by decide +kernel
theorem dX12_undo_14 : decode cX12_undo 14 = .ok (.ireturn, 1) := by decide +kernel
theorem dX12_undo_15 : decode cX12_undo 15 = .ok (.aload_n 0, 1) := by decide +kernel
theorem dX12_undo_16 : decode cX12_undo 16 = .ok (.getfield 25, 3) := by decide +kernel
theorem dX12_undo_19 : decode cX12_undo 19 = .ok (.iload_n 1, 1) := by decide +kernel
theorem dX12_undo_20 : decode cX12_undo 20 = .ok (.iaload, 1) := by decide +kernel
theorem dX12_undo_21 : decode cX12_undo 21 = .ok (.ifCond .ne 6, 3) := by decide +kernel
theorem dX12_undo_24 : decode cX12_undo 24 = .ok (.bipush (-3), 2) := by decide +kernel
theorem dX12_undo_26 : decode cX12_undo 26 = .ok (.ireturn, 1) := by decide +kernel
theorem dX12_undo_27 : decode cX12_undo 27 = .ok (.aload_n 0, 1) := by decide +kernel
theorem dX12_undo_28 : decode cX12_undo 28 = .ok (.getfield 25, 3) := by decide +kernel
theorem dX12_undo_31 : decode cX12_undo 31 = .ok (.iload_n 1, 1) := by decide +kernel
theorem dX12_undo_32 : decode cX12_undo 32 = .ok (.dup2, 1) := by decide +kernel
theorem dX12_undo_33 : decode cX12_undo 33 = .ok (.iaload, 1) := by decide +kernel
theorem dX12_undo_34 : decode cX12_undo 34 = .ok (.iconst 1, 1) := by decide +kernel
theorem dX12_undo_35 : decode cX12_undo 35 = .ok (.isub, 1) := by decide +kernel
theorem dX12_undo_36 : decode cX12_undo 36 = .ok (.iastore, 1) := by decide +kernel
theorem dX12_undo_37 : decode cX12_undo 37 = .ok (.aload_n 0, 1) := by decide +kernel
theorem dX12_undo_38 : decode cX12_undo 38 = .ok (.getfield 25, 3) := by decide +kernel
theorem dX12_undo_41 : decode cX12_undo 41 = .ok (.iload_n 1, 1) := by decide +kernel
theorem dX12_undo_42 : decode cX12_undo 42 = .ok (.iaload, 1) := by decide +kernel
theorem dX12_undo_43 : decode cX12_undo 43 = .ok (.ireturn, 1) := by decide +kernel
theorem dX12_here_0 : decode cX12_here 0 = .ok (.aload_n 0, 1) := by decide +kernel
theorem dX12_here_1 : decode cX12_here 1 = .ok (.getfield 116, 3) := by decide +kernel
theorem dX12_here_4 : decode cX12_here 4 = .ok (.aload_n 0, 1) := by decide +kernel
theorem dX12_here_5 : decode cX12_here 5 = .ok (.getfield 25, 3) := by decide +kernel
theorem dX12_here_8 : decode cX12_here 8 = .ok (.iload_n 1, 1) := by decide +kernel
theorem dX12_here_9 : decode cX12_here 9 = .ok (.iaload, 1) := by decide +kernel
theorem dX12_here_10 : decode cX12_here 10 = .ok (.if_icmp .ge 20, 3) := by decide +kernel
theorem dX12_here_13 : decode cX12_here 13 = .ok (.aload_n 0, 1) := by decide +kernel
theorem dX12_here_14 : decode cX12_here 14 = .ok (.getfield 22, 3) := by decide +kernel
theorem dX12_here_17 : decode cX12_here 17 = .ok (.bipush 80, 2) := by decide +kernel
theorem dX12_here_19 : decode cX12_here 19 = .ok (.iload_n 1, 1) := by decide +kernel
theorem dX12_here_20 : decode cX12_here 20 = .ok (.imul, 1) := by decide +kernel
theorem dX12_here_21 : decode cX12_here 21 = .ok (.aload_n 0, 1) := by decide +kernel
theorem dX12_here_22 : decode cX12_here 22 = .ok (.getfield 116, 3) := by decide +kernel
theorem dX12_here_25 : decode cX12_here 25 = .ok (.iadd, 1) := by decide +kernel
theorem dX12_here_26 : decode cX12_here 26 = .ok (.iaload, 1) := by decide +kernel
theorem dX12_here_27 : decode cX12_here 27 = .ok (.goto 4, 3) := by decide +kernel
theorem dX12_here_30 : decode cX12_here 30 = .ok (.iconst (-1), 1) := by decide +kernel
theorem dX12_here_31 : decode cX12_here 31 = .ok (.ireturn, 1) := by decide +kernel
theorem dX12_clears_0 : decode cX12_clears 0 = .ok (.iconst 0, 1) := by decide +kernel
theorem dX12_clears_1 : decode cX12_clears 1 = .ok (.istore_n 1, 1) := by decide +kernel
theorem dX12_clears_2 : decode cX12_clears 2 = .ok (.iload_n 1, 1) := by decide +kernel
theorem dX12_clears_3 : decode cX12_clears 3 = .ok (.bipush 64, 2) := by decide +kernel
theorem dX12_clears_5 : decode cX12_clears 5 = .ok (.if_icmp .ge 17, 3) := by decide +kernel
theorem dX12_clears_8 : decode cX12_clears 8 = .ok (.aload_n 0, 1) := by decide +kernel
theorem dX12_clears_9 : decode cX12_clears 9 = .ok (.getfield 28, 3) := by decide +kernel
theorem dX12_clears_12 : decode cX12_clears 12 = .ok (.iload_n 1, 1) := by decide +kernel
theorem dX12_clears_13 : decode cX12_clears 13 = .ok (.bipush 99, 2) := by decide +kernel
theorem dX12_clears_15 : decode cX12_clears 15 = .ok (.iastore, 1) := by decide +kernel
theorem dX12_clears_16 : decode cX12_clears 16 = .ok (.iinc 1 1, 3) := by decide +kernel
theorem dX12_clears_19 : decode cX12_clears 19 = .ok (.goto (-17), 3) := by decide +kernel
theorem dX12_clears_22 : decode cX12_clears 22 = .ok (.return_, 1) := by decide +kernel
theorem dX12_readsRow_0 : decode cX12_readsRow 0 = .ok (.iconst 0, 1) := by decide +kernel
theorem dX12_readsRow_1 : decode cX12_readsRow 1 = .ok (.istore_n 3, 1) := by decide +kernel
theorem dX12_readsRow_2 : decode cX12_readsRow 2 = .ok (.aload_n 0, 1) := by decide +kernel
theorem dX12_readsRow_3 : decode cX12_readsRow 3 = .ok (.getfield 116, 3) := by decide +kernel
theorem dX12_readsRow_6 : decode cX12_readsRow 6 = .ok (.aload_n 0, 1) := by decide +kernel
