theorem dX8_seedsThatDrown_39 : decode cX8_seedsThatDrown 39 = .ok (.iadd, 1) := by decide +kernel
theorem dX8_seedsThatDrown_40 : decode cX8_seedsThatDrown 40 = .ok (.invokestatic 154, 3) := by decide +kernel
theorem dX8_seedsThatDrown_43 : decode cX8_seedsThatDrown 43 = .ok (.iload_n 3, 1) := by decide +kernel
theorem dX8_seedsThatDrown_44 : decode cX8_seedsThatDrown 44 = .ok (.if_icmp .ge 12, 3) := by decide +kernel
theorem dX8_seedsThatDrown_47 : decode cX8_seedsThatDrown 47 = .ok (.iload 4, 2) := by decide +kernel
theorem dX8_seedsThatDrown_49 : decode cX8_seedsThatDrown 49 = .ok (.iconst 1, 1) := by decide +kernel
theorem dX8_seedsThatDrown_50 : decode cX8_seedsThatDrown 50 = .ok (.iload 5, 2) := by decide +kernel
theorem dX8_seedsThatDrown_52 : decode cX8_seedsThatDrown 52 = .ok (.ishl, 1) := by decide +kernel
theorem dX8_seedsThatDrown_53 : decode cX8_seedsThatDrown 53 = .ok (.ior, 1) := by decide +kernel
theorem dX8_seedsThatDrown_54 : decode cX8_seedsThatDrown 54 = .ok (.istore 4, 2) := by decide +kernel
theorem dX8_seedsThatDrown_56 : decode cX8_seedsThatDrown 56 = .ok (.iinc 5 1, 3) := by decide +kernel
theorem dX8_seedsThatDrown_59 : decode cX8_seedsThatDrown 59 = .ok (.goto (-47), 3) := by decide +kernel
theorem dX8_seedsThatDrown_62 : decode cX8_seedsThatDrown 62 = .ok (.iload 4, 2) := by decide +kernel
theorem dX8_seedsThatDrown_64 : decode cX8_seedsThatDrown 64 = .ok (.ireturn, 1) := by decide +kernel
theorem dX8_lotOf100_0 : decode cX8_lotOf100 0 = .ok (.iload_n 0, 1) := by decide +kernel
theorem dX8_lotOf100_1 : decode cX8_lotOf100 1 = .ok (.sipush 135, 3) := by decide +kernel
theorem dX8_lotOf100_4 : decode cX8_lotOf100 4 = .ok (.invokestatic 157, 3) := by decide +kernel
theorem dX8_lotOf100_7 : decode cX8_lotOf100 7 = .ok (.iload_n 1, 1) := by decide +kernel
theorem dX8_lotOf100_8 : decode cX8_lotOf100 8 = .ok (.invokestatic 157, 3) := by decide +kernel
theorem dX8_lotOf100_11 : decode cX8_lotOf100 11 = .ok (.istore_n 2, 1) := by decide +kernel
theorem dX8_lotOf100_12 : decode cX8_lotOf100 12 = .ok (.iload_n 2, 1) := by decide +kernel
theorem dX8_lotOf100_13 : decode cX8_lotOf100 13 = .ok (.iconst 1, 1) := by decide +kernel
theorem dX8_lotOf100_14 : decode cX8_lotOf100 14 = .ok (.iushr, 1) := by decide +kernel
theorem dX8_lotOf100_15 : decode cX8_lotOf100 15 = .ok (.bipush 100, 2) := by decide +kernel
theorem dX8_lotOf100_17 : decode cX8_lotOf100 17 = .ok (.irem, 1) := by decide +kernel
theorem dX8_lotOf100_18 : decode cX8_lotOf100 18 = .ok (.ireturn, 1) := by decide +kernel
theorem dX8_mixedOnce_0 : decode cX8_mixedOnce 0 = .ok (.iload_n 0, 1) := by decide +kernel
theorem dX8_mixedOnce_1 : decode cX8_mixedOnce 1 = .ok (.iload_n 1, 1) := by decide +kernel
theorem dX8_mixedOnce_2 : decode cX8_mixedOnce 2 = .ok (.ixor, 1) := by decide +kernel
theorem dX8_mixedOnce_3 : decode cX8_mixedOnce 3 = .ok (.ldc 160, 2) := by decide +kernel
theorem dX8_mixedOnce_5 : decode cX8_mixedOnce 5 = .ok (.imul, 1) := by decide +kernel
theorem dX8_mixedOnce_6 : decode cX8_mixedOnce 6 = .ok (.sipush 12345, 3) := by decide +kernel
theorem dX8_mixedOnce_9 : decode cX8_mixedOnce 9 = .ok (.iadd, 1) := by decide +kernel
theorem dX8_mixedOnce_10 : decode cX8_mixedOnce 10 = .ok (.istore_n 2, 1) := by decide +kernel
theorem dX8_mixedOnce_11 : decode cX8_mixedOnce 11 = .ok (.iload_n 2, 1) := by decide +kernel
theorem dX8_mixedOnce_12 : decode cX8_mixedOnce 12 = .ok (.iload_n 2, 1) := by decide +kernel
theorem dX8_mixedOnce_13 : decode cX8_mixedOnce 13 = .ok (.bipush 15, 2) := by decide +kernel
theorem dX8_mixedOnce_15 : decode cX8_mixedOnce 15 = .ok (.iushr, 1) := by decide +kernel
theorem dX8_mixedOnce_16 : decode cX8_mixedOnce 16 = .ok (.ixor, 1) := by decide +kernel
theorem dX8_mixedOnce_17 : decode cX8_mixedOnce 17 = .ok (.ireturn, 1) := by decide +kernel
theorem dX8_goUntilFirst_0 : decode cX8_goUntilFirst 0 = .ok (.aload_n 0, 1) := by decide +kernel
theorem dX8_goUntilFirst_1 : decode cX8_goUntilFirst 1 = .ok (.getfield 15, 3) := by decide +kernel
theorem dX8_goUntilFirst_4 : decode cX8_goUntilFirst 4 = .ok (.getfield 135, 3) := by decide +kernel
theorem dX8_goUntilFirst_7 : decode cX8_goUntilFirst 7 = .ok (.istore_n 1, 1) := by decide +kernel
theorem dX8_goUntilFirst_8 : decode cX8_goUntilFirst 8 = .ok (.iconst 1, 1) := by decide +kernel
theorem dX8_goUntilFirst_9 : decode cX8_goUntilFirst 9 = .ok (.istore_n 2, 1) := by decide +kernel
theorem dX8_goUntilFirst_10 : decode cX8_goUntilFirst 10 = .ok (.iload_n 2, 1) := by decide +kernel
theorem dX8_goUntilFirst_11 : decode cX8_goUntilFirst 11 = .ok (.bipush 101, 2) := by decide +kernel
theorem dX8_goUntilFirst_13 : decode cX8_goUntilFirst 13 = .ok (.if_icmp .ge 35, 3) := by decide +kernel
theorem dX8_goUntilFirst_16 : decode cX8_goUntilFirst 16 = .ok (.aload_n 0, 1) := by decide +kernel
theorem dX8_goUntilFirst_17 : decode cX8_goUntilFirst 17 = .ok (.iconst 0, 1) := by decide +kernel
theorem dX8_goUntilFirst_18 : decode cX8_goUntilFirst 18 = .ok (.aload_n 0, 1) := by decide +kernel
theorem dX8_goUntilFirst_19 : decode cX8_goUntilFirst 19 = .ok (.getfield 9, 3) := by decide +kernel
theorem dX8_goUntilFirst_22 : decode cX8_goUntilFirst 22 = .ok (.getfield 161, 3) := by decide +kernel
theorem dX8_goUntilFirst_25 : decode cX8_goUntilFirst 25 = .ok (.iconst 0, 1) := by decide +kernel
theorem dX8_goUntilFirst_26 : decode cX8_goUntilFirst 26 = .ok (.invokevirtual 164, 3) := by decide +kernel
theorem dX8_goUntilFirst_29 : decode cX8_goUntilFirst 29 = .ok (.aload_n 0, 1) := by decide +kernel
theorem dX8_goUntilFirst_30 : decode cX8_goUntilFirst 30 = .ok (.getfield 15, 3) := by decide +kernel
theorem dX8_goUntilFirst_33 : decode cX8_goUntilFirst 33 = .ok (.getfield 135, 3) := by decide +kernel
theorem dX8_goUntilFirst_36 : decode cX8_goUntilFirst 36 = .ok (.iload_n 1, 1) := by decide +kernel
theorem dX8_goUntilFirst_37 : decode cX8_goUntilFirst 37 = .ok (.if_icmp .eq 5, 3) := by decide +kernel
theorem dX8_goUntilFirst_40 : decode cX8_goUntilFirst 40 = .ok (.iload_n 2, 1) := by decide +kernel
theorem dX8_goUntilFirst_41 : decode cX8_goUntilFirst 41 = .ok (.ireturn, 1) := by decide +kernel
theorem dX8_goUntilFirst_42 : decode cX8_goUntilFirst 42 = .ok (.iinc 2 1, 3) := by decide +kernel
theorem dX8_goUntilFirst_45 : decode cX8_goUntilFirst 45 = .ok (.goto (-35), 3) := by decide +kernel
theorem dX8_goUntilFirst_48 : decode cX8_goUntilFirst 48 = .ok (.bipush 101, 2) := by decide +kernel
theorem dX8_goUntilFirst_50 : decode cX8_goUntilFirst 50 = .ok (.ireturn, 1) := by decide +kernel
theorem dX9_init_0 : decode cX9_init 0 = .ok (.aload_n 0, 1) := by decide +kernel
theorem dX9_init_1 : decode cX9_init 1 = .ok (.invokespecial 1, 3) := by decide +kernel
theorem dX9_init_4 : decode cX9_init 4 = .ok (.aload_n 0, 1) := by decide +kernel
theorem dX9_init_5 : decode cX9_init 5 = .ok (.sipush 2000, 3) := by decide +kernel
theorem dX9_init_8 : decode cX9_init 8 = .ok (.newarray .byte, 2) := by decide +kernel
theorem dX9_init_10 : decode cX9_init 10 = .ok (.putfield 9, 3) := by decide +kernel
theorem dX9_init_13 : decode cX9_init 13 = .ok (.aload_n 0, 1) := by decide +kernel
theorem dX9_init_14 : decode cX9_init 14 = .ok (.new 13, 3) := by decide +kernel
theorem dX9_init_17 : decode cX9_init 17 = .ok (.dup, 1) := by decide +kernel
theorem dX9_init_18 : decode cX9_init 18 = .ok (.invokespecial 15, 3) := by decide +kernel
theorem dX9_init_21 : decode cX9_init 21 = .ok (.putfield 16, 3) := by decide +kernel
theorem dX9_init_24 : decode cX9_init 24 = .ok (.aload_n 0, 1) := by decide +kernel
theorem dX9_init_25 : decode cX9_init 25 = .ok (.new 13, 3) := by decide +kernel
theorem dX9_init_28 : decode cX9_init 28 = .ok (.dup, 1) := by decide +kernel
theorem dX9_init_29 : decode cX9_init 29 = .ok (.invokespecial 15, 3) := by decide +kernel
theorem dX9_init_32 : decode cX9_init 32 = .ok (.putfield 20, 3) := by decide +kernel
theorem dX9_init_35 : decode cX9_init 35 = .ok (.aload_n 0, 1) := by decide +kernel
theorem dX9_init_36 : decode cX9_init 36 = .ok (.new 23, 3) := by decide +kernel
theorem dX9_init_39 : decode cX9_init 39 = .ok (.dup, 1) := by decide +kernel
theorem dX9_init_40 : decode cX9_init 40 = .ok (.aload_n 0, 1) := by decide +kernel
theorem dX9_init_41 : decode cX9_init 41 = .ok (.getfield 9, 3) := by decide +kernel
theorem dX9_init_44 : decode cX9_init 44 = .ok (.aload_n 0, 1) := by decide +kernel
theorem dX9_init_45 : decode cX9_init 45 = .ok (.getfield 20, 3) := by decide +kernel
theorem dX9_init_48 : decode cX9_init 48 = .ok (.invokespecial 25, 3) := by decide +kernel
theorem dX9_init_51 : decode cX9_init 51 = .ok (.putfield 28, 3) := by decide +kernel
theorem dX9_init_54 : decode cX9_init 54 = .ok (.aload_n 0, 1) := by decide +kernel
theorem dX9_init_55 : decode cX9_init 55 = .ok (.new 32, 3) := by decide +kernel
theorem dX9_init_58 : decode cX9_init 58 = .ok (.dup, 1) := by decide +kernel
theorem dX9_init_59 : decode cX9_init 59 = .ok (.invokespecial 34, 3) := by decide +kernel
theorem dX9_init_62 : decode cX9_init 62 = .ok (.putfield 35, 3) := by decide +kernel
theorem dX9_init_65 : decode cX9_init 65 = .ok (.aload_n 0, 1) := by decide +kernel
theorem dX9_init_66 : decode cX9_init 66 = .ok (.new 32, 3) := by decide +kernel
theorem dX9_init_69 : decode cX9_init 69 = .ok (.dup, 1) := by decide +kernel
theorem dX9_init_70 : decode cX9_init 70 = .ok (.invokespecial 34, 3) := by decide +kernel
theorem dX9_init_73 : decode cX9_init 73 = .ok (.putfield 39, 3) := by decide +kernel
theorem dX9_init_76 : decode cX9_init 76 = .ok (.aload_n 0, 1) := by decide +kernel
theorem dX9_init_77 : decode cX9_init 77 = .ok (.new 42, 3) := by decide +kernel
theorem dX9_init_80 : decode cX9_init 80 = .ok (.dup, 1) := by decide +kernel
theorem dX9_init_81 : decode cX9_init 81 = .ok (.aload_n 0, 1) := by decide +kernel
theorem dX9_init_82 : decode cX9_init 82 = .ok (.getfield 16, 3) := by decide +kernel
theorem dX9_init_85 : decode cX9_init 85 = .ok (.aload_n 0, 1) := by decide +kernel
theorem dX9_init_86 : decode cX9_init 86 = .ok (.getfield 35, 3) := by decide +kernel
theorem dX9_init_89 : decode cX9_init 89 = .ok (.invokespecial 44, 3) := by decide +kernel
theorem dX9_init_92 : decode cX9_init 92 = .ok (.putfield 47, 3) := by decide +kernel
theorem dX9_init_95 : decode cX9_init 95 = .ok (.aload_n 0, 1) := by decide +kernel
theorem dX9_init_96 : decode cX9_init 96 = .ok (.new 42, 3) := by decide +kernel
theorem dX9_init_99 : decode cX9_init 99 = .ok (.dup, 1) := by decide +kernel
theorem dX9_init_100 : decode cX9_init 100 = .ok (.aload_n 0, 1) := by decide +kernel
theorem dX9_init_101 : decode cX9_init 101 = .ok (.getfield 16, 3) := by decide +kernel
theorem dX9_init_104 : decode cX9_init 104 = .ok (.aload_n 0, 1) := by decide +kernel
theorem dX9_init_105 : decode cX9_init 105 = .ok (.getfield 39, 3) := by decide +kernel
theorem dX9_init_108 : decode cX9_init 108 = .ok (.invokespecial 44, 3) := by decide +kernel
theorem dX9_init_111 : decode cX9_init 111 = .ok (.putfield 51, 3) := by decide +kernel
theorem dX9_init_114 : decode cX9_init 114 = .ok (.aload_n 0, 1) := by decide +kernel
theorem dX9_init_115 : decode cX9_init 115 = .ok (.new 54, 3) := by decide +kernel
theorem dX9_init_118 : decode cX9_init 118 = .ok (.dup, 1) := by decide +kernel
theorem dX9_init_119 : decode cX9_init 119 = .ok (.invokespecial 56, 3) := by decide +kernel
theorem dX9_init_122 : decode cX9_init 122 = .ok (.putfield 57, 3) := by decide +kernel
theorem dX9_init_125 : decode cX9_init 125 = .ok (.aload_n 0, 1) := by decide +kernel
theorem dX9_init_126 : decode cX9_init 126 = .ok (.iconst 3, 1) := by decide +kernel
theorem dX9_init_127 : decode cX9_init 127 = .ok (.anewarray 32, 3) := by decide +kernel
theorem dX9_init_130 : decode cX9_init 130 = .ok (.putfield 61, 3) := by decide +kernel
theorem dX9_init_133 : decode cX9_init 133 = .ok (.iconst 0, 1) := by decide +kernel
theorem dX9_init_134 : decode cX9_init 134 = .ok (.istore_n 1, 1) := by decide +kernel
theorem dX9_init_135 : decode cX9_init 135 = .ok (.iload_n 1, 1) := by decide +kernel
theorem dX9_init_136 : decode cX9_init 136 = .ok (.iconst 3, 1) := by decide +kernel
theorem dX9_init_137 : decode cX9_init 137 = .ok (.if_icmp .ge 22, 3) := by decide +kernel
theorem dX9_init_140 : decode cX9_init 140 = .ok (.aload_n 0, 1) := by decide +kernel
theorem dX9_init_141 : decode cX9_init 141 = .ok (.getfield 61, 3) := by decide +kernel
theorem dX9_init_144 : decode cX9_init 144 = .ok (.iload_n 1, 1) := by decide +kernel
theorem dX9_init_145 : decode cX9_init 145 = .ok (.new 32, 3) := by decide +kernel
theorem dX9_init_148 : decode cX9_init 148 = .ok (.dup, 1) := by decide +kernel
theorem dX9_init_149 : decode cX9_init 149 = .ok (.invokespecial 34, 3) := by decide +kernel
theorem dX9_init_152 : decode cX9_init 152 = .ok (.aastore, 1) := by decide +kernel
theorem dX9_init_153 : decode cX9_init 153 = .ok (.iinc 1 1, 3) := by decide +kernel
theorem dX9_init_156 : decode cX9_init 156 = .ok (.goto (-21), 3) := by decide +kernel
theorem dX9_init_159 : decode cX9_init 159 = .ok (.aload_n 0, 1) := by decide +kernel
theorem dX9_init_160 : decode cX9_init 160 = .ok (.new 65, 3) := by decide +kernel
theorem dX9_init_163 : decode cX9_init 163 = .ok (.dup, 1) := by decide +kernel
theorem dX9_init_164 : decode cX9_init 164 = .ok (.invokespecial 67, 3) := by decide +kernel
theorem dX9_init_167 : decode cX9_init 167 = .ok (.putfield 68, 3) := by decide +kernel
theorem dX9_init_170 : decode cX9_init 170 = .ok (.aload_n 0, 1) := by decide +kernel
theorem dX9_init_171 : decode cX9_init 171 = .ok (.new 72, 3) := by decide +kernel
theorem dX9_init_174 : decode cX9_init 174 = .ok (.dup, 1) := by decide +kernel
theorem dX9_init_175 : decode cX9_init 175 = .ok (.invokespecial 74, 3) := by decide +kernel
theorem dX9_init_178 : decode cX9_init 178 = .ok (.putfield 75, 3) := by decide +kernel
theorem dX9_init_181 : decode cX9_init 181 = .ok (.return_, 1) := by decide +kernel
theorem dX9_feed_0 : decode cX9_feed 0 = .ok (.aload_n 0, 1) := by decide +kernel
theorem dX9_feed_1 : decode cX9_feed 1 = .ok (.getfield 79, 3) := by decide +kernel
theorem dX9_feed_4 : decode cX9_feed 4 = .ok (.sipush 1980, 3) := by decide +kernel
theorem dX9_feed_7 : decode cX9_feed 7 = .ok (.if_icmp .le 5, 3) := by decide +kernel
theorem dX9_feed_10 : decode cX9_feed 10 = .ok (.iconst (-1), 1) := by decide +kernel
theorem dX9_feed_11 : decode cX9_feed 11 = .ok (.ireturn, 1) := by decide +kernel
theorem dX9_feed_12 : decode cX9_feed 12 = .ok (.aload_n 0, 1) := by decide +kernel
theorem dX9_feed_13 : decode cX9_feed 13 = .ok (.iload_n 1, 1) := by decide +kernel
theorem dX9_feed_14 : decode cX9_feed 14 = .ok (.invokevirtual 83, 3) := by decide +kernel
theorem dX9_feed_17 : decode cX9_feed 17 = .ok (.aload_n 0, 1) := by decide +kernel
theorem dX9_feed_18 : decode cX9_feed 18 = .ok (.iload_n 2, 1) := by decide +kernel
theorem dX9_feed_19 : decode cX9_feed 19 = .ok (.invokevirtual 83, 3) := by decide +kernel
theorem dX9_feed_22 : decode cX9_feed 22 = .ok (.aload_n 0, 1) := by decide +kernel
theorem dX9_feed_23 : decode cX9_feed 23 = .ok (.iload_n 3, 1) := by decide +kernel
theorem dX9_feed_24 : decode cX9_feed 24 = .ok (.invokevirtual 83, 3) := by decide +kernel
theorem dX9_feed_27 : decode cX9_feed 27 = .ok (.aload_n 0, 1) := by decide +kernel
theorem dX9_feed_28 : decode cX9_feed 28 = .ok (.iload 4, 2) := by decide +kernel
theorem dX9_feed_30 : decode cX9_feed 30 = .ok (.invokevirtual 83, 3) := by decide +kernel
theorem dX9_feed_33 : decode cX9_feed 33 = .ok (.aload_n 0, 1) := by decide +kernel
theorem dX9_feed_34 : decode cX9_feed 34 = .ok (.iload 5, 2) := by decide +kernel
theorem dX9_feed_36 : decode cX9_feed 36 = .ok (.invokevirtual 83, 3) := by decide +kernel
theorem dX9_feed_39 : decode cX9_feed 39 = .ok (.aload_n 0, 1) := by decide +kernel
theorem dX9_feed_40 : decode cX9_feed 40 = .ok (.getfield 79, 3) := by decide +kernel
theorem dX9_feed_43 : decode cX9_feed 43 = .ok (.ireturn, 1) := by decide +kernel
theorem dX9_feedFour_0 : decode cX9_feedFour 0 = .ok (.bipush 24, 2) := by decide +kernel
theorem dX9_feedFour_2 : decode cX9_feedFour 2 = .ok (.istore_n 2, 1) := by decide +kernel
theorem dX9_feedFour_3 : decode cX9_feedFour 3 = .ok (.iload_n 2, 1) := by decide +kernel
theorem dX9_feedFour_4 : decode cX9_feedFour 4 = .ok (.ifCond .lt 44, 3) := by decide +kernel
theorem dX9_feedFour_7 : decode cX9_feedFour 7 = .ok (.aload_n 0, 1) := by decide +kernel
theorem dX9_feedFour_8 : decode cX9_feedFour 8 = .ok (.getfield 79, 3) := by decide +kernel
theorem dX9_feedFour_11 : decode cX9_feedFour 11 = .ok (.aload_n 0, 1) := by decide +kernel
theorem dX9_feedFour_12 : decode cX9_feedFour 12 = .ok (.getfield 9, 3) := by decide +kernel
theorem dX9_feedFour_15 : decode cX9_feedFour 15 = .ok (.arraylength, 1) := by decide +kernel
theorem dX9_feedFour_16 : decode cX9_feedFour 16 = .ok (.if_icmp .ge 26, 3) := by decide +kernel
theorem dX9_feedFour_19 : decode cX9_feedFour 19 = .ok (.aload_n 0, 1) := by decide +kernel
theorem dX9_feedFour_20 : decode cX9_feedFour 20 = .ok (.getfield 9, 3) := by decide +kernel
theorem dX9_feedFour_23 : decode cX9_feedFour 23 = .ok (.aload_n 0, 1) := by decide +kernel
theorem dX9_feedFour_24 : decode cX9_feedFour 24 = .ok (.getfield 79, 3) := by decide +kernel
theorem dX9_feedFour_27 : decode cX9_feedFour 27 = .ok (.iload_n 1, 1) := by decide +kernel
theorem dX9_feedFour_28 : decode cX9_feedFour 28 = .ok (.iload_n 2, 1) := by decide +kernel
theorem dX9_feedFour_29 : decode cX9_feedFour 29 = .ok (.iushr, 1) := by decide +kernel
theorem dX9_feedFour_30 : decode cX9_feedFour 30 = .ok (.i2b, 1) := by decide +kernel
theorem dX9_feedFour_31 : decode cX9_feedFour 31 = .ok (.bastore, 1) := by decide +kernel
theorem dX9_feedFour_32 : decode cX9_feedFour 32 = .ok (.aload_n 0, 1) := by decide +kernel
theorem dX9_feedFour_33 : decode cX9_feedFour 33 = .ok (.dup, 1) := by decide +kernel
theorem dX9_feedFour_34 : decode cX9_feedFour 34 = .ok (.getfield 79, 3) := by decide +kernel
theorem dX9_feedFour_37 : decode cX9_feedFour 37 = .ok (.iconst 1, 1) := by decide +kernel
theorem dX9_feedFour_38 : decode cX9_feedFour 38 = .ok (.iadd, 1) := by decide +kernel
theorem dX9_feedFour_39 : decode cX9_feedFour 39 = .ok (.putfield 79, 3) := by decide +kernel
theorem dX9_feedFour_42 : decode cX9_feedFour 42 = .ok (.iinc 2 (-8), 3) := by decide +kernel
theorem dX9_feedFour_45 : decode cX9_feedFour 45 = .ok (.goto (-42), 3) := by decide +kernel
theorem dX9_feedFour_48 : decode cX9_feedFour 48 = .ok (.return_, 1) := by decide +kernel
theorem dX9_back_0 : decode cX9_back 0 = .ok (.iload_n 1, 1) := by decide +kernel
theorem dX9_back_1 : decode cX9_back 1 = .ok (.ifCond .lt 11, 3) := by decide +kernel
theorem dX9_back_4 : decode cX9_back 4 = .ok (.iload_n 1, 1) := by decide +kernel
theorem dX9_back_5 : decode cX9_back 5 = .ok (.aload_n 0, 1) := by decide +kernel
theorem dX9_back_6 : decode cX9_back 6 = .ok (.getfield 79, 3) := by decide +kernel
theorem dX9_back_9 : decode cX9_back 9 = .ok (.if_icmp .le 5, 3) := by decide +kernel
theorem dX9_back_12 : decode cX9_back 12 = .ok (.iconst (-1), 1) := by decide +kernel
theorem dX9_back_13 : decode cX9_back 13 = .ok (.ireturn, 1) := by decide +kernel
theorem dX9_back_14 : decode cX9_back 14 = .ok (.aload_n 0, 1) := by decide +kernel
theorem dX9_back_15 : decode cX9_back 15 = .ok (.dup, 1) := by decide +kernel
theorem dX9_back_16 : decode cX9_back 16 = .ok (.getfield 79, 3) := by decide +kernel
theorem dX9_back_19 : decode cX9_back 19 = .ok (.iload_n 1, 1) := by decide +kernel
theorem dX9_back_20 : decode cX9_back 20 = .ok (.isub, 1) := by decide +kernel
theorem dX9_back_21 : decode cX9_back 21 = .ok (.putfield 79, 3) := by decide +kernel
theorem dX9_back_24 : decode cX9_back 24 = .ok (.aload_n 0, 1) := by decide +kernel
theorem dX9_back_25 : decode cX9_back 25 = .ok (.getfield 79, 3) := by decide +kernel
theorem dX9_back_28 : decode cX9_back 28 = .ok (.ireturn, 1) := by decide +kernel
theorem dX9_read_0 : decode cX9_read 0 = .ok (.aload_n 0, 1) := by decide +kernel
theorem dX9_read_1 : decode cX9_read 1 = .ok (.getfield 28, 3) := by decide +kernel
theorem dX9_read_4 : decode cX9_read 4 = .ok (.aload_n 0, 1) := by decide +kernel
theorem dX9_read_5 : decode cX9_read 5 = .ok (.getfield 79, 3) := by decide +kernel
theorem dX9_read_8 : decode cX9_read 8 = .ok (.aload_n 0, 1) := by decide +kernel
theorem dX9_read_9 : decode cX9_read 9 = .ok (.getfield 20, 3) := by decide +kernel
theorem dX9_read_12 : decode cX9_read 12 = .ok (.invokevirtual 87, 3) := by decide +kernel
theorem dX9_read_15 : decode cX9_read 15 = .ok (.istore_n 1, 1) := by decide +kernel
theorem dX9_read_16 : decode cX9_read 16 = .ok (.aload_n 0, 1) := by decide +kernel
theorem dX9_read_17 : decode cX9_read 17 = .ok (.iconst 0, 1) := by decide +kernel
theorem dX9_read_18 : decode cX9_read 18 = .ok (.putfield 79, 3) := by decide +kernel
theorem dX9_read_21 : decode cX9_read 21 = .ok (.iload_n 1, 1) := by decide +kernel
theorem dX9_read_22 : decode cX9_read 22 = .ok (.ifCond .ne 7, 3) := by decide +kernel
theorem dX9_read_25 : decode cX9_read 25 = .ok (.aload_n 0, 1) := by decide +kernel
theorem dX9_read_26 : decode cX9_read 26 = .ok (.invokevirtual 91, 3) := by decide +kernel
theorem dX9_read_29 : decode cX9_read 29 = .ok (.iload_n 1, 1) := by decide +kernel
theorem dX9_read_30 : decode cX9_read 30 = .ok (.ireturn, 1) := by decide +kernel
theorem dX9_goOnFromSpareBook_0 : decode cX9_goOnFromSpareBook 0 = .ok (.aload_n 0, 1) := by decide +kernel
theorem dX9_goOnFromSpareBook_1 : decode cX9_goOnFromSpareBook 1 = .ok (.getfield 20, 3) := by decide +kernel
theorem dX9_goOnFromSpareBook_4 : decode cX9_goOnFromSpareBook 4 = .ok (.astore_n 1, 1) := by decide +kernel
theorem dX9_goOnFromSpareBook_5 : decode cX9_goOnFromSpareBook 5 = .ok (.aload_n 0, 1) := by decide +kernel
theorem dX9_goOnFromSpareBook_6 : decode cX9_goOnFromSpareBook 6 = .ok (.aload_n 0, 1) := by decide +kernel
theorem dX9_goOnFromSpareBook_7 : decode cX9_goOnFromSpareBook 7 = .ok (.getfield 16, 3) := by decide +kernel
theorem dX9_goOnFromSpareBook_10 : decode cX9_goOnFromSpareBook 10 = .ok (.putfield 20, 3) := by decide +kernel
theorem dX9_goOnFromSpareBook_13 : decode cX9_goOnFromSpareBook 13 = .ok (.aload_n 0, 1) := by decide +kernel
theorem dX9_goOnFromSpareBook_14 : decode cX9_goOnFromSpareBook 14 = .ok (.aload_n 1, 1) := by decide +kernel
theorem dX9_goOnFromSpareBook_15 : decode cX9_goOnFromSpareBook 15 = .ok (.putfield 16, 3) := by decide +kernel
theorem dX9_goOnFromSpareBook_18 : decode cX9_goOnFromSpareBook 18 = .ok (.aload_n 0, 1) := by decide +kernel
theorem dX9_goOnFromSpareBook_19 : decode cX9_goOnFromSpareBook 19 = .ok (.getfield 47, 3) := by decide +kernel
theorem dX9_goOnFromSpareBook_22 : decode cX9_goOnFromSpareBook 22 = .ok (.aload_n 0, 1) := by decide +kernel
theorem dX9_goOnFromSpareBook_23 : decode cX9_goOnFromSpareBook 23 = .ok (.getfield 16, 3) := by decide +kernel
theorem dX9_goOnFromSpareBook_26 : decode cX9_goOnFromSpareBook 26 = .ok (.putfield 94, 3) := by decide +kernel
theorem dX9_goOnFromSpareBook_29 : decode cX9_goOnFromSpareBook 29 = .ok (.aload_n 0, 1) := by decide +kernel
theorem dX9_goOnFromSpareBook_30 : decode cX9_goOnFromSpareBook 30 = .ok (.getfield 51, 3) := by decide +kernel
theorem dX9_goOnFromSpareBook_33 : decode cX9_goOnFromSpareBook 33 = .ok (.aload_n 0, 1) := by decide +kernel
theorem dX9_goOnFromSpareBook_34 : decode cX9_goOnFromSpareBook 34 = .ok (.getfield 16, 3) := by decide +kernel
theorem dX9_goOnFromSpareBook_37 : decode cX9_goOnFromSpareBook 37 = .ok (.putfield 94, 3) := by decide +kernel
theorem dX9_goOnFromSpareBook_40 : decode cX9_goOnFromSpareBook 40 = .ok (.aload_n 0, 1) := by decide +kernel
theorem dX9_goOnFromSpareBook_41 : decode cX9_goOnFromSpareBook 41 = .ok (.getfield 35, 3) := by decide +kernel
theorem dX9_goOnFromSpareBook_44 : decode cX9_goOnFromSpareBook 44 = .ok (.aload_n 0, 1) := by decide +kernel
theorem dX9_goOnFromSpareBook_45 : decode cX9_goOnFromSpareBook 45 = .ok (.getfield 16, 3) := by decide +kernel
theorem dX9_goOnFromSpareBook_48 : decode cX9_goOnFromSpareBook 48 = .ok (.getfield 95, 3) := by decide +kernel
theorem dX9_goOnFromSpareBook_51 : decode cX9_goOnFromSpareBook 51 = .ok (.invokevirtual 98, 3) := by decide +kernel
theorem dX9_goOnFromSpareBook_54 : decode cX9_goOnFromSpareBook 54 = .ok (.aload_n 0, 1) := by decide +kernel
theorem dX9_goOnFromSpareBook_55 : decode cX9_goOnFromSpareBook 55 = .ok (.getfield 57, 3) := by decide +kernel
theorem dX9_goOnFromSpareBook_58 : decode cX9_goOnFromSpareBook 58 = .ok (.invokevirtual 102, 3) := by decide +kernel
theorem dX9_goOnFromSpareBook_61 : decode cX9_goOnFromSpareBook 61 = .ok (.aload_n 0, 1) := by decide +kernel
theorem dX9_goOnFromSpareBook_62 : decode cX9_goOnFromSpareBook 62 = .ok (.iconst 0, 1) := by decide +kernel
theorem dX9_goOnFromSpareBook_63 : decode cX9_goOnFromSpareBook 63 = .ok (.putfield 105, 3) := by decide +kernel
theorem dX9_goOnFromSpareBook_66 : decode cX9_goOnFromSpareBook 66 = .ok (.aload_n 0, 1) := by decide +kernel
theorem dX9_goOnFromSpareBook_67 : decode cX9_goOnFromSpareBook 67 = .ok (.getfield 75, 3) := by decide +kernel
theorem dX9_goOnFromSpareBook_70 : decode cX9_goOnFromSpareBook 70 = .ok (.invokevirtual 108, 3) := by decide +kernel
theorem dX9_goOnFromSpareBook_73 : decode cX9_goOnFromSpareBook 73 = .ok (.return_, 1) := by decide +kernel
theorem dX9_place_0 : decode cX9_place 0 = .ok (.aload_n 0, 1) := by decide +kernel
theorem dX9_place_1 : decode cX9_place 1 = .ok (.getfield 28, 3) := by decide +kernel
theorem dX9_place_4 : decode cX9_place 4 = .ok (.getfield 109, 3) := by decide +kernel
theorem dX9_place_7 : decode cX9_place 7 = .ok (.ireturn, 1) := by decide +kernel
theorem dX9_isMermaid_0 : decode cX9_isMermaid 0 = .ok (.iload_n 1, 1) := by decide +kernel
theorem dX9_isMermaid_1 : decode cX9_isMermaid 1 = .ok (.ifCond .lt 18, 3) := by decide +kernel
theorem dX9_isMermaid_4 : decode cX9_isMermaid 4 = .ok (.iload_n 1, 1) := by decide +kernel
theorem dX9_isMermaid_5 : decode cX9_isMermaid 5 = .ok (.aload_n 0, 1) := by decide +kernel
theorem dX9_isMermaid_6 : decode cX9_isMermaid 6 = .ok (.getfield 16, 3) := by decide +kernel
theorem dX9_isMermaid_9 : decode cX9_isMermaid 9 = .ok (.getfield 112, 3) := by decide +kernel
theorem dX9_isMermaid_12 : decode cX9_isMermaid 12 = .ok (.if_icmp .ge 7, 3) := by decide +kernel
theorem dX9_isMermaid_15 : decode cX9_isMermaid 15 = .ok (.iconst 1, 1) := by decide +kernel
theorem dX9_isMermaid_16 : decode cX9_isMermaid 16 = .ok (.goto 4, 3) := by decide +kernel
theorem dX9_isMermaid_19 : decode cX9_isMermaid 19 = .ok (.iconst 0, 1) := by decide +kernel
theorem dX9_isMermaid_20 : decode cX9_isMermaid 20 = .ok (.ireturn, 1) := by decide +kernel
theorem dX9_isPerson_0 : decode cX9_isPerson 0 = .ok (.iload_n 1, 1) := by decide +kernel
theorem dX9_isPerson_1 : decode cX9_isPerson 1 = .ok (.ifCond .lt 18, 3) := by decide +kernel
theorem dX9_isPerson_4 : decode cX9_isPerson 4 = .ok (.iload_n 1, 1) := by decide +kernel
theorem dX9_isPerson_5 : decode cX9_isPerson 5 = .ok (.aload_n 0, 1) := by decide +kernel
theorem dX9_isPerson_6 : decode cX9_isPerson 6 = .ok (.getfield 16, 3) := by decide +kernel
theorem dX9_isPerson_9 : decode cX9_isPerson 9 = .ok (.getfield 115, 3) := by decide +kernel
theorem dX9_isPerson_12 : decode cX9_isPerson 12 = .ok (.if_icmp .ge 7, 3) := by decide +kernel
theorem dX9_isPerson_15 : decode cX9_isPerson 15 = .ok (.iconst 1, 1) := by decide +kernel
theorem dX9_isPerson_16 : decode cX9_isPerson 16 = .ok (.goto 4, 3) := by decide +kernel
theorem dX9_isPerson_19 : decode cX9_isPerson 19 = .ok (.iconst 0, 1) := by decide +kernel
theorem dX9_isPerson_20 : decode cX9_isPerson 20 = .ok (.ireturn, 1) := by decide +kernel
theorem dX9_isStrand_0 : decode cX9_isStrand 0 = .ok (.iload_n 1, 1) := by decide +kernel
theorem dX9_isStrand_1 : decode cX9_isStrand 1 = .ok (.ifCond .lt 18, 3) := by decide +kernel
theorem dX9_isStrand_4 : decode cX9_isStrand 4 = .ok (.iload_n 1, 1) := by decide +kernel
theorem dX9_isStrand_5 : decode cX9_isStrand 5 = .ok (.aload_n 0, 1) := by decide +kernel
theorem dX9_isStrand_6 : decode cX9_isStrand 6 = .ok (.getfield 16, 3) := by decide +kernel
theorem dX9_isStrand_9 : decode cX9_isStrand 9 = .ok (.getfield 118, 3) := by decide +kernel
theorem dX9_isStrand_12 : decode cX9_isStrand 12 = .ok (.if_icmp .ge 7, 3) := by decide +kernel
theorem dX9_isStrand_15 : decode cX9_isStrand 15 = .ok (.iconst 1, 1) := by decide +kernel
theorem dX9_isStrand_16 : decode cX9_isStrand 16 = .ok (.goto 4, 3) := by decide +kernel
theorem dX9_isStrand_19 : decode cX9_isStrand 19 = .ok (.iconst 0, 1) := by decide +kernel
theorem dX9_isStrand_20 : decode cX9_isStrand 20 = .ok (.ireturn, 1) := by decide +kernel
theorem dX9_isWithin_0 : decode cX9_isWithin 0 = .ok (.iload_n 0, 1) := by decide +kernel
theorem dX9_isWithin_1 : decode cX9_isWithin 1 = .ok (.iload_n 1, 1) := by decide +kernel
theorem dX9_isWithin_2 : decode cX9_isWithin 2 = .ok (.if_icmp .lt 12, 3) := by decide +kernel
theorem dX9_isWithin_5 : decode cX9_isWithin 5 = .ok (.iload_n 0, 1) := by decide +kernel
theorem dX9_isWithin_6 : decode cX9_isWithin 6 = .ok (.iload_n 2, 1) := by decide +kernel
theorem dX9_isWithin_7 : decode cX9_isWithin 7 = .ok (.if_icmp .gt 7, 3) := by decide +kernel
theorem dX9_isWithin_10 : decode cX9_isWithin 10 = .ok (.iconst 1, 1) := by decide +kernel
theorem dX9_isWithin_11 : decode cX9_isWithin 11 = .ok (.goto 4, 3) := by decide +kernel
theorem dX9_isWithin_14 : decode cX9_isWithin 14 = .ok (.iconst 0, 1) := by decide +kernel
theorem dX9_isWithin_15 : decode cX9_isWithin 15 = .ok (.ireturn, 1) := by decide +kernel
theorem dX9_mermaid_0 : decode cX9_mermaid 0 = .ok (.aload_n 0, 1) := by decide +kernel
theorem dX9_mermaid_1 : decode cX9_mermaid 1 = .ok (.iload_n 1, 1) := by decide +kernel
theorem dX9_mermaid_2 : decode cX9_mermaid 2 = .ok (.invokevirtual 121, 3) := by decide +kernel
theorem dX9_mermaid_5 : decode cX9_mermaid 5 = .ok (.ifCond .ne 6, 3) := by decide +kernel
theorem dX9_mermaid_8 : decode cX9_mermaid 8 = .ok (.bipush (-100), 2) := by decide +kernel
theorem dX9_mermaid_10 : decode cX9_mermaid 10 = .ok (.ireturn, 1) := by decide +kernel
theorem dX9_mermaid_11 : decode cX9_mermaid 11 = .ok (.iload_n 2, 1) := by decide +kernel
theorem dX9_mermaid_12 : decode cX9_mermaid 12 = .ok (.tableswitch 103 0 4 #[36, 48, 60, 73, 86], 36) := by decide +kernel
theorem dX9_mermaid_48 : decode cX9_mermaid 48 = .ok (.aload_n 0, 1) := by decide +kernel
theorem dX9_mermaid_49 : decode cX9_mermaid 49 = .ok (.getfield 35, 3) := by decide +kernel
theorem dX9_mermaid_52 : decode cX9_mermaid 52 = .ok (.getfield 125, 3) := by decide +kernel
theorem dX9_mermaid_55 : decode cX9_mermaid 55 = .ok (.iconst 0, 1) := by decide +kernel
theorem dX9_mermaid_56 : decode cX9_mermaid 56 = .ok (.iload_n 1, 1) := by decide +kernel
theorem dX9_mermaid_57 : decode cX9_mermaid 57 = .ok (.iadd, 1) := by decide +kernel
theorem dX9_mermaid_58 : decode cX9_mermaid 58 = .ok (.iaload, 1) := by decide +kernel
theorem dX9_mermaid_59 : decode cX9_mermaid 59 = .ok (.ireturn, 1) := by decide +kernel
theorem dX9_mermaid_60 : decode cX9_mermaid 60 = .ok (.aload_n 0, 1) := by decide +kernel
theorem dX9_mermaid_61 : decode cX9_mermaid 61 = .ok (.getfield 35, 3) := by decide +kernel
theorem dX9_mermaid_64 : decode cX9_mermaid 64 = .ok (.getfield 125, 3) := by decide +kernel
theorem dX9_mermaid_67 : decode cX9_mermaid 67 = .ok (.iconst 4, 1) := by decide +kernel
theorem dX9_mermaid_68 : decode cX9_mermaid 68 = .ok (.iload_n 1, 1) := by decide +kernel
theorem dX9_mermaid_69 : decode cX9_mermaid 69 = .ok (.iadd, 1) := by decide +kernel
theorem dX9_mermaid_70 : decode cX9_mermaid 70 = .ok (.iaload, 1) := by decide +kernel
theorem dX9_mermaid_71 : decode cX9_mermaid 71 = .ok (.ireturn, 1) := by decide +kernel
theorem dX9_mermaid_72 : decode cX9_mermaid 72 = .ok (.aload_n 0, 1) := by decide +kernel
theorem dX9_mermaid_73 : decode cX9_mermaid 73 = .ok (.getfield 35, 3) := by decide +kernel
theorem dX9_mermaid_76 : decode cX9_mermaid 76 = .ok (.getfield 125, 3) := by decide +kernel
theorem dX9_mermaid_79 : decode cX9_mermaid 79 = .ok (.bipush 8, 2) := by decide +kernel
theorem dX9_mermaid_81 : decode cX9_mermaid 81 = .ok (.iload_n 1, 1) := by decide +kernel
theorem dX9_mermaid_82 : decode cX9_mermaid 82 = .ok (.iadd, 1) := by decide +kernel
theorem dX9_mermaid_83 : decode cX9_mermaid 83 = .ok (.iaload, 1) := by decide +kernel
theorem dX9_mermaid_84 : decode cX9_mermaid 84 = .ok (.ireturn, 1) := by decide +kernel
theorem dX9_mermaid_85 : decode cX9_mermaid 85 = .ok (.aload_n 0, 1) := by decide +kernel
theorem dX9_mermaid_86 : decode cX9_mermaid 86 = .ok (.getfield 35, 3) := by decide +kernel
theorem dX9_mermaid_89 : decode cX9_mermaid 89 = .ok (.getfield 125, 3) := by decide +kernel
theorem dX9_mermaid_92 : decode cX9_mermaid 92 = .ok (.bipush 12, 2) := by decide +kernel
theorem dX9_mermaid_94 : decode cX9_mermaid 94 = .ok (.iload_n 1, 1) := by decide +kernel
theorem dX9_mermaid_95 : decode cX9_mermaid 95 = .ok (.iadd, 1) := by decide +kernel
theorem dX9_mermaid_96 : decode cX9_mermaid 96 = .ok (.iaload, 1) := by decide +kernel
theorem dX9_mermaid_97 : decode cX9_mermaid 97 = .ok (.ireturn, 1) := by decide +kernel
theorem dX9_mermaid_98 : decode cX9_mermaid 98 = .ok (.aload_n 0, 1) := by decide +kernel
theorem dX9_mermaid_99 : decode cX9_mermaid 99 = .ok (.getfield 35, 3) := by decide +kernel
theorem dX9_mermaid_102 : decode cX9_mermaid 102 = .ok (.iload_n 1, 1) := by decide +kernel
theorem dX9_mermaid_103 : decode cX9_mermaid 103 = .ok (.invokevirtual 129, 3) := by decide +kernel
theorem dX9_mermaid_106 : decode cX9_mermaid 106 = .ok (.ifCond .eq 7, 3) := by decide +kernel
theorem dX9_mermaid_109 : decode cX9_mermaid 109 = .ok (.iconst 0, 1) := by decide +kernel
theorem dX9_mermaid_110 : decode cX9_mermaid 110 = .ok (.goto 4, 3) := by decide +kernel
theorem dX9_mermaid_113 : decode cX9_mermaid 113 = .ok (.iconst 1, 1) := by decide +kernel
theorem dX9_mermaid_114 : decode cX9_mermaid 114 = .ok (.ireturn, 1) := by decide +kernel
theorem dX9_mermaid_115 : decode cX9_mermaid 115 = .ok (.bipush (-100), 2) := by decide +kernel
theorem dX9_mermaid_117 : decode cX9_mermaid 117 = .ok (.ireturn, 1) := by decide +kernel
theorem dX9_person_0 : decode cX9_person 0 = .ok (.aload_n 0, 1) := by decide +kernel
theorem dX9_person_1 : decode cX9_person 1 = .ok (.iload_n 1, 1) := by decide +kernel
theorem dX9_person_2 : decode cX9_person 2 = .ok (.invokevirtual 132, 3) := by decide +kernel
theorem dX9_person_5 : decode cX9_person 5 = .ok (.ifCond .ne 6, 3) := by decide +kernel
theorem dX9_person_8 : decode cX9_person 8 = .ok (.ldc 135, 2) := by decide +kernel
theorem dX9_person_10 : decode cX9_person 10 = .ok (.ireturn, 1) := by decide +kernel
theorem dX9_person_11 : decode cX9_person 11 = .ok (.aload_n 0, 1) := by decide +kernel
theorem dX9_person_12 : decode cX9_person 12 = .ok (.getfield 35, 3) := by decide +kernel
theorem dX9_person_15 : decode cX9_person 15 = .ok (.getfield 125, 3) := by decide +kernel
theorem dX9_person_18 : decode cX9_person 18 = .ok (.bipush 16, 2) := by decide +kernel
theorem dX9_person_20 : decode cX9_person 20 = .ok (.iload_n 1, 1) := by decide +kernel
theorem dX9_person_21 : decode cX9_person 21 = .ok (.iadd, 1) := by decide +kernel
theorem dX9_person_22 : decode cX9_person 22 = .ok (.iaload, 1) := by decide +kernel
theorem dX9_person_23 : decode cX9_person 23 = .ok (.istore_n 3, 1) := by decide +kernel
theorem dX9_person_24 : decode cX9_person 24 = .ok (.aload_n 0, 1) := by decide +kernel
theorem dX9_person_25 : decode cX9_person 25 = .ok (.getfield 35, 3) := by decide +kernel
theorem dX9_person_28 : decode cX9_person 28 = .ok (.getfield 125, 3) := by decide +kernel
theorem dX9_person_31 : decode cX9_person 31 = .ok (.bipush 22, 2) := by decide +kernel
theorem dX9_person_33 : decode cX9_person 33 = .ok (.iload_n 1, 1) := by decide +kernel
theorem dX9_person_34 : decode cX9_person 34 = .ok (.iadd, 1) := by decide +kernel
theorem dX9_person_35 : decode cX9_person 35 = .ok (.iaload, 1) := by decide +kernel
theorem dX9_person_36 : decode cX9_person 36 = .ok (.istore 4, 2) := by decide +kernel
theorem dX9_person_38 : decode cX9_person 38 = .ok (.iload_n 2, 1) := by decide +kernel
theorem dX9_person_39 : decode cX9_person 39 = .ok (.tableswitch 149 0 8 #[49, 51, 54, 64, 81, 100, 119, 131, 140], 49) := by decide +kernel
theorem dX9_person_88 : decode cX9_person 88 = .ok (.iload_n 3, 1) := by decide +kernel
theorem dX9_person_89 : decode cX9_person 89 = .ok (.ireturn, 1) := by decide +kernel
theorem dX9_person_90 : decode cX9_person 90 = .ok (.iload 4, 2) := by decide +kernel
theorem dX9_person_92 : decode cX9_person 92 = .ok (.ireturn, 1) := by decide +kernel
theorem dX9_person_93 : decode cX9_person 93 = .ok (.aload_n 0, 1) := by decide +kernel
theorem dX9_person_94 : decode cX9_person 94 = .ok (.getfield 16, 3) := by decide +kernel
theorem dX9_person_97 : decode cX9_person 97 = .ok (.getfield 136, 3) := by decide +kernel
theorem dX9_person_100 : decode cX9_person 100 = .ok (.iload_n 1, 1) := by decide +kernel
theorem dX9_person_101 : decode cX9_person 101 = .ok (.iaload, 1) := by decide +kernel
theorem dX9_person_102 : decode cX9_person 102 = .ok (.ireturn, 1) := by decide +kernel
theorem dX9_person_103 : decode cX9_person 103 = .ok (.aload_n 0, 1) := by decide +kernel
theorem dX9_person_104 : decode cX9_person 104 = .ok (.getfield 35, 3) := by decide +kernel
theorem dX9_person_107 : decode cX9_person 107 = .ok (.iload_n 1, 1) := by decide +kernel
theorem dX9_person_108 : decode cX9_person 108 = .ok (.invokevirtual 139, 3) := by decide +kernel
theorem dX9_person_111 : decode cX9_person 111 = .ok (.ifCond .eq 7, 3) := by decide +kernel
theorem dX9_person_114 : decode cX9_person 114 = .ok (.iconst 1, 1) := by decide +kernel
theorem dX9_person_115 : decode cX9_person 115 = .ok (.goto 4, 3) := by decide +kernel
theorem dX9_person_118 : decode cX9_person 118 = .ok (.iconst 0, 1) := by decide +kernel
theorem dX9_person_119 : decode cX9_person 119 = .ok (.ireturn, 1) := by decide +kernel
theorem dX9_person_120 : decode cX9_person 120 = .ok (.aload_n 0, 1) := by decide +kernel
theorem dX9_person_121 : decode cX9_person 121 = .ok (.getfield 47, 3) := by decide +kernel
theorem dX9_person_124 : decode cX9_person 124 = .ok (.iload_n 1, 1) := by decide +kernel
theorem dX9_person_125 : decode cX9_person 125 = .ok (.iload_n 3, 1) := by decide +kernel
theorem dX9_person_126 : decode cX9_person 126 = .ok (.iload 4, 2) := by decide +kernel
theorem dX9_person_128 : decode cX9_person 128 = .ok (.invokevirtual 142, 3) := by decide +kernel
theorem dX9_person_131 : decode cX9_person 131 = .ok (.aload_n 0, 1) := by decide +kernel
theorem dX9_person_132 : decode cX9_person 132 = .ok (.getfield 47, 3) := by decide +kernel
theorem dX9_person_135 : decode cX9_person 135 = .ok (.getfield 146, 3) := by decide +kernel
theorem dX9_person_138 : decode cX9_person 138 = .ok (.ireturn, 1) := by decide +kernel
theorem dX9_person_139 : decode cX9_person 139 = .ok (.aload_n 0, 1) := by decide +kernel
theorem dX9_person_140 : decode cX9_person 140 = .ok (.getfield 47, 3) := by decide +kernel
theorem dX9_person_143 : decode cX9_person 143 = .ok (.iload_n 1, 1) := by decide +kernel
theorem dX9_person_144 : decode cX9_person 144 = .ok (.iload_n 3, 1) := by decide +kernel
theorem dX9_person_145 : decode cX9_person 145 = .ok (.iload 4, 2) := by decide +kernel
theorem dX9_person_147 : decode cX9_person 147 = .ok (.invokevirtual 142, 3) := by decide +kernel
theorem dX9_person_150 : decode cX9_person 150 = .ok (.aload_n 0, 1) := by decide +kernel
theorem dX9_person_151 : decode cX9_person 151 = .ok (.getfield 47, 3) := by decide +kernel
theorem dX9_person_154 : decode cX9_person 154 = .ok (.getfield 149, 3) := by decide +kernel
theorem dX9_person_157 : decode cX9_person 157 = .ok (.ireturn, 1) := by decide +kernel
theorem dX9_person_158 : decode cX9_person 158 = .ok (.aload_n 0, 1) := by decide +kernel
theorem dX9_person_159 : decode cX9_person 159 = .ok (.getfield 47, 3) := by decide +kernel
theorem dX9_person_162 : decode cX9_person 162 = .ok (.iload_n 1, 1) := by decide +kernel
theorem dX9_person_163 : decode cX9_person 163 = .ok (.iload_n 3, 1) := by decide +kernel
theorem dX9_person_164 : decode cX9_person 164 = .ok (.iload 4, 2) := by decide +kernel
theorem dX9_person_166 : decode cX9_person 166 = .ok (.invokevirtual 152, 3) := by decide +kernel
theorem dX9_person_169 : decode cX9_person 169 = .ok (.ireturn, 1) := by decide +kernel
theorem dX9_person_170 : decode cX9_person 170 = .ok (.aload_n 0, 1) := by decide +kernel
theorem dX9_person_171 : decode cX9_person 171 = .ok (.getfield 47, 3) := by decide +kernel
theorem dX9_person_174 : decode cX9_person 174 = .ok (.iload_n 1, 1) := by decide +kernel
theorem dX9_person_175 : decode cX9_person 175 = .ok (.invokevirtual 156, 3) := by decide +kernel
theorem dX9_person_178 : decode cX9_person 178 = .ok (.ireturn, 1) := by decide +kernel
theorem dX9_person_179 : decode cX9_person 179 = .ok (.aload_n 0, 1) := by decide +kernel
theorem dX9_person_180 : decode cX9_person 180 = .ok (.getfield 47, 3) := by decide +kernel
theorem dX9_person_183 : decode cX9_person 183 = .ok (.iload_n 1, 1) := by decide +kernel
theorem dX9_person_184 : decode cX9_person 184 = .ok (.invokevirtual 160, 3) := by decide +kernel
theorem dX9_person_187 : decode cX9_person 187 = .ok (.ireturn, 1) := by decide +kernel
theorem dX9_person_188 : decode cX9_person 188 = .ok (.ldc 135, 2) := by decide +kernel
theorem dX9_person_190 : decode cX9_person 190 = .ok (.ireturn, 1) := by decide +kernel
theorem dX9_strand_0 : decode cX9_strand 0 = .ok (.aload_n 0, 1) := by decide +kernel
theorem dX9_strand_1 : decode cX9_strand 1 = .ok (.iload_n 1, 1) := by decide +kernel
theorem dX9_strand_2 : decode cX9_strand 2 = .ok (.invokevirtual 163, 3) := by decide +kernel
theorem dX9_strand_5 : decode cX9_strand 5 = .ok (.ifCond .ne 5, 3) := by decide +kernel
theorem dX9_strand_8 : decode cX9_strand 8 = .ok (.iconst (-1), 1) := by decide +kernel
theorem dX9_strand_9 : decode cX9_strand 9 = .ok (.ireturn, 1) := by decide +kernel
theorem dX9_strand_10 : decode cX9_strand 10 = .ok (.aload_n 0, 1) := by decide +kernel
theorem dX9_strand_11 : decode cX9_strand 11 = .ok (.getfield 35, 3) := by decide +kernel
theorem dX9_strand_14 : decode cX9_strand 14 = .ok (.getfield 125, 3) := by decide +kernel
theorem dX9_strand_17 : decode cX9_strand 17 = .ok (.bipush 28, 2) := by decide +kernel
theorem dX9_strand_19 : decode cX9_strand 19 = .ok (.iload_n 1, 1) := by decide +kernel
theorem dX9_strand_20 : decode cX9_strand 20 = .ok (.iadd, 1) := by decide +kernel
theorem dX9_strand_21 : decode cX9_strand 21 = .ok (.iaload, 1) := by decide +kernel
theorem dX9_strand_22 : decode cX9_strand 22 = .ok (.istore_n 3, 1) := by decide +kernel
theorem dX9_strand_23 : decode cX9_strand 23 = .ok (.aload_n 0, 1) := by decide +kernel
theorem dX9_strand_24 : decode cX9_strand 24 = .ok (.getfield 35, 3) := by decide +kernel
theorem dX9_strand_27 : decode cX9_strand 27 = .ok (.getfield 125, 3) := by decide +kernel
theorem dX9_strand_30 : decode cX9_strand 30 = .ok (.bipush 16, 2) := by decide +kernel
theorem dX9_strand_32 : decode cX9_strand 32 = .ok (.iload_n 3, 1) := by decide +kernel
theorem dX9_strand_33 : decode cX9_strand 33 = .ok (.iadd, 1) := by decide +kernel
theorem dX9_strand_34 : decode cX9_strand 34 = .ok (.iaload, 1) := by decide +kernel
theorem dX9_strand_35 : decode cX9_strand 35 = .ok (.istore 4, 2) := by decide +kernel
theorem dX9_strand_37 : decode cX9_strand 37 = .ok (.aload_n 0, 1) := by decide +kernel
theorem dX9_strand_38 : decode cX9_strand 38 = .ok (.getfield 35, 3) := by decide +kernel
theorem dX9_strand_41 : decode cX9_strand 41 = .ok (.getfield 125, 3) := by decide +kernel
theorem dX9_strand_44 : decode cX9_strand 44 = .ok (.bipush 22, 2) := by decide +kernel
theorem dX9_strand_46 : decode cX9_strand 46 = .ok (.iload_n 3, 1) := by decide +kernel
theorem dX9_strand_47 : decode cX9_strand 47 = .ok (.iadd, 1) := by decide +kernel
theorem dX9_strand_48 : decode cX9_strand 48 = .ok (.iaload, 1) := by decide +kernel
theorem dX9_strand_49 : decode cX9_strand 49 = .ok (.istore 5, 2) := by decide +kernel
theorem dX9_strand_51 : decode cX9_strand 51 = .ok (.iload_n 2, 1) := by decide +kernel
theorem dX9_strand_52 : decode cX9_strand 52 = .ok (.tableswitch 127 0 6 #[44, 54, 56, 66, 83, 97, 106], 44) := by decide +kernel
theorem dX9_strand_96 : decode cX9_strand 96 = .ok (.aload_n 0, 1) := by decide +kernel
theorem dX9_strand_97 : decode cX9_strand 97 = .ok (.getfield 16, 3) := by decide +kernel
theorem dX9_strand_100 : decode cX9_strand 100 = .ok (.getfield 166, 3) := by decide +kernel
theorem dX9_strand_103 : decode cX9_strand 103 = .ok (.iload_n 1, 1) := by decide +kernel
theorem dX9_strand_104 : decode cX9_strand 104 = .ok (.iaload, 1) := by decide +kernel
theorem dX9_strand_105 : decode cX9_strand 105 = .ok (.ireturn, 1) := by decide +kernel
theorem dX9_strand_106 : decode cX9_strand 106 = .ok (.iload_n 3, 1) := by decide +kernel
theorem dX9_strand_107 : decode cX9_strand 107 = .ok (.ireturn, 1) := by decide +kernel
theorem dX9_strand_108 : decode cX9_strand 108 = .ok (.aload_n 0, 1) := by decide +kernel
theorem dX9_strand_109 : decode cX9_strand 109 = .ok (.getfield 16, 3) := by decide +kernel
theorem dX9_strand_112 : decode cX9_strand 112 = .ok (.getfield 169, 3) := by decide +kernel
theorem dX9_strand_115 : decode cX9_strand 115 = .ok (.iload_n 1, 1) := by decide +kernel
theorem dX9_strand_116 : decode cX9_strand 116 = .ok (.iaload, 1) := by decide +kernel
theorem dX9_strand_117 : decode cX9_strand 117 = .ok (.ireturn, 1) := by decide +kernel
theorem dX9_strand_118 : decode cX9_strand 118 = .ok (.aload_n 0, 1) := by decide +kernel
theorem dX9_strand_119 : decode cX9_strand 119 = .ok (.getfield 35, 3) := by decide +kernel
theorem dX9_strand_122 : decode cX9_strand 122 = .ok (.iload_n 1, 1) := by decide +kernel
theorem dX9_strand_123 : decode cX9_strand 123 = .ok (.invokevirtual 172, 3) := by decide +kernel
theorem dX9_strand_126 : decode cX9_strand 126 = .ok (.ifCond .eq 7, 3) := by decide +kernel
theorem dX9_strand_129 : decode cX9_strand 129 = .ok (.iconst 1, 1) := by decide +kernel
theorem dX9_strand_130 : decode cX9_strand 130 = .ok (.goto 4, 3) := by decide +kernel
theorem dX9_strand_133 : decode cX9_strand 133 = .ok (.iconst 0, 1) := by decide +kernel
theorem dX9_strand_134 : decode cX9_strand 134 = .ok (.ireturn, 1) := by decide +kernel
theorem dX9_strand_135 : decode cX9_strand 135 = .ok (.aload_n 0, 1) := by decide +kernel
theorem dX9_strand_136 : decode cX9_strand 136 = .ok (.getfield 47, 3) := by decide +kernel
theorem dX9_strand_139 : decode cX9_strand 139 = .ok (.iload_n 1, 1) := by decide +kernel
theorem dX9_strand_140 : decode cX9_strand 140 = .ok (.iload_n 3, 1) := by decide +kernel
theorem dX9_strand_141 : decode cX9_strand 141 = .ok (.iload 4, 2) := by decide +kernel
theorem dX9_strand_143 : decode cX9_strand 143 = .ok (.iload 5, 2) := by decide +kernel
theorem dX9_strand_145 : decode cX9_strand 145 = .ok (.invokevirtual 175, 3) := by decide +kernel
theorem dX9_strand_148 : decode cX9_strand 148 = .ok (.ireturn, 1) := by decide +kernel
theorem dX9_strand_149 : decode cX9_strand 149 = .ok (.aload_n 0, 1) := by decide +kernel
theorem dX9_strand_150 : decode cX9_strand 150 = .ok (.getfield 47, 3) := by decide +kernel
theorem dX9_strand_153 : decode cX9_strand 153 = .ok (.iload_n 1, 1) := by decide +kernel
theorem dX9_strand_154 : decode cX9_strand 154 = .ok (.invokevirtual 179, 3) := by decide +kernel
theorem dX9_strand_157 : decode cX9_strand 157 = .ok (.ireturn, 1) := by decide +kernel
theorem dX9_strand_158 : decode cX9_strand 158 = .ok (.aload_n 0, 1) := by decide +kernel
theorem dX9_strand_159 : decode cX9_strand 159 = .ok (.getfield 35, 3) := by decide +kernel
theorem dX9_strand_162 : decode cX9_strand 162 = .ok (.aload_n 0, 1) := by decide +kernel
theorem dX9_strand_163 : decode cX9_strand 163 = .ok (.getfield 16, 3) := by decide +kernel
theorem dX9_strand_166 : decode cX9_strand 166 = .ok (.getfield 166, 3) := by decide +kernel
theorem dX9_strand_169 : decode cX9_strand 169 = .ok (.iload_n 1, 1) := by decide +kernel
theorem dX9_strand_170 : decode cX9_strand 170 = .ok (.iaload, 1) := by decide +kernel
theorem dX9_strand_171 : decode cX9_strand 171 = .ok (.iload 4, 2) := by decide +kernel
theorem dX9_strand_173 : decode cX9_strand 173 = .ok (.iload 5, 2) := by decide +kernel
theorem dX9_strand_175 : decode cX9_strand 175 = .ok (.invokevirtual 182, 3) := by decide +kernel
theorem dX9_strand_178 : decode cX9_strand 178 = .ok (.ireturn, 1) := by decide +kernel
theorem dX9_strand_179 : decode cX9_strand 179 = .ok (.iconst (-1), 1) := by decide +kernel
theorem dX9_strand_180 : decode cX9_strand 180 = .ok (.ireturn, 1) := by decide +kernel
theorem dX9_count_0 : decode cX9_count 0 = .ok (.iload_n 1, 1) := by decide +kernel
theorem dX9_count_1 : decode cX9_count 1 = .ok (.tableswitch 179 0 13 #[71, 79, 87, 95, 103, 113, 121, 129, 137, 142, 150, 158, 166, 174], 71) := by decide +kernel
theorem dX9_count_72 : decode cX9_count 72 = .ok (.aload_n 0, 1) := by decide +kernel
theorem dX9_count_73 : decode cX9_count 73 = .ok (.getfield 16, 3) := by decide +kernel
theorem dX9_count_76 : decode cX9_count 76 = .ok (.getfield 112, 3) := by decide +kernel
theorem dX9_count_79 : decode cX9_count 79 = .ok (.ireturn, 1) := by decide +kernel
theorem dX9_count_80 : decode cX9_count 80 = .ok (.aload_n 0, 1) := by decide +kernel
theorem dX9_count_81 : decode cX9_count 81 = .ok (.getfield 16, 3) := by decide +kernel
theorem dX9_count_84 : decode cX9_count 84 = .ok (.getfield 115, 3) := by decide +kernel
theorem dX9_count_87 : decode cX9_count 87 = .ok (.ireturn, 1) := by decide +kernel
theorem dX9_count_88 : decode cX9_count 88 = .ok (.aload_n 0, 1) := by decide +kernel
theorem dX9_count_89 : decode cX9_count 89 = .ok (.getfield 16, 3) := by decide +kernel
theorem dX9_count_92 : decode cX9_count 92 = .ok (.getfield 118, 3) := by decide +kernel
theorem dX9_count_95 : decode cX9_count 95 = .ok (.ireturn, 1) := by decide +kernel
theorem dX9_count_96 : decode cX9_count 96 = .ok (.aload_n 0, 1) := by decide +kernel
theorem dX9_count_97 : decode cX9_count 97 = .ok (.getfield 35, 3) := by decide +kernel
theorem dX9_count_100 : decode cX9_count 100 = .ok (.getfield 185, 3) := by decide +kernel
theorem dX9_count_103 : decode cX9_count 103 = .ok (.ireturn, 1) := by decide +kernel
theorem dX9_count_104 : decode cX9_count 104 = .ok (.aload_n 0, 1) := by decide +kernel
theorem dX9_count_105 : decode cX9_count 105 = .ok (.getfield 35, 3) := by decide +kernel
theorem dX9_count_108 : decode cX9_count 108 = .ok (.getfield 185, 3) := by decide +kernel
theorem dX9_count_111 : decode cX9_count 111 = .ok (.iconst 4, 1) := by decide +kernel
theorem dX9_count_112 : decode cX9_count 112 = .ok (.irem, 1) := by decide +kernel
theorem dX9_count_113 : decode cX9_count 113 = .ok (.ireturn, 1) := by decide +kernel
theorem dX9_count_114 : decode cX9_count 114 = .ok (.aload_n 0, 1) := by decide +kernel
theorem dX9_count_115 : decode cX9_count 115 = .ok (.getfield 35, 3) := by decide +kernel
theorem dX9_count_118 : decode cX9_count 118 = .ok (.getfield 188, 3) := by decide +kernel
theorem dX9_count_121 : decode cX9_count 121 = .ok (.ireturn, 1) := by decide +kernel
theorem dX9_count_122 : decode cX9_count 122 = .ok (.aload_n 0, 1) := by decide +kernel
theorem dX9_count_123 : decode cX9_count 123 = .ok (.getfield 35, 3) := by decide +kernel
theorem dX9_count_126 : decode cX9_count 126 = .ok (.getfield 191, 3) := by decide +kernel
theorem dX9_count_129 : decode cX9_count 129 = .ok (.ireturn, 1) := by decide +kernel
theorem dX9_count_130 : decode cX9_count 130 = .ok (.aload_n 0, 1) := by decide +kernel
theorem dX9_count_131 : decode cX9_count 131 = .ok (.getfield 35, 3) := by decide +kernel
theorem dX9_count_134 : decode cX9_count 134 = .ok (.getfield 194, 3) := by decide +kernel
theorem dX9_count_137 : decode cX9_count 137 = .ok (.ireturn, 1) := by decide +kernel
theorem dX9_count_138 : decode cX9_count 138 = .ok (.aload_n 0, 1) := by decide +kernel
theorem dX9_count_139 : decode cX9_count 139 = .ok (.getfield 79, 3) := by decide +kernel
theorem dX9_count_142 : decode cX9_count 142 = .ok (.ireturn, 1) := by decide +kernel
theorem dX9_count_143 : decode cX9_count 143 = .ok (.aload_n 0, 1) := by decide +kernel
theorem dX9_count_144 : decode cX9_count 144 = .ok (.getfield 57, 3) := by decide +kernel
theorem dX9_count_147 : decode cX9_count 147 = .ok (.getfield 197, 3) := by decide +kernel
theorem dX9_count_150 : decode cX9_count 150 = .ok (.ireturn, 1) := by decide +kernel
theorem dX9_count_151 : decode cX9_count 151 = .ok (.aload_n 0, 1) := by decide +kernel
theorem dX9_count_152 : decode cX9_count 152 = .ok (.getfield 75, 3) := by decide +kernel
theorem dX9_count_155 : decode cX9_count 155 = .ok (.getfield 200, 3) := by decide +kernel
theorem dX9_count_158 : decode cX9_count 158 = .ok (.ireturn, 1) := by decide +kernel
theorem dX9_count_159 : decode cX9_count 159 = .ok (.aload_n 0, 1) := by decide +kernel
theorem dX9_count_160 : decode cX9_count 160 = .ok (.getfield 105, 3) := by decide +kernel
theorem dX9_count_163 : decode cX9_count 163 = .ok (.invokestatic 201, 3) := by decide +kernel
theorem dX9_count_166 : decode cX9_count 166 = .ok (.ireturn, 1) := by decide +kernel
theorem dX9_count_167 : decode cX9_count 167 = .ok (.aload_n 0, 1) := by decide +kernel
theorem dX9_count_168 : decode cX9_count 168 = .ok (.getfield 47, 3) := by decide +kernel
theorem dX9_count_171 : decode cX9_count 171 = .ok (.invokevirtual 206, 3) := by decide +kernel
theorem dX9_count_174 : decode cX9_count 174 = .ok (.ireturn, 1) := by decide +kernel
theorem dX9_count_175 : decode cX9_count 175 = .ok (.aload_n 0, 1) := by decide +kernel
theorem dX9_count_176 : decode cX9_count 176 = .ok (.invokevirtual 210, 3) := by decide +kernel
theorem dX9_count_179 : decode cX9_count 179 = .ok (.ireturn, 1) := by decide +kernel
theorem dX9_count_180 : decode cX9_count 180 = .ok (.iconst (-1), 1) := by decide +kernel
theorem dX9_count_181 : decode cX9_count 181 = .ok (.ireturn, 1) := by decide +kernel
theorem dX9_movedNow_0 : decode cX9_movedNow 0 = .ok (.iconst 0, 1) := by decide +kernel
theorem dX9_movedNow_1 : decode cX9_movedNow 1 = .ok (.istore_n 1, 1) := by decide +kernel
theorem dX9_movedNow_2 : decode cX9_movedNow 2 = .ok (.iconst 0, 1) := by decide +kernel
theorem dX9_movedNow_3 : decode cX9_movedNow 3 = .ok (.istore_n 2, 1) := by decide +kernel
theorem dX9_movedNow_4 : decode cX9_movedNow 4 = .ok (.iload_n 2, 1) := by decide +kernel
theorem dX9_movedNow_5 : decode cX9_movedNow 5 = .ok (.aload_n 0, 1) := by decide +kernel
theorem dX9_movedNow_6 : decode cX9_movedNow 6 = .ok (.getfield 16, 3) := by decide +kernel
theorem dX9_movedNow_9 : decode cX9_movedNow 9 = .ok (.getfield 115, 3) := by decide +kernel
theorem dX9_movedNow_12 : decode cX9_movedNow 12 = .ok (.if_icmp .ge 50, 3) := by decide +kernel
theorem dX9_movedNow_15 : decode cX9_movedNow 15 = .ok (.aload_n 0, 1) := by decide +kernel
theorem dX9_movedNow_16 : decode cX9_movedNow 16 = .ok (.getfield 47, 3) := by decide +kernel
theorem dX9_movedNow_19 : decode cX9_movedNow 19 = .ok (.iload_n 2, 1) := by decide +kernel
theorem dX9_movedNow_20 : decode cX9_movedNow 20 = .ok (.aload_n 0, 1) := by decide +kernel
theorem dX9_movedNow_21 : decode cX9_movedNow 21 = .ok (.getfield 35, 3) := by decide +kernel
theorem dX9_movedNow_24 : decode cX9_movedNow 24 = .ok (.getfield 125, 3) := by decide +kernel
theorem dX9_movedNow_27 : decode cX9_movedNow 27 = .ok (.bipush 16, 2) := by decide +kernel
theorem dX9_movedNow_29 : decode cX9_movedNow 29 = .ok (.iload_n 2, 1) := by decide +kernel
theorem dX9_movedNow_30 : decode cX9_movedNow 30 = .ok (.iadd, 1) := by decide +kernel
theorem dX9_movedNow_31 : decode cX9_movedNow 31 = .ok (.iaload, 1) := by decide +kernel
theorem dX9_movedNow_32 : decode cX9_movedNow 32 = .ok (.aload_n 0, 1) := by decide +kernel
theorem dX9_movedNow_33 : decode cX9_movedNow 33 = .ok (.getfield 35, 3) := by decide +kernel
theorem dX9_movedNow_36 : decode cX9_movedNow 36 = .ok (.getfield 125, 3) := by decide +kernel
theorem dX9_movedNow_39 : decode cX9_movedNow 39 = .ok (.bipush 22, 2) := by decide +kernel
theorem dX9_movedNow_41 : decode cX9_movedNow 41 = .ok (.iload_n 2, 1) := by decide +kernel
theorem dX9_movedNow_42 : decode cX9_movedNow 42 = .ok (.iadd, 1) := by decide +kernel
theorem dX9_movedNow_43 : decode cX9_movedNow 43 = .ok (.iaload, 1) := by decide +kernel
theorem dX9_movedNow_44 : decode cX9_movedNow 44 = .ok (.invokevirtual 213, 3) := by decide +kernel
theorem dX9_movedNow_47 : decode cX9_movedNow 47 = .ok (.ifCond .eq 9, 3) := by decide +kernel
theorem dX9_movedNow_50 : decode cX9_movedNow 50 = .ok (.iload_n 1, 1) := by decide +kernel
theorem dX9_movedNow_51 : decode cX9_movedNow 51 = .ok (.iconst 1, 1) := by decide +kernel
theorem dX9_movedNow_52 : decode cX9_movedNow 52 = .ok (.iload_n 2, 1) := by decide +kernel
theorem dX9_movedNow_53 : decode cX9_movedNow 53 = .ok (.ishl, 1) := by decide +kernel
theorem dX9_movedNow_54 : decode cX9_movedNow 54 = .ok (.ior, 1) := by decide +kernel
theorem dX9_movedNow_55 : decode cX9_movedNow 55 = .ok (.istore_n 1, 1) := by decide +kernel
theorem dX9_movedNow_56 : decode cX9_movedNow 56 = .ok (.iinc 2 1, 3) := by decide +kernel
theorem dX9_movedNow_59 : decode cX9_movedNow 59 = .ok (.goto (-55), 3) := by decide +kernel
theorem dX9_movedNow_62 : decode cX9_movedNow 62 = .ok (.iload_n 1, 1) := by decide +kernel
theorem dX9_movedNow_63 : decode cX9_movedNow 63 = .ok (.ireturn, 1) := by decide +kernel
theorem dX9_hand_0 : decode cX9_hand 0 = .ok (.aload_n 0, 1) := by decide +kernel
theorem dX9_hand_1 : decode cX9_hand 1 = .ok (.iload_n 1, 1) := by decide +kernel
theorem dX9_hand_2 : decode cX9_hand 2 = .ok (.invokevirtual 163, 3) := by decide +kernel
theorem dX9_hand_5 : decode cX9_hand 5 = .ok (.ifCond .eq 23, 3) := by decide +kernel
theorem dX9_hand_8 : decode cX9_hand 8 = .ok (.aload_n 0, 1) := by decide +kernel
theorem dX9_hand_9 : decode cX9_hand 9 = .ok (.iload_n 2, 1) := by decide +kernel
theorem dX9_hand_10 : decode cX9_hand 10 = .ok (.invokevirtual 132, 3) := by decide +kernel
theorem dX9_hand_13 : decode cX9_hand 13 = .ok (.ifCond .eq 15, 3) := by decide +kernel
theorem dX9_hand_16 : decode cX9_hand 16 = .ok (.aload_n 0, 1) := by decide +kernel
theorem dX9_hand_17 : decode cX9_hand 17 = .ok (.getfield 35, 3) := by decide +kernel
theorem dX9_hand_20 : decode cX9_hand 20 = .ok (.iload_n 1, 1) := by decide +kernel
theorem dX9_hand_21 : decode cX9_hand 21 = .ok (.iload_n 2, 1) := by decide +kernel
theorem dX9_hand_22 : decode cX9_hand 22 = .ok (.invokevirtual 217, 3) := by decide +kernel
theorem dX9_hand_25 : decode cX9_hand 25 = .ok (.ifCond .ne 5, 3) := by decide +kernel
theorem dX9_hand_28 : decode cX9_hand 28 = .ok (.iconst 0, 1) := by decide +kernel
theorem dX9_hand_29 : decode cX9_hand 29 = .ok (.ireturn, 1) := by decide +kernel
theorem dX9_hand_30 : decode cX9_hand 30 = .ok (.aload_n 0, 1) := by decide +kernel
theorem dX9_hand_31 : decode cX9_hand 31 = .ok (.getfield 57, 3) := by decide +kernel
theorem dX9_hand_34 : decode cX9_hand 34 = .ok (.aload_n 0, 1) := by decide +kernel
theorem dX9_hand_35 : decode cX9_hand 35 = .ok (.getfield 35, 3) := by decide +kernel
theorem dX9_hand_38 : decode cX9_hand 38 = .ok (.invokevirtual 221, 3) := by decide +kernel
theorem dX9_hand_41 : decode cX9_hand 41 = .ok (.aload_n 0, 1) := by decide +kernel
theorem dX9_hand_42 : decode cX9_hand 42 = .ok (.getfield 35, 3) := by decide +kernel
theorem dX9_hand_45 : decode cX9_hand 45 = .ok (.getfield 125, 3) := by decide +kernel
theorem dX9_hand_48 : decode cX9_hand 48 = .ok (.bipush 28, 2) := by decide +kernel
theorem dX9_hand_50 : decode cX9_hand 50 = .ok (.iload_n 1, 1) := by decide +kernel
theorem dX9_hand_51 : decode cX9_hand 51 = .ok (.iadd, 1) := by decide +kernel
theorem dX9_hand_52 : decode cX9_hand 52 = .ok (.iload_n 2, 1) := by decide +kernel
theorem dX9_hand_53 : decode cX9_hand 53 = .ok (.iastore, 1) := by decide +kernel
theorem dX9_hand_54 : decode cX9_hand 54 = .ok (.iconst 1, 1) := by decide +kernel
theorem dX9_hand_55 : decode cX9_hand 55 = .ok (.ireturn, 1) := by decide +kernel
theorem dX9_cut_0 : decode cX9_cut 0 = .ok (.aload_n 0, 1) := by decide +kernel
theorem dX9_cut_1 : decode cX9_cut 1 = .ok (.iload_n 1, 1) := by decide +kernel
theorem dX9_cut_2 : decode cX9_cut 2 = .ok (.invokevirtual 163, 3) := by decide +kernel
theorem dX9_cut_5 : decode cX9_cut 5 = .ok (.ifCond .eq 14, 3) := by decide +kernel
theorem dX9_cut_8 : decode cX9_cut 8 = .ok (.aload_n 0, 1) := by decide +kernel
theorem dX9_cut_9 : decode cX9_cut 9 = .ok (.getfield 35, 3) := by decide +kernel
theorem dX9_cut_12 : decode cX9_cut 12 = .ok (.iload_n 1, 1) := by decide +kernel
theorem dX9_cut_13 : decode cX9_cut 13 = .ok (.invokevirtual 172, 3) := by decide +kernel
theorem dX9_cut_16 : decode cX9_cut 16 = .ok (.ifCond .eq 5, 3) := by decide +kernel
theorem dX9_cut_19 : decode cX9_cut 19 = .ok (.iconst 0, 1) := by decide +kernel
theorem dX9_cut_20 : decode cX9_cut 20 = .ok (.ireturn, 1) := by decide +kernel
theorem dX9_cut_21 : decode cX9_cut 21 = .ok (.aload_n 0, 1) := by decide +kernel
theorem dX9_cut_22 : decode cX9_cut 22 = .ok (.getfield 57, 3) := by decide +kernel
theorem dX9_cut_25 : decode cX9_cut 25 = .ok (.aload_n 0, 1) := by decide +kernel
theorem dX9_cut_26 : decode cX9_cut 26 = .ok (.getfield 35, 3) := by decide +kernel
theorem dX9_cut_29 : decode cX9_cut 29 = .ok (.invokevirtual 221, 3) := by decide +kernel
theorem dX9_cut_32 : decode cX9_cut 32 = .ok (.aload_n 0, 1) := by decide +kernel
theorem dX9_cut_33 : decode cX9_cut 33 = .ok (.getfield 35, 3) := by decide +kernel
theorem dX9_cut_36 : decode cX9_cut 36 = .ok (.dup, 1) := by decide +kernel
theorem dX9_cut_37 : decode cX9_cut 37 = .ok (.getfield 194, 3) := by decide +kernel
theorem dX9_cut_40 : decode cX9_cut 40 = .ok (.iconst 1, 1) := by decide +kernel
theorem dX9_cut_41 : decode cX9_cut 41 = .ok (.iload_n 1, 1) := by decide +kernel
theorem dX9_cut_42 : decode cX9_cut 42 = .ok (.ishl, 1) := by decide +kernel
theorem dX9_cut_43 : decode cX9_cut 43 = .ok (.ior, 1) := by decide +kernel
theorem dX9_cut_44 : decode cX9_cut 44 = .ok (.putfield 194, 3) := by decide +kernel
theorem dX9_cut_47 : decode cX9_cut 47 = .ok (.iconst 1, 1) := by decide +kernel
theorem dX9_cut_48 : decode cX9_cut 48 = .ok (.ireturn, 1) := by decide +kernel
theorem dX9_die_0 : decode cX9_die 0 = .ok (.aload_n 0, 1) := by decide +kernel
theorem dX9_die_1 : decode cX9_die 1 = .ok (.iload_n 1, 1) := by decide +kernel
theorem dX9_die_2 : decode cX9_die 2 = .ok (.invokevirtual 121, 3) := by decide +kernel
theorem dX9_die_5 : decode cX9_die 5 = .ok (.ifCond .eq 14, 3) := by decide +kernel
theorem dX9_die_8 : decode cX9_die 8 = .ok (.aload_n 0, 1) := by decide +kernel
theorem dX9_die_9 : decode cX9_die 9 = .ok (.getfield 35, 3) := by decide +kernel
theorem dX9_die_12 : decode cX9_die 12 = .ok (.iload_n 1, 1) := by decide +kernel
theorem dX9_die_13 : decode cX9_die 13 = .ok (.invokevirtual 129, 3) := by decide +kernel
theorem dX9_die_16 : decode cX9_die 16 = .ok (.ifCond .eq 5, 3) := by decide +kernel
theorem dX9_die_19 : decode cX9_die 19 = .ok (.iconst 0, 1) := by decide +kernel
theorem dX9_die_20 : decode cX9_die 20 = .ok (.ireturn, 1) := by decide +kernel
theorem dX9_die_21 : decode cX9_die 21 = .ok (.aload_n 0, 1) := by decide +kernel
theorem dX9_die_22 : decode cX9_die 22 = .ok (.getfield 57, 3) := by decide +kernel
theorem dX9_die_25 : decode cX9_die 25 = .ok (.aload_n 0, 1) := by decide +kernel
theorem dX9_die_26 : decode cX9_die 26 = .ok (.getfield 35, 3) := by decide +kernel
theorem dX9_die_29 : decode cX9_die 29 = .ok (.invokevirtual 221, 3) := by decide +kernel
theorem dX9_die_32 : decode cX9_die 32 = .ok (.aload_n 0, 1) := by decide +kernel
theorem dX9_die_33 : decode cX9_die 33 = .ok (.getfield 35, 3) := by decide +kernel
theorem dX9_die_36 : decode cX9_die 36 = .ok (.dup, 1) := by decide +kernel
theorem dX9_die_37 : decode cX9_die 37 = .ok (.getfield 191, 3) := by decide +kernel
theorem dX9_die_40 : decode cX9_die 40 = .ok (.iconst 1, 1) := by decide +kernel
theorem dX9_die_41 : decode cX9_die 41 = .ok (.iload_n 1, 1) := by decide +kernel
theorem dX9_die_42 : decode cX9_die 42 = .ok (.ishl, 1) := by decide +kernel
theorem dX9_die_43 : decode cX9_die 43 = .ok (.ior, 1) := by decide +kernel
theorem dX9_die_44 : decode cX9_die 44 = .ok (.putfield 191, 3) := by decide +kernel
theorem dX9_die_47 : decode cX9_die 47 = .ok (.iconst 1, 1) := by decide +kernel
theorem dX9_die_48 : decode cX9_die 48 = .ok (.ireturn, 1) := by decide +kernel
theorem dX9_months_0 : decode cX9_months 0 = .ok (.iload_n 1, 1) := by decide +kernel
theorem dX9_months_1 : decode cX9_months 1 = .ok (.iconst 0, 1) := by decide +kernel
theorem dX9_months_2 : decode cX9_months 2 = .ok (.bipush 60, 2) := by decide +kernel
theorem dX9_months_4 : decode cX9_months 4 = .ok (.invokestatic 224, 3) := by decide +kernel
theorem dX9_months_7 : decode cX9_months 7 = .ok (.ifCond .ne 5, 3) := by decide +kernel
theorem dX9_months_10 : decode cX9_months 10 = .ok (.iconst (-1), 1) := by decide +kernel
theorem dX9_months_11 : decode cX9_months 11 = .ok (.ireturn, 1) := by decide +kernel
theorem dX9_months_12 : decode cX9_months 12 = .ok (.iload_n 1, 1) := by decide +kernel
theorem dX9_months_13 : decode cX9_months 13 = .ok (.ifCond .le 14, 3) := by decide +kernel
theorem dX9_months_16 : decode cX9_months 16 = .ok (.aload_n 0, 1) := by decide +kernel
theorem dX9_months_17 : decode cX9_months 17 = .ok (.getfield 57, 3) := by decide +kernel
theorem dX9_months_20 : decode cX9_months 20 = .ok (.aload_n 0, 1) := by decide +kernel
theorem dX9_months_21 : decode cX9_months 21 = .ok (.getfield 35, 3) := by decide +kernel
theorem dX9_months_24 : decode cX9_months 24 = .ok (.invokevirtual 221, 3) := by decide +kernel
theorem dX9_months_27 : decode cX9_months 27 = .ok (.iconst 0, 1) := by decide +kernel
theorem dX9_months_28 : decode cX9_months 28 = .ok (.istore_n 2, 1) := by decide +kernel
theorem dX9_months_29 : decode cX9_months 29 = .ok (.iload_n 2, 1) := by decide +kernel
theorem dX9_months_30 : decode cX9_months 30 = .ok (.iload_n 1, 1) := by decide +kernel
theorem dX9_months_31 : decode cX9_months 31 = .ok (.if_icmp .ge 25, 3) := by decide +kernel
theorem dX9_months_34 : decode cX9_months 34 = .ok (.aload_n 0, 1) := by decide +kernel
theorem dX9_months_35 : decode cX9_months 35 = .ok (.getfield 47, 3) := by decide +kernel
theorem dX9_months_38 : decode cX9_months 38 = .ok (.iconst 0, 1) := by decide +kernel
theorem dX9_months_39 : decode cX9_months 39 = .ok (.aload_n 0, 1) := by decide +kernel
theorem dX9_months_40 : decode cX9_months 40 = .ok (.getfield 16, 3) := by decide +kernel
theorem dX9_months_43 : decode cX9_months 43 = .ok (.getfield 115, 3) := by decide +kernel
theorem dX9_months_46 : decode cX9_months 46 = .ok (.iconst 1, 1) := by decide +kernel
theorem dX9_months_47 : decode cX9_months 47 = .ok (.invokevirtual 227, 3) := by decide +kernel
theorem dX9_months_50 : decode cX9_months 50 = .ok (.iinc 2 1, 3) := by decide +kernel
theorem dX9_months_53 : decode cX9_months 53 = .ok (.goto (-24), 3) := by decide +kernel
theorem dX9_months_56 : decode cX9_months 56 = .ok (.aload_n 0, 1) := by decide +kernel
theorem dX9_months_57 : decode cX9_months 57 = .ok (.getfield 35, 3) := by decide +kernel
theorem dX9_months_60 : decode cX9_months 60 = .ok (.getfield 185, 3) := by decide +kernel
theorem dX9_months_63 : decode cX9_months 63 = .ok (.ireturn, 1) := by decide +kernel
theorem dX9_undo_0 : decode cX9_undo 0 = .ok (.aload_n 0, 1) := by decide +kernel
theorem dX9_undo_1 : decode cX9_undo 1 = .ok (.getfield 57, 3) := by decide +kernel
theorem dX9_undo_4 : decode cX9_undo 4 = .ok (.aload_n 0, 1) := by decide +kernel
theorem dX9_undo_5 : decode cX9_undo 5 = .ok (.getfield 35, 3) := by decide +kernel
theorem dX9_undo_8 : decode cX9_undo 8 = .ok (.invokevirtual 231, 3) := by decide +kernel
theorem dX9_undo_11 : decode cX9_undo 11 = .ok (.ireturn, 1) := by decide +kernel
theorem dX9_hold_0 : decode cX9_hold 0 = .ok (.iload_n 1, 1) := by decide +kernel
theorem dX9_hold_1 : decode cX9_hold 1 = .ok (.iconst 0, 1) := by decide +kernel
theorem dX9_hold_2 : decode cX9_hold 2 = .ok (.iconst 2, 1) := by decide +kernel
theorem dX9_hold_3 : decode cX9_hold 3 = .ok (.invokestatic 224, 3) := by decide +kernel
theorem dX9_hold_6 : decode cX9_hold 6 = .ok (.ifCond .ne 5, 3) := by decide +kernel
theorem dX9_hold_9 : decode cX9_hold 9 = .ok (.iconst 0, 1) := by decide +kernel
theorem dX9_hold_10 : decode cX9_hold 10 = .ok (.ireturn, 1) := by decide +kernel
theorem dX9_hold_11 : decode cX9_hold 11 = .ok (.aload_n 0, 1) := by decide +kernel
theorem dX9_hold_12 : decode cX9_hold 12 = .ok (.getfield 61, 3) := by decide +kernel
theorem dX9_hold_15 : decode cX9_hold 15 = .ok (.iload_n 1, 1) := by decide +kernel
theorem dX9_hold_16 : decode cX9_hold 16 = .ok (.aaload, 1) := by decide +kernel
theorem dX9_hold_17 : decode cX9_hold 17 = .ok (.aload_n 0, 1) := by decide +kernel
theorem dX9_hold_18 : decode cX9_hold 18 = .ok (.getfield 35, 3) := by decide +kernel
theorem dX9_hold_21 : decode cX9_hold 21 = .ok (.invokevirtual 98, 3) := by decide +kernel
theorem dX9_hold_24 : decode cX9_hold 24 = .ok (.aload_n 0, 1) := by decide +kernel
theorem dX9_hold_25 : decode cX9_hold 25 = .ok (.dup, 1) := by decide +kernel
theorem dX9_hold_26 : decode cX9_hold 26 = .ok (.getfield 105, 3) := by decide +kernel
theorem dX9_hold_29 : decode cX9_hold 29 = .ok (.iconst 1, 1) := by decide +kernel
theorem dX9_hold_30 : decode cX9_hold 30 = .ok (.iload_n 1, 1) := by decide +kernel
theorem dX9_hold_31 : decode cX9_hold 31 = .ok (.ishl, 1) := by decide +kernel
theorem dX9_hold_32 : decode cX9_hold 32 = .ok (.ior, 1) := by decide +kernel
theorem dX9_hold_33 : decode cX9_hold 33 = .ok (.putfield 105, 3) := by decide +kernel
theorem dX9_hold_36 : decode cX9_hold 36 = .ok (.iconst 1, 1) := by decide +kernel
theorem dX9_hold_37 : decode cX9_hold 37 = .ok (.ireturn, 1) := by decide +kernel
theorem dX9_restore_0 : decode cX9_restore 0 = .ok (.iload_n 1, 1) := by decide +kernel
theorem dX9_restore_1 : decode cX9_restore 1 = .ok (.iconst 0, 1) := by decide +kernel
theorem dX9_restore_2 : decode cX9_restore 2 = .ok (.iconst 2, 1) := by decide +kernel
theorem dX9_restore_3 : decode cX9_restore 3 = .ok (.invokestatic 224, 3) := by decide +kernel
theorem dX9_restore_6 : decode cX9_restore 6 = .ok (.ifCond .eq 14, 3) := by decide +kernel
theorem dX9_restore_9 : decode cX9_restore 9 = .ok (.aload_n 0, 1) := by decide +kernel
theorem dX9_restore_10 : decode cX9_restore 10 = .ok (.getfield 105, 3) := by decide +kernel
theorem dX9_restore_13 : decode cX9_restore 13 = .ok (.iload_n 1, 1) := by decide +kernel
theorem dX9_restore_14 : decode cX9_restore 14 = .ok (.ishr, 1) := by decide +kernel
theorem dX9_restore_15 : decode cX9_restore 15 = .ok (.iconst 1, 1) := by decide +kernel
theorem dX9_restore_16 : decode cX9_restore 16 = .ok (.iand, 1) := by decide +kernel
theorem dX9_restore_17 : decode cX9_restore 17 = .ok (.ifCond .ne 5, 3) := by decide +kernel
theorem dX9_restore_20 : decode cX9_restore 20 = .ok (.iconst 0, 1) := by decide +kernel
theorem dX9_restore_21 : decode cX9_restore 21 = .ok (.ireturn, 1) := by decide +kernel
theorem dX9_restore_22 : decode cX9_restore 22 = .ok (.aload_n 0, 1) := by decide +kernel
theorem dX9_restore_23 : decode cX9_restore 23 = .ok (.getfield 35, 3) := by decide +kernel
theorem dX9_restore_26 : decode cX9_restore 26 = .ok (.aload_n 0, 1) := by decide +kernel
theorem dX9_restore_27 : decode cX9_restore 27 = .ok (.getfield 61, 3) := by decide +kernel
theorem dX9_restore_30 : decode cX9_restore 30 = .ok (.iload_n 1, 1) := by decide +kernel
theorem dX9_restore_31 : decode cX9_restore 31 = .ok (.aaload, 1) := by decide +kernel
theorem dX9_restore_32 : decode cX9_restore 32 = .ok (.invokevirtual 98, 3) := by decide +kernel
theorem dX9_restore_35 : decode cX9_restore 35 = .ok (.aload_n 0, 1) := by decide +kernel
theorem dX9_restore_36 : decode cX9_restore 36 = .ok (.getfield 57, 3) := by decide +kernel
theorem dX9_restore_39 : decode cX9_restore 39 = .ok (.invokevirtual 102, 3) := by decide +kernel
theorem dX9_restore_42 : decode cX9_restore 42 = .ok (.iconst 1, 1) := by decide +kernel
theorem dX9_restore_43 : decode cX9_restore 43 = .ok (.ireturn, 1) := by decide +kernel
theorem dX9_then_0 : decode cX9_then 0 = .ok (.aload_n 0, 1) := by decide +kernel
theorem dX9_then_1 : decode cX9_then 1 = .ok (.iload_n 1, 1) := by decide +kernel
theorem dX9_then_2 : decode cX9_then 2 = .ok (.invokevirtual 132, 3) := by decide +kernel
theorem dX9_then_5 : decode cX9_then 5 = .ok (.ifCond .eq 22, 3) := by decide +kernel
theorem dX9_then_8 : decode cX9_then 8 = .ok (.iload_n 2, 1) := by decide +kernel
theorem dX9_then_9 : decode cX9_then 9 = .ok (.iconst 0, 1) := by decide +kernel
theorem dX9_then_10 : decode cX9_then 10 = .ok (.bipush 60, 2) := by decide +kernel
theorem dX9_then_12 : decode cX9_then 12 = .ok (.invokestatic 224, 3) := by decide +kernel
theorem dX9_then_15 : decode cX9_then 15 = .ok (.ifCond .eq 12, 3) := by decide +kernel
theorem dX9_then_18 : decode cX9_then 18 = .ok (.iload_n 3, 1) := by decide +kernel
theorem dX9_then_19 : decode cX9_then 19 = .ok (.iconst 0, 1) := by decide +kernel
theorem dX9_then_20 : decode cX9_then 20 = .ok (.iconst 2, 1) := by decide +kernel
theorem dX9_then_21 : decode cX9_then 21 = .ok (.invokestatic 224, 3) := by decide +kernel
theorem dX9_then_24 : decode cX9_then 24 = .ok (.ifCond .ne 5, 3) := by decide +kernel
theorem dX9_then_27 : decode cX9_then 27 = .ok (.iconst (-1), 1) := by decide +kernel
theorem dX9_then_28 : decode cX9_then 28 = .ok (.ireturn, 1) := by decide +kernel
theorem dX9_then_29 : decode cX9_then 29 = .ok (.aload_n 0, 1) := by decide +kernel
theorem dX9_then_30 : decode cX9_then 30 = .ok (.getfield 39, 3) := by decide +kernel
theorem dX9_then_33 : decode cX9_then 33 = .ok (.aload_n 0, 1) := by decide +kernel
theorem dX9_then_34 : decode cX9_then 34 = .ok (.getfield 35, 3) := by decide +kernel
theorem dX9_then_37 : decode cX9_then 37 = .ok (.invokevirtual 98, 3) := by decide +kernel
theorem dX9_then_40 : decode cX9_then 40 = .ok (.iconst 0, 1) := by decide +kernel
theorem dX9_then_41 : decode cX9_then 41 = .ok (.istore 4, 2) := by decide +kernel
theorem dX9_then_43 : decode cX9_then 43 = .ok (.iload 4, 2) := by decide +kernel
theorem dX9_then_45 : decode cX9_then 45 = .ok (.iload_n 2, 1) := by decide +kernel
theorem dX9_then_46 : decode cX9_then 46 = .ok (.if_icmp .ge 21, 3) := by decide +kernel
theorem dX9_then_49 : decode cX9_then 49 = .ok (.aload_n 0, 1) := by decide +kernel
theorem dX9_then_50 : decode cX9_then 50 = .ok (.getfield 51, 3) := by decide +kernel
theorem dX9_then_53 : decode cX9_then 53 = .ok (.iload_n 1, 1) := by decide +kernel
theorem dX9_then_54 : decode cX9_then 54 = .ok (.iload_n 1, 1) := by decide +kernel
theorem dX9_then_55 : decode cX9_then 55 = .ok (.iconst 1, 1) := by decide +kernel
theorem dX9_then_56 : decode cX9_then 56 = .ok (.iadd, 1) := by decide +kernel
theorem dX9_then_57 : decode cX9_then 57 = .ok (.iconst 1, 1) := by decide +kernel
theorem dX9_then_58 : decode cX9_then 58 = .ok (.invokevirtual 227, 3) := by decide +kernel
theorem dX9_then_61 : decode cX9_then 61 = .ok (.iinc 4 1, 3) := by decide +kernel
theorem dX9_then_64 : decode cX9_then 64 = .ok (.goto (-21), 3) := by decide +kernel
theorem dX9_then_67 : decode cX9_then 67 = .ok (.iload_n 3, 1) := by decide +kernel
theorem dX9_then_68 : decode cX9_then 68 = .ok (.ifCond .ne 16, 3) := by decide +kernel
theorem dX9_then_71 : decode cX9_then 71 = .ok (.aload_n 0, 1) := by decide +kernel
theorem dX9_then_72 : decode cX9_then 72 = .ok (.getfield 39, 3) := by decide +kernel
theorem dX9_then_75 : decode cX9_then 75 = .ok (.getfield 125, 3) := by decide +kernel
theorem dX9_then_78 : decode cX9_then 78 = .ok (.bipush 16, 2) := by decide +kernel
theorem dX9_then_80 : decode cX9_then 80 = .ok (.iload_n 1, 1) := by decide +kernel
theorem dX9_then_81 : decode cX9_then 81 = .ok (.iadd, 1) := by decide +kernel
theorem dX9_then_82 : decode cX9_then 82 = .ok (.iaload, 1) := by decide +kernel
theorem dX9_then_83 : decode cX9_then 83 = .ok (.ireturn, 1) := by decide +kernel
theorem dX9_then_84 : decode cX9_then 84 = .ok (.iload_n 3, 1) := by decide +kernel
theorem dX9_then_85 : decode cX9_then 85 = .ok (.iconst 1, 1) := by decide +kernel
theorem dX9_then_86 : decode cX9_then 86 = .ok (.if_icmp .ne 16, 3) := by decide +kernel
theorem dX9_then_89 : decode cX9_then 89 = .ok (.aload_n 0, 1) := by decide +kernel
theorem dX9_then_90 : decode cX9_then 90 = .ok (.getfield 39, 3) := by decide +kernel
theorem dX9_then_93 : decode cX9_then 93 = .ok (.getfield 125, 3) := by decide +kernel
theorem dX9_then_96 : decode cX9_then 96 = .ok (.bipush 22, 2) := by decide +kernel
theorem dX9_then_98 : decode cX9_then 98 = .ok (.iload_n 1, 1) := by decide +kernel
theorem dX9_then_99 : decode cX9_then 99 = .ok (.iadd, 1) := by decide +kernel
theorem dX9_then_100 : decode cX9_then 100 = .ok (.iaload, 1) := by decide +kernel
theorem dX9_then_101 : decode cX9_then 101 = .ok (.ireturn, 1) := by decide +kernel
theorem dX9_then_102 : decode cX9_then 102 = .ok (.aload_n 0, 1) := by decide +kernel
theorem dX9_then_103 : decode cX9_then 103 = .ok (.getfield 39, 3) := by decide +kernel
theorem dX9_then_106 : decode cX9_then 106 = .ok (.iload_n 1, 1) := by decide +kernel
theorem dX9_then_107 : decode cX9_then 107 = .ok (.invokevirtual 139, 3) := by decide +kernel
theorem dX9_then_110 : decode cX9_then 110 = .ok (.ifCond .eq 7, 3) := by decide +kernel
theorem dX9_then_113 : decode cX9_then 113 = .ok (.iconst 1, 1) := by decide +kernel
theorem dX9_then_114 : decode cX9_then 114 = .ok (.goto 4, 3) := by decide +kernel
theorem dX9_then_117 : decode cX9_then 117 = .ok (.iconst 0, 1) := by decide +kernel
theorem dX9_then_118 : decode cX9_then 118 = .ok (.ireturn, 1) := by decide +kernel
theorem dX9_swims_0 : decode cX9_swims 0 = .ok (.aload_n 0, 1) := by decide +kernel
theorem dX9_swims_1 : decode cX9_swims 1 = .ok (.iload_n 1, 1) := by decide +kernel
theorem dX9_swims_2 : decode cX9_swims 2 = .ok (.invokevirtual 121, 3) := by decide +kernel
theorem dX9_swims_5 : decode cX9_swims 5 = .ok (.ifCond .eq 22, 3) := by decide +kernel
theorem dX9_swims_8 : decode cX9_swims 8 = .ok (.iload_n 2, 1) := by decide +kernel
theorem dX9_swims_9 : decode cX9_swims 9 = .ok (.iconst 0, 1) := by decide +kernel
theorem dX9_swims_10 : decode cX9_swims 10 = .ok (.bipush 60, 2) := by decide +kernel
theorem dX9_swims_12 : decode cX9_swims 12 = .ok (.invokestatic 224, 3) := by decide +kernel
theorem dX9_swims_15 : decode cX9_swims 15 = .ok (.ifCond .eq 12, 3) := by decide +kernel
theorem dX9_swims_18 : decode cX9_swims 18 = .ok (.iload_n 3, 1) := by decide +kernel
theorem dX9_swims_19 : decode cX9_swims 19 = .ok (.iconst 0, 1) := by decide +kernel
theorem dX9_swims_20 : decode cX9_swims 20 = .ok (.iconst 1, 1) := by decide +kernel
theorem dX9_swims_21 : decode cX9_swims 21 = .ok (.invokestatic 224, 3) := by decide +kernel
theorem dX9_swims_24 : decode cX9_swims 24 = .ok (.ifCond .ne 5, 3) := by decide +kernel
theorem dX9_swims_27 : decode cX9_swims 27 = .ok (.iconst (-1), 1) := by decide +kernel
theorem dX9_swims_28 : decode cX9_swims 28 = .ok (.ireturn, 1) := by decide +kernel
theorem dX9_swims_29 : decode cX9_swims 29 = .ok (.aload_n 0, 1) := by decide +kernel
theorem dX9_swims_30 : decode cX9_swims 30 = .ok (.getfield 39, 3) := by decide +kernel
theorem dX9_swims_33 : decode cX9_swims 33 = .ok (.aload_n 0, 1) := by decide +kernel
theorem dX9_swims_34 : decode cX9_swims 34 = .ok (.getfield 35, 3) := by decide +kernel
theorem dX9_swims_37 : decode cX9_swims 37 = .ok (.invokevirtual 98, 3) := by decide +kernel
theorem dX9_swims_40 : decode cX9_swims 40 = .ok (.iconst 0, 1) := by decide +kernel
theorem dX9_swims_41 : decode cX9_swims 41 = .ok (.istore 4, 2) := by decide +kernel
theorem dX9_swims_43 : decode cX9_swims 43 = .ok (.iload 4, 2) := by decide +kernel
theorem dX9_swims_45 : decode cX9_swims 45 = .ok (.iload_n 2, 1) := by decide +kernel
theorem dX9_swims_46 : decode cX9_swims 46 = .ok (.if_icmp .ge 17, 3) := by decide +kernel
theorem dX9_swims_49 : decode cX9_swims 49 = .ok (.aload_n 0, 1) := by decide +kernel
theorem dX9_swims_50 : decode cX9_swims 50 = .ok (.getfield 39, 3) := by decide +kernel
theorem dX9_swims_53 : decode cX9_swims 53 = .ok (.iload_n 1, 1) := by decide +kernel
theorem dX9_swims_54 : decode cX9_swims 54 = .ok (.invokevirtual 235, 3) := by decide +kernel
theorem dX9_swims_57 : decode cX9_swims 57 = .ok (.iinc 4 1, 3) := by decide +kernel
theorem dX9_swims_60 : decode cX9_swims 60 = .ok (.goto (-17), 3) := by decide +kernel
theorem dX9_swims_63 : decode cX9_swims 63 = .ok (.aload_n 0, 1) := by decide +kernel
theorem dX9_swims_64 : decode cX9_swims 64 = .ok (.getfield 39, 3) := by decide +kernel
theorem dX9_swims_67 : decode cX9_swims 67 = .ok (.getfield 125, 3) := by decide +kernel
theorem dX9_swims_70 : decode cX9_swims 70 = .ok (.iload_n 3, 1) := by decide +kernel
theorem dX9_swims_71 : decode cX9_swims 71 = .ok (.ifCond .ne 7, 3) := by decide +kernel
theorem dX9_swims_74 : decode cX9_swims 74 = .ok (.iconst 0, 1) := by decide +kernel
theorem dX9_swims_75 : decode cX9_swims 75 = .ok (.goto 4, 3) := by decide +kernel
theorem dX9_swims_78 : decode cX9_swims 78 = .ok (.iconst 4, 1) := by decide +kernel
theorem dX9_swims_79 : decode cX9_swims 79 = .ok (.iload_n 1, 1) := by decide +kernel
theorem dX9_swims_80 : decode cX9_swims 80 = .ok (.iadd, 1) := by decide +kernel
theorem dX9_swims_81 : decode cX9_swims 81 = .ok (.iaload, 1) := by decide +kernel
theorem dX9_swims_82 : decode cX9_swims 82 = .ok (.ireturn, 1) := by decide +kernel
theorem dX9_first_0 : decode cX9_first 0 = .ok (.iload_n 1, 1) := by decide +kernel
theorem dX9_first_1 : decode cX9_first 1 = .ok (.iconst 0, 1) := by decide +kernel
theorem dX9_first_2 : decode cX9_first 2 = .ok (.iconst 1, 1) := by decide +kernel
theorem dX9_first_3 : decode cX9_first 3 = .ok (.invokestatic 224, 3) := by decide +kernel
theorem dX9_first_6 : decode cX9_first 6 = .ok (.ifCond .ne 5, 3) := by decide +kernel
theorem dX9_first_9 : decode cX9_first 9 = .ok (.iconst (-1), 1) := by decide +kernel
theorem dX9_first_10 : decode cX9_first 10 = .ok (.ireturn, 1) := by decide +kernel
theorem dX9_first_11 : decode cX9_first 11 = .ok (.aload_n 0, 1) := by decide +kernel
theorem dX9_first_12 : decode cX9_first 12 = .ok (.getfield 39, 3) := by decide +kernel
theorem dX9_first_15 : decode cX9_first 15 = .ok (.aload_n 0, 1) := by decide +kernel
theorem dX9_first_16 : decode cX9_first 16 = .ok (.getfield 35, 3) := by decide +kernel
theorem dX9_first_19 : decode cX9_first 19 = .ok (.invokevirtual 98, 3) := by decide +kernel
theorem dX9_first_22 : decode cX9_first 22 = .ok (.aload_n 0, 1) := by decide +kernel
theorem dX9_first_23 : decode cX9_first 23 = .ok (.getfield 51, 3) := by decide +kernel
theorem dX9_first_26 : decode cX9_first 26 = .ok (.invokevirtual 238, 3) := by decide +kernel
theorem dX9_first_29 : decode cX9_first 29 = .ok (.istore_n 2, 1) := by decide +kernel
theorem dX9_first_30 : decode cX9_first 30 = .ok (.iload_n 2, 1) := by decide +kernel
theorem dX9_first_31 : decode cX9_first 31 = .ok (.bipush 101, 2) := by decide +kernel
theorem dX9_first_33 : decode cX9_first 33 = .ok (.if_icmp .ne 6, 3) := by decide +kernel
theorem dX9_first_36 : decode cX9_first 36 = .ok (.bipush (-2), 2) := by decide +kernel
theorem dX9_first_38 : decode cX9_first 38 = .ok (.ireturn, 1) := by decide +kernel
theorem dX9_first_39 : decode cX9_first 39 = .ok (.iload_n 1, 1) := by decide +kernel
theorem dX9_first_40 : decode cX9_first 40 = .ok (.ifCond .ne 7, 3) := by decide +kernel
theorem dX9_first_43 : decode cX9_first 43 = .ok (.iload_n 2, 1) := by decide +kernel
theorem dX9_first_44 : decode cX9_first 44 = .ok (.goto 23, 3) := by decide +kernel
theorem dX9_first_47 : decode cX9_first 47 = .ok (.aload_n 0, 1) := by decide +kernel
theorem dX9_first_48 : decode cX9_first 48 = .ok (.getfield 39, 3) := by decide +kernel
theorem dX9_first_51 : decode cX9_first 51 = .ok (.getfield 188, 3) := by decide +kernel
theorem dX9_first_54 : decode cX9_first 54 = .ok (.aload_n 0, 1) := by decide +kernel
theorem dX9_first_55 : decode cX9_first 55 = .ok (.getfield 35, 3) := by decide +kernel
theorem dX9_first_58 : decode cX9_first 58 = .ok (.getfield 188, 3) := by decide +kernel
theorem dX9_first_61 : decode cX9_first 61 = .ok (.iconst (-1), 1) := by decide +kernel
theorem dX9_first_62 : decode cX9_first 62 = .ok (.ixor, 1) := by decide +kernel
theorem dX9_first_63 : decode cX9_first 63 = .ok (.iand, 1) := by decide +kernel
theorem dX9_first_64 : decode cX9_first 64 = .ok (.invokestatic 241, 3) := by decide +kernel
theorem dX9_first_67 : decode cX9_first 67 = .ok (.ireturn, 1) := by decide +kernel
theorem dX9_near_0 : decode cX9_near 0 = .ok (.aload_n 0, 1) := by decide +kernel
theorem dX9_near_1 : decode cX9_near 1 = .ok (.iload_n 1, 1) := by decide +kernel
theorem dX9_near_2 : decode cX9_near 2 = .ok (.invokevirtual 121, 3) := by decide +kernel
theorem dX9_near_5 : decode cX9_near 5 = .ok (.ifCond .eq 21, 3) := by decide +kernel
theorem dX9_near_8 : decode cX9_near 8 = .ok (.aload_n 0, 1) := by decide +kernel
theorem dX9_near_9 : decode cX9_near 9 = .ok (.iload_n 2, 1) := by decide +kernel
theorem dX9_near_10 : decode cX9_near 10 = .ok (.invokevirtual 132, 3) := by decide +kernel
theorem dX9_near_13 : decode cX9_near 13 = .ok (.ifCond .eq 13, 3) := by decide +kernel
theorem dX9_near_16 : decode cX9_near 16 = .ok (.iload_n 3, 1) := by decide +kernel
theorem dX9_near_17 : decode cX9_near 17 = .ok (.iconst 0, 1) := by decide +kernel
theorem dX9_near_18 : decode cX9_near 18 = .ok (.bipush 9, 2) := by decide +kernel
theorem dX9_near_20 : decode cX9_near 20 = .ok (.invokestatic 224, 3) := by decide +kernel
theorem dX9_near_23 : decode cX9_near 23 = .ok (.ifCond .ne 5, 3) := by decide +kernel
theorem dX9_near_26 : decode cX9_near 26 = .ok (.iconst (-1), 1) := by decide +kernel
theorem dX9_near_27 : decode cX9_near 27 = .ok (.ireturn, 1) := by decide +kernel
theorem dX9_near_28 : decode cX9_near 28 = .ok (.aload_n 0, 1) := by decide +kernel
theorem dX9_near_29 : decode cX9_near 29 = .ok (.getfield 35, 3) := by decide +kernel
theorem dX9_near_32 : decode cX9_near 32 = .ok (.getfield 125, 3) := by decide +kernel
theorem dX9_near_35 : decode cX9_near 35 = .ok (.bipush 16, 2) := by decide +kernel
theorem dX9_near_37 : decode cX9_near 37 = .ok (.iload_n 2, 1) := by decide +kernel
theorem dX9_near_38 : decode cX9_near 38 = .ok (.iadd, 1) := by decide +kernel
theorem dX9_near_39 : decode cX9_near 39 = .ok (.iaload, 1) := by decide +kernel
theorem dX9_near_40 : decode cX9_near 40 = .ok (.istore 4, 2) := by decide +kernel
theorem dX9_near_42 : decode cX9_near 42 = .ok (.aload_n 0, 1) := by decide +kernel
theorem dX9_near_43 : decode cX9_near 43 = .ok (.getfield 35, 3) := by decide +kernel
theorem dX9_near_46 : decode cX9_near 46 = .ok (.getfield 125, 3) := by decide +kernel
theorem dX9_near_49 : decode cX9_near 49 = .ok (.bipush 22, 2) := by decide +kernel
theorem dX9_near_51 : decode cX9_near 51 = .ok (.iload_n 2, 1) := by decide +kernel
theorem dX9_near_52 : decode cX9_near 52 = .ok (.iadd, 1) := by decide +kernel
theorem dX9_near_53 : decode cX9_near 53 = .ok (.iaload, 1) := by decide +kernel
theorem dX9_near_54 : decode cX9_near 54 = .ok (.istore 5, 2) := by decide +kernel
theorem dX9_near_56 : decode cX9_near 56 = .ok (.aload_n 0, 1) := by decide +kernel
theorem dX9_near_57 : decode cX9_near 57 = .ok (.getfield 39, 3) := by decide +kernel
theorem dX9_near_60 : decode cX9_near 60 = .ok (.aload_n 0, 1) := by decide +kernel
theorem dX9_near_61 : decode cX9_near 61 = .ok (.getfield 35, 3) := by decide +kernel
theorem dX9_near_64 : decode cX9_near 64 = .ok (.invokevirtual 98, 3) := by decide +kernel
theorem dX9_near_67 : decode cX9_near 67 = .ok (.iconst 0, 1) := by decide +kernel
theorem dX9_near_68 : decode cX9_near 68 = .ok (.istore 6, 2) := by decide +kernel
theorem dX9_near_70 : decode cX9_near 70 = .ok (.iload 6, 2) := by decide +kernel
theorem dX9_near_72 : decode cX9_near 72 = .ok (.bipush 100, 2) := by decide +kernel
theorem dX9_near_74 : decode cX9_near 74 = .ok (.if_icmp .gt 36, 3) := by decide +kernel
theorem dX9_near_77 : decode cX9_near 77 = .ok (.aload_n 0, 1) := by decide +kernel
theorem dX9_near_78 : decode cX9_near 78 = .ok (.getfield 39, 3) := by decide +kernel
theorem dX9_near_81 : decode cX9_near 81 = .ok (.iload_n 1, 1) := by decide +kernel
theorem dX9_near_82 : decode cX9_near 82 = .ok (.iload 4, 2) := by decide +kernel
theorem dX9_near_84 : decode cX9_near 84 = .ok (.iload 5, 2) := by decide +kernel
theorem dX9_near_86 : decode cX9_near 86 = .ok (.invokevirtual 182, 3) := by decide +kernel
theorem dX9_near_89 : decode cX9_near 89 = .ok (.iload_n 3, 1) := by decide +kernel
theorem dX9_near_90 : decode cX9_near 90 = .ok (.if_icmp .gt 6, 3) := by decide +kernel
theorem dX9_near_93 : decode cX9_near 93 = .ok (.iload 6, 2) := by decide +kernel
theorem dX9_near_95 : decode cX9_near 95 = .ok (.ireturn, 1) := by decide +kernel
theorem dX9_near_96 : decode cX9_near 96 = .ok (.aload_n 0, 1) := by decide +kernel
theorem dX9_near_97 : decode cX9_near 97 = .ok (.getfield 39, 3) := by decide +kernel
theorem dX9_near_100 : decode cX9_near 100 = .ok (.iload_n 1, 1) := by decide +kernel
theorem dX9_near_101 : decode cX9_near 101 = .ok (.invokevirtual 235, 3) := by decide +kernel
theorem dX9_near_104 : decode cX9_near 104 = .ok (.iinc 6 1, 3) := by decide +kernel
theorem dX9_near_107 : decode cX9_near 107 = .ok (.goto (-37), 3) := by decide +kernel
theorem dX9_near_110 : decode cX9_near 110 = .ok (.bipush (-2), 2) := by decide +kernel
theorem dX9_near_112 : decode cX9_near 112 = .ok (.ireturn, 1) := by decide +kernel
theorem dX9_passing_0 : decode cX9_passing 0 = .ok (.aload_n 0, 1) := by decide +kernel
theorem dX9_passing_1 : decode cX9_passing 1 = .ok (.iload_n 1, 1) := by decide +kernel
theorem dX9_passing_2 : decode cX9_passing 2 = .ok (.invokevirtual 121, 3) := by decide +kernel
theorem dX9_passing_5 : decode cX9_passing 5 = .ok (.ifCond .eq 26, 3) := by decide +kernel
theorem dX9_passing_8 : decode cX9_passing 8 = .ok (.aload_n 0, 1) := by decide +kernel
theorem dX9_passing_9 : decode cX9_passing 9 = .ok (.iload_n 2, 1) := by decide +kernel
theorem dX9_passing_10 : decode cX9_passing 10 = .ok (.invokevirtual 121, 3) := by decide +kernel
theorem dX9_passing_13 : decode cX9_passing 13 = .ok (.ifCond .eq 18, 3) := by decide +kernel
theorem dX9_passing_16 : decode cX9_passing 16 = .ok (.iload_n 1, 1) := by decide +kernel
theorem dX9_passing_17 : decode cX9_passing 17 = .ok (.iload_n 2, 1) := by decide +kernel
theorem dX9_passing_18 : decode cX9_passing 18 = .ok (.if_icmp .eq 13, 3) := by decide +kernel
theorem dX9_passing_21 : decode cX9_passing 21 = .ok (.iload_n 3, 1) := by decide +kernel
theorem dX9_passing_22 : decode cX9_passing 22 = .ok (.iconst 0, 1) := by decide +kernel
theorem dX9_passing_23 : decode cX9_passing 23 = .ok (.bipush 9, 2) := by decide +kernel
theorem dX9_passing_25 : decode cX9_passing 25 = .ok (.invokestatic 224, 3) := by decide +kernel
theorem dX9_passing_28 : decode cX9_passing 28 = .ok (.ifCond .ne 5, 3) := by decide +kernel
theorem dX9_passing_31 : decode cX9_passing 31 = .ok (.iconst (-1), 1) := by decide +kernel
theorem dX9_passing_32 : decode cX9_passing 32 = .ok (.ireturn, 1) := by decide +kernel
theorem dX9_passing_33 : decode cX9_passing 33 = .ok (.aload_n 0, 1) := by decide +kernel
theorem dX9_passing_34 : decode cX9_passing 34 = .ok (.getfield 39, 3) := by decide +kernel
theorem dX9_passing_37 : decode cX9_passing 37 = .ok (.aload_n 0, 1) := by decide +kernel
theorem dX9_passing_38 : decode cX9_passing 38 = .ok (.getfield 35, 3) := by decide +kernel
theorem dX9_passing_41 : decode cX9_passing 41 = .ok (.invokevirtual 98, 3) := by decide +kernel
theorem dX9_passing_44 : decode cX9_passing 44 = .ok (.iconst 0, 1) := by decide +kernel
theorem dX9_passing_45 : decode cX9_passing 45 = .ok (.istore 4, 2) := by decide +kernel
theorem dX9_passing_47 : decode cX9_passing 47 = .ok (.iload 4, 2) := by decide +kernel
theorem dX9_passing_49 : decode cX9_passing 49 = .ok (.bipush 100, 2) := by decide +kernel
theorem dX9_passing_51 : decode cX9_passing 51 = .ok (.if_icmp .gt 70, 3) := by decide +kernel
theorem dX9_passing_54 : decode cX9_passing 54 = .ok (.aload_n 0, 1) := by decide +kernel
theorem dX9_passing_55 : decode cX9_passing 55 = .ok (.getfield 39, 3) := by decide +kernel
theorem dX9_passing_58 : decode cX9_passing 58 = .ok (.getfield 125, 3) := by decide +kernel
theorem dX9_passing_61 : decode cX9_passing 61 = .ok (.iconst 0, 1) := by decide +kernel
theorem dX9_passing_62 : decode cX9_passing 62 = .ok (.iload_n 2, 1) := by decide +kernel
theorem dX9_passing_63 : decode cX9_passing 63 = .ok (.iadd, 1) := by decide +kernel
theorem dX9_passing_64 : decode cX9_passing 64 = .ok (.iaload, 1) := by decide +kernel
theorem dX9_passing_65 : decode cX9_passing 65 = .ok (.istore 5, 2) := by decide +kernel
theorem dX9_passing_67 : decode cX9_passing 67 = .ok (.aload_n 0, 1) := by decide +kernel
theorem dX9_passing_68 : decode cX9_passing 68 = .ok (.getfield 39, 3) := by decide +kernel
theorem dX9_passing_71 : decode cX9_passing 71 = .ok (.getfield 125, 3) := by decide +kernel
theorem dX9_passing_74 : decode cX9_passing 74 = .ok (.iconst 4, 1) := by decide +kernel
theorem dX9_passing_75 : decode cX9_passing 75 = .ok (.iload_n 2, 1) := by decide +kernel
theorem dX9_passing_76 : decode cX9_passing 76 = .ok (.iadd, 1) := by decide +kernel
theorem dX9_passing_77 : decode cX9_passing 77 = .ok (.iaload, 1) := by decide +kernel
theorem dX9_passing_78 : decode cX9_passing 78 = .ok (.istore 6, 2) := by decide +kernel
theorem dX9_passing_80 : decode cX9_passing 80 = .ok (.aload_n 0, 1) := by decide +kernel
theorem dX9_passing_81 : decode cX9_passing 81 = .ok (.getfield 39, 3) := by decide +kernel
theorem dX9_passing_84 : decode cX9_passing 84 = .ok (.iload_n 1, 1) := by decide +kernel
theorem dX9_passing_85 : decode cX9_passing 85 = .ok (.iload 5, 2) := by decide +kernel
theorem dX9_passing_87 : decode cX9_passing 87 = .ok (.iload 6, 2) := by decide +kernel
theorem dX9_passing_89 : decode cX9_passing 89 = .ok (.invokevirtual 182, 3) := by decide +kernel
theorem dX9_passing_92 : decode cX9_passing 92 = .ok (.iload_n 3, 1) := by decide +kernel
theorem dX9_passing_93 : decode cX9_passing 93 = .ok (.if_icmp .gt 6, 3) := by decide +kernel
theorem dX9_passing_96 : decode cX9_passing 96 = .ok (.iload 4, 2) := by decide +kernel
theorem dX9_passing_98 : decode cX9_passing 98 = .ok (.ireturn, 1) := by decide +kernel
theorem dX9_passing_99 : decode cX9_passing 99 = .ok (.aload_n 0, 1) := by decide +kernel
theorem dX9_passing_100 : decode cX9_passing 100 = .ok (.getfield 39, 3) := by decide +kernel
theorem dX9_passing_103 : decode cX9_passing 103 = .ok (.iload_n 1, 1) := by decide +kernel
theorem dX9_passing_104 : decode cX9_passing 104 = .ok (.invokevirtual 235, 3) := by decide +kernel
theorem dX9_passing_107 : decode cX9_passing 107 = .ok (.aload_n 0, 1) := by decide +kernel
theorem dX9_passing_108 : decode cX9_passing 108 = .ok (.getfield 39, 3) := by decide +kernel
theorem dX9_passing_111 : decode cX9_passing 111 = .ok (.iload_n 2, 1) := by decide +kernel
theorem dX9_passing_112 : decode cX9_passing 112 = .ok (.invokevirtual 235, 3) := by decide +kernel
theorem dX9_passing_115 : decode cX9_passing 115 = .ok (.iinc 4 1, 3) := by decide +kernel
theorem dX9_passing_118 : decode cX9_passing 118 = .ok (.goto (-71), 3) := by decide +kernel
theorem dX9_passing_121 : decode cX9_passing 121 = .ok (.bipush (-2), 2) := by decide +kernel
theorem dX9_passing_123 : decode cX9_passing 123 = .ok (.ireturn, 1) := by decide +kernel
theorem dX9_again_0 : decode cX9_again 0 = .ok (.aload_n 0, 1) := by decide +kernel
theorem dX9_again_1 : decode cX9_again 1 = .ok (.iload_n 1, 1) := by decide +kernel
theorem dX9_again_2 : decode cX9_again 2 = .ok (.invokevirtual 121, 3) := by decide +kernel
theorem dX9_again_5 : decode cX9_again 5 = .ok (.ifCond .ne 5, 3) := by decide +kernel
theorem dX9_again_8 : decode cX9_again 8 = .ok (.iconst (-1), 1) := by decide +kernel
theorem dX9_again_9 : decode cX9_again 9 = .ok (.ireturn, 1) := by decide +kernel
theorem dX9_again_10 : decode cX9_again 10 = .ok (.aload_n 0, 1) := by decide +kernel
theorem dX9_again_11 : decode cX9_again 11 = .ok (.getfield 39, 3) := by decide +kernel
theorem dX9_again_14 : decode cX9_again 14 = .ok (.aload_n 0, 1) := by decide +kernel
theorem dX9_again_15 : decode cX9_again 15 = .ok (.getfield 35, 3) := by decide +kernel
theorem dX9_again_18 : decode cX9_again 18 = .ok (.invokevirtual 98, 3) := by decide +kernel
theorem dX9_again_21 : decode cX9_again 21 = .ok (.iconst 1, 1) := by decide +kernel
theorem dX9_again_22 : decode cX9_again 22 = .ok (.istore_n 2, 1) := by decide +kernel
theorem dX9_again_23 : decode cX9_again 23 = .ok (.iload_n 2, 1) := by decide +kernel
theorem dX9_again_24 : decode cX9_again 24 = .ok (.bipush 36, 2) := by decide +kernel
theorem dX9_again_26 : decode cX9_again 26 = .ok (.if_icmp .gt 34, 3) := by decide +kernel
theorem dX9_again_29 : decode cX9_again 29 = .ok (.aload_n 0, 1) := by decide +kernel
theorem dX9_again_30 : decode cX9_again 30 = .ok (.getfield 39, 3) := by decide +kernel
theorem dX9_again_33 : decode cX9_again 33 = .ok (.iload_n 1, 1) := by decide +kernel
theorem dX9_again_34 : decode cX9_again 34 = .ok (.invokevirtual 235, 3) := by decide +kernel
theorem dX9_again_37 : decode cX9_again 37 = .ok (.aload_n 0, 1) := by decide +kernel
theorem dX9_again_38 : decode cX9_again 38 = .ok (.getfield 39, 3) := by decide +kernel
theorem dX9_again_41 : decode cX9_again 41 = .ok (.aload_n 0, 1) := by decide +kernel
theorem dX9_again_42 : decode cX9_again 42 = .ok (.getfield 35, 3) := by decide +kernel
theorem dX9_again_45 : decode cX9_again 45 = .ok (.iload_n 1, 1) := by decide +kernel
theorem dX9_again_46 : decode cX9_again 46 = .ok (.invokevirtual 244, 3) := by decide +kernel
theorem dX9_again_49 : decode cX9_again 49 = .ok (.ifCond .eq 5, 3) := by decide +kernel
theorem dX9_again_52 : decode cX9_again 52 = .ok (.iload_n 2, 1) := by decide +kernel
theorem dX9_again_53 : decode cX9_again 53 = .ok (.ireturn, 1) := by decide +kernel
theorem dX9_again_54 : decode cX9_again 54 = .ok (.iinc 2 1, 3) := by decide +kernel
theorem dX9_again_57 : decode cX9_again 57 = .ok (.goto (-34), 3) := by decide +kernel
theorem dX9_again_60 : decode cX9_again 60 = .ok (.bipush (-2), 2) := by decide +kernel
theorem dX9_again_62 : decode cX9_again 62 = .ok (.ireturn, 1) := by decide +kernel
theorem dX9_turns_0 : decode cX9_turns 0 = .ok (.aload_n 0, 1) := by decide +kernel
theorem dX9_turns_1 : decode cX9_turns 1 = .ok (.iload_n 1, 1) := by decide +kernel
theorem dX9_turns_2 : decode cX9_turns 2 = .ok (.invokevirtual 132, 3) := by decide +kernel
theorem dX9_turns_5 : decode cX9_turns 5 = .ok (.ifCond .eq 13, 3) := by decide +kernel
theorem dX9_turns_8 : decode cX9_turns 8 = .ok (.iload_n 2, 1) := by decide +kernel
theorem dX9_turns_9 : decode cX9_turns 9 = .ok (.iconst 0, 1) := by decide +kernel
theorem dX9_turns_10 : decode cX9_turns 10 = .ok (.bipush 60, 2) := by decide +kernel
theorem dX9_turns_12 : decode cX9_turns 12 = .ok (.invokestatic 224, 3) := by decide +kernel
theorem dX9_turns_15 : decode cX9_turns 15 = .ok (.ifCond .ne 5, 3) := by decide +kernel
theorem dX9_turns_18 : decode cX9_turns 18 = .ok (.iconst (-1), 1) := by decide +kernel
theorem dX9_turns_19 : decode cX9_turns 19 = .ok (.ireturn, 1) := by decide +kernel
theorem dX9_turns_20 : decode cX9_turns 20 = .ok (.iconst 0, 1) := by decide +kernel
theorem dX9_turns_21 : decode cX9_turns 21 = .ok (.istore_n 3, 1) := by decide +kernel
theorem dX9_turns_22 : decode cX9_turns 22 = .ok (.aload_n 0, 1) := by decide +kernel
theorem dX9_turns_23 : decode cX9_turns 23 = .ok (.getfield 39, 3) := by decide +kernel
theorem dX9_turns_26 : decode cX9_turns 26 = .ok (.aload_n 0, 1) := by decide +kernel
theorem dX9_turns_27 : decode cX9_turns 27 = .ok (.getfield 35, 3) := by decide +kernel
theorem dX9_turns_30 : decode cX9_turns 30 = .ok (.invokevirtual 98, 3) := by decide +kernel
theorem dX9_turns_33 : decode cX9_turns 33 = .ok (.iconst 0, 1) := by decide +kernel
theorem dX9_turns_34 : decode cX9_turns 34 = .ok (.istore 4, 2) := by decide +kernel
theorem dX9_turns_36 : decode cX9_turns 36 = .ok (.iload 4, 2) := by decide +kernel
theorem dX9_turns_38 : decode cX9_turns 38 = .ok (.iload_n 2, 1) := by decide +kernel
theorem dX9_turns_39 : decode cX9_turns 39 = .ok (.if_icmp .ge 67, 3) := by decide +kernel
theorem dX9_turns_42 : decode cX9_turns 42 = .ok (.aload_n 0, 1) := by decide +kernel
theorem dX9_turns_43 : decode cX9_turns 43 = .ok (.getfield 39, 3) := by decide +kernel
theorem dX9_turns_46 : decode cX9_turns 46 = .ok (.getfield 125, 3) := by decide +kernel
theorem dX9_turns_49 : decode cX9_turns 49 = .ok (.bipush 16, 2) := by decide +kernel
theorem dX9_turns_51 : decode cX9_turns 51 = .ok (.iload_n 1, 1) := by decide +kernel
theorem dX9_turns_52 : decode cX9_turns 52 = .ok (.iadd, 1) := by decide +kernel
theorem dX9_turns_53 : decode cX9_turns 53 = .ok (.iaload, 1) := by decide +kernel
theorem dX9_turns_54 : decode cX9_turns 54 = .ok (.istore 5, 2) := by decide +kernel
theorem dX9_turns_56 : decode cX9_turns 56 = .ok (.aload_n 0, 1) := by decide +kernel
theorem dX9_turns_57 : decode cX9_turns 57 = .ok (.getfield 39, 3) := by decide +kernel
theorem dX9_turns_60 : decode cX9_turns 60 = .ok (.getfield 125, 3) := by decide +kernel
theorem dX9_turns_63 : decode cX9_turns 63 = .ok (.bipush 22, 2) := by decide +kernel
theorem dX9_turns_65 : decode cX9_turns 65 = .ok (.iload_n 1, 1) := by decide +kernel
theorem dX9_turns_66 : decode cX9_turns 66 = .ok (.iadd, 1) := by decide +kernel
theorem dX9_turns_67 : decode cX9_turns 67 = .ok (.iaload, 1) := by decide +kernel
theorem dX9_turns_68 : decode cX9_turns 68 = .ok (.istore 6, 2) := by decide +kernel
theorem dX9_turns_70 : decode cX9_turns 70 = .ok (.aload_n 0, 1) := by decide +kernel
theorem dX9_turns_71 : decode cX9_turns 71 = .ok (.getfield 51, 3) := by decide +kernel
theorem dX9_turns_74 : decode cX9_turns 74 = .ok (.iload_n 1, 1) := by decide +kernel
theorem dX9_turns_75 : decode cX9_turns 75 = .ok (.iload 5, 2) := by decide +kernel
theorem dX9_turns_77 : decode cX9_turns 77 = .ok (.iload 6, 2) := by decide +kernel
theorem dX9_turns_79 : decode cX9_turns 79 = .ok (.invokevirtual 213, 3) := by decide +kernel
theorem dX9_turns_82 : decode cX9_turns 82 = .ok (.ifCond .eq 6, 3) := by decide +kernel
theorem dX9_turns_85 : decode cX9_turns 85 = .ok (.iinc 3 1, 3) := by decide +kernel
theorem dX9_turns_88 : decode cX9_turns 88 = .ok (.aload_n 0, 1) := by decide +kernel
theorem dX9_turns_89 : decode cX9_turns 89 = .ok (.getfield 51, 3) := by decide +kernel
theorem dX9_turns_92 : decode cX9_turns 92 = .ok (.iload_n 1, 1) := by decide +kernel
theorem dX9_turns_93 : decode cX9_turns 93 = .ok (.iload_n 1, 1) := by decide +kernel
theorem dX9_turns_94 : decode cX9_turns 94 = .ok (.iconst 1, 1) := by decide +kernel
theorem dX9_turns_95 : decode cX9_turns 95 = .ok (.iadd, 1) := by decide +kernel
theorem dX9_turns_96 : decode cX9_turns 96 = .ok (.iconst 0, 1) := by decide +kernel
theorem dX9_turns_97 : decode cX9_turns 97 = .ok (.invokevirtual 227, 3) := by decide +kernel
theorem dX9_turns_100 : decode cX9_turns 100 = .ok (.iinc 4 1, 3) := by decide +kernel
theorem dX9_turns_103 : decode cX9_turns 103 = .ok (.goto (-67), 3) := by decide +kernel
theorem dX9_turns_106 : decode cX9_turns 106 = .ok (.iload_n 3, 1) := by decide +kernel
theorem dX9_turns_107 : decode cX9_turns 107 = .ok (.ireturn, 1) := by decide +kernel
theorem dX9_market_0 : decode cX9_market 0 = .ok (.iload_n 1, 1) := by decide +kernel
theorem dX9_market_1 : decode cX9_market 1 = .ok (.iconst 0, 1) := by decide +kernel
theorem dX9_market_2 : decode cX9_market 2 = .ok (.bipush 60, 2) := by decide +kernel
theorem dX9_market_4 : decode cX9_market 4 = .ok (.invokestatic 224, 3) := by decide +kernel
theorem dX9_market_7 : decode cX9_market 7 = .ok (.ifCond .ne 5, 3) := by decide +kernel
theorem dX9_market_10 : decode cX9_market 10 = .ok (.iconst (-1), 1) := by decide +kernel
theorem dX9_market_11 : decode cX9_market 11 = .ok (.ireturn, 1) := by decide +kernel
theorem dX9_market_12 : decode cX9_market 12 = .ok (.aload_n 0, 1) := by decide +kernel
theorem dX9_market_13 : decode cX9_market 13 = .ok (.getfield 39, 3) := by decide +kernel
theorem dX9_market_16 : decode cX9_market 16 = .ok (.aload_n 0, 1) := by decide +kernel
theorem dX9_market_17 : decode cX9_market 17 = .ok (.getfield 35, 3) := by decide +kernel
theorem dX9_market_20 : decode cX9_market 20 = .ok (.invokevirtual 98, 3) := by decide +kernel
theorem dX9_market_23 : decode cX9_market 23 = .ok (.iconst 0, 1) := by decide +kernel
theorem dX9_market_24 : decode cX9_market 24 = .ok (.istore_n 2, 1) := by decide +kernel
theorem dX9_market_25 : decode cX9_market 25 = .ok (.iload_n 2, 1) := by decide +kernel
theorem dX9_market_26 : decode cX9_market 26 = .ok (.iload_n 1, 1) := by decide +kernel
theorem dX9_market_27 : decode cX9_market 27 = .ok (.if_icmp .ge 25, 3) := by decide +kernel
theorem dX9_market_30 : decode cX9_market 30 = .ok (.aload_n 0, 1) := by decide +kernel
theorem dX9_market_31 : decode cX9_market 31 = .ok (.getfield 51, 3) := by decide +kernel
theorem dX9_market_34 : decode cX9_market 34 = .ok (.iconst 0, 1) := by decide +kernel
theorem dX9_market_35 : decode cX9_market 35 = .ok (.aload_n 0, 1) := by decide +kernel
theorem dX9_market_36 : decode cX9_market 36 = .ok (.getfield 16, 3) := by decide +kernel
theorem dX9_market_39 : decode cX9_market 39 = .ok (.getfield 115, 3) := by decide +kernel
theorem dX9_market_42 : decode cX9_market 42 = .ok (.iconst 0, 1) := by decide +kernel
theorem dX9_market_43 : decode cX9_market 43 = .ok (.invokevirtual 227, 3) := by decide +kernel
theorem dX9_market_46 : decode cX9_market 46 = .ok (.iinc 2 1, 3) := by decide +kernel
theorem dX9_market_49 : decode cX9_market 49 = .ok (.goto (-24), 3) := by decide +kernel
theorem dX9_market_52 : decode cX9_market 52 = .ok (.aload_n 0, 1) := by decide +kernel
theorem dX9_market_53 : decode cX9_market 53 = .ok (.getfield 51, 3) := by decide +kernel
theorem dX9_market_56 : decode cX9_market 56 = .ok (.invokevirtual 206, 3) := by decide +kernel
theorem dX9_market_59 : decode cX9_market 59 = .ok (.ireturn, 1) := by decide +kernel
theorem dX9_year_0 : decode cX9_year 0 = .ok (.aload_n 0, 1) := by decide +kernel
theorem dX9_year_1 : decode cX9_year 1 = .ok (.iload_n 1, 1) := by decide +kernel
theorem dX9_year_2 : decode cX9_year 2 = .ok (.invokevirtual 132, 3) := by decide +kernel
theorem dX9_year_5 : decode cX9_year 5 = .ok (.ifCond .eq 23, 3) := by decide +kernel
theorem dX9_year_8 : decode cX9_year 8 = .ok (.iload_n 2, 1) := by decide +kernel
theorem dX9_year_9 : decode cX9_year 9 = .ok (.iconst 0, 1) := by decide +kernel
theorem dX9_year_10 : decode cX9_year 10 = .ok (.bipush 60, 2) := by decide +kernel
theorem dX9_year_12 : decode cX9_year 12 = .ok (.invokestatic 224, 3) := by decide +kernel
theorem dX9_year_15 : decode cX9_year 15 = .ok (.ifCond .eq 13, 3) := by decide +kernel
theorem dX9_year_18 : decode cX9_year 18 = .ok (.iload_n 3, 1) := by decide +kernel
theorem dX9_year_19 : decode cX9_year 19 = .ok (.iconst 1, 1) := by decide +kernel
theorem dX9_year_20 : decode cX9_year 20 = .ok (.bipush 20, 2) := by decide +kernel
theorem dX9_year_22 : decode cX9_year 22 = .ok (.invokestatic 224, 3) := by decide +kernel
theorem dX9_year_25 : decode cX9_year 25 = .ok (.ifCond .ne 5, 3) := by decide +kernel
theorem dX9_year_28 : decode cX9_year 28 = .ok (.iconst (-1), 1) := by decide +kernel
theorem dX9_year_29 : decode cX9_year 29 = .ok (.ireturn, 1) := by decide +kernel
theorem dX9_year_30 : decode cX9_year 30 = .ok (.iconst 0, 1) := by decide +kernel
theorem dX9_year_31 : decode cX9_year 31 = .ok (.istore 4, 2) := by decide +kernel
theorem dX9_year_33 : decode cX9_year 33 = .ok (.aload_n 0, 1) := by decide +kernel
theorem dX9_year_34 : decode cX9_year 34 = .ok (.getfield 39, 3) := by decide +kernel
theorem dX9_year_37 : decode cX9_year 37 = .ok (.aload_n 0, 1) := by decide +kernel
theorem dX9_year_38 : decode cX9_year 38 = .ok (.getfield 35, 3) := by decide +kernel
theorem dX9_year_41 : decode cX9_year 41 = .ok (.invokevirtual 98, 3) := by decide +kernel
theorem dX9_year_44 : decode cX9_year 44 = .ok (.iconst 0, 1) := by decide +kernel
theorem dX9_year_45 : decode cX9_year 45 = .ok (.istore 5, 2) := by decide +kernel
theorem dX9_year_47 : decode cX9_year 47 = .ok (.iload 5, 2) := by decide +kernel
theorem dX9_year_49 : decode cX9_year 49 = .ok (.iload_n 2, 1) := by decide +kernel
theorem dX9_year_50 : decode cX9_year 50 = .ok (.if_icmp .ge 35, 3) := by decide +kernel
theorem dX9_year_53 : decode cX9_year 53 = .ok (.iload 4, 2) := by decide +kernel
theorem dX9_year_55 : decode cX9_year 55 = .ok (.aload_n 0, 1) := by decide +kernel
theorem dX9_year_56 : decode cX9_year 56 = .ok (.getfield 51, 3) := by decide +kernel
theorem dX9_year_59 : decode cX9_year 59 = .ok (.iload_n 1, 1) := by decide +kernel
theorem dX9_year_60 : decode cX9_year 60 = .ok (.iload_n 3, 1) := by decide +kernel
theorem dX9_year_61 : decode cX9_year 61 = .ok (.invokevirtual 248, 3) := by decide +kernel
theorem dX9_year_64 : decode cX9_year 64 = .ok (.ior, 1) := by decide +kernel
theorem dX9_year_65 : decode cX9_year 65 = .ok (.istore 4, 2) := by decide +kernel
theorem dX9_year_67 : decode cX9_year 67 = .ok (.aload_n 0, 1) := by decide +kernel
theorem dX9_year_68 : decode cX9_year 68 = .ok (.getfield 51, 3) := by decide +kernel
theorem dX9_year_71 : decode cX9_year 71 = .ok (.iload_n 1, 1) := by decide +kernel
theorem dX9_year_72 : decode cX9_year 72 = .ok (.iload_n 1, 1) := by decide +kernel
theorem dX9_year_73 : decode cX9_year 73 = .ok (.iconst 1, 1) := by decide +kernel
theorem dX9_year_74 : decode cX9_year 74 = .ok (.iadd, 1) := by decide +kernel
theorem dX9_year_75 : decode cX9_year 75 = .ok (.iconst 0, 1) := by decide +kernel
theorem dX9_year_76 : decode cX9_year 76 = .ok (.invokevirtual 227, 3) := by decide +kernel
theorem dX9_year_79 : decode cX9_year 79 = .ok (.iinc 5 1, 3) := by decide +kernel
theorem dX9_year_82 : decode cX9_year 82 = .ok (.goto (-35), 3) := by decide +kernel
theorem dX9_year_85 : decode cX9_year 85 = .ok (.aload_n 0, 1) := by decide +kernel
theorem dX9_year_86 : decode cX9_year 86 = .ok (.getfield 39, 3) := by decide +kernel
theorem dX9_year_89 : decode cX9_year 89 = .ok (.iload_n 1, 1) := by decide +kernel
theorem dX9_year_90 : decode cX9_year 90 = .ok (.invokevirtual 139, 3) := by decide +kernel
theorem dX9_year_93 : decode cX9_year 93 = .ok (.ifCond .eq 7, 3) := by decide +kernel
theorem dX9_year_96 : decode cX9_year 96 = .ok (.iconst 0, 1) := by decide +kernel
theorem dX9_year_97 : decode cX9_year 97 = .ok (.goto 10, 3) := by decide +kernel
theorem dX9_year_100 : decode cX9_year 100 = .ok (.iload_n 3, 1) := by decide +kernel
theorem dX9_year_101 : decode cX9_year 101 = .ok (.iload 4, 2) := by decide +kernel
theorem dX9_year_103 : decode cX9_year 103 = .ok (.invokestatic 201, 3) := by decide +kernel
theorem dX9_year_106 : decode cX9_year 106 = .ok (.isub, 1) := by decide +kernel
theorem dX9_year_107 : decode cX9_year 107 = .ok (.ireturn, 1) := by decide +kernel
theorem dX9_cutBest_0 : decode cX9_cutBest 0 = .ok (.aload_n 0, 1) := by decide +kernel
theorem dX9_cutBest_1 : decode cX9_cutBest 1 = .ok (.getfield 39, 3) := by decide +kernel
theorem dX9_cutBest_4 : decode cX9_cutBest 4 = .ok (.aload_n 0, 1) := by decide +kernel
theorem dX9_cutBest_5 : decode cX9_cutBest 5 = .ok (.getfield 35, 3) := by decide +kernel
theorem dX9_cutBest_8 : decode cX9_cutBest 8 = .ok (.invokevirtual 98, 3) := by decide +kernel
theorem dX9_cutBest_11 : decode cX9_cutBest 11 = .ok (.aload_n 0, 1) := by decide +kernel
theorem dX9_cutBest_12 : decode cX9_cutBest 12 = .ok (.getfield 51, 3) := by decide +kernel
theorem dX9_cutBest_15 : decode cX9_cutBest 15 = .ok (.invokevirtual 238, 3) := by decide +kernel
theorem dX9_cutBest_18 : decode cX9_cutBest 18 = .ok (.istore_n 1, 1) := by decide +kernel
theorem dX9_cutBest_19 : decode cX9_cutBest 19 = .ok (.aload_n 0, 1) := by decide +kernel
theorem dX9_cutBest_20 : decode cX9_cutBest 20 = .ok (.getfield 39, 3) := by decide +kernel
theorem dX9_cutBest_23 : decode cX9_cutBest 23 = .ok (.getfield 188, 3) := by decide +kernel
theorem dX9_cutBest_26 : decode cX9_cutBest 26 = .ok (.aload_n 0, 1) := by decide +kernel
theorem dX9_cutBest_27 : decode cX9_cutBest 27 = .ok (.getfield 35, 3) := by decide +kernel
theorem dX9_cutBest_30 : decode cX9_cutBest 30 = .ok (.getfield 188, 3) := by decide +kernel
theorem dX9_cutBest_33 : decode cX9_cutBest 33 = .ok (.iconst (-1), 1) := by decide +kernel
theorem dX9_cutBest_34 : decode cX9_cutBest 34 = .ok (.ixor, 1) := by decide +kernel
theorem dX9_cutBest_35 : decode cX9_cutBest 35 = .ok (.iand, 1) := by decide +kernel
theorem dX9_cutBest_36 : decode cX9_cutBest 36 = .ok (.istore_n 2, 1) := by decide +kernel
theorem dX9_cutBest_37 : decode cX9_cutBest 37 = .ok (.bipush (-2), 2) := by decide +kernel
theorem dX9_cutBest_39 : decode cX9_cutBest 39 = .ok (.istore_n 3, 1) := by decide +kernel
theorem dX9_cutBest_40 : decode cX9_cutBest 40 = .ok (.iconst 0, 1) := by decide +kernel
theorem dX9_cutBest_41 : decode cX9_cutBest 41 = .ok (.istore 4, 2) := by decide +kernel
theorem dX9_cutBest_43 : decode cX9_cutBest 43 = .ok (.iload 4, 2) := by decide +kernel
theorem dX9_cutBest_45 : decode cX9_cutBest 45 = .ok (.aload_n 0, 1) := by decide +kernel
theorem dX9_cutBest_46 : decode cX9_cutBest 46 = .ok (.getfield 16, 3) := by decide +kernel
theorem dX9_cutBest_49 : decode cX9_cutBest 49 = .ok (.getfield 118, 3) := by decide +kernel
theorem dX9_cutBest_52 : decode cX9_cutBest 52 = .ok (.if_icmp .ge 94, 3) := by decide +kernel
theorem dX9_cutBest_55 : decode cX9_cutBest 55 = .ok (.iload_n 1, 1) := by decide +kernel
theorem dX9_cutBest_56 : decode cX9_cutBest 56 = .ok (.bipush 101, 2) := by decide +kernel
theorem dX9_cutBest_58 : decode cX9_cutBest 58 = .ok (.if_icmp .ge 88, 3) := by decide +kernel
theorem dX9_cutBest_61 : decode cX9_cutBest 61 = .ok (.aload_n 0, 1) := by decide +kernel
theorem dX9_cutBest_62 : decode cX9_cutBest 62 = .ok (.getfield 35, 3) := by decide +kernel
theorem dX9_cutBest_65 : decode cX9_cutBest 65 = .ok (.iload 4, 2) := by decide +kernel
theorem dX9_cutBest_67 : decode cX9_cutBest 67 = .ok (.invokevirtual 172, 3) := by decide +kernel
theorem dX9_cutBest_70 : decode cX9_cutBest 70 = .ok (.ifCond .ne 70, 3) := by decide +kernel
theorem dX9_cutBest_73 : decode cX9_cutBest 73 = .ok (.iload_n 2, 1) := by decide +kernel
theorem dX9_cutBest_74 : decode cX9_cutBest 74 = .ok (.iconst 1, 1) := by decide +kernel
theorem dX9_cutBest_75 : decode cX9_cutBest 75 = .ok (.aload_n 0, 1) := by decide +kernel
theorem dX9_cutBest_76 : decode cX9_cutBest 76 = .ok (.getfield 35, 3) := by decide +kernel
theorem dX9_cutBest_79 : decode cX9_cutBest 79 = .ok (.getfield 125, 3) := by decide +kernel
theorem dX9_cutBest_82 : decode cX9_cutBest 82 = .ok (.bipush 28, 2) := by decide +kernel
theorem dX9_cutBest_84 : decode cX9_cutBest 84 = .ok (.iload 4, 2) := by decide +kernel
theorem dX9_cutBest_86 : decode cX9_cutBest 86 = .ok (.iadd, 1) := by decide +kernel
theorem dX9_cutBest_87 : decode cX9_cutBest 87 = .ok (.iaload, 1) := by decide +kernel
theorem dX9_cutBest_88 : decode cX9_cutBest 88 = .ok (.ishl, 1) := by decide +kernel
theorem dX9_cutBest_89 : decode cX9_cutBest 89 = .ok (.if_icmp .ne 51, 3) := by decide +kernel
theorem dX9_cutBest_92 : decode cX9_cutBest 92 = .ok (.aload_n 0, 1) := by decide +kernel
theorem dX9_cutBest_93 : decode cX9_cutBest 93 = .ok (.getfield 39, 3) := by decide +kernel
theorem dX9_cutBest_96 : decode cX9_cutBest 96 = .ok (.aload_n 0, 1) := by decide +kernel
theorem dX9_cutBest_97 : decode cX9_cutBest 97 = .ok (.getfield 35, 3) := by decide +kernel
theorem dX9_cutBest_100 : decode cX9_cutBest 100 = .ok (.invokevirtual 98, 3) := by decide +kernel
theorem dX9_cutBest_103 : decode cX9_cutBest 103 = .ok (.aload_n 0, 1) := by decide +kernel
theorem dX9_cutBest_104 : decode cX9_cutBest 104 = .ok (.getfield 39, 3) := by decide +kernel
theorem dX9_cutBest_107 : decode cX9_cutBest 107 = .ok (.dup, 1) := by decide +kernel
theorem dX9_cutBest_108 : decode cX9_cutBest 108 = .ok (.getfield 194, 3) := by decide +kernel
theorem dX9_cutBest_111 : decode cX9_cutBest 111 = .ok (.iconst 1, 1) := by decide +kernel
theorem dX9_cutBest_112 : decode cX9_cutBest 112 = .ok (.iload 4, 2) := by decide +kernel
theorem dX9_cutBest_114 : decode cX9_cutBest 114 = .ok (.ishl, 1) := by decide +kernel
theorem dX9_cutBest_115 : decode cX9_cutBest 115 = .ok (.ior, 1) := by decide +kernel
theorem dX9_cutBest_116 : decode cX9_cutBest 116 = .ok (.putfield 194, 3) := by decide +kernel
theorem dX9_cutBest_119 : decode cX9_cutBest 119 = .ok (.aload_n 0, 1) := by decide +kernel
theorem dX9_cutBest_120 : decode cX9_cutBest 120 = .ok (.getfield 51, 3) := by decide +kernel
theorem dX9_cutBest_123 : decode cX9_cutBest 123 = .ok (.invokevirtual 238, 3) := by decide +kernel
theorem dX9_cutBest_126 : decode cX9_cutBest 126 = .ok (.istore 5, 2) := by decide +kernel
theorem dX9_cutBest_128 : decode cX9_cutBest 128 = .ok (.iload 5, 2) := by decide +kernel
theorem dX9_cutBest_130 : decode cX9_cutBest 130 = .ok (.iload_n 1, 1) := by decide +kernel
theorem dX9_cutBest_131 : decode cX9_cutBest 131 = .ok (.if_icmp .le 9, 3) := by decide +kernel
theorem dX9_cutBest_134 : decode cX9_cutBest 134 = .ok (.iload 5, 2) := by decide +kernel
theorem dX9_cutBest_136 : decode cX9_cutBest 136 = .ok (.istore_n 1, 1) := by decide +kernel
theorem dX9_cutBest_137 : decode cX9_cutBest 137 = .ok (.iload 4, 2) := by decide +kernel
theorem dX9_cutBest_139 : decode cX9_cutBest 139 = .ok (.istore_n 3, 1) := by decide +kernel
theorem dX9_cutBest_140 : decode cX9_cutBest 140 = .ok (.iinc 4 1, 3) := by decide +kernel
theorem dX9_cutBest_143 : decode cX9_cutBest 143 = .ok (.goto (-100), 3) := by decide +kernel
theorem dX9_cutBest_146 : decode cX9_cutBest 146 = .ok (.iload_n 3, 1) := by decide +kernel
theorem dX9_cutBest_147 : decode cX9_cutBest 147 = .ok (.ireturn, 1) := by decide +kernel
theorem dX9_give_0 : decode cX9_give 0 = .ok (.aload_n 0, 1) := by decide +kernel
theorem dX9_give_1 : decode cX9_give 1 = .ok (.iload_n 1, 1) := by decide +kernel
theorem dX9_give_2 : decode cX9_give 2 = .ok (.invokevirtual 163, 3) := by decide +kernel
theorem dX9_give_5 : decode cX9_give 5 = .ok (.ifCond .ne 5, 3) := by decide +kernel
theorem dX9_give_8 : decode cX9_give 8 = .ok (.iconst (-1), 1) := by decide +kernel
theorem dX9_give_9 : decode cX9_give 9 = .ok (.ireturn, 1) := by decide +kernel
theorem dX9_give_10 : decode cX9_give 10 = .ok (.aload_n 0, 1) := by decide +kernel
theorem dX9_give_11 : decode cX9_give 11 = .ok (.getfield 39, 3) := by decide +kernel
theorem dX9_give_14 : decode cX9_give 14 = .ok (.aload_n 0, 1) := by decide +kernel
theorem dX9_give_15 : decode cX9_give 15 = .ok (.getfield 35, 3) := by decide +kernel
theorem dX9_give_18 : decode cX9_give 18 = .ok (.invokevirtual 98, 3) := by decide +kernel
theorem dX9_give_21 : decode cX9_give 21 = .ok (.aload_n 0, 1) := by decide +kernel
theorem dX9_give_22 : decode cX9_give 22 = .ok (.getfield 51, 3) := by decide +kernel
theorem dX9_give_25 : decode cX9_give 25 = .ok (.invokevirtual 238, 3) := by decide +kernel
theorem dX9_give_28 : decode cX9_give 28 = .ok (.istore_n 2, 1) := by decide +kernel
theorem dX9_give_29 : decode cX9_give 29 = .ok (.aload_n 0, 1) := by decide +kernel
theorem dX9_give_30 : decode cX9_give 30 = .ok (.getfield 39, 3) := by decide +kernel
theorem dX9_give_33 : decode cX9_give 33 = .ok (.getfield 188, 3) := by decide +kernel
theorem dX9_give_36 : decode cX9_give 36 = .ok (.aload_n 0, 1) := by decide +kernel
theorem dX9_give_37 : decode cX9_give 37 = .ok (.getfield 35, 3) := by decide +kernel
theorem dX9_give_40 : decode cX9_give 40 = .ok (.getfield 188, 3) := by decide +kernel
theorem dX9_give_43 : decode cX9_give 43 = .ok (.iconst (-1), 1) := by decide +kernel
theorem dX9_give_44 : decode cX9_give 44 = .ok (.ixor, 1) := by decide +kernel
theorem dX9_give_45 : decode cX9_give 45 = .ok (.iand, 1) := by decide +kernel
theorem dX9_give_46 : decode cX9_give 46 = .ok (.iconst 1, 1) := by decide +kernel
theorem dX9_give_47 : decode cX9_give 47 = .ok (.aload_n 0, 1) := by decide +kernel
theorem dX9_give_48 : decode cX9_give 48 = .ok (.getfield 35, 3) := by decide +kernel
theorem dX9_give_51 : decode cX9_give 51 = .ok (.getfield 125, 3) := by decide +kernel
theorem dX9_give_54 : decode cX9_give 54 = .ok (.bipush 28, 2) := by decide +kernel
theorem dX9_give_56 : decode cX9_give 56 = .ok (.iload_n 1, 1) := by decide +kernel
theorem dX9_give_57 : decode cX9_give 57 = .ok (.iadd, 1) := by decide +kernel
theorem dX9_give_58 : decode cX9_give 58 = .ok (.iaload, 1) := by decide +kernel
theorem dX9_give_59 : decode cX9_give 59 = .ok (.ishl, 1) := by decide +kernel
theorem dX9_give_60 : decode cX9_give 60 = .ok (.iconst (-1), 1) := by decide +kernel
theorem dX9_give_61 : decode cX9_give 61 = .ok (.ixor, 1) := by decide +kernel
theorem dX9_give_62 : decode cX9_give 62 = .ok (.iand, 1) := by decide +kernel
theorem dX9_give_63 : decode cX9_give 63 = .ok (.istore_n 3, 1) := by decide +kernel
theorem dX9_give_64 : decode cX9_give 64 = .ok (.bipush (-2), 2) := by decide +kernel
theorem dX9_give_66 : decode cX9_give 66 = .ok (.istore 4, 2) := by decide +kernel
theorem dX9_give_68 : decode cX9_give 68 = .ok (.iconst 0, 1) := by decide +kernel
theorem dX9_give_69 : decode cX9_give 69 = .ok (.istore 5, 2) := by decide +kernel
theorem dX9_give_71 : decode cX9_give 71 = .ok (.iload 5, 2) := by decide +kernel
theorem dX9_give_73 : decode cX9_give 73 = .ok (.aload_n 0, 1) := by decide +kernel
theorem dX9_give_74 : decode cX9_give 74 = .ok (.getfield 16, 3) := by decide +kernel
theorem dX9_give_77 : decode cX9_give 77 = .ok (.getfield 115, 3) := by decide +kernel
theorem dX9_give_80 : decode cX9_give 80 = .ok (.if_icmp .ge 86, 3) := by decide +kernel
theorem dX9_give_83 : decode cX9_give 83 = .ok (.iload_n 2, 1) := by decide +kernel
theorem dX9_give_84 : decode cX9_give 84 = .ok (.bipush 101, 2) := by decide +kernel
theorem dX9_give_86 : decode cX9_give 86 = .ok (.if_icmp .ge 80, 3) := by decide +kernel
theorem dX9_give_89 : decode cX9_give 89 = .ok (.aload_n 0, 1) := by decide +kernel
theorem dX9_give_90 : decode cX9_give 90 = .ok (.getfield 35, 3) := by decide +kernel
theorem dX9_give_93 : decode cX9_give 93 = .ok (.iload_n 1, 1) := by decide +kernel
theorem dX9_give_94 : decode cX9_give 94 = .ok (.iload 5, 2) := by decide +kernel
theorem dX9_give_96 : decode cX9_give 96 = .ok (.invokevirtual 217, 3) := by decide +kernel
theorem dX9_give_99 : decode cX9_give 99 = .ok (.ifCond .eq 61, 3) := by decide +kernel
theorem dX9_give_102 : decode cX9_give 102 = .ok (.iload_n 3, 1) := by decide +kernel
theorem dX9_give_103 : decode cX9_give 103 = .ok (.iconst 1, 1) := by decide +kernel
theorem dX9_give_104 : decode cX9_give 104 = .ok (.iload 5, 2) := by decide +kernel
theorem dX9_give_106 : decode cX9_give 106 = .ok (.ishl, 1) := by decide +kernel
theorem dX9_give_107 : decode cX9_give 107 = .ok (.iconst (-1), 1) := by decide +kernel
theorem dX9_give_108 : decode cX9_give 108 = .ok (.ixor, 1) := by decide +kernel
theorem dX9_give_109 : decode cX9_give 109 = .ok (.iand, 1) := by decide +kernel
theorem dX9_give_110 : decode cX9_give 110 = .ok (.ifCond .ne 50, 3) := by decide +kernel
