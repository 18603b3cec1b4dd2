theorem dX10_keepsRow_0 : decode cX10_keepsRow 0 = .ok (.iconst 0, 1) := by decide +kernel
theorem dX10_keepsRow_1 : decode cX10_keepsRow 1 = .ok (.istore_n 1, 1) := by decide +kernel
theorem dX10_keepsRow_2 : decode cX10_keepsRow 2 = .ok (.iload_n 1, 1) := by decide +kernel
theorem dX10_keepsRow_3 : decode cX10_keepsRow 3 = .ok (.bipush 55, 2) := by decide +kernel
theorem dX10_keepsRow_5 : decode cX10_keepsRow 5 = .ok (.if_icmp .ge 21, 3) := by decide +kernel
theorem dX10_keepsRow_8 : decode cX10_keepsRow 8 = .ok (.aload_n 0, 1) := by decide +kernel
theorem dX10_keepsRow_9 : decode cX10_keepsRow 9 = .ok (.getfield 119, 3) := by decide +kernel
theorem dX10_keepsRow_12 : decode cX10_keepsRow 12 = .ok (.iload_n 1, 1) := by decide +kernel
theorem dX10_keepsRow_13 : decode cX10_keepsRow 13 = .ok (.aload_n 0, 1) := by decide +kernel
theorem dX10_keepsRow_14 : decode cX10_keepsRow 14 = .ok (.getfield 122, 3) := by decide +kernel
theorem dX10_keepsRow_17 : decode cX10_keepsRow 17 = .ok (.iload_n 1, 1) := by decide +kernel
theorem dX10_keepsRow_18 : decode cX10_keepsRow 18 = .ok (.iaload, 1) := by decide +kernel
theorem dX10_keepsRow_19 : decode cX10_keepsRow 19 = .ok (.iastore, 1) := by decide +kernel
theorem dX10_keepsRow_20 : decode cX10_keepsRow 20 = .ok (.iinc 1 1, 3) := by decide +kernel
theorem dX10_keepsRow_23 : decode cX10_keepsRow 23 = .ok (.goto (-21), 3) := by decide +kernel
theorem dX10_keepsRow_26 : decode cX10_keepsRow 26 = .ok (.return_, 1) := by decide +kernel
theorem dX10_copies_0 : decode cX10_copies 0 = .ok (.iconst 0, 1) := by decide +kernel
theorem dX10_copies_1 : decode cX10_copies 1 = .ok (.istore_n 1, 1) := by decide +kernel
theorem dX10_copies_2 : decode cX10_copies 2 = .ok (.iload_n 1, 1) := by decide +kernel
theorem dX10_copies_3 : decode cX10_copies 3 = .ok (.bipush 55, 2) := by decide +kernel
theorem dX10_copies_5 : decode cX10_copies 5 = .ok (.if_icmp .ge 21, 3) := by decide +kernel
theorem dX10_copies_8 : decode cX10_copies 8 = .ok (.aload_n 0, 1) := by decide +kernel
theorem dX10_copies_9 : decode cX10_copies 9 = .ok (.getfield 122, 3) := by decide +kernel
theorem dX10_copies_12 : decode cX10_copies 12 = .ok (.iload_n 1, 1) := by decide +kernel
theorem dX10_copies_13 : decode cX10_copies 13 = .ok (.aload_n 0, 1) := by decide +kernel
theorem dX10_copies_14 : decode cX10_copies 14 = .ok (.getfield 119, 3) := by decide +kernel
theorem dX10_copies_17 : decode cX10_copies 17 = .ok (.iload_n 1, 1) := by decide +kernel
theorem dX10_copies_18 : decode cX10_copies 18 = .ok (.iaload, 1) := by decide +kernel
theorem dX10_copies_19 : decode cX10_copies 19 = .ok (.iastore, 1) := by decide +kernel
theorem dX10_copies_20 : decode cX10_copies 20 = .ok (.iinc 1 1, 3) := by decide +kernel
theorem dX10_copies_23 : decode cX10_copies 23 = .ok (.goto (-21), 3) := by decide +kernel
theorem dX10_copies_26 : decode cX10_copies 26 = .ok (.aload_n 0, 1) := by decide +kernel
theorem dX10_copies_27 : decode cX10_copies 27 = .ok (.aload_n 0, 1) := by decide +kernel
theorem dX10_copies_28 : decode cX10_copies 28 = .ok (.getfield 79, 3) := by decide +kernel
theorem dX10_copies_31 : decode cX10_copies 31 = .ok (.aload_n 0, 1) := by decide +kernel
theorem dX10_copies_32 : decode cX10_copies 32 = .ok (.getfield 239, 3) := by decide +kernel
theorem dX10_copies_35 : decode cX10_copies 35 = .ok (.iaload, 1) := by decide +kernel
theorem dX10_copies_36 : decode cX10_copies 36 = .ok (.putfield 329, 3) := by decide +kernel
theorem dX10_copies_39 : decode cX10_copies 39 = .ok (.aload_n 0, 1) := by decide +kernel
theorem dX10_copies_40 : decode cX10_copies 40 = .ok (.iconst 0, 1) := by decide +kernel
theorem dX10_copies_41 : decode cX10_copies 41 = .ok (.putfield 332, 3) := by decide +kernel
theorem dX10_copies_44 : decode cX10_copies 44 = .ok (.return_, 1) := by decide +kernel
theorem dX10_copiesStill_0 : decode cX10_copiesStill 0 = .ok (.aload_n 0, 1) := by decide +kernel
theorem dX10_copiesStill_1 : decode cX10_copiesStill 1 = .ok (.invokevirtual 335, 3) := by decide +kernel
theorem dX10_copiesStill_4 : decode cX10_copiesStill 4 = .ok (.aload_n 0, 1) := by decide +kernel
theorem dX10_copiesStill_5 : decode cX10_copiesStill 5 = .ok (.iconst 1, 1) := by decide +kernel
theorem dX10_copiesStill_6 : decode cX10_copiesStill 6 = .ok (.putfield 332, 3) := by decide +kernel
theorem dX10_copiesStill_9 : decode cX10_copiesStill 9 = .ok (.return_, 1) := by decide +kernel
theorem dX10_mixed_0 : decode cX10_mixed 0 = .ok (.iload_n 0, 1) := by decide +kernel
theorem dX10_mixed_1 : decode cX10_mixed 1 = .ok (.iload_n 1, 1) := by decide +kernel
theorem dX10_mixed_2 : decode cX10_mixed 2 = .ok (.ixor, 1) := by decide +kernel
theorem dX10_mixed_3 : decode cX10_mixed 3 = .ok (.ldc_w 338, 3) := by decide +kernel
theorem dX10_mixed_6 : decode cX10_mixed 6 = .ok (.imul, 1) := by decide +kernel
theorem dX10_mixed_7 : decode cX10_mixed 7 = .ok (.sipush 12345, 3) := by decide +kernel
theorem dX10_mixed_10 : decode cX10_mixed 10 = .ok (.iadd, 1) := by decide +kernel
theorem dX10_mixed_11 : decode cX10_mixed 11 = .ok (.istore_n 2, 1) := by decide +kernel
theorem dX10_mixed_12 : decode cX10_mixed 12 = .ok (.iload_n 2, 1) := by decide +kernel
theorem dX10_mixed_13 : decode cX10_mixed 13 = .ok (.iload_n 2, 1) := by decide +kernel
theorem dX10_mixed_14 : decode cX10_mixed 14 = .ok (.bipush 15, 2) := by decide +kernel
theorem dX10_mixed_16 : decode cX10_mixed 16 = .ok (.iushr, 1) := by decide +kernel
theorem dX10_mixed_17 : decode cX10_mixed 17 = .ok (.ixor, 1) := by decide +kernel
theorem dX10_mixed_18 : decode cX10_mixed 18 = .ok (.ireturn, 1) := by decide +kernel
theorem dX10_lotOf_0 : decode cX10_lotOf 0 = .ok (.aload_n 0, 1) := by decide +kernel
theorem dX10_lotOf_1 : decode cX10_lotOf 1 = .ok (.getfield 329, 3) := by decide +kernel
theorem dX10_lotOf_4 : decode cX10_lotOf 4 = .ok (.sipush 135, 3) := by decide +kernel
theorem dX10_lotOf_7 : decode cX10_lotOf 7 = .ok (.invokestatic 339, 3) := by decide +kernel
theorem dX10_lotOf_10 : decode cX10_lotOf 10 = .ok (.iload_n 1, 1) := by decide +kernel
theorem dX10_lotOf_11 : decode cX10_lotOf 11 = .ok (.invokestatic 339, 3) := by decide +kernel
theorem dX10_lotOf_14 : decode cX10_lotOf 14 = .ok (.iconst 1, 1) := by decide +kernel
theorem dX10_lotOf_15 : decode cX10_lotOf 15 = .ok (.iushr, 1) := by decide +kernel
theorem dX10_lotOf_16 : decode cX10_lotOf 16 = .ok (.bipush 100, 2) := by decide +kernel
theorem dX10_lotOf_18 : decode cX10_lotOf 18 = .ok (.irem, 1) := by decide +kernel
theorem dX10_lotOf_19 : decode cX10_lotOf 19 = .ok (.ireturn, 1) := by decide +kernel
theorem dX10_isOff_0 : decode cX10_isOff 0 = .ok (.aload_n 0, 1) := by decide +kernel
theorem dX10_isOff_1 : decode cX10_isOff 1 = .ok (.getfield 122, 3) := by decide +kernel
theorem dX10_isOff_4 : decode cX10_isOff 4 = .ok (.bipush 32, 2) := by decide +kernel
theorem dX10_isOff_6 : decode cX10_isOff 6 = .ok (.iload_n 1, 1) := by decide +kernel
theorem dX10_isOff_7 : decode cX10_isOff 7 = .ok (.iadd, 1) := by decide +kernel
theorem dX10_isOff_8 : decode cX10_isOff 8 = .ok (.iaload, 1) := by decide +kernel
theorem dX10_isOff_9 : decode cX10_isOff 9 = .ok (.iconst 1, 1) := by decide +kernel
theorem dX10_isOff_10 : decode cX10_isOff 10 = .ok (.if_icmp .ne 7, 3) := by decide +kernel
theorem dX10_isOff_13 : decode cX10_isOff 13 = .ok (.iconst 1, 1) := by decide +kernel
theorem dX10_isOff_14 : decode cX10_isOff 14 = .ok (.goto 4, 3) := by decide +kernel
theorem dX10_isOff_17 : decode cX10_isOff 17 = .ok (.iconst 0, 1) := by decide +kernel
theorem dX10_isOff_18 : decode cX10_isOff 18 = .ok (.ireturn, 1) := by decide +kernel
theorem dX10_isCut_0 : decode cX10_isCut 0 = .ok (.aload_n 0, 1) := by decide +kernel
theorem dX10_isCut_1 : decode cX10_isCut 1 = .ok (.getfield 122, 3) := by decide +kernel
theorem dX10_isCut_4 : decode cX10_isCut 4 = .ok (.bipush 46, 2) := by decide +kernel
theorem dX10_isCut_6 : decode cX10_isCut 6 = .ok (.iload_n 1, 1) := by decide +kernel
theorem dX10_isCut_7 : decode cX10_isCut 7 = .ok (.iadd, 1) := by decide +kernel
theorem dX10_isCut_8 : decode cX10_isCut 8 = .ok (.iaload, 1) := by decide +kernel
theorem dX10_isCut_9 : decode cX10_isCut 9 = .ok (.iconst 1, 1) := by decide +kernel
theorem dX10_isCut_10 : decode cX10_isCut 10 = .ok (.if_icmp .ne 7, 3) := by decide +kernel
theorem dX10_isCut_13 : decode cX10_isCut 13 = .ok (.iconst 1, 1) := by decide +kernel
theorem dX10_isCut_14 : decode cX10_isCut 14 = .ok (.goto 4, 3) := by decide +kernel
theorem dX10_isCut_17 : decode cX10_isCut 17 = .ok (.iconst 0, 1) := by decide +kernel
theorem dX10_isCut_18 : decode cX10_isCut 18 = .ok (.ireturn, 1) := by decide +kernel
theorem dX10_whose_0 : decode cX10_whose 0 = .ok (.aload_n 0, 1) := by decide +kernel
theorem dX10_whose_1 : decode cX10_whose 1 = .ok (.getfield 67, 3) := by decide +kernel
theorem dX10_whose_4 : decode cX10_whose 4 = .ok (.bipush 8, 2) := by decide +kernel
theorem dX10_whose_6 : decode cX10_whose 6 = .ok (.aload_n 0, 1) := by decide +kernel
theorem dX10_whose_7 : decode cX10_whose 7 = .ok (.getfield 239, 3) := by decide +kernel
theorem dX10_whose_10 : decode cX10_whose 10 = .ok (.imul, 1) := by decide +kernel
theorem dX10_whose_11 : decode cX10_whose 11 = .ok (.iload_n 1, 1) := by decide +kernel
theorem dX10_whose_12 : decode cX10_whose 12 = .ok (.iadd, 1) := by decide +kernel
theorem dX10_whose_13 : decode cX10_whose 13 = .ok (.iaload, 1) := by decide +kernel
theorem dX10_whose_14 : decode cX10_whose 14 = .ok (.ireturn, 1) := by decide +kernel
theorem dX10_wearsOf_0 : decode cX10_wearsOf 0 = .ok (.iconst 0, 1) := by decide +kernel
theorem dX10_wearsOf_1 : decode cX10_wearsOf 1 = .ok (.istore_n 2, 1) := by decide +kernel
theorem dX10_wearsOf_2 : decode cX10_wearsOf 2 = .ok (.iconst 0, 1) := by decide +kernel
theorem dX10_wearsOf_3 : decode cX10_wearsOf 3 = .ok (.istore_n 3, 1) := by decide +kernel
theorem dX10_wearsOf_4 : decode cX10_wearsOf 4 = .ok (.iload_n 3, 1) := by decide +kernel
theorem dX10_wearsOf_5 : decode cX10_wearsOf 5 = .ok (.aload_n 0, 1) := by decide +kernel
theorem dX10_wearsOf_6 : decode cX10_wearsOf 6 = .ok (.getfield 64, 3) := by decide +kernel
theorem dX10_wearsOf_9 : decode cX10_wearsOf 9 = .ok (.aload_n 0, 1) := by decide +kernel
theorem dX10_wearsOf_10 : decode cX10_wearsOf 10 = .ok (.getfield 239, 3) := by decide +kernel
theorem dX10_wearsOf_13 : decode cX10_wearsOf 13 = .ok (.iaload, 1) := by decide +kernel
theorem dX10_wearsOf_14 : decode cX10_wearsOf 14 = .ok (.if_icmp .ge 33, 3) := by decide +kernel
theorem dX10_wearsOf_17 : decode cX10_wearsOf 17 = .ok (.aload_n 0, 1) := by decide +kernel
theorem dX10_wearsOf_18 : decode cX10_wearsOf 18 = .ok (.getfield 122, 3) := by decide +kernel
theorem dX10_wearsOf_21 : decode cX10_wearsOf 21 = .ok (.bipush 38, 2) := by decide +kernel
theorem dX10_wearsOf_23 : decode cX10_wearsOf 23 = .ok (.iload_n 3, 1) := by decide +kernel
theorem dX10_wearsOf_24 : decode cX10_wearsOf 24 = .ok (.iadd, 1) := by decide +kernel
theorem dX10_wearsOf_25 : decode cX10_wearsOf 25 = .ok (.iaload, 1) := by decide +kernel
theorem dX10_wearsOf_26 : decode cX10_wearsOf 26 = .ok (.iload_n 1, 1) := by decide +kernel
theorem dX10_wearsOf_27 : decode cX10_wearsOf 27 = .ok (.if_icmp .ne 14, 3) := by decide +kernel
theorem dX10_wearsOf_30 : decode cX10_wearsOf 30 = .ok (.aload_n 0, 1) := by decide +kernel
theorem dX10_wearsOf_31 : decode cX10_wearsOf 31 = .ok (.iload_n 3, 1) := by decide +kernel
theorem dX10_wearsOf_32 : decode cX10_wearsOf 32 = .ok (.invokevirtual 342, 3) := by decide +kernel
theorem dX10_wearsOf_35 : decode cX10_wearsOf 35 = .ok (.ifCond .ne 6, 3) := by decide +kernel
theorem dX10_wearsOf_38 : decode cX10_wearsOf 38 = .ok (.iinc 2 1, 3) := by decide +kernel
theorem dX10_wearsOf_41 : decode cX10_wearsOf 41 = .ok (.iinc 3 1, 3) := by decide +kernel
theorem dX10_wearsOf_44 : decode cX10_wearsOf 44 = .ok (.goto (-40), 3) := by decide +kernel
theorem dX10_wearsOf_47 : decode cX10_wearsOf 47 = .ok (.iload_n 2, 1) := by decide +kernel
theorem dX10_wearsOf_48 : decode cX10_wearsOf 48 = .ok (.ireturn, 1) := by decide +kernel
theorem dX10_looks_0 : decode cX10_looks 0 = .ok (.iconst 0, 1) := by decide +kernel
theorem dX10_looks_1 : decode cX10_looks 1 = .ok (.istore_n 1, 1) := by decide +kernel
theorem dX10_looks_2 : decode cX10_looks 2 = .ok (.iload_n 1, 1) := by decide +kernel
theorem dX10_looks_3 : decode cX10_looks 3 = .ok (.bipush 9, 2) := by decide +kernel
theorem dX10_looks_5 : decode cX10_looks 5 = .ok (.if_icmp .ge 16, 3) := by decide +kernel
theorem dX10_looks_8 : decode cX10_looks 8 = .ok (.aload_n 0, 1) := by decide +kernel
theorem dX10_looks_9 : decode cX10_looks 9 = .ok (.getfield 113, 3) := by decide +kernel
theorem dX10_looks_12 : decode cX10_looks 12 = .ok (.iload_n 1, 1) := by decide +kernel
theorem dX10_looks_13 : decode cX10_looks 13 = .ok (.iconst 0, 1) := by decide +kernel
theorem dX10_looks_14 : decode cX10_looks 14 = .ok (.iastore, 1) := by decide +kernel
theorem dX10_looks_15 : decode cX10_looks 15 = .ok (.iinc 1 1, 3) := by decide +kernel
theorem dX10_looks_18 : decode cX10_looks 18 = .ok (.goto (-16), 3) := by decide +kernel
theorem dX10_looks_21 : decode cX10_looks 21 = .ok (.aload_n 0, 1) := by decide +kernel
theorem dX10_looks_22 : decode cX10_looks 22 = .ok (.getfield 113, 3) := by decide +kernel
theorem dX10_looks_25 : decode cX10_looks 25 = .ok (.iconst 2, 1) := by decide +kernel
theorem dX10_looks_26 : decode cX10_looks 26 = .ok (.aload_n 0, 1) := by decide +kernel
theorem dX10_looks_27 : decode cX10_looks 27 = .ok (.getfield 122, 3) := by decide +kernel
theorem dX10_looks_30 : decode cX10_looks 30 = .ok (.bipush 54, 2) := by decide +kernel
theorem dX10_looks_32 : decode cX10_looks 32 = .ok (.iaload, 1) := by decide +kernel
theorem dX10_looks_33 : decode cX10_looks 33 = .ok (.iconst 4, 1) := by decide +kernel
theorem dX10_looks_34 : decode cX10_looks 34 = .ok (.irem, 1) := by decide +kernel
theorem dX10_looks_35 : decode cX10_looks 35 = .ok (.iastore, 1) := by decide +kernel
theorem dX10_looks_36 : decode cX10_looks 36 = .ok (.aload_n 0, 1) := by decide +kernel
theorem dX10_looks_37 : decode cX10_looks 37 = .ok (.getfield 113, 3) := by decide +kernel
theorem dX10_looks_40 : decode cX10_looks 40 = .ok (.iconst 3, 1) := by decide +kernel
theorem dX10_looks_41 : decode cX10_looks 41 = .ok (.aload_n 0, 1) := by decide +kernel
theorem dX10_looks_42 : decode cX10_looks 42 = .ok (.getfield 122, 3) := by decide +kernel
theorem dX10_looks_45 : decode cX10_looks 45 = .ok (.bipush 54, 2) := by decide +kernel
theorem dX10_looks_47 : decode cX10_looks 47 = .ok (.iaload, 1) := by decide +kernel
theorem dX10_looks_48 : decode cX10_looks 48 = .ok (.iastore, 1) := by decide +kernel
theorem dX10_looks_49 : decode cX10_looks 49 = .ok (.return_, 1) := by decide +kernel
theorem dX10_lawTells_0 : decode cX10_lawTells 0 = .ok (.iconst 4, 1) := by decide +kernel
theorem dX10_lawTells_1 : decode cX10_lawTells 1 = .ok (.aload_n 0, 1) := by decide +kernel
theorem dX10_lawTells_2 : decode cX10_lawTells 2 = .ok (.getfield 239, 3) := by decide +kernel
theorem dX10_lawTells_5 : decode cX10_lawTells 5 = .ok (.imul, 1) := by decide +kernel
theorem dX10_lawTells_6 : decode cX10_lawTells 6 = .ok (.iload_n 1, 1) := by decide +kernel
theorem dX10_lawTells_7 : decode cX10_lawTells 7 = .ok (.iadd, 1) := by decide +kernel
theorem dX10_lawTells_8 : decode cX10_lawTells 8 = .ok (.istore_n 3, 1) := by decide +kernel
theorem dX10_lawTells_9 : decode cX10_lawTells 9 = .ok (.aload_n 0, 1) := by decide +kernel
theorem dX10_lawTells_10 : decode cX10_lawTells 10 = .ok (.getfield 82, 3) := by decide +kernel
theorem dX10_lawTells_13 : decode cX10_lawTells 13 = .ok (.iload_n 3, 1) := by decide +kernel
theorem dX10_lawTells_14 : decode cX10_lawTells 14 = .ok (.iaload, 1) := by decide +kernel
theorem dX10_lawTells_15 : decode cX10_lawTells 15 = .ok (.aload_n 0, 1) := by decide +kernel
theorem dX10_lawTells_16 : decode cX10_lawTells 16 = .ok (.getfield 85, 3) := by decide +kernel
theorem dX10_lawTells_19 : decode cX10_lawTells 19 = .ok (.iload_n 3, 1) := by decide +kernel
theorem dX10_lawTells_20 : decode cX10_lawTells 20 = .ok (.iaload, 1) := by decide +kernel
theorem dX10_lawTells_21 : decode cX10_lawTells 21 = .ok (.if_icmp .ne 5, 3) := by decide +kernel
theorem dX10_lawTells_24 : decode cX10_lawTells 24 = .ok (.iload_n 2, 1) := by decide +kernel
theorem dX10_lawTells_25 : decode cX10_lawTells 25 = .ok (.ireturn, 1) := by decide +kernel
theorem dX10_lawTells_26 : decode cX10_lawTells 26 = .ok (.aload_n 0, 1) := by decide +kernel
theorem dX10_lawTells_27 : decode cX10_lawTells 27 = .ok (.iconst 0, 1) := by decide +kernel
theorem dX10_lawTells_28 : decode cX10_lawTells 28 = .ok (.putfield 321, 3) := by decide +kernel
theorem dX10_lawTells_31 : decode cX10_lawTells 31 = .ok (.aload_n 0, 1) := by decide +kernel
theorem dX10_lawTells_32 : decode cX10_lawTells 32 = .ok (.getfield 82, 3) := by decide +kernel
theorem dX10_lawTells_35 : decode cX10_lawTells 35 = .ok (.iload_n 3, 1) := by decide +kernel
theorem dX10_lawTells_36 : decode cX10_lawTells 36 = .ok (.iaload, 1) := by decide +kernel
theorem dX10_lawTells_37 : decode cX10_lawTells 37 = .ok (.istore 4, 2) := by decide +kernel
theorem dX10_lawTells_39 : decode cX10_lawTells 39 = .ok (.iload 4, 2) := by decide +kernel
theorem dX10_lawTells_41 : decode cX10_lawTells 41 = .ok (.aload_n 0, 1) := by decide +kernel
theorem dX10_lawTells_42 : decode cX10_lawTells 42 = .ok (.getfield 85, 3) := by decide +kernel
theorem dX10_lawTells_45 : decode cX10_lawTells 45 = .ok (.iload_n 3, 1) := by decide +kernel
theorem dX10_lawTells_46 : decode cX10_lawTells 46 = .ok (.iaload, 1) := by decide +kernel
theorem dX10_lawTells_47 : decode cX10_lawTells 47 = .ok (.if_icmp .ge 112, 3) := by decide +kernel
theorem dX10_lawTells_50 : decode cX10_lawTells 50 = .ok (.aload_n 0, 1) := by decide +kernel
theorem dX10_lawTells_51 : decode cX10_lawTells 51 = .ok (.getfield 88, 3) := by decide +kernel
theorem dX10_lawTells_54 : decode cX10_lawTells 54 = .ok (.iload 4, 2) := by decide +kernel
theorem dX10_lawTells_56 : decode cX10_lawTells 56 = .ok (.baload, 1) := by decide +kernel
theorem dX10_lawTells_57 : decode cX10_lawTells 57 = .ok (.ifCond .eq 62, 3) := by decide +kernel
theorem dX10_lawTells_60 : decode cX10_lawTells 60 = .ok (.aload_n 0, 1) := by decide +kernel
theorem dX10_lawTells_61 : decode cX10_lawTells 61 = .ok (.aload_n 0, 1) := by decide +kernel
theorem dX10_lawTells_62 : decode cX10_lawTells 62 = .ok (.getfield 92, 3) := by decide +kernel
theorem dX10_lawTells_65 : decode cX10_lawTells 65 = .ok (.iload 4, 2) := by decide +kernel
theorem dX10_lawTells_67 : decode cX10_lawTells 67 = .ok (.iaload, 1) := by decide +kernel
theorem dX10_lawTells_68 : decode cX10_lawTells 68 = .ok (.aload_n 0, 1) := by decide +kernel
theorem dX10_lawTells_69 : decode cX10_lawTells 69 = .ok (.getfield 95, 3) := by decide +kernel
theorem dX10_lawTells_72 : decode cX10_lawTells 72 = .ok (.iload 4, 2) := by decide +kernel
theorem dX10_lawTells_74 : decode cX10_lawTells 74 = .ok (.iaload, 1) := by decide +kernel
theorem dX10_lawTells_75 : decode cX10_lawTells 75 = .ok (.invokevirtual 345, 3) := by decide +kernel
theorem dX10_lawTells_78 : decode cX10_lawTells 78 = .ok (.istore 5, 2) := by decide +kernel
theorem dX10_lawTells_80 : decode cX10_lawTells 80 = .ok (.aload_n 0, 1) := by decide +kernel
theorem dX10_lawTells_81 : decode cX10_lawTells 81 = .ok (.aload_n 0, 1) := by decide +kernel
theorem dX10_lawTells_82 : decode cX10_lawTells 82 = .ok (.getfield 95, 3) := by decide +kernel
theorem dX10_lawTells_85 : decode cX10_lawTells 85 = .ok (.iload 4, 2) := by decide +kernel
theorem dX10_lawTells_87 : decode cX10_lawTells 87 = .ok (.iaload, 1) := by decide +kernel
theorem dX10_lawTells_88 : decode cX10_lawTells 88 = .ok (.aload_n 0, 1) := by decide +kernel
theorem dX10_lawTells_89 : decode cX10_lawTells 89 = .ok (.getfield 98, 3) := by decide +kernel
theorem dX10_lawTells_92 : decode cX10_lawTells 92 = .ok (.iload 4, 2) := by decide +kernel
theorem dX10_lawTells_94 : decode cX10_lawTells 94 = .ok (.iaload, 1) := by decide +kernel
theorem dX10_lawTells_95 : decode cX10_lawTells 95 = .ok (.invokevirtual 345, 3) := by decide +kernel
theorem dX10_lawTells_98 : decode cX10_lawTells 98 = .ok (.istore 6, 2) := by decide +kernel
theorem dX10_lawTells_100 : decode cX10_lawTells 100 = .ok (.aload_n 0, 1) := by decide +kernel
theorem dX10_lawTells_101 : decode cX10_lawTells 101 = .ok (.getfield 321, 3) := by decide +kernel
theorem dX10_lawTells_104 : decode cX10_lawTells 104 = .ok (.ifCond .eq 5, 3) := by decide +kernel
theorem dX10_lawTells_107 : decode cX10_lawTells 107 = .ok (.iconst 0, 1) := by decide +kernel
theorem dX10_lawTells_108 : decode cX10_lawTells 108 = .ok (.ireturn, 1) := by decide +kernel
theorem dX10_lawTells_109 : decode cX10_lawTells 109 = .ok (.iload 5, 2) := by decide +kernel
theorem dX10_lawTells_111 : decode cX10_lawTells 111 = .ok (.iload 6, 2) := by decide +kernel
theorem dX10_lawTells_113 : decode cX10_lawTells 113 = .ok (.if_icmp .lt 6, 3) := by decide +kernel
theorem dX10_lawTells_116 : decode cX10_lawTells 116 = .ok (.goto 37, 3) := by decide +kernel
theorem dX10_lawTells_119 : decode cX10_lawTells 119 = .ok (.aload_n 0, 1) := by decide +kernel
theorem dX10_lawTells_120 : decode cX10_lawTells 120 = .ok (.aload_n 0, 1) := by decide +kernel
theorem dX10_lawTells_121 : decode cX10_lawTells 121 = .ok (.getfield 98, 3) := by decide +kernel
theorem dX10_lawTells_124 : decode cX10_lawTells 124 = .ok (.iload 4, 2) := by decide +kernel
theorem dX10_lawTells_126 : decode cX10_lawTells 126 = .ok (.iaload, 1) := by decide +kernel
theorem dX10_lawTells_127 : decode cX10_lawTells 127 = .ok (.aload_n 0, 1) := by decide +kernel
theorem dX10_lawTells_128 : decode cX10_lawTells 128 = .ok (.getfield 101, 3) := by decide +kernel
theorem dX10_lawTells_131 : decode cX10_lawTells 131 = .ok (.iload 4, 2) := by decide +kernel
theorem dX10_lawTells_133 : decode cX10_lawTells 133 = .ok (.iaload, 1) := by decide +kernel
theorem dX10_lawTells_134 : decode cX10_lawTells 134 = .ok (.invokevirtual 345, 3) := by decide +kernel
theorem dX10_lawTells_137 : decode cX10_lawTells 137 = .ok (.istore 5, 2) := by decide +kernel
theorem dX10_lawTells_139 : decode cX10_lawTells 139 = .ok (.aload_n 0, 1) := by decide +kernel
theorem dX10_lawTells_140 : decode cX10_lawTells 140 = .ok (.getfield 321, 3) := by decide +kernel
theorem dX10_lawTells_143 : decode cX10_lawTells 143 = .ok (.ifCond .eq 7, 3) := by decide +kernel
theorem dX10_lawTells_146 : decode cX10_lawTells 146 = .ok (.iconst 0, 1) := by decide +kernel
theorem dX10_lawTells_147 : decode cX10_lawTells 147 = .ok (.goto 5, 3) := by decide +kernel
theorem dX10_lawTells_150 : decode cX10_lawTells 150 = .ok (.iload 5, 2) := by decide +kernel
theorem dX10_lawTells_152 : decode cX10_lawTells 152 = .ok (.ireturn, 1) := by decide +kernel
theorem dX10_lawTells_153 : decode cX10_lawTells 153 = .ok (.iinc 4 1, 3) := by decide +kernel
theorem dX10_lawTells_156 : decode cX10_lawTells 156 = .ok (.goto (-117), 3) := by decide +kernel
theorem dX10_lawTells_159 : decode cX10_lawTells 159 = .ok (.iconst 0, 1) := by decide +kernel
theorem dX10_lawTells_160 : decode cX10_lawTells 160 = .ok (.ireturn, 1) := by decide +kernel
theorem dX10_farFrom_0 : decode cX10_farFrom 0 = .ok (.aload_n 0, 1) := by decide +kernel
theorem dX10_farFrom_1 : decode cX10_farFrom 1 = .ok (.getfield 122, 3) := by decide +kernel
theorem dX10_farFrom_4 : decode cX10_farFrom 4 = .ok (.iload_n 1, 1) := by decide +kernel
theorem dX10_farFrom_5 : decode cX10_farFrom 5 = .ok (.iaload, 1) := by decide +kernel
theorem dX10_farFrom_6 : decode cX10_farFrom 6 = .ok (.iload_n 2, 1) := by decide +kernel
theorem dX10_farFrom_7 : decode cX10_farFrom 7 = .ok (.invokestatic 348, 3) := by decide +kernel
theorem dX10_farFrom_10 : decode cX10_farFrom 10 = .ok (.aload_n 0, 1) := by decide +kernel
theorem dX10_farFrom_11 : decode cX10_farFrom 11 = .ok (.getfield 122, 3) := by decide +kernel
theorem dX10_farFrom_14 : decode cX10_farFrom 14 = .ok (.iconst 4, 1) := by decide +kernel
theorem dX10_farFrom_15 : decode cX10_farFrom 15 = .ok (.iload_n 1, 1) := by decide +kernel
theorem dX10_farFrom_16 : decode cX10_farFrom 16 = .ok (.iadd, 1) := by decide +kernel
theorem dX10_farFrom_17 : decode cX10_farFrom 17 = .ok (.iaload, 1) := by decide +kernel
theorem dX10_farFrom_18 : decode cX10_farFrom 18 = .ok (.iload_n 3, 1) := by decide +kernel
theorem dX10_farFrom_19 : decode cX10_farFrom 19 = .ok (.invokestatic 348, 3) := by decide +kernel
theorem dX10_farFrom_22 : decode cX10_farFrom 22 = .ok (.invokestatic 351, 3) := by decide +kernel
theorem dX10_farFrom_25 : decode cX10_farFrom 25 = .ok (.ireturn, 1) := by decide +kernel
theorem dX10_pullAt_0 : decode cX10_pullAt 0 = .ok (.aload_n 0, 1) := by decide +kernel
theorem dX10_pullAt_1 : decode cX10_pullAt 1 = .ok (.aload_n 0, 1) := by decide +kernel
theorem dX10_pullAt_2 : decode cX10_pullAt 2 = .ok (.iload_n 1, 1) := by decide +kernel
theorem dX10_pullAt_3 : decode cX10_pullAt 3 = .ok (.invokevirtual 354, 3) := by decide +kernel
theorem dX10_pullAt_6 : decode cX10_pullAt 6 = .ok (.iload_n 3, 1) := by decide +kernel
theorem dX10_pullAt_7 : decode cX10_pullAt 7 = .ok (.iload 4, 2) := by decide +kernel
theorem dX10_pullAt_9 : decode cX10_pullAt 9 = .ok (.invokevirtual 357, 3) := by decide +kernel
theorem dX10_pullAt_12 : decode cX10_pullAt 12 = .ok (.istore 5, 2) := by decide +kernel
theorem dX10_pullAt_14 : decode cX10_pullAt 14 = .ok (.aload_n 0, 1) := by decide +kernel
theorem dX10_pullAt_15 : decode cX10_pullAt 15 = .ok (.iload_n 1, 1) := by decide +kernel
theorem dX10_pullAt_16 : decode cX10_pullAt 16 = .ok (.invokevirtual 342, 3) := by decide +kernel
theorem dX10_pullAt_19 : decode cX10_pullAt 19 = .ok (.ifCond .ne 33, 3) := by decide +kernel
theorem dX10_pullAt_22 : decode cX10_pullAt 22 = .ok (.aload_n 0, 1) := by decide +kernel
theorem dX10_pullAt_23 : decode cX10_pullAt 23 = .ok (.getfield 122, 3) := by decide +kernel
theorem dX10_pullAt_26 : decode cX10_pullAt 26 = .ok (.bipush 16, 2) := by decide +kernel
theorem dX10_pullAt_28 : decode cX10_pullAt 28 = .ok (.aload_n 0, 1) := by decide +kernel
theorem dX10_pullAt_29 : decode cX10_pullAt 29 = .ok (.iload_n 1, 1) := by decide +kernel
theorem dX10_pullAt_30 : decode cX10_pullAt 30 = .ok (.invokevirtual 354, 3) := by decide +kernel
theorem dX10_pullAt_33 : decode cX10_pullAt 33 = .ok (.iadd, 1) := by decide +kernel
theorem dX10_pullAt_34 : decode cX10_pullAt 34 = .ok (.iaload, 1) := by decide +kernel
theorem dX10_pullAt_35 : decode cX10_pullAt 35 = .ok (.iconst 1, 1) := by decide +kernel
theorem dX10_pullAt_36 : decode cX10_pullAt 36 = .ok (.if_icmp .eq 16, 3) := by decide +kernel
theorem dX10_pullAt_39 : decode cX10_pullAt 39 = .ok (.aload_n 0, 1) := by decide +kernel
theorem dX10_pullAt_40 : decode cX10_pullAt 40 = .ok (.iload_n 2, 1) := by decide +kernel
theorem dX10_pullAt_41 : decode cX10_pullAt 41 = .ok (.invokevirtual 360, 3) := by decide +kernel
theorem dX10_pullAt_44 : decode cX10_pullAt 44 = .ok (.ifCond .ne 8, 3) := by decide +kernel
theorem dX10_pullAt_47 : decode cX10_pullAt 47 = .ok (.iload 5, 2) := by decide +kernel
theorem dX10_pullAt_49 : decode cX10_pullAt 49 = .ok (.ifCond .ne 5, 3) := by decide +kernel
theorem dX10_pullAt_52 : decode cX10_pullAt 52 = .ok (.iconst 0, 1) := by decide +kernel
theorem dX10_pullAt_53 : decode cX10_pullAt 53 = .ok (.ireturn, 1) := by decide +kernel
theorem dX10_pullAt_54 : decode cX10_pullAt 54 = .ok (.aload_n 0, 1) := by decide +kernel
theorem dX10_pullAt_55 : decode cX10_pullAt 55 = .ok (.invokevirtual 363, 3) := by decide +kernel
theorem dX10_pullAt_58 : decode cX10_pullAt 58 = .ok (.aload_n 0, 1) := by decide +kernel
theorem dX10_pullAt_59 : decode cX10_pullAt 59 = .ok (.getfield 113, 3) := by decide +kernel
theorem dX10_pullAt_62 : decode cX10_pullAt 62 = .ok (.iconst 0, 1) := by decide +kernel
theorem dX10_pullAt_63 : decode cX10_pullAt 63 = .ok (.aload_n 0, 1) := by decide +kernel
theorem dX10_pullAt_64 : decode cX10_pullAt 64 = .ok (.getfield 73, 3) := by decide +kernel
theorem dX10_pullAt_67 : decode cX10_pullAt 67 = .ok (.bipush 8, 2) := by decide +kernel
theorem dX10_pullAt_69 : decode cX10_pullAt 69 = .ok (.aload_n 0, 1) := by decide +kernel
theorem dX10_pullAt_70 : decode cX10_pullAt 70 = .ok (.getfield 239, 3) := by decide +kernel
theorem dX10_pullAt_73 : decode cX10_pullAt 73 = .ok (.imul, 1) := by decide +kernel
theorem dX10_pullAt_74 : decode cX10_pullAt 74 = .ok (.iload_n 1, 1) := by decide +kernel
theorem dX10_pullAt_75 : decode cX10_pullAt 75 = .ok (.iadd, 1) := by decide +kernel
theorem dX10_pullAt_76 : decode cX10_pullAt 76 = .ok (.iaload, 1) := by decide +kernel
theorem dX10_pullAt_77 : decode cX10_pullAt 77 = .ok (.iastore, 1) := by decide +kernel
theorem dX10_pullAt_78 : decode cX10_pullAt 78 = .ok (.aload_n 0, 1) := by decide +kernel
theorem dX10_pullAt_79 : decode cX10_pullAt 79 = .ok (.getfield 113, 3) := by decide +kernel
theorem dX10_pullAt_82 : decode cX10_pullAt 82 = .ok (.iconst 1, 1) := by decide +kernel
theorem dX10_pullAt_83 : decode cX10_pullAt 83 = .ok (.iload 5, 2) := by decide +kernel
theorem dX10_pullAt_85 : decode cX10_pullAt 85 = .ok (.iastore, 1) := by decide +kernel
theorem dX10_pullAt_86 : decode cX10_pullAt 86 = .ok (.aload_n 0, 1) := by decide +kernel
theorem dX10_pullAt_87 : decode cX10_pullAt 87 = .ok (.getfield 113, 3) := by decide +kernel
theorem dX10_pullAt_90 : decode cX10_pullAt 90 = .ok (.iconst 4, 1) := by decide +kernel
theorem dX10_pullAt_91 : decode cX10_pullAt 91 = .ok (.aload_n 0, 1) := by decide +kernel
theorem dX10_pullAt_92 : decode cX10_pullAt 92 = .ok (.getfield 61, 3) := by decide +kernel
theorem dX10_pullAt_95 : decode cX10_pullAt 95 = .ok (.bipush 6, 2) := by decide +kernel
theorem dX10_pullAt_97 : decode cX10_pullAt 97 = .ok (.aload_n 0, 1) := by decide +kernel
theorem dX10_pullAt_98 : decode cX10_pullAt 98 = .ok (.getfield 239, 3) := by decide +kernel
theorem dX10_pullAt_101 : decode cX10_pullAt 101 = .ok (.imul, 1) := by decide +kernel
theorem dX10_pullAt_102 : decode cX10_pullAt 102 = .ok (.iload_n 2, 1) := by decide +kernel
theorem dX10_pullAt_103 : decode cX10_pullAt 103 = .ok (.iadd, 1) := by decide +kernel
theorem dX10_pullAt_104 : decode cX10_pullAt 104 = .ok (.iaload, 1) := by decide +kernel
theorem dX10_pullAt_105 : decode cX10_pullAt 105 = .ok (.iastore, 1) := by decide +kernel
theorem dX10_pullAt_106 : decode cX10_pullAt 106 = .ok (.aload_n 0, 1) := by decide +kernel
theorem dX10_pullAt_107 : decode cX10_pullAt 107 = .ok (.getfield 113, 3) := by decide +kernel
theorem dX10_pullAt_110 : decode cX10_pullAt 110 = .ok (.bipush 7, 2) := by decide +kernel
theorem dX10_pullAt_112 : decode cX10_pullAt 112 = .ok (.iload_n 1, 1) := by decide +kernel
theorem dX10_pullAt_113 : decode cX10_pullAt 113 = .ok (.iastore, 1) := by decide +kernel
theorem dX10_pullAt_114 : decode cX10_pullAt 114 = .ok (.aload_n 0, 1) := by decide +kernel
theorem dX10_pullAt_115 : decode cX10_pullAt 115 = .ok (.iconst 0, 1) := by decide +kernel
theorem dX10_pullAt_116 : decode cX10_pullAt 116 = .ok (.aload_n 0, 1) := by decide +kernel
theorem dX10_pullAt_117 : decode cX10_pullAt 117 = .ok (.getfield 113, 3) := by decide +kernel
theorem dX10_pullAt_120 : decode cX10_pullAt 120 = .ok (.iconst 0, 1) := by decide +kernel
theorem dX10_pullAt_121 : decode cX10_pullAt 121 = .ok (.iaload, 1) := by decide +kernel
theorem dX10_pullAt_122 : decode cX10_pullAt 122 = .ok (.invokevirtual 366, 3) := by decide +kernel
theorem dX10_pullAt_125 : decode cX10_pullAt 125 = .ok (.iconst 0, 1) := by decide +kernel
theorem dX10_pullAt_126 : decode cX10_pullAt 126 = .ok (.bipush 99, 2) := by decide +kernel
theorem dX10_pullAt_128 : decode cX10_pullAt 128 = .ok (.invokestatic 369, 3) := by decide +kernel
theorem dX10_pullAt_131 : decode cX10_pullAt 131 = .ok (.ireturn, 1) := by decide +kernel
theorem dX10_pullsBy_0 : decode cX10_pullsBy 0 = .ok (.aload_n 0, 1) := by decide +kernel
theorem dX10_pullsBy_1 : decode cX10_pullsBy 1 = .ok (.iconst 0, 1) := by decide +kernel
theorem dX10_pullsBy_2 : decode cX10_pullsBy 2 = .ok (.putfield 372, 3) := by decide +kernel
theorem dX10_pullsBy_5 : decode cX10_pullsBy 5 = .ok (.aload_n 0, 1) := by decide +kernel
theorem dX10_pullsBy_6 : decode cX10_pullsBy 6 = .ok (.iconst 0, 1) := by decide +kernel
theorem dX10_pullsBy_7 : decode cX10_pullsBy 7 = .ok (.putfield 375, 3) := by decide +kernel
theorem dX10_pullsBy_10 : decode cX10_pullsBy 10 = .ok (.iconst 0, 1) := by decide +kernel
theorem dX10_pullsBy_11 : decode cX10_pullsBy 11 = .ok (.istore 5, 2) := by decide +kernel
theorem dX10_pullsBy_13 : decode cX10_pullsBy 13 = .ok (.iload 5, 2) := by decide +kernel
theorem dX10_pullsBy_15 : decode cX10_pullsBy 15 = .ok (.aload_n 0, 1) := by decide +kernel
theorem dX10_pullsBy_16 : decode cX10_pullsBy 16 = .ok (.getfield 64, 3) := by decide +kernel
theorem dX10_pullsBy_19 : decode cX10_pullsBy 19 = .ok (.aload_n 0, 1) := by decide +kernel
theorem dX10_pullsBy_20 : decode cX10_pullsBy 20 = .ok (.getfield 239, 3) := by decide +kernel
theorem dX10_pullsBy_23 : decode cX10_pullsBy 23 = .ok (.iaload, 1) := by decide +kernel
theorem dX10_pullsBy_24 : decode cX10_pullsBy 24 = .ok (.if_icmp .ge 92, 3) := by decide +kernel
theorem dX10_pullsBy_27 : decode cX10_pullsBy 27 = .ok (.iload_n 1, 1) := by decide +kernel
theorem dX10_pullsBy_28 : decode cX10_pullsBy 28 = .ok (.iload 5, 2) := by decide +kernel
theorem dX10_pullsBy_30 : decode cX10_pullsBy 30 = .ok (.ishr, 1) := by decide +kernel
theorem dX10_pullsBy_31 : decode cX10_pullsBy 31 = .ok (.iconst 1, 1) := by decide +kernel
theorem dX10_pullsBy_32 : decode cX10_pullsBy 32 = .ok (.iand, 1) := by decide +kernel
theorem dX10_pullsBy_33 : decode cX10_pullsBy 33 = .ok (.ifCond .ne 6, 3) := by decide +kernel
theorem dX10_pullsBy_36 : decode cX10_pullsBy 36 = .ok (.goto 74, 3) := by decide +kernel
theorem dX10_pullsBy_39 : decode cX10_pullsBy 39 = .ok (.aload_n 0, 1) := by decide +kernel
theorem dX10_pullsBy_40 : decode cX10_pullsBy 40 = .ok (.iload 5, 2) := by decide +kernel
theorem dX10_pullsBy_42 : decode cX10_pullsBy 42 = .ok (.iload_n 2, 1) := by decide +kernel
theorem dX10_pullsBy_43 : decode cX10_pullsBy 43 = .ok (.iload_n 3, 1) := by decide +kernel
theorem dX10_pullsBy_44 : decode cX10_pullsBy 44 = .ok (.iload 4, 2) := by decide +kernel
theorem dX10_pullsBy_46 : decode cX10_pullsBy 46 = .ok (.invokevirtual 378, 3) := by decide +kernel
theorem dX10_pullsBy_49 : decode cX10_pullsBy 49 = .ok (.istore 6, 2) := by decide +kernel
theorem dX10_pullsBy_51 : decode cX10_pullsBy 51 = .ok (.aload_n 0, 1) := by decide +kernel
theorem dX10_pullsBy_52 : decode cX10_pullsBy 52 = .ok (.dup, 1) := by decide +kernel
theorem dX10_pullsBy_53 : decode cX10_pullsBy 53 = .ok (.getfield 372, 3) := by decide +kernel
theorem dX10_pullsBy_56 : decode cX10_pullsBy 56 = .ok (.iload 6, 2) := by decide +kernel
theorem dX10_pullsBy_58 : decode cX10_pullsBy 58 = .ok (.aload_n 0, 1) := by decide +kernel
theorem dX10_pullsBy_59 : decode cX10_pullsBy 59 = .ok (.getfield 122, 3) := by decide +kernel
theorem dX10_pullsBy_62 : decode cX10_pullsBy 62 = .ok (.aload_n 0, 1) := by decide +kernel
theorem dX10_pullsBy_63 : decode cX10_pullsBy 63 = .ok (.iload 5, 2) := by decide +kernel
theorem dX10_pullsBy_65 : decode cX10_pullsBy 65 = .ok (.invokevirtual 354, 3) := by decide +kernel
theorem dX10_pullsBy_68 : decode cX10_pullsBy 68 = .ok (.iaload, 1) := by decide +kernel
theorem dX10_pullsBy_69 : decode cX10_pullsBy 69 = .ok (.iload_n 3, 1) := by decide +kernel
theorem dX10_pullsBy_70 : decode cX10_pullsBy 70 = .ok (.isub, 1) := by decide +kernel
theorem dX10_pullsBy_71 : decode cX10_pullsBy 71 = .ok (.invokestatic 382, 3) := by decide +kernel
theorem dX10_pullsBy_74 : decode cX10_pullsBy 74 = .ok (.imul, 1) := by decide +kernel
theorem dX10_pullsBy_75 : decode cX10_pullsBy 75 = .ok (.iadd, 1) := by decide +kernel
theorem dX10_pullsBy_76 : decode cX10_pullsBy 76 = .ok (.putfield 372, 3) := by decide +kernel
theorem dX10_pullsBy_79 : decode cX10_pullsBy 79 = .ok (.aload_n 0, 1) := by decide +kernel
theorem dX10_pullsBy_80 : decode cX10_pullsBy 80 = .ok (.dup, 1) := by decide +kernel
theorem dX10_pullsBy_81 : decode cX10_pullsBy 81 = .ok (.getfield 375, 3) := by decide +kernel
theorem dX10_pullsBy_84 : decode cX10_pullsBy 84 = .ok (.iload 6, 2) := by decide +kernel
theorem dX10_pullsBy_86 : decode cX10_pullsBy 86 = .ok (.aload_n 0, 1) := by decide +kernel
theorem dX10_pullsBy_87 : decode cX10_pullsBy 87 = .ok (.getfield 122, 3) := by decide +kernel
theorem dX10_pullsBy_90 : decode cX10_pullsBy 90 = .ok (.iconst 4, 1) := by decide +kernel
theorem dX10_pullsBy_91 : decode cX10_pullsBy 91 = .ok (.aload_n 0, 1) := by decide +kernel
theorem dX10_pullsBy_92 : decode cX10_pullsBy 92 = .ok (.iload 5, 2) := by decide +kernel
theorem dX10_pullsBy_94 : decode cX10_pullsBy 94 = .ok (.invokevirtual 354, 3) := by decide +kernel
theorem dX10_pullsBy_97 : decode cX10_pullsBy 97 = .ok (.iadd, 1) := by decide +kernel
theorem dX10_pullsBy_98 : decode cX10_pullsBy 98 = .ok (.iaload, 1) := by decide +kernel
theorem dX10_pullsBy_99 : decode cX10_pullsBy 99 = .ok (.iload 4, 2) := by decide +kernel
theorem dX10_pullsBy_101 : decode cX10_pullsBy 101 = .ok (.isub, 1) := by decide +kernel
theorem dX10_pullsBy_102 : decode cX10_pullsBy 102 = .ok (.invokestatic 382, 3) := by decide +kernel
theorem dX10_pullsBy_105 : decode cX10_pullsBy 105 = .ok (.imul, 1) := by decide +kernel
theorem dX10_pullsBy_106 : decode cX10_pullsBy 106 = .ok (.iadd, 1) := by decide +kernel
theorem dX10_pullsBy_107 : decode cX10_pullsBy 107 = .ok (.putfield 375, 3) := by decide +kernel
theorem dX10_pullsBy_110 : decode cX10_pullsBy 110 = .ok (.iinc 5 1, 3) := by decide +kernel
theorem dX10_pullsBy_113 : decode cX10_pullsBy 113 = .ok (.goto (-100), 3) := by decide +kernel
theorem dX10_pullsBy_116 : decode cX10_pullsBy 116 = .ok (.return_, 1) := by decide +kernel
theorem dX10_wornBits_0 : decode cX10_wornBits 0 = .ok (.iconst 0, 1) := by decide +kernel
theorem dX10_wornBits_1 : decode cX10_wornBits 1 = .ok (.istore_n 2, 1) := by decide +kernel
theorem dX10_wornBits_2 : decode cX10_wornBits 2 = .ok (.iconst 0, 1) := by decide +kernel
theorem dX10_wornBits_3 : decode cX10_wornBits 3 = .ok (.istore_n 3, 1) := by decide +kernel
theorem dX10_wornBits_4 : decode cX10_wornBits 4 = .ok (.iload_n 3, 1) := by decide +kernel
theorem dX10_wornBits_5 : decode cX10_wornBits 5 = .ok (.aload_n 0, 1) := by decide +kernel
theorem dX10_wornBits_6 : decode cX10_wornBits 6 = .ok (.getfield 64, 3) := by decide +kernel
theorem dX10_wornBits_9 : decode cX10_wornBits 9 = .ok (.aload_n 0, 1) := by decide +kernel
theorem dX10_wornBits_10 : decode cX10_wornBits 10 = .ok (.getfield 239, 3) := by decide +kernel
theorem dX10_wornBits_13 : decode cX10_wornBits 13 = .ok (.iaload, 1) := by decide +kernel
theorem dX10_wornBits_14 : decode cX10_wornBits 14 = .ok (.if_icmp .ge 36, 3) := by decide +kernel
theorem dX10_wornBits_17 : decode cX10_wornBits 17 = .ok (.aload_n 0, 1) := by decide +kernel
theorem dX10_wornBits_18 : decode cX10_wornBits 18 = .ok (.getfield 122, 3) := by decide +kernel
theorem dX10_wornBits_21 : decode cX10_wornBits 21 = .ok (.bipush 38, 2) := by decide +kernel
theorem dX10_wornBits_23 : decode cX10_wornBits 23 = .ok (.iload_n 3, 1) := by decide +kernel
theorem dX10_wornBits_24 : decode cX10_wornBits 24 = .ok (.iadd, 1) := by decide +kernel
theorem dX10_wornBits_25 : decode cX10_wornBits 25 = .ok (.iaload, 1) := by decide +kernel
theorem dX10_wornBits_26 : decode cX10_wornBits 26 = .ok (.iload_n 1, 1) := by decide +kernel
theorem dX10_wornBits_27 : decode cX10_wornBits 27 = .ok (.if_icmp .ne 17, 3) := by decide +kernel
theorem dX10_wornBits_30 : decode cX10_wornBits 30 = .ok (.aload_n 0, 1) := by decide +kernel
theorem dX10_wornBits_31 : decode cX10_wornBits 31 = .ok (.iload_n 3, 1) := by decide +kernel
theorem dX10_wornBits_32 : decode cX10_wornBits 32 = .ok (.invokevirtual 342, 3) := by decide +kernel
theorem dX10_wornBits_35 : decode cX10_wornBits 35 = .ok (.ifCond .ne 9, 3) := by decide +kernel
theorem dX10_wornBits_38 : decode cX10_wornBits 38 = .ok (.iload_n 2, 1) := by decide +kernel
theorem dX10_wornBits_39 : decode cX10_wornBits 39 = .ok (.iconst 1, 1) := by decide +kernel
theorem dX10_wornBits_40 : decode cX10_wornBits 40 = .ok (.iload_n 3, 1) := by decide +kernel
theorem dX10_wornBits_41 : decode cX10_wornBits 41 = .ok (.ishl, 1) := by decide +kernel
theorem dX10_wornBits_42 : decode cX10_wornBits 42 = .ok (.ior, 1) := by decide +kernel
theorem dX10_wornBits_43 : decode cX10_wornBits 43 = .ok (.istore_n 2, 1) := by decide +kernel
theorem dX10_wornBits_44 : decode cX10_wornBits 44 = .ok (.iinc 3 1, 3) := by decide +kernel
theorem dX10_wornBits_47 : decode cX10_wornBits 47 = .ok (.goto (-43), 3) := by decide +kernel
theorem dX10_wornBits_50 : decode cX10_wornBits 50 = .ok (.iload_n 2, 1) := by decide +kernel
theorem dX10_wornBits_51 : decode cX10_wornBits 51 = .ok (.ireturn, 1) := by decide +kernel
theorem dX10_standsAt_0 : decode cX10_standsAt 0 = .ok (.aload_n 0, 1) := by decide +kernel
theorem dX10_standsAt_1 : decode cX10_standsAt 1 = .ok (.invokevirtual 363, 3) := by decide +kernel
theorem dX10_standsAt_4 : decode cX10_standsAt 4 = .ok (.aload_n 0, 1) := by decide +kernel
theorem dX10_standsAt_5 : decode cX10_standsAt 5 = .ok (.getfield 113, 3) := by decide +kernel
theorem dX10_standsAt_8 : decode cX10_standsAt 8 = .ok (.iconst 4, 1) := by decide +kernel
theorem dX10_standsAt_9 : decode cX10_standsAt 9 = .ok (.aload_n 0, 1) := by decide +kernel
theorem dX10_standsAt_10 : decode cX10_standsAt 10 = .ok (.getfield 61, 3) := by decide +kernel
theorem dX10_standsAt_13 : decode cX10_standsAt 13 = .ok (.bipush 6, 2) := by decide +kernel
theorem dX10_standsAt_15 : decode cX10_standsAt 15 = .ok (.aload_n 0, 1) := by decide +kernel
theorem dX10_standsAt_16 : decode cX10_standsAt 16 = .ok (.getfield 239, 3) := by decide +kernel
theorem dX10_standsAt_19 : decode cX10_standsAt 19 = .ok (.imul, 1) := by decide +kernel
theorem dX10_standsAt_20 : decode cX10_standsAt 20 = .ok (.iload_n 1, 1) := by decide +kernel
theorem dX10_standsAt_21 : decode cX10_standsAt 21 = .ok (.iadd, 1) := by decide +kernel
theorem dX10_standsAt_22 : decode cX10_standsAt 22 = .ok (.iaload, 1) := by decide +kernel
theorem dX10_standsAt_23 : decode cX10_standsAt 23 = .ok (.iastore, 1) := by decide +kernel
theorem dX10_standsAt_24 : decode cX10_standsAt 24 = .ok (.aload_n 0, 1) := by decide +kernel
theorem dX10_standsAt_25 : decode cX10_standsAt 25 = .ok (.getfield 113, 3) := by decide +kernel
theorem dX10_standsAt_28 : decode cX10_standsAt 28 = .ok (.iconst 5, 1) := by decide +kernel
theorem dX10_standsAt_29 : decode cX10_standsAt 29 = .ok (.iload_n 2, 1) := by decide +kernel
theorem dX10_standsAt_30 : decode cX10_standsAt 30 = .ok (.iastore, 1) := by decide +kernel
theorem dX10_standsAt_31 : decode cX10_standsAt 31 = .ok (.aload_n 0, 1) := by decide +kernel
theorem dX10_standsAt_32 : decode cX10_standsAt 32 = .ok (.getfield 113, 3) := by decide +kernel
theorem dX10_standsAt_35 : decode cX10_standsAt 35 = .ok (.bipush 6, 2) := by decide +kernel
theorem dX10_standsAt_37 : decode cX10_standsAt 37 = .ok (.iload_n 3, 1) := by decide +kernel
theorem dX10_standsAt_38 : decode cX10_standsAt 38 = .ok (.iastore, 1) := by decide +kernel
theorem dX10_standsAt_39 : decode cX10_standsAt 39 = .ok (.aload_n 0, 1) := by decide +kernel
theorem dX10_standsAt_40 : decode cX10_standsAt 40 = .ok (.getfield 113, 3) := by decide +kernel
theorem dX10_standsAt_43 : decode cX10_standsAt 43 = .ok (.bipush 8, 2) := by decide +kernel
theorem dX10_standsAt_45 : decode cX10_standsAt 45 = .ok (.aload_n 0, 1) := by decide +kernel
theorem dX10_standsAt_46 : decode cX10_standsAt 46 = .ok (.iload_n 1, 1) := by decide +kernel
theorem dX10_standsAt_47 : decode cX10_standsAt 47 = .ok (.invokevirtual 385, 3) := by decide +kernel
theorem dX10_standsAt_50 : decode cX10_standsAt 50 = .ok (.iastore, 1) := by decide +kernel
theorem dX10_standsAt_51 : decode cX10_standsAt 51 = .ok (.aload_n 0, 1) := by decide +kernel
theorem dX10_standsAt_52 : decode cX10_standsAt 52 = .ok (.iconst 1, 1) := by decide +kernel
theorem dX10_standsAt_53 : decode cX10_standsAt 53 = .ok (.aload_n 0, 1) := by decide +kernel
theorem dX10_standsAt_54 : decode cX10_standsAt 54 = .ok (.getfield 113, 3) := by decide +kernel
theorem dX10_standsAt_57 : decode cX10_standsAt 57 = .ok (.iconst 4, 1) := by decide +kernel
theorem dX10_standsAt_58 : decode cX10_standsAt 58 = .ok (.iaload, 1) := by decide +kernel
theorem dX10_standsAt_59 : decode cX10_standsAt 59 = .ok (.invokevirtual 366, 3) := by decide +kernel
theorem dX10_standsAt_62 : decode cX10_standsAt 62 = .ok (.iconst 0, 1) := by decide +kernel
theorem dX10_standsAt_63 : decode cX10_standsAt 63 = .ok (.sipush 999, 3) := by decide +kernel
theorem dX10_standsAt_66 : decode cX10_standsAt 66 = .ok (.invokestatic 369, 3) := by decide +kernel
theorem dX10_standsAt_69 : decode cX10_standsAt 69 = .ok (.ireturn, 1) := by decide +kernel
theorem dX10_stormOf_0 : decode cX10_stormOf 0 = .ok (.aload_n 0, 1) := by decide +kernel
theorem dX10_stormOf_1 : decode cX10_stormOf 1 = .ok (.invokevirtual 363, 3) := by decide +kernel
theorem dX10_stormOf_4 : decode cX10_stormOf 4 = .ok (.aload_n 0, 1) := by decide +kernel
theorem dX10_stormOf_5 : decode cX10_stormOf 5 = .ok (.getfield 113, 3) := by decide +kernel
theorem dX10_stormOf_8 : decode cX10_stormOf 8 = .ok (.iconst 4, 1) := by decide +kernel
theorem dX10_stormOf_9 : decode cX10_stormOf 9 = .ok (.aload_n 0, 1) := by decide +kernel
theorem dX10_stormOf_10 : decode cX10_stormOf 10 = .ok (.getfield 61, 3) := by decide +kernel
theorem dX10_stormOf_13 : decode cX10_stormOf 13 = .ok (.bipush 6, 2) := by decide +kernel
theorem dX10_stormOf_15 : decode cX10_stormOf 15 = .ok (.aload_n 0, 1) := by decide +kernel
theorem dX10_stormOf_16 : decode cX10_stormOf 16 = .ok (.getfield 239, 3) := by decide +kernel
theorem dX10_stormOf_19 : decode cX10_stormOf 19 = .ok (.imul, 1) := by decide +kernel
theorem dX10_stormOf_20 : decode cX10_stormOf 20 = .ok (.iload_n 1, 1) := by decide +kernel
theorem dX10_stormOf_21 : decode cX10_stormOf 21 = .ok (.iadd, 1) := by decide +kernel
theorem dX10_stormOf_22 : decode cX10_stormOf 22 = .ok (.iaload, 1) := by decide +kernel
theorem dX10_stormOf_23 : decode cX10_stormOf 23 = .ok (.iastore, 1) := by decide +kernel
theorem dX10_stormOf_24 : decode cX10_stormOf 24 = .ok (.aload_n 0, 1) := by decide +kernel
theorem dX10_stormOf_25 : decode cX10_stormOf 25 = .ok (.getfield 113, 3) := by decide +kernel
theorem dX10_stormOf_28 : decode cX10_stormOf 28 = .ok (.iconst 5, 1) := by decide +kernel
theorem dX10_stormOf_29 : decode cX10_stormOf 29 = .ok (.aload_n 0, 1) := by decide +kernel
theorem dX10_stormOf_30 : decode cX10_stormOf 30 = .ok (.getfield 122, 3) := by decide +kernel
theorem dX10_stormOf_33 : decode cX10_stormOf 33 = .ok (.bipush 20, 2) := by decide +kernel
theorem dX10_stormOf_35 : decode cX10_stormOf 35 = .ok (.iload_n 1, 1) := by decide +kernel
theorem dX10_stormOf_36 : decode cX10_stormOf 36 = .ok (.iadd, 1) := by decide +kernel
theorem dX10_stormOf_37 : decode cX10_stormOf 37 = .ok (.iaload, 1) := by decide +kernel
theorem dX10_stormOf_38 : decode cX10_stormOf 38 = .ok (.iastore, 1) := by decide +kernel
theorem dX10_stormOf_39 : decode cX10_stormOf 39 = .ok (.aload_n 0, 1) := by decide +kernel
theorem dX10_stormOf_40 : decode cX10_stormOf 40 = .ok (.getfield 113, 3) := by decide +kernel
theorem dX10_stormOf_43 : decode cX10_stormOf 43 = .ok (.bipush 6, 2) := by decide +kernel
theorem dX10_stormOf_45 : decode cX10_stormOf 45 = .ok (.aload_n 0, 1) := by decide +kernel
theorem dX10_stormOf_46 : decode cX10_stormOf 46 = .ok (.getfield 122, 3) := by decide +kernel
theorem dX10_stormOf_49 : decode cX10_stormOf 49 = .ok (.bipush 26, 2) := by decide +kernel
theorem dX10_stormOf_51 : decode cX10_stormOf 51 = .ok (.iload_n 1, 1) := by decide +kernel
theorem dX10_stormOf_52 : decode cX10_stormOf 52 = .ok (.iadd, 1) := by decide +kernel
theorem dX10_stormOf_53 : decode cX10_stormOf 53 = .ok (.iaload, 1) := by decide +kernel
theorem dX10_stormOf_54 : decode cX10_stormOf 54 = .ok (.iastore, 1) := by decide +kernel
theorem dX10_stormOf_55 : decode cX10_stormOf 55 = .ok (.aload_n 0, 1) := by decide +kernel
theorem dX10_stormOf_56 : decode cX10_stormOf 56 = .ok (.getfield 113, 3) := by decide +kernel
theorem dX10_stormOf_59 : decode cX10_stormOf 59 = .ok (.bipush 8, 2) := by decide +kernel
theorem dX10_stormOf_61 : decode cX10_stormOf 61 = .ok (.aload_n 0, 1) := by decide +kernel
theorem dX10_stormOf_62 : decode cX10_stormOf 62 = .ok (.iload_n 1, 1) := by decide +kernel
theorem dX10_stormOf_63 : decode cX10_stormOf 63 = .ok (.invokevirtual 385, 3) := by decide +kernel
theorem dX10_stormOf_66 : decode cX10_stormOf 66 = .ok (.iastore, 1) := by decide +kernel
theorem dX10_stormOf_67 : decode cX10_stormOf 67 = .ok (.aload_n 0, 1) := by decide +kernel
theorem dX10_stormOf_68 : decode cX10_stormOf 68 = .ok (.iconst 3, 1) := by decide +kernel
theorem dX10_stormOf_69 : decode cX10_stormOf 69 = .ok (.iconst 0, 1) := by decide +kernel
theorem dX10_stormOf_70 : decode cX10_stormOf 70 = .ok (.invokevirtual 366, 3) := by decide +kernel
theorem dX10_stormOf_73 : decode cX10_stormOf 73 = .ok (.iconst 0, 1) := by decide +kernel
theorem dX10_stormOf_74 : decode cX10_stormOf 74 = .ok (.bipush 100, 2) := by decide +kernel
theorem dX10_stormOf_76 : decode cX10_stormOf 76 = .ok (.invokestatic 369, 3) := by decide +kernel
theorem dX10_stormOf_79 : decode cX10_stormOf 79 = .ok (.ireturn, 1) := by decide +kernel
theorem dX10_priceOf_0 : decode cX10_priceOf 0 = .ok (.aload_n 0, 1) := by decide +kernel
theorem dX10_priceOf_1 : decode cX10_priceOf 1 = .ok (.getfield 122, 3) := by decide +kernel
theorem dX10_priceOf_4 : decode cX10_priceOf 4 = .ok (.bipush 38, 2) := by decide +kernel
theorem dX10_priceOf_6 : decode cX10_priceOf 6 = .ok (.iload_n 1, 1) := by decide +kernel
theorem dX10_priceOf_7 : decode cX10_priceOf 7 = .ok (.iadd, 1) := by decide +kernel
theorem dX10_priceOf_8 : decode cX10_priceOf 8 = .ok (.iaload, 1) := by decide +kernel
theorem dX10_priceOf_9 : decode cX10_priceOf 9 = .ok (.istore_n 2, 1) := by decide +kernel
theorem dX10_priceOf_10 : decode cX10_priceOf 10 = .ok (.aload_n 0, 1) := by decide +kernel
theorem dX10_priceOf_11 : decode cX10_priceOf 11 = .ok (.invokevirtual 363, 3) := by decide +kernel
theorem dX10_priceOf_14 : decode cX10_priceOf 14 = .ok (.aload_n 0, 1) := by decide +kernel
theorem dX10_priceOf_15 : decode cX10_priceOf 15 = .ok (.getfield 113, 3) := by decide +kernel
theorem dX10_priceOf_18 : decode cX10_priceOf 18 = .ok (.iconst 0, 1) := by decide +kernel
theorem dX10_priceOf_19 : decode cX10_priceOf 19 = .ok (.aload_n 0, 1) := by decide +kernel
theorem dX10_priceOf_20 : decode cX10_priceOf 20 = .ok (.getfield 73, 3) := by decide +kernel
theorem dX10_priceOf_23 : decode cX10_priceOf 23 = .ok (.bipush 8, 2) := by decide +kernel
theorem dX10_priceOf_25 : decode cX10_priceOf 25 = .ok (.aload_n 0, 1) := by decide +kernel
theorem dX10_priceOf_26 : decode cX10_priceOf 26 = .ok (.getfield 239, 3) := by decide +kernel
theorem dX10_priceOf_29 : decode cX10_priceOf 29 = .ok (.imul, 1) := by decide +kernel
theorem dX10_priceOf_30 : decode cX10_priceOf 30 = .ok (.iload_n 1, 1) := by decide +kernel
theorem dX10_priceOf_31 : decode cX10_priceOf 31 = .ok (.iadd, 1) := by decide +kernel
theorem dX10_priceOf_32 : decode cX10_priceOf 32 = .ok (.iaload, 1) := by decide +kernel
theorem dX10_priceOf_33 : decode cX10_priceOf 33 = .ok (.iastore, 1) := by decide +kernel
theorem dX10_priceOf_34 : decode cX10_priceOf 34 = .ok (.aload_n 0, 1) := by decide +kernel
theorem dX10_priceOf_35 : decode cX10_priceOf 35 = .ok (.getfield 113, 3) := by decide +kernel
theorem dX10_priceOf_38 : decode cX10_priceOf 38 = .ok (.iconst 1, 1) := by decide +kernel
theorem dX10_priceOf_39 : decode cX10_priceOf 39 = .ok (.aload_n 0, 1) := by decide +kernel
theorem dX10_priceOf_40 : decode cX10_priceOf 40 = .ok (.aload_n 0, 1) := by decide +kernel
theorem dX10_priceOf_41 : decode cX10_priceOf 41 = .ok (.iload_n 1, 1) := by decide +kernel
theorem dX10_priceOf_42 : decode cX10_priceOf 42 = .ok (.invokevirtual 354, 3) := by decide +kernel
theorem dX10_priceOf_45 : decode cX10_priceOf 45 = .ok (.aload_n 0, 1) := by decide +kernel
theorem dX10_priceOf_46 : decode cX10_priceOf 46 = .ok (.getfield 122, 3) := by decide +kernel
theorem dX10_priceOf_49 : decode cX10_priceOf 49 = .ok (.bipush 20, 2) := by decide +kernel
theorem dX10_priceOf_51 : decode cX10_priceOf 51 = .ok (.iload_n 2, 1) := by decide +kernel
theorem dX10_priceOf_52 : decode cX10_priceOf 52 = .ok (.iadd, 1) := by decide +kernel
theorem dX10_priceOf_53 : decode cX10_priceOf 53 = .ok (.iaload, 1) := by decide +kernel
theorem dX10_priceOf_54 : decode cX10_priceOf 54 = .ok (.aload_n 0, 1) := by decide +kernel
theorem dX10_priceOf_55 : decode cX10_priceOf 55 = .ok (.getfield 122, 3) := by decide +kernel
theorem dX10_priceOf_58 : decode cX10_priceOf 58 = .ok (.bipush 26, 2) := by decide +kernel
theorem dX10_priceOf_60 : decode cX10_priceOf 60 = .ok (.iload_n 2, 1) := by decide +kernel
theorem dX10_priceOf_61 : decode cX10_priceOf 61 = .ok (.iadd, 1) := by decide +kernel
theorem dX10_priceOf_62 : decode cX10_priceOf 62 = .ok (.iaload, 1) := by decide +kernel
theorem dX10_priceOf_63 : decode cX10_priceOf 63 = .ok (.invokevirtual 357, 3) := by decide +kernel
theorem dX10_priceOf_66 : decode cX10_priceOf 66 = .ok (.iastore, 1) := by decide +kernel
theorem dX10_priceOf_67 : decode cX10_priceOf 67 = .ok (.aload_n 0, 1) := by decide +kernel
theorem dX10_priceOf_68 : decode cX10_priceOf 68 = .ok (.getfield 113, 3) := by decide +kernel
theorem dX10_priceOf_71 : decode cX10_priceOf 71 = .ok (.bipush 7, 2) := by decide +kernel
theorem dX10_priceOf_73 : decode cX10_priceOf 73 = .ok (.iload_n 1, 1) := by decide +kernel
theorem dX10_priceOf_74 : decode cX10_priceOf 74 = .ok (.iastore, 1) := by decide +kernel
theorem dX10_priceOf_75 : decode cX10_priceOf 75 = .ok (.aload_n 0, 1) := by decide +kernel
theorem dX10_priceOf_76 : decode cX10_priceOf 76 = .ok (.getfield 113, 3) := by decide +kernel
theorem dX10_priceOf_79 : decode cX10_priceOf 79 = .ok (.bipush 8, 2) := by decide +kernel
theorem dX10_priceOf_81 : decode cX10_priceOf 81 = .ok (.aload_n 0, 1) := by decide +kernel
theorem dX10_priceOf_82 : decode cX10_priceOf 82 = .ok (.iload_n 2, 1) := by decide +kernel
theorem dX10_priceOf_83 : decode cX10_priceOf 83 = .ok (.invokevirtual 385, 3) := by decide +kernel
theorem dX10_priceOf_86 : decode cX10_priceOf 86 = .ok (.iastore, 1) := by decide +kernel
theorem dX10_priceOf_87 : decode cX10_priceOf 87 = .ok (.aload_n 0, 1) := by decide +kernel
theorem dX10_priceOf_88 : decode cX10_priceOf 88 = .ok (.iconst 2, 1) := by decide +kernel
theorem dX10_priceOf_89 : decode cX10_priceOf 89 = .ok (.aload_n 0, 1) := by decide +kernel
theorem dX10_priceOf_90 : decode cX10_priceOf 90 = .ok (.getfield 113, 3) := by decide +kernel
theorem dX10_priceOf_93 : decode cX10_priceOf 93 = .ok (.iconst 0, 1) := by decide +kernel
theorem dX10_priceOf_94 : decode cX10_priceOf 94 = .ok (.iaload, 1) := by decide +kernel
theorem dX10_priceOf_95 : decode cX10_priceOf 95 = .ok (.invokevirtual 366, 3) := by decide +kernel
theorem dX10_priceOf_98 : decode cX10_priceOf 98 = .ok (.iconst 0, 1) := by decide +kernel
theorem dX10_priceOf_99 : decode cX10_priceOf 99 = .ok (.sipush 999, 3) := by decide +kernel
theorem dX10_priceOf_102 : decode cX10_priceOf 102 = .ok (.invokestatic 369, 3) := by decide +kernel
theorem dX10_priceOf_105 : decode cX10_priceOf 105 = .ok (.ireturn, 1) := by decide +kernel
theorem dX10_movesAt_0 : decode cX10_movesAt 0 = .ok (.aload_n 0, 1) := by decide +kernel
theorem dX10_movesAt_1 : decode cX10_movesAt 1 = .ok (.iload_n 1, 1) := by decide +kernel
theorem dX10_movesAt_2 : decode cX10_movesAt 2 = .ok (.invokevirtual 360, 3) := by decide +kernel
theorem dX10_movesAt_5 : decode cX10_movesAt 5 = .ok (.ifCond .eq 5, 3) := by decide +kernel
theorem dX10_movesAt_8 : decode cX10_movesAt 8 = .ok (.iconst 0, 1) := by decide +kernel
theorem dX10_movesAt_9 : decode cX10_movesAt 9 = .ok (.ireturn, 1) := by decide +kernel
theorem dX10_movesAt_10 : decode cX10_movesAt 10 = .ok (.aload_n 0, 1) := by decide +kernel
theorem dX10_movesAt_11 : decode cX10_movesAt 11 = .ok (.aload_n 0, 1) := by decide +kernel
theorem dX10_movesAt_12 : decode cX10_movesAt 12 = .ok (.iload_n 1, 1) := by decide +kernel
theorem dX10_movesAt_13 : decode cX10_movesAt 13 = .ok (.invokevirtual 388, 3) := by decide +kernel
theorem dX10_movesAt_16 : decode cX10_movesAt 16 = .ok (.iload_n 1, 1) := by decide +kernel
theorem dX10_movesAt_17 : decode cX10_movesAt 17 = .ok (.iload_n 2, 1) := by decide +kernel
theorem dX10_movesAt_18 : decode cX10_movesAt 18 = .ok (.iload_n 3, 1) := by decide +kernel
theorem dX10_movesAt_19 : decode cX10_movesAt 19 = .ok (.invokevirtual 391, 3) := by decide +kernel
theorem dX10_movesAt_22 : decode cX10_movesAt 22 = .ok (.aload_n 0, 1) := by decide +kernel
theorem dX10_movesAt_23 : decode cX10_movesAt 23 = .ok (.iload_n 1, 1) := by decide +kernel
theorem dX10_movesAt_24 : decode cX10_movesAt 24 = .ok (.iload_n 2, 1) := by decide +kernel
theorem dX10_movesAt_25 : decode cX10_movesAt 25 = .ok (.iload_n 3, 1) := by decide +kernel
theorem dX10_movesAt_26 : decode cX10_movesAt 26 = .ok (.invokevirtual 395, 3) := by decide +kernel
theorem dX10_movesAt_29 : decode cX10_movesAt 29 = .ok (.istore 4, 2) := by decide +kernel
theorem dX10_movesAt_31 : decode cX10_movesAt 31 = .ok (.aload_n 0, 1) := by decide +kernel
theorem dX10_movesAt_32 : decode cX10_movesAt 32 = .ok (.getfield 372, 3) := by decide +kernel
theorem dX10_movesAt_35 : decode cX10_movesAt 35 = .ok (.iconst 0, 1) := by decide +kernel
theorem dX10_movesAt_36 : decode cX10_movesAt 36 = .ok (.invokestatic 348, 3) := by decide +kernel
theorem dX10_movesAt_39 : decode cX10_movesAt 39 = .ok (.iload 4, 2) := by decide +kernel
theorem dX10_movesAt_41 : decode cX10_movesAt 41 = .ok (.if_icmp .le 7, 3) := by decide +kernel
theorem dX10_movesAt_44 : decode cX10_movesAt 44 = .ok (.iconst 1, 1) := by decide +kernel
theorem dX10_movesAt_45 : decode cX10_movesAt 45 = .ok (.goto 4, 3) := by decide +kernel
theorem dX10_movesAt_48 : decode cX10_movesAt 48 = .ok (.iconst 0, 1) := by decide +kernel
theorem dX10_movesAt_49 : decode cX10_movesAt 49 = .ok (.aload_n 0, 1) := by decide +kernel
theorem dX10_movesAt_50 : decode cX10_movesAt 50 = .ok (.getfield 375, 3) := by decide +kernel
theorem dX10_movesAt_53 : decode cX10_movesAt 53 = .ok (.iconst 0, 1) := by decide +kernel
theorem dX10_movesAt_54 : decode cX10_movesAt 54 = .ok (.invokestatic 348, 3) := by decide +kernel
theorem dX10_movesAt_57 : decode cX10_movesAt 57 = .ok (.iload 4, 2) := by decide +kernel
theorem dX10_movesAt_59 : decode cX10_movesAt 59 = .ok (.if_icmp .le 7, 3) := by decide +kernel
theorem dX10_movesAt_62 : decode cX10_movesAt 62 = .ok (.iconst 2, 1) := by decide +kernel
theorem dX10_movesAt_63 : decode cX10_movesAt 63 = .ok (.goto 4, 3) := by decide +kernel
theorem dX10_movesAt_66 : decode cX10_movesAt 66 = .ok (.iconst 0, 1) := by decide +kernel
theorem dX10_movesAt_67 : decode cX10_movesAt 67 = .ok (.iadd, 1) := by decide +kernel
theorem dX10_movesAt_68 : decode cX10_movesAt 68 = .ok (.ireturn, 1) := by decide +kernel
theorem dX10_movesNow_0 : decode cX10_movesNow 0 = .ok (.aload_n 0, 1) := by decide +kernel
theorem dX10_movesNow_1 : decode cX10_movesNow 1 = .ok (.iload_n 1, 1) := by decide +kernel
theorem dX10_movesNow_2 : decode cX10_movesNow 2 = .ok (.aload_n 0, 1) := by decide +kernel
theorem dX10_movesNow_3 : decode cX10_movesNow 3 = .ok (.getfield 122, 3) := by decide +kernel
theorem dX10_movesNow_6 : decode cX10_movesNow 6 = .ok (.bipush 20, 2) := by decide +kernel
theorem dX10_movesNow_8 : decode cX10_movesNow 8 = .ok (.iload_n 1, 1) := by decide +kernel
theorem dX10_movesNow_9 : decode cX10_movesNow 9 = .ok (.iadd, 1) := by decide +kernel
theorem dX10_movesNow_10 : decode cX10_movesNow 10 = .ok (.iaload, 1) := by decide +kernel
theorem dX10_movesNow_11 : decode cX10_movesNow 11 = .ok (.aload_n 0, 1) := by decide +kernel
theorem dX10_movesNow_12 : decode cX10_movesNow 12 = .ok (.getfield 122, 3) := by decide +kernel
theorem dX10_movesNow_15 : decode cX10_movesNow 15 = .ok (.bipush 26, 2) := by decide +kernel
theorem dX10_movesNow_17 : decode cX10_movesNow 17 = .ok (.iload_n 1, 1) := by decide +kernel
theorem dX10_movesNow_18 : decode cX10_movesNow 18 = .ok (.iadd, 1) := by decide +kernel
theorem dX10_movesNow_19 : decode cX10_movesNow 19 = .ok (.iaload, 1) := by decide +kernel
theorem dX10_movesNow_20 : decode cX10_movesNow 20 = .ok (.invokevirtual 398, 3) := by decide +kernel
theorem dX10_movesNow_23 : decode cX10_movesNow 23 = .ok (.ireturn, 1) := by decide +kernel
theorem dX10_looksAt_0 : decode cX10_looksAt 0 = .ok (.aload_n 0, 1) := by decide +kernel
theorem dX10_looksAt_1 : decode cX10_looksAt 1 = .ok (.iload_n 1, 1) := by decide +kernel
theorem dX10_looksAt_2 : decode cX10_looksAt 2 = .ok (.invokevirtual 401, 3) := by decide +kernel
theorem dX10_looksAt_5 : decode cX10_looksAt 5 = .ok (.istore_n 2, 1) := by decide +kernel
theorem dX10_looksAt_6 : decode cX10_looksAt 6 = .ok (.aload_n 0, 1) := by decide +kernel
theorem dX10_looksAt_7 : decode cX10_looksAt 7 = .ok (.getfield 125, 3) := by decide +kernel
theorem dX10_looksAt_10 : decode cX10_looksAt 10 = .ok (.iload_n 1, 1) := by decide +kernel
theorem dX10_looksAt_11 : decode cX10_looksAt 11 = .ok (.iload_n 2, 1) := by decide +kernel
theorem dX10_looksAt_12 : decode cX10_looksAt 12 = .ok (.ifCond .le 7, 3) := by decide +kernel
theorem dX10_looksAt_15 : decode cX10_looksAt 15 = .ok (.iconst 1, 1) := by decide +kernel
theorem dX10_looksAt_16 : decode cX10_looksAt 16 = .ok (.goto 4, 3) := by decide +kernel
theorem dX10_looksAt_19 : decode cX10_looksAt 19 = .ok (.iconst 0, 1) := by decide +kernel
theorem dX10_looksAt_20 : decode cX10_looksAt 20 = .ok (.bastore, 1) := by decide +kernel
theorem dX10_looksAt_21 : decode cX10_looksAt 21 = .ok (.aload_n 0, 1) := by decide +kernel
theorem dX10_looksAt_22 : decode cX10_looksAt 22 = .ok (.getfield 128, 3) := by decide +kernel
theorem dX10_looksAt_25 : decode cX10_looksAt 25 = .ok (.iload_n 1, 1) := by decide +kernel
theorem dX10_looksAt_26 : decode cX10_looksAt 26 = .ok (.aload_n 0, 1) := by decide +kernel
theorem dX10_looksAt_27 : decode cX10_looksAt 27 = .ok (.getfield 122, 3) := by decide +kernel
theorem dX10_looksAt_30 : decode cX10_looksAt 30 = .ok (.bipush 20, 2) := by decide +kernel
theorem dX10_looksAt_32 : decode cX10_looksAt 32 = .ok (.iload_n 1, 1) := by decide +kernel
theorem dX10_looksAt_33 : decode cX10_looksAt 33 = .ok (.iadd, 1) := by decide +kernel
theorem dX10_looksAt_34 : decode cX10_looksAt 34 = .ok (.iaload, 1) := by decide +kernel
theorem dX10_looksAt_35 : decode cX10_looksAt 35 = .ok (.iload_n 2, 1) := by decide +kernel
theorem dX10_looksAt_36 : decode cX10_looksAt 36 = .ok (.iconst 1, 1) := by decide +kernel
theorem dX10_looksAt_37 : decode cX10_looksAt 37 = .ok (.iand, 1) := by decide +kernel
theorem dX10_looksAt_38 : decode cX10_looksAt 38 = .ok (.iconst 1, 1) := by decide +kernel
theorem dX10_looksAt_39 : decode cX10_looksAt 39 = .ok (.if_icmp .ne 13, 3) := by decide +kernel
theorem dX10_looksAt_42 : decode cX10_looksAt 42 = .ok (.aload_n 0, 1) := by decide +kernel
theorem dX10_looksAt_43 : decode cX10_looksAt 43 = .ok (.getfield 372, 3) := by decide +kernel
theorem dX10_looksAt_46 : decode cX10_looksAt 46 = .ok (.invokestatic 382, 3) := by decide +kernel
theorem dX10_looksAt_49 : decode cX10_looksAt 49 = .ok (.goto 4, 3) := by decide +kernel
theorem dX10_looksAt_52 : decode cX10_looksAt 52 = .ok (.iconst 0, 1) := by decide +kernel
theorem dX10_looksAt_53 : decode cX10_looksAt 53 = .ok (.iadd, 1) := by decide +kernel
theorem dX10_looksAt_54 : decode cX10_looksAt 54 = .ok (.iastore, 1) := by decide +kernel
theorem dX10_looksAt_55 : decode cX10_looksAt 55 = .ok (.aload_n 0, 1) := by decide +kernel
theorem dX10_looksAt_56 : decode cX10_looksAt 56 = .ok (.getfield 131, 3) := by decide +kernel
theorem dX10_looksAt_59 : decode cX10_looksAt 59 = .ok (.iload_n 1, 1) := by decide +kernel
theorem dX10_looksAt_60 : decode cX10_looksAt 60 = .ok (.aload_n 0, 1) := by decide +kernel
theorem dX10_looksAt_61 : decode cX10_looksAt 61 = .ok (.getfield 122, 3) := by decide +kernel
theorem dX10_looksAt_64 : decode cX10_looksAt 64 = .ok (.bipush 26, 2) := by decide +kernel
theorem dX10_looksAt_66 : decode cX10_looksAt 66 = .ok (.iload_n 1, 1) := by decide +kernel
theorem dX10_looksAt_67 : decode cX10_looksAt 67 = .ok (.iadd, 1) := by decide +kernel
theorem dX10_looksAt_68 : decode cX10_looksAt 68 = .ok (.iaload, 1) := by decide +kernel
theorem dX10_looksAt_69 : decode cX10_looksAt 69 = .ok (.iload_n 2, 1) := by decide +kernel
theorem dX10_looksAt_70 : decode cX10_looksAt 70 = .ok (.iconst 2, 1) := by decide +kernel
theorem dX10_looksAt_71 : decode cX10_looksAt 71 = .ok (.iand, 1) := by decide +kernel
theorem dX10_looksAt_72 : decode cX10_looksAt 72 = .ok (.iconst 2, 1) := by decide +kernel
theorem dX10_looksAt_73 : decode cX10_looksAt 73 = .ok (.if_icmp .ne 13, 3) := by decide +kernel
theorem dX10_looksAt_76 : decode cX10_looksAt 76 = .ok (.aload_n 0, 1) := by decide +kernel
theorem dX10_looksAt_77 : decode cX10_looksAt 77 = .ok (.getfield 375, 3) := by decide +kernel
theorem dX10_looksAt_80 : decode cX10_looksAt 80 = .ok (.invokestatic 382, 3) := by decide +kernel
theorem dX10_looksAt_83 : decode cX10_looksAt 83 = .ok (.goto 4, 3) := by decide +kernel
theorem dX10_looksAt_86 : decode cX10_looksAt 86 = .ok (.iconst 0, 1) := by decide +kernel
theorem dX10_looksAt_87 : decode cX10_looksAt 87 = .ok (.iadd, 1) := by decide +kernel
theorem dX10_looksAt_88 : decode cX10_looksAt 88 = .ok (.iastore, 1) := by decide +kernel
theorem dX10_looksAt_89 : decode cX10_looksAt 89 = .ok (.aload_n 0, 1) := by decide +kernel
theorem dX10_looksAt_90 : decode cX10_looksAt 90 = .ok (.getfield 134, 3) := by decide +kernel
theorem dX10_looksAt_93 : decode cX10_looksAt 93 = .ok (.iload_n 1, 1) := by decide +kernel
theorem dX10_looksAt_94 : decode cX10_looksAt 94 = .ok (.aload_n 0, 1) := by decide +kernel
theorem dX10_looksAt_95 : decode cX10_looksAt 95 = .ok (.getfield 332, 3) := by decide +kernel
theorem dX10_looksAt_98 : decode cX10_looksAt 98 = .ok (.ifCond .ne 31, 3) := by decide +kernel
theorem dX10_looksAt_101 : decode cX10_looksAt 101 = .ok (.aload_n 0, 1) := by decide +kernel
theorem dX10_looksAt_102 : decode cX10_looksAt 102 = .ok (.bipush 16, 2) := by decide +kernel
theorem dX10_looksAt_104 : decode cX10_looksAt 104 = .ok (.aload_n 0, 1) := by decide +kernel
theorem dX10_looksAt_105 : decode cX10_looksAt 105 = .ok (.getfield 122, 3) := by decide +kernel
theorem dX10_looksAt_108 : decode cX10_looksAt 108 = .ok (.bipush 54, 2) := by decide +kernel
theorem dX10_looksAt_110 : decode cX10_looksAt 110 = .ok (.iaload, 1) := by decide +kernel
theorem dX10_looksAt_111 : decode cX10_looksAt 111 = .ok (.imul, 1) := by decide +kernel
theorem dX10_looksAt_112 : decode cX10_looksAt 112 = .ok (.iload_n 1, 1) := by decide +kernel
theorem dX10_looksAt_113 : decode cX10_looksAt 113 = .ok (.iadd, 1) := by decide +kernel
theorem dX10_looksAt_114 : decode cX10_looksAt 114 = .ok (.invokevirtual 404, 3) := by decide +kernel
theorem dX10_looksAt_117 : decode cX10_looksAt 117 = .ok (.aload_n 0, 1) := by decide +kernel
theorem dX10_looksAt_118 : decode cX10_looksAt 118 = .ok (.iload_n 1, 1) := by decide +kernel
theorem dX10_looksAt_119 : decode cX10_looksAt 119 = .ok (.invokevirtual 407, 3) := by decide +kernel
theorem dX10_looksAt_122 : decode cX10_looksAt 122 = .ok (.if_icmp .ge 7, 3) := by decide +kernel
theorem dX10_looksAt_125 : decode cX10_looksAt 125 = .ok (.iconst 1, 1) := by decide +kernel
theorem dX10_looksAt_126 : decode cX10_looksAt 126 = .ok (.goto 4, 3) := by decide +kernel
theorem dX10_looksAt_129 : decode cX10_looksAt 129 = .ok (.iconst 0, 1) := by decide +kernel
theorem dX10_looksAt_130 : decode cX10_looksAt 130 = .ok (.bastore, 1) := by decide +kernel
theorem dX10_looksAt_131 : decode cX10_looksAt 131 = .ok (.return_, 1) := by decide +kernel
theorem dX10_swimsOne_0 : decode cX10_swimsOne 0 = .ok (.iconst 0, 1) := by decide +kernel
theorem dX10_swimsOne_1 : decode cX10_swimsOne 1 = .ok (.istore_n 2, 1) := by decide +kernel
theorem dX10_swimsOne_2 : decode cX10_swimsOne 2 = .ok (.iload_n 2, 1) := by decide +kernel
theorem dX10_swimsOne_3 : decode cX10_swimsOne 3 = .ok (.bipush 8, 2) := by decide +kernel
theorem dX10_swimsOne_5 : decode cX10_swimsOne 5 = .ok (.if_icmp .ge 94, 3) := by decide +kernel
theorem dX10_swimsOne_8 : decode cX10_swimsOne 8 = .ok (.aload_n 0, 1) := by decide +kernel
theorem dX10_swimsOne_9 : decode cX10_swimsOne 9 = .ok (.getfield 122, 3) := by decide +kernel
theorem dX10_swimsOne_12 : decode cX10_swimsOne 12 = .ok (.iload_n 2, 1) := by decide +kernel
theorem dX10_swimsOne_13 : decode cX10_swimsOne 13 = .ok (.iload_n 1, 1) := by decide +kernel
theorem dX10_swimsOne_14 : decode cX10_swimsOne 14 = .ok (.iadd, 1) := by decide +kernel
theorem dX10_swimsOne_15 : decode cX10_swimsOne 15 = .ok (.iaload, 1) := by decide +kernel
theorem dX10_swimsOne_16 : decode cX10_swimsOne 16 = .ok (.aload_n 0, 1) := by decide +kernel
theorem dX10_swimsOne_17 : decode cX10_swimsOne 17 = .ok (.getfield 122, 3) := by decide +kernel
theorem dX10_swimsOne_20 : decode cX10_swimsOne 20 = .ok (.bipush 8, 2) := by decide +kernel
theorem dX10_swimsOne_22 : decode cX10_swimsOne 22 = .ok (.iload_n 2, 1) := by decide +kernel
theorem dX10_swimsOne_23 : decode cX10_swimsOne 23 = .ok (.iadd, 1) := by decide +kernel
theorem dX10_swimsOne_24 : decode cX10_swimsOne 24 = .ok (.iload_n 1, 1) := by decide +kernel
theorem dX10_swimsOne_25 : decode cX10_swimsOne 25 = .ok (.iadd, 1) := by decide +kernel
theorem dX10_swimsOne_26 : decode cX10_swimsOne 26 = .ok (.iaload, 1) := by decide +kernel
theorem dX10_swimsOne_27 : decode cX10_swimsOne 27 = .ok (.iadd, 1) := by decide +kernel
theorem dX10_swimsOne_28 : decode cX10_swimsOne 28 = .ok (.istore_n 3, 1) := by decide +kernel
theorem dX10_swimsOne_29 : decode cX10_swimsOne 29 = .ok (.iload_n 3, 1) := by decide +kernel
theorem dX10_swimsOne_30 : decode cX10_swimsOne 30 = .ok (.ifCond .lt 9, 3) := by decide +kernel
theorem dX10_swimsOne_33 : decode cX10_swimsOne 33 = .ok (.iload_n 3, 1) := by decide +kernel
theorem dX10_swimsOne_34 : decode cX10_swimsOne 34 = .ok (.bipush 9, 2) := by decide +kernel
theorem dX10_swimsOne_36 : decode cX10_swimsOne 36 = .ok (.if_icmp .le 26, 3) := by decide +kernel
theorem dX10_swimsOne_39 : decode cX10_swimsOne 39 = .ok (.aload_n 0, 1) := by decide +kernel
theorem dX10_swimsOne_40 : decode cX10_swimsOne 40 = .ok (.getfield 122, 3) := by decide +kernel
theorem dX10_swimsOne_43 : decode cX10_swimsOne 43 = .ok (.bipush 8, 2) := by decide +kernel
theorem dX10_swimsOne_45 : decode cX10_swimsOne 45 = .ok (.iload_n 2, 1) := by decide +kernel
theorem dX10_swimsOne_46 : decode cX10_swimsOne 46 = .ok (.iadd, 1) := by decide +kernel
theorem dX10_swimsOne_47 : decode cX10_swimsOne 47 = .ok (.iload_n 1, 1) := by decide +kernel
theorem dX10_swimsOne_48 : decode cX10_swimsOne 48 = .ok (.iadd, 1) := by decide +kernel
theorem dX10_swimsOne_49 : decode cX10_swimsOne 49 = .ok (.aload_n 0, 1) := by decide +kernel
theorem dX10_swimsOne_50 : decode cX10_swimsOne 50 = .ok (.getfield 122, 3) := by decide +kernel
theorem dX10_swimsOne_53 : decode cX10_swimsOne 53 = .ok (.bipush 8, 2) := by decide +kernel
theorem dX10_swimsOne_55 : decode cX10_swimsOne 55 = .ok (.iload_n 2, 1) := by decide +kernel
theorem dX10_swimsOne_56 : decode cX10_swimsOne 56 = .ok (.iadd, 1) := by decide +kernel
theorem dX10_swimsOne_57 : decode cX10_swimsOne 57 = .ok (.iload_n 1, 1) := by decide +kernel
theorem dX10_swimsOne_58 : decode cX10_swimsOne 58 = .ok (.iadd, 1) := by decide +kernel
theorem dX10_swimsOne_59 : decode cX10_swimsOne 59 = .ok (.iaload, 1) := by decide +kernel
theorem dX10_swimsOne_60 : decode cX10_swimsOne 60 = .ok (.ineg, 1) := by decide +kernel
theorem dX10_swimsOne_61 : decode cX10_swimsOne 61 = .ok (.iastore, 1) := by decide +kernel
theorem dX10_swimsOne_62 : decode cX10_swimsOne 62 = .ok (.aload_n 0, 1) := by decide +kernel
theorem dX10_swimsOne_63 : decode cX10_swimsOne 63 = .ok (.getfield 122, 3) := by decide +kernel
theorem dX10_swimsOne_66 : decode cX10_swimsOne 66 = .ok (.iload_n 2, 1) := by decide +kernel
theorem dX10_swimsOne_67 : decode cX10_swimsOne 67 = .ok (.iload_n 1, 1) := by decide +kernel
theorem dX10_swimsOne_68 : decode cX10_swimsOne 68 = .ok (.iadd, 1) := by decide +kernel
theorem dX10_swimsOne_69 : decode cX10_swimsOne 69 = .ok (.iload_n 3, 1) := by decide +kernel
theorem dX10_swimsOne_70 : decode cX10_swimsOne 70 = .ok (.ifCond .ge 8, 3) := by decide +kernel
theorem dX10_swimsOne_73 : decode cX10_swimsOne 73 = .ok (.iload_n 3, 1) := by decide +kernel
theorem dX10_swimsOne_74 : decode cX10_swimsOne 74 = .ok (.ineg, 1) := by decide +kernel
theorem dX10_swimsOne_75 : decode cX10_swimsOne 75 = .ok (.goto 17, 3) := by decide +kernel
theorem dX10_swimsOne_78 : decode cX10_swimsOne 78 = .ok (.iload_n 3, 1) := by decide +kernel
theorem dX10_swimsOne_79 : decode cX10_swimsOne 79 = .ok (.bipush 9, 2) := by decide +kernel
theorem dX10_swimsOne_81 : decode cX10_swimsOne 81 = .ok (.if_icmp .le 10, 3) := by decide +kernel
theorem dX10_swimsOne_84 : decode cX10_swimsOne 84 = .ok (.bipush 18, 2) := by decide +kernel
theorem dX10_swimsOne_86 : decode cX10_swimsOne 86 = .ok (.iload_n 3, 1) := by decide +kernel
theorem dX10_swimsOne_87 : decode cX10_swimsOne 87 = .ok (.isub, 1) := by decide +kernel
theorem dX10_swimsOne_88 : decode cX10_swimsOne 88 = .ok (.goto 4, 3) := by decide +kernel
theorem dX10_swimsOne_91 : decode cX10_swimsOne 91 = .ok (.iload_n 3, 1) := by decide +kernel
theorem dX10_swimsOne_92 : decode cX10_swimsOne 92 = .ok (.iastore, 1) := by decide +kernel
theorem dX10_swimsOne_93 : decode cX10_swimsOne 93 = .ok (.iinc 2 4, 3) := by decide +kernel
theorem dX10_swimsOne_96 : decode cX10_swimsOne 96 = .ok (.goto (-94), 3) := by decide +kernel
theorem dX10_swimsOne_99 : decode cX10_swimsOne 99 = .ok (.return_, 1) := by decide +kernel
theorem dX10_monthGoes_0 : decode cX10_monthGoes 0 = .ok (.iconst 0, 1) := by decide +kernel
theorem dX10_monthGoes_1 : decode cX10_monthGoes 1 = .ok (.istore_n 1, 1) := by decide +kernel
theorem dX10_monthGoes_2 : decode cX10_monthGoes 2 = .ok (.iload_n 1, 1) := by decide +kernel
theorem dX10_monthGoes_3 : decode cX10_monthGoes 3 = .ok (.aload_n 0, 1) := by decide +kernel
theorem dX10_monthGoes_4 : decode cX10_monthGoes 4 = .ok (.getfield 52, 3) := by decide +kernel
theorem dX10_monthGoes_7 : decode cX10_monthGoes 7 = .ok (.aload_n 0, 1) := by decide +kernel
theorem dX10_monthGoes_8 : decode cX10_monthGoes 8 = .ok (.getfield 239, 3) := by decide +kernel
theorem dX10_monthGoes_11 : decode cX10_monthGoes 11 = .ok (.iaload, 1) := by decide +kernel
theorem dX10_monthGoes_12 : decode cX10_monthGoes 12 = .ok (.if_icmp .ge 14, 3) := by decide +kernel
theorem dX10_monthGoes_15 : decode cX10_monthGoes 15 = .ok (.aload_n 0, 1) := by decide +kernel
theorem dX10_monthGoes_16 : decode cX10_monthGoes 16 = .ok (.iload_n 1, 1) := by decide +kernel
theorem dX10_monthGoes_17 : decode cX10_monthGoes 17 = .ok (.invokevirtual 410, 3) := by decide +kernel
theorem dX10_monthGoes_20 : decode cX10_monthGoes 20 = .ok (.iinc 1 1, 3) := by decide +kernel
theorem dX10_monthGoes_23 : decode cX10_monthGoes 23 = .ok (.goto (-21), 3) := by decide +kernel
theorem dX10_monthGoes_26 : decode cX10_monthGoes 26 = .ok (.iconst 0, 1) := by decide +kernel
theorem dX10_monthGoes_27 : decode cX10_monthGoes 27 = .ok (.istore_n 1, 1) := by decide +kernel
theorem dX10_monthGoes_28 : decode cX10_monthGoes 28 = .ok (.iload_n 1, 1) := by decide +kernel
theorem dX10_monthGoes_29 : decode cX10_monthGoes 29 = .ok (.aload_n 0, 1) := by decide +kernel
theorem dX10_monthGoes_30 : decode cX10_monthGoes 30 = .ok (.getfield 52, 3) := by decide +kernel
theorem dX10_monthGoes_33 : decode cX10_monthGoes 33 = .ok (.aload_n 0, 1) := by decide +kernel
theorem dX10_monthGoes_34 : decode cX10_monthGoes 34 = .ok (.getfield 239, 3) := by decide +kernel
theorem dX10_monthGoes_37 : decode cX10_monthGoes 37 = .ok (.iaload, 1) := by decide +kernel
theorem dX10_monthGoes_38 : decode cX10_monthGoes 38 = .ok (.if_icmp .ge 102, 3) := by decide +kernel
theorem dX10_monthGoes_41 : decode cX10_monthGoes 41 = .ok (.aload_n 0, 1) := by decide +kernel
theorem dX10_monthGoes_42 : decode cX10_monthGoes 42 = .ok (.iload_n 1, 1) := by decide +kernel
theorem dX10_monthGoes_43 : decode cX10_monthGoes 43 = .ok (.invokevirtual 360, 3) := by decide +kernel
theorem dX10_monthGoes_46 : decode cX10_monthGoes 46 = .ok (.ifCond .eq 6, 3) := by decide +kernel
theorem dX10_monthGoes_49 : decode cX10_monthGoes 49 = .ok (.goto 85, 3) := by decide +kernel
theorem dX10_monthGoes_52 : decode cX10_monthGoes 52 = .ok (.aload_n 0, 1) := by decide +kernel
theorem dX10_monthGoes_53 : decode cX10_monthGoes 53 = .ok (.getfield 122, 3) := by decide +kernel
theorem dX10_monthGoes_56 : decode cX10_monthGoes 56 = .ok (.bipush 20, 2) := by decide +kernel
theorem dX10_monthGoes_58 : decode cX10_monthGoes 58 = .ok (.iload_n 1, 1) := by decide +kernel
theorem dX10_monthGoes_59 : decode cX10_monthGoes 59 = .ok (.iadd, 1) := by decide +kernel
theorem dX10_monthGoes_60 : decode cX10_monthGoes 60 = .ok (.aload_n 0, 1) := by decide +kernel
theorem dX10_monthGoes_61 : decode cX10_monthGoes 61 = .ok (.getfield 128, 3) := by decide +kernel
theorem dX10_monthGoes_64 : decode cX10_monthGoes 64 = .ok (.iload_n 1, 1) := by decide +kernel
theorem dX10_monthGoes_65 : decode cX10_monthGoes 65 = .ok (.iaload, 1) := by decide +kernel
theorem dX10_monthGoes_66 : decode cX10_monthGoes 66 = .ok (.iconst 0, 1) := by decide +kernel
theorem dX10_monthGoes_67 : decode cX10_monthGoes 67 = .ok (.bipush 9, 2) := by decide +kernel
theorem dX10_monthGoes_69 : decode cX10_monthGoes 69 = .ok (.invokestatic 369, 3) := by decide +kernel
theorem dX10_monthGoes_72 : decode cX10_monthGoes 72 = .ok (.iastore, 1) := by decide +kernel
theorem dX10_monthGoes_73 : decode cX10_monthGoes 73 = .ok (.aload_n 0, 1) := by decide +kernel
theorem dX10_monthGoes_74 : decode cX10_monthGoes 74 = .ok (.getfield 122, 3) := by decide +kernel
theorem dX10_monthGoes_77 : decode cX10_monthGoes 77 = .ok (.bipush 26, 2) := by decide +kernel
theorem dX10_monthGoes_79 : decode cX10_monthGoes 79 = .ok (.iload_n 1, 1) := by decide +kernel
theorem dX10_monthGoes_80 : decode cX10_monthGoes 80 = .ok (.iadd, 1) := by decide +kernel
theorem dX10_monthGoes_81 : decode cX10_monthGoes 81 = .ok (.aload_n 0, 1) := by decide +kernel
theorem dX10_monthGoes_82 : decode cX10_monthGoes 82 = .ok (.getfield 131, 3) := by decide +kernel
theorem dX10_monthGoes_85 : decode cX10_monthGoes 85 = .ok (.iload_n 1, 1) := by decide +kernel
theorem dX10_monthGoes_86 : decode cX10_monthGoes 86 = .ok (.iaload, 1) := by decide +kernel
theorem dX10_monthGoes_87 : decode cX10_monthGoes 87 = .ok (.iconst 0, 1) := by decide +kernel
theorem dX10_monthGoes_88 : decode cX10_monthGoes 88 = .ok (.bipush 9, 2) := by decide +kernel
theorem dX10_monthGoes_90 : decode cX10_monthGoes 90 = .ok (.invokestatic 369, 3) := by decide +kernel
theorem dX10_monthGoes_93 : decode cX10_monthGoes 93 = .ok (.iastore, 1) := by decide +kernel
theorem dX10_monthGoes_94 : decode cX10_monthGoes 94 = .ok (.aload_n 0, 1) := by decide +kernel
theorem dX10_monthGoes_95 : decode cX10_monthGoes 95 = .ok (.getfield 122, 3) := by decide +kernel
theorem dX10_monthGoes_98 : decode cX10_monthGoes 98 = .ok (.bipush 26, 2) := by decide +kernel
theorem dX10_monthGoes_100 : decode cX10_monthGoes 100 = .ok (.iload_n 1, 1) := by decide +kernel
theorem dX10_monthGoes_101 : decode cX10_monthGoes 101 = .ok (.iadd, 1) := by decide +kernel
theorem dX10_monthGoes_102 : decode cX10_monthGoes 102 = .ok (.iaload, 1) := by decide +kernel
theorem dX10_monthGoes_103 : decode cX10_monthGoes 103 = .ok (.aload_n 0, 1) := by decide +kernel
theorem dX10_monthGoes_104 : decode cX10_monthGoes 104 = .ok (.getfield 76, 3) := by decide +kernel
theorem dX10_monthGoes_107 : decode cX10_monthGoes 107 = .ok (.aload_n 0, 1) := by decide +kernel
theorem dX10_monthGoes_108 : decode cX10_monthGoes 108 = .ok (.getfield 239, 3) := by decide +kernel
theorem dX10_monthGoes_111 : decode cX10_monthGoes 111 = .ok (.iaload, 1) := by decide +kernel
theorem dX10_monthGoes_112 : decode cX10_monthGoes 112 = .ok (.if_icmp .gt 12, 3) := by decide +kernel
theorem dX10_monthGoes_115 : decode cX10_monthGoes 115 = .ok (.aload_n 0, 1) := by decide +kernel
theorem dX10_monthGoes_116 : decode cX10_monthGoes 116 = .ok (.getfield 134, 3) := by decide +kernel
theorem dX10_monthGoes_119 : decode cX10_monthGoes 119 = .ok (.iload_n 1, 1) := by decide +kernel
theorem dX10_monthGoes_120 : decode cX10_monthGoes 120 = .ok (.baload, 1) := by decide +kernel
theorem dX10_monthGoes_121 : decode cX10_monthGoes 121 = .ok (.ifCond .eq 13, 3) := by decide +kernel
theorem dX10_monthGoes_124 : decode cX10_monthGoes 124 = .ok (.aload_n 0, 1) := by decide +kernel
theorem dX10_monthGoes_125 : decode cX10_monthGoes 125 = .ok (.getfield 122, 3) := by decide +kernel
theorem dX10_monthGoes_128 : decode cX10_monthGoes 128 = .ok (.bipush 32, 2) := by decide +kernel
theorem dX10_monthGoes_130 : decode cX10_monthGoes 130 = .ok (.iload_n 1, 1) := by decide +kernel
theorem dX10_monthGoes_131 : decode cX10_monthGoes 131 = .ok (.iadd, 1) := by decide +kernel
theorem dX10_monthGoes_132 : decode cX10_monthGoes 132 = .ok (.iconst 1, 1) := by decide +kernel
theorem dX10_monthGoes_133 : decode cX10_monthGoes 133 = .ok (.iastore, 1) := by decide +kernel
theorem dX10_monthGoes_134 : decode cX10_monthGoes 134 = .ok (.iinc 1 1, 3) := by decide +kernel
theorem dX10_monthGoes_137 : decode cX10_monthGoes 137 = .ok (.goto (-109), 3) := by decide +kernel
theorem dX10_monthGoes_140 : decode cX10_monthGoes 140 = .ok (.iconst 0, 1) := by decide +kernel
theorem dX10_monthGoes_141 : decode cX10_monthGoes 141 = .ok (.istore_n 1, 1) := by decide +kernel
theorem dX10_monthGoes_142 : decode cX10_monthGoes 142 = .ok (.iload_n 1, 1) := by decide +kernel
theorem dX10_monthGoes_143 : decode cX10_monthGoes 143 = .ok (.aload_n 0, 1) := by decide +kernel
theorem dX10_monthGoes_144 : decode cX10_monthGoes 144 = .ok (.getfield 46, 3) := by decide +kernel
theorem dX10_monthGoes_147 : decode cX10_monthGoes 147 = .ok (.aload_n 0, 1) := by decide +kernel
theorem dX10_monthGoes_148 : decode cX10_monthGoes 148 = .ok (.getfield 239, 3) := by decide +kernel
theorem dX10_monthGoes_151 : decode cX10_monthGoes 151 = .ok (.iaload, 1) := by decide +kernel
theorem dX10_monthGoes_152 : decode cX10_monthGoes 152 = .ok (.if_icmp .ge 26, 3) := by decide +kernel
theorem dX10_monthGoes_155 : decode cX10_monthGoes 155 = .ok (.aload_n 0, 1) := by decide +kernel
theorem dX10_monthGoes_156 : decode cX10_monthGoes 156 = .ok (.getfield 122, 3) := by decide +kernel
theorem dX10_monthGoes_159 : decode cX10_monthGoes 159 = .ok (.bipush 16, 2) := by decide +kernel
theorem dX10_monthGoes_161 : decode cX10_monthGoes 161 = .ok (.iload_n 1, 1) := by decide +kernel
theorem dX10_monthGoes_162 : decode cX10_monthGoes 162 = .ok (.iadd, 1) := by decide +kernel
theorem dX10_monthGoes_163 : decode cX10_monthGoes 163 = .ok (.iaload, 1) := by decide +kernel
theorem dX10_monthGoes_164 : decode cX10_monthGoes 164 = .ok (.ifCond .ne 8, 3) := by decide +kernel
theorem dX10_monthGoes_167 : decode cX10_monthGoes 167 = .ok (.aload_n 0, 1) := by decide +kernel
theorem dX10_monthGoes_168 : decode cX10_monthGoes 168 = .ok (.iload_n 1, 1) := by decide +kernel
theorem dX10_monthGoes_169 : decode cX10_monthGoes 169 = .ok (.invokevirtual 413, 3) := by decide +kernel
theorem dX10_monthGoes_172 : decode cX10_monthGoes 172 = .ok (.iinc 1 1, 3) := by decide +kernel
theorem dX10_monthGoes_175 : decode cX10_monthGoes 175 = .ok (.goto (-33), 3) := by decide +kernel
theorem dX10_monthGoes_178 : decode cX10_monthGoes 178 = .ok (.aload_n 0, 1) := by decide +kernel
theorem dX10_monthGoes_179 : decode cX10_monthGoes 179 = .ok (.getfield 122, 3) := by decide +kernel
theorem dX10_monthGoes_182 : decode cX10_monthGoes 182 = .ok (.bipush 54, 2) := by decide +kernel
theorem dX10_monthGoes_184 : decode cX10_monthGoes 184 = .ok (.dup2, 1) := by decide +kernel
theorem dX10_monthGoes_185 : decode cX10_monthGoes 185 = .ok (.iaload, 1) := by decide +kernel
theorem dX10_monthGoes_186 : decode cX10_monthGoes 186 = .ok (.iconst 1, 1) := by decide +kernel
theorem dX10_monthGoes_187 : decode cX10_monthGoes 187 = .ok (.iadd, 1) := by decide +kernel
theorem dX10_monthGoes_188 : decode cX10_monthGoes 188 = .ok (.iastore, 1) := by decide +kernel
theorem dX10_monthGoes_189 : decode cX10_monthGoes 189 = .ok (.return_, 1) := by decide +kernel
theorem dX10_goes_0 : decode cX10_goes 0 = .ok (.iconst 0, 1) := by decide +kernel
theorem dX10_goes_1 : decode cX10_goes 1 = .ok (.istore_n 2, 1) := by decide +kernel
theorem dX10_goes_2 : decode cX10_goes 2 = .ok (.iload_n 2, 1) := by decide +kernel
theorem dX10_goes_3 : decode cX10_goes 3 = .ok (.iload_n 1, 1) := by decide +kernel
theorem dX10_goes_4 : decode cX10_goes 4 = .ok (.if_icmp .ge 13, 3) := by decide +kernel
theorem dX10_goes_7 : decode cX10_goes 7 = .ok (.aload_n 0, 1) := by decide +kernel
theorem dX10_goes_8 : decode cX10_goes 8 = .ok (.invokevirtual 416, 3) := by decide +kernel
theorem dX10_goes_11 : decode cX10_goes 11 = .ok (.iinc 2 1, 3) := by decide +kernel
theorem dX10_goes_14 : decode cX10_goes 14 = .ok (.goto (-12), 3) := by decide +kernel
theorem dX10_goes_17 : decode cX10_goes 17 = .ok (.return_, 1) := by decide +kernel
theorem dX10_mermaid_0 : decode cX10_mermaid 0 = .ok (.aload_n 0, 1) := by decide +kernel
theorem dX10_mermaid_1 : decode cX10_mermaid 1 = .ok (.iload_n 1, 1) := by decide +kernel
theorem dX10_mermaid_2 : decode cX10_mermaid 2 = .ok (.invokevirtual 419, 3) := by decide +kernel
theorem dX10_mermaid_5 : decode cX10_mermaid 5 = .ok (.ifCond .eq 12, 3) := by decide +kernel
theorem dX10_mermaid_8 : decode cX10_mermaid 8 = .ok (.iload_n 2, 1) := by decide +kernel
theorem dX10_mermaid_9 : decode cX10_mermaid 9 = .ok (.iconst 0, 1) := by decide +kernel
theorem dX10_mermaid_10 : decode cX10_mermaid 10 = .ok (.iconst 4, 1) := by decide +kernel
theorem dX10_mermaid_11 : decode cX10_mermaid 11 = .ok (.invokestatic 325, 3) := by decide +kernel
theorem dX10_mermaid_14 : decode cX10_mermaid 14 = .ok (.ifCond .ne 6, 3) := by decide +kernel
theorem dX10_mermaid_17 : decode cX10_mermaid 17 = .ok (.bipush (-100), 2) := by decide +kernel
theorem dX10_mermaid_19 : decode cX10_mermaid 19 = .ok (.ireturn, 1) := by decide +kernel
theorem dX10_mermaid_20 : decode cX10_mermaid 20 = .ok (.iload_n 2, 1) := by decide +kernel
theorem dX10_mermaid_21 : decode cX10_mermaid 21 = .ok (.iconst 4, 1) := by decide +kernel
theorem dX10_mermaid_22 : decode cX10_mermaid 22 = .ok (.if_icmp .ne 17, 3) := by decide +kernel
theorem dX10_mermaid_25 : decode cX10_mermaid 25 = .ok (.iconst 1, 1) := by decide +kernel
theorem dX10_mermaid_26 : decode cX10_mermaid 26 = .ok (.aload_n 0, 1) := by decide +kernel
theorem dX10_mermaid_27 : decode cX10_mermaid 27 = .ok (.getfield 119, 3) := by decide +kernel
theorem dX10_mermaid_30 : decode cX10_mermaid 30 = .ok (.bipush 16, 2) := by decide +kernel
theorem dX10_mermaid_32 : decode cX10_mermaid 32 = .ok (.iload_n 1, 1) := by decide +kernel
theorem dX10_mermaid_33 : decode cX10_mermaid 33 = .ok (.iadd, 1) := by decide +kernel
theorem dX10_mermaid_34 : decode cX10_mermaid 34 = .ok (.iaload, 1) := by decide +kernel
theorem dX10_mermaid_35 : decode cX10_mermaid 35 = .ok (.isub, 1) := by decide +kernel
theorem dX10_mermaid_36 : decode cX10_mermaid 36 = .ok (.goto 13, 3) := by decide +kernel
theorem dX10_mermaid_39 : decode cX10_mermaid 39 = .ok (.aload_n 0, 1) := by decide +kernel
theorem dX10_mermaid_40 : decode cX10_mermaid 40 = .ok (.getfield 119, 3) := by decide +kernel
theorem dX10_mermaid_43 : decode cX10_mermaid 43 = .ok (.iconst 4, 1) := by decide +kernel
theorem dX10_mermaid_44 : decode cX10_mermaid 44 = .ok (.iload_n 2, 1) := by decide +kernel
theorem dX10_mermaid_45 : decode cX10_mermaid 45 = .ok (.imul, 1) := by decide +kernel
theorem dX10_mermaid_46 : decode cX10_mermaid 46 = .ok (.iload_n 1, 1) := by decide +kernel
theorem dX10_mermaid_47 : decode cX10_mermaid 47 = .ok (.iadd, 1) := by decide +kernel
theorem dX10_mermaid_48 : decode cX10_mermaid 48 = .ok (.iaload, 1) := by decide +kernel
theorem dX10_mermaid_49 : decode cX10_mermaid 49 = .ok (.ireturn, 1) := by decide +kernel
theorem dX10_person_0 : decode cX10_person 0 = .ok (.aload_n 0, 1) := by decide +kernel
theorem dX10_person_1 : decode cX10_person 1 = .ok (.iload_n 1, 1) := by decide +kernel
theorem dX10_person_2 : decode cX10_person 2 = .ok (.invokevirtual 422, 3) := by decide +kernel
theorem dX10_person_5 : decode cX10_person 5 = .ok (.ifCond .ne 7, 3) := by decide +kernel
theorem dX10_person_8 : decode cX10_person 8 = .ok (.ldc_w 425, 3) := by decide +kernel
theorem dX10_person_11 : decode cX10_person 11 = .ok (.ireturn, 1) := by decide +kernel
theorem dX10_person_12 : decode cX10_person 12 = .ok (.aload_n 0, 1) := by decide +kernel
theorem dX10_person_13 : decode cX10_person 13 = .ok (.invokevirtual 335, 3) := by decide +kernel
theorem dX10_person_16 : decode cX10_person 16 = .ok (.aload_n 0, 1) := by decide +kernel
theorem dX10_person_17 : decode cX10_person 17 = .ok (.getfield 122, 3) := by decide +kernel
theorem dX10_person_20 : decode cX10_person 20 = .ok (.bipush 20, 2) := by decide +kernel
theorem dX10_person_22 : decode cX10_person 22 = .ok (.iload_n 1, 1) := by decide +kernel
theorem dX10_person_23 : decode cX10_person 23 = .ok (.iadd, 1) := by decide +kernel
theorem dX10_person_24 : decode cX10_person 24 = .ok (.iaload, 1) := by decide +kernel
theorem dX10_person_25 : decode cX10_person 25 = .ok (.istore_n 3, 1) := by decide +kernel
theorem dX10_person_26 : decode cX10_person 26 = .ok (.aload_n 0, 1) := by decide +kernel
theorem dX10_person_27 : decode cX10_person 27 = .ok (.getfield 122, 3) := by decide +kernel
theorem dX10_person_30 : decode cX10_person 30 = .ok (.bipush 26, 2) := by decide +kernel
theorem dX10_person_32 : decode cX10_person 32 = .ok (.iload_n 1, 1) := by decide +kernel
theorem dX10_person_33 : decode cX10_person 33 = .ok (.iadd, 1) := by decide +kernel
theorem dX10_person_34 : decode cX10_person 34 = .ok (.iaload, 1) := by decide +kernel
theorem dX10_person_35 : decode cX10_person 35 = .ok (.istore 4, 2) := by decide +kernel
theorem dX10_person_37 : decode cX10_person 37 = .ok (.aload_n 0, 1) := by decide +kernel
theorem dX10_person_38 : decode cX10_person 38 = .ok (.aload_n 0, 1) := by decide +kernel
theorem dX10_person_39 : decode cX10_person 39 = .ok (.iload_n 1, 1) := by decide +kernel
theorem dX10_person_40 : decode cX10_person 40 = .ok (.invokevirtual 388, 3) := by decide +kernel
theorem dX10_person_43 : decode cX10_person 43 = .ok (.iload_n 1, 1) := by decide +kernel
theorem dX10_person_44 : decode cX10_person 44 = .ok (.iload_n 3, 1) := by decide +kernel
theorem dX10_person_45 : decode cX10_person 45 = .ok (.iload 4, 2) := by decide +kernel
theorem dX10_person_47 : decode cX10_person 47 = .ok (.invokevirtual 391, 3) := by decide +kernel
theorem dX10_person_50 : decode cX10_person 50 = .ok (.iload_n 2, 1) := by decide +kernel
theorem dX10_person_51 : decode cX10_person 51 = .ok (.tableswitch 110 0 8 #[49, 51, 54, 69, 79, 84, 89, 98, 104], 49) := by decide +kernel
theorem dX10_person_100 : decode cX10_person 100 = .ok (.iload_n 3, 1) := by decide +kernel
theorem dX10_person_101 : decode cX10_person 101 = .ok (.ireturn, 1) := by decide +kernel
theorem dX10_person_102 : decode cX10_person 102 = .ok (.iload 4, 2) := by decide +kernel
theorem dX10_person_104 : decode cX10_person 104 = .ok (.ireturn, 1) := by decide +kernel
theorem dX10_person_105 : decode cX10_person 105 = .ok (.aload_n 0, 1) := by decide +kernel
theorem dX10_person_106 : decode cX10_person 106 = .ok (.getfield 61, 3) := by decide +kernel
theorem dX10_person_109 : decode cX10_person 109 = .ok (.bipush 6, 2) := by decide +kernel
theorem dX10_person_111 : decode cX10_person 111 = .ok (.aload_n 0, 1) := by decide +kernel
theorem dX10_person_112 : decode cX10_person 112 = .ok (.getfield 239, 3) := by decide +kernel
theorem dX10_person_115 : decode cX10_person 115 = .ok (.imul, 1) := by decide +kernel
theorem dX10_person_116 : decode cX10_person 116 = .ok (.iload_n 1, 1) := by decide +kernel
theorem dX10_person_117 : decode cX10_person 117 = .ok (.iadd, 1) := by decide +kernel
theorem dX10_person_118 : decode cX10_person 118 = .ok (.iaload, 1) := by decide +kernel
theorem dX10_person_119 : decode cX10_person 119 = .ok (.ireturn, 1) := by decide +kernel
theorem dX10_person_120 : decode cX10_person 120 = .ok (.aload_n 0, 1) := by decide +kernel
theorem dX10_person_121 : decode cX10_person 121 = .ok (.getfield 122, 3) := by decide +kernel
theorem dX10_person_124 : decode cX10_person 124 = .ok (.bipush 32, 2) := by decide +kernel
theorem dX10_person_126 : decode cX10_person 126 = .ok (.iload_n 1, 1) := by decide +kernel
theorem dX10_person_127 : decode cX10_person 127 = .ok (.iadd, 1) := by decide +kernel
theorem dX10_person_128 : decode cX10_person 128 = .ok (.iaload, 1) := by decide +kernel
theorem dX10_person_129 : decode cX10_person 129 = .ok (.ireturn, 1) := by decide +kernel
theorem dX10_person_130 : decode cX10_person 130 = .ok (.aload_n 0, 1) := by decide +kernel
theorem dX10_person_131 : decode cX10_person 131 = .ok (.getfield 372, 3) := by decide +kernel
theorem dX10_person_134 : decode cX10_person 134 = .ok (.ireturn, 1) := by decide +kernel
theorem dX10_person_135 : decode cX10_person 135 = .ok (.aload_n 0, 1) := by decide +kernel
theorem dX10_person_136 : decode cX10_person 136 = .ok (.getfield 375, 3) := by decide +kernel
theorem dX10_person_139 : decode cX10_person 139 = .ok (.ireturn, 1) := by decide +kernel
theorem dX10_person_140 : decode cX10_person 140 = .ok (.aload_n 0, 1) := by decide +kernel
theorem dX10_person_141 : decode cX10_person 141 = .ok (.iload_n 1, 1) := by decide +kernel
theorem dX10_person_142 : decode cX10_person 142 = .ok (.iload_n 3, 1) := by decide +kernel
theorem dX10_person_143 : decode cX10_person 143 = .ok (.iload 4, 2) := by decide +kernel
theorem dX10_person_145 : decode cX10_person 145 = .ok (.invokevirtual 395, 3) := by decide +kernel
theorem dX10_person_148 : decode cX10_person 148 = .ok (.ireturn, 1) := by decide +kernel
theorem dX10_person_149 : decode cX10_person 149 = .ok (.aload_n 0, 1) := by decide +kernel
theorem dX10_person_150 : decode cX10_person 150 = .ok (.iload_n 1, 1) := by decide +kernel
theorem dX10_person_151 : decode cX10_person 151 = .ok (.invokevirtual 407, 3) := by decide +kernel
theorem dX10_person_154 : decode cX10_person 154 = .ok (.ireturn, 1) := by decide +kernel
theorem dX10_person_155 : decode cX10_person 155 = .ok (.aload_n 0, 1) := by decide +kernel
theorem dX10_person_156 : decode cX10_person 156 = .ok (.iload_n 1, 1) := by decide +kernel
theorem dX10_person_157 : decode cX10_person 157 = .ok (.invokevirtual 385, 3) := by decide +kernel
theorem dX10_person_160 : decode cX10_person 160 = .ok (.ireturn, 1) := by decide +kernel
theorem dX10_person_161 : decode cX10_person 161 = .ok (.ldc_w 425, 3) := by decide +kernel
theorem dX10_person_164 : decode cX10_person 164 = .ok (.ireturn, 1) := by decide +kernel
theorem dX10_strand_0 : decode cX10_strand 0 = .ok (.aload_n 0, 1) := by decide +kernel
theorem dX10_strand_1 : decode cX10_strand 1 = .ok (.iload_n 1, 1) := by decide +kernel
theorem dX10_strand_2 : decode cX10_strand 2 = .ok (.invokevirtual 426, 3) := by decide +kernel
theorem dX10_strand_5 : decode cX10_strand 5 = .ok (.ifCond .ne 5, 3) := by decide +kernel
theorem dX10_strand_8 : decode cX10_strand 8 = .ok (.iconst (-1), 1) := by decide +kernel
theorem dX10_strand_9 : decode cX10_strand 9 = .ok (.ireturn, 1) := by decide +kernel
theorem dX10_strand_10 : decode cX10_strand 10 = .ok (.aload_n 0, 1) := by decide +kernel
theorem dX10_strand_11 : decode cX10_strand 11 = .ok (.invokevirtual 335, 3) := by decide +kernel
theorem dX10_strand_14 : decode cX10_strand 14 = .ok (.aload_n 0, 1) := by decide +kernel
theorem dX10_strand_15 : decode cX10_strand 15 = .ok (.getfield 122, 3) := by decide +kernel
theorem dX10_strand_18 : decode cX10_strand 18 = .ok (.bipush 38, 2) := by decide +kernel
theorem dX10_strand_20 : decode cX10_strand 20 = .ok (.iload_n 1, 1) := by decide +kernel
theorem dX10_strand_21 : decode cX10_strand 21 = .ok (.iadd, 1) := by decide +kernel
theorem dX10_strand_22 : decode cX10_strand 22 = .ok (.iaload, 1) := by decide +kernel
theorem dX10_strand_23 : decode cX10_strand 23 = .ok (.istore_n 3, 1) := by decide +kernel
theorem dX10_strand_24 : decode cX10_strand 24 = .ok (.iload_n 2, 1) := by decide +kernel
theorem dX10_strand_25 : decode cX10_strand 25 = .ok (.tableswitch 135 0 6 #[43, 49, 51, 66, 76, 101, 107], 43) := by decide +kernel
theorem dX10_strand_68 : decode cX10_strand 68 = .ok (.aload_n 0, 1) := by decide +kernel
theorem dX10_strand_69 : decode cX10_strand 69 = .ok (.iload_n 1, 1) := by decide +kernel
theorem dX10_strand_70 : decode cX10_strand 70 = .ok (.invokevirtual 354, 3) := by decide +kernel
theorem dX10_strand_73 : decode cX10_strand 73 = .ok (.ireturn, 1) := by decide +kernel
theorem dX10_strand_74 : decode cX10_strand 74 = .ok (.iload_n 3, 1) := by decide +kernel
theorem dX10_strand_75 : decode cX10_strand 75 = .ok (.ireturn, 1) := by decide +kernel
theorem dX10_strand_76 : decode cX10_strand 76 = .ok (.aload_n 0, 1) := by decide +kernel
theorem dX10_strand_77 : decode cX10_strand 77 = .ok (.getfield 73, 3) := by decide +kernel
theorem dX10_strand_80 : decode cX10_strand 80 = .ok (.bipush 8, 2) := by decide +kernel
theorem dX10_strand_82 : decode cX10_strand 82 = .ok (.aload_n 0, 1) := by decide +kernel
theorem dX10_strand_83 : decode cX10_strand 83 = .ok (.getfield 239, 3) := by decide +kernel
theorem dX10_strand_86 : decode cX10_strand 86 = .ok (.imul, 1) := by decide +kernel
theorem dX10_strand_87 : decode cX10_strand 87 = .ok (.iload_n 1, 1) := by decide +kernel
theorem dX10_strand_88 : decode cX10_strand 88 = .ok (.iadd, 1) := by decide +kernel
theorem dX10_strand_89 : decode cX10_strand 89 = .ok (.iaload, 1) := by decide +kernel
theorem dX10_strand_90 : decode cX10_strand 90 = .ok (.ireturn, 1) := by decide +kernel
theorem dX10_strand_91 : decode cX10_strand 91 = .ok (.aload_n 0, 1) := by decide +kernel
theorem dX10_strand_92 : decode cX10_strand 92 = .ok (.getfield 122, 3) := by decide +kernel
theorem dX10_strand_95 : decode cX10_strand 95 = .ok (.bipush 46, 2) := by decide +kernel
theorem dX10_strand_97 : decode cX10_strand 97 = .ok (.iload_n 1, 1) := by decide +kernel
theorem dX10_strand_98 : decode cX10_strand 98 = .ok (.iadd, 1) := by decide +kernel
theorem dX10_strand_99 : decode cX10_strand 99 = .ok (.iaload, 1) := by decide +kernel
theorem dX10_strand_100 : decode cX10_strand 100 = .ok (.ireturn, 1) := by decide +kernel
theorem dX10_strand_101 : decode cX10_strand 101 = .ok (.aload_n 0, 1) := by decide +kernel
theorem dX10_strand_102 : decode cX10_strand 102 = .ok (.iload_n 1, 1) := by decide +kernel
theorem dX10_strand_103 : decode cX10_strand 103 = .ok (.iload_n 3, 1) := by decide +kernel
theorem dX10_strand_104 : decode cX10_strand 104 = .ok (.aload_n 0, 1) := by decide +kernel
theorem dX10_strand_105 : decode cX10_strand 105 = .ok (.getfield 122, 3) := by decide +kernel
theorem dX10_strand_108 : decode cX10_strand 108 = .ok (.bipush 20, 2) := by decide +kernel
theorem dX10_strand_110 : decode cX10_strand 110 = .ok (.iload_n 3, 1) := by decide +kernel
theorem dX10_strand_111 : decode cX10_strand 111 = .ok (.iadd, 1) := by decide +kernel
theorem dX10_strand_112 : decode cX10_strand 112 = .ok (.iaload, 1) := by decide +kernel
theorem dX10_strand_113 : decode cX10_strand 113 = .ok (.aload_n 0, 1) := by decide +kernel
theorem dX10_strand_114 : decode cX10_strand 114 = .ok (.getfield 122, 3) := by decide +kernel
theorem dX10_strand_117 : decode cX10_strand 117 = .ok (.bipush 26, 2) := by decide +kernel
theorem dX10_strand_119 : decode cX10_strand 119 = .ok (.iload_n 3, 1) := by decide +kernel
theorem dX10_strand_120 : decode cX10_strand 120 = .ok (.iadd, 1) := by decide +kernel
theorem dX10_strand_121 : decode cX10_strand 121 = .ok (.iaload, 1) := by decide +kernel
theorem dX10_strand_122 : decode cX10_strand 122 = .ok (.invokevirtual 378, 3) := by decide +kernel
theorem dX10_strand_125 : decode cX10_strand 125 = .ok (.ireturn, 1) := by decide +kernel
theorem dX10_strand_126 : decode cX10_strand 126 = .ok (.aload_n 0, 1) := by decide +kernel
theorem dX10_strand_127 : decode cX10_strand 127 = .ok (.iload_n 1, 1) := by decide +kernel
theorem dX10_strand_128 : decode cX10_strand 128 = .ok (.invokevirtual 429, 3) := by decide +kernel
theorem dX10_strand_131 : decode cX10_strand 131 = .ok (.ireturn, 1) := by decide +kernel
theorem dX10_strand_132 : decode cX10_strand 132 = .ok (.aload_n 0, 1) := by decide +kernel
theorem dX10_strand_133 : decode cX10_strand 133 = .ok (.aload_n 0, 1) := by decide +kernel
theorem dX10_strand_134 : decode cX10_strand 134 = .ok (.iload_n 1, 1) := by decide +kernel
theorem dX10_strand_135 : decode cX10_strand 135 = .ok (.invokevirtual 354, 3) := by decide +kernel
theorem dX10_strand_138 : decode cX10_strand 138 = .ok (.aload_n 0, 1) := by decide +kernel
theorem dX10_strand_139 : decode cX10_strand 139 = .ok (.getfield 122, 3) := by decide +kernel
theorem dX10_strand_142 : decode cX10_strand 142 = .ok (.bipush 20, 2) := by decide +kernel
theorem dX10_strand_144 : decode cX10_strand 144 = .ok (.iload_n 3, 1) := by decide +kernel
theorem dX10_strand_145 : decode cX10_strand 145 = .ok (.iadd, 1) := by decide +kernel
theorem dX10_strand_146 : decode cX10_strand 146 = .ok (.iaload, 1) := by decide +kernel
theorem dX10_strand_147 : decode cX10_strand 147 = .ok (.aload_n 0, 1) := by decide +kernel
theorem dX10_strand_148 : decode cX10_strand 148 = .ok (.getfield 122, 3) := by decide +kernel
theorem dX10_strand_151 : decode cX10_strand 151 = .ok (.bipush 26, 2) := by decide +kernel
theorem dX10_strand_153 : decode cX10_strand 153 = .ok (.iload_n 3, 1) := by decide +kernel
theorem dX10_strand_154 : decode cX10_strand 154 = .ok (.iadd, 1) := by decide +kernel
theorem dX10_strand_155 : decode cX10_strand 155 = .ok (.iaload, 1) := by decide +kernel
theorem dX10_strand_156 : decode cX10_strand 156 = .ok (.invokevirtual 357, 3) := by decide +kernel
theorem dX10_strand_159 : decode cX10_strand 159 = .ok (.ireturn, 1) := by decide +kernel
theorem dX10_strand_160 : decode cX10_strand 160 = .ok (.iconst (-1), 1) := by decide +kernel
theorem dX10_strand_161 : decode cX10_strand 161 = .ok (.ireturn, 1) := by decide +kernel
theorem dX10_records_0 : decode cX10_records 0 = .ok (.aload_n 0, 1) := by decide +kernel
theorem dX10_records_1 : decode cX10_records 1 = .ok (.getfield 257, 3) := by decide +kernel
theorem dX10_records_4 : decode cX10_records 4 = .ok (.bipush 40, 2) := by decide +kernel
theorem dX10_records_6 : decode cX10_records 6 = .ok (.if_icmp .ne 43, 3) := by decide +kernel
theorem dX10_records_9 : decode cX10_records 9 = .ok (.iconst 0, 1) := by decide +kernel
theorem dX10_records_10 : decode cX10_records 10 = .ok (.istore_n 1, 1) := by decide +kernel
theorem dX10_records_11 : decode cX10_records 11 = .ok (.iload_n 1, 1) := by decide +kernel
theorem dX10_records_12 : decode cX10_records 12 = .ok (.sipush 2145, 3) := by decide +kernel
theorem dX10_records_15 : decode cX10_records 15 = .ok (.if_icmp .ge 24, 3) := by decide +kernel
theorem dX10_records_18 : decode cX10_records 18 = .ok (.aload_n 0, 1) := by decide +kernel
theorem dX10_records_19 : decode cX10_records 19 = .ok (.getfield 137, 3) := by decide +kernel
theorem dX10_records_22 : decode cX10_records 22 = .ok (.iload_n 1, 1) := by decide +kernel
theorem dX10_records_23 : decode cX10_records 23 = .ok (.aload_n 0, 1) := by decide +kernel
theorem dX10_records_24 : decode cX10_records 24 = .ok (.getfield 137, 3) := by decide +kernel
theorem dX10_records_27 : decode cX10_records 27 = .ok (.iload_n 1, 1) := by decide +kernel
theorem dX10_records_28 : decode cX10_records 28 = .ok (.bipush 55, 2) := by decide +kernel
theorem dX10_records_30 : decode cX10_records 30 = .ok (.iadd, 1) := by decide +kernel
theorem dX10_records_31 : decode cX10_records 31 = .ok (.iaload, 1) := by decide +kernel
theorem dX10_records_32 : decode cX10_records 32 = .ok (.iastore, 1) := by decide +kernel
theorem dX10_records_33 : decode cX10_records 33 = .ok (.iinc 1 1, 3) := by decide +kernel
theorem dX10_records_36 : decode cX10_records 36 = .ok (.goto (-25), 3) := by decide +kernel
theorem dX10_records_39 : decode cX10_records 39 = .ok (.aload_n 0, 1) := by decide +kernel
theorem dX10_records_40 : decode cX10_records 40 = .ok (.dup, 1) := by decide +kernel
theorem dX10_records_41 : decode cX10_records 41 = .ok (.getfield 257, 3) := by decide +kernel
theorem dX10_records_44 : decode cX10_records 44 = .ok (.iconst 1, 1) := by decide +kernel
theorem dX10_records_45 : decode cX10_records 45 = .ok (.isub, 1) := by decide +kernel
theorem dX10_records_46 : decode cX10_records 46 = .ok (.putfield 257, 3) := by decide +kernel
theorem dX10_records_49 : decode cX10_records 49 = .ok (.iconst 0, 1) := by decide +kernel
theorem dX10_records_50 : decode cX10_records 50 = .ok (.istore_n 1, 1) := by decide +kernel
theorem dX10_records_51 : decode cX10_records 51 = .ok (.iload_n 1, 1) := by decide +kernel
theorem dX10_records_52 : decode cX10_records 52 = .ok (.bipush 55, 2) := by decide +kernel
theorem dX10_records_54 : decode cX10_records 54 = .ok (.if_icmp .ge 29, 3) := by decide +kernel
theorem dX10_records_57 : decode cX10_records 57 = .ok (.aload_n 0, 1) := by decide +kernel
theorem dX10_records_58 : decode cX10_records 58 = .ok (.getfield 137, 3) := by decide +kernel
theorem dX10_records_61 : decode cX10_records 61 = .ok (.bipush 55, 2) := by decide +kernel
theorem dX10_records_63 : decode cX10_records 63 = .ok (.aload_n 0, 1) := by decide +kernel
theorem dX10_records_64 : decode cX10_records 64 = .ok (.getfield 257, 3) := by decide +kernel
theorem dX10_records_67 : decode cX10_records 67 = .ok (.imul, 1) := by decide +kernel
theorem dX10_records_68 : decode cX10_records 68 = .ok (.iload_n 1, 1) := by decide +kernel
theorem dX10_records_69 : decode cX10_records 69 = .ok (.iadd, 1) := by decide +kernel
theorem dX10_records_70 : decode cX10_records 70 = .ok (.aload_n 0, 1) := by decide +kernel
theorem dX10_records_71 : decode cX10_records 71 = .ok (.getfield 119, 3) := by decide +kernel
theorem dX10_records_74 : decode cX10_records 74 = .ok (.iload_n 1, 1) := by decide +kernel
theorem dX10_records_75 : decode cX10_records 75 = .ok (.iaload, 1) := by decide +kernel
theorem dX10_records_76 : decode cX10_records 76 = .ok (.iastore, 1) := by decide +kernel
theorem dX10_records_77 : decode cX10_records 77 = .ok (.iinc 1 1, 3) := by decide +kernel
theorem dX10_records_80 : decode cX10_records 80 = .ok (.goto (-29), 3) := by decide +kernel
theorem dX10_records_83 : decode cX10_records 83 = .ok (.aload_n 0, 1) := by decide +kernel
theorem dX10_records_84 : decode cX10_records 84 = .ok (.dup, 1) := by decide +kernel
theorem dX10_records_85 : decode cX10_records 85 = .ok (.getfield 257, 3) := by decide +kernel
theorem dX10_records_88 : decode cX10_records 88 = .ok (.iconst 1, 1) := by decide +kernel
theorem dX10_records_89 : decode cX10_records 89 = .ok (.iadd, 1) := by decide +kernel
theorem dX10_records_90 : decode cX10_records 90 = .ok (.putfield 257, 3) := by decide +kernel
theorem dX10_records_93 : decode cX10_records 93 = .ok (.aload_n 0, 1) := by decide +kernel
theorem dX10_records_94 : decode cX10_records 94 = .ok (.invokevirtual 169, 3) := by decide +kernel
theorem dX10_records_97 : decode cX10_records 97 = .ok (.return_, 1) := by decide +kernel
theorem dX10_hand_0 : decode cX10_hand 0 = .ok (.aload_n 0, 1) := by decide +kernel
theorem dX10_hand_1 : decode cX10_hand 1 = .ok (.iload_n 1, 1) := by decide +kernel
theorem dX10_hand_2 : decode cX10_hand 2 = .ok (.invokevirtual 426, 3) := by decide +kernel
theorem dX10_hand_5 : decode cX10_hand 5 = .ok (.ifCond .eq 50, 3) := by decide +kernel
theorem dX10_hand_8 : decode cX10_hand 8 = .ok (.aload_n 0, 1) := by decide +kernel
theorem dX10_hand_9 : decode cX10_hand 9 = .ok (.iload_n 2, 1) := by decide +kernel
theorem dX10_hand_10 : decode cX10_hand 10 = .ok (.invokevirtual 422, 3) := by decide +kernel
theorem dX10_hand_13 : decode cX10_hand 13 = .ok (.ifCond .eq 42, 3) := by decide +kernel
theorem dX10_hand_16 : decode cX10_hand 16 = .ok (.aload_n 0, 1) := by decide +kernel
theorem dX10_hand_17 : decode cX10_hand 17 = .ok (.getfield 119, 3) := by decide +kernel
theorem dX10_hand_20 : decode cX10_hand 20 = .ok (.bipush 46, 2) := by decide +kernel
theorem dX10_hand_22 : decode cX10_hand 22 = .ok (.iload_n 1, 1) := by decide +kernel
theorem dX10_hand_23 : decode cX10_hand 23 = .ok (.iadd, 1) := by decide +kernel
theorem dX10_hand_24 : decode cX10_hand 24 = .ok (.iaload, 1) := by decide +kernel
theorem dX10_hand_25 : decode cX10_hand 25 = .ok (.iconst 1, 1) := by decide +kernel
theorem dX10_hand_26 : decode cX10_hand 26 = .ok (.if_icmp .eq 29, 3) := by decide +kernel
theorem dX10_hand_29 : decode cX10_hand 29 = .ok (.aload_n 0, 1) := by decide +kernel
theorem dX10_hand_30 : decode cX10_hand 30 = .ok (.getfield 119, 3) := by decide +kernel
theorem dX10_hand_33 : decode cX10_hand 33 = .ok (.bipush 38, 2) := by decide +kernel
theorem dX10_hand_35 : decode cX10_hand 35 = .ok (.iload_n 1, 1) := by decide +kernel
theorem dX10_hand_36 : decode cX10_hand 36 = .ok (.iadd, 1) := by decide +kernel
theorem dX10_hand_37 : decode cX10_hand 37 = .ok (.iaload, 1) := by decide +kernel
theorem dX10_hand_38 : decode cX10_hand 38 = .ok (.iload_n 2, 1) := by decide +kernel
theorem dX10_hand_39 : decode cX10_hand 39 = .ok (.if_icmp .eq 16, 3) := by decide +kernel
theorem dX10_hand_42 : decode cX10_hand 42 = .ok (.aload_n 0, 1) := by decide +kernel
theorem dX10_hand_43 : decode cX10_hand 43 = .ok (.getfield 119, 3) := by decide +kernel
theorem dX10_hand_46 : decode cX10_hand 46 = .ok (.bipush 32, 2) := by decide +kernel
theorem dX10_hand_48 : decode cX10_hand 48 = .ok (.iload_n 2, 1) := by decide +kernel
theorem dX10_hand_49 : decode cX10_hand 49 = .ok (.iadd, 1) := by decide +kernel
theorem dX10_hand_50 : decode cX10_hand 50 = .ok (.iaload, 1) := by decide +kernel
theorem dX10_hand_51 : decode cX10_hand 51 = .ok (.iconst 1, 1) := by decide +kernel
theorem dX10_hand_52 : decode cX10_hand 52 = .ok (.if_icmp .ne 5, 3) := by decide +kernel
theorem dX10_hand_55 : decode cX10_hand 55 = .ok (.iconst 0, 1) := by decide +kernel
theorem dX10_hand_56 : decode cX10_hand 56 = .ok (.ireturn, 1) := by decide +kernel
theorem dX10_hand_57 : decode cX10_hand 57 = .ok (.aload_n 0, 1) := by decide +kernel
theorem dX10_hand_58 : decode cX10_hand 58 = .ok (.invokevirtual 335, 3) := by decide +kernel
theorem dX10_hand_61 : decode cX10_hand 61 = .ok (.aload_n 0, 1) := by decide +kernel
theorem dX10_hand_62 : decode cX10_hand 62 = .ok (.getfield 122, 3) := by decide +kernel
theorem dX10_hand_65 : decode cX10_hand 65 = .ok (.bipush 38, 2) := by decide +kernel
theorem dX10_hand_67 : decode cX10_hand 67 = .ok (.iload_n 1, 1) := by decide +kernel
theorem dX10_hand_68 : decode cX10_hand 68 = .ok (.iadd, 1) := by decide +kernel
theorem dX10_hand_69 : decode cX10_hand 69 = .ok (.iload_n 2, 1) := by decide +kernel
theorem dX10_hand_70 : decode cX10_hand 70 = .ok (.iastore, 1) := by decide +kernel
theorem dX10_hand_71 : decode cX10_hand 71 = .ok (.aload_n 0, 1) := by decide +kernel
theorem dX10_hand_72 : decode cX10_hand 72 = .ok (.invokevirtual 432, 3) := by decide +kernel
theorem dX10_hand_75 : decode cX10_hand 75 = .ok (.iconst 1, 1) := by decide +kernel
theorem dX10_hand_76 : decode cX10_hand 76 = .ok (.ireturn, 1) := by decide +kernel
theorem dX10_cut_0 : decode cX10_cut 0 = .ok (.aload_n 0, 1) := by decide +kernel
theorem dX10_cut_1 : decode cX10_cut 1 = .ok (.iload_n 1, 1) := by decide +kernel
theorem dX10_cut_2 : decode cX10_cut 2 = .ok (.invokevirtual 426, 3) := by decide +kernel
theorem dX10_cut_5 : decode cX10_cut 5 = .ok (.ifCond .eq 16, 3) := by decide +kernel
theorem dX10_cut_8 : decode cX10_cut 8 = .ok (.aload_n 0, 1) := by decide +kernel
theorem dX10_cut_9 : decode cX10_cut 9 = .ok (.getfield 119, 3) := by decide +kernel
theorem dX10_cut_12 : decode cX10_cut 12 = .ok (.bipush 46, 2) := by decide +kernel
theorem dX10_cut_14 : decode cX10_cut 14 = .ok (.iload_n 1, 1) := by decide +kernel
theorem dX10_cut_15 : decode cX10_cut 15 = .ok (.iadd, 1) := by decide +kernel
theorem dX10_cut_16 : decode cX10_cut 16 = .ok (.iaload, 1) := by decide +kernel
theorem dX10_cut_17 : decode cX10_cut 17 = .ok (.iconst 1, 1) := by decide +kernel
theorem dX10_cut_18 : decode cX10_cut 18 = .ok (.if_icmp .ne 5, 3) := by decide +kernel
theorem dX10_cut_21 : decode cX10_cut 21 = .ok (.iconst 0, 1) := by decide +kernel
theorem dX10_cut_22 : decode cX10_cut 22 = .ok (.ireturn, 1) := by decide +kernel
theorem dX10_cut_23 : decode cX10_cut 23 = .ok (.aload_n 0, 1) := by decide +kernel
theorem dX10_cut_24 : decode cX10_cut 24 = .ok (.invokevirtual 335, 3) := by decide +kernel
theorem dX10_cut_27 : decode cX10_cut 27 = .ok (.aload_n 0, 1) := by decide +kernel
theorem dX10_cut_28 : decode cX10_cut 28 = .ok (.getfield 122, 3) := by decide +kernel
theorem dX10_cut_31 : decode cX10_cut 31 = .ok (.bipush 46, 2) := by decide +kernel
theorem dX10_cut_33 : decode cX10_cut 33 = .ok (.iload_n 1, 1) := by decide +kernel
theorem dX10_cut_34 : decode cX10_cut 34 = .ok (.iadd, 1) := by decide +kernel
theorem dX10_cut_35 : decode cX10_cut 35 = .ok (.iconst 1, 1) := by decide +kernel
theorem dX10_cut_36 : decode cX10_cut 36 = .ok (.iastore, 1) := by decide +kernel
theorem dX10_cut_37 : decode cX10_cut 37 = .ok (.aload_n 0, 1) := by decide +kernel
theorem dX10_cut_38 : decode cX10_cut 38 = .ok (.invokevirtual 432, 3) := by decide +kernel
theorem dX10_cut_41 : decode cX10_cut 41 = .ok (.iconst 1, 1) := by decide +kernel
theorem dX10_cut_42 : decode cX10_cut 42 = .ok (.ireturn, 1) := by decide +kernel
theorem dX10_die_0 : decode cX10_die 0 = .ok (.aload_n 0, 1) := by decide +kernel
theorem dX10_die_1 : decode cX10_die 1 = .ok (.iload_n 1, 1) := by decide +kernel
theorem dX10_die_2 : decode cX10_die 2 = .ok (.invokevirtual 419, 3) := by decide +kernel
theorem dX10_die_5 : decode cX10_die 5 = .ok (.ifCond .eq 16, 3) := by decide +kernel
theorem dX10_die_8 : decode cX10_die 8 = .ok (.aload_n 0, 1) := by decide +kernel
theorem dX10_die_9 : decode cX10_die 9 = .ok (.getfield 119, 3) := by decide +kernel
theorem dX10_die_12 : decode cX10_die 12 = .ok (.bipush 16, 2) := by decide +kernel
theorem dX10_die_14 : decode cX10_die 14 = .ok (.iload_n 1, 1) := by decide +kernel
theorem dX10_die_15 : decode cX10_die 15 = .ok (.iadd, 1) := by decide +kernel
theorem dX10_die_16 : decode cX10_die 16 = .ok (.iaload, 1) := by decide +kernel
theorem dX10_die_17 : decode cX10_die 17 = .ok (.iconst 1, 1) := by decide +kernel
theorem dX10_die_18 : decode cX10_die 18 = .ok (.if_icmp .ne 5, 3) := by decide +kernel
theorem dX10_die_21 : decode cX10_die 21 = .ok (.iconst 0, 1) := by decide +kernel
theorem dX10_die_22 : decode cX10_die 22 = .ok (.ireturn, 1) := by decide +kernel
theorem dX10_die_23 : decode cX10_die 23 = .ok (.aload_n 0, 1) := by decide +kernel
theorem dX10_die_24 : decode cX10_die 24 = .ok (.invokevirtual 335, 3) := by decide +kernel
theorem dX10_die_27 : decode cX10_die 27 = .ok (.aload_n 0, 1) := by decide +kernel
theorem dX10_die_28 : decode cX10_die 28 = .ok (.getfield 122, 3) := by decide +kernel
theorem dX10_die_31 : decode cX10_die 31 = .ok (.bipush 16, 2) := by decide +kernel
theorem dX10_die_33 : decode cX10_die 33 = .ok (.iload_n 1, 1) := by decide +kernel
theorem dX10_die_34 : decode cX10_die 34 = .ok (.iadd, 1) := by decide +kernel
theorem dX10_die_35 : decode cX10_die 35 = .ok (.iconst 1, 1) := by decide +kernel
theorem dX10_die_36 : decode cX10_die 36 = .ok (.iastore, 1) := by decide +kernel
theorem dX10_die_37 : decode cX10_die 37 = .ok (.aload_n 0, 1) := by decide +kernel
theorem dX10_die_38 : decode cX10_die 38 = .ok (.invokevirtual 432, 3) := by decide +kernel
theorem dX10_die_41 : decode cX10_die 41 = .ok (.iconst 1, 1) := by decide +kernel
theorem dX10_die_42 : decode cX10_die 42 = .ok (.ireturn, 1) := by decide +kernel
theorem dX10_isLong_0 : decode cX10_isLong 0 = .ok (.iload_n 0, 1) := by decide +kernel
theorem dX10_isLong_1 : decode cX10_isLong 1 = .ok (.iconst 0, 1) := by decide +kernel
theorem dX10_isLong_2 : decode cX10_isLong 2 = .ok (.bipush 60, 2) := by decide +kernel
theorem dX10_isLong_4 : decode cX10_isLong 4 = .ok (.invokestatic 325, 3) := by decide +kernel
theorem dX10_isLong_7 : decode cX10_isLong 7 = .ok (.ireturn, 1) := by decide +kernel
theorem dX10_months_0 : decode cX10_months 0 = .ok (.iload_n 1, 1) := by decide +kernel
theorem dX10_months_1 : decode cX10_months 1 = .ok (.invokestatic 435, 3) := by decide +kernel
theorem dX10_months_4 : decode cX10_months 4 = .ok (.ifCond .ne 5, 3) := by decide +kernel
theorem dX10_months_7 : decode cX10_months 7 = .ok (.iconst (-1), 1) := by decide +kernel
theorem dX10_months_8 : decode cX10_months 8 = .ok (.ireturn, 1) := by decide +kernel
theorem dX10_months_9 : decode cX10_months 9 = .ok (.iload_n 1, 1) := by decide +kernel
theorem dX10_months_10 : decode cX10_months 10 = .ok (.ifCond .ne 11, 3) := by decide +kernel
theorem dX10_months_13 : decode cX10_months 13 = .ok (.aload_n 0, 1) := by decide +kernel
theorem dX10_months_14 : decode cX10_months 14 = .ok (.getfield 119, 3) := by decide +kernel
theorem dX10_months_17 : decode cX10_months 17 = .ok (.bipush 54, 2) := by decide +kernel
theorem dX10_months_19 : decode cX10_months 19 = .ok (.iaload, 1) := by decide +kernel
theorem dX10_months_20 : decode cX10_months 20 = .ok (.ireturn, 1) := by decide +kernel
theorem dX10_months_21 : decode cX10_months 21 = .ok (.aload_n 0, 1) := by decide +kernel
theorem dX10_months_22 : decode cX10_months 22 = .ok (.invokevirtual 335, 3) := by decide +kernel
theorem dX10_months_25 : decode cX10_months 25 = .ok (.aload_n 0, 1) := by decide +kernel
theorem dX10_months_26 : decode cX10_months 26 = .ok (.iload_n 1, 1) := by decide +kernel
theorem dX10_months_27 : decode cX10_months 27 = .ok (.invokevirtual 438, 3) := by decide +kernel
theorem dX10_months_30 : decode cX10_months 30 = .ok (.aload_n 0, 1) := by decide +kernel
theorem dX10_months_31 : decode cX10_months 31 = .ok (.invokevirtual 432, 3) := by decide +kernel
theorem dX10_months_34 : decode cX10_months 34 = .ok (.aload_n 0, 1) := by decide +kernel
theorem dX10_months_35 : decode cX10_months 35 = .ok (.getfield 119, 3) := by decide +kernel
theorem dX10_months_38 : decode cX10_months 38 = .ok (.bipush 54, 2) := by decide +kernel
theorem dX10_months_40 : decode cX10_months 40 = .ok (.iaload, 1) := by decide +kernel
theorem dX10_months_41 : decode cX10_months 41 = .ok (.ireturn, 1) := by decide +kernel
theorem dX10_undo_0 : decode cX10_undo 0 = .ok (.aload_n 0, 1) := by decide +kernel
theorem dX10_undo_1 : decode cX10_undo 1 = .ok (.getfield 257, 3) := by decide +kernel
theorem dX10_undo_4 : decode cX10_undo 4 = .ok (.ifCond .ne 5, 3) := by decide +kernel
theorem dX10_undo_7 : decode cX10_undo 7 = .ok (.iconst 0, 1) := by decide +kernel
theorem dX10_undo_8 : decode cX10_undo 8 = .ok (.ireturn, 1) := by decide +kernel
theorem dX10_undo_9 : decode cX10_undo 9 = .ok (.aload_n 0, 1) := by decide +kernel
theorem dX10_undo_10 : decode cX10_undo 10 = .ok (.dup, 1) := by decide +kernel
theorem dX10_undo_11 : decode cX10_undo 11 = .ok (.getfield 257, 3) := by decide +kernel
theorem dX10_undo_14 : decode cX10_undo 14 = .ok (.iconst 1, 1) := by decide +kernel
theorem dX10_undo_15 : decode cX10_undo 15 = .ok (.isub, 1) := by decide +kernel
theorem dX10_undo_16 : decode cX10_undo 16 = .ok (.putfield 257, 3) := by decide +kernel
theorem dX10_undo_19 : decode cX10_undo 19 = .ok (.iconst 0, 1) := by decide +kernel
theorem dX10_undo_20 : decode cX10_undo 20 = .ok (.istore_n 1, 1) := by decide +kernel
theorem dX10_undo_21 : decode cX10_undo 21 = .ok (.iload_n 1, 1) := by decide +kernel
theorem dX10_undo_22 : decode cX10_undo 22 = .ok (.bipush 55, 2) := by decide +kernel
theorem dX10_undo_24 : decode cX10_undo 24 = .ok (.if_icmp .ge 29, 3) := by decide +kernel
theorem dX10_undo_27 : decode cX10_undo 27 = .ok (.aload_n 0, 1) := by decide +kernel
theorem dX10_undo_28 : decode cX10_undo 28 = .ok (.getfield 119, 3) := by decide +kernel
theorem dX10_undo_31 : decode cX10_undo 31 = .ok (.iload_n 1, 1) := by decide +kernel
theorem dX10_undo_32 : decode cX10_undo 32 = .ok (.aload_n 0, 1) := by decide +kernel
theorem dX10_undo_33 : decode cX10_undo 33 = .ok (.getfield 137, 3) := by decide +kernel
theorem dX10_undo_36 : decode cX10_undo 36 = .ok (.bipush 55, 2) := by decide +kernel
theorem dX10_undo_38 : decode cX10_undo 38 = .ok (.aload_n 0, 1) := by decide +kernel
theorem dX10_undo_39 : decode cX10_undo 39 = .ok (.getfield 257, 3) := by decide +kernel
theorem dX10_undo_42 : decode cX10_undo 42 = .ok (.imul, 1) := by decide +kernel
theorem dX10_undo_43 : decode cX10_undo 43 = .ok (.iload_n 1, 1) := by decide +kernel
theorem dX10_undo_44 : decode cX10_undo 44 = .ok (.iadd, 1) := by decide +kernel
theorem dX10_undo_45 : decode cX10_undo 45 = .ok (.iaload, 1) := by decide +kernel
theorem dX10_undo_46 : decode cX10_undo 46 = .ok (.iastore, 1) := by decide +kernel
theorem dX10_undo_47 : decode cX10_undo 47 = .ok (.iinc 1 1, 3) := by decide +kernel
theorem dX10_undo_50 : decode cX10_undo 50 = .ok (.goto (-29), 3) := by decide +kernel
theorem dX10_undo_53 : decode cX10_undo 53 = .ok (.iconst 1, 1) := by decide +kernel
theorem dX10_undo_54 : decode cX10_undo 54 = .ok (.ireturn, 1) := by decide +kernel
theorem dX10_then_0 : decode cX10_then 0 = .ok (.aload_n 0, 1) := by decide +kernel
theorem dX10_then_1 : decode cX10_then 1 = .ok (.iload_n 1, 1) := by decide +kernel
theorem dX10_then_2 : decode cX10_then 2 = .ok (.invokevirtual 422, 3) := by decide +kernel
theorem dX10_then_5 : decode cX10_then 5 = .ok (.ifCond .eq 19, 3) := by decide +kernel
theorem dX10_then_8 : decode cX10_then 8 = .ok (.iload_n 2, 1) := by decide +kernel
theorem dX10_then_9 : decode cX10_then 9 = .ok (.invokestatic 435, 3) := by decide +kernel
theorem dX10_then_12 : decode cX10_then 12 = .ok (.ifCond .eq 12, 3) := by decide +kernel
theorem dX10_then_15 : decode cX10_then 15 = .ok (.iload_n 3, 1) := by decide +kernel
theorem dX10_then_16 : decode cX10_then 16 = .ok (.iconst 0, 1) := by decide +kernel
theorem dX10_then_17 : decode cX10_then 17 = .ok (.iconst 2, 1) := by decide +kernel
theorem dX10_then_18 : decode cX10_then 18 = .ok (.invokestatic 325, 3) := by decide +kernel
theorem dX10_then_21 : decode cX10_then 21 = .ok (.ifCond .ne 5, 3) := by decide +kernel
theorem dX10_then_24 : decode cX10_then 24 = .ok (.iconst (-1), 1) := by decide +kernel
theorem dX10_then_25 : decode cX10_then 25 = .ok (.ireturn, 1) := by decide +kernel
theorem dX10_then_26 : decode cX10_then 26 = .ok (.aload_n 0, 1) := by decide +kernel
theorem dX10_then_27 : decode cX10_then 27 = .ok (.invokevirtual 335, 3) := by decide +kernel
theorem dX10_then_30 : decode cX10_then 30 = .ok (.aload_n 0, 1) := by decide +kernel
theorem dX10_then_31 : decode cX10_then 31 = .ok (.iload_n 2, 1) := by decide +kernel
theorem dX10_then_32 : decode cX10_then 32 = .ok (.invokevirtual 438, 3) := by decide +kernel
theorem dX10_then_35 : decode cX10_then 35 = .ok (.aload_n 0, 1) := by decide +kernel
theorem dX10_then_36 : decode cX10_then 36 = .ok (.getfield 122, 3) := by decide +kernel
theorem dX10_then_39 : decode cX10_then 39 = .ok (.bipush 20, 2) := by decide +kernel
theorem dX10_then_41 : decode cX10_then 41 = .ok (.bipush 6, 2) := by decide +kernel
theorem dX10_then_43 : decode cX10_then 43 = .ok (.iload_n 3, 1) := by decide +kernel
theorem dX10_then_44 : decode cX10_then 44 = .ok (.imul, 1) := by decide +kernel
theorem dX10_then_45 : decode cX10_then 45 = .ok (.iadd, 1) := by decide +kernel
theorem dX10_then_46 : decode cX10_then 46 = .ok (.iload_n 1, 1) := by decide +kernel
theorem dX10_then_47 : decode cX10_then 47 = .ok (.iadd, 1) := by decide +kernel
theorem dX10_then_48 : decode cX10_then 48 = .ok (.iaload, 1) := by decide +kernel
theorem dX10_then_49 : decode cX10_then 49 = .ok (.ireturn, 1) := by decide +kernel
theorem dX10_swimsFor_0 : decode cX10_swimsFor 0 = .ok (.iconst 0, 1) := by decide +kernel
theorem dX10_swimsFor_1 : decode cX10_swimsFor 1 = .ok (.istore_n 3, 1) := by decide +kernel
theorem dX10_swimsFor_2 : decode cX10_swimsFor 2 = .ok (.iload_n 3, 1) := by decide +kernel
theorem dX10_swimsFor_3 : decode cX10_swimsFor 3 = .ok (.iload_n 2, 1) := by decide +kernel
theorem dX10_swimsFor_4 : decode cX10_swimsFor 4 = .ok (.if_icmp .ge 26, 3) := by decide +kernel
theorem dX10_swimsFor_7 : decode cX10_swimsFor 7 = .ok (.aload_n 0, 1) := by decide +kernel
theorem dX10_swimsFor_8 : decode cX10_swimsFor 8 = .ok (.getfield 122, 3) := by decide +kernel
theorem dX10_swimsFor_11 : decode cX10_swimsFor 11 = .ok (.bipush 16, 2) := by decide +kernel
theorem dX10_swimsFor_13 : decode cX10_swimsFor 13 = .ok (.iload_n 1, 1) := by decide +kernel
theorem dX10_swimsFor_14 : decode cX10_swimsFor 14 = .ok (.iadd, 1) := by decide +kernel
theorem dX10_swimsFor_15 : decode cX10_swimsFor 15 = .ok (.iaload, 1) := by decide +kernel
theorem dX10_swimsFor_16 : decode cX10_swimsFor 16 = .ok (.ifCond .ne 14, 3) := by decide +kernel
theorem dX10_swimsFor_19 : decode cX10_swimsFor 19 = .ok (.aload_n 0, 1) := by decide +kernel
theorem dX10_swimsFor_20 : decode cX10_swimsFor 20 = .ok (.iload_n 1, 1) := by decide +kernel
theorem dX10_swimsFor_21 : decode cX10_swimsFor 21 = .ok (.invokevirtual 413, 3) := by decide +kernel
theorem dX10_swimsFor_24 : decode cX10_swimsFor 24 = .ok (.iinc 3 1, 3) := by decide +kernel
theorem dX10_swimsFor_27 : decode cX10_swimsFor 27 = .ok (.goto (-25), 3) := by decide +kernel
theorem dX10_swimsFor_30 : decode cX10_swimsFor 30 = .ok (.return_, 1) := by decide +kernel
theorem dX10_swims_0 : decode cX10_swims 0 = .ok (.aload_n 0, 1) := by decide +kernel
theorem dX10_swims_1 : decode cX10_swims 1 = .ok (.iload_n 1, 1) := by decide +kernel
theorem dX10_swims_2 : decode cX10_swims 2 = .ok (.invokevirtual 419, 3) := by decide +kernel
theorem dX10_swims_5 : decode cX10_swims 5 = .ok (.ifCond .eq 19, 3) := by decide +kernel
theorem dX10_swims_8 : decode cX10_swims 8 = .ok (.iload_n 2, 1) := by decide +kernel
theorem dX10_swims_9 : decode cX10_swims 9 = .ok (.invokestatic 435, 3) := by decide +kernel
theorem dX10_swims_12 : decode cX10_swims 12 = .ok (.ifCond .eq 12, 3) := by decide +kernel
theorem dX10_swims_15 : decode cX10_swims 15 = .ok (.iload_n 3, 1) := by decide +kernel
theorem dX10_swims_16 : decode cX10_swims 16 = .ok (.iconst 0, 1) := by decide +kernel
theorem dX10_swims_17 : decode cX10_swims 17 = .ok (.iconst 1, 1) := by decide +kernel
theorem dX10_swims_18 : decode cX10_swims 18 = .ok (.invokestatic 325, 3) := by decide +kernel
theorem dX10_swims_21 : decode cX10_swims 21 = .ok (.ifCond .ne 5, 3) := by decide +kernel
theorem dX10_swims_24 : decode cX10_swims 24 = .ok (.iconst (-1), 1) := by decide +kernel
theorem dX10_swims_25 : decode cX10_swims 25 = .ok (.ireturn, 1) := by decide +kernel
theorem dX10_swims_26 : decode cX10_swims 26 = .ok (.aload_n 0, 1) := by decide +kernel
