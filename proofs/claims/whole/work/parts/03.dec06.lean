theorem dX10_swims_27 : decode cX10_swims 27 = .ok (.invokevirtual 335, 3) := by decide +kernel
theorem dX10_swims_30 : decode cX10_swims 30 = .ok (.aload_n 0, 1) := by decide +kernel
theorem dX10_swims_31 : decode cX10_swims 31 = .ok (.iload_n 1, 1) := by decide +kernel
theorem dX10_swims_32 : decode cX10_swims 32 = .ok (.iload_n 2, 1) := by decide +kernel
theorem dX10_swims_33 : decode cX10_swims 33 = .ok (.invokevirtual 441, 3) := by decide +kernel
theorem dX10_swims_36 : decode cX10_swims 36 = .ok (.aload_n 0, 1) := by decide +kernel
theorem dX10_swims_37 : decode cX10_swims 37 = .ok (.getfield 122, 3) := by decide +kernel
theorem dX10_swims_40 : decode cX10_swims 40 = .ok (.iconst 4, 1) := by decide +kernel
theorem dX10_swims_41 : decode cX10_swims 41 = .ok (.iload_n 3, 1) := by decide +kernel
theorem dX10_swims_42 : decode cX10_swims 42 = .ok (.imul, 1) := by decide +kernel
theorem dX10_swims_43 : decode cX10_swims 43 = .ok (.iload_n 1, 1) := by decide +kernel
theorem dX10_swims_44 : decode cX10_swims 44 = .ok (.iadd, 1) := by decide +kernel
theorem dX10_swims_45 : decode cX10_swims 45 = .ok (.iaload, 1) := by decide +kernel
theorem dX10_swims_46 : decode cX10_swims 46 = .ok (.ireturn, 1) := by decide +kernel
theorem dX10_offBits_0 : decode cX10_offBits 0 = .ok (.iconst 0, 1) := by decide +kernel
theorem dX10_offBits_1 : decode cX10_offBits 1 = .ok (.istore_n 1, 1) := by decide +kernel
theorem dX10_offBits_2 : decode cX10_offBits 2 = .ok (.iconst 0, 1) := by decide +kernel
theorem dX10_offBits_3 : decode cX10_offBits 3 = .ok (.istore_n 2, 1) := by decide +kernel
theorem dX10_offBits_4 : decode cX10_offBits 4 = .ok (.iload_n 2, 1) := by decide +kernel
theorem dX10_offBits_5 : decode cX10_offBits 5 = .ok (.aload_n 0, 1) := by decide +kernel
theorem dX10_offBits_6 : decode cX10_offBits 6 = .ok (.getfield 52, 3) := by decide +kernel
theorem dX10_offBits_9 : decode cX10_offBits 9 = .ok (.aload_n 0, 1) := by decide +kernel
theorem dX10_offBits_10 : decode cX10_offBits 10 = .ok (.getfield 239, 3) := by decide +kernel
theorem dX10_offBits_13 : decode cX10_offBits 13 = .ok (.iaload, 1) := by decide +kernel
theorem dX10_offBits_14 : decode cX10_offBits 14 = .ok (.if_icmp .ge 23, 3) := by decide +kernel
theorem dX10_offBits_17 : decode cX10_offBits 17 = .ok (.aload_n 0, 1) := by decide +kernel
theorem dX10_offBits_18 : decode cX10_offBits 18 = .ok (.iload_n 2, 1) := by decide +kernel
theorem dX10_offBits_19 : decode cX10_offBits 19 = .ok (.invokevirtual 360, 3) := by decide +kernel
theorem dX10_offBits_22 : decode cX10_offBits 22 = .ok (.ifCond .eq 9, 3) := by decide +kernel
theorem dX10_offBits_25 : decode cX10_offBits 25 = .ok (.iload_n 1, 1) := by decide +kernel
theorem dX10_offBits_26 : decode cX10_offBits 26 = .ok (.iconst 1, 1) := by decide +kernel
theorem dX10_offBits_27 : decode cX10_offBits 27 = .ok (.iload_n 2, 1) := by decide +kernel
theorem dX10_offBits_28 : decode cX10_offBits 28 = .ok (.ishl, 1) := by decide +kernel
theorem dX10_offBits_29 : decode cX10_offBits 29 = .ok (.ior, 1) := by decide +kernel
theorem dX10_offBits_30 : decode cX10_offBits 30 = .ok (.istore_n 1, 1) := by decide +kernel
theorem dX10_offBits_31 : decode cX10_offBits 31 = .ok (.iinc 2 1, 3) := by decide +kernel
theorem dX10_offBits_34 : decode cX10_offBits 34 = .ok (.goto (-30), 3) := by decide +kernel
theorem dX10_offBits_37 : decode cX10_offBits 37 = .ok (.iload_n 1, 1) := by decide +kernel
theorem dX10_offBits_38 : decode cX10_offBits 38 = .ok (.ireturn, 1) := by decide +kernel
theorem dX10_firstFrom_0 : decode cX10_firstFrom 0 = .ok (.aload_n 0, 1) := by decide +kernel
theorem dX10_firstFrom_1 : decode cX10_firstFrom 1 = .ok (.iconst 1, 1) := by decide +kernel
theorem dX10_firstFrom_2 : decode cX10_firstFrom 2 = .ok (.putfield 332, 3) := by decide +kernel
theorem dX10_firstFrom_5 : decode cX10_firstFrom 5 = .ok (.aload_n 0, 1) := by decide +kernel
theorem dX10_firstFrom_6 : decode cX10_firstFrom 6 = .ok (.invokevirtual 444, 3) := by decide +kernel
theorem dX10_firstFrom_9 : decode cX10_firstFrom 9 = .ok (.istore_n 1, 1) := by decide +kernel
theorem dX10_firstFrom_10 : decode cX10_firstFrom 10 = .ok (.iconst 1, 1) := by decide +kernel
theorem dX10_firstFrom_11 : decode cX10_firstFrom 11 = .ok (.istore_n 2, 1) := by decide +kernel
theorem dX10_firstFrom_12 : decode cX10_firstFrom 12 = .ok (.iload_n 2, 1) := by decide +kernel
theorem dX10_firstFrom_13 : decode cX10_firstFrom 13 = .ok (.bipush 100, 2) := by decide +kernel
theorem dX10_firstFrom_15 : decode cX10_firstFrom 15 = .ok (.if_icmp .gt 60, 3) := by decide +kernel
theorem dX10_firstFrom_18 : decode cX10_firstFrom 18 = .ok (.aload_n 0, 1) := by decide +kernel
theorem dX10_firstFrom_19 : decode cX10_firstFrom 19 = .ok (.invokevirtual 416, 3) := by decide +kernel
theorem dX10_firstFrom_22 : decode cX10_firstFrom 22 = .ok (.aload_n 0, 1) := by decide +kernel
theorem dX10_firstFrom_23 : decode cX10_firstFrom 23 = .ok (.invokevirtual 444, 3) := by decide +kernel
theorem dX10_firstFrom_26 : decode cX10_firstFrom 26 = .ok (.iload_n 1, 1) := by decide +kernel
theorem dX10_firstFrom_27 : decode cX10_firstFrom 27 = .ok (.iconst (-1), 1) := by decide +kernel
theorem dX10_firstFrom_28 : decode cX10_firstFrom 28 = .ok (.ixor, 1) := by decide +kernel
theorem dX10_firstFrom_29 : decode cX10_firstFrom 29 = .ok (.iand, 1) := by decide +kernel
theorem dX10_firstFrom_30 : decode cX10_firstFrom 30 = .ok (.istore_n 3, 1) := by decide +kernel
theorem dX10_firstFrom_31 : decode cX10_firstFrom 31 = .ok (.iload_n 3, 1) := by decide +kernel
theorem dX10_firstFrom_32 : decode cX10_firstFrom 32 = .ok (.ifCond .ne 6, 3) := by decide +kernel
theorem dX10_firstFrom_35 : decode cX10_firstFrom 35 = .ok (.goto 34, 3) := by decide +kernel
theorem dX10_firstFrom_38 : decode cX10_firstFrom 38 = .ok (.aload_n 0, 1) := by decide +kernel
theorem dX10_firstFrom_39 : decode cX10_firstFrom 39 = .ok (.iconst 0, 1) := by decide +kernel
theorem dX10_firstFrom_40 : decode cX10_firstFrom 40 = .ok (.putfield 447, 3) := by decide +kernel
theorem dX10_firstFrom_43 : decode cX10_firstFrom 43 = .ok (.iload_n 3, 1) := by decide +kernel
theorem dX10_firstFrom_44 : decode cX10_firstFrom 44 = .ok (.aload_n 0, 1) := by decide +kernel
theorem dX10_firstFrom_45 : decode cX10_firstFrom 45 = .ok (.getfield 447, 3) := by decide +kernel
theorem dX10_firstFrom_48 : decode cX10_firstFrom 48 = .ok (.ishr, 1) := by decide +kernel
theorem dX10_firstFrom_49 : decode cX10_firstFrom 49 = .ok (.iconst 1, 1) := by decide +kernel
theorem dX10_firstFrom_50 : decode cX10_firstFrom 50 = .ok (.iand, 1) := by decide +kernel
theorem dX10_firstFrom_51 : decode cX10_firstFrom 51 = .ok (.ifCond .ne 16, 3) := by decide +kernel
theorem dX10_firstFrom_54 : decode cX10_firstFrom 54 = .ok (.aload_n 0, 1) := by decide +kernel
theorem dX10_firstFrom_55 : decode cX10_firstFrom 55 = .ok (.dup, 1) := by decide +kernel
theorem dX10_firstFrom_56 : decode cX10_firstFrom 56 = .ok (.getfield 447, 3) := by decide +kernel
theorem dX10_firstFrom_59 : decode cX10_firstFrom 59 = .ok (.iconst 1, 1) := by decide +kernel
theorem dX10_firstFrom_60 : decode cX10_firstFrom 60 = .ok (.iadd, 1) := by decide +kernel
theorem dX10_firstFrom_61 : decode cX10_firstFrom 61 = .ok (.putfield 447, 3) := by decide +kernel
theorem dX10_firstFrom_64 : decode cX10_firstFrom 64 = .ok (.goto (-21), 3) := by decide +kernel
theorem dX10_firstFrom_67 : decode cX10_firstFrom 67 = .ok (.iload_n 2, 1) := by decide +kernel
theorem dX10_firstFrom_68 : decode cX10_firstFrom 68 = .ok (.ireturn, 1) := by decide +kernel
theorem dX10_firstFrom_69 : decode cX10_firstFrom 69 = .ok (.iinc 2 1, 3) := by decide +kernel
theorem dX10_firstFrom_72 : decode cX10_firstFrom 72 = .ok (.goto (-60), 3) := by decide +kernel
theorem dX10_firstFrom_75 : decode cX10_firstFrom 75 = .ok (.aload_n 0, 1) := by decide +kernel
theorem dX10_firstFrom_76 : decode cX10_firstFrom 76 = .ok (.bipush (-2), 2) := by decide +kernel
theorem dX10_firstFrom_78 : decode cX10_firstFrom 78 = .ok (.putfield 447, 3) := by decide +kernel
theorem dX10_firstFrom_81 : decode cX10_firstFrom 81 = .ok (.bipush 101, 2) := by decide +kernel
theorem dX10_firstFrom_83 : decode cX10_firstFrom 83 = .ok (.ireturn, 1) := by decide +kernel
theorem dX10_first_0 : decode cX10_first 0 = .ok (.iload_n 1, 1) := by decide +kernel
theorem dX10_first_1 : decode cX10_first 1 = .ok (.iconst 0, 1) := by decide +kernel
theorem dX10_first_2 : decode cX10_first 2 = .ok (.iconst 1, 1) := by decide +kernel
theorem dX10_first_3 : decode cX10_first 3 = .ok (.invokestatic 325, 3) := by decide +kernel
theorem dX10_first_6 : decode cX10_first 6 = .ok (.ifCond .ne 5, 3) := by decide +kernel
theorem dX10_first_9 : decode cX10_first 9 = .ok (.iconst (-1), 1) := by decide +kernel
theorem dX10_first_10 : decode cX10_first 10 = .ok (.ireturn, 1) := by decide +kernel
theorem dX10_first_11 : decode cX10_first 11 = .ok (.aload_n 0, 1) := by decide +kernel
theorem dX10_first_12 : decode cX10_first 12 = .ok (.invokevirtual 335, 3) := by decide +kernel
theorem dX10_first_15 : decode cX10_first 15 = .ok (.aload_n 0, 1) := by decide +kernel
theorem dX10_first_16 : decode cX10_first 16 = .ok (.invokevirtual 450, 3) := by decide +kernel
theorem dX10_first_19 : decode cX10_first 19 = .ok (.istore_n 2, 1) := by decide +kernel
theorem dX10_first_20 : decode cX10_first 20 = .ok (.iload_n 1, 1) := by decide +kernel
theorem dX10_first_21 : decode cX10_first 21 = .ok (.iconst 1, 1) := by decide +kernel
theorem dX10_first_22 : decode cX10_first 22 = .ok (.if_icmp .ne 10, 3) := by decide +kernel
theorem dX10_first_25 : decode cX10_first 25 = .ok (.aload_n 0, 1) := by decide +kernel
theorem dX10_first_26 : decode cX10_first 26 = .ok (.getfield 447, 3) := by decide +kernel
theorem dX10_first_29 : decode cX10_first 29 = .ok (.goto 15, 3) := by decide +kernel
theorem dX10_first_32 : decode cX10_first 32 = .ok (.iload_n 2, 1) := by decide +kernel
theorem dX10_first_33 : decode cX10_first 33 = .ok (.bipush 101, 2) := by decide +kernel
theorem dX10_first_35 : decode cX10_first 35 = .ok (.if_icmp .ne 8, 3) := by decide +kernel
theorem dX10_first_38 : decode cX10_first 38 = .ok (.bipush (-2), 2) := by decide +kernel
theorem dX10_first_40 : decode cX10_first 40 = .ok (.goto 4, 3) := by decide +kernel
theorem dX10_first_43 : decode cX10_first 43 = .ok (.iload_n 2, 1) := by decide +kernel
theorem dX10_first_44 : decode cX10_first 44 = .ok (.ireturn, 1) := by decide +kernel
theorem dX10_isNear_0 : decode cX10_isNear 0 = .ok (.iload_n 0, 1) := by decide +kernel
theorem dX10_isNear_1 : decode cX10_isNear 1 = .ok (.iconst 0, 1) := by decide +kernel
theorem dX10_isNear_2 : decode cX10_isNear 2 = .ok (.bipush 9, 2) := by decide +kernel
theorem dX10_isNear_4 : decode cX10_isNear 4 = .ok (.invokestatic 325, 3) := by decide +kernel
theorem dX10_isNear_7 : decode cX10_isNear 7 = .ok (.ireturn, 1) := by decide +kernel
theorem dX10_near_0 : decode cX10_near 0 = .ok (.aload_n 0, 1) := by decide +kernel
theorem dX10_near_1 : decode cX10_near 1 = .ok (.iload_n 1, 1) := by decide +kernel
theorem dX10_near_2 : decode cX10_near 2 = .ok (.invokevirtual 419, 3) := by decide +kernel
theorem dX10_near_5 : decode cX10_near 5 = .ok (.ifCond .eq 18, 3) := by decide +kernel
theorem dX10_near_8 : decode cX10_near 8 = .ok (.aload_n 0, 1) := by decide +kernel
theorem dX10_near_9 : decode cX10_near 9 = .ok (.iload_n 2, 1) := by decide +kernel
theorem dX10_near_10 : decode cX10_near 10 = .ok (.invokevirtual 422, 3) := by decide +kernel
theorem dX10_near_13 : decode cX10_near 13 = .ok (.ifCond .eq 10, 3) := by decide +kernel
theorem dX10_near_16 : decode cX10_near 16 = .ok (.iload_n 3, 1) := by decide +kernel
theorem dX10_near_17 : decode cX10_near 17 = .ok (.invokestatic 453, 3) := by decide +kernel
theorem dX10_near_20 : decode cX10_near 20 = .ok (.ifCond .ne 5, 3) := by decide +kernel
theorem dX10_near_23 : decode cX10_near 23 = .ok (.iconst (-1), 1) := by decide +kernel
theorem dX10_near_24 : decode cX10_near 24 = .ok (.ireturn, 1) := by decide +kernel
theorem dX10_near_25 : decode cX10_near 25 = .ok (.aload_n 0, 1) := by decide +kernel
theorem dX10_near_26 : decode cX10_near 26 = .ok (.invokevirtual 335, 3) := by decide +kernel
theorem dX10_near_29 : decode cX10_near 29 = .ok (.iconst 0, 1) := by decide +kernel
theorem dX10_near_30 : decode cX10_near 30 = .ok (.istore 4, 2) := by decide +kernel
theorem dX10_near_32 : decode cX10_near 32 = .ok (.iload 4, 2) := by decide +kernel
theorem dX10_near_34 : decode cX10_near 34 = .ok (.bipush 100, 2) := by decide +kernel
theorem dX10_near_36 : decode cX10_near 36 = .ok (.if_icmp .gt 45, 3) := by decide +kernel
theorem dX10_near_39 : decode cX10_near 39 = .ok (.aload_n 0, 1) := by decide +kernel
theorem dX10_near_40 : decode cX10_near 40 = .ok (.iload_n 1, 1) := by decide +kernel
theorem dX10_near_41 : decode cX10_near 41 = .ok (.aload_n 0, 1) := by decide +kernel
theorem dX10_near_42 : decode cX10_near 42 = .ok (.getfield 122, 3) := by decide +kernel
theorem dX10_near_45 : decode cX10_near 45 = .ok (.bipush 20, 2) := by decide +kernel
theorem dX10_near_47 : decode cX10_near 47 = .ok (.iload_n 2, 1) := by decide +kernel
theorem dX10_near_48 : decode cX10_near 48 = .ok (.iadd, 1) := by decide +kernel
theorem dX10_near_49 : decode cX10_near 49 = .ok (.iaload, 1) := by decide +kernel
theorem dX10_near_50 : decode cX10_near 50 = .ok (.aload_n 0, 1) := by decide +kernel
theorem dX10_near_51 : decode cX10_near 51 = .ok (.getfield 122, 3) := by decide +kernel
theorem dX10_near_54 : decode cX10_near 54 = .ok (.bipush 26, 2) := by decide +kernel
theorem dX10_near_56 : decode cX10_near 56 = .ok (.iload_n 2, 1) := by decide +kernel
theorem dX10_near_57 : decode cX10_near 57 = .ok (.iadd, 1) := by decide +kernel
theorem dX10_near_58 : decode cX10_near 58 = .ok (.iaload, 1) := by decide +kernel
theorem dX10_near_59 : decode cX10_near 59 = .ok (.invokevirtual 357, 3) := by decide +kernel
theorem dX10_near_62 : decode cX10_near 62 = .ok (.iload_n 3, 1) := by decide +kernel
theorem dX10_near_63 : decode cX10_near 63 = .ok (.if_icmp .gt 6, 3) := by decide +kernel
theorem dX10_near_66 : decode cX10_near 66 = .ok (.iload 4, 2) := by decide +kernel
theorem dX10_near_68 : decode cX10_near 68 = .ok (.ireturn, 1) := by decide +kernel
theorem dX10_near_69 : decode cX10_near 69 = .ok (.aload_n 0, 1) := by decide +kernel
theorem dX10_near_70 : decode cX10_near 70 = .ok (.iload_n 1, 1) := by decide +kernel
theorem dX10_near_71 : decode cX10_near 71 = .ok (.iconst 1, 1) := by decide +kernel
theorem dX10_near_72 : decode cX10_near 72 = .ok (.invokevirtual 441, 3) := by decide +kernel
theorem dX10_near_75 : decode cX10_near 75 = .ok (.iinc 4 1, 3) := by decide +kernel
theorem dX10_near_78 : decode cX10_near 78 = .ok (.goto (-46), 3) := by decide +kernel
theorem dX10_near_81 : decode cX10_near 81 = .ok (.bipush (-2), 2) := by decide +kernel
theorem dX10_near_83 : decode cX10_near 83 = .ok (.ireturn, 1) := by decide +kernel
theorem dX10_wholeBits_0 : decode cX10_wholeBits 0 = .ok (.iconst 0, 1) := by decide +kernel
theorem dX10_wholeBits_1 : decode cX10_wholeBits 1 = .ok (.istore_n 1, 1) := by decide +kernel
theorem dX10_wholeBits_2 : decode cX10_wholeBits 2 = .ok (.iconst 0, 1) := by decide +kernel
theorem dX10_wholeBits_3 : decode cX10_wholeBits 3 = .ok (.istore_n 2, 1) := by decide +kernel
theorem dX10_wholeBits_4 : decode cX10_wholeBits 4 = .ok (.iload_n 2, 1) := by decide +kernel
theorem dX10_wholeBits_5 : decode cX10_wholeBits 5 = .ok (.aload_n 0, 1) := by decide +kernel
theorem dX10_wholeBits_6 : decode cX10_wholeBits 6 = .ok (.getfield 64, 3) := by decide +kernel
theorem dX10_wholeBits_9 : decode cX10_wholeBits 9 = .ok (.aload_n 0, 1) := by decide +kernel
theorem dX10_wholeBits_10 : decode cX10_wholeBits 10 = .ok (.getfield 239, 3) := by decide +kernel
theorem dX10_wholeBits_13 : decode cX10_wholeBits 13 = .ok (.iaload, 1) := by decide +kernel
theorem dX10_wholeBits_14 : decode cX10_wholeBits 14 = .ok (.if_icmp .ge 23, 3) := by decide +kernel
theorem dX10_wholeBits_17 : decode cX10_wholeBits 17 = .ok (.aload_n 0, 1) := by decide +kernel
theorem dX10_wholeBits_18 : decode cX10_wholeBits 18 = .ok (.iload_n 2, 1) := by decide +kernel
theorem dX10_wholeBits_19 : decode cX10_wholeBits 19 = .ok (.invokevirtual 342, 3) := by decide +kernel
theorem dX10_wholeBits_22 : decode cX10_wholeBits 22 = .ok (.ifCond .ne 9, 3) := by decide +kernel
theorem dX10_wholeBits_25 : decode cX10_wholeBits 25 = .ok (.iload_n 1, 1) := by decide +kernel
theorem dX10_wholeBits_26 : decode cX10_wholeBits 26 = .ok (.iconst 1, 1) := by decide +kernel
theorem dX10_wholeBits_27 : decode cX10_wholeBits 27 = .ok (.iload_n 2, 1) := by decide +kernel
theorem dX10_wholeBits_28 : decode cX10_wholeBits 28 = .ok (.ishl, 1) := by decide +kernel
theorem dX10_wholeBits_29 : decode cX10_wholeBits 29 = .ok (.ior, 1) := by decide +kernel
theorem dX10_wholeBits_30 : decode cX10_wholeBits 30 = .ok (.istore_n 1, 1) := by decide +kernel
theorem dX10_wholeBits_31 : decode cX10_wholeBits 31 = .ok (.iinc 2 1, 3) := by decide +kernel
theorem dX10_wholeBits_34 : decode cX10_wholeBits 34 = .ok (.goto (-30), 3) := by decide +kernel
theorem dX10_wholeBits_37 : decode cX10_wholeBits 37 = .ok (.iload_n 1, 1) := by decide +kernel
theorem dX10_wholeBits_38 : decode cX10_wholeBits 38 = .ok (.ireturn, 1) := by decide +kernel
theorem dX10_plaitFrom_0 : decode cX10_plaitFrom 0 = .ok (.aload_n 0, 1) := by decide +kernel
theorem dX10_plaitFrom_1 : decode cX10_plaitFrom 1 = .ok (.invokevirtual 456, 3) := by decide +kernel
theorem dX10_plaitFrom_4 : decode cX10_plaitFrom 4 = .ok (.istore 5, 2) := by decide +kernel
theorem dX10_plaitFrom_6 : decode cX10_plaitFrom 6 = .ok (.bipush (-2), 2) := by decide +kernel
theorem dX10_plaitFrom_8 : decode cX10_plaitFrom 8 = .ok (.istore 6, 2) := by decide +kernel
theorem dX10_plaitFrom_10 : decode cX10_plaitFrom 10 = .ok (.iload_n 2, 1) := by decide +kernel
theorem dX10_plaitFrom_11 : decode cX10_plaitFrom 11 = .ok (.istore 7, 2) := by decide +kernel
theorem dX10_plaitFrom_13 : decode cX10_plaitFrom 13 = .ok (.iload 7, 2) := by decide +kernel
theorem dX10_plaitFrom_15 : decode cX10_plaitFrom 15 = .ok (.iconst 1, 1) := by decide +kernel
theorem dX10_plaitFrom_16 : decode cX10_plaitFrom 16 = .ok (.aload_n 0, 1) := by decide +kernel
theorem dX10_plaitFrom_17 : decode cX10_plaitFrom 17 = .ok (.getfield 64, 3) := by decide +kernel
theorem dX10_plaitFrom_20 : decode cX10_plaitFrom 20 = .ok (.aload_n 0, 1) := by decide +kernel
theorem dX10_plaitFrom_21 : decode cX10_plaitFrom 21 = .ok (.getfield 239, 3) := by decide +kernel
theorem dX10_plaitFrom_24 : decode cX10_plaitFrom 24 = .ok (.iaload, 1) := by decide +kernel
theorem dX10_plaitFrom_25 : decode cX10_plaitFrom 25 = .ok (.ishl, 1) := by decide +kernel
theorem dX10_plaitFrom_26 : decode cX10_plaitFrom 26 = .ok (.if_icmp .ge 86, 3) := by decide +kernel
theorem dX10_plaitFrom_29 : decode cX10_plaitFrom 29 = .ok (.iload 7, 2) := by decide +kernel
theorem dX10_plaitFrom_31 : decode cX10_plaitFrom 31 = .ok (.iload 5, 2) := by decide +kernel
theorem dX10_plaitFrom_33 : decode cX10_plaitFrom 33 = .ok (.iconst (-1), 1) := by decide +kernel
theorem dX10_plaitFrom_34 : decode cX10_plaitFrom 34 = .ok (.ixor, 1) := by decide +kernel
theorem dX10_plaitFrom_35 : decode cX10_plaitFrom 35 = .ok (.iand, 1) := by decide +kernel
theorem dX10_plaitFrom_36 : decode cX10_plaitFrom 36 = .ok (.ifCond .ne 70, 3) := by decide +kernel
theorem dX10_plaitFrom_39 : decode cX10_plaitFrom 39 = .ok (.iload 6, 2) := by decide +kernel
theorem dX10_plaitFrom_41 : decode cX10_plaitFrom 41 = .ok (.ifCond .lt 19, 3) := by decide +kernel
theorem dX10_plaitFrom_44 : decode cX10_plaitFrom 44 = .ok (.iload 7, 2) := by decide +kernel
theorem dX10_plaitFrom_46 : decode cX10_plaitFrom 46 = .ok (.invokestatic 459, 3) := by decide +kernel
theorem dX10_plaitFrom_49 : decode cX10_plaitFrom 49 = .ok (.iload 6, 2) := by decide +kernel
theorem dX10_plaitFrom_51 : decode cX10_plaitFrom 51 = .ok (.invokestatic 459, 3) := by decide +kernel
theorem dX10_plaitFrom_54 : decode cX10_plaitFrom 54 = .ok (.if_icmp .lt 6, 3) := by decide +kernel
theorem dX10_plaitFrom_57 : decode cX10_plaitFrom 57 = .ok (.goto 49, 3) := by decide +kernel
theorem dX10_plaitFrom_60 : decode cX10_plaitFrom 60 = .ok (.aload_n 0, 1) := by decide +kernel
theorem dX10_plaitFrom_61 : decode cX10_plaitFrom 61 = .ok (.iload 7, 2) := by decide +kernel
theorem dX10_plaitFrom_63 : decode cX10_plaitFrom 63 = .ok (.iload_n 1, 1) := by decide +kernel
theorem dX10_plaitFrom_64 : decode cX10_plaitFrom 64 = .ok (.aload_n 0, 1) := by decide +kernel
theorem dX10_plaitFrom_65 : decode cX10_plaitFrom 65 = .ok (.getfield 122, 3) := by decide +kernel
theorem dX10_plaitFrom_68 : decode cX10_plaitFrom 68 = .ok (.bipush 20, 2) := by decide +kernel
theorem dX10_plaitFrom_70 : decode cX10_plaitFrom 70 = .ok (.iload_n 1, 1) := by decide +kernel
theorem dX10_plaitFrom_71 : decode cX10_plaitFrom 71 = .ok (.iadd, 1) := by decide +kernel
theorem dX10_plaitFrom_72 : decode cX10_plaitFrom 72 = .ok (.iaload, 1) := by decide +kernel
theorem dX10_plaitFrom_73 : decode cX10_plaitFrom 73 = .ok (.aload_n 0, 1) := by decide +kernel
theorem dX10_plaitFrom_74 : decode cX10_plaitFrom 74 = .ok (.getfield 122, 3) := by decide +kernel
theorem dX10_plaitFrom_77 : decode cX10_plaitFrom 77 = .ok (.bipush 26, 2) := by decide +kernel
theorem dX10_plaitFrom_79 : decode cX10_plaitFrom 79 = .ok (.iload_n 1, 1) := by decide +kernel
theorem dX10_plaitFrom_80 : decode cX10_plaitFrom 80 = .ok (.iadd, 1) := by decide +kernel
theorem dX10_plaitFrom_81 : decode cX10_plaitFrom 81 = .ok (.iaload, 1) := by decide +kernel
theorem dX10_plaitFrom_82 : decode cX10_plaitFrom 82 = .ok (.invokevirtual 391, 3) := by decide +kernel
theorem dX10_plaitFrom_85 : decode cX10_plaitFrom 85 = .ok (.aload_n 0, 1) := by decide +kernel
theorem dX10_plaitFrom_86 : decode cX10_plaitFrom 86 = .ok (.getfield 372, 3) := by decide +kernel
theorem dX10_plaitFrom_89 : decode cX10_plaitFrom 89 = .ok (.iload_n 3, 1) := by decide +kernel
theorem dX10_plaitFrom_90 : decode cX10_plaitFrom 90 = .ok (.if_icmp .ne 16, 3) := by decide +kernel
theorem dX10_plaitFrom_93 : decode cX10_plaitFrom 93 = .ok (.aload_n 0, 1) := by decide +kernel
theorem dX10_plaitFrom_94 : decode cX10_plaitFrom 94 = .ok (.getfield 375, 3) := by decide +kernel
theorem dX10_plaitFrom_97 : decode cX10_plaitFrom 97 = .ok (.iload 4, 2) := by decide +kernel
theorem dX10_plaitFrom_99 : decode cX10_plaitFrom 99 = .ok (.if_icmp .ne 7, 3) := by decide +kernel
theorem dX10_plaitFrom_102 : decode cX10_plaitFrom 102 = .ok (.iload 7, 2) := by decide +kernel
theorem dX10_plaitFrom_104 : decode cX10_plaitFrom 104 = .ok (.istore 6, 2) := by decide +kernel
theorem dX10_plaitFrom_106 : decode cX10_plaitFrom 106 = .ok (.iinc 7 1, 3) := by decide +kernel
theorem dX10_plaitFrom_109 : decode cX10_plaitFrom 109 = .ok (.goto (-96), 3) := by decide +kernel
theorem dX10_plaitFrom_112 : decode cX10_plaitFrom 112 = .ok (.iload 6, 2) := by decide +kernel
theorem dX10_plaitFrom_114 : decode cX10_plaitFrom 114 = .ok (.ireturn, 1) := by decide +kernel
theorem dX10_plait_0 : decode cX10_plait 0 = .ok (.aload_n 0, 1) := by decide +kernel
theorem dX10_plait_1 : decode cX10_plait 1 = .ok (.iload_n 1, 1) := by decide +kernel
theorem dX10_plait_2 : decode cX10_plait 2 = .ok (.invokevirtual 422, 3) := by decide +kernel
theorem dX10_plait_5 : decode cX10_plait 5 = .ok (.ifCond .eq 39, 3) := by decide +kernel
theorem dX10_plait_8 : decode cX10_plait 8 = .ok (.iload_n 2, 1) := by decide +kernel
theorem dX10_plait_9 : decode cX10_plait 9 = .ok (.sipush (-999), 3) := by decide +kernel
theorem dX10_plait_12 : decode cX10_plait 12 = .ok (.sipush 999, 3) := by decide +kernel
theorem dX10_plait_15 : decode cX10_plait 15 = .ok (.invokestatic 325, 3) := by decide +kernel
theorem dX10_plait_18 : decode cX10_plait 18 = .ok (.ifCond .eq 26, 3) := by decide +kernel
theorem dX10_plait_21 : decode cX10_plait 21 = .ok (.iload_n 3, 1) := by decide +kernel
theorem dX10_plait_22 : decode cX10_plait 22 = .ok (.sipush (-999), 3) := by decide +kernel
theorem dX10_plait_25 : decode cX10_plait 25 = .ok (.sipush 999, 3) := by decide +kernel
theorem dX10_plait_28 : decode cX10_plait 28 = .ok (.invokestatic 325, 3) := by decide +kernel
theorem dX10_plait_31 : decode cX10_plait 31 = .ok (.ifCond .eq 13, 3) := by decide +kernel
theorem dX10_plait_34 : decode cX10_plait 34 = .ok (.iload 4, 2) := by decide +kernel
theorem dX10_plait_36 : decode cX10_plait 36 = .ok (.iconst 0, 1) := by decide +kernel
theorem dX10_plait_37 : decode cX10_plait 37 = .ok (.iconst 1, 1) := by decide +kernel
theorem dX10_plait_38 : decode cX10_plait 38 = .ok (.invokestatic 325, 3) := by decide +kernel
theorem dX10_plait_41 : decode cX10_plait 41 = .ok (.ifCond .ne 5, 3) := by decide +kernel
theorem dX10_plait_44 : decode cX10_plait 44 = .ok (.iconst (-1), 1) := by decide +kernel
theorem dX10_plait_45 : decode cX10_plait 45 = .ok (.ireturn, 1) := by decide +kernel
theorem dX10_plait_46 : decode cX10_plait 46 = .ok (.aload_n 0, 1) := by decide +kernel
theorem dX10_plait_47 : decode cX10_plait 47 = .ok (.invokevirtual 335, 3) := by decide +kernel
theorem dX10_plait_50 : decode cX10_plait 50 = .ok (.aload_n 0, 1) := by decide +kernel
theorem dX10_plait_51 : decode cX10_plait 51 = .ok (.iload_n 1, 1) := by decide +kernel
theorem dX10_plait_52 : decode cX10_plait 52 = .ok (.invokevirtual 360, 3) := by decide +kernel
theorem dX10_plait_55 : decode cX10_plait 55 = .ok (.ifCond .eq 6, 3) := by decide +kernel
theorem dX10_plait_58 : decode cX10_plait 58 = .ok (.bipush (-2), 2) := by decide +kernel
theorem dX10_plait_60 : decode cX10_plait 60 = .ok (.ireturn, 1) := by decide +kernel
theorem dX10_plait_61 : decode cX10_plait 61 = .ok (.aload_n 0, 1) := by decide +kernel
theorem dX10_plait_62 : decode cX10_plait 62 = .ok (.iload_n 1, 1) := by decide +kernel
theorem dX10_plait_63 : decode cX10_plait 63 = .ok (.iconst 0, 1) := by decide +kernel
theorem dX10_plait_64 : decode cX10_plait 64 = .ok (.iload_n 2, 1) := by decide +kernel
theorem dX10_plait_65 : decode cX10_plait 65 = .ok (.iload_n 3, 1) := by decide +kernel
theorem dX10_plait_66 : decode cX10_plait 66 = .ok (.invokevirtual 462, 3) := by decide +kernel
theorem dX10_plait_69 : decode cX10_plait 69 = .ok (.istore 5, 2) := by decide +kernel
theorem dX10_plait_71 : decode cX10_plait 71 = .ok (.iload 5, 2) := by decide +kernel
theorem dX10_plait_73 : decode cX10_plait 73 = .ok (.ifCond .lt 9, 3) := by decide +kernel
theorem dX10_plait_76 : decode cX10_plait 76 = .ok (.iload 4, 2) := by decide +kernel
theorem dX10_plait_78 : decode cX10_plait 78 = .ok (.iconst 1, 1) := by decide +kernel
theorem dX10_plait_79 : decode cX10_plait 79 = .ok (.if_icmp .ne 8, 3) := by decide +kernel
theorem dX10_plait_82 : decode cX10_plait 82 = .ok (.iload 5, 2) := by decide +kernel
theorem dX10_plait_84 : decode cX10_plait 84 = .ok (.goto 8, 3) := by decide +kernel
theorem dX10_plait_87 : decode cX10_plait 87 = .ok (.iload 5, 2) := by decide +kernel
theorem dX10_plait_89 : decode cX10_plait 89 = .ok (.invokestatic 459, 3) := by decide +kernel
theorem dX10_plait_92 : decode cX10_plait 92 = .ok (.ireturn, 1) := by decide +kernel
theorem dX10_turns_0 : decode cX10_turns 0 = .ok (.aload_n 0, 1) := by decide +kernel
theorem dX10_turns_1 : decode cX10_turns 1 = .ok (.iload_n 1, 1) := by decide +kernel
theorem dX10_turns_2 : decode cX10_turns 2 = .ok (.invokevirtual 422, 3) := by decide +kernel
theorem dX10_turns_5 : decode cX10_turns 5 = .ok (.ifCond .eq 10, 3) := by decide +kernel
theorem dX10_turns_8 : decode cX10_turns 8 = .ok (.iload_n 2, 1) := by decide +kernel
theorem dX10_turns_9 : decode cX10_turns 9 = .ok (.invokestatic 435, 3) := by decide +kernel
theorem dX10_turns_12 : decode cX10_turns 12 = .ok (.ifCond .ne 5, 3) := by decide +kernel
theorem dX10_turns_15 : decode cX10_turns 15 = .ok (.iconst (-1), 1) := by decide +kernel
theorem dX10_turns_16 : decode cX10_turns 16 = .ok (.ireturn, 1) := by decide +kernel
theorem dX10_turns_17 : decode cX10_turns 17 = .ok (.aload_n 0, 1) := by decide +kernel
theorem dX10_turns_18 : decode cX10_turns 18 = .ok (.invokevirtual 465, 3) := by decide +kernel
theorem dX10_turns_21 : decode cX10_turns 21 = .ok (.iconst 0, 1) := by decide +kernel
theorem dX10_turns_22 : decode cX10_turns 22 = .ok (.istore_n 3, 1) := by decide +kernel
theorem dX10_turns_23 : decode cX10_turns 23 = .ok (.iconst 0, 1) := by decide +kernel
theorem dX10_turns_24 : decode cX10_turns 24 = .ok (.istore 4, 2) := by decide +kernel
theorem dX10_turns_26 : decode cX10_turns 26 = .ok (.iload 4, 2) := by decide +kernel
theorem dX10_turns_28 : decode cX10_turns 28 = .ok (.iload_n 2, 1) := by decide +kernel
theorem dX10_turns_29 : decode cX10_turns 29 = .ok (.if_icmp .ge 25, 3) := by decide +kernel
theorem dX10_turns_32 : decode cX10_turns 32 = .ok (.aload_n 0, 1) := by decide +kernel
theorem dX10_turns_33 : decode cX10_turns 33 = .ok (.invokevirtual 416, 3) := by decide +kernel
theorem dX10_turns_36 : decode cX10_turns 36 = .ok (.aload_n 0, 1) := by decide +kernel
theorem dX10_turns_37 : decode cX10_turns 37 = .ok (.getfield 125, 3) := by decide +kernel
theorem dX10_turns_40 : decode cX10_turns 40 = .ok (.iload_n 1, 1) := by decide +kernel
theorem dX10_turns_41 : decode cX10_turns 41 = .ok (.baload, 1) := by decide +kernel
theorem dX10_turns_42 : decode cX10_turns 42 = .ok (.ifCond .eq 6, 3) := by decide +kernel
theorem dX10_turns_45 : decode cX10_turns 45 = .ok (.iinc 3 1, 3) := by decide +kernel
theorem dX10_turns_48 : decode cX10_turns 48 = .ok (.iinc 4 1, 3) := by decide +kernel
theorem dX10_turns_51 : decode cX10_turns 51 = .ok (.goto (-25), 3) := by decide +kernel
theorem dX10_turns_54 : decode cX10_turns 54 = .ok (.iload_n 3, 1) := by decide +kernel
theorem dX10_turns_55 : decode cX10_turns 55 = .ok (.ireturn, 1) := by decide +kernel
theorem dX10_pullNow_0 : decode cX10_pullNow 0 = .ok (.aload_n 0, 1) := by decide +kernel
theorem dX10_pullNow_1 : decode cX10_pullNow 1 = .ok (.getfield 122, 3) := by decide +kernel
theorem dX10_pullNow_4 : decode cX10_pullNow 4 = .ok (.bipush 38, 2) := by decide +kernel
theorem dX10_pullNow_6 : decode cX10_pullNow 6 = .ok (.iload_n 1, 1) := by decide +kernel
theorem dX10_pullNow_7 : decode cX10_pullNow 7 = .ok (.iadd, 1) := by decide +kernel
theorem dX10_pullNow_8 : decode cX10_pullNow 8 = .ok (.iaload, 1) := by decide +kernel
theorem dX10_pullNow_9 : decode cX10_pullNow 9 = .ok (.istore_n 2, 1) := by decide +kernel
theorem dX10_pullNow_10 : decode cX10_pullNow 10 = .ok (.aload_n 0, 1) := by decide +kernel
theorem dX10_pullNow_11 : decode cX10_pullNow 11 = .ok (.iload_n 1, 1) := by decide +kernel
theorem dX10_pullNow_12 : decode cX10_pullNow 12 = .ok (.iload_n 2, 1) := by decide +kernel
theorem dX10_pullNow_13 : decode cX10_pullNow 13 = .ok (.aload_n 0, 1) := by decide +kernel
theorem dX10_pullNow_14 : decode cX10_pullNow 14 = .ok (.getfield 122, 3) := by decide +kernel
theorem dX10_pullNow_17 : decode cX10_pullNow 17 = .ok (.bipush 20, 2) := by decide +kernel
theorem dX10_pullNow_19 : decode cX10_pullNow 19 = .ok (.iload_n 2, 1) := by decide +kernel
theorem dX10_pullNow_20 : decode cX10_pullNow 20 = .ok (.iadd, 1) := by decide +kernel
theorem dX10_pullNow_21 : decode cX10_pullNow 21 = .ok (.iaload, 1) := by decide +kernel
theorem dX10_pullNow_22 : decode cX10_pullNow 22 = .ok (.aload_n 0, 1) := by decide +kernel
theorem dX10_pullNow_23 : decode cX10_pullNow 23 = .ok (.getfield 122, 3) := by decide +kernel
theorem dX10_pullNow_26 : decode cX10_pullNow 26 = .ok (.bipush 26, 2) := by decide +kernel
theorem dX10_pullNow_28 : decode cX10_pullNow 28 = .ok (.iload_n 2, 1) := by decide +kernel
theorem dX10_pullNow_29 : decode cX10_pullNow 29 = .ok (.iadd, 1) := by decide +kernel
theorem dX10_pullNow_30 : decode cX10_pullNow 30 = .ok (.iaload, 1) := by decide +kernel
theorem dX10_pullNow_31 : decode cX10_pullNow 31 = .ok (.invokevirtual 378, 3) := by decide +kernel
theorem dX10_pullNow_34 : decode cX10_pullNow 34 = .ok (.ireturn, 1) := by decide +kernel
theorem dX10_strongest_0 : decode cX10_strongest 0 = .ok (.aload_n 0, 1) := by decide +kernel
theorem dX10_strongest_1 : decode cX10_strongest 1 = .ok (.iload_n 1, 1) := by decide +kernel
theorem dX10_strongest_2 : decode cX10_strongest 2 = .ok (.invokevirtual 422, 3) := by decide +kernel
theorem dX10_strongest_5 : decode cX10_strongest 5 = .ok (.ifCond .eq 12, 3) := by decide +kernel
theorem dX10_strongest_8 : decode cX10_strongest 8 = .ok (.iload_n 2, 1) := by decide +kernel
theorem dX10_strongest_9 : decode cX10_strongest 9 = .ok (.iconst 0, 1) := by decide +kernel
theorem dX10_strongest_10 : decode cX10_strongest 10 = .ok (.iconst 1, 1) := by decide +kernel
theorem dX10_strongest_11 : decode cX10_strongest 11 = .ok (.invokestatic 325, 3) := by decide +kernel
theorem dX10_strongest_14 : decode cX10_strongest 14 = .ok (.ifCond .ne 5, 3) := by decide +kernel
theorem dX10_strongest_17 : decode cX10_strongest 17 = .ok (.iconst (-1), 1) := by decide +kernel
theorem dX10_strongest_18 : decode cX10_strongest 18 = .ok (.ireturn, 1) := by decide +kernel
theorem dX10_strongest_19 : decode cX10_strongest 19 = .ok (.aload_n 0, 1) := by decide +kernel
theorem dX10_strongest_20 : decode cX10_strongest 20 = .ok (.invokevirtual 335, 3) := by decide +kernel
theorem dX10_strongest_23 : decode cX10_strongest 23 = .ok (.aload_n 0, 1) := by decide +kernel
theorem dX10_strongest_24 : decode cX10_strongest 24 = .ok (.iload_n 1, 1) := by decide +kernel
theorem dX10_strongest_25 : decode cX10_strongest 25 = .ok (.invokevirtual 388, 3) := by decide +kernel
theorem dX10_strongest_28 : decode cX10_strongest 28 = .ok (.istore_n 3, 1) := by decide +kernel
theorem dX10_strongest_29 : decode cX10_strongest 29 = .ok (.bipush (-2), 2) := by decide +kernel
theorem dX10_strongest_31 : decode cX10_strongest 31 = .ok (.istore 4, 2) := by decide +kernel
theorem dX10_strongest_33 : decode cX10_strongest 33 = .ok (.bipush (-2), 2) := by decide +kernel
theorem dX10_strongest_35 : decode cX10_strongest 35 = .ok (.istore 5, 2) := by decide +kernel
theorem dX10_strongest_37 : decode cX10_strongest 37 = .ok (.iconst 0, 1) := by decide +kernel
theorem dX10_strongest_38 : decode cX10_strongest 38 = .ok (.istore 6, 2) := by decide +kernel
theorem dX10_strongest_40 : decode cX10_strongest 40 = .ok (.iload 6, 2) := by decide +kernel
theorem dX10_strongest_42 : decode cX10_strongest 42 = .ok (.aload_n 0, 1) := by decide +kernel
theorem dX10_strongest_43 : decode cX10_strongest 43 = .ok (.getfield 64, 3) := by decide +kernel
theorem dX10_strongest_46 : decode cX10_strongest 46 = .ok (.aload_n 0, 1) := by decide +kernel
theorem dX10_strongest_47 : decode cX10_strongest 47 = .ok (.getfield 239, 3) := by decide +kernel
theorem dX10_strongest_50 : decode cX10_strongest 50 = .ok (.iaload, 1) := by decide +kernel
theorem dX10_strongest_51 : decode cX10_strongest 51 = .ok (.if_icmp .ge 44, 3) := by decide +kernel
theorem dX10_strongest_54 : decode cX10_strongest 54 = .ok (.iload_n 3, 1) := by decide +kernel
theorem dX10_strongest_55 : decode cX10_strongest 55 = .ok (.iload 6, 2) := by decide +kernel
theorem dX10_strongest_57 : decode cX10_strongest 57 = .ok (.ishr, 1) := by decide +kernel
theorem dX10_strongest_58 : decode cX10_strongest 58 = .ok (.iconst 1, 1) := by decide +kernel
theorem dX10_strongest_59 : decode cX10_strongest 59 = .ok (.iand, 1) := by decide +kernel
theorem dX10_strongest_60 : decode cX10_strongest 60 = .ok (.ifCond .eq 29, 3) := by decide +kernel
theorem dX10_strongest_63 : decode cX10_strongest 63 = .ok (.aload_n 0, 1) := by decide +kernel
theorem dX10_strongest_64 : decode cX10_strongest 64 = .ok (.iload 6, 2) := by decide +kernel
theorem dX10_strongest_66 : decode cX10_strongest 66 = .ok (.invokevirtual 468, 3) := by decide +kernel
theorem dX10_strongest_69 : decode cX10_strongest 69 = .ok (.iload 5, 2) := by decide +kernel
theorem dX10_strongest_71 : decode cX10_strongest 71 = .ok (.if_icmp .gt 6, 3) := by decide +kernel
theorem dX10_strongest_74 : decode cX10_strongest 74 = .ok (.goto 15, 3) := by decide +kernel
theorem dX10_strongest_77 : decode cX10_strongest 77 = .ok (.iload 6, 2) := by decide +kernel
theorem dX10_strongest_79 : decode cX10_strongest 79 = .ok (.istore 4, 2) := by decide +kernel
theorem dX10_strongest_81 : decode cX10_strongest 81 = .ok (.aload_n 0, 1) := by decide +kernel
theorem dX10_strongest_82 : decode cX10_strongest 82 = .ok (.iload 6, 2) := by decide +kernel
theorem dX10_strongest_84 : decode cX10_strongest 84 = .ok (.invokevirtual 468, 3) := by decide +kernel
theorem dX10_strongest_87 : decode cX10_strongest 87 = .ok (.istore 5, 2) := by decide +kernel
theorem dX10_strongest_89 : decode cX10_strongest 89 = .ok (.iinc 6 1, 3) := by decide +kernel
theorem dX10_strongest_92 : decode cX10_strongest 92 = .ok (.goto (-52), 3) := by decide +kernel
theorem dX10_strongest_95 : decode cX10_strongest 95 = .ok (.iload_n 2, 1) := by decide +kernel
theorem dX10_strongest_96 : decode cX10_strongest 96 = .ok (.ifCond .ne 8, 3) := by decide +kernel
theorem dX10_strongest_99 : decode cX10_strongest 99 = .ok (.iload 4, 2) := by decide +kernel
theorem dX10_strongest_101 : decode cX10_strongest 101 = .ok (.goto 5, 3) := by decide +kernel
theorem dX10_strongest_104 : decode cX10_strongest 104 = .ok (.iload 5, 2) := by decide +kernel
theorem dX10_strongest_106 : decode cX10_strongest 106 = .ok (.ireturn, 1) := by decide +kernel
theorem dX10_again_0 : decode cX10_again 0 = .ok (.aload_n 0, 1) := by decide +kernel
theorem dX10_again_1 : decode cX10_again 1 = .ok (.iload_n 1, 1) := by decide +kernel
theorem dX10_again_2 : decode cX10_again 2 = .ok (.invokevirtual 419, 3) := by decide +kernel
theorem dX10_again_5 : decode cX10_again 5 = .ok (.ifCond .ne 5, 3) := by decide +kernel
theorem dX10_again_8 : decode cX10_again 8 = .ok (.iconst (-1), 1) := by decide +kernel
theorem dX10_again_9 : decode cX10_again 9 = .ok (.ireturn, 1) := by decide +kernel
theorem dX10_again_10 : decode cX10_again 10 = .ok (.aload_n 0, 1) := by decide +kernel
theorem dX10_again_11 : decode cX10_again 11 = .ok (.invokevirtual 335, 3) := by decide +kernel
theorem dX10_again_14 : decode cX10_again 14 = .ok (.aload_n 0, 1) := by decide +kernel
theorem dX10_again_15 : decode cX10_again 15 = .ok (.getfield 122, 3) := by decide +kernel
theorem dX10_again_18 : decode cX10_again 18 = .ok (.bipush 16, 2) := by decide +kernel
theorem dX10_again_20 : decode cX10_again 20 = .ok (.iload_n 1, 1) := by decide +kernel
theorem dX10_again_21 : decode cX10_again 21 = .ok (.iadd, 1) := by decide +kernel
theorem dX10_again_22 : decode cX10_again 22 = .ok (.iaload, 1) := by decide +kernel
theorem dX10_again_23 : decode cX10_again 23 = .ok (.iconst 1, 1) := by decide +kernel
theorem dX10_again_24 : decode cX10_again 24 = .ok (.if_icmp .ne 5, 3) := by decide +kernel
theorem dX10_again_27 : decode cX10_again 27 = .ok (.iconst 1, 1) := by decide +kernel
theorem dX10_again_28 : decode cX10_again 28 = .ok (.ireturn, 1) := by decide +kernel
theorem dX10_again_29 : decode cX10_again 29 = .ok (.iconst 1, 1) := by decide +kernel
theorem dX10_again_30 : decode cX10_again 30 = .ok (.istore_n 2, 1) := by decide +kernel
theorem dX10_again_31 : decode cX10_again 31 = .ok (.iload_n 2, 1) := by decide +kernel
theorem dX10_again_32 : decode cX10_again 32 = .ok (.bipush 36, 2) := by decide +kernel
theorem dX10_again_34 : decode cX10_again 34 = .ok (.if_icmp .gt 61, 3) := by decide +kernel
theorem dX10_again_37 : decode cX10_again 37 = .ok (.aload_n 0, 1) := by decide +kernel
theorem dX10_again_38 : decode cX10_again 38 = .ok (.iload_n 1, 1) := by decide +kernel
theorem dX10_again_39 : decode cX10_again 39 = .ok (.invokevirtual 413, 3) := by decide +kernel
theorem dX10_again_42 : decode cX10_again 42 = .ok (.iconst 1, 1) := by decide +kernel
theorem dX10_again_43 : decode cX10_again 43 = .ok (.istore_n 3, 1) := by decide +kernel
theorem dX10_again_44 : decode cX10_again 44 = .ok (.iconst 0, 1) := by decide +kernel
theorem dX10_again_45 : decode cX10_again 45 = .ok (.istore 4, 2) := by decide +kernel
theorem dX10_again_47 : decode cX10_again 47 = .ok (.iload 4, 2) := by decide +kernel
theorem dX10_again_49 : decode cX10_again 49 = .ok (.bipush 16, 2) := by decide +kernel
theorem dX10_again_51 : decode cX10_again 51 = .ok (.if_icmp .ge 32, 3) := by decide +kernel
theorem dX10_again_54 : decode cX10_again 54 = .ok (.aload_n 0, 1) := by decide +kernel
theorem dX10_again_55 : decode cX10_again 55 = .ok (.getfield 122, 3) := by decide +kernel
theorem dX10_again_58 : decode cX10_again 58 = .ok (.iload 4, 2) := by decide +kernel
theorem dX10_again_60 : decode cX10_again 60 = .ok (.iload_n 1, 1) := by decide +kernel
theorem dX10_again_61 : decode cX10_again 61 = .ok (.iadd, 1) := by decide +kernel
theorem dX10_again_62 : decode cX10_again 62 = .ok (.iaload, 1) := by decide +kernel
theorem dX10_again_63 : decode cX10_again 63 = .ok (.aload_n 0, 1) := by decide +kernel
theorem dX10_again_64 : decode cX10_again 64 = .ok (.getfield 119, 3) := by decide +kernel
theorem dX10_again_67 : decode cX10_again 67 = .ok (.iload 4, 2) := by decide +kernel
theorem dX10_again_69 : decode cX10_again 69 = .ok (.iload_n 1, 1) := by decide +kernel
theorem dX10_again_70 : decode cX10_again 70 = .ok (.iadd, 1) := by decide +kernel
theorem dX10_again_71 : decode cX10_again 71 = .ok (.iaload, 1) := by decide +kernel
theorem dX10_again_72 : decode cX10_again 72 = .ok (.if_icmp .eq 5, 3) := by decide +kernel
theorem dX10_again_75 : decode cX10_again 75 = .ok (.iconst 0, 1) := by decide +kernel
theorem dX10_again_76 : decode cX10_again 76 = .ok (.istore_n 3, 1) := by decide +kernel
theorem dX10_again_77 : decode cX10_again 77 = .ok (.iinc 4 4, 3) := by decide +kernel
theorem dX10_again_80 : decode cX10_again 80 = .ok (.goto (-33), 3) := by decide +kernel
theorem dX10_again_83 : decode cX10_again 83 = .ok (.iload_n 3, 1) := by decide +kernel
theorem dX10_again_84 : decode cX10_again 84 = .ok (.ifCond .eq 5, 3) := by decide +kernel
theorem dX10_again_87 : decode cX10_again 87 = .ok (.iload_n 2, 1) := by decide +kernel
theorem dX10_again_88 : decode cX10_again 88 = .ok (.ireturn, 1) := by decide +kernel
theorem dX10_again_89 : decode cX10_again 89 = .ok (.iinc 2 1, 3) := by decide +kernel
theorem dX10_again_92 : decode cX10_again 92 = .ok (.goto (-61), 3) := by decide +kernel
theorem dX10_again_95 : decode cX10_again 95 = .ok (.bipush (-2), 2) := by decide +kernel
theorem dX10_again_97 : decode cX10_again 97 = .ok (.ireturn, 1) := by decide +kernel
theorem dX10_passing_0 : decode cX10_passing 0 = .ok (.aload_n 0, 1) := by decide +kernel
theorem dX10_passing_1 : decode cX10_passing 1 = .ok (.iload_n 1, 1) := by decide +kernel
theorem dX10_passing_2 : decode cX10_passing 2 = .ok (.invokevirtual 419, 3) := by decide +kernel
theorem dX10_passing_5 : decode cX10_passing 5 = .ok (.ifCond .eq 23, 3) := by decide +kernel
theorem dX10_passing_8 : decode cX10_passing 8 = .ok (.aload_n 0, 1) := by decide +kernel
theorem dX10_passing_9 : decode cX10_passing 9 = .ok (.iload_n 2, 1) := by decide +kernel
theorem dX10_passing_10 : decode cX10_passing 10 = .ok (.invokevirtual 419, 3) := by decide +kernel
theorem dX10_passing_13 : decode cX10_passing 13 = .ok (.ifCond .eq 15, 3) := by decide +kernel
theorem dX10_passing_16 : decode cX10_passing 16 = .ok (.iload_n 1, 1) := by decide +kernel
theorem dX10_passing_17 : decode cX10_passing 17 = .ok (.iload_n 2, 1) := by decide +kernel
theorem dX10_passing_18 : decode cX10_passing 18 = .ok (.if_icmp .eq 10, 3) := by decide +kernel
theorem dX10_passing_21 : decode cX10_passing 21 = .ok (.iload_n 3, 1) := by decide +kernel
theorem dX10_passing_22 : decode cX10_passing 22 = .ok (.invokestatic 453, 3) := by decide +kernel
theorem dX10_passing_25 : decode cX10_passing 25 = .ok (.ifCond .ne 5, 3) := by decide +kernel
theorem dX10_passing_28 : decode cX10_passing 28 = .ok (.iconst (-1), 1) := by decide +kernel
theorem dX10_passing_29 : decode cX10_passing 29 = .ok (.ireturn, 1) := by decide +kernel
theorem dX10_passing_30 : decode cX10_passing 30 = .ok (.aload_n 0, 1) := by decide +kernel
theorem dX10_passing_31 : decode cX10_passing 31 = .ok (.invokevirtual 335, 3) := by decide +kernel
theorem dX10_passing_34 : decode cX10_passing 34 = .ok (.iconst 0, 1) := by decide +kernel
theorem dX10_passing_35 : decode cX10_passing 35 = .ok (.istore 4, 2) := by decide +kernel
theorem dX10_passing_37 : decode cX10_passing 37 = .ok (.iload 4, 2) := by decide +kernel
theorem dX10_passing_39 : decode cX10_passing 39 = .ok (.bipush 100, 2) := by decide +kernel
theorem dX10_passing_41 : decode cX10_passing 41 = .ok (.if_icmp .gt 47, 3) := by decide +kernel
theorem dX10_passing_44 : decode cX10_passing 44 = .ok (.aload_n 0, 1) := by decide +kernel
theorem dX10_passing_45 : decode cX10_passing 45 = .ok (.iload_n 1, 1) := by decide +kernel
theorem dX10_passing_46 : decode cX10_passing 46 = .ok (.aload_n 0, 1) := by decide +kernel
theorem dX10_passing_47 : decode cX10_passing 47 = .ok (.getfield 122, 3) := by decide +kernel
theorem dX10_passing_50 : decode cX10_passing 50 = .ok (.iload_n 2, 1) := by decide +kernel
theorem dX10_passing_51 : decode cX10_passing 51 = .ok (.iaload, 1) := by decide +kernel
theorem dX10_passing_52 : decode cX10_passing 52 = .ok (.aload_n 0, 1) := by decide +kernel
theorem dX10_passing_53 : decode cX10_passing 53 = .ok (.getfield 122, 3) := by decide +kernel
theorem dX10_passing_56 : decode cX10_passing 56 = .ok (.iconst 4, 1) := by decide +kernel
theorem dX10_passing_57 : decode cX10_passing 57 = .ok (.iload_n 2, 1) := by decide +kernel
theorem dX10_passing_58 : decode cX10_passing 58 = .ok (.iadd, 1) := by decide +kernel
theorem dX10_passing_59 : decode cX10_passing 59 = .ok (.iaload, 1) := by decide +kernel
theorem dX10_passing_60 : decode cX10_passing 60 = .ok (.invokevirtual 357, 3) := by decide +kernel
theorem dX10_passing_63 : decode cX10_passing 63 = .ok (.iload_n 3, 1) := by decide +kernel
theorem dX10_passing_64 : decode cX10_passing 64 = .ok (.if_icmp .gt 6, 3) := by decide +kernel
theorem dX10_passing_67 : decode cX10_passing 67 = .ok (.iload 4, 2) := by decide +kernel
theorem dX10_passing_69 : decode cX10_passing 69 = .ok (.ireturn, 1) := by decide +kernel
theorem dX10_passing_70 : decode cX10_passing 70 = .ok (.aload_n 0, 1) := by decide +kernel
theorem dX10_passing_71 : decode cX10_passing 71 = .ok (.iload_n 1, 1) := by decide +kernel
theorem dX10_passing_72 : decode cX10_passing 72 = .ok (.iconst 1, 1) := by decide +kernel
theorem dX10_passing_73 : decode cX10_passing 73 = .ok (.invokevirtual 441, 3) := by decide +kernel
theorem dX10_passing_76 : decode cX10_passing 76 = .ok (.aload_n 0, 1) := by decide +kernel
theorem dX10_passing_77 : decode cX10_passing 77 = .ok (.iload_n 2, 1) := by decide +kernel
theorem dX10_passing_78 : decode cX10_passing 78 = .ok (.iconst 1, 1) := by decide +kernel
theorem dX10_passing_79 : decode cX10_passing 79 = .ok (.invokevirtual 441, 3) := by decide +kernel
theorem dX10_passing_82 : decode cX10_passing 82 = .ok (.iinc 4 1, 3) := by decide +kernel
theorem dX10_passing_85 : decode cX10_passing 85 = .ok (.goto (-48), 3) := by decide +kernel
theorem dX10_passing_88 : decode cX10_passing 88 = .ok (.bipush (-2), 2) := by decide +kernel
theorem dX10_passing_90 : decode cX10_passing 90 = .ok (.ireturn, 1) := by decide +kernel
theorem dX10_even_0 : decode cX10_even 0 = .ok (.aload_n 0, 1) := by decide +kernel
theorem dX10_even_1 : decode cX10_even 1 = .ok (.iload_n 1, 1) := by decide +kernel
theorem dX10_even_2 : decode cX10_even 2 = .ok (.invokevirtual 422, 3) := by decide +kernel
theorem dX10_even_5 : decode cX10_even 5 = .ok (.ifCond .ne 5, 3) := by decide +kernel
theorem dX10_even_8 : decode cX10_even 8 = .ok (.iconst (-1), 1) := by decide +kernel
theorem dX10_even_9 : decode cX10_even 9 = .ok (.ireturn, 1) := by decide +kernel
theorem dX10_even_10 : decode cX10_even 10 = .ok (.aload_n 0, 1) := by decide +kernel
theorem dX10_even_11 : decode cX10_even 11 = .ok (.invokevirtual 335, 3) := by decide +kernel
theorem dX10_even_14 : decode cX10_even 14 = .ok (.aload_n 0, 1) := by decide +kernel
theorem dX10_even_15 : decode cX10_even 15 = .ok (.iload_n 1, 1) := by decide +kernel
theorem dX10_even_16 : decode cX10_even 16 = .ok (.invokevirtual 388, 3) := by decide +kernel
theorem dX10_even_19 : decode cX10_even 19 = .ok (.istore_n 2, 1) := by decide +kernel
theorem dX10_even_20 : decode cX10_even 20 = .ok (.iconst 0, 1) := by decide +kernel
theorem dX10_even_21 : decode cX10_even 21 = .ok (.istore_n 3, 1) := by decide +kernel
theorem dX10_even_22 : decode cX10_even 22 = .ok (.iconst 0, 1) := by decide +kernel
theorem dX10_even_23 : decode cX10_even 23 = .ok (.istore 4, 2) := by decide +kernel
theorem dX10_even_25 : decode cX10_even 25 = .ok (.iload 4, 2) := by decide +kernel
theorem dX10_even_27 : decode cX10_even 27 = .ok (.aload_n 0, 1) := by decide +kernel
theorem dX10_even_28 : decode cX10_even 28 = .ok (.getfield 64, 3) := by decide +kernel
theorem dX10_even_31 : decode cX10_even 31 = .ok (.aload_n 0, 1) := by decide +kernel
theorem dX10_even_32 : decode cX10_even 32 = .ok (.getfield 239, 3) := by decide +kernel
theorem dX10_even_35 : decode cX10_even 35 = .ok (.iaload, 1) := by decide +kernel
theorem dX10_even_36 : decode cX10_even 36 = .ok (.if_icmp .ge 118, 3) := by decide +kernel
theorem dX10_even_39 : decode cX10_even 39 = .ok (.iload 4, 2) := by decide +kernel
theorem dX10_even_41 : decode cX10_even 41 = .ok (.iconst 1, 1) := by decide +kernel
theorem dX10_even_42 : decode cX10_even 42 = .ok (.iadd, 1) := by decide +kernel
theorem dX10_even_43 : decode cX10_even 43 = .ok (.istore 5, 2) := by decide +kernel
theorem dX10_even_45 : decode cX10_even 45 = .ok (.iload 5, 2) := by decide +kernel
theorem dX10_even_47 : decode cX10_even 47 = .ok (.aload_n 0, 1) := by decide +kernel
theorem dX10_even_48 : decode cX10_even 48 = .ok (.getfield 64, 3) := by decide +kernel
theorem dX10_even_51 : decode cX10_even 51 = .ok (.aload_n 0, 1) := by decide +kernel
theorem dX10_even_52 : decode cX10_even 52 = .ok (.getfield 239, 3) := by decide +kernel
theorem dX10_even_55 : decode cX10_even 55 = .ok (.iaload, 1) := by decide +kernel
theorem dX10_even_56 : decode cX10_even 56 = .ok (.if_icmp .ge 92, 3) := by decide +kernel
theorem dX10_even_59 : decode cX10_even 59 = .ok (.iconst 1, 1) := by decide +kernel
theorem dX10_even_60 : decode cX10_even 60 = .ok (.iload 4, 2) := by decide +kernel
theorem dX10_even_62 : decode cX10_even 62 = .ok (.ishl, 1) := by decide +kernel
theorem dX10_even_63 : decode cX10_even 63 = .ok (.iconst 1, 1) := by decide +kernel
theorem dX10_even_64 : decode cX10_even 64 = .ok (.iload 5, 2) := by decide +kernel
theorem dX10_even_66 : decode cX10_even 66 = .ok (.ishl, 1) := by decide +kernel
theorem dX10_even_67 : decode cX10_even 67 = .ok (.ior, 1) := by decide +kernel
theorem dX10_even_68 : decode cX10_even 68 = .ok (.istore 6, 2) := by decide +kernel
theorem dX10_even_70 : decode cX10_even 70 = .ok (.iload_n 2, 1) := by decide +kernel
theorem dX10_even_71 : decode cX10_even 71 = .ok (.iload 6, 2) := by decide +kernel
theorem dX10_even_73 : decode cX10_even 73 = .ok (.iand, 1) := by decide +kernel
theorem dX10_even_74 : decode cX10_even 74 = .ok (.iload 6, 2) := by decide +kernel
theorem dX10_even_76 : decode cX10_even 76 = .ok (.if_icmp .ne 66, 3) := by decide +kernel
theorem dX10_even_79 : decode cX10_even 79 = .ok (.aload_n 0, 1) := by decide +kernel
theorem dX10_even_80 : decode cX10_even 80 = .ok (.iload 4, 2) := by decide +kernel
theorem dX10_even_82 : decode cX10_even 82 = .ok (.invokevirtual 468, 3) := by decide +kernel
theorem dX10_even_85 : decode cX10_even 85 = .ok (.ifCond .eq 57, 3) := by decide +kernel
theorem dX10_even_88 : decode cX10_even 88 = .ok (.aload_n 0, 1) := by decide +kernel
theorem dX10_even_89 : decode cX10_even 89 = .ok (.iload 5, 2) := by decide +kernel
theorem dX10_even_91 : decode cX10_even 91 = .ok (.invokevirtual 468, 3) := by decide +kernel
theorem dX10_even_94 : decode cX10_even 94 = .ok (.ifCond .ne 6, 3) := by decide +kernel
theorem dX10_even_97 : decode cX10_even 97 = .ok (.goto 45, 3) := by decide +kernel
theorem dX10_even_100 : decode cX10_even 100 = .ok (.aload_n 0, 1) := by decide +kernel
theorem dX10_even_101 : decode cX10_even 101 = .ok (.iload 6, 2) := by decide +kernel
theorem dX10_even_103 : decode cX10_even 103 = .ok (.iload_n 1, 1) := by decide +kernel
theorem dX10_even_104 : decode cX10_even 104 = .ok (.aload_n 0, 1) := by decide +kernel
theorem dX10_even_105 : decode cX10_even 105 = .ok (.getfield 122, 3) := by decide +kernel
theorem dX10_even_108 : decode cX10_even 108 = .ok (.bipush 20, 2) := by decide +kernel
theorem dX10_even_110 : decode cX10_even 110 = .ok (.iload_n 1, 1) := by decide +kernel
theorem dX10_even_111 : decode cX10_even 111 = .ok (.iadd, 1) := by decide +kernel
theorem dX10_even_112 : decode cX10_even 112 = .ok (.iaload, 1) := by decide +kernel
theorem dX10_even_113 : decode cX10_even 113 = .ok (.aload_n 0, 1) := by decide +kernel
theorem dX10_even_114 : decode cX10_even 114 = .ok (.getfield 122, 3) := by decide +kernel
theorem dX10_even_117 : decode cX10_even 117 = .ok (.bipush 26, 2) := by decide +kernel
theorem dX10_even_119 : decode cX10_even 119 = .ok (.iload_n 1, 1) := by decide +kernel
theorem dX10_even_120 : decode cX10_even 120 = .ok (.iadd, 1) := by decide +kernel
theorem dX10_even_121 : decode cX10_even 121 = .ok (.iaload, 1) := by decide +kernel
theorem dX10_even_122 : decode cX10_even 122 = .ok (.invokevirtual 391, 3) := by decide +kernel
theorem dX10_even_125 : decode cX10_even 125 = .ok (.aload_n 0, 1) := by decide +kernel
theorem dX10_even_126 : decode cX10_even 126 = .ok (.getfield 372, 3) := by decide +kernel
theorem dX10_even_129 : decode cX10_even 129 = .ok (.ifCond .ne 13, 3) := by decide +kernel
theorem dX10_even_132 : decode cX10_even 132 = .ok (.aload_n 0, 1) := by decide +kernel
theorem dX10_even_133 : decode cX10_even 133 = .ok (.getfield 375, 3) := by decide +kernel
theorem dX10_even_136 : decode cX10_even 136 = .ok (.ifCond .ne 6, 3) := by decide +kernel
theorem dX10_even_139 : decode cX10_even 139 = .ok (.iinc 3 1, 3) := by decide +kernel
theorem dX10_even_142 : decode cX10_even 142 = .ok (.iinc 5 1, 3) := by decide +kernel
theorem dX10_even_145 : decode cX10_even 145 = .ok (.goto (-100), 3) := by decide +kernel
theorem dX10_even_148 : decode cX10_even 148 = .ok (.iinc 4 1, 3) := by decide +kernel
theorem dX10_even_151 : decode cX10_even 151 = .ok (.goto (-126), 3) := by decide +kernel
theorem dX10_even_154 : decode cX10_even 154 = .ok (.iload_n 3, 1) := by decide +kernel
theorem dX10_even_155 : decode cX10_even 155 = .ok (.ireturn, 1) := by decide +kernel
theorem dX10_pricesOf_0 : decode cX10_pricesOf 0 = .ok (.iconst 0, 1) := by decide +kernel
theorem dX10_pricesOf_1 : decode cX10_pricesOf 1 = .ok (.istore_n 2, 1) := by decide +kernel
theorem dX10_pricesOf_2 : decode cX10_pricesOf 2 = .ok (.iconst 0, 1) := by decide +kernel
theorem dX10_pricesOf_3 : decode cX10_pricesOf 3 = .ok (.istore_n 3, 1) := by decide +kernel
theorem dX10_pricesOf_4 : decode cX10_pricesOf 4 = .ok (.iload_n 3, 1) := by decide +kernel
theorem dX10_pricesOf_5 : decode cX10_pricesOf 5 = .ok (.aload_n 0, 1) := by decide +kernel
theorem dX10_pricesOf_6 : decode cX10_pricesOf 6 = .ok (.getfield 64, 3) := by decide +kernel
theorem dX10_pricesOf_9 : decode cX10_pricesOf 9 = .ok (.aload_n 0, 1) := by decide +kernel
theorem dX10_pricesOf_10 : decode cX10_pricesOf 10 = .ok (.getfield 239, 3) := by decide +kernel
theorem dX10_pricesOf_13 : decode cX10_pricesOf 13 = .ok (.iaload, 1) := by decide +kernel
theorem dX10_pricesOf_14 : decode cX10_pricesOf 14 = .ok (.if_icmp .ge 26, 3) := by decide +kernel
theorem dX10_pricesOf_17 : decode cX10_pricesOf 17 = .ok (.iload_n 1, 1) := by decide +kernel
theorem dX10_pricesOf_18 : decode cX10_pricesOf 18 = .ok (.iload_n 3, 1) := by decide +kernel
theorem dX10_pricesOf_19 : decode cX10_pricesOf 19 = .ok (.ishr, 1) := by decide +kernel
theorem dX10_pricesOf_20 : decode cX10_pricesOf 20 = .ok (.iconst 1, 1) := by decide +kernel
theorem dX10_pricesOf_21 : decode cX10_pricesOf 21 = .ok (.iand, 1) := by decide +kernel
theorem dX10_pricesOf_22 : decode cX10_pricesOf 22 = .ok (.iconst 1, 1) := by decide +kernel
theorem dX10_pricesOf_23 : decode cX10_pricesOf 23 = .ok (.if_icmp .ne 11, 3) := by decide +kernel
theorem dX10_pricesOf_26 : decode cX10_pricesOf 26 = .ok (.iload_n 2, 1) := by decide +kernel
theorem dX10_pricesOf_27 : decode cX10_pricesOf 27 = .ok (.aload_n 0, 1) := by decide +kernel
theorem dX10_pricesOf_28 : decode cX10_pricesOf 28 = .ok (.iload_n 3, 1) := by decide +kernel
theorem dX10_pricesOf_29 : decode cX10_pricesOf 29 = .ok (.invokevirtual 429, 3) := by decide +kernel
theorem dX10_pricesOf_32 : decode cX10_pricesOf 32 = .ok (.iadd, 1) := by decide +kernel
theorem dX10_pricesOf_33 : decode cX10_pricesOf 33 = .ok (.istore_n 2, 1) := by decide +kernel
theorem dX10_pricesOf_34 : decode cX10_pricesOf 34 = .ok (.iinc 3 1, 3) := by decide +kernel
theorem dX10_pricesOf_37 : decode cX10_pricesOf 37 = .ok (.goto (-33), 3) := by decide +kernel
theorem dX10_pricesOf_40 : decode cX10_pricesOf 40 = .ok (.iload_n 2, 1) := by decide +kernel
theorem dX10_pricesOf_41 : decode cX10_pricesOf 41 = .ok (.ireturn, 1) := by decide +kernel
theorem dX10_market_0 : decode cX10_market 0 = .ok (.iload_n 1, 1) := by decide +kernel
theorem dX10_market_1 : decode cX10_market 1 = .ok (.invokestatic 435, 3) := by decide +kernel
theorem dX10_market_4 : decode cX10_market 4 = .ok (.ifCond .ne 5, 3) := by decide +kernel
theorem dX10_market_7 : decode cX10_market 7 = .ok (.iconst (-1), 1) := by decide +kernel
theorem dX10_market_8 : decode cX10_market 8 = .ok (.ireturn, 1) := by decide +kernel
theorem dX10_market_9 : decode cX10_market 9 = .ok (.aload_n 0, 1) := by decide +kernel
theorem dX10_market_10 : decode cX10_market 10 = .ok (.invokevirtual 465, 3) := by decide +kernel
theorem dX10_market_13 : decode cX10_market 13 = .ok (.aload_n 0, 1) := by decide +kernel
theorem dX10_market_14 : decode cX10_market 14 = .ok (.iload_n 1, 1) := by decide +kernel
theorem dX10_market_15 : decode cX10_market 15 = .ok (.invokevirtual 438, 3) := by decide +kernel
theorem dX10_market_18 : decode cX10_market 18 = .ok (.aload_n 0, 1) := by decide +kernel
theorem dX10_market_19 : decode cX10_market 19 = .ok (.aload_n 0, 1) := by decide +kernel
theorem dX10_market_20 : decode cX10_market 20 = .ok (.invokevirtual 456, 3) := by decide +kernel
theorem dX10_market_23 : decode cX10_market 23 = .ok (.invokevirtual 471, 3) := by decide +kernel
theorem dX10_market_26 : decode cX10_market 26 = .ok (.ireturn, 1) := by decide +kernel
theorem dX10_nothing_0 : decode cX10_nothing 0 = .ok (.aload_n 0, 1) := by decide +kernel
theorem dX10_nothing_1 : decode cX10_nothing 1 = .ok (.iload_n 1, 1) := by decide +kernel
theorem dX10_nothing_2 : decode cX10_nothing 2 = .ok (.invokevirtual 422, 3) := by decide +kernel
theorem dX10_nothing_5 : decode cX10_nothing 5 = .ok (.ifCond .eq 12, 3) := by decide +kernel
theorem dX10_nothing_8 : decode cX10_nothing 8 = .ok (.iload_n 2, 1) := by decide +kernel
theorem dX10_nothing_9 : decode cX10_nothing 9 = .ok (.iconst 0, 1) := by decide +kernel
theorem dX10_nothing_10 : decode cX10_nothing 10 = .ok (.iconst 1, 1) := by decide +kernel
theorem dX10_nothing_11 : decode cX10_nothing 11 = .ok (.invokestatic 325, 3) := by decide +kernel
theorem dX10_nothing_14 : decode cX10_nothing 14 = .ok (.ifCond .ne 5, 3) := by decide +kernel
theorem dX10_nothing_17 : decode cX10_nothing 17 = .ok (.iconst (-1), 1) := by decide +kernel
theorem dX10_nothing_18 : decode cX10_nothing 18 = .ok (.ireturn, 1) := by decide +kernel
theorem dX10_nothing_19 : decode cX10_nothing 19 = .ok (.aload_n 0, 1) := by decide +kernel
theorem dX10_nothing_20 : decode cX10_nothing 20 = .ok (.invokevirtual 335, 3) := by decide +kernel
theorem dX10_nothing_23 : decode cX10_nothing 23 = .ok (.aload_n 0, 1) := by decide +kernel
theorem dX10_nothing_24 : decode cX10_nothing 24 = .ok (.iload_n 1, 1) := by decide +kernel
theorem dX10_nothing_25 : decode cX10_nothing 25 = .ok (.invokevirtual 360, 3) := by decide +kernel
theorem dX10_nothing_28 : decode cX10_nothing 28 = .ok (.ifCond .eq 14, 3) := by decide +kernel
theorem dX10_nothing_31 : decode cX10_nothing 31 = .ok (.iload_n 2, 1) := by decide +kernel
theorem dX10_nothing_32 : decode cX10_nothing 32 = .ok (.ifCond .ne 7, 3) := by decide +kernel
theorem dX10_nothing_35 : decode cX10_nothing 35 = .ok (.iconst 0, 1) := by decide +kernel
theorem dX10_nothing_36 : decode cX10_nothing 36 = .ok (.goto 5, 3) := by decide +kernel
theorem dX10_nothing_39 : decode cX10_nothing 39 = .ok (.bipush (-2), 2) := by decide +kernel
theorem dX10_nothing_41 : decode cX10_nothing 41 = .ok (.ireturn, 1) := by decide +kernel
theorem dX10_nothing_42 : decode cX10_nothing 42 = .ok (.iload_n 2, 1) := by decide +kernel
theorem dX10_nothing_43 : decode cX10_nothing 43 = .ok (.iconst 1, 1) := by decide +kernel
theorem dX10_nothing_44 : decode cX10_nothing 44 = .ok (.if_icmp .ne 12, 3) := by decide +kernel
theorem dX10_nothing_47 : decode cX10_nothing 47 = .ok (.aload_n 0, 1) := by decide +kernel
theorem dX10_nothing_48 : decode cX10_nothing 48 = .ok (.iload_n 1, 1) := by decide +kernel
theorem dX10_nothing_49 : decode cX10_nothing 49 = .ok (.iconst 1, 1) := by decide +kernel
theorem dX10_nothing_50 : decode cX10_nothing 50 = .ok (.iconst 0, 1) := by decide +kernel
theorem dX10_nothing_51 : decode cX10_nothing 51 = .ok (.iconst 0, 1) := by decide +kernel
theorem dX10_nothing_52 : decode cX10_nothing 52 = .ok (.invokevirtual 462, 3) := by decide +kernel
theorem dX10_nothing_55 : decode cX10_nothing 55 = .ok (.ireturn, 1) := by decide +kernel
theorem dX10_nothing_56 : decode cX10_nothing 56 = .ok (.aload_n 0, 1) := by decide +kernel
theorem dX10_nothing_57 : decode cX10_nothing 57 = .ok (.invokevirtual 456, 3) := by decide +kernel
theorem dX10_nothing_60 : decode cX10_nothing 60 = .ok (.istore_n 3, 1) := by decide +kernel
theorem dX10_nothing_61 : decode cX10_nothing 61 = .ok (.iconst 0, 1) := by decide +kernel
theorem dX10_nothing_62 : decode cX10_nothing 62 = .ok (.istore 4, 2) := by decide +kernel
theorem dX10_nothing_64 : decode cX10_nothing 64 = .ok (.iconst 1, 1) := by decide +kernel
theorem dX10_nothing_65 : decode cX10_nothing 65 = .ok (.istore 5, 2) := by decide +kernel
theorem dX10_nothing_67 : decode cX10_nothing 67 = .ok (.iload 5, 2) := by decide +kernel
theorem dX10_nothing_69 : decode cX10_nothing 69 = .ok (.iconst 1, 1) := by decide +kernel
theorem dX10_nothing_70 : decode cX10_nothing 70 = .ok (.aload_n 0, 1) := by decide +kernel
theorem dX10_nothing_71 : decode cX10_nothing 71 = .ok (.getfield 64, 3) := by decide +kernel
theorem dX10_nothing_74 : decode cX10_nothing 74 = .ok (.aload_n 0, 1) := by decide +kernel
theorem dX10_nothing_75 : decode cX10_nothing 75 = .ok (.getfield 239, 3) := by decide +kernel
theorem dX10_nothing_78 : decode cX10_nothing 78 = .ok (.iaload, 1) := by decide +kernel
theorem dX10_nothing_79 : decode cX10_nothing 79 = .ok (.ishl, 1) := by decide +kernel
theorem dX10_nothing_80 : decode cX10_nothing 80 = .ok (.if_icmp .ge 63, 3) := by decide +kernel
theorem dX10_nothing_83 : decode cX10_nothing 83 = .ok (.iload 5, 2) := by decide +kernel
theorem dX10_nothing_85 : decode cX10_nothing 85 = .ok (.iload_n 3, 1) := by decide +kernel
theorem dX10_nothing_86 : decode cX10_nothing 86 = .ok (.iconst (-1), 1) := by decide +kernel
theorem dX10_nothing_87 : decode cX10_nothing 87 = .ok (.ixor, 1) := by decide +kernel
theorem dX10_nothing_88 : decode cX10_nothing 88 = .ok (.iand, 1) := by decide +kernel
theorem dX10_nothing_89 : decode cX10_nothing 89 = .ok (.ifCond .eq 6, 3) := by decide +kernel
theorem dX10_nothing_92 : decode cX10_nothing 92 = .ok (.goto 45, 3) := by decide +kernel
theorem dX10_nothing_95 : decode cX10_nothing 95 = .ok (.aload_n 0, 1) := by decide +kernel
theorem dX10_nothing_96 : decode cX10_nothing 96 = .ok (.iload 5, 2) := by decide +kernel
theorem dX10_nothing_98 : decode cX10_nothing 98 = .ok (.iload_n 1, 1) := by decide +kernel
theorem dX10_nothing_99 : decode cX10_nothing 99 = .ok (.aload_n 0, 1) := by decide +kernel
theorem dX10_nothing_100 : decode cX10_nothing 100 = .ok (.getfield 122, 3) := by decide +kernel
theorem dX10_nothing_103 : decode cX10_nothing 103 = .ok (.bipush 20, 2) := by decide +kernel
theorem dX10_nothing_105 : decode cX10_nothing 105 = .ok (.iload_n 1, 1) := by decide +kernel
theorem dX10_nothing_106 : decode cX10_nothing 106 = .ok (.iadd, 1) := by decide +kernel
theorem dX10_nothing_107 : decode cX10_nothing 107 = .ok (.iaload, 1) := by decide +kernel
theorem dX10_nothing_108 : decode cX10_nothing 108 = .ok (.aload_n 0, 1) := by decide +kernel
theorem dX10_nothing_109 : decode cX10_nothing 109 = .ok (.getfield 122, 3) := by decide +kernel
theorem dX10_nothing_112 : decode cX10_nothing 112 = .ok (.bipush 26, 2) := by decide +kernel
theorem dX10_nothing_114 : decode cX10_nothing 114 = .ok (.iload_n 1, 1) := by decide +kernel
theorem dX10_nothing_115 : decode cX10_nothing 115 = .ok (.iadd, 1) := by decide +kernel
theorem dX10_nothing_116 : decode cX10_nothing 116 = .ok (.iaload, 1) := by decide +kernel
theorem dX10_nothing_117 : decode cX10_nothing 117 = .ok (.invokevirtual 391, 3) := by decide +kernel
theorem dX10_nothing_120 : decode cX10_nothing 120 = .ok (.aload_n 0, 1) := by decide +kernel
theorem dX10_nothing_121 : decode cX10_nothing 121 = .ok (.getfield 372, 3) := by decide +kernel
theorem dX10_nothing_124 : decode cX10_nothing 124 = .ok (.ifCond .ne 13, 3) := by decide +kernel
theorem dX10_nothing_127 : decode cX10_nothing 127 = .ok (.aload_n 0, 1) := by decide +kernel
theorem dX10_nothing_128 : decode cX10_nothing 128 = .ok (.getfield 375, 3) := by decide +kernel
theorem dX10_nothing_131 : decode cX10_nothing 131 = .ok (.ifCond .ne 6, 3) := by decide +kernel
theorem dX10_nothing_134 : decode cX10_nothing 134 = .ok (.iinc 4 1, 3) := by decide +kernel
theorem dX10_nothing_137 : decode cX10_nothing 137 = .ok (.iinc 5 1, 3) := by decide +kernel
theorem dX10_nothing_140 : decode cX10_nothing 140 = .ok (.goto (-73), 3) := by decide +kernel
theorem dX10_nothing_143 : decode cX10_nothing 143 = .ok (.iload 4, 2) := by decide +kernel
theorem dX10_nothing_145 : decode cX10_nothing 145 = .ok (.ireturn, 1) := by decide +kernel
theorem dX10_safe_0 : decode cX10_safe 0 = .ok (.aload_n 0, 1) := by decide +kernel
theorem dX10_safe_1 : decode cX10_safe 1 = .ok (.iload_n 1, 1) := by decide +kernel
theorem dX10_safe_2 : decode cX10_safe 2 = .ok (.invokevirtual 422, 3) := by decide +kernel
theorem dX10_safe_5 : decode cX10_safe 5 = .ok (.ifCond .eq 12, 3) := by decide +kernel
theorem dX10_safe_8 : decode cX10_safe 8 = .ok (.iload_n 2, 1) := by decide +kernel
theorem dX10_safe_9 : decode cX10_safe 9 = .ok (.iconst 0, 1) := by decide +kernel
theorem dX10_safe_10 : decode cX10_safe 10 = .ok (.iconst 1, 1) := by decide +kernel
theorem dX10_safe_11 : decode cX10_safe 11 = .ok (.invokestatic 325, 3) := by decide +kernel
theorem dX10_safe_14 : decode cX10_safe 14 = .ok (.ifCond .ne 5, 3) := by decide +kernel
theorem dX10_safe_17 : decode cX10_safe 17 = .ok (.iconst (-1), 1) := by decide +kernel
theorem dX10_safe_18 : decode cX10_safe 18 = .ok (.ireturn, 1) := by decide +kernel
theorem dX10_safe_19 : decode cX10_safe 19 = .ok (.aload_n 0, 1) := by decide +kernel
theorem dX10_safe_20 : decode cX10_safe 20 = .ok (.invokevirtual 335, 3) := by decide +kernel
theorem dX10_safe_23 : decode cX10_safe 23 = .ok (.aload_n 0, 1) := by decide +kernel
theorem dX10_safe_24 : decode cX10_safe 24 = .ok (.iload_n 1, 1) := by decide +kernel
theorem dX10_safe_25 : decode cX10_safe 25 = .ok (.invokevirtual 360, 3) := by decide +kernel
theorem dX10_safe_28 : decode cX10_safe 28 = .ok (.ifCond .eq 6, 3) := by decide +kernel
theorem dX10_safe_31 : decode cX10_safe 31 = .ok (.bipush (-3), 2) := by decide +kernel
theorem dX10_safe_33 : decode cX10_safe 33 = .ok (.ireturn, 1) := by decide +kernel
theorem dX10_safe_34 : decode cX10_safe 34 = .ok (.iconst 0, 1) := by decide +kernel
theorem dX10_safe_35 : decode cX10_safe 35 = .ok (.istore_n 3, 1) := by decide +kernel
theorem dX10_safe_36 : decode cX10_safe 36 = .ok (.bipush (-2), 2) := by decide +kernel
theorem dX10_safe_38 : decode cX10_safe 38 = .ok (.istore 4, 2) := by decide +kernel
theorem dX10_safe_40 : decode cX10_safe 40 = .ok (.iconst 0, 1) := by decide +kernel
theorem dX10_safe_41 : decode cX10_safe 41 = .ok (.istore 5, 2) := by decide +kernel
theorem dX10_safe_43 : decode cX10_safe 43 = .ok (.iconst 0, 1) := by decide +kernel
theorem dX10_safe_44 : decode cX10_safe 44 = .ok (.istore 6, 2) := by decide +kernel
theorem dX10_safe_46 : decode cX10_safe 46 = .ok (.iload 6, 2) := by decide +kernel
theorem dX10_safe_48 : decode cX10_safe 48 = .ok (.bipush 10, 2) := by decide +kernel
theorem dX10_safe_50 : decode cX10_safe 50 = .ok (.aload_n 0, 1) := by decide +kernel
theorem dX10_safe_51 : decode cX10_safe 51 = .ok (.getfield 76, 3) := by decide +kernel
theorem dX10_safe_54 : decode cX10_safe 54 = .ok (.aload_n 0, 1) := by decide +kernel
theorem dX10_safe_55 : decode cX10_safe 55 = .ok (.getfield 239, 3) := by decide +kernel
theorem dX10_safe_58 : decode cX10_safe 58 = .ok (.iaload, 1) := by decide +kernel
theorem dX10_safe_59 : decode cX10_safe 59 = .ok (.imul, 1) := by decide +kernel
theorem dX10_safe_60 : decode cX10_safe 60 = .ok (.bipush 10, 2) := by decide +kernel
theorem dX10_safe_62 : decode cX10_safe 62 = .ok (.iadd, 1) := by decide +kernel
theorem dX10_safe_63 : decode cX10_safe 63 = .ok (.if_icmp .ge 95, 3) := by decide +kernel
theorem dX10_safe_66 : decode cX10_safe 66 = .ok (.aload_n 0, 1) := by decide +kernel
theorem dX10_safe_67 : decode cX10_safe 67 = .ok (.iload_n 1, 1) := by decide +kernel
theorem dX10_safe_68 : decode cX10_safe 68 = .ok (.iload 6, 2) := by decide +kernel
theorem dX10_safe_70 : decode cX10_safe 70 = .ok (.bipush 10, 2) := by decide +kernel
theorem dX10_safe_72 : decode cX10_safe 72 = .ok (.irem, 1) := by decide +kernel
theorem dX10_safe_73 : decode cX10_safe 73 = .ok (.iload 6, 2) := by decide +kernel
theorem dX10_safe_75 : decode cX10_safe 75 = .ok (.bipush 10, 2) := by decide +kernel
theorem dX10_safe_77 : decode cX10_safe 77 = .ok (.idiv, 1) := by decide +kernel
theorem dX10_safe_78 : decode cX10_safe 78 = .ok (.invokevirtual 398, 3) := by decide +kernel
theorem dX10_safe_81 : decode cX10_safe 81 = .ok (.ifCond .le 6, 3) := by decide +kernel
theorem dX10_safe_84 : decode cX10_safe 84 = .ok (.goto 68, 3) := by decide +kernel
theorem dX10_safe_87 : decode cX10_safe 87 = .ok (.iinc 3 1, 3) := by decide +kernel
theorem dX10_safe_90 : decode cX10_safe 90 = .ok (.aload_n 0, 1) := by decide +kernel
theorem dX10_safe_91 : decode cX10_safe 91 = .ok (.getfield 122, 3) := by decide +kernel
theorem dX10_safe_94 : decode cX10_safe 94 = .ok (.bipush 20, 2) := by decide +kernel
theorem dX10_safe_96 : decode cX10_safe 96 = .ok (.iload_n 1, 1) := by decide +kernel
theorem dX10_safe_97 : decode cX10_safe 97 = .ok (.iadd, 1) := by decide +kernel
theorem dX10_safe_98 : decode cX10_safe 98 = .ok (.iaload, 1) := by decide +kernel
theorem dX10_safe_99 : decode cX10_safe 99 = .ok (.iload 6, 2) := by decide +kernel
theorem dX10_safe_101 : decode cX10_safe 101 = .ok (.bipush 10, 2) := by decide +kernel
theorem dX10_safe_103 : decode cX10_safe 103 = .ok (.irem, 1) := by decide +kernel
theorem dX10_safe_104 : decode cX10_safe 104 = .ok (.invokestatic 348, 3) := by decide +kernel
theorem dX10_safe_107 : decode cX10_safe 107 = .ok (.aload_n 0, 1) := by decide +kernel
theorem dX10_safe_108 : decode cX10_safe 108 = .ok (.getfield 122, 3) := by decide +kernel
theorem dX10_safe_111 : decode cX10_safe 111 = .ok (.bipush 26, 2) := by decide +kernel
theorem dX10_safe_113 : decode cX10_safe 113 = .ok (.iload_n 1, 1) := by decide +kernel
theorem dX10_safe_114 : decode cX10_safe 114 = .ok (.iadd, 1) := by decide +kernel
theorem dX10_safe_115 : decode cX10_safe 115 = .ok (.iaload, 1) := by decide +kernel
theorem dX10_safe_116 : decode cX10_safe 116 = .ok (.iload 6, 2) := by decide +kernel
theorem dX10_safe_118 : decode cX10_safe 118 = .ok (.bipush 10, 2) := by decide +kernel
theorem dX10_safe_120 : decode cX10_safe 120 = .ok (.idiv, 1) := by decide +kernel
theorem dX10_safe_121 : decode cX10_safe 121 = .ok (.invokestatic 348, 3) := by decide +kernel
theorem dX10_safe_124 : decode cX10_safe 124 = .ok (.invokestatic 351, 3) := by decide +kernel
theorem dX10_safe_127 : decode cX10_safe 127 = .ok (.istore 7, 2) := by decide +kernel
theorem dX10_safe_129 : decode cX10_safe 129 = .ok (.iload 4, 2) := by decide +kernel
theorem dX10_safe_131 : decode cX10_safe 131 = .ok (.ifCond .lt 13, 3) := by decide +kernel
theorem dX10_safe_134 : decode cX10_safe 134 = .ok (.iload 7, 2) := by decide +kernel
theorem dX10_safe_136 : decode cX10_safe 136 = .ok (.iload 5, 2) := by decide +kernel
theorem dX10_safe_138 : decode cX10_safe 138 = .ok (.if_icmp .lt 6, 3) := by decide +kernel
theorem dX10_safe_141 : decode cX10_safe 141 = .ok (.goto 11, 3) := by decide +kernel
theorem dX10_safe_144 : decode cX10_safe 144 = .ok (.iload 6, 2) := by decide +kernel
theorem dX10_safe_146 : decode cX10_safe 146 = .ok (.istore 4, 2) := by decide +kernel
theorem dX10_safe_148 : decode cX10_safe 148 = .ok (.iload 7, 2) := by decide +kernel
theorem dX10_safe_150 : decode cX10_safe 150 = .ok (.istore 5, 2) := by decide +kernel
theorem dX10_safe_152 : decode cX10_safe 152 = .ok (.iinc 6 1, 3) := by decide +kernel
theorem dX10_safe_155 : decode cX10_safe 155 = .ok (.goto (-109), 3) := by decide +kernel
theorem dX10_safe_158 : decode cX10_safe 158 = .ok (.iload_n 2, 1) := by decide +kernel
theorem dX10_safe_159 : decode cX10_safe 159 = .ok (.ifCond .ne 7, 3) := by decide +kernel
theorem dX10_safe_162 : decode cX10_safe 162 = .ok (.iload_n 3, 1) := by decide +kernel
theorem dX10_safe_163 : decode cX10_safe 163 = .ok (.goto 5, 3) := by decide +kernel
theorem dX10_safe_166 : decode cX10_safe 166 = .ok (.iload 4, 2) := by decide +kernel
theorem dX10_safe_168 : decode cX10_safe 168 = .ok (.ireturn, 1) := by decide +kernel
theorem dX10_cutBest_0 : decode cX10_cutBest 0 = .ok (.aload_n 0, 1) := by decide +kernel
theorem dX10_cutBest_1 : decode cX10_cutBest 1 = .ok (.invokevirtual 335, 3) := by decide +kernel
theorem dX10_cutBest_4 : decode cX10_cutBest 4 = .ok (.aload_n 0, 1) := by decide +kernel
theorem dX10_cutBest_5 : decode cX10_cutBest 5 = .ok (.invokevirtual 450, 3) := by decide +kernel
theorem dX10_cutBest_8 : decode cX10_cutBest 8 = .ok (.istore_n 1, 1) := by decide +kernel
theorem dX10_cutBest_9 : decode cX10_cutBest 9 = .ok (.bipush (-2), 2) := by decide +kernel
theorem dX10_cutBest_11 : decode cX10_cutBest 11 = .ok (.istore_n 2, 1) := by decide +kernel
theorem dX10_cutBest_12 : decode cX10_cutBest 12 = .ok (.iconst 0, 1) := by decide +kernel
theorem dX10_cutBest_13 : decode cX10_cutBest 13 = .ok (.istore_n 3, 1) := by decide +kernel
theorem dX10_cutBest_14 : decode cX10_cutBest 14 = .ok (.iload_n 3, 1) := by decide +kernel
theorem dX10_cutBest_15 : decode cX10_cutBest 15 = .ok (.aload_n 0, 1) := by decide +kernel
theorem dX10_cutBest_16 : decode cX10_cutBest 16 = .ok (.getfield 64, 3) := by decide +kernel
theorem dX10_cutBest_19 : decode cX10_cutBest 19 = .ok (.aload_n 0, 1) := by decide +kernel
theorem dX10_cutBest_20 : decode cX10_cutBest 20 = .ok (.getfield 239, 3) := by decide +kernel
theorem dX10_cutBest_23 : decode cX10_cutBest 23 = .ok (.iaload, 1) := by decide +kernel
theorem dX10_cutBest_24 : decode cX10_cutBest 24 = .ok (.if_icmp .ge 59, 3) := by decide +kernel
theorem dX10_cutBest_27 : decode cX10_cutBest 27 = .ok (.aload_n 0, 1) := by decide +kernel
theorem dX10_cutBest_28 : decode cX10_cutBest 28 = .ok (.getfield 119, 3) := by decide +kernel
theorem dX10_cutBest_31 : decode cX10_cutBest 31 = .ok (.bipush 46, 2) := by decide +kernel
theorem dX10_cutBest_33 : decode cX10_cutBest 33 = .ok (.iload_n 3, 1) := by decide +kernel
theorem dX10_cutBest_34 : decode cX10_cutBest 34 = .ok (.iadd, 1) := by decide +kernel
theorem dX10_cutBest_35 : decode cX10_cutBest 35 = .ok (.iaload, 1) := by decide +kernel
theorem dX10_cutBest_36 : decode cX10_cutBest 36 = .ok (.iconst 1, 1) := by decide +kernel
theorem dX10_cutBest_37 : decode cX10_cutBest 37 = .ok (.if_icmp .ne 6, 3) := by decide +kernel
theorem dX10_cutBest_40 : decode cX10_cutBest 40 = .ok (.goto 37, 3) := by decide +kernel
theorem dX10_cutBest_43 : decode cX10_cutBest 43 = .ok (.aload_n 0, 1) := by decide +kernel
theorem dX10_cutBest_44 : decode cX10_cutBest 44 = .ok (.invokevirtual 335, 3) := by decide +kernel
theorem dX10_cutBest_47 : decode cX10_cutBest 47 = .ok (.aload_n 0, 1) := by decide +kernel
theorem dX10_cutBest_48 : decode cX10_cutBest 48 = .ok (.getfield 122, 3) := by decide +kernel
theorem dX10_cutBest_51 : decode cX10_cutBest 51 = .ok (.bipush 46, 2) := by decide +kernel
theorem dX10_cutBest_53 : decode cX10_cutBest 53 = .ok (.iload_n 3, 1) := by decide +kernel
theorem dX10_cutBest_54 : decode cX10_cutBest 54 = .ok (.iadd, 1) := by decide +kernel
theorem dX10_cutBest_55 : decode cX10_cutBest 55 = .ok (.iconst 1, 1) := by decide +kernel
theorem dX10_cutBest_56 : decode cX10_cutBest 56 = .ok (.iastore, 1) := by decide +kernel
theorem dX10_cutBest_57 : decode cX10_cutBest 57 = .ok (.aload_n 0, 1) := by decide +kernel
theorem dX10_cutBest_58 : decode cX10_cutBest 58 = .ok (.invokevirtual 450, 3) := by decide +kernel
theorem dX10_cutBest_61 : decode cX10_cutBest 61 = .ok (.istore 4, 2) := by decide +kernel
theorem dX10_cutBest_63 : decode cX10_cutBest 63 = .ok (.iload 4, 2) := by decide +kernel
theorem dX10_cutBest_65 : decode cX10_cutBest 65 = .ok (.iload_n 1, 1) := by decide +kernel
theorem dX10_cutBest_66 : decode cX10_cutBest 66 = .ok (.if_icmp .gt 6, 3) := by decide +kernel
theorem dX10_cutBest_69 : decode cX10_cutBest 69 = .ok (.goto 8, 3) := by decide +kernel
theorem dX10_cutBest_72 : decode cX10_cutBest 72 = .ok (.iload_n 3, 1) := by decide +kernel
theorem dX10_cutBest_73 : decode cX10_cutBest 73 = .ok (.istore_n 2, 1) := by decide +kernel
theorem dX10_cutBest_74 : decode cX10_cutBest 74 = .ok (.iload 4, 2) := by decide +kernel
theorem dX10_cutBest_76 : decode cX10_cutBest 76 = .ok (.istore_n 1, 1) := by decide +kernel
theorem dX10_cutBest_77 : decode cX10_cutBest 77 = .ok (.iinc 3 1, 3) := by decide +kernel
theorem dX10_cutBest_80 : decode cX10_cutBest 80 = .ok (.goto (-66), 3) := by decide +kernel
theorem dX10_cutBest_83 : decode cX10_cutBest 83 = .ok (.iload_n 2, 1) := by decide +kernel
theorem dX10_cutBest_84 : decode cX10_cutBest 84 = .ok (.ireturn, 1) := by decide +kernel
theorem dX10_worth_0 : decode cX10_worth 0 = .ok (.aload_n 0, 1) := by decide +kernel
theorem dX10_worth_1 : decode cX10_worth 1 = .ok (.iload_n 1, 1) := by decide +kernel
theorem dX10_worth_2 : decode cX10_worth 2 = .ok (.invokevirtual 422, 3) := by decide +kernel
theorem dX10_worth_5 : decode cX10_worth 5 = .ok (.ifCond .ne 5, 3) := by decide +kernel
theorem dX10_worth_8 : decode cX10_worth 8 = .ok (.iconst (-1), 1) := by decide +kernel
theorem dX10_worth_9 : decode cX10_worth 9 = .ok (.ireturn, 1) := by decide +kernel
theorem dX10_worth_10 : decode cX10_worth 10 = .ok (.aload_n 0, 1) := by decide +kernel
theorem dX10_worth_11 : decode cX10_worth 11 = .ok (.invokevirtual 335, 3) := by decide +kernel
theorem dX10_worth_14 : decode cX10_worth 14 = .ok (.aload_n 0, 1) := by decide +kernel
theorem dX10_worth_15 : decode cX10_worth 15 = .ok (.aload_n 0, 1) := by decide +kernel
theorem dX10_worth_16 : decode cX10_worth 16 = .ok (.iload_n 1, 1) := by decide +kernel
theorem dX10_worth_17 : decode cX10_worth 17 = .ok (.invokevirtual 388, 3) := by decide +kernel
theorem dX10_worth_20 : decode cX10_worth 20 = .ok (.invokevirtual 471, 3) := by decide +kernel
theorem dX10_worth_23 : decode cX10_worth 23 = .ok (.ireturn, 1) := by decide +kernel
theorem dX10_give_0 : decode cX10_give 0 = .ok (.aload_n 0, 1) := by decide +kernel
theorem dX10_give_1 : decode cX10_give 1 = .ok (.iload_n 1, 1) := by decide +kernel
theorem dX10_give_2 : decode cX10_give 2 = .ok (.invokevirtual 426, 3) := by decide +kernel
theorem dX10_give_5 : decode cX10_give 5 = .ok (.ifCond .ne 5, 3) := by decide +kernel
theorem dX10_give_8 : decode cX10_give 8 = .ok (.iconst (-1), 1) := by decide +kernel
theorem dX10_give_9 : decode cX10_give 9 = .ok (.ireturn, 1) := by decide +kernel
theorem dX10_give_10 : decode cX10_give 10 = .ok (.aload_n 0, 1) := by decide +kernel
theorem dX10_give_11 : decode cX10_give 11 = .ok (.getfield 119, 3) := by decide +kernel
theorem dX10_give_14 : decode cX10_give 14 = .ok (.bipush 46, 2) := by decide +kernel
theorem dX10_give_16 : decode cX10_give 16 = .ok (.iload_n 1, 1) := by decide +kernel
theorem dX10_give_17 : decode cX10_give 17 = .ok (.iadd, 1) := by decide +kernel
theorem dX10_give_18 : decode cX10_give 18 = .ok (.iaload, 1) := by decide +kernel
theorem dX10_give_19 : decode cX10_give 19 = .ok (.iconst 1, 1) := by decide +kernel
theorem dX10_give_20 : decode cX10_give 20 = .ok (.if_icmp .ne 6, 3) := by decide +kernel
theorem dX10_give_23 : decode cX10_give 23 = .ok (.bipush (-2), 2) := by decide +kernel
theorem dX10_give_25 : decode cX10_give 25 = .ok (.ireturn, 1) := by decide +kernel
theorem dX10_give_26 : decode cX10_give 26 = .ok (.aload_n 0, 1) := by decide +kernel
theorem dX10_give_27 : decode cX10_give 27 = .ok (.invokevirtual 335, 3) := by decide +kernel
theorem dX10_give_30 : decode cX10_give 30 = .ok (.aload_n 0, 1) := by decide +kernel
theorem dX10_give_31 : decode cX10_give 31 = .ok (.invokevirtual 450, 3) := by decide +kernel
theorem dX10_give_34 : decode cX10_give 34 = .ok (.istore_n 2, 1) := by decide +kernel
theorem dX10_give_35 : decode cX10_give 35 = .ok (.bipush (-2), 2) := by decide +kernel
theorem dX10_give_37 : decode cX10_give 37 = .ok (.istore_n 3, 1) := by decide +kernel
theorem dX10_give_38 : decode cX10_give 38 = .ok (.iconst 0, 1) := by decide +kernel
theorem dX10_give_39 : decode cX10_give 39 = .ok (.istore 4, 2) := by decide +kernel
theorem dX10_give_41 : decode cX10_give 41 = .ok (.iload 4, 2) := by decide +kernel
theorem dX10_give_43 : decode cX10_give 43 = .ok (.aload_n 0, 1) := by decide +kernel
theorem dX10_give_44 : decode cX10_give 44 = .ok (.getfield 52, 3) := by decide +kernel
theorem dX10_give_47 : decode cX10_give 47 = .ok (.aload_n 0, 1) := by decide +kernel
theorem dX10_give_48 : decode cX10_give 48 = .ok (.getfield 239, 3) := by decide +kernel
theorem dX10_give_51 : decode cX10_give 51 = .ok (.iaload, 1) := by decide +kernel
theorem dX10_give_52 : decode cX10_give 52 = .ok (.if_icmp .ge 76, 3) := by decide +kernel
theorem dX10_give_55 : decode cX10_give 55 = .ok (.aload_n 0, 1) := by decide +kernel
theorem dX10_give_56 : decode cX10_give 56 = .ok (.getfield 119, 3) := by decide +kernel
theorem dX10_give_59 : decode cX10_give 59 = .ok (.bipush 38, 2) := by decide +kernel
theorem dX10_give_61 : decode cX10_give 61 = .ok (.iload_n 1, 1) := by decide +kernel
theorem dX10_give_62 : decode cX10_give 62 = .ok (.iadd, 1) := by decide +kernel
theorem dX10_give_63 : decode cX10_give 63 = .ok (.iaload, 1) := by decide +kernel
theorem dX10_give_64 : decode cX10_give 64 = .ok (.iload 4, 2) := by decide +kernel
theorem dX10_give_66 : decode cX10_give 66 = .ok (.if_icmp .eq 56, 3) := by decide +kernel
theorem dX10_give_69 : decode cX10_give 69 = .ok (.aload_n 0, 1) := by decide +kernel
theorem dX10_give_70 : decode cX10_give 70 = .ok (.getfield 119, 3) := by decide +kernel
theorem dX10_give_73 : decode cX10_give 73 = .ok (.bipush 32, 2) := by decide +kernel
theorem dX10_give_75 : decode cX10_give 75 = .ok (.iload 4, 2) := by decide +kernel
theorem dX10_give_77 : decode cX10_give 77 = .ok (.iadd, 1) := by decide +kernel
theorem dX10_give_78 : decode cX10_give 78 = .ok (.iaload, 1) := by decide +kernel
theorem dX10_give_79 : decode cX10_give 79 = .ok (.iconst 1, 1) := by decide +kernel
theorem dX10_give_80 : decode cX10_give 80 = .ok (.if_icmp .ne 6, 3) := by decide +kernel
theorem dX10_give_83 : decode cX10_give 83 = .ok (.goto 39, 3) := by decide +kernel
theorem dX10_give_86 : decode cX10_give 86 = .ok (.aload_n 0, 1) := by decide +kernel
theorem dX10_give_87 : decode cX10_give 87 = .ok (.invokevirtual 335, 3) := by decide +kernel
theorem dX10_give_90 : decode cX10_give 90 = .ok (.aload_n 0, 1) := by decide +kernel
theorem dX10_give_91 : decode cX10_give 91 = .ok (.getfield 122, 3) := by decide +kernel
theorem dX10_give_94 : decode cX10_give 94 = .ok (.bipush 38, 2) := by decide +kernel
theorem dX10_give_96 : decode cX10_give 96 = .ok (.iload_n 1, 1) := by decide +kernel
theorem dX10_give_97 : decode cX10_give 97 = .ok (.iadd, 1) := by decide +kernel
theorem dX10_give_98 : decode cX10_give 98 = .ok (.iload 4, 2) := by decide +kernel
theorem dX10_give_100 : decode cX10_give 100 = .ok (.iastore, 1) := by decide +kernel
theorem dX10_give_101 : decode cX10_give 101 = .ok (.aload_n 0, 1) := by decide +kernel
theorem dX10_give_102 : decode cX10_give 102 = .ok (.invokevirtual 450, 3) := by decide +kernel
theorem dX10_give_105 : decode cX10_give 105 = .ok (.istore 5, 2) := by decide +kernel
theorem dX10_give_107 : decode cX10_give 107 = .ok (.iload 5, 2) := by decide +kernel
theorem dX10_give_109 : decode cX10_give 109 = .ok (.iload_n 2, 1) := by decide +kernel
theorem dX10_give_110 : decode cX10_give 110 = .ok (.if_icmp .gt 6, 3) := by decide +kernel
theorem dX10_give_113 : decode cX10_give 113 = .ok (.goto 9, 3) := by decide +kernel
theorem dX10_give_116 : decode cX10_give 116 = .ok (.iload 4, 2) := by decide +kernel
theorem dX10_give_118 : decode cX10_give 118 = .ok (.istore_n 3, 1) := by decide +kernel
theorem dX10_give_119 : decode cX10_give 119 = .ok (.iload 5, 2) := by decide +kernel
theorem dX10_give_121 : decode cX10_give 121 = .ok (.istore_n 2, 1) := by decide +kernel
theorem dX10_give_122 : decode cX10_give 122 = .ok (.iinc 4 1, 3) := by decide +kernel
theorem dX10_give_125 : decode cX10_give 125 = .ok (.goto (-84), 3) := by decide +kernel
theorem dX10_give_128 : decode cX10_give 128 = .ok (.iload_n 3, 1) := by decide +kernel
theorem dX10_give_129 : decode cX10_give 129 = .ok (.ireturn, 1) := by decide +kernel
theorem dX10_year_0 : decode cX10_year 0 = .ok (.aload_n 0, 1) := by decide +kernel
theorem dX10_year_1 : decode cX10_year 1 = .ok (.iload_n 1, 1) := by decide +kernel
theorem dX10_year_2 : decode cX10_year 2 = .ok (.invokevirtual 422, 3) := by decide +kernel
theorem dX10_year_5 : decode cX10_year 5 = .ok (.ifCond .eq 20, 3) := by decide +kernel
theorem dX10_year_8 : decode cX10_year 8 = .ok (.iload_n 2, 1) := by decide +kernel
theorem dX10_year_9 : decode cX10_year 9 = .ok (.invokestatic 435, 3) := by decide +kernel
theorem dX10_year_12 : decode cX10_year 12 = .ok (.ifCond .eq 13, 3) := by decide +kernel
theorem dX10_year_15 : decode cX10_year 15 = .ok (.iload_n 3, 1) := by decide +kernel
theorem dX10_year_16 : decode cX10_year 16 = .ok (.iconst 1, 1) := by decide +kernel
theorem dX10_year_17 : decode cX10_year 17 = .ok (.bipush 20, 2) := by decide +kernel
theorem dX10_year_19 : decode cX10_year 19 = .ok (.invokestatic 325, 3) := by decide +kernel
theorem dX10_year_22 : decode cX10_year 22 = .ok (.ifCond .ne 5, 3) := by decide +kernel
theorem dX10_year_25 : decode cX10_year 25 = .ok (.iconst (-1), 1) := by decide +kernel
theorem dX10_year_26 : decode cX10_year 26 = .ok (.ireturn, 1) := by decide +kernel
theorem dX10_year_27 : decode cX10_year 27 = .ok (.iconst 0, 1) := by decide +kernel
theorem dX10_year_28 : decode cX10_year 28 = .ok (.istore 4, 2) := by decide +kernel
theorem dX10_year_30 : decode cX10_year 30 = .ok (.iconst 0, 1) := by decide +kernel
theorem dX10_year_31 : decode cX10_year 31 = .ok (.istore 5, 2) := by decide +kernel
theorem dX10_year_33 : decode cX10_year 33 = .ok (.iload 5, 2) := by decide +kernel
theorem dX10_year_35 : decode cX10_year 35 = .ok (.iload_n 3, 1) := by decide +kernel
theorem dX10_year_36 : decode cX10_year 36 = .ok (.if_icmp .ge 40, 3) := by decide +kernel
theorem dX10_year_39 : decode cX10_year 39 = .ok (.aload_n 0, 1) := by decide +kernel
theorem dX10_year_40 : decode cX10_year 40 = .ok (.invokevirtual 335, 3) := by decide +kernel
theorem dX10_year_43 : decode cX10_year 43 = .ok (.aload_n 0, 1) := by decide +kernel
theorem dX10_year_44 : decode cX10_year 44 = .ok (.dup, 1) := by decide +kernel
theorem dX10_year_45 : decode cX10_year 45 = .ok (.getfield 329, 3) := by decide +kernel
theorem dX10_year_48 : decode cX10_year 48 = .ok (.iload 5, 2) := by decide +kernel
theorem dX10_year_50 : decode cX10_year 50 = .ok (.iadd, 1) := by decide +kernel
theorem dX10_year_51 : decode cX10_year 51 = .ok (.putfield 329, 3) := by decide +kernel
theorem dX10_year_54 : decode cX10_year 54 = .ok (.aload_n 0, 1) := by decide +kernel
theorem dX10_year_55 : decode cX10_year 55 = .ok (.iload_n 2, 1) := by decide +kernel
theorem dX10_year_56 : decode cX10_year 56 = .ok (.invokevirtual 438, 3) := by decide +kernel
theorem dX10_year_59 : decode cX10_year 59 = .ok (.aload_n 0, 1) := by decide +kernel
theorem dX10_year_60 : decode cX10_year 60 = .ok (.iload_n 1, 1) := by decide +kernel
theorem dX10_year_61 : decode cX10_year 61 = .ok (.invokevirtual 360, 3) := by decide +kernel
theorem dX10_year_64 : decode cX10_year 64 = .ok (.ifCond .ne 6, 3) := by decide +kernel
theorem dX10_year_67 : decode cX10_year 67 = .ok (.iinc 4 1, 3) := by decide +kernel
theorem dX10_year_70 : decode cX10_year 70 = .ok (.iinc 5 1, 3) := by decide +kernel
theorem dX10_year_73 : decode cX10_year 73 = .ok (.goto (-40), 3) := by decide +kernel
theorem dX10_year_76 : decode cX10_year 76 = .ok (.iload 4, 2) := by decide +kernel
theorem dX10_year_78 : decode cX10_year 78 = .ok (.ireturn, 1) := by decide +kernel
theorem dX10_tell_0 : decode cX10_tell 0 = .ok (.aload_n 0, 1) := by decide +kernel
theorem dX10_tell_1 : decode cX10_tell 1 = .ok (.getfield 260, 3) := by decide +kernel
theorem dX10_tell_4 : decode cX10_tell 4 = .ok (.bipush 20, 2) := by decide +kernel
theorem dX10_tell_6 : decode cX10_tell 6 = .ok (.if_icmp .eq 36, 3) := by decide +kernel
theorem dX10_tell_9 : decode cX10_tell 9 = .ok (.iload_n 1, 1) := by decide +kernel
theorem dX10_tell_10 : decode cX10_tell 10 = .ok (.invokestatic 453, 3) := by decide +kernel
theorem dX10_tell_13 : decode cX10_tell 13 = .ok (.ifCond .eq 29, 3) := by decide +kernel
theorem dX10_tell_16 : decode cX10_tell 16 = .ok (.iload_n 2, 1) := by decide +kernel
theorem dX10_tell_17 : decode cX10_tell 17 = .ok (.invokestatic 453, 3) := by decide +kernel
theorem dX10_tell_20 : decode cX10_tell 20 = .ok (.ifCond .eq 22, 3) := by decide +kernel
theorem dX10_tell_23 : decode cX10_tell 23 = .ok (.iload_n 3, 1) := by decide +kernel
theorem dX10_tell_24 : decode cX10_tell 24 = .ok (.iconst (-1), 1) := by decide +kernel
theorem dX10_tell_25 : decode cX10_tell 25 = .ok (.iconst 1, 1) := by decide +kernel
theorem dX10_tell_26 : decode cX10_tell 26 = .ok (.invokestatic 325, 3) := by decide +kernel
theorem dX10_tell_29 : decode cX10_tell 29 = .ok (.ifCond .eq 13, 3) := by decide +kernel
theorem dX10_tell_32 : decode cX10_tell 32 = .ok (.iload 4, 2) := by decide +kernel
theorem dX10_tell_34 : decode cX10_tell 34 = .ok (.iconst (-1), 1) := by decide +kernel
theorem dX10_tell_35 : decode cX10_tell 35 = .ok (.iconst 1, 1) := by decide +kernel
theorem dX10_tell_36 : decode cX10_tell 36 = .ok (.invokestatic 325, 3) := by decide +kernel
theorem dX10_tell_39 : decode cX10_tell 39 = .ok (.ifCond .ne 5, 3) := by decide +kernel
theorem dX10_tell_42 : decode cX10_tell 42 = .ok (.iconst (-1), 1) := by decide +kernel
theorem dX10_tell_43 : decode cX10_tell 43 = .ok (.ireturn, 1) := by decide +kernel
theorem dX10_tell_44 : decode cX10_tell 44 = .ok (.aload_n 0, 1) := by decide +kernel
theorem dX10_tell_45 : decode cX10_tell 45 = .ok (.getfield 140, 3) := by decide +kernel
theorem dX10_tell_48 : decode cX10_tell 48 = .ok (.aload_n 0, 1) := by decide +kernel
theorem dX10_tell_49 : decode cX10_tell 49 = .ok (.getfield 260, 3) := by decide +kernel
theorem dX10_tell_52 : decode cX10_tell 52 = .ok (.bipush 10, 2) := by decide +kernel
theorem dX10_tell_54 : decode cX10_tell 54 = .ok (.iload_n 2, 1) := by decide +kernel
theorem dX10_tell_55 : decode cX10_tell 55 = .ok (.imul, 1) := by decide +kernel
theorem dX10_tell_56 : decode cX10_tell 56 = .ok (.iload_n 1, 1) := by decide +kernel
theorem dX10_tell_57 : decode cX10_tell 57 = .ok (.iadd, 1) := by decide +kernel
theorem dX10_tell_58 : decode cX10_tell 58 = .ok (.iastore, 1) := by decide +kernel
theorem dX10_tell_59 : decode cX10_tell 59 = .ok (.aload_n 0, 1) := by decide +kernel
theorem dX10_tell_60 : decode cX10_tell 60 = .ok (.getfield 143, 3) := by decide +kernel
theorem dX10_tell_63 : decode cX10_tell 63 = .ok (.aload_n 0, 1) := by decide +kernel
theorem dX10_tell_64 : decode cX10_tell 64 = .ok (.getfield 260, 3) := by decide +kernel
theorem dX10_tell_67 : decode cX10_tell 67 = .ok (.iload_n 3, 1) := by decide +kernel
theorem dX10_tell_68 : decode cX10_tell 68 = .ok (.iastore, 1) := by decide +kernel
theorem dX10_tell_69 : decode cX10_tell 69 = .ok (.aload_n 0, 1) := by decide +kernel
theorem dX10_tell_70 : decode cX10_tell 70 = .ok (.getfield 146, 3) := by decide +kernel
theorem dX10_tell_73 : decode cX10_tell 73 = .ok (.aload_n 0, 1) := by decide +kernel
theorem dX10_tell_74 : decode cX10_tell 74 = .ok (.getfield 260, 3) := by decide +kernel
theorem dX10_tell_77 : decode cX10_tell 77 = .ok (.iload 4, 2) := by decide +kernel
theorem dX10_tell_79 : decode cX10_tell 79 = .ok (.iastore, 1) := by decide +kernel
theorem dX10_tell_80 : decode cX10_tell 80 = .ok (.aload_n 0, 1) := by decide +kernel
theorem dX10_tell_81 : decode cX10_tell 81 = .ok (.dup, 1) := by decide +kernel
theorem dX10_tell_82 : decode cX10_tell 82 = .ok (.getfield 260, 3) := by decide +kernel
theorem dX10_tell_85 : decode cX10_tell 85 = .ok (.iconst 1, 1) := by decide +kernel
theorem dX10_tell_86 : decode cX10_tell 86 = .ok (.iadd, 1) := by decide +kernel
theorem dX10_tell_87 : decode cX10_tell 87 = .ok (.putfield 260, 3) := by decide +kernel
theorem dX10_tell_90 : decode cX10_tell 90 = .ok (.aload_n 0, 1) := by decide +kernel
theorem dX10_tell_91 : decode cX10_tell 91 = .ok (.getfield 260, 3) := by decide +kernel
theorem dX10_tell_94 : decode cX10_tell 94 = .ok (.iconst 1, 1) := by decide +kernel
theorem dX10_tell_95 : decode cX10_tell 95 = .ok (.isub, 1) := by decide +kernel
theorem dX10_tell_96 : decode cX10_tell 96 = .ok (.ireturn, 1) := by decide +kernel
theorem dX10_forget_0 : decode cX10_forget 0 = .ok (.aload_n 0, 1) := by decide +kernel
theorem dX10_forget_1 : decode cX10_forget 1 = .ok (.getfield 260, 3) := by decide +kernel
theorem dX10_forget_4 : decode cX10_forget 4 = .ok (.istore_n 1, 1) := by decide +kernel
theorem dX10_forget_5 : decode cX10_forget 5 = .ok (.aload_n 0, 1) := by decide +kernel
theorem dX10_forget_6 : decode cX10_forget 6 = .ok (.iconst 0, 1) := by decide +kernel
theorem dX10_forget_7 : decode cX10_forget 7 = .ok (.putfield 260, 3) := by decide +kernel
theorem dX10_forget_10 : decode cX10_forget 10 = .ok (.iload_n 1, 1) := by decide +kernel
theorem dX10_forget_11 : decode cX10_forget 11 = .ok (.ireturn, 1) := by decide +kernel
theorem dX10_isSo_0 : decode cX10_isSo 0 = .ok (.iconst 0, 1) := by decide +kernel
theorem dX10_isSo_1 : decode cX10_isSo 1 = .ok (.istore_n 3, 1) := by decide +kernel
theorem dX10_isSo_2 : decode cX10_isSo 2 = .ok (.iload_n 3, 1) := by decide +kernel
theorem dX10_isSo_3 : decode cX10_isSo 3 = .ok (.iload_n 2, 1) := by decide +kernel
theorem dX10_isSo_4 : decode cX10_isSo 4 = .ok (.if_icmp .ge 63, 3) := by decide +kernel
theorem dX10_isSo_7 : decode cX10_isSo 7 = .ok (.iload_n 1, 1) := by decide +kernel
theorem dX10_isSo_8 : decode cX10_isSo 8 = .ok (.bipush 10, 2) := by decide +kernel
theorem dX10_isSo_10 : decode cX10_isSo 10 = .ok (.irem, 1) := by decide +kernel
theorem dX10_isSo_11 : decode cX10_isSo 11 = .ok (.aload_n 0, 1) := by decide +kernel
theorem dX10_isSo_12 : decode cX10_isSo 12 = .ok (.getfield 140, 3) := by decide +kernel
theorem dX10_isSo_15 : decode cX10_isSo 15 = .ok (.iload_n 3, 1) := by decide +kernel
theorem dX10_isSo_16 : decode cX10_isSo 16 = .ok (.iaload, 1) := by decide +kernel
theorem dX10_isSo_17 : decode cX10_isSo 17 = .ok (.bipush 10, 2) := by decide +kernel
theorem dX10_isSo_19 : decode cX10_isSo 19 = .ok (.irem, 1) := by decide +kernel
theorem dX10_isSo_20 : decode cX10_isSo 20 = .ok (.isub, 1) := by decide +kernel
theorem dX10_isSo_21 : decode cX10_isSo 21 = .ok (.invokestatic 382, 3) := by decide +kernel
theorem dX10_isSo_24 : decode cX10_isSo 24 = .ok (.aload_n 0, 1) := by decide +kernel
theorem dX10_isSo_25 : decode cX10_isSo 25 = .ok (.getfield 143, 3) := by decide +kernel
theorem dX10_isSo_28 : decode cX10_isSo 28 = .ok (.iload_n 3, 1) := by decide +kernel
theorem dX10_isSo_29 : decode cX10_isSo 29 = .ok (.iaload, 1) := by decide +kernel
theorem dX10_isSo_30 : decode cX10_isSo 30 = .ok (.if_icmp .ne 29, 3) := by decide +kernel
theorem dX10_isSo_33 : decode cX10_isSo 33 = .ok (.iload_n 1, 1) := by decide +kernel
theorem dX10_isSo_34 : decode cX10_isSo 34 = .ok (.bipush 10, 2) := by decide +kernel
theorem dX10_isSo_36 : decode cX10_isSo 36 = .ok (.idiv, 1) := by decide +kernel
theorem dX10_isSo_37 : decode cX10_isSo 37 = .ok (.aload_n 0, 1) := by decide +kernel
theorem dX10_isSo_38 : decode cX10_isSo 38 = .ok (.getfield 140, 3) := by decide +kernel
theorem dX10_isSo_41 : decode cX10_isSo 41 = .ok (.iload_n 3, 1) := by decide +kernel
theorem dX10_isSo_42 : decode cX10_isSo 42 = .ok (.iaload, 1) := by decide +kernel
theorem dX10_isSo_43 : decode cX10_isSo 43 = .ok (.bipush 10, 2) := by decide +kernel
theorem dX10_isSo_45 : decode cX10_isSo 45 = .ok (.idiv, 1) := by decide +kernel
theorem dX10_isSo_46 : decode cX10_isSo 46 = .ok (.isub, 1) := by decide +kernel
theorem dX10_isSo_47 : decode cX10_isSo 47 = .ok (.invokestatic 382, 3) := by decide +kernel
theorem dX10_isSo_50 : decode cX10_isSo 50 = .ok (.aload_n 0, 1) := by decide +kernel
theorem dX10_isSo_51 : decode cX10_isSo 51 = .ok (.getfield 146, 3) := by decide +kernel
theorem dX10_isSo_54 : decode cX10_isSo 54 = .ok (.iload_n 3, 1) := by decide +kernel
theorem dX10_isSo_55 : decode cX10_isSo 55 = .ok (.iaload, 1) := by decide +kernel
theorem dX10_isSo_56 : decode cX10_isSo 56 = .ok (.if_icmp .eq 5, 3) := by decide +kernel
theorem dX10_isSo_59 : decode cX10_isSo 59 = .ok (.iconst 0, 1) := by decide +kernel
theorem dX10_isSo_60 : decode cX10_isSo 60 = .ok (.ireturn, 1) := by decide +kernel
theorem dX10_isSo_61 : decode cX10_isSo 61 = .ok (.iinc 3 1, 3) := by decide +kernel
theorem dX10_isSo_64 : decode cX10_isSo 64 = .ok (.goto (-62), 3) := by decide +kernel
theorem dX10_isSo_67 : decode cX10_isSo 67 = .ok (.iconst 1, 1) := by decide +kernel
theorem dX10_isSo_68 : decode cX10_isSo 68 = .ok (.ireturn, 1) := by decide +kernel
theorem dX10_where_0 : decode cX10_where 0 = .ok (.iload_n 1, 1) := by decide +kernel
theorem dX10_where_1 : decode cX10_where 1 = .ok (.iconst 0, 1) := by decide +kernel
theorem dX10_where_2 : decode cX10_where 2 = .ok (.aload_n 0, 1) := by decide +kernel
theorem dX10_where_3 : decode cX10_where 3 = .ok (.getfield 260, 3) := by decide +kernel
theorem dX10_where_6 : decode cX10_where 6 = .ok (.invokestatic 325, 3) := by decide +kernel
theorem dX10_where_9 : decode cX10_where 9 = .ok (.ifCond .ne 5, 3) := by decide +kernel
theorem dX10_where_12 : decode cX10_where 12 = .ok (.iconst (-1), 1) := by decide +kernel
theorem dX10_where_13 : decode cX10_where 13 = .ok (.ireturn, 1) := by decide +kernel
theorem dX10_where_14 : decode cX10_where 14 = .ok (.iconst 0, 1) := by decide +kernel
theorem dX10_where_15 : decode cX10_where 15 = .ok (.istore_n 2, 1) := by decide +kernel
theorem dX10_where_16 : decode cX10_where 16 = .ok (.iconst 0, 1) := by decide +kernel
theorem dX10_where_17 : decode cX10_where 17 = .ok (.istore_n 3, 1) := by decide +kernel
theorem dX10_where_18 : decode cX10_where 18 = .ok (.iload_n 3, 1) := by decide +kernel
theorem dX10_where_19 : decode cX10_where 19 = .ok (.bipush 100, 2) := by decide +kernel
theorem dX10_where_21 : decode cX10_where 21 = .ok (.if_icmp .ge 21, 3) := by decide +kernel
theorem dX10_where_24 : decode cX10_where 24 = .ok (.aload_n 0, 1) := by decide +kernel
theorem dX10_where_25 : decode cX10_where 25 = .ok (.iload_n 3, 1) := by decide +kernel
theorem dX10_where_26 : decode cX10_where 26 = .ok (.iload_n 1, 1) := by decide +kernel
theorem dX10_where_27 : decode cX10_where 27 = .ok (.invokevirtual 474, 3) := by decide +kernel
theorem dX10_where_30 : decode cX10_where 30 = .ok (.ifCond .eq 6, 3) := by decide +kernel
theorem dX10_where_33 : decode cX10_where 33 = .ok (.iinc 2 1, 3) := by decide +kernel
theorem dX10_where_36 : decode cX10_where 36 = .ok (.iinc 3 1, 3) := by decide +kernel
theorem dX10_where_39 : decode cX10_where 39 = .ok (.goto (-21), 3) := by decide +kernel
theorem dX10_where_42 : decode cX10_where 42 = .ok (.iload_n 2, 1) := by decide +kernel
theorem dX10_where_43 : decode cX10_where 43 = .ok (.ireturn, 1) := by decide +kernel
theorem dX10_surest_0 : decode cX10_surest 0 = .ok (.iload_n 1, 1) := by decide +kernel
theorem dX10_surest_1 : decode cX10_surest 1 = .ok (.iconst 0, 1) := by decide +kernel
theorem dX10_surest_2 : decode cX10_surest 2 = .ok (.aload_n 0, 1) := by decide +kernel
theorem dX10_surest_3 : decode cX10_surest 3 = .ok (.getfield 260, 3) := by decide +kernel
theorem dX10_surest_6 : decode cX10_surest 6 = .ok (.invokestatic 325, 3) := by decide +kernel
theorem dX10_surest_9 : decode cX10_surest 9 = .ok (.ifCond .ne 5, 3) := by decide +kernel
theorem dX10_surest_12 : decode cX10_surest 12 = .ok (.iconst (-1), 1) := by decide +kernel
theorem dX10_surest_13 : decode cX10_surest 13 = .ok (.ireturn, 1) := by decide +kernel
theorem dX10_surest_14 : decode cX10_surest 14 = .ok (.iconst 0, 1) := by decide +kernel
theorem dX10_surest_15 : decode cX10_surest 15 = .ok (.istore_n 2, 1) := by decide +kernel
theorem dX10_surest_16 : decode cX10_surest 16 = .ok (.iload_n 2, 1) := by decide +kernel
theorem dX10_surest_17 : decode cX10_surest 17 = .ok (.bipush 100, 2) := by decide +kernel
theorem dX10_surest_19 : decode cX10_surest 19 = .ok (.if_icmp .ge 20, 3) := by decide +kernel
theorem dX10_surest_22 : decode cX10_surest 22 = .ok (.aload_n 0, 1) := by decide +kernel
theorem dX10_surest_23 : decode cX10_surest 23 = .ok (.iload_n 2, 1) := by decide +kernel
theorem dX10_surest_24 : decode cX10_surest 24 = .ok (.iload_n 1, 1) := by decide +kernel
theorem dX10_surest_25 : decode cX10_surest 25 = .ok (.invokevirtual 474, 3) := by decide +kernel
theorem dX10_surest_28 : decode cX10_surest 28 = .ok (.ifCond .eq 5, 3) := by decide +kernel
theorem dX10_surest_31 : decode cX10_surest 31 = .ok (.iload_n 2, 1) := by decide +kernel
theorem dX10_surest_32 : decode cX10_surest 32 = .ok (.ireturn, 1) := by decide +kernel
theorem dX10_surest_33 : decode cX10_surest 33 = .ok (.iinc 2 1, 3) := by decide +kernel
theorem dX10_surest_36 : decode cX10_surest 36 = .ok (.goto (-20), 3) := by decide +kernel
theorem dX10_surest_39 : decode cX10_surest 39 = .ok (.bipush (-2), 2) := by decide +kernel
theorem dX10_surest_41 : decode cX10_surest 41 = .ok (.ireturn, 1) := by decide +kernel
theorem dX10_worstFrom_0 : decode cX10_worstFrom 0 = .ok (.iconst 0, 1) := by decide +kernel
theorem dX10_worstFrom_1 : decode cX10_worstFrom 1 = .ok (.istore_n 3, 1) := by decide +kernel
theorem dX10_worstFrom_2 : decode cX10_worstFrom 2 = .ok (.iload_n 3, 1) := by decide +kernel
theorem dX10_worstFrom_3 : decode cX10_worstFrom 3 = .ok (.bipush 9, 2) := by decide +kernel
theorem dX10_worstFrom_5 : decode cX10_worstFrom 5 = .ok (.if_icmp .ge 16, 3) := by decide +kernel
theorem dX10_worstFrom_8 : decode cX10_worstFrom 8 = .ok (.aload_n 0, 1) := by decide +kernel
theorem dX10_worstFrom_9 : decode cX10_worstFrom 9 = .ok (.getfield 149, 3) := by decide +kernel
theorem dX10_worstFrom_12 : decode cX10_worstFrom 12 = .ok (.iload_n 3, 1) := by decide +kernel
theorem dX10_worstFrom_13 : decode cX10_worstFrom 13 = .ok (.iconst 0, 1) := by decide +kernel
theorem dX10_worstFrom_14 : decode cX10_worstFrom 14 = .ok (.iastore, 1) := by decide +kernel
theorem dX10_worstFrom_15 : decode cX10_worstFrom 15 = .ok (.iinc 3 1, 3) := by decide +kernel
theorem dX10_worstFrom_18 : decode cX10_worstFrom 18 = .ok (.goto (-16), 3) := by decide +kernel
theorem dX10_worstFrom_21 : decode cX10_worstFrom 21 = .ok (.iconst 0, 1) := by decide +kernel
theorem dX10_worstFrom_22 : decode cX10_worstFrom 22 = .ok (.istore_n 3, 1) := by decide +kernel
theorem dX10_worstFrom_23 : decode cX10_worstFrom 23 = .ok (.iconst 0, 1) := by decide +kernel
theorem dX10_worstFrom_24 : decode cX10_worstFrom 24 = .ok (.istore 4, 2) := by decide +kernel
theorem dX10_worstFrom_26 : decode cX10_worstFrom 26 = .ok (.iload 4, 2) := by decide +kernel
theorem dX10_worstFrom_28 : decode cX10_worstFrom 28 = .ok (.bipush 100, 2) := by decide +kernel
theorem dX10_worstFrom_30 : decode cX10_worstFrom 30 = .ok (.if_icmp .ge 85, 3) := by decide +kernel
theorem dX10_worstFrom_33 : decode cX10_worstFrom 33 = .ok (.aload_n 0, 1) := by decide +kernel
theorem dX10_worstFrom_34 : decode cX10_worstFrom 34 = .ok (.iload 4, 2) := by decide +kernel
theorem dX10_worstFrom_36 : decode cX10_worstFrom 36 = .ok (.iload_n 2, 1) := by decide +kernel
theorem dX10_worstFrom_37 : decode cX10_worstFrom 37 = .ok (.invokevirtual 474, 3) := by decide +kernel
theorem dX10_worstFrom_40 : decode cX10_worstFrom 40 = .ok (.ifCond .ne 6, 3) := by decide +kernel
theorem dX10_worstFrom_43 : decode cX10_worstFrom 43 = .ok (.goto 66, 3) := by decide +kernel
theorem dX10_worstFrom_46 : decode cX10_worstFrom 46 = .ok (.iconst 3, 1) := by decide +kernel
theorem dX10_worstFrom_47 : decode cX10_worstFrom 47 = .ok (.iload 4, 2) := by decide +kernel
theorem dX10_worstFrom_49 : decode cX10_worstFrom 49 = .ok (.bipush 10, 2) := by decide +kernel
theorem dX10_worstFrom_51 : decode cX10_worstFrom 51 = .ok (.irem, 1) := by decide +kernel
theorem dX10_worstFrom_52 : decode cX10_worstFrom 52 = .ok (.iload_n 1, 1) := by decide +kernel
theorem dX10_worstFrom_53 : decode cX10_worstFrom 53 = .ok (.bipush 10, 2) := by decide +kernel
theorem dX10_worstFrom_55 : decode cX10_worstFrom 55 = .ok (.irem, 1) := by decide +kernel
theorem dX10_worstFrom_56 : decode cX10_worstFrom 56 = .ok (.isub, 1) := by decide +kernel
theorem dX10_worstFrom_57 : decode cX10_worstFrom 57 = .ok (.invokestatic 382, 3) := by decide +kernel
theorem dX10_worstFrom_60 : decode cX10_worstFrom 60 = .ok (.imul, 1) := by decide +kernel
theorem dX10_worstFrom_61 : decode cX10_worstFrom 61 = .ok (.iload 4, 2) := by decide +kernel
theorem dX10_worstFrom_63 : decode cX10_worstFrom 63 = .ok (.bipush 10, 2) := by decide +kernel
theorem dX10_worstFrom_65 : decode cX10_worstFrom 65 = .ok (.idiv, 1) := by decide +kernel
theorem dX10_worstFrom_66 : decode cX10_worstFrom 66 = .ok (.iload_n 1, 1) := by decide +kernel
theorem dX10_worstFrom_67 : decode cX10_worstFrom 67 = .ok (.bipush 10, 2) := by decide +kernel
theorem dX10_worstFrom_69 : decode cX10_worstFrom 69 = .ok (.idiv, 1) := by decide +kernel
theorem dX10_worstFrom_70 : decode cX10_worstFrom 70 = .ok (.isub, 1) := by decide +kernel
theorem dX10_worstFrom_71 : decode cX10_worstFrom 71 = .ok (.invokestatic 382, 3) := by decide +kernel
theorem dX10_worstFrom_74 : decode cX10_worstFrom 74 = .ok (.iadd, 1) := by decide +kernel
theorem dX10_worstFrom_75 : decode cX10_worstFrom 75 = .ok (.iconst 4, 1) := by decide +kernel
theorem dX10_worstFrom_76 : decode cX10_worstFrom 76 = .ok (.iadd, 1) := by decide +kernel
theorem dX10_worstFrom_77 : decode cX10_worstFrom 77 = .ok (.istore 5, 2) := by decide +kernel
theorem dX10_worstFrom_79 : decode cX10_worstFrom 79 = .ok (.aload_n 0, 1) := by decide +kernel
theorem dX10_worstFrom_80 : decode cX10_worstFrom 80 = .ok (.getfield 149, 3) := by decide +kernel
theorem dX10_worstFrom_83 : decode cX10_worstFrom 83 = .ok (.iload 5, 2) := by decide +kernel
theorem dX10_worstFrom_85 : decode cX10_worstFrom 85 = .ok (.dup2, 1) := by decide +kernel
theorem dX10_worstFrom_86 : decode cX10_worstFrom 86 = .ok (.iaload, 1) := by decide +kernel
theorem dX10_worstFrom_87 : decode cX10_worstFrom 87 = .ok (.iconst 1, 1) := by decide +kernel
theorem dX10_worstFrom_88 : decode cX10_worstFrom 88 = .ok (.iadd, 1) := by decide +kernel
theorem dX10_worstFrom_89 : decode cX10_worstFrom 89 = .ok (.iastore, 1) := by decide +kernel
theorem dX10_worstFrom_90 : decode cX10_worstFrom 90 = .ok (.aload_n 0, 1) := by decide +kernel
theorem dX10_worstFrom_91 : decode cX10_worstFrom 91 = .ok (.getfield 149, 3) := by decide +kernel
theorem dX10_worstFrom_94 : decode cX10_worstFrom 94 = .ok (.iload 5, 2) := by decide +kernel
theorem dX10_worstFrom_96 : decode cX10_worstFrom 96 = .ok (.iaload, 1) := by decide +kernel
theorem dX10_worstFrom_97 : decode cX10_worstFrom 97 = .ok (.iload_n 3, 1) := by decide +kernel
theorem dX10_worstFrom_98 : decode cX10_worstFrom 98 = .ok (.if_icmp .le 11, 3) := by decide +kernel
theorem dX10_worstFrom_101 : decode cX10_worstFrom 101 = .ok (.aload_n 0, 1) := by decide +kernel
theorem dX10_worstFrom_102 : decode cX10_worstFrom 102 = .ok (.getfield 149, 3) := by decide +kernel
theorem dX10_worstFrom_105 : decode cX10_worstFrom 105 = .ok (.iload 5, 2) := by decide +kernel
theorem dX10_worstFrom_107 : decode cX10_worstFrom 107 = .ok (.iaload, 1) := by decide +kernel
theorem dX10_worstFrom_108 : decode cX10_worstFrom 108 = .ok (.istore_n 3, 1) := by decide +kernel
theorem dX10_worstFrom_109 : decode cX10_worstFrom 109 = .ok (.iinc 4 1, 3) := by decide +kernel
theorem dX10_worstFrom_112 : decode cX10_worstFrom 112 = .ok (.goto (-86), 3) := by decide +kernel
theorem dX10_worstFrom_115 : decode cX10_worstFrom 115 = .ok (.iload_n 3, 1) := by decide +kernel
theorem dX10_worstFrom_116 : decode cX10_worstFrom 116 = .ok (.ireturn, 1) := by decide +kernel
theorem dX10_holdNext_0 : decode cX10_holdNext 0 = .ok (.iload_n 1, 1) := by decide +kernel
theorem dX10_holdNext_1 : decode cX10_holdNext 1 = .ok (.iconst 0, 1) := by decide +kernel
theorem dX10_holdNext_2 : decode cX10_holdNext 2 = .ok (.aload_n 0, 1) := by decide +kernel
theorem dX10_holdNext_3 : decode cX10_holdNext 3 = .ok (.getfield 260, 3) := by decide +kernel
theorem dX10_holdNext_6 : decode cX10_holdNext 6 = .ok (.invokestatic 325, 3) := by decide +kernel
theorem dX10_holdNext_9 : decode cX10_holdNext 9 = .ok (.ifCond .ne 5, 3) := by decide +kernel
theorem dX10_holdNext_12 : decode cX10_holdNext 12 = .ok (.iconst (-1), 1) := by decide +kernel
theorem dX10_holdNext_13 : decode cX10_holdNext 13 = .ok (.ireturn, 1) := by decide +kernel
theorem dX10_holdNext_14 : decode cX10_holdNext 14 = .ok (.bipush (-2), 2) := by decide +kernel
theorem dX10_holdNext_16 : decode cX10_holdNext 16 = .ok (.istore_n 2, 1) := by decide +kernel
theorem dX10_holdNext_17 : decode cX10_holdNext 17 = .ok (.iconst 0, 1) := by decide +kernel
theorem dX10_holdNext_18 : decode cX10_holdNext 18 = .ok (.istore_n 3, 1) := by decide +kernel
theorem dX10_holdNext_19 : decode cX10_holdNext 19 = .ok (.iconst 0, 1) := by decide +kernel
theorem dX10_holdNext_20 : decode cX10_holdNext 20 = .ok (.istore 4, 2) := by decide +kernel
theorem dX10_holdNext_22 : decode cX10_holdNext 22 = .ok (.iload 4, 2) := by decide +kernel
theorem dX10_holdNext_24 : decode cX10_holdNext 24 = .ok (.bipush 100, 2) := by decide +kernel
theorem dX10_holdNext_26 : decode cX10_holdNext 26 = .ok (.if_icmp .ge 42, 3) := by decide +kernel
theorem dX10_holdNext_29 : decode cX10_holdNext 29 = .ok (.aload_n 0, 1) := by decide +kernel
theorem dX10_holdNext_30 : decode cX10_holdNext 30 = .ok (.iload 4, 2) := by decide +kernel
theorem dX10_holdNext_32 : decode cX10_holdNext 32 = .ok (.iload_n 1, 1) := by decide +kernel
theorem dX10_holdNext_33 : decode cX10_holdNext 33 = .ok (.invokevirtual 478, 3) := by decide +kernel
theorem dX10_holdNext_36 : decode cX10_holdNext 36 = .ok (.istore 5, 2) := by decide +kernel
theorem dX10_holdNext_38 : decode cX10_holdNext 38 = .ok (.iload 5, 2) := by decide +kernel
theorem dX10_holdNext_40 : decode cX10_holdNext 40 = .ok (.ifCond .eq 22, 3) := by decide +kernel
theorem dX10_holdNext_43 : decode cX10_holdNext 43 = .ok (.iload_n 2, 1) := by decide +kernel
theorem dX10_holdNext_44 : decode cX10_holdNext 44 = .ok (.ifCond .lt 12, 3) := by decide +kernel
theorem dX10_holdNext_47 : decode cX10_holdNext 47 = .ok (.iload 5, 2) := by decide +kernel
theorem dX10_holdNext_49 : decode cX10_holdNext 49 = .ok (.iload_n 3, 1) := by decide +kernel
theorem dX10_holdNext_50 : decode cX10_holdNext 50 = .ok (.if_icmp .lt 6, 3) := by decide +kernel
theorem dX10_holdNext_53 : decode cX10_holdNext 53 = .ok (.goto 9, 3) := by decide +kernel
theorem dX10_holdNext_56 : decode cX10_holdNext 56 = .ok (.iload 4, 2) := by decide +kernel
theorem dX10_holdNext_58 : decode cX10_holdNext 58 = .ok (.istore_n 2, 1) := by decide +kernel
theorem dX10_holdNext_59 : decode cX10_holdNext 59 = .ok (.iload 5, 2) := by decide +kernel
theorem dX10_holdNext_61 : decode cX10_holdNext 61 = .ok (.istore_n 3, 1) := by decide +kernel
theorem dX10_holdNext_62 : decode cX10_holdNext 62 = .ok (.iinc 4 1, 3) := by decide +kernel
theorem dX10_holdNext_65 : decode cX10_holdNext 65 = .ok (.goto (-43), 3) := by decide +kernel
theorem dX10_holdNext_68 : decode cX10_holdNext 68 = .ok (.iload_n 2, 1) := by decide +kernel
theorem dX10_holdNext_69 : decode cX10_holdNext 69 = .ok (.ireturn, 1) := by decide +kernel
theorem dX10_hold_0 : decode cX10_hold 0 = .ok (.iload_n 1, 1) := by decide +kernel
theorem dX10_hold_1 : decode cX10_hold 1 = .ok (.iconst 0, 1) := by decide +kernel
theorem dX10_hold_2 : decode cX10_hold 2 = .ok (.iconst 2, 1) := by decide +kernel
theorem dX10_hold_3 : decode cX10_hold 3 = .ok (.invokestatic 325, 3) := by decide +kernel
theorem dX10_hold_6 : decode cX10_hold 6 = .ok (.ifCond .ne 5, 3) := by decide +kernel
theorem dX10_hold_9 : decode cX10_hold 9 = .ok (.iconst 0, 1) := by decide +kernel
theorem dX10_hold_10 : decode cX10_hold 10 = .ok (.ireturn, 1) := by decide +kernel
theorem dX10_hold_11 : decode cX10_hold 11 = .ok (.aload_n 0, 1) := by decide +kernel
theorem dX10_hold_12 : decode cX10_hold 12 = .ok (.getfield 152, 3) := by decide +kernel
theorem dX10_hold_15 : decode cX10_hold 15 = .ok (.iload_n 1, 1) := by decide +kernel
theorem dX10_hold_16 : decode cX10_hold 16 = .ok (.iconst 1, 1) := by decide +kernel
theorem dX10_hold_17 : decode cX10_hold 17 = .ok (.bastore, 1) := by decide +kernel
theorem dX10_hold_18 : decode cX10_hold 18 = .ok (.iconst 0, 1) := by decide +kernel
theorem dX10_hold_19 : decode cX10_hold 19 = .ok (.istore_n 2, 1) := by decide +kernel
theorem dX10_hold_20 : decode cX10_hold 20 = .ok (.iload_n 2, 1) := by decide +kernel
theorem dX10_hold_21 : decode cX10_hold 21 = .ok (.bipush 55, 2) := by decide +kernel
theorem dX10_hold_23 : decode cX10_hold 23 = .ok (.if_icmp .ge 26, 3) := by decide +kernel
theorem dX10_hold_26 : decode cX10_hold 26 = .ok (.aload_n 0, 1) := by decide +kernel
theorem dX10_hold_27 : decode cX10_hold 27 = .ok (.getfield 155, 3) := by decide +kernel
theorem dX10_hold_30 : decode cX10_hold 30 = .ok (.bipush 55, 2) := by decide +kernel
theorem dX10_hold_32 : decode cX10_hold 32 = .ok (.iload_n 1, 1) := by decide +kernel
theorem dX10_hold_33 : decode cX10_hold 33 = .ok (.imul, 1) := by decide +kernel
theorem dX10_hold_34 : decode cX10_hold 34 = .ok (.iload_n 2, 1) := by decide +kernel
theorem dX10_hold_35 : decode cX10_hold 35 = .ok (.iadd, 1) := by decide +kernel
theorem dX10_hold_36 : decode cX10_hold 36 = .ok (.aload_n 0, 1) := by decide +kernel
theorem dX10_hold_37 : decode cX10_hold 37 = .ok (.getfield 119, 3) := by decide +kernel
theorem dX10_hold_40 : decode cX10_hold 40 = .ok (.iload_n 2, 1) := by decide +kernel
theorem dX10_hold_41 : decode cX10_hold 41 = .ok (.iaload, 1) := by decide +kernel
theorem dX10_hold_42 : decode cX10_hold 42 = .ok (.iastore, 1) := by decide +kernel
theorem dX10_hold_43 : decode cX10_hold 43 = .ok (.iinc 2 1, 3) := by decide +kernel
theorem dX10_hold_46 : decode cX10_hold 46 = .ok (.goto (-26), 3) := by decide +kernel
theorem dX10_hold_49 : decode cX10_hold 49 = .ok (.iconst 1, 1) := by decide +kernel
theorem dX10_hold_50 : decode cX10_hold 50 = .ok (.ireturn, 1) := by decide +kernel
theorem dX10_restore_0 : decode cX10_restore 0 = .ok (.iload_n 1, 1) := by decide +kernel
theorem dX10_restore_1 : decode cX10_restore 1 = .ok (.iconst 0, 1) := by decide +kernel
theorem dX10_restore_2 : decode cX10_restore 2 = .ok (.iconst 2, 1) := by decide +kernel
theorem dX10_restore_3 : decode cX10_restore 3 = .ok (.invokestatic 325, 3) := by decide +kernel
theorem dX10_restore_6 : decode cX10_restore 6 = .ok (.ifCond .eq 12, 3) := by decide +kernel
theorem dX10_restore_9 : decode cX10_restore 9 = .ok (.aload_n 0, 1) := by decide +kernel
theorem dX10_restore_10 : decode cX10_restore 10 = .ok (.getfield 152, 3) := by decide +kernel
theorem dX10_restore_13 : decode cX10_restore 13 = .ok (.iload_n 1, 1) := by decide +kernel
theorem dX10_restore_14 : decode cX10_restore 14 = .ok (.baload, 1) := by decide +kernel
theorem dX10_restore_15 : decode cX10_restore 15 = .ok (.ifCond .ne 5, 3) := by decide +kernel
theorem dX10_restore_18 : decode cX10_restore 18 = .ok (.iconst 0, 1) := by decide +kernel
theorem dX10_restore_19 : decode cX10_restore 19 = .ok (.ireturn, 1) := by decide +kernel
theorem dX10_restore_20 : decode cX10_restore 20 = .ok (.iconst 0, 1) := by decide +kernel
theorem dX10_restore_21 : decode cX10_restore 21 = .ok (.istore_n 2, 1) := by decide +kernel
theorem dX10_restore_22 : decode cX10_restore 22 = .ok (.iload_n 2, 1) := by decide +kernel
theorem dX10_restore_23 : decode cX10_restore 23 = .ok (.bipush 55, 2) := by decide +kernel
theorem dX10_restore_25 : decode cX10_restore 25 = .ok (.if_icmp .ge 26, 3) := by decide +kernel
theorem dX10_restore_28 : decode cX10_restore 28 = .ok (.aload_n 0, 1) := by decide +kernel
theorem dX10_restore_29 : decode cX10_restore 29 = .ok (.getfield 119, 3) := by decide +kernel
theorem dX10_restore_32 : decode cX10_restore 32 = .ok (.iload_n 2, 1) := by decide +kernel
theorem dX10_restore_33 : decode cX10_restore 33 = .ok (.aload_n 0, 1) := by decide +kernel
theorem dX10_restore_34 : decode cX10_restore 34 = .ok (.getfield 155, 3) := by decide +kernel
theorem dX10_restore_37 : decode cX10_restore 37 = .ok (.bipush 55, 2) := by decide +kernel
theorem dX10_restore_39 : decode cX10_restore 39 = .ok (.iload_n 1, 1) := by decide +kernel
theorem dX10_restore_40 : decode cX10_restore 40 = .ok (.imul, 1) := by decide +kernel
theorem dX10_restore_41 : decode cX10_restore 41 = .ok (.iload_n 2, 1) := by decide +kernel
theorem dX10_restore_42 : decode cX10_restore 42 = .ok (.iadd, 1) := by decide +kernel
theorem dX10_restore_43 : decode cX10_restore 43 = .ok (.iaload, 1) := by decide +kernel
theorem dX10_restore_44 : decode cX10_restore 44 = .ok (.iastore, 1) := by decide +kernel
theorem dX10_restore_45 : decode cX10_restore 45 = .ok (.iinc 2 1, 3) := by decide +kernel
theorem dX10_restore_48 : decode cX10_restore 48 = .ok (.goto (-26), 3) := by decide +kernel
theorem dX10_restore_51 : decode cX10_restore 51 = .ok (.aload_n 0, 1) := by decide +kernel
theorem dX10_restore_52 : decode cX10_restore 52 = .ok (.iconst 0, 1) := by decide +kernel
theorem dX10_restore_53 : decode cX10_restore 53 = .ok (.putfield 257, 3) := by decide +kernel
theorem dX10_restore_56 : decode cX10_restore 56 = .ok (.iconst 1, 1) := by decide +kernel
theorem dX10_restore_57 : decode cX10_restore 57 = .ok (.ireturn, 1) := by decide +kernel
theorem dX10_count_0 : decode cX10_count 0 = .ok (.aload_n 0, 1) := by decide +kernel
theorem dX10_count_1 : decode cX10_count 1 = .ok (.invokevirtual 335, 3) := by decide +kernel
theorem dX10_count_4 : decode cX10_count 4 = .ok (.iconst 0, 1) := by decide +kernel
theorem dX10_count_5 : decode cX10_count 5 = .ok (.istore_n 2, 1) := by decide +kernel
theorem dX10_count_6 : decode cX10_count 6 = .ok (.iload_n 1, 1) := by decide +kernel
theorem dX10_count_7 : decode cX10_count 7 = .ok (.tableswitch 302 0 13 #[69, 79, 89, 99, 107, 117, 122, 159, 196, 201, 206, 211, 256, 265], 69) := by decide +kernel
theorem dX10_count_76 : decode cX10_count 76 = .ok (.aload_n 0, 1) := by decide +kernel
theorem dX10_count_77 : decode cX10_count 77 = .ok (.getfield 46, 3) := by decide +kernel
theorem dX10_count_80 : decode cX10_count 80 = .ok (.aload_n 0, 1) := by decide +kernel
theorem dX10_count_81 : decode cX10_count 81 = .ok (.getfield 239, 3) := by decide +kernel
theorem dX10_count_84 : decode cX10_count 84 = .ok (.iaload, 1) := by decide +kernel
theorem dX10_count_85 : decode cX10_count 85 = .ok (.ireturn, 1) := by decide +kernel
theorem dX10_count_86 : decode cX10_count 86 = .ok (.aload_n 0, 1) := by decide +kernel
theorem dX10_count_87 : decode cX10_count 87 = .ok (.getfield 52, 3) := by decide +kernel
theorem dX10_count_90 : decode cX10_count 90 = .ok (.aload_n 0, 1) := by decide +kernel
theorem dX10_count_91 : decode cX10_count 91 = .ok (.getfield 239, 3) := by decide +kernel
theorem dX10_count_94 : decode cX10_count 94 = .ok (.iaload, 1) := by decide +kernel
theorem dX10_count_95 : decode cX10_count 95 = .ok (.ireturn, 1) := by decide +kernel
theorem dX10_count_96 : decode cX10_count 96 = .ok (.aload_n 0, 1) := by decide +kernel
theorem dX10_count_97 : decode cX10_count 97 = .ok (.getfield 64, 3) := by decide +kernel
theorem dX10_count_100 : decode cX10_count 100 = .ok (.aload_n 0, 1) := by decide +kernel
theorem dX10_count_101 : decode cX10_count 101 = .ok (.getfield 239, 3) := by decide +kernel
theorem dX10_count_104 : decode cX10_count 104 = .ok (.iaload, 1) := by decide +kernel
theorem dX10_count_105 : decode cX10_count 105 = .ok (.ireturn, 1) := by decide +kernel
theorem dX10_count_106 : decode cX10_count 106 = .ok (.aload_n 0, 1) := by decide +kernel
theorem dX10_count_107 : decode cX10_count 107 = .ok (.getfield 122, 3) := by decide +kernel
theorem dX10_count_110 : decode cX10_count 110 = .ok (.bipush 54, 2) := by decide +kernel
theorem dX10_count_112 : decode cX10_count 112 = .ok (.iaload, 1) := by decide +kernel
theorem dX10_count_113 : decode cX10_count 113 = .ok (.ireturn, 1) := by decide +kernel
theorem dX10_count_114 : decode cX10_count 114 = .ok (.aload_n 0, 1) := by decide +kernel
theorem dX10_count_115 : decode cX10_count 115 = .ok (.getfield 122, 3) := by decide +kernel
theorem dX10_count_118 : decode cX10_count 118 = .ok (.bipush 54, 2) := by decide +kernel
theorem dX10_count_120 : decode cX10_count 120 = .ok (.iaload, 1) := by decide +kernel
theorem dX10_count_121 : decode cX10_count 121 = .ok (.iconst 4, 1) := by decide +kernel
theorem dX10_count_122 : decode cX10_count 122 = .ok (.irem, 1) := by decide +kernel
theorem dX10_count_123 : decode cX10_count 123 = .ok (.ireturn, 1) := by decide +kernel
theorem dX10_count_124 : decode cX10_count 124 = .ok (.aload_n 0, 1) := by decide +kernel
theorem dX10_count_125 : decode cX10_count 125 = .ok (.invokevirtual 444, 3) := by decide +kernel
theorem dX10_count_128 : decode cX10_count 128 = .ok (.ireturn, 1) := by decide +kernel
theorem dX10_count_129 : decode cX10_count 129 = .ok (.iconst 0, 1) := by decide +kernel
theorem dX10_count_130 : decode cX10_count 130 = .ok (.istore_n 3, 1) := by decide +kernel
theorem dX10_count_131 : decode cX10_count 131 = .ok (.iload_n 3, 1) := by decide +kernel
theorem dX10_count_132 : decode cX10_count 132 = .ok (.aload_n 0, 1) := by decide +kernel
theorem dX10_count_133 : decode cX10_count 133 = .ok (.getfield 46, 3) := by decide +kernel
theorem dX10_count_136 : decode cX10_count 136 = .ok (.aload_n 0, 1) := by decide +kernel
theorem dX10_count_137 : decode cX10_count 137 = .ok (.getfield 239, 3) := by decide +kernel
theorem dX10_count_140 : decode cX10_count 140 = .ok (.iaload, 1) := by decide +kernel
theorem dX10_count_141 : decode cX10_count 141 = .ok (.if_icmp .ge 23, 3) := by decide +kernel
theorem dX10_count_144 : decode cX10_count 144 = .ok (.iload_n 2, 1) := by decide +kernel
theorem dX10_count_145 : decode cX10_count 145 = .ok (.aload_n 0, 1) := by decide +kernel
theorem dX10_count_146 : decode cX10_count 146 = .ok (.getfield 122, 3) := by decide +kernel
theorem dX10_count_149 : decode cX10_count 149 = .ok (.bipush 16, 2) := by decide +kernel
theorem dX10_count_151 : decode cX10_count 151 = .ok (.iload_n 3, 1) := by decide +kernel
theorem dX10_count_152 : decode cX10_count 152 = .ok (.iadd, 1) := by decide +kernel
theorem dX10_count_153 : decode cX10_count 153 = .ok (.iaload, 1) := by decide +kernel
theorem dX10_count_154 : decode cX10_count 154 = .ok (.iload_n 3, 1) := by decide +kernel
theorem dX10_count_155 : decode cX10_count 155 = .ok (.ishl, 1) := by decide +kernel
theorem dX10_count_156 : decode cX10_count 156 = .ok (.ior, 1) := by decide +kernel
theorem dX10_count_157 : decode cX10_count 157 = .ok (.istore_n 2, 1) := by decide +kernel
theorem dX10_count_158 : decode cX10_count 158 = .ok (.iinc 3 1, 3) := by decide +kernel
theorem dX10_count_161 : decode cX10_count 161 = .ok (.goto (-30), 3) := by decide +kernel
theorem dX10_count_164 : decode cX10_count 164 = .ok (.iload_n 2, 1) := by decide +kernel
theorem dX10_count_165 : decode cX10_count 165 = .ok (.ireturn, 1) := by decide +kernel
theorem dX10_count_166 : decode cX10_count 166 = .ok (.iconst 0, 1) := by decide +kernel
theorem dX10_count_167 : decode cX10_count 167 = .ok (.istore_n 3, 1) := by decide +kernel
theorem dX10_count_168 : decode cX10_count 168 = .ok (.iload_n 3, 1) := by decide +kernel
theorem dX10_count_169 : decode cX10_count 169 = .ok (.aload_n 0, 1) := by decide +kernel
theorem dX10_count_170 : decode cX10_count 170 = .ok (.getfield 64, 3) := by decide +kernel
theorem dX10_count_173 : decode cX10_count 173 = .ok (.aload_n 0, 1) := by decide +kernel
theorem dX10_count_174 : decode cX10_count 174 = .ok (.getfield 239, 3) := by decide +kernel
theorem dX10_count_177 : decode cX10_count 177 = .ok (.iaload, 1) := by decide +kernel
theorem dX10_count_178 : decode cX10_count 178 = .ok (.if_icmp .ge 23, 3) := by decide +kernel
theorem dX10_count_181 : decode cX10_count 181 = .ok (.iload_n 2, 1) := by decide +kernel
theorem dX10_count_182 : decode cX10_count 182 = .ok (.aload_n 0, 1) := by decide +kernel
