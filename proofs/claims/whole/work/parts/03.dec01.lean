theorem dX4_readUnit_8 : decode cX4_readUnit 8 = .ok (.if_icmp .ne 31, 3) := by decide +kernel
theorem dX4_readUnit_11 : decode cX4_readUnit 11 = .ok (.aload_n 0, 1) := by decide +kernel
theorem dX4_readUnit_12 : decode cX4_readUnit 12 = .ok (.getfield 20, 3) := by decide +kernel
theorem dX4_readUnit_15 : decode cX4_readUnit 15 = .ok (.getfield 138, 3) := by decide +kernel
theorem dX4_readUnit_18 : decode cX4_readUnit 18 = .ok (.aload_n 0, 1) := by decide +kernel
theorem dX4_readUnit_19 : decode cX4_readUnit 19 = .ok (.getfield 14, 3) := by decide +kernel
theorem dX4_readUnit_22 : decode cX4_readUnit 22 = .ok (.getfield 85, 3) := by decide +kernel
theorem dX4_readUnit_25 : decode cX4_readUnit 25 = .ok (.aload_n 0, 1) := by decide +kernel
theorem dX4_readUnit_26 : decode cX4_readUnit 26 = .ok (.bipush 22, 2) := by decide +kernel
theorem dX4_readUnit_28 : decode cX4_readUnit 28 = .ok (.invokevirtual 81, 3) := by decide +kernel
theorem dX4_readUnit_31 : decode cX4_readUnit 31 = .ok (.laload, 1) := by decide +kernel
theorem dX4_readUnit_32 : decode cX4_readUnit 32 = .ok (.l2i, 1) := by decide +kernel
theorem dX4_readUnit_33 : decode cX4_readUnit 33 = .ok (.invokevirtual 156, 3) := by decide +kernel
theorem dX4_readUnit_36 : decode cX4_readUnit 36 = .ok (.goto 91, 3) := by decide +kernel
theorem dX4_readUnit_39 : decode cX4_readUnit 39 = .ok (.iload_n 2, 1) := by decide +kernel
theorem dX4_readUnit_40 : decode cX4_readUnit 40 = .ok (.bipush 12, 2) := by decide +kernel
theorem dX4_readUnit_42 : decode cX4_readUnit 42 = .ok (.if_icmp .lt 36, 3) := by decide +kernel
theorem dX4_readUnit_45 : decode cX4_readUnit 45 = .ok (.iload_n 2, 1) := by decide +kernel
theorem dX4_readUnit_46 : decode cX4_readUnit 46 = .ok (.bipush 20, 2) := by decide +kernel
theorem dX4_readUnit_48 : decode cX4_readUnit 48 = .ok (.if_icmp .gt 30, 3) := by decide +kernel
theorem dX4_readUnit_51 : decode cX4_readUnit 51 = .ok (.aload_n 0, 1) := by decide +kernel
theorem dX4_readUnit_52 : decode cX4_readUnit 52 = .ok (.iload_n 2, 1) := by decide +kernel
theorem dX4_readUnit_53 : decode cX4_readUnit 53 = .ok (.invokevirtual 81, 3) := by decide +kernel
theorem dX4_readUnit_56 : decode cX4_readUnit 56 = .ok (.pop, 1) := by decide +kernel
theorem dX4_readUnit_57 : decode cX4_readUnit 57 = .ok (.aload_n 0, 1) := by decide +kernel
theorem dX4_readUnit_58 : decode cX4_readUnit 58 = .ok (.getfield 20, 3) := by decide +kernel
theorem dX4_readUnit_61 : decode cX4_readUnit 61 = .ok (.getfield 138, 3) := by decide +kernel
theorem dX4_readUnit_64 : decode cX4_readUnit 64 = .ok (.sipush 10000, 3) := by decide +kernel
theorem dX4_readUnit_67 : decode cX4_readUnit 67 = .ok (.iload_n 2, 1) := by decide +kernel
theorem dX4_readUnit_68 : decode cX4_readUnit 68 = .ok (.iadd, 1) := by decide +kernel
theorem dX4_readUnit_69 : decode cX4_readUnit 69 = .ok (.bipush 12, 2) := by decide +kernel
theorem dX4_readUnit_71 : decode cX4_readUnit 71 = .ok (.isub, 1) := by decide +kernel
theorem dX4_readUnit_72 : decode cX4_readUnit 72 = .ok (.invokevirtual 156, 3) := by decide +kernel
theorem dX4_readUnit_75 : decode cX4_readUnit 75 = .ok (.goto 52, 3) := by decide +kernel
theorem dX4_readUnit_78 : decode cX4_readUnit 78 = .ok (.iload_n 2, 1) := by decide +kernel
theorem dX4_readUnit_79 : decode cX4_readUnit 79 = .ok (.bipush 40, 2) := by decide +kernel
theorem dX4_readUnit_81 : decode cX4_readUnit 81 = .ok (.if_icmp .eq 11, 3) := by decide +kernel
theorem dX4_readUnit_84 : decode cX4_readUnit 84 = .ok (.aload_n 0, 1) := by decide +kernel
theorem dX4_readUnit_85 : decode cX4_readUnit 85 = .ok (.iconst 1, 1) := by decide +kernel
theorem dX4_readUnit_86 : decode cX4_readUnit 86 = .ok (.invokevirtual 78, 3) := by decide +kernel
theorem dX4_readUnit_89 : decode cX4_readUnit 89 = .ok (.goto 38, 3) := by decide +kernel
theorem dX4_readUnit_92 : decode cX4_readUnit 92 = .ok (.iload_n 1, 1) := by decide +kernel
theorem dX4_readUnit_93 : decode cX4_readUnit 93 = .ok (.bipush 6, 2) := by decide +kernel
theorem dX4_readUnit_95 : decode cX4_readUnit 95 = .ok (.if_icmp .lt 11, 3) := by decide +kernel
theorem dX4_readUnit_98 : decode cX4_readUnit 98 = .ok (.aload_n 0, 1) := by decide +kernel
theorem dX4_readUnit_99 : decode cX4_readUnit 99 = .ok (.iconst 2, 1) := by decide +kernel
theorem dX4_readUnit_100 : decode cX4_readUnit 100 = .ok (.invokevirtual 78, 3) := by decide +kernel
theorem dX4_readUnit_103 : decode cX4_readUnit 103 = .ok (.goto 24, 3) := by decide +kernel
theorem dX4_readUnit_106 : decode cX4_readUnit 106 = .ok (.aload_n 0, 1) := by decide +kernel
theorem dX4_readUnit_107 : decode cX4_readUnit 107 = .ok (.bipush 40, 2) := by decide +kernel
theorem dX4_readUnit_109 : decode cX4_readUnit 109 = .ok (.invokevirtual 81, 3) := by decide +kernel
theorem dX4_readUnit_112 : decode cX4_readUnit 112 = .ok (.pop, 1) := by decide +kernel
theorem dX4_readUnit_113 : decode cX4_readUnit 113 = .ok (.aload_n 0, 1) := by decide +kernel
theorem dX4_readUnit_114 : decode cX4_readUnit 114 = .ok (.iload_n 1, 1) := by decide +kernel
theorem dX4_readUnit_115 : decode cX4_readUnit 115 = .ok (.iconst 1, 1) := by decide +kernel
theorem dX4_readUnit_116 : decode cX4_readUnit 116 = .ok (.iadd, 1) := by decide +kernel
theorem dX4_readUnit_117 : decode cX4_readUnit 117 = .ok (.invokevirtual 147, 3) := by decide +kernel
theorem dX4_readUnit_120 : decode cX4_readUnit 120 = .ok (.aload_n 0, 1) := by decide +kernel
theorem dX4_readUnit_121 : decode cX4_readUnit 121 = .ok (.bipush 41, 2) := by decide +kernel
theorem dX4_readUnit_123 : decode cX4_readUnit 123 = .ok (.invokevirtual 81, 3) := by decide +kernel
theorem dX4_readUnit_126 : decode cX4_readUnit 126 = .ok (.pop, 1) := by decide +kernel
theorem dX4_readUnit_127 : decode cX4_readUnit 127 = .ok (.return_, 1) := by decide +kernel
theorem dX5_init_0 : decode cX5_init 0 = .ok (.aload_n 0, 1) := by decide +kernel
theorem dX5_init_1 : decode cX5_init 1 = .ok (.invokespecial 3, 3) := by decide +kernel
theorem dX5_init_4 : decode cX5_init 4 = .ok (.aload_n 0, 1) := by decide +kernel
theorem dX5_init_5 : decode cX5_init 5 = .ok (.bipush 36, 2) := by decide +kernel
theorem dX5_init_7 : decode cX5_init 7 = .ok (.newarray .int, 2) := by decide +kernel
theorem dX5_init_9 : decode cX5_init 9 = .ok (.putfield 9, 3) := by decide +kernel
theorem dX5_init_12 : decode cX5_init 12 = .ok (.return_, 1) := by decide +kernel
theorem dX5_copyFrom_0 : decode cX5_copyFrom 0 = .ok (.aload_n 1, 1) := by decide +kernel
theorem dX5_copyFrom_1 : decode cX5_copyFrom 1 = .ok (.getfield 9, 3) := by decide +kernel
theorem dX5_copyFrom_4 : decode cX5_copyFrom 4 = .ok (.iconst 0, 1) := by decide +kernel
theorem dX5_copyFrom_5 : decode cX5_copyFrom 5 = .ok (.aload_n 0, 1) := by decide +kernel
theorem dX5_copyFrom_6 : decode cX5_copyFrom 6 = .ok (.getfield 9, 3) := by decide +kernel
theorem dX5_copyFrom_9 : decode cX5_copyFrom 9 = .ok (.iconst 0, 1) := by decide +kernel
theorem dX5_copyFrom_10 : decode cX5_copyFrom 10 = .ok (.bipush 36, 2) := by decide +kernel
theorem dX5_copyFrom_12 : decode cX5_copyFrom 12 = .ok (.invokestatic 15, 3) := by decide +kernel
theorem dX5_copyFrom_15 : decode cX5_copyFrom 15 = .ok (.aload_n 0, 1) := by decide +kernel
theorem dX5_copyFrom_16 : decode cX5_copyFrom 16 = .ok (.aload_n 1, 1) := by decide +kernel
theorem dX5_copyFrom_17 : decode cX5_copyFrom 17 = .ok (.getfield 21, 3) := by decide +kernel
theorem dX5_copyFrom_20 : decode cX5_copyFrom 20 = .ok (.putfield 21, 3) := by decide +kernel
theorem dX5_copyFrom_23 : decode cX5_copyFrom 23 = .ok (.aload_n 0, 1) := by decide +kernel
theorem dX5_copyFrom_24 : decode cX5_copyFrom 24 = .ok (.aload_n 1, 1) := by decide +kernel
theorem dX5_copyFrom_25 : decode cX5_copyFrom 25 = .ok (.getfield 25, 3) := by decide +kernel
theorem dX5_copyFrom_28 : decode cX5_copyFrom 28 = .ok (.putfield 25, 3) := by decide +kernel
theorem dX5_copyFrom_31 : decode cX5_copyFrom 31 = .ok (.aload_n 0, 1) := by decide +kernel
theorem dX5_copyFrom_32 : decode cX5_copyFrom 32 = .ok (.aload_n 1, 1) := by decide +kernel
theorem dX5_copyFrom_33 : decode cX5_copyFrom 33 = .ok (.getfield 28, 3) := by decide +kernel
theorem dX5_copyFrom_36 : decode cX5_copyFrom 36 = .ok (.putfield 28, 3) := by decide +kernel
theorem dX5_copyFrom_39 : decode cX5_copyFrom 39 = .ok (.aload_n 0, 1) := by decide +kernel
theorem dX5_copyFrom_40 : decode cX5_copyFrom 40 = .ok (.aload_n 1, 1) := by decide +kernel
theorem dX5_copyFrom_41 : decode cX5_copyFrom 41 = .ok (.getfield 31, 3) := by decide +kernel
theorem dX5_copyFrom_44 : decode cX5_copyFrom 44 = .ok (.putfield 31, 3) := by decide +kernel
theorem dX5_copyFrom_47 : decode cX5_copyFrom 47 = .ok (.return_, 1) := by decide +kernel
theorem dX5_clearAll_0 : decode cX5_clearAll 0 = .ok (.aload_n 0, 1) := by decide +kernel
theorem dX5_clearAll_1 : decode cX5_clearAll 1 = .ok (.getfield 9, 3) := by decide +kernel
theorem dX5_clearAll_4 : decode cX5_clearAll 4 = .ok (.iconst 0, 1) := by decide +kernel
theorem dX5_clearAll_5 : decode cX5_clearAll 5 = .ok (.invokestatic 34, 3) := by decide +kernel
theorem dX5_clearAll_8 : decode cX5_clearAll 8 = .ok (.aload_n 0, 1) := by decide +kernel
theorem dX5_clearAll_9 : decode cX5_clearAll 9 = .ok (.iconst 0, 1) := by decide +kernel
theorem dX5_clearAll_10 : decode cX5_clearAll 10 = .ok (.putfield 21, 3) := by decide +kernel
theorem dX5_clearAll_13 : decode cX5_clearAll 13 = .ok (.aload_n 0, 1) := by decide +kernel
theorem dX5_clearAll_14 : decode cX5_clearAll 14 = .ok (.iconst 0, 1) := by decide +kernel
theorem dX5_clearAll_15 : decode cX5_clearAll 15 = .ok (.putfield 25, 3) := by decide +kernel
theorem dX5_clearAll_18 : decode cX5_clearAll 18 = .ok (.aload_n 0, 1) := by decide +kernel
theorem dX5_clearAll_19 : decode cX5_clearAll 19 = .ok (.iconst 0, 1) := by decide +kernel
theorem dX5_clearAll_20 : decode cX5_clearAll 20 = .ok (.putfield 28, 3) := by decide +kernel
theorem dX5_clearAll_23 : decode cX5_clearAll 23 = .ok (.aload_n 0, 1) := by decide +kernel
theorem dX5_clearAll_24 : decode cX5_clearAll 24 = .ok (.iconst 0, 1) := by decide +kernel
theorem dX5_clearAll_25 : decode cX5_clearAll 25 = .ok (.putfield 31, 3) := by decide +kernel
theorem dX5_clearAll_28 : decode cX5_clearAll 28 = .ok (.return_, 1) := by decide +kernel
theorem dX5_isOff_0 : decode cX5_isOff 0 = .ok (.aload_n 0, 1) := by decide +kernel
theorem dX5_isOff_1 : decode cX5_isOff 1 = .ok (.getfield 25, 3) := by decide +kernel
theorem dX5_isOff_4 : decode cX5_isOff 4 = .ok (.iload_n 1, 1) := by decide +kernel
theorem dX5_isOff_5 : decode cX5_isOff 5 = .ok (.ishr, 1) := by decide +kernel
theorem dX5_isOff_6 : decode cX5_isOff 6 = .ok (.iconst 1, 1) := by decide +kernel
theorem dX5_isOff_7 : decode cX5_isOff 7 = .ok (.iand, 1) := by decide +kernel
theorem dX5_isOff_8 : decode cX5_isOff 8 = .ok (.ifCond .eq 7, 3) := by decide +kernel
theorem dX5_isOff_11 : decode cX5_isOff 11 = .ok (.iconst 1, 1) := by decide +kernel
theorem dX5_isOff_12 : decode cX5_isOff 12 = .ok (.goto 4, 3) := by decide +kernel
theorem dX5_isOff_15 : decode cX5_isOff 15 = .ok (.iconst 0, 1) := by decide +kernel
theorem dX5_isOff_16 : decode cX5_isOff 16 = .ok (.ireturn, 1) := by decide +kernel
theorem dX5_isDead_0 : decode cX5_isDead 0 = .ok (.aload_n 0, 1) := by decide +kernel
theorem dX5_isDead_1 : decode cX5_isDead 1 = .ok (.getfield 28, 3) := by decide +kernel
theorem dX5_isDead_4 : decode cX5_isDead 4 = .ok (.iload_n 1, 1) := by decide +kernel
theorem dX5_isDead_5 : decode cX5_isDead 5 = .ok (.ishr, 1) := by decide +kernel
theorem dX5_isDead_6 : decode cX5_isDead 6 = .ok (.iconst 1, 1) := by decide +kernel
theorem dX5_isDead_7 : decode cX5_isDead 7 = .ok (.iand, 1) := by decide +kernel
theorem dX5_isDead_8 : decode cX5_isDead 8 = .ok (.ifCond .eq 7, 3) := by decide +kernel
theorem dX5_isDead_11 : decode cX5_isDead 11 = .ok (.iconst 1, 1) := by decide +kernel
theorem dX5_isDead_12 : decode cX5_isDead 12 = .ok (.goto 4, 3) := by decide +kernel
theorem dX5_isDead_15 : decode cX5_isDead 15 = .ok (.iconst 0, 1) := by decide +kernel
theorem dX5_isDead_16 : decode cX5_isDead 16 = .ok (.ireturn, 1) := by decide +kernel
theorem dX5_isCut_0 : decode cX5_isCut 0 = .ok (.aload_n 0, 1) := by decide +kernel
theorem dX5_isCut_1 : decode cX5_isCut 1 = .ok (.getfield 31, 3) := by decide +kernel
theorem dX5_isCut_4 : decode cX5_isCut 4 = .ok (.iload_n 1, 1) := by decide +kernel
theorem dX5_isCut_5 : decode cX5_isCut 5 = .ok (.ishr, 1) := by decide +kernel
theorem dX5_isCut_6 : decode cX5_isCut 6 = .ok (.iconst 1, 1) := by decide +kernel
theorem dX5_isCut_7 : decode cX5_isCut 7 = .ok (.iand, 1) := by decide +kernel
theorem dX5_isCut_8 : decode cX5_isCut 8 = .ok (.ifCond .eq 7, 3) := by decide +kernel
theorem dX5_isCut_11 : decode cX5_isCut 11 = .ok (.iconst 1, 1) := by decide +kernel
theorem dX5_isCut_12 : decode cX5_isCut 12 = .ok (.goto 4, 3) := by decide +kernel
theorem dX5_isCut_15 : decode cX5_isCut 15 = .ok (.iconst 0, 1) := by decide +kernel
theorem dX5_isCut_16 : decode cX5_isCut 16 = .ok (.ireturn, 1) := by decide +kernel
theorem dX5_isWorn_0 : decode cX5_isWorn 0 = .ok (.aload_n 0, 1) := by decide +kernel
theorem dX5_isWorn_1 : decode cX5_isWorn 1 = .ok (.getfield 9, 3) := by decide +kernel
theorem dX5_isWorn_4 : decode cX5_isWorn 4 = .ok (.bipush 28, 2) := by decide +kernel
theorem dX5_isWorn_6 : decode cX5_isWorn 6 = .ok (.iload_n 1, 1) := by decide +kernel
theorem dX5_isWorn_7 : decode cX5_isWorn 7 = .ok (.iadd, 1) := by decide +kernel
theorem dX5_isWorn_8 : decode cX5_isWorn 8 = .ok (.iaload, 1) := by decide +kernel
theorem dX5_isWorn_9 : decode cX5_isWorn 9 = .ok (.iload_n 2, 1) := by decide +kernel
theorem dX5_isWorn_10 : decode cX5_isWorn 10 = .ok (.if_icmp .ne 18, 3) := by decide +kernel
theorem dX5_isWorn_13 : decode cX5_isWorn 13 = .ok (.aload_n 0, 1) := by decide +kernel
theorem dX5_isWorn_14 : decode cX5_isWorn 14 = .ok (.getfield 31, 3) := by decide +kernel
theorem dX5_isWorn_17 : decode cX5_isWorn 17 = .ok (.iload_n 1, 1) := by decide +kernel
theorem dX5_isWorn_18 : decode cX5_isWorn 18 = .ok (.ishr, 1) := by decide +kernel
theorem dX5_isWorn_19 : decode cX5_isWorn 19 = .ok (.iconst 1, 1) := by decide +kernel
theorem dX5_isWorn_20 : decode cX5_isWorn 20 = .ok (.iand, 1) := by decide +kernel
theorem dX5_isWorn_21 : decode cX5_isWorn 21 = .ok (.ifCond .ne 7, 3) := by decide +kernel
theorem dX5_isWorn_24 : decode cX5_isWorn 24 = .ok (.iconst 1, 1) := by decide +kernel
theorem dX5_isWorn_25 : decode cX5_isWorn 25 = .ok (.goto 4, 3) := by decide +kernel
theorem dX5_isWorn_28 : decode cX5_isWorn 28 = .ok (.iconst 0, 1) := by decide +kernel
theorem dX5_isWorn_29 : decode cX5_isWorn 29 = .ok (.ireturn, 1) := by decide +kernel
theorem dX5_mayBeHanded_0 : decode cX5_mayBeHanded 0 = .ok (.aload_n 0, 1) := by decide +kernel
theorem dX5_mayBeHanded_1 : decode cX5_mayBeHanded 1 = .ok (.getfield 9, 3) := by decide +kernel
theorem dX5_mayBeHanded_4 : decode cX5_mayBeHanded 4 = .ok (.bipush 28, 2) := by decide +kernel
theorem dX5_mayBeHanded_6 : decode cX5_mayBeHanded 6 = .ok (.iload_n 1, 1) := by decide +kernel
theorem dX5_mayBeHanded_7 : decode cX5_mayBeHanded 7 = .ok (.iadd, 1) := by decide +kernel
theorem dX5_mayBeHanded_8 : decode cX5_mayBeHanded 8 = .ok (.iaload, 1) := by decide +kernel
theorem dX5_mayBeHanded_9 : decode cX5_mayBeHanded 9 = .ok (.iload_n 2, 1) := by decide +kernel
theorem dX5_mayBeHanded_10 : decode cX5_mayBeHanded 10 = .ok (.if_icmp .eq 23, 3) := by decide +kernel
theorem dX5_mayBeHanded_13 : decode cX5_mayBeHanded 13 = .ok (.aload_n 0, 1) := by decide +kernel
theorem dX5_mayBeHanded_14 : decode cX5_mayBeHanded 14 = .ok (.iload_n 1, 1) := by decide +kernel
theorem dX5_mayBeHanded_15 : decode cX5_mayBeHanded 15 = .ok (.invokevirtual 40, 3) := by decide +kernel
theorem dX5_mayBeHanded_18 : decode cX5_mayBeHanded 18 = .ok (.ifCond .ne 15, 3) := by decide +kernel
theorem dX5_mayBeHanded_21 : decode cX5_mayBeHanded 21 = .ok (.aload_n 0, 1) := by decide +kernel
theorem dX5_mayBeHanded_22 : decode cX5_mayBeHanded 22 = .ok (.iload_n 2, 1) := by decide +kernel
theorem dX5_mayBeHanded_23 : decode cX5_mayBeHanded 23 = .ok (.invokevirtual 44, 3) := by decide +kernel
theorem dX5_mayBeHanded_26 : decode cX5_mayBeHanded 26 = .ok (.ifCond .ne 7, 3) := by decide +kernel
theorem dX5_mayBeHanded_29 : decode cX5_mayBeHanded 29 = .ok (.iconst 1, 1) := by decide +kernel
theorem dX5_mayBeHanded_30 : decode cX5_mayBeHanded 30 = .ok (.goto 4, 3) := by decide +kernel
theorem dX5_mayBeHanded_33 : decode cX5_mayBeHanded 33 = .ok (.iconst 0, 1) := by decide +kernel
theorem dX5_mayBeHanded_34 : decode cX5_mayBeHanded 34 = .ok (.ireturn, 1) := by decide +kernel
theorem dX5_swim_0 : decode cX5_swim 0 = .ok (.aload_n 0, 1) := by decide +kernel
theorem dX5_swim_1 : decode cX5_swim 1 = .ok (.iload_n 1, 1) := by decide +kernel
theorem dX5_swim_2 : decode cX5_swim 2 = .ok (.invokevirtual 47, 3) := by decide +kernel
theorem dX5_swim_5 : decode cX5_swim 5 = .ok (.ifCond .ne 25, 3) := by decide +kernel
theorem dX5_swim_8 : decode cX5_swim 8 = .ok (.aload_n 0, 1) := by decide +kernel
theorem dX5_swim_9 : decode cX5_swim 9 = .ok (.iconst 0, 1) := by decide +kernel
theorem dX5_swim_10 : decode cX5_swim 10 = .ok (.iload_n 1, 1) := by decide +kernel
theorem dX5_swim_11 : decode cX5_swim 11 = .ok (.iadd, 1) := by decide +kernel
theorem dX5_swim_12 : decode cX5_swim 12 = .ok (.bipush 8, 2) := by decide +kernel
theorem dX5_swim_14 : decode cX5_swim 14 = .ok (.iload_n 1, 1) := by decide +kernel
theorem dX5_swim_15 : decode cX5_swim 15 = .ok (.iadd, 1) := by decide +kernel
theorem dX5_swim_16 : decode cX5_swim 16 = .ok (.invokevirtual 50, 3) := by decide +kernel
theorem dX5_swim_19 : decode cX5_swim 19 = .ok (.aload_n 0, 1) := by decide +kernel
theorem dX5_swim_20 : decode cX5_swim 20 = .ok (.iconst 4, 1) := by decide +kernel
theorem dX5_swim_21 : decode cX5_swim 21 = .ok (.iload_n 1, 1) := by decide +kernel
theorem dX5_swim_22 : decode cX5_swim 22 = .ok (.iadd, 1) := by decide +kernel
theorem dX5_swim_23 : decode cX5_swim 23 = .ok (.bipush 12, 2) := by decide +kernel
theorem dX5_swim_25 : decode cX5_swim 25 = .ok (.iload_n 1, 1) := by decide +kernel
theorem dX5_swim_26 : decode cX5_swim 26 = .ok (.iadd, 1) := by decide +kernel
theorem dX5_swim_27 : decode cX5_swim 27 = .ok (.invokevirtual 50, 3) := by decide +kernel
theorem dX5_swim_30 : decode cX5_swim 30 = .ok (.return_, 1) := by decide +kernel
theorem dX5_swimAlong_0 : decode cX5_swimAlong 0 = .ok (.aload_n 0, 1) := by decide +kernel
theorem dX5_swimAlong_1 : decode cX5_swimAlong 1 = .ok (.getfield 9, 3) := by decide +kernel
theorem dX5_swimAlong_4 : decode cX5_swimAlong 4 = .ok (.iload_n 1, 1) := by decide +kernel
theorem dX5_swimAlong_5 : decode cX5_swimAlong 5 = .ok (.iaload, 1) := by decide +kernel
theorem dX5_swimAlong_6 : decode cX5_swimAlong 6 = .ok (.aload_n 0, 1) := by decide +kernel
theorem dX5_swimAlong_7 : decode cX5_swimAlong 7 = .ok (.getfield 9, 3) := by decide +kernel
theorem dX5_swimAlong_10 : decode cX5_swimAlong 10 = .ok (.iload_n 2, 1) := by decide +kernel
theorem dX5_swimAlong_11 : decode cX5_swimAlong 11 = .ok (.iaload, 1) := by decide +kernel
theorem dX5_swimAlong_12 : decode cX5_swimAlong 12 = .ok (.iadd, 1) := by decide +kernel
theorem dX5_swimAlong_13 : decode cX5_swimAlong 13 = .ok (.istore_n 3, 1) := by decide +kernel
theorem dX5_swimAlong_14 : decode cX5_swimAlong 14 = .ok (.iload_n 3, 1) := by decide +kernel
theorem dX5_swimAlong_15 : decode cX5_swimAlong 15 = .ok (.ifCond .ge 22, 3) := by decide +kernel
theorem dX5_swimAlong_18 : decode cX5_swimAlong 18 = .ok (.iload_n 3, 1) := by decide +kernel
theorem dX5_swimAlong_19 : decode cX5_swimAlong 19 = .ok (.ineg, 1) := by decide +kernel
theorem dX5_swimAlong_20 : decode cX5_swimAlong 20 = .ok (.istore_n 3, 1) := by decide +kernel
theorem dX5_swimAlong_21 : decode cX5_swimAlong 21 = .ok (.aload_n 0, 1) := by decide +kernel
theorem dX5_swimAlong_22 : decode cX5_swimAlong 22 = .ok (.getfield 9, 3) := by decide +kernel
theorem dX5_swimAlong_25 : decode cX5_swimAlong 25 = .ok (.iload_n 2, 1) := by decide +kernel
theorem dX5_swimAlong_26 : decode cX5_swimAlong 26 = .ok (.aload_n 0, 1) := by decide +kernel
theorem dX5_swimAlong_27 : decode cX5_swimAlong 27 = .ok (.getfield 9, 3) := by decide +kernel
theorem dX5_swimAlong_30 : decode cX5_swimAlong 30 = .ok (.iload_n 2, 1) := by decide +kernel
theorem dX5_swimAlong_31 : decode cX5_swimAlong 31 = .ok (.iaload, 1) := by decide +kernel
theorem dX5_swimAlong_32 : decode cX5_swimAlong 32 = .ok (.ineg, 1) := by decide +kernel
theorem dX5_swimAlong_33 : decode cX5_swimAlong 33 = .ok (.iastore, 1) := by decide +kernel
theorem dX5_swimAlong_34 : decode cX5_swimAlong 34 = .ok (.goto 27, 3) := by decide +kernel
theorem dX5_swimAlong_37 : decode cX5_swimAlong 37 = .ok (.iload_n 3, 1) := by decide +kernel
theorem dX5_swimAlong_38 : decode cX5_swimAlong 38 = .ok (.bipush 9, 2) := by decide +kernel
theorem dX5_swimAlong_40 : decode cX5_swimAlong 40 = .ok (.if_icmp .le 21, 3) := by decide +kernel
theorem dX5_swimAlong_43 : decode cX5_swimAlong 43 = .ok (.bipush 18, 2) := by decide +kernel
theorem dX5_swimAlong_45 : decode cX5_swimAlong 45 = .ok (.iload_n 3, 1) := by decide +kernel
theorem dX5_swimAlong_46 : decode cX5_swimAlong 46 = .ok (.isub, 1) := by decide +kernel
theorem dX5_swimAlong_47 : decode cX5_swimAlong 47 = .ok (.istore_n 3, 1) := by decide +kernel
theorem dX5_swimAlong_48 : decode cX5_swimAlong 48 = .ok (.aload_n 0, 1) := by decide +kernel
theorem dX5_swimAlong_49 : decode cX5_swimAlong 49 = .ok (.getfield 9, 3) := by decide +kernel
theorem dX5_swimAlong_52 : decode cX5_swimAlong 52 = .ok (.iload_n 2, 1) := by decide +kernel
theorem dX5_swimAlong_53 : decode cX5_swimAlong 53 = .ok (.aload_n 0, 1) := by decide +kernel
theorem dX5_swimAlong_54 : decode cX5_swimAlong 54 = .ok (.getfield 9, 3) := by decide +kernel
theorem dX5_swimAlong_57 : decode cX5_swimAlong 57 = .ok (.iload_n 2, 1) := by decide +kernel
theorem dX5_swimAlong_58 : decode cX5_swimAlong 58 = .ok (.iaload, 1) := by decide +kernel
theorem dX5_swimAlong_59 : decode cX5_swimAlong 59 = .ok (.ineg, 1) := by decide +kernel
theorem dX5_swimAlong_60 : decode cX5_swimAlong 60 = .ok (.iastore, 1) := by decide +kernel
theorem dX5_swimAlong_61 : decode cX5_swimAlong 61 = .ok (.aload_n 0, 1) := by decide +kernel
theorem dX5_swimAlong_62 : decode cX5_swimAlong 62 = .ok (.getfield 9, 3) := by decide +kernel
theorem dX5_swimAlong_65 : decode cX5_swimAlong 65 = .ok (.iload_n 1, 1) := by decide +kernel
theorem dX5_swimAlong_66 : decode cX5_swimAlong 66 = .ok (.iload_n 3, 1) := by decide +kernel
theorem dX5_swimAlong_67 : decode cX5_swimAlong 67 = .ok (.iastore, 1) := by decide +kernel
theorem dX5_swimAlong_68 : decode cX5_swimAlong 68 = .ok (.return_, 1) := by decide +kernel
theorem dX5_swimsLike_0 : decode cX5_swimsLike 0 = .ok (.aload_n 0, 1) := by decide +kernel
theorem dX5_swimsLike_1 : decode cX5_swimsLike 1 = .ok (.getfield 9, 3) := by decide +kernel
theorem dX5_swimsLike_4 : decode cX5_swimsLike 4 = .ok (.iconst 0, 1) := by decide +kernel
theorem dX5_swimsLike_5 : decode cX5_swimsLike 5 = .ok (.iload_n 2, 1) := by decide +kernel
theorem dX5_swimsLike_6 : decode cX5_swimsLike 6 = .ok (.iadd, 1) := by decide +kernel
theorem dX5_swimsLike_7 : decode cX5_swimsLike 7 = .ok (.iaload, 1) := by decide +kernel
theorem dX5_swimsLike_8 : decode cX5_swimsLike 8 = .ok (.aload_n 1, 1) := by decide +kernel
theorem dX5_swimsLike_9 : decode cX5_swimsLike 9 = .ok (.getfield 9, 3) := by decide +kernel
theorem dX5_swimsLike_12 : decode cX5_swimsLike 12 = .ok (.iconst 0, 1) := by decide +kernel
theorem dX5_swimsLike_13 : decode cX5_swimsLike 13 = .ok (.iload_n 2, 1) := by decide +kernel
theorem dX5_swimsLike_14 : decode cX5_swimsLike 14 = .ok (.iadd, 1) := by decide +kernel
theorem dX5_swimsLike_15 : decode cX5_swimsLike 15 = .ok (.iaload, 1) := by decide +kernel
theorem dX5_swimsLike_16 : decode cX5_swimsLike 16 = .ok (.if_icmp .ne 68, 3) := by decide +kernel
theorem dX5_swimsLike_19 : decode cX5_swimsLike 19 = .ok (.aload_n 0, 1) := by decide +kernel
theorem dX5_swimsLike_20 : decode cX5_swimsLike 20 = .ok (.getfield 9, 3) := by decide +kernel
theorem dX5_swimsLike_23 : decode cX5_swimsLike 23 = .ok (.iconst 4, 1) := by decide +kernel
theorem dX5_swimsLike_24 : decode cX5_swimsLike 24 = .ok (.iload_n 2, 1) := by decide +kernel
theorem dX5_swimsLike_25 : decode cX5_swimsLike 25 = .ok (.iadd, 1) := by decide +kernel
theorem dX5_swimsLike_26 : decode cX5_swimsLike 26 = .ok (.iaload, 1) := by decide +kernel
theorem dX5_swimsLike_27 : decode cX5_swimsLike 27 = .ok (.aload_n 1, 1) := by decide +kernel
theorem dX5_swimsLike_28 : decode cX5_swimsLike 28 = .ok (.getfield 9, 3) := by decide +kernel
theorem dX5_swimsLike_31 : decode cX5_swimsLike 31 = .ok (.iconst 4, 1) := by decide +kernel
theorem dX5_swimsLike_32 : decode cX5_swimsLike 32 = .ok (.iload_n 2, 1) := by decide +kernel
theorem dX5_swimsLike_33 : decode cX5_swimsLike 33 = .ok (.iadd, 1) := by decide +kernel
theorem dX5_swimsLike_34 : decode cX5_swimsLike 34 = .ok (.iaload, 1) := by decide +kernel
theorem dX5_swimsLike_35 : decode cX5_swimsLike 35 = .ok (.if_icmp .ne 49, 3) := by decide +kernel
theorem dX5_swimsLike_38 : decode cX5_swimsLike 38 = .ok (.aload_n 0, 1) := by decide +kernel
theorem dX5_swimsLike_39 : decode cX5_swimsLike 39 = .ok (.getfield 9, 3) := by decide +kernel
theorem dX5_swimsLike_42 : decode cX5_swimsLike 42 = .ok (.bipush 8, 2) := by decide +kernel
theorem dX5_swimsLike_44 : decode cX5_swimsLike 44 = .ok (.iload_n 2, 1) := by decide +kernel
theorem dX5_swimsLike_45 : decode cX5_swimsLike 45 = .ok (.iadd, 1) := by decide +kernel
theorem dX5_swimsLike_46 : decode cX5_swimsLike 46 = .ok (.iaload, 1) := by decide +kernel
theorem dX5_swimsLike_47 : decode cX5_swimsLike 47 = .ok (.aload_n 1, 1) := by decide +kernel
theorem dX5_swimsLike_48 : decode cX5_swimsLike 48 = .ok (.getfield 9, 3) := by decide +kernel
theorem dX5_swimsLike_51 : decode cX5_swimsLike 51 = .ok (.bipush 8, 2) := by decide +kernel
theorem dX5_swimsLike_53 : decode cX5_swimsLike 53 = .ok (.iload_n 2, 1) := by decide +kernel
theorem dX5_swimsLike_54 : decode cX5_swimsLike 54 = .ok (.iadd, 1) := by decide +kernel
theorem dX5_swimsLike_55 : decode cX5_swimsLike 55 = .ok (.iaload, 1) := by decide +kernel
theorem dX5_swimsLike_56 : decode cX5_swimsLike 56 = .ok (.if_icmp .ne 28, 3) := by decide +kernel
theorem dX5_swimsLike_59 : decode cX5_swimsLike 59 = .ok (.aload_n 0, 1) := by decide +kernel
theorem dX5_swimsLike_60 : decode cX5_swimsLike 60 = .ok (.getfield 9, 3) := by decide +kernel
theorem dX5_swimsLike_63 : decode cX5_swimsLike 63 = .ok (.bipush 12, 2) := by decide +kernel
theorem dX5_swimsLike_65 : decode cX5_swimsLike 65 = .ok (.iload_n 2, 1) := by decide +kernel
theorem dX5_swimsLike_66 : decode cX5_swimsLike 66 = .ok (.iadd, 1) := by decide +kernel
theorem dX5_swimsLike_67 : decode cX5_swimsLike 67 = .ok (.iaload, 1) := by decide +kernel
theorem dX5_swimsLike_68 : decode cX5_swimsLike 68 = .ok (.aload_n 1, 1) := by decide +kernel
theorem dX5_swimsLike_69 : decode cX5_swimsLike 69 = .ok (.getfield 9, 3) := by decide +kernel
theorem dX5_swimsLike_72 : decode cX5_swimsLike 72 = .ok (.bipush 12, 2) := by decide +kernel
theorem dX5_swimsLike_74 : decode cX5_swimsLike 74 = .ok (.iload_n 2, 1) := by decide +kernel
theorem dX5_swimsLike_75 : decode cX5_swimsLike 75 = .ok (.iadd, 1) := by decide +kernel
theorem dX5_swimsLike_76 : decode cX5_swimsLike 76 = .ok (.iaload, 1) := by decide +kernel
theorem dX5_swimsLike_77 : decode cX5_swimsLike 77 = .ok (.if_icmp .ne 7, 3) := by decide +kernel
theorem dX5_swimsLike_80 : decode cX5_swimsLike 80 = .ok (.iconst 1, 1) := by decide +kernel
theorem dX5_swimsLike_81 : decode cX5_swimsLike 81 = .ok (.goto 4, 3) := by decide +kernel
theorem dX5_swimsLike_84 : decode cX5_swimsLike 84 = .ok (.iconst 0, 1) := by decide +kernel
theorem dX5_swimsLike_85 : decode cX5_swimsLike 85 = .ok (.ireturn, 1) := by decide +kernel
theorem dX5_farOf_0 : decode cX5_farOf 0 = .ok (.aload_n 0, 1) := by decide +kernel
theorem dX5_farOf_1 : decode cX5_farOf 1 = .ok (.getfield 9, 3) := by decide +kernel
theorem dX5_farOf_4 : decode cX5_farOf 4 = .ok (.iconst 0, 1) := by decide +kernel
theorem dX5_farOf_5 : decode cX5_farOf 5 = .ok (.iload_n 1, 1) := by decide +kernel
theorem dX5_farOf_6 : decode cX5_farOf 6 = .ok (.iadd, 1) := by decide +kernel
theorem dX5_farOf_7 : decode cX5_farOf 7 = .ok (.iaload, 1) := by decide +kernel
theorem dX5_farOf_8 : decode cX5_farOf 8 = .ok (.aload_n 0, 1) := by decide +kernel
theorem dX5_farOf_9 : decode cX5_farOf 9 = .ok (.getfield 9, 3) := by decide +kernel
theorem dX5_farOf_12 : decode cX5_farOf 12 = .ok (.iconst 4, 1) := by decide +kernel
theorem dX5_farOf_13 : decode cX5_farOf 13 = .ok (.iload_n 1, 1) := by decide +kernel
theorem dX5_farOf_14 : decode cX5_farOf 14 = .ok (.iadd, 1) := by decide +kernel
theorem dX5_farOf_15 : decode cX5_farOf 15 = .ok (.iaload, 1) := by decide +kernel
theorem dX5_farOf_16 : decode cX5_farOf 16 = .ok (.iload_n 2, 1) := by decide +kernel
theorem dX5_farOf_17 : decode cX5_farOf 17 = .ok (.iload_n 3, 1) := by decide +kernel
theorem dX5_farOf_18 : decode cX5_farOf 18 = .ok (.invokestatic 54, 3) := by decide +kernel
theorem dX5_farOf_21 : decode cX5_farOf 21 = .ok (.ireturn, 1) := by decide +kernel
theorem dX6_init_0 : decode cX6_init 0 = .ok (.aload_n 0, 1) := by decide +kernel
theorem dX6_init_1 : decode cX6_init 1 = .ok (.invokespecial 3, 3) := by decide +kernel
theorem dX6_init_4 : decode cX6_init 4 = .ok (.aload_n 0, 1) := by decide +kernel
theorem dX6_init_5 : decode cX6_init 5 = .ok (.aload_n 1, 1) := by decide +kernel
theorem dX6_init_6 : decode cX6_init 6 = .ok (.putfield 9, 3) := by decide +kernel
theorem dX6_init_9 : decode cX6_init 9 = .ok (.aload_n 0, 1) := by decide +kernel
theorem dX6_init_10 : decode cX6_init 10 = .ok (.sipush 401, 3) := by decide +kernel
theorem dX6_init_13 : decode cX6_init 13 = .ok (.newarray .int, 2) := by decide +kernel
theorem dX6_init_15 : decode cX6_init 15 = .ok (.putfield 15, 3) := by decide +kernel
theorem dX6_init_18 : decode cX6_init 18 = .ok (.aload_n 0, 1) := by decide +kernel
theorem dX6_init_19 : decode cX6_init 19 = .ok (.sipush 401, 3) := by decide +kernel
theorem dX6_init_22 : decode cX6_init 22 = .ok (.newarray .int, 2) := by decide +kernel
theorem dX6_init_24 : decode cX6_init 24 = .ok (.putfield 19, 3) := by decide +kernel
theorem dX6_init_27 : decode cX6_init 27 = .ok (.aload_n 0, 1) := by decide +kernel
theorem dX6_init_28 : decode cX6_init 28 = .ok (.sipush 401, 3) := by decide +kernel
theorem dX6_init_31 : decode cX6_init 31 = .ok (.newarray .long, 2) := by decide +kernel
theorem dX6_init_33 : decode cX6_init 33 = .ok (.putfield 22, 3) := by decide +kernel
theorem dX6_init_36 : decode cX6_init 36 = .ok (.return_, 1) := by decide +kernel
theorem dX6_split_0 : decode cX6_split 0 = .ok (.aload_n 0, 1) := by decide +kernel
theorem dX6_split_1 : decode cX6_split 1 = .ok (.iload_n 1, 1) := by decide +kernel
theorem dX6_split_2 : decode cX6_split 2 = .ok (.aload_n 0, 1) := by decide +kernel
theorem dX6_split_3 : decode cX6_split 3 = .ok (.getfield 9, 3) := by decide +kernel
theorem dX6_split_6 : decode cX6_split 6 = .ok (.arraylength, 1) := by decide +kernel
theorem dX6_split_7 : decode cX6_split 7 = .ok (.invokestatic 26, 3) := by decide +kernel
theorem dX6_split_10 : decode cX6_split 10 = .ok (.putfield 32, 3) := by decide +kernel
theorem dX6_split_13 : decode cX6_split 13 = .ok (.iconst 0, 1) := by decide +kernel
theorem dX6_split_14 : decode cX6_split 14 = .ok (.istore_n 2, 1) := by decide +kernel
theorem dX6_split_15 : decode cX6_split 15 = .ok (.iconst 0, 1) := by decide +kernel
theorem dX6_split_16 : decode cX6_split 16 = .ok (.istore_n 3, 1) := by decide +kernel
theorem dX6_split_17 : decode cX6_split 17 = .ok (.iload_n 3, 1) := by decide +kernel
theorem dX6_split_18 : decode cX6_split 18 = .ok (.sipush 400, 3) := by decide +kernel
theorem dX6_split_21 : decode cX6_split 21 = .ok (.if_icmp .gt 52, 3) := by decide +kernel
theorem dX6_split_24 : decode cX6_split 24 = .ok (.aload_n 0, 1) := by decide +kernel
theorem dX6_split_25 : decode cX6_split 25 = .ok (.iload_n 2, 1) := by decide +kernel
theorem dX6_split_26 : decode cX6_split 26 = .ok (.invokevirtual 36, 3) := by decide +kernel
theorem dX6_split_29 : decode cX6_split 29 = .ok (.istore_n 2, 1) := by decide +kernel
theorem dX6_split_30 : decode cX6_split 30 = .ok (.aload_n 0, 1) := by decide +kernel
theorem dX6_split_31 : decode cX6_split 31 = .ok (.getfield 19, 3) := by decide +kernel
theorem dX6_split_34 : decode cX6_split 34 = .ok (.iload_n 3, 1) := by decide +kernel
theorem dX6_split_35 : decode cX6_split 35 = .ok (.iload_n 2, 1) := by decide +kernel
theorem dX6_split_36 : decode cX6_split 36 = .ok (.iastore, 1) := by decide +kernel
theorem dX6_split_37 : decode cX6_split 37 = .ok (.aload_n 0, 1) := by decide +kernel
theorem dX6_split_38 : decode cX6_split 38 = .ok (.iload_n 3, 1) := by decide +kernel
theorem dX6_split_39 : decode cX6_split 39 = .ok (.iload_n 2, 1) := by decide +kernel
theorem dX6_split_40 : decode cX6_split 40 = .ok (.invokevirtual 40, 3) := by decide +kernel
theorem dX6_split_43 : decode cX6_split 43 = .ok (.istore_n 2, 1) := by decide +kernel
theorem dX6_split_44 : decode cX6_split 44 = .ok (.aload_n 0, 1) := by decide +kernel
theorem dX6_split_45 : decode cX6_split 45 = .ok (.getfield 15, 3) := by decide +kernel
theorem dX6_split_48 : decode cX6_split 48 = .ok (.iload_n 3, 1) := by decide +kernel
theorem dX6_split_49 : decode cX6_split 49 = .ok (.iaload, 1) := by decide +kernel
theorem dX6_split_50 : decode cX6_split 50 = .ok (.bipush 23, 2) := by decide +kernel
theorem dX6_split_52 : decode cX6_split 52 = .ok (.if_icmp .eq 14, 3) := by decide +kernel
theorem dX6_split_55 : decode cX6_split 55 = .ok (.aload_n 0, 1) := by decide +kernel
theorem dX6_split_56 : decode cX6_split 56 = .ok (.getfield 15, 3) := by decide +kernel
theorem dX6_split_59 : decode cX6_split 59 = .ok (.iload_n 3, 1) := by decide +kernel
theorem dX6_split_60 : decode cX6_split 60 = .ok (.iaload, 1) := by decide +kernel
theorem dX6_split_61 : decode cX6_split 61 = .ok (.bipush 24, 2) := by decide +kernel
theorem dX6_split_63 : decode cX6_split 63 = .ok (.if_icmp .ne 4, 3) := by decide +kernel
theorem dX6_split_66 : decode cX6_split 66 = .ok (.return_, 1) := by decide +kernel
theorem dX6_split_67 : decode cX6_split 67 = .ok (.iinc 3 1, 3) := by decide +kernel
theorem dX6_split_70 : decode cX6_split 70 = .ok (.goto (-53), 3) := by decide +kernel
theorem dX6_split_73 : decode cX6_split 73 = .ok (.return_, 1) := by decide +kernel
theorem dX6_behindBlanks_0 : decode cX6_behindBlanks 0 = .ok (.iload_n 1, 1) := by decide +kernel
theorem dX6_behindBlanks_1 : decode cX6_behindBlanks 1 = .ok (.istore_n 2, 1) := by decide +kernel
theorem dX6_behindBlanks_2 : decode cX6_behindBlanks 2 = .ok (.iload_n 2, 1) := by decide +kernel
theorem dX6_behindBlanks_3 : decode cX6_behindBlanks 3 = .ok (.aload_n 0, 1) := by decide +kernel
theorem dX6_behindBlanks_4 : decode cX6_behindBlanks 4 = .ok (.getfield 32, 3) := by decide +kernel
theorem dX6_behindBlanks_7 : decode cX6_behindBlanks 7 = .ok (.if_icmp .ge 53, 3) := by decide +kernel
theorem dX6_behindBlanks_10 : decode cX6_behindBlanks 10 = .ok (.aload_n 0, 1) := by decide +kernel
theorem dX6_behindBlanks_11 : decode cX6_behindBlanks 11 = .ok (.getfield 9, 3) := by decide +kernel
theorem dX6_behindBlanks_14 : decode cX6_behindBlanks 14 = .ok (.iload_n 2, 1) := by decide +kernel
theorem dX6_behindBlanks_15 : decode cX6_behindBlanks 15 = .ok (.baload, 1) := by decide +kernel
theorem dX6_behindBlanks_16 : decode cX6_behindBlanks 16 = .ok (.bipush 32, 2) := by decide +kernel
theorem dX6_behindBlanks_18 : decode cX6_behindBlanks 18 = .ok (.if_icmp .eq 36, 3) := by decide +kernel
theorem dX6_behindBlanks_21 : decode cX6_behindBlanks 21 = .ok (.aload_n 0, 1) := by decide +kernel
theorem dX6_behindBlanks_22 : decode cX6_behindBlanks 22 = .ok (.getfield 9, 3) := by decide +kernel
theorem dX6_behindBlanks_25 : decode cX6_behindBlanks 25 = .ok (.iload_n 2, 1) := by decide +kernel
theorem dX6_behindBlanks_26 : decode cX6_behindBlanks 26 = .ok (.baload, 1) := by decide +kernel
theorem dX6_behindBlanks_27 : decode cX6_behindBlanks 27 = .ok (.bipush 9, 2) := by decide +kernel
theorem dX6_behindBlanks_29 : decode cX6_behindBlanks 29 = .ok (.if_icmp .eq 25, 3) := by decide +kernel
theorem dX6_behindBlanks_32 : decode cX6_behindBlanks 32 = .ok (.aload_n 0, 1) := by decide +kernel
theorem dX6_behindBlanks_33 : decode cX6_behindBlanks 33 = .ok (.getfield 9, 3) := by decide +kernel
theorem dX6_behindBlanks_36 : decode cX6_behindBlanks 36 = .ok (.iload_n 2, 1) := by decide +kernel
theorem dX6_behindBlanks_37 : decode cX6_behindBlanks 37 = .ok (.baload, 1) := by decide +kernel
theorem dX6_behindBlanks_38 : decode cX6_behindBlanks 38 = .ok (.bipush 10, 2) := by decide +kernel
theorem dX6_behindBlanks_40 : decode cX6_behindBlanks 40 = .ok (.if_icmp .eq 14, 3) := by decide +kernel
theorem dX6_behindBlanks_43 : decode cX6_behindBlanks 43 = .ok (.aload_n 0, 1) := by decide +kernel
theorem dX6_behindBlanks_44 : decode cX6_behindBlanks 44 = .ok (.getfield 9, 3) := by decide +kernel
theorem dX6_behindBlanks_47 : decode cX6_behindBlanks 47 = .ok (.iload_n 2, 1) := by decide +kernel
theorem dX6_behindBlanks_48 : decode cX6_behindBlanks 48 = .ok (.baload, 1) := by decide +kernel
theorem dX6_behindBlanks_49 : decode cX6_behindBlanks 49 = .ok (.bipush 13, 2) := by decide +kernel
theorem dX6_behindBlanks_51 : decode cX6_behindBlanks 51 = .ok (.if_icmp .ne 9, 3) := by decide +kernel
theorem dX6_behindBlanks_54 : decode cX6_behindBlanks 54 = .ok (.iinc 2 1, 3) := by decide +kernel
theorem dX6_behindBlanks_57 : decode cX6_behindBlanks 57 = .ok (.goto (-55), 3) := by decide +kernel
theorem dX6_behindBlanks_60 : decode cX6_behindBlanks 60 = .ok (.iload_n 2, 1) := by decide +kernel
theorem dX6_behindBlanks_61 : decode cX6_behindBlanks 61 = .ok (.ireturn, 1) := by decide +kernel
theorem dX6_takeOne_0 : decode cX6_takeOne 0 = .ok (.iload_n 2, 1) := by decide +kernel
theorem dX6_takeOne_1 : decode cX6_takeOne 1 = .ok (.aload_n 0, 1) := by decide +kernel
theorem dX6_takeOne_2 : decode cX6_takeOne 2 = .ok (.getfield 32, 3) := by decide +kernel
theorem dX6_takeOne_5 : decode cX6_takeOne 5 = .ok (.if_icmp .lt 13, 3) := by decide +kernel
theorem dX6_takeOne_8 : decode cX6_takeOne 8 = .ok (.aload_n 0, 1) := by decide +kernel
theorem dX6_takeOne_9 : decode cX6_takeOne 9 = .ok (.getfield 15, 3) := by decide +kernel
theorem dX6_takeOne_12 : decode cX6_takeOne 12 = .ok (.iload_n 1, 1) := by decide +kernel
theorem dX6_takeOne_13 : decode cX6_takeOne 13 = .ok (.bipush 23, 2) := by decide +kernel
theorem dX6_takeOne_15 : decode cX6_takeOne 15 = .ok (.iastore, 1) := by decide +kernel
theorem dX6_takeOne_16 : decode cX6_takeOne 16 = .ok (.iload_n 2, 1) := by decide +kernel
theorem dX6_takeOne_17 : decode cX6_takeOne 17 = .ok (.ireturn, 1) := by decide +kernel
theorem dX6_takeOne_18 : decode cX6_takeOne 18 = .ok (.aload_n 0, 1) := by decide +kernel
theorem dX6_takeOne_19 : decode cX6_takeOne 19 = .ok (.iload_n 2, 1) := by decide +kernel
theorem dX6_takeOne_20 : decode cX6_takeOne 20 = .ok (.invokevirtual 43, 3) := by decide +kernel
theorem dX6_takeOne_23 : decode cX6_takeOne 23 = .ok (.ifCond .eq 10, 3) := by decide +kernel
theorem dX6_takeOne_26 : decode cX6_takeOne 26 = .ok (.aload_n 0, 1) := by decide +kernel
theorem dX6_takeOne_27 : decode cX6_takeOne 27 = .ok (.iload_n 1, 1) := by decide +kernel
theorem dX6_takeOne_28 : decode cX6_takeOne 28 = .ok (.iload_n 2, 1) := by decide +kernel
theorem dX6_takeOne_29 : decode cX6_takeOne 29 = .ok (.invokevirtual 47, 3) := by decide +kernel
theorem dX6_takeOne_32 : decode cX6_takeOne 32 = .ok (.ireturn, 1) := by decide +kernel
theorem dX6_takeOne_33 : decode cX6_takeOne 33 = .ok (.aload_n 0, 1) := by decide +kernel
theorem dX6_takeOne_34 : decode cX6_takeOne 34 = .ok (.iload_n 2, 1) := by decide +kernel
theorem dX6_takeOne_35 : decode cX6_takeOne 35 = .ok (.invokevirtual 50, 3) := by decide +kernel
theorem dX6_takeOne_38 : decode cX6_takeOne 38 = .ok (.ifCond .eq 10, 3) := by decide +kernel
theorem dX6_takeOne_41 : decode cX6_takeOne 41 = .ok (.aload_n 0, 1) := by decide +kernel
theorem dX6_takeOne_42 : decode cX6_takeOne 42 = .ok (.iload_n 1, 1) := by decide +kernel
theorem dX6_takeOne_43 : decode cX6_takeOne 43 = .ok (.iload_n 2, 1) := by decide +kernel
theorem dX6_takeOne_44 : decode cX6_takeOne 44 = .ok (.invokevirtual 53, 3) := by decide +kernel
theorem dX6_takeOne_47 : decode cX6_takeOne 47 = .ok (.ireturn, 1) := by decide +kernel
theorem dX6_takeOne_48 : decode cX6_takeOne 48 = .ok (.aload_n 0, 1) := by decide +kernel
theorem dX6_takeOne_49 : decode cX6_takeOne 49 = .ok (.getfield 9, 3) := by decide +kernel
theorem dX6_takeOne_52 : decode cX6_takeOne 52 = .ok (.iload_n 2, 1) := by decide +kernel
theorem dX6_takeOne_53 : decode cX6_takeOne 53 = .ok (.baload, 1) := by decide +kernel
theorem dX6_takeOne_54 : decode cX6_takeOne 54 = .ok (.istore_n 3, 1) := by decide +kernel
theorem dX6_takeOne_55 : decode cX6_takeOne 55 = .ok (.aload_n 0, 1) := by decide +kernel
theorem dX6_takeOne_56 : decode cX6_takeOne 56 = .ok (.getfield 15, 3) := by decide +kernel
theorem dX6_takeOne_59 : decode cX6_takeOne 59 = .ok (.iload_n 1, 1) := by decide +kernel
theorem dX6_takeOne_60 : decode cX6_takeOne 60 = .ok (.iload_n 3, 1) := by decide +kernel
theorem dX6_takeOne_61 : decode cX6_takeOne 61 = .ok (.ifCond .le 17, 3) := by decide +kernel
theorem dX6_takeOne_64 : decode cX6_takeOne 64 = .ok (.ldc 56, 2) := by decide +kernel
theorem dX6_takeOne_66 : decode cX6_takeOne 66 = .ok (.iload_n 3, 1) := by decide +kernel
theorem dX6_takeOne_67 : decode cX6_takeOne 67 = .ok (.i2c, 1) := by decide +kernel
theorem dX6_takeOne_68 : decode cX6_takeOne 68 = .ok (.invokevirtual 58, 3) := by decide +kernel
theorem dX6_takeOne_71 : decode cX6_takeOne 71 = .ok (.ifCond .lt 7, 3) := by decide +kernel
theorem dX6_takeOne_74 : decode cX6_takeOne 74 = .ok (.iload_n 3, 1) := by decide +kernel
theorem dX6_takeOne_75 : decode cX6_takeOne 75 = .ok (.goto 5, 3) := by decide +kernel
theorem dX6_takeOne_78 : decode cX6_takeOne 78 = .ok (.bipush 24, 2) := by decide +kernel
theorem dX6_takeOne_80 : decode cX6_takeOne 80 = .ok (.iastore, 1) := by decide +kernel
theorem dX6_takeOne_81 : decode cX6_takeOne 81 = .ok (.iload_n 2, 1) := by decide +kernel
theorem dX6_takeOne_82 : decode cX6_takeOne 82 = .ok (.iconst 1, 1) := by decide +kernel
theorem dX6_takeOne_83 : decode cX6_takeOne 83 = .ok (.iadd, 1) := by decide +kernel
theorem dX6_takeOne_84 : decode cX6_takeOne 84 = .ok (.ireturn, 1) := by decide +kernel
theorem dX6_isLetter_0 : decode cX6_isLetter 0 = .ok (.aload_n 0, 1) := by decide +kernel
theorem dX6_isLetter_1 : decode cX6_isLetter 1 = .ok (.getfield 9, 3) := by decide +kernel
theorem dX6_isLetter_4 : decode cX6_isLetter 4 = .ok (.iload_n 1, 1) := by decide +kernel
theorem dX6_isLetter_5 : decode cX6_isLetter 5 = .ok (.baload, 1) := by decide +kernel
theorem dX6_isLetter_6 : decode cX6_isLetter 6 = .ok (.bipush 97, 2) := by decide +kernel
theorem dX6_isLetter_8 : decode cX6_isLetter 8 = .ok (.if_icmp .lt 18, 3) := by decide +kernel
theorem dX6_isLetter_11 : decode cX6_isLetter 11 = .ok (.aload_n 0, 1) := by decide +kernel
theorem dX6_isLetter_12 : decode cX6_isLetter 12 = .ok (.getfield 9, 3) := by decide +kernel
theorem dX6_isLetter_15 : decode cX6_isLetter 15 = .ok (.iload_n 1, 1) := by decide +kernel
theorem dX6_isLetter_16 : decode cX6_isLetter 16 = .ok (.baload, 1) := by decide +kernel
theorem dX6_isLetter_17 : decode cX6_isLetter 17 = .ok (.bipush 122, 2) := by decide +kernel
theorem dX6_isLetter_19 : decode cX6_isLetter 19 = .ok (.if_icmp .gt 7, 3) := by decide +kernel
theorem dX6_isLetter_22 : decode cX6_isLetter 22 = .ok (.iconst 1, 1) := by decide +kernel
theorem dX6_isLetter_23 : decode cX6_isLetter 23 = .ok (.goto 4, 3) := by decide +kernel
theorem dX6_isLetter_26 : decode cX6_isLetter 26 = .ok (.iconst 0, 1) := by decide +kernel
theorem dX6_isLetter_27 : decode cX6_isLetter 27 = .ok (.ireturn, 1) := by decide +kernel
theorem dX6_isDigit_0 : decode cX6_isDigit 0 = .ok (.aload_n 0, 1) := by decide +kernel
theorem dX6_isDigit_1 : decode cX6_isDigit 1 = .ok (.getfield 9, 3) := by decide +kernel
theorem dX6_isDigit_4 : decode cX6_isDigit 4 = .ok (.iload_n 1, 1) := by decide +kernel
theorem dX6_isDigit_5 : decode cX6_isDigit 5 = .ok (.baload, 1) := by decide +kernel
theorem dX6_isDigit_6 : decode cX6_isDigit 6 = .ok (.bipush 48, 2) := by decide +kernel
theorem dX6_isDigit_8 : decode cX6_isDigit 8 = .ok (.if_icmp .lt 18, 3) := by decide +kernel
theorem dX6_isDigit_11 : decode cX6_isDigit 11 = .ok (.aload_n 0, 1) := by decide +kernel
theorem dX6_isDigit_12 : decode cX6_isDigit 12 = .ok (.getfield 9, 3) := by decide +kernel
theorem dX6_isDigit_15 : decode cX6_isDigit 15 = .ok (.iload_n 1, 1) := by decide +kernel
theorem dX6_isDigit_16 : decode cX6_isDigit 16 = .ok (.baload, 1) := by decide +kernel
theorem dX6_isDigit_17 : decode cX6_isDigit 17 = .ok (.bipush 57, 2) := by decide +kernel
theorem dX6_isDigit_19 : decode cX6_isDigit 19 = .ok (.if_icmp .gt 7, 3) := by decide +kernel
theorem dX6_isDigit_22 : decode cX6_isDigit 22 = .ok (.iconst 1, 1) := by decide +kernel
theorem dX6_isDigit_23 : decode cX6_isDigit 23 = .ok (.goto 4, 3) := by decide +kernel
theorem dX6_isDigit_26 : decode cX6_isDigit 26 = .ok (.iconst 0, 1) := by decide +kernel
theorem dX6_isDigit_27 : decode cX6_isDigit 27 = .ok (.ireturn, 1) := by decide +kernel
theorem dX6_takeLetters_0 : decode cX6_takeLetters 0 = .ok (.iload_n 2, 1) := by decide +kernel
theorem dX6_takeLetters_1 : decode cX6_takeLetters 1 = .ok (.istore_n 3, 1) := by decide +kernel
theorem dX6_takeLetters_2 : decode cX6_takeLetters 2 = .ok (.lconst 0, 1) := by decide +kernel
theorem dX6_takeLetters_3 : decode cX6_takeLetters 3 = .ok (.lstore 4, 2) := by decide +kernel
theorem dX6_takeLetters_5 : decode cX6_takeLetters 5 = .ok (.iload_n 3, 1) := by decide +kernel
theorem dX6_takeLetters_6 : decode cX6_takeLetters 6 = .ok (.aload_n 0, 1) := by decide +kernel
theorem dX6_takeLetters_7 : decode cX6_takeLetters 7 = .ok (.getfield 32, 3) := by decide +kernel
theorem dX6_takeLetters_10 : decode cX6_takeLetters 10 = .ok (.if_icmp .ge 38, 3) := by decide +kernel
theorem dX6_takeLetters_13 : decode cX6_takeLetters 13 = .ok (.aload_n 0, 1) := by decide +kernel
theorem dX6_takeLetters_14 : decode cX6_takeLetters 14 = .ok (.iload_n 3, 1) := by decide +kernel
theorem dX6_takeLetters_15 : decode cX6_takeLetters 15 = .ok (.invokevirtual 43, 3) := by decide +kernel
theorem dX6_takeLetters_18 : decode cX6_takeLetters 18 = .ok (.ifCond .eq 30, 3) := by decide +kernel
theorem dX6_takeLetters_21 : decode cX6_takeLetters 21 = .ok (.lload 4, 2) := by decide +kernel
theorem dX6_takeLetters_23 : decode cX6_takeLetters 23 = .ok (.ldc2_w 63, 3) := by decide +kernel
theorem dX6_takeLetters_26 : decode cX6_takeLetters 26 = .ok (.lmul, 1) := by decide +kernel
theorem dX6_takeLetters_27 : decode cX6_takeLetters 27 = .ok (.aload_n 0, 1) := by decide +kernel
theorem dX6_takeLetters_28 : decode cX6_takeLetters 28 = .ok (.getfield 9, 3) := by decide +kernel
theorem dX6_takeLetters_31 : decode cX6_takeLetters 31 = .ok (.iload_n 3, 1) := by decide +kernel
theorem dX6_takeLetters_32 : decode cX6_takeLetters 32 = .ok (.baload, 1) := by decide +kernel
theorem dX6_takeLetters_33 : decode cX6_takeLetters 33 = .ok (.bipush 97, 2) := by decide +kernel
theorem dX6_takeLetters_35 : decode cX6_takeLetters 35 = .ok (.isub, 1) := by decide +kernel
theorem dX6_takeLetters_36 : decode cX6_takeLetters 36 = .ok (.iconst 1, 1) := by decide +kernel
theorem dX6_takeLetters_37 : decode cX6_takeLetters 37 = .ok (.iadd, 1) := by decide +kernel
theorem dX6_takeLetters_38 : decode cX6_takeLetters 38 = .ok (.i2l, 1) := by decide +kernel
theorem dX6_takeLetters_39 : decode cX6_takeLetters 39 = .ok (.ladd, 1) := by decide +kernel
theorem dX6_takeLetters_40 : decode cX6_takeLetters 40 = .ok (.lstore 4, 2) := by decide +kernel
theorem dX6_takeLetters_42 : decode cX6_takeLetters 42 = .ok (.iinc 3 1, 3) := by decide +kernel
theorem dX6_takeLetters_45 : decode cX6_takeLetters 45 = .ok (.goto (-40), 3) := by decide +kernel
theorem dX6_takeLetters_48 : decode cX6_takeLetters 48 = .ok (.aload_n 0, 1) := by decide +kernel
theorem dX6_takeLetters_49 : decode cX6_takeLetters 49 = .ok (.getfield 22, 3) := by decide +kernel
theorem dX6_takeLetters_52 : decode cX6_takeLetters 52 = .ok (.iload_n 1, 1) := by decide +kernel
theorem dX6_takeLetters_53 : decode cX6_takeLetters 53 = .ok (.lload 4, 2) := by decide +kernel
theorem dX6_takeLetters_55 : decode cX6_takeLetters 55 = .ok (.lastore, 1) := by decide +kernel
theorem dX6_takeLetters_56 : decode cX6_takeLetters 56 = .ok (.aload_n 0, 1) := by decide +kernel
theorem dX6_takeLetters_57 : decode cX6_takeLetters 57 = .ok (.getfield 15, 3) := by decide +kernel
theorem dX6_takeLetters_60 : decode cX6_takeLetters 60 = .ok (.iload_n 1, 1) := by decide +kernel
theorem dX6_takeLetters_61 : decode cX6_takeLetters 61 = .ok (.iload_n 3, 1) := by decide +kernel
theorem dX6_takeLetters_62 : decode cX6_takeLetters 62 = .ok (.iload_n 2, 1) := by decide +kernel
theorem dX6_takeLetters_63 : decode cX6_takeLetters 63 = .ok (.isub, 1) := by decide +kernel
theorem dX6_takeLetters_64 : decode cX6_takeLetters 64 = .ok (.bipush 8, 2) := by decide +kernel
theorem dX6_takeLetters_66 : decode cX6_takeLetters 66 = .ok (.if_icmp .le 8, 3) := by decide +kernel
theorem dX6_takeLetters_69 : decode cX6_takeLetters 69 = .ok (.bipush 24, 2) := by decide +kernel
theorem dX6_takeLetters_71 : decode cX6_takeLetters 71 = .ok (.goto 8, 3) := by decide +kernel
theorem dX6_takeLetters_74 : decode cX6_takeLetters 74 = .ok (.lload 4, 2) := by decide +kernel
theorem dX6_takeLetters_76 : decode cX6_takeLetters 76 = .ok (.invokestatic 65, 3) := by decide +kernel
theorem dX6_takeLetters_79 : decode cX6_takeLetters 79 = .ok (.iastore, 1) := by decide +kernel
theorem dX6_takeLetters_80 : decode cX6_takeLetters 80 = .ok (.iload_n 3, 1) := by decide +kernel
theorem dX6_takeLetters_81 : decode cX6_takeLetters 81 = .ok (.ireturn, 1) := by decide +kernel
theorem dX6_takeDigits_0 : decode cX6_takeDigits 0 = .ok (.iload_n 2, 1) := by decide +kernel
theorem dX6_takeDigits_1 : decode cX6_takeDigits 1 = .ok (.istore_n 3, 1) := by decide +kernel
theorem dX6_takeDigits_2 : decode cX6_takeDigits 2 = .ok (.lconst 0, 1) := by decide +kernel
theorem dX6_takeDigits_3 : decode cX6_takeDigits 3 = .ok (.lstore 4, 2) := by decide +kernel
theorem dX6_takeDigits_5 : decode cX6_takeDigits 5 = .ok (.iload_n 3, 1) := by decide +kernel
theorem dX6_takeDigits_6 : decode cX6_takeDigits 6 = .ok (.aload_n 0, 1) := by decide +kernel
theorem dX6_takeDigits_7 : decode cX6_takeDigits 7 = .ok (.getfield 32, 3) := by decide +kernel
theorem dX6_takeDigits_10 : decode cX6_takeDigits 10 = .ok (.if_icmp .ge 36, 3) := by decide +kernel
theorem dX6_takeDigits_13 : decode cX6_takeDigits 13 = .ok (.aload_n 0, 1) := by decide +kernel
theorem dX6_takeDigits_14 : decode cX6_takeDigits 14 = .ok (.iload_n 3, 1) := by decide +kernel
theorem dX6_takeDigits_15 : decode cX6_takeDigits 15 = .ok (.invokevirtual 50, 3) := by decide +kernel
theorem dX6_takeDigits_18 : decode cX6_takeDigits 18 = .ok (.ifCond .eq 28, 3) := by decide +kernel
theorem dX6_takeDigits_21 : decode cX6_takeDigits 21 = .ok (.lload 4, 2) := by decide +kernel
theorem dX6_takeDigits_23 : decode cX6_takeDigits 23 = .ok (.ldc2_w 69, 3) := by decide +kernel
theorem dX6_takeDigits_26 : decode cX6_takeDigits 26 = .ok (.lmul, 1) := by decide +kernel
theorem dX6_takeDigits_27 : decode cX6_takeDigits 27 = .ok (.aload_n 0, 1) := by decide +kernel
theorem dX6_takeDigits_28 : decode cX6_takeDigits 28 = .ok (.getfield 9, 3) := by decide +kernel
theorem dX6_takeDigits_31 : decode cX6_takeDigits 31 = .ok (.iload_n 3, 1) := by decide +kernel
theorem dX6_takeDigits_32 : decode cX6_takeDigits 32 = .ok (.baload, 1) := by decide +kernel
theorem dX6_takeDigits_33 : decode cX6_takeDigits 33 = .ok (.bipush 48, 2) := by decide +kernel
theorem dX6_takeDigits_35 : decode cX6_takeDigits 35 = .ok (.isub, 1) := by decide +kernel
theorem dX6_takeDigits_36 : decode cX6_takeDigits 36 = .ok (.i2l, 1) := by decide +kernel
theorem dX6_takeDigits_37 : decode cX6_takeDigits 37 = .ok (.ladd, 1) := by decide +kernel
theorem dX6_takeDigits_38 : decode cX6_takeDigits 38 = .ok (.lstore 4, 2) := by decide +kernel
theorem dX6_takeDigits_40 : decode cX6_takeDigits 40 = .ok (.iinc 3 1, 3) := by decide +kernel
theorem dX6_takeDigits_43 : decode cX6_takeDigits 43 = .ok (.goto (-38), 3) := by decide +kernel
theorem dX6_takeDigits_46 : decode cX6_takeDigits 46 = .ok (.aload_n 0, 1) := by decide +kernel
theorem dX6_takeDigits_47 : decode cX6_takeDigits 47 = .ok (.getfield 22, 3) := by decide +kernel
theorem dX6_takeDigits_50 : decode cX6_takeDigits 50 = .ok (.iload_n 1, 1) := by decide +kernel
theorem dX6_takeDigits_51 : decode cX6_takeDigits 51 = .ok (.lload 4, 2) := by decide +kernel
theorem dX6_takeDigits_53 : decode cX6_takeDigits 53 = .ok (.lastore, 1) := by decide +kernel
theorem dX6_takeDigits_54 : decode cX6_takeDigits 54 = .ok (.aload_n 0, 1) := by decide +kernel
theorem dX6_takeDigits_55 : decode cX6_takeDigits 55 = .ok (.getfield 15, 3) := by decide +kernel
theorem dX6_takeDigits_58 : decode cX6_takeDigits 58 = .ok (.iload_n 1, 1) := by decide +kernel
theorem dX6_takeDigits_59 : decode cX6_takeDigits 59 = .ok (.iload_n 3, 1) := by decide +kernel
theorem dX6_takeDigits_60 : decode cX6_takeDigits 60 = .ok (.iload_n 2, 1) := by decide +kernel
theorem dX6_takeDigits_61 : decode cX6_takeDigits 61 = .ok (.isub, 1) := by decide +kernel
theorem dX6_takeDigits_62 : decode cX6_takeDigits 62 = .ok (.iconst 4, 1) := by decide +kernel
theorem dX6_takeDigits_63 : decode cX6_takeDigits 63 = .ok (.if_icmp .le 8, 3) := by decide +kernel
theorem dX6_takeDigits_66 : decode cX6_takeDigits 66 = .ok (.bipush 24, 2) := by decide +kernel
theorem dX6_takeDigits_68 : decode cX6_takeDigits 68 = .ok (.goto 5, 3) := by decide +kernel
theorem dX6_takeDigits_71 : decode cX6_takeDigits 71 = .ok (.bipush 22, 2) := by decide +kernel
theorem dX6_takeDigits_73 : decode cX6_takeDigits 73 = .ok (.iastore, 1) := by decide +kernel
theorem dX6_takeDigits_74 : decode cX6_takeDigits 74 = .ok (.iload_n 3, 1) := by decide +kernel
theorem dX6_takeDigits_75 : decode cX6_takeDigits 75 = .ok (.ireturn, 1) := by decide +kernel
theorem dX6_wordOf_0 : decode cX6_wordOf 0 = .ok (.iconst 0, 1) := by decide +kernel
theorem dX6_wordOf_1 : decode cX6_wordOf 1 = .ok (.istore_n 2, 1) := by decide +kernel
theorem dX6_wordOf_2 : decode cX6_wordOf 2 = .ok (.lconst 0, 1) := by decide +kernel
theorem dX6_wordOf_3 : decode cX6_wordOf 3 = .ok (.lstore_n 3, 1) := by decide +kernel
theorem dX6_wordOf_4 : decode cX6_wordOf 4 = .ok (.iconst 0, 1) := by decide +kernel
theorem dX6_wordOf_5 : decode cX6_wordOf 5 = .ok (.istore 5, 2) := by decide +kernel
theorem dX6_wordOf_7 : decode cX6_wordOf 7 = .ok (.iload 5, 2) := by decide +kernel
theorem dX6_wordOf_9 : decode cX6_wordOf 9 = .ok (.ldc 71, 2) := by decide +kernel
theorem dX6_wordOf_11 : decode cX6_wordOf 11 = .ok (.invokevirtual 73, 3) := by decide +kernel
theorem dX6_wordOf_14 : decode cX6_wordOf 14 = .ok (.if_icmp .ge 57, 3) := by decide +kernel
theorem dX6_wordOf_17 : decode cX6_wordOf 17 = .ok (.ldc 71, 2) := by decide +kernel
theorem dX6_wordOf_19 : decode cX6_wordOf 19 = .ok (.iload 5, 2) := by decide +kernel
theorem dX6_wordOf_21 : decode cX6_wordOf 21 = .ok (.invokevirtual 77, 3) := by decide +kernel
theorem dX6_wordOf_24 : decode cX6_wordOf 24 = .ok (.bipush 32, 2) := by decide +kernel
theorem dX6_wordOf_26 : decode cX6_wordOf 26 = .ok (.if_icmp .eq 26, 3) := by decide +kernel
theorem dX6_wordOf_29 : decode cX6_wordOf 29 = .ok (.lload_n 3, 1) := by decide +kernel
theorem dX6_wordOf_30 : decode cX6_wordOf 30 = .ok (.ldc2_w 63, 3) := by decide +kernel
theorem dX6_wordOf_33 : decode cX6_wordOf 33 = .ok (.lmul, 1) := by decide +kernel
theorem dX6_wordOf_34 : decode cX6_wordOf 34 = .ok (.ldc 71, 2) := by decide +kernel
theorem dX6_wordOf_36 : decode cX6_wordOf 36 = .ok (.iload 5, 2) := by decide +kernel
theorem dX6_wordOf_38 : decode cX6_wordOf 38 = .ok (.invokevirtual 77, 3) := by decide +kernel
theorem dX6_wordOf_41 : decode cX6_wordOf 41 = .ok (.bipush 97, 2) := by decide +kernel
theorem dX6_wordOf_43 : decode cX6_wordOf 43 = .ok (.isub, 1) := by decide +kernel
theorem dX6_wordOf_44 : decode cX6_wordOf 44 = .ok (.iconst 1, 1) := by decide +kernel
theorem dX6_wordOf_45 : decode cX6_wordOf 45 = .ok (.iadd, 1) := by decide +kernel
theorem dX6_wordOf_46 : decode cX6_wordOf 46 = .ok (.i2l, 1) := by decide +kernel
theorem dX6_wordOf_47 : decode cX6_wordOf 47 = .ok (.ladd, 1) := by decide +kernel
theorem dX6_wordOf_48 : decode cX6_wordOf 48 = .ok (.lstore_n 3, 1) := by decide +kernel
theorem dX6_wordOf_49 : decode cX6_wordOf 49 = .ok (.goto 16, 3) := by decide +kernel
theorem dX6_wordOf_52 : decode cX6_wordOf 52 = .ok (.lload_n 3, 1) := by decide +kernel
theorem dX6_wordOf_53 : decode cX6_wordOf 53 = .ok (.lload_n 0, 1) := by decide +kernel
theorem dX6_wordOf_54 : decode cX6_wordOf 54 = .ok (.lcmp, 1) := by decide +kernel
theorem dX6_wordOf_55 : decode cX6_wordOf 55 = .ok (.ifCond .ne 5, 3) := by decide +kernel
theorem dX6_wordOf_58 : decode cX6_wordOf 58 = .ok (.iload_n 2, 1) := by decide +kernel
theorem dX6_wordOf_59 : decode cX6_wordOf 59 = .ok (.ireturn, 1) := by decide +kernel
theorem dX6_wordOf_60 : decode cX6_wordOf 60 = .ok (.iinc 2 1, 3) := by decide +kernel
theorem dX6_wordOf_63 : decode cX6_wordOf 63 = .ok (.lconst 0, 1) := by decide +kernel
theorem dX6_wordOf_64 : decode cX6_wordOf 64 = .ok (.lstore_n 3, 1) := by decide +kernel
theorem dX6_wordOf_65 : decode cX6_wordOf 65 = .ok (.iinc 5 1, 3) := by decide +kernel
theorem dX6_wordOf_68 : decode cX6_wordOf 68 = .ok (.goto (-61), 3) := by decide +kernel
theorem dX6_wordOf_71 : decode cX6_wordOf 71 = .ok (.bipush 21, 2) := by decide +kernel
theorem dX6_wordOf_73 : decode cX6_wordOf 73 = .ok (.ireturn, 1) := by decide +kernel
theorem dX7_init_0 : decode cX7_init 0 = .ok (.aload_n 0, 1) := by decide +kernel
theorem dX7_init_1 : decode cX7_init 1 = .ok (.invokespecial 3, 3) := by decide +kernel
theorem dX7_init_4 : decode cX7_init 4 = .ok (.aload_n 0, 1) := by decide +kernel
theorem dX7_init_5 : decode cX7_init 5 = .ok (.bipush 20, 2) := by decide +kernel
theorem dX7_init_7 : decode cX7_init 7 = .ok (.newarray .int, 2) := by decide +kernel
theorem dX7_init_9 : decode cX7_init 9 = .ok (.putfield 9, 3) := by decide +kernel
theorem dX7_init_12 : decode cX7_init 12 = .ok (.aload_n 0, 1) := by decide +kernel
theorem dX7_init_13 : decode cX7_init 13 = .ok (.bipush 20, 2) := by decide +kernel
theorem dX7_init_15 : decode cX7_init 15 = .ok (.newarray .int, 2) := by decide +kernel
theorem dX7_init_17 : decode cX7_init 17 = .ok (.putfield 15, 3) := by decide +kernel
theorem dX7_init_20 : decode cX7_init 20 = .ok (.aload_n 0, 1) := by decide +kernel
theorem dX7_init_21 : decode cX7_init 21 = .ok (.bipush 20, 2) := by decide +kernel
theorem dX7_init_23 : decode cX7_init 23 = .ok (.newarray .int, 2) := by decide +kernel
theorem dX7_init_25 : decode cX7_init 25 = .ok (.putfield 18, 3) := by decide +kernel
theorem dX7_init_28 : decode cX7_init 28 = .ok (.aload_n 0, 1) := by decide +kernel
theorem dX7_init_29 : decode cX7_init 29 = .ok (.bipush 20, 2) := by decide +kernel
theorem dX7_init_31 : decode cX7_init 31 = .ok (.newarray .int, 2) := by decide +kernel
theorem dX7_init_33 : decode cX7_init 33 = .ok (.putfield 21, 3) := by decide +kernel
theorem dX7_init_36 : decode cX7_init 36 = .ok (.aload_n 0, 1) := by decide +kernel
theorem dX7_init_37 : decode cX7_init 37 = .ok (.bipush 100, 2) := by decide +kernel
theorem dX7_init_39 : decode cX7_init 39 = .ok (.newarray .boolean, 2) := by decide +kernel
theorem dX7_init_41 : decode cX7_init 41 = .ok (.putfield 24, 3) := by decide +kernel
theorem dX7_init_44 : decode cX7_init 44 = .ok (.aload_n 0, 1) := by decide +kernel
theorem dX7_init_45 : decode cX7_init 45 = .ok (.bipush 9, 2) := by decide +kernel
theorem dX7_init_47 : decode cX7_init 47 = .ok (.newarray .int, 2) := by decide +kernel
theorem dX7_init_49 : decode cX7_init 49 = .ok (.putfield 28, 3) := by decide +kernel
theorem dX7_init_52 : decode cX7_init 52 = .ok (.return_, 1) := by decide +kernel
theorem dX7_clearAll_0 : decode cX7_clearAll 0 = .ok (.aload_n 0, 1) := by decide +kernel
theorem dX7_clearAll_1 : decode cX7_clearAll 1 = .ok (.iconst 0, 1) := by decide +kernel
theorem dX7_clearAll_2 : decode cX7_clearAll 2 = .ok (.putfield 31, 3) := by decide +kernel
theorem dX7_clearAll_5 : decode cX7_clearAll 5 = .ok (.return_, 1) := by decide +kernel
theorem dX7_add_0 : decode cX7_add 0 = .ok (.aload_n 0, 1) := by decide +kernel
theorem dX7_add_1 : decode cX7_add 1 = .ok (.getfield 31, 3) := by decide +kernel
theorem dX7_add_4 : decode cX7_add 4 = .ok (.bipush 20, 2) := by decide +kernel
theorem dX7_add_6 : decode cX7_add 6 = .ok (.if_icmp .lt 5, 3) := by decide +kernel
theorem dX7_add_9 : decode cX7_add 9 = .ok (.iconst (-1), 1) := by decide +kernel
theorem dX7_add_10 : decode cX7_add 10 = .ok (.ireturn, 1) := by decide +kernel
theorem dX7_add_11 : decode cX7_add 11 = .ok (.aload_n 0, 1) := by decide +kernel
theorem dX7_add_12 : decode cX7_add 12 = .ok (.getfield 9, 3) := by decide +kernel
theorem dX7_add_15 : decode cX7_add 15 = .ok (.aload_n 0, 1) := by decide +kernel
theorem dX7_add_16 : decode cX7_add 16 = .ok (.getfield 31, 3) := by decide +kernel
theorem dX7_add_19 : decode cX7_add 19 = .ok (.iload_n 1, 1) := by decide +kernel
theorem dX7_add_20 : decode cX7_add 20 = .ok (.iastore, 1) := by decide +kernel
theorem dX7_add_21 : decode cX7_add 21 = .ok (.aload_n 0, 1) := by decide +kernel
theorem dX7_add_22 : decode cX7_add 22 = .ok (.getfield 15, 3) := by decide +kernel
theorem dX7_add_25 : decode cX7_add 25 = .ok (.aload_n 0, 1) := by decide +kernel
theorem dX7_add_26 : decode cX7_add 26 = .ok (.getfield 31, 3) := by decide +kernel
theorem dX7_add_29 : decode cX7_add 29 = .ok (.iload_n 2, 1) := by decide +kernel
theorem dX7_add_30 : decode cX7_add 30 = .ok (.iastore, 1) := by decide +kernel
theorem dX7_add_31 : decode cX7_add 31 = .ok (.aload_n 0, 1) := by decide +kernel
theorem dX7_add_32 : decode cX7_add 32 = .ok (.getfield 18, 3) := by decide +kernel
theorem dX7_add_35 : decode cX7_add 35 = .ok (.aload_n 0, 1) := by decide +kernel
theorem dX7_add_36 : decode cX7_add 36 = .ok (.getfield 31, 3) := by decide +kernel
theorem dX7_add_39 : decode cX7_add 39 = .ok (.iload_n 3, 1) := by decide +kernel
theorem dX7_add_40 : decode cX7_add 40 = .ok (.iastore, 1) := by decide +kernel
theorem dX7_add_41 : decode cX7_add 41 = .ok (.aload_n 0, 1) := by decide +kernel
theorem dX7_add_42 : decode cX7_add 42 = .ok (.getfield 21, 3) := by decide +kernel
theorem dX7_add_45 : decode cX7_add 45 = .ok (.aload_n 0, 1) := by decide +kernel
theorem dX7_add_46 : decode cX7_add 46 = .ok (.getfield 31, 3) := by decide +kernel
theorem dX7_add_49 : decode cX7_add 49 = .ok (.iload 4, 2) := by decide +kernel
theorem dX7_add_51 : decode cX7_add 51 = .ok (.iastore, 1) := by decide +kernel
theorem dX7_add_52 : decode cX7_add 52 = .ok (.aload_n 0, 1) := by decide +kernel
theorem dX7_add_53 : decode cX7_add 53 = .ok (.dup, 1) := by decide +kernel
theorem dX7_add_54 : decode cX7_add 54 = .ok (.getfield 31, 3) := by decide +kernel
theorem dX7_add_57 : decode cX7_add 57 = .ok (.iconst 1, 1) := by decide +kernel
theorem dX7_add_58 : decode cX7_add 58 = .ok (.iadd, 1) := by decide +kernel
theorem dX7_add_59 : decode cX7_add 59 = .ok (.putfield 31, 3) := by decide +kernel
theorem dX7_add_62 : decode cX7_add 62 = .ok (.aload_n 0, 1) := by decide +kernel
theorem dX7_add_63 : decode cX7_add 63 = .ok (.getfield 31, 3) := by decide +kernel
theorem dX7_add_66 : decode cX7_add 66 = .ok (.iconst 1, 1) := by decide +kernel
theorem dX7_add_67 : decode cX7_add 67 = .ok (.isub, 1) := by decide +kernel
theorem dX7_add_68 : decode cX7_add 68 = .ok (.ireturn, 1) := by decide +kernel
theorem dX7_lookBy_0 : decode cX7_lookBy 0 = .ok (.aload_n 0, 1) := by decide +kernel
theorem dX7_lookBy_1 : decode cX7_lookBy 1 = .ok (.iconst 0, 1) := by decide +kernel
theorem dX7_lookBy_2 : decode cX7_lookBy 2 = .ok (.putfield 35, 3) := by decide +kernel
theorem dX7_lookBy_5 : decode cX7_lookBy 5 = .ok (.iconst 0, 1) := by decide +kernel
theorem dX7_lookBy_6 : decode cX7_lookBy 6 = .ok (.istore_n 2, 1) := by decide +kernel
theorem dX7_lookBy_7 : decode cX7_lookBy 7 = .ok (.iload_n 2, 1) := by decide +kernel
theorem dX7_lookBy_8 : decode cX7_lookBy 8 = .ok (.bipush 100, 2) := by decide +kernel
theorem dX7_lookBy_10 : decode cX7_lookBy 10 = .ok (.if_icmp .ge 40, 3) := by decide +kernel
theorem dX7_lookBy_13 : decode cX7_lookBy 13 = .ok (.aload_n 0, 1) := by decide +kernel
theorem dX7_lookBy_14 : decode cX7_lookBy 14 = .ok (.getfield 24, 3) := by decide +kernel
theorem dX7_lookBy_17 : decode cX7_lookBy 17 = .ok (.iload_n 2, 1) := by decide +kernel
theorem dX7_lookBy_18 : decode cX7_lookBy 18 = .ok (.aload_n 0, 1) := by decide +kernel
theorem dX7_lookBy_19 : decode cX7_lookBy 19 = .ok (.iload_n 2, 1) := by decide +kernel
theorem dX7_lookBy_20 : decode cX7_lookBy 20 = .ok (.iload_n 1, 1) := by decide +kernel
theorem dX7_lookBy_21 : decode cX7_lookBy 21 = .ok (.invokevirtual 38, 3) := by decide +kernel
theorem dX7_lookBy_24 : decode cX7_lookBy 24 = .ok (.bastore, 1) := by decide +kernel
theorem dX7_lookBy_25 : decode cX7_lookBy 25 = .ok (.aload_n 0, 1) := by decide +kernel
theorem dX7_lookBy_26 : decode cX7_lookBy 26 = .ok (.getfield 24, 3) := by decide +kernel
theorem dX7_lookBy_29 : decode cX7_lookBy 29 = .ok (.iload_n 2, 1) := by decide +kernel
theorem dX7_lookBy_30 : decode cX7_lookBy 30 = .ok (.baload, 1) := by decide +kernel
theorem dX7_lookBy_31 : decode cX7_lookBy 31 = .ok (.ifCond .eq 13, 3) := by decide +kernel
theorem dX7_lookBy_34 : decode cX7_lookBy 34 = .ok (.aload_n 0, 1) := by decide +kernel
theorem dX7_lookBy_35 : decode cX7_lookBy 35 = .ok (.dup, 1) := by decide +kernel
theorem dX7_lookBy_36 : decode cX7_lookBy 36 = .ok (.getfield 35, 3) := by decide +kernel
theorem dX7_lookBy_39 : decode cX7_lookBy 39 = .ok (.iconst 1, 1) := by decide +kernel
theorem dX7_lookBy_40 : decode cX7_lookBy 40 = .ok (.iadd, 1) := by decide +kernel
theorem dX7_lookBy_41 : decode cX7_lookBy 41 = .ok (.putfield 35, 3) := by decide +kernel
theorem dX7_lookBy_44 : decode cX7_lookBy 44 = .ok (.iinc 2 1, 3) := by decide +kernel
theorem dX7_lookBy_47 : decode cX7_lookBy 47 = .ok (.goto (-40), 3) := by decide +kernel
theorem dX7_lookBy_50 : decode cX7_lookBy 50 = .ok (.return_, 1) := by decide +kernel
theorem dX7_fits_0 : decode cX7_fits 0 = .ok (.iconst 0, 1) := by decide +kernel
theorem dX7_fits_1 : decode cX7_fits 1 = .ok (.istore_n 3, 1) := by decide +kernel
theorem dX7_fits_2 : decode cX7_fits 2 = .ok (.iload_n 3, 1) := by decide +kernel
theorem dX7_fits_3 : decode cX7_fits 3 = .ok (.iload_n 2, 1) := by decide +kernel
theorem dX7_fits_4 : decode cX7_fits 4 = .ok (.if_icmp .ge 63, 3) := by decide +kernel
theorem dX7_fits_7 : decode cX7_fits 7 = .ok (.iload_n 3, 1) := by decide +kernel
theorem dX7_fits_8 : decode cX7_fits 8 = .ok (.aload_n 0, 1) := by decide +kernel
theorem dX7_fits_9 : decode cX7_fits 9 = .ok (.getfield 31, 3) := by decide +kernel
theorem dX7_fits_12 : decode cX7_fits 12 = .ok (.if_icmp .ge 55, 3) := by decide +kernel
theorem dX7_fits_15 : decode cX7_fits 15 = .ok (.iload_n 1, 1) := by decide +kernel
theorem dX7_fits_16 : decode cX7_fits 16 = .ok (.bipush 10, 2) := by decide +kernel
theorem dX7_fits_18 : decode cX7_fits 18 = .ok (.irem, 1) := by decide +kernel
theorem dX7_fits_19 : decode cX7_fits 19 = .ok (.aload_n 0, 1) := by decide +kernel
theorem dX7_fits_20 : decode cX7_fits 20 = .ok (.getfield 9, 3) := by decide +kernel
theorem dX7_fits_23 : decode cX7_fits 23 = .ok (.iload_n 3, 1) := by decide +kernel
theorem dX7_fits_24 : decode cX7_fits 24 = .ok (.iaload, 1) := by decide +kernel
theorem dX7_fits_25 : decode cX7_fits 25 = .ok (.invokestatic 42, 3) := by decide +kernel
theorem dX7_fits_28 : decode cX7_fits 28 = .ok (.aload_n 0, 1) := by decide +kernel
theorem dX7_fits_29 : decode cX7_fits 29 = .ok (.getfield 18, 3) := by decide +kernel
theorem dX7_fits_32 : decode cX7_fits 32 = .ok (.iload_n 3, 1) := by decide +kernel
theorem dX7_fits_33 : decode cX7_fits 33 = .ok (.iaload, 1) := by decide +kernel
theorem dX7_fits_34 : decode cX7_fits 34 = .ok (.if_icmp .ne 25, 3) := by decide +kernel
theorem dX7_fits_37 : decode cX7_fits 37 = .ok (.iload_n 1, 1) := by decide +kernel
theorem dX7_fits_38 : decode cX7_fits 38 = .ok (.bipush 10, 2) := by decide +kernel
theorem dX7_fits_40 : decode cX7_fits 40 = .ok (.idiv, 1) := by decide +kernel
theorem dX7_fits_41 : decode cX7_fits 41 = .ok (.aload_n 0, 1) := by decide +kernel
theorem dX7_fits_42 : decode cX7_fits 42 = .ok (.getfield 15, 3) := by decide +kernel
theorem dX7_fits_45 : decode cX7_fits 45 = .ok (.iload_n 3, 1) := by decide +kernel
theorem dX7_fits_46 : decode cX7_fits 46 = .ok (.iaload, 1) := by decide +kernel
theorem dX7_fits_47 : decode cX7_fits 47 = .ok (.invokestatic 42, 3) := by decide +kernel
theorem dX7_fits_50 : decode cX7_fits 50 = .ok (.aload_n 0, 1) := by decide +kernel
theorem dX7_fits_51 : decode cX7_fits 51 = .ok (.getfield 21, 3) := by decide +kernel
theorem dX7_fits_54 : decode cX7_fits 54 = .ok (.iload_n 3, 1) := by decide +kernel
theorem dX7_fits_55 : decode cX7_fits 55 = .ok (.iaload, 1) := by decide +kernel
theorem dX7_fits_56 : decode cX7_fits 56 = .ok (.if_icmp .eq 5, 3) := by decide +kernel
theorem dX7_fits_59 : decode cX7_fits 59 = .ok (.iconst 0, 1) := by decide +kernel
theorem dX7_fits_60 : decode cX7_fits 60 = .ok (.ireturn, 1) := by decide +kernel
theorem dX7_fits_61 : decode cX7_fits 61 = .ok (.iinc 3 1, 3) := by decide +kernel
theorem dX7_fits_64 : decode cX7_fits 64 = .ok (.goto (-62), 3) := by decide +kernel
theorem dX7_fits_67 : decode cX7_fits 67 = .ok (.iconst 1, 1) := by decide +kernel
theorem dX7_fits_68 : decode cX7_fits 68 = .ok (.ireturn, 1) := by decide +kernel
theorem dX7_firstLeft_0 : decode cX7_firstLeft 0 = .ok (.iconst 0, 1) := by decide +kernel
theorem dX7_firstLeft_1 : decode cX7_firstLeft 1 = .ok (.istore_n 1, 1) := by decide +kernel
theorem dX7_firstLeft_2 : decode cX7_firstLeft 2 = .ok (.iload_n 1, 1) := by decide +kernel
theorem dX7_firstLeft_3 : decode cX7_firstLeft 3 = .ok (.bipush 100, 2) := by decide +kernel
theorem dX7_firstLeft_5 : decode cX7_firstLeft 5 = .ok (.if_icmp .ge 20, 3) := by decide +kernel
theorem dX7_firstLeft_8 : decode cX7_firstLeft 8 = .ok (.aload_n 0, 1) := by decide +kernel
theorem dX7_firstLeft_9 : decode cX7_firstLeft 9 = .ok (.getfield 24, 3) := by decide +kernel
theorem dX7_firstLeft_12 : decode cX7_firstLeft 12 = .ok (.iload_n 1, 1) := by decide +kernel
theorem dX7_firstLeft_13 : decode cX7_firstLeft 13 = .ok (.baload, 1) := by decide +kernel
theorem dX7_firstLeft_14 : decode cX7_firstLeft 14 = .ok (.ifCond .eq 5, 3) := by decide +kernel
theorem dX7_firstLeft_17 : decode cX7_firstLeft 17 = .ok (.iload_n 1, 1) := by decide +kernel
theorem dX7_firstLeft_18 : decode cX7_firstLeft 18 = .ok (.ireturn, 1) := by decide +kernel
theorem dX7_firstLeft_19 : decode cX7_firstLeft 19 = .ok (.iinc 1 1, 3) := by decide +kernel
theorem dX7_firstLeft_22 : decode cX7_firstLeft 22 = .ok (.goto (-20), 3) := by decide +kernel
theorem dX7_firstLeft_25 : decode cX7_firstLeft 25 = .ok (.bipush (-2), 2) := by decide +kernel
theorem dX7_firstLeft_27 : decode cX7_firstLeft 27 = .ok (.ireturn, 1) := by decide +kernel
theorem dX7_bestNext_0 : decode cX7_bestNext 0 = .ok (.iconst 0, 1) := by decide +kernel
theorem dX7_bestNext_1 : decode cX7_bestNext 1 = .ok (.istore_n 1, 1) := by decide +kernel
theorem dX7_bestNext_2 : decode cX7_bestNext 2 = .ok (.bipush 101, 2) := by decide +kernel
theorem dX7_bestNext_4 : decode cX7_bestNext 4 = .ok (.istore_n 2, 1) := by decide +kernel
theorem dX7_bestNext_5 : decode cX7_bestNext 5 = .ok (.iconst 0, 1) := by decide +kernel
theorem dX7_bestNext_6 : decode cX7_bestNext 6 = .ok (.istore_n 3, 1) := by decide +kernel
theorem dX7_bestNext_7 : decode cX7_bestNext 7 = .ok (.iload_n 3, 1) := by decide +kernel
theorem dX7_bestNext_8 : decode cX7_bestNext 8 = .ok (.bipush 100, 2) := by decide +kernel
theorem dX7_bestNext_10 : decode cX7_bestNext 10 = .ok (.if_icmp .ge 27, 3) := by decide +kernel
theorem dX7_bestNext_13 : decode cX7_bestNext 13 = .ok (.aload_n 0, 1) := by decide +kernel
theorem dX7_bestNext_14 : decode cX7_bestNext 14 = .ok (.iload_n 3, 1) := by decide +kernel
theorem dX7_bestNext_15 : decode cX7_bestNext 15 = .ok (.invokevirtual 46, 3) := by decide +kernel
theorem dX7_bestNext_18 : decode cX7_bestNext 18 = .ok (.istore 4, 2) := by decide +kernel
theorem dX7_bestNext_20 : decode cX7_bestNext 20 = .ok (.iload 4, 2) := by decide +kernel
theorem dX7_bestNext_22 : decode cX7_bestNext 22 = .ok (.iload_n 2, 1) := by decide +kernel
theorem dX7_bestNext_23 : decode cX7_bestNext 23 = .ok (.if_icmp .ge 8, 3) := by decide +kernel
theorem dX7_bestNext_26 : decode cX7_bestNext 26 = .ok (.iload 4, 2) := by decide +kernel
theorem dX7_bestNext_28 : decode cX7_bestNext 28 = .ok (.istore_n 2, 1) := by decide +kernel
theorem dX7_bestNext_29 : decode cX7_bestNext 29 = .ok (.iload_n 3, 1) := by decide +kernel
theorem dX7_bestNext_30 : decode cX7_bestNext 30 = .ok (.istore_n 1, 1) := by decide +kernel
theorem dX7_bestNext_31 : decode cX7_bestNext 31 = .ok (.iinc 3 1, 3) := by decide +kernel
theorem dX7_bestNext_34 : decode cX7_bestNext 34 = .ok (.goto (-27), 3) := by decide +kernel
theorem dX7_bestNext_37 : decode cX7_bestNext 37 = .ok (.iload_n 1, 1) := by decide +kernel
theorem dX7_bestNext_38 : decode cX7_bestNext 38 = .ok (.ireturn, 1) := by decide +kernel
theorem dX7_worstLeft_0 : decode cX7_worstLeft 0 = .ok (.aload_n 0, 1) := by decide +kernel
theorem dX7_worstLeft_1 : decode cX7_worstLeft 1 = .ok (.getfield 28, 3) := by decide +kernel
theorem dX7_worstLeft_4 : decode cX7_worstLeft 4 = .ok (.iconst 0, 1) := by decide +kernel
theorem dX7_worstLeft_5 : decode cX7_worstLeft 5 = .ok (.invokestatic 50, 3) := by decide +kernel
theorem dX7_worstLeft_8 : decode cX7_worstLeft 8 = .ok (.iconst 0, 1) := by decide +kernel
theorem dX7_worstLeft_9 : decode cX7_worstLeft 9 = .ok (.istore_n 2, 1) := by decide +kernel
theorem dX7_worstLeft_10 : decode cX7_worstLeft 10 = .ok (.iconst 0, 1) := by decide +kernel
theorem dX7_worstLeft_11 : decode cX7_worstLeft 11 = .ok (.istore_n 3, 1) := by decide +kernel
theorem dX7_worstLeft_12 : decode cX7_worstLeft 12 = .ok (.iload_n 3, 1) := by decide +kernel
theorem dX7_worstLeft_13 : decode cX7_worstLeft 13 = .ok (.bipush 100, 2) := by decide +kernel
theorem dX7_worstLeft_15 : decode cX7_worstLeft 15 = .ok (.if_icmp .ge 70, 3) := by decide +kernel
theorem dX7_worstLeft_18 : decode cX7_worstLeft 18 = .ok (.aload_n 0, 1) := by decide +kernel
theorem dX7_worstLeft_19 : decode cX7_worstLeft 19 = .ok (.getfield 24, 3) := by decide +kernel
theorem dX7_worstLeft_22 : decode cX7_worstLeft 22 = .ok (.iload_n 3, 1) := by decide +kernel
theorem dX7_worstLeft_23 : decode cX7_worstLeft 23 = .ok (.baload, 1) := by decide +kernel
theorem dX7_worstLeft_24 : decode cX7_worstLeft 24 = .ok (.ifCond .eq 55, 3) := by decide +kernel
theorem dX7_worstLeft_27 : decode cX7_worstLeft 27 = .ok (.iconst 4, 1) := by decide +kernel
theorem dX7_worstLeft_28 : decode cX7_worstLeft 28 = .ok (.iload_n 3, 1) := by decide +kernel
theorem dX7_worstLeft_29 : decode cX7_worstLeft 29 = .ok (.bipush 10, 2) := by decide +kernel
theorem dX7_worstLeft_31 : decode cX7_worstLeft 31 = .ok (.irem, 1) := by decide +kernel
theorem dX7_worstLeft_32 : decode cX7_worstLeft 32 = .ok (.iload_n 1, 1) := by decide +kernel
theorem dX7_worstLeft_33 : decode cX7_worstLeft 33 = .ok (.bipush 10, 2) := by decide +kernel
theorem dX7_worstLeft_35 : decode cX7_worstLeft 35 = .ok (.irem, 1) := by decide +kernel
theorem dX7_worstLeft_36 : decode cX7_worstLeft 36 = .ok (.invokestatic 42, 3) := by decide +kernel
theorem dX7_worstLeft_39 : decode cX7_worstLeft 39 = .ok (.iadd, 1) := by decide +kernel
theorem dX7_worstLeft_40 : decode cX7_worstLeft 40 = .ok (.iconst 3, 1) := by decide +kernel
theorem dX7_worstLeft_41 : decode cX7_worstLeft 41 = .ok (.iload_n 3, 1) := by decide +kernel
theorem dX7_worstLeft_42 : decode cX7_worstLeft 42 = .ok (.bipush 10, 2) := by decide +kernel
theorem dX7_worstLeft_44 : decode cX7_worstLeft 44 = .ok (.idiv, 1) := by decide +kernel
theorem dX7_worstLeft_45 : decode cX7_worstLeft 45 = .ok (.iload_n 1, 1) := by decide +kernel
theorem dX7_worstLeft_46 : decode cX7_worstLeft 46 = .ok (.bipush 10, 2) := by decide +kernel
theorem dX7_worstLeft_48 : decode cX7_worstLeft 48 = .ok (.idiv, 1) := by decide +kernel
theorem dX7_worstLeft_49 : decode cX7_worstLeft 49 = .ok (.invokestatic 42, 3) := by decide +kernel
theorem dX7_worstLeft_52 : decode cX7_worstLeft 52 = .ok (.imul, 1) := by decide +kernel
theorem dX7_worstLeft_53 : decode cX7_worstLeft 53 = .ok (.iadd, 1) := by decide +kernel
theorem dX7_worstLeft_54 : decode cX7_worstLeft 54 = .ok (.istore 4, 2) := by decide +kernel
theorem dX7_worstLeft_56 : decode cX7_worstLeft 56 = .ok (.aload_n 0, 1) := by decide +kernel
theorem dX7_worstLeft_57 : decode cX7_worstLeft 57 = .ok (.getfield 28, 3) := by decide +kernel
theorem dX7_worstLeft_60 : decode cX7_worstLeft 60 = .ok (.iload 4, 2) := by decide +kernel
theorem dX7_worstLeft_62 : decode cX7_worstLeft 62 = .ok (.dup2, 1) := by decide +kernel
theorem dX7_worstLeft_63 : decode cX7_worstLeft 63 = .ok (.iaload, 1) := by decide +kernel
theorem dX7_worstLeft_64 : decode cX7_worstLeft 64 = .ok (.iconst 1, 1) := by decide +kernel
theorem dX7_worstLeft_65 : decode cX7_worstLeft 65 = .ok (.iadd, 1) := by decide +kernel
theorem dX7_worstLeft_66 : decode cX7_worstLeft 66 = .ok (.iastore, 1) := by decide +kernel
theorem dX7_worstLeft_67 : decode cX7_worstLeft 67 = .ok (.iload_n 2, 1) := by decide +kernel
theorem dX7_worstLeft_68 : decode cX7_worstLeft 68 = .ok (.aload_n 0, 1) := by decide +kernel
theorem dX7_worstLeft_69 : decode cX7_worstLeft 69 = .ok (.getfield 28, 3) := by decide +kernel
theorem dX7_worstLeft_72 : decode cX7_worstLeft 72 = .ok (.iload 4, 2) := by decide +kernel
theorem dX7_worstLeft_74 : decode cX7_worstLeft 74 = .ok (.iaload, 1) := by decide +kernel
theorem dX7_worstLeft_75 : decode cX7_worstLeft 75 = .ok (.invokestatic 56, 3) := by decide +kernel
theorem dX7_worstLeft_78 : decode cX7_worstLeft 78 = .ok (.istore_n 2, 1) := by decide +kernel
theorem dX7_worstLeft_79 : decode cX7_worstLeft 79 = .ok (.iinc 3 1, 3) := by decide +kernel
theorem dX7_worstLeft_82 : decode cX7_worstLeft 82 = .ok (.goto (-70), 3) := by decide +kernel
theorem dX7_worstLeft_85 : decode cX7_worstLeft 85 = .ok (.iload_n 2, 1) := by decide +kernel
theorem dX7_worstLeft_86 : decode cX7_worstLeft 86 = .ok (.ireturn, 1) := by decide +kernel
theorem dX8_init_0 : decode cX8_init 0 = .ok (.aload_n 0, 1) := by decide +kernel
theorem dX8_init_1 : decode cX8_init 1 = .ok (.invokespecial 3, 3) := by decide +kernel
theorem dX8_init_4 : decode cX8_init 4 = .ok (.aload_n 0, 1) := by decide +kernel
theorem dX8_init_5 : decode cX8_init 5 = .ok (.aload_n 1, 1) := by decide +kernel
theorem dX8_init_6 : decode cX8_init 6 = .ok (.putfield 9, 3) := by decide +kernel
theorem dX8_init_9 : decode cX8_init 9 = .ok (.aload_n 0, 1) := by decide +kernel
theorem dX8_init_10 : decode cX8_init 10 = .ok (.aload_n 2, 1) := by decide +kernel
theorem dX8_init_11 : decode cX8_init 11 = .ok (.putfield 15, 3) := by decide +kernel
theorem dX8_init_14 : decode cX8_init 14 = .ok (.return_, 1) := by decide +kernel
theorem dX8_wornBy_0 : decode cX8_wornBy 0 = .ok (.iconst 0, 1) := by decide +kernel
theorem dX8_wornBy_1 : decode cX8_wornBy 1 = .ok (.istore_n 2, 1) := by decide +kernel
theorem dX8_wornBy_2 : decode cX8_wornBy 2 = .ok (.iconst 0, 1) := by decide +kernel
theorem dX8_wornBy_3 : decode cX8_wornBy 3 = .ok (.istore_n 3, 1) := by decide +kernel
theorem dX8_wornBy_4 : decode cX8_wornBy 4 = .ok (.iload_n 3, 1) := by decide +kernel
theorem dX8_wornBy_5 : decode cX8_wornBy 5 = .ok (.aload_n 0, 1) := by decide +kernel
theorem dX8_wornBy_6 : decode cX8_wornBy 6 = .ok (.getfield 9, 3) := by decide +kernel
theorem dX8_wornBy_9 : decode cX8_wornBy 9 = .ok (.getfield 19, 3) := by decide +kernel
theorem dX8_wornBy_12 : decode cX8_wornBy 12 = .ok (.if_icmp .ge 24, 3) := by decide +kernel
theorem dX8_wornBy_15 : decode cX8_wornBy 15 = .ok (.aload_n 0, 1) := by decide +kernel
theorem dX8_wornBy_16 : decode cX8_wornBy 16 = .ok (.getfield 15, 3) := by decide +kernel
theorem dX8_wornBy_19 : decode cX8_wornBy 19 = .ok (.iload_n 3, 1) := by decide +kernel
theorem dX8_wornBy_20 : decode cX8_wornBy 20 = .ok (.iload_n 1, 1) := by decide +kernel
theorem dX8_wornBy_21 : decode cX8_wornBy 21 = .ok (.invokevirtual 25, 3) := by decide +kernel
theorem dX8_wornBy_24 : decode cX8_wornBy 24 = .ok (.ifCond .eq 6, 3) := by decide +kernel
theorem dX8_wornBy_27 : decode cX8_wornBy 27 = .ok (.iinc 2 1, 3) := by decide +kernel
theorem dX8_wornBy_30 : decode cX8_wornBy 30 = .ok (.iinc 3 1, 3) := by decide +kernel
theorem dX8_wornBy_33 : decode cX8_wornBy 33 = .ok (.goto (-29), 3) := by decide +kernel
theorem dX8_wornBy_36 : decode cX8_wornBy 36 = .ok (.iload_n 2, 1) := by decide +kernel
theorem dX8_wornBy_37 : decode cX8_wornBy 37 = .ok (.ireturn, 1) := by decide +kernel
theorem dX8_freshVars_0 : decode cX8_freshVars 0 = .ok (.aload_n 0, 1) := by decide +kernel
theorem dX8_freshVars_1 : decode cX8_freshVars 1 = .ok (.getfield 9, 3) := by decide +kernel
theorem dX8_freshVars_4 : decode cX8_freshVars 4 = .ok (.getfield 31, 3) := by decide +kernel
theorem dX8_freshVars_7 : decode cX8_freshVars 7 = .ok (.getfield 35, 3) := by decide +kernel
theorem dX8_freshVars_10 : decode cX8_freshVars 10 = .ok (.astore_n 1, 1) := by decide +kernel
theorem dX8_freshVars_11 : decode cX8_freshVars 11 = .ok (.aload_n 1, 1) := by decide +kernel
theorem dX8_freshVars_12 : decode cX8_freshVars 12 = .ok (.iconst 0, 1) := by decide +kernel
theorem dX8_freshVars_13 : decode cX8_freshVars 13 = .ok (.invokestatic 41, 3) := by decide +kernel
theorem dX8_freshVars_16 : decode cX8_freshVars 16 = .ok (.aload_n 1, 1) := by decide +kernel
theorem dX8_freshVars_17 : decode cX8_freshVars 17 = .ok (.iconst 2, 1) := by decide +kernel
theorem dX8_freshVars_18 : decode cX8_freshVars 18 = .ok (.aload_n 0, 1) := by decide +kernel
theorem dX8_freshVars_19 : decode cX8_freshVars 19 = .ok (.getfield 15, 3) := by decide +kernel
theorem dX8_freshVars_22 : decode cX8_freshVars 22 = .ok (.getfield 47, 3) := by decide +kernel
theorem dX8_freshVars_25 : decode cX8_freshVars 25 = .ok (.iconst 4, 1) := by decide +kernel
theorem dX8_freshVars_26 : decode cX8_freshVars 26 = .ok (.irem, 1) := by decide +kernel
theorem dX8_freshVars_27 : decode cX8_freshVars 27 = .ok (.iastore, 1) := by decide +kernel
theorem dX8_freshVars_28 : decode cX8_freshVars 28 = .ok (.aload_n 1, 1) := by decide +kernel
theorem dX8_freshVars_29 : decode cX8_freshVars 29 = .ok (.iconst 3, 1) := by decide +kernel
theorem dX8_freshVars_30 : decode cX8_freshVars 30 = .ok (.aload_n 0, 1) := by decide +kernel
theorem dX8_freshVars_31 : decode cX8_freshVars 31 = .ok (.getfield 15, 3) := by decide +kernel
theorem dX8_freshVars_34 : decode cX8_freshVars 34 = .ok (.getfield 47, 3) := by decide +kernel
theorem dX8_freshVars_37 : decode cX8_freshVars 37 = .ok (.iastore, 1) := by decide +kernel
theorem dX8_freshVars_38 : decode cX8_freshVars 38 = .ok (.aload_n 1, 1) := by decide +kernel
theorem dX8_freshVars_39 : decode cX8_freshVars 39 = .ok (.areturn, 1) := by decide +kernel
theorem dX8_pullAt_0 : decode cX8_pullAt 0 = .ok (.aload_n 0, 1) := by decide +kernel
theorem dX8_pullAt_1 : decode cX8_pullAt 1 = .ok (.getfield 15, 3) := by decide +kernel
theorem dX8_pullAt_4 : decode cX8_pullAt 4 = .ok (.aload_n 0, 1) := by decide +kernel
theorem dX8_pullAt_5 : decode cX8_pullAt 5 = .ok (.getfield 9, 3) := by decide +kernel
theorem dX8_pullAt_8 : decode cX8_pullAt 8 = .ok (.getfield 50, 3) := by decide +kernel
theorem dX8_pullAt_11 : decode cX8_pullAt 11 = .ok (.iload_n 1, 1) := by decide +kernel
theorem dX8_pullAt_12 : decode cX8_pullAt 12 = .ok (.iaload, 1) := by decide +kernel
theorem dX8_pullAt_13 : decode cX8_pullAt 13 = .ok (.iload_n 3, 1) := by decide +kernel
theorem dX8_pullAt_14 : decode cX8_pullAt 14 = .ok (.iload 4, 2) := by decide +kernel
theorem dX8_pullAt_16 : decode cX8_pullAt 16 = .ok (.invokevirtual 53, 3) := by decide +kernel
theorem dX8_pullAt_19 : decode cX8_pullAt 19 = .ok (.istore 5, 2) := by decide +kernel
theorem dX8_pullAt_21 : decode cX8_pullAt 21 = .ok (.iload 5, 2) := by decide +kernel
theorem dX8_pullAt_23 : decode cX8_pullAt 23 = .ok (.ifCond .eq 44, 3) := by decide +kernel
theorem dX8_pullAt_26 : decode cX8_pullAt 26 = .ok (.aload_n 0, 1) := by decide +kernel
theorem dX8_pullAt_27 : decode cX8_pullAt 27 = .ok (.getfield 15, 3) := by decide +kernel
theorem dX8_pullAt_30 : decode cX8_pullAt 30 = .ok (.iload_n 1, 1) := by decide +kernel
theorem dX8_pullAt_31 : decode cX8_pullAt 31 = .ok (.invokevirtual 57, 3) := by decide +kernel
theorem dX8_pullAt_34 : decode cX8_pullAt 34 = .ok (.ifCond .ne 33, 3) := by decide +kernel
theorem dX8_pullAt_37 : decode cX8_pullAt 37 = .ok (.aload_n 0, 1) := by decide +kernel
theorem dX8_pullAt_38 : decode cX8_pullAt 38 = .ok (.getfield 15, 3) := by decide +kernel
theorem dX8_pullAt_41 : decode cX8_pullAt 41 = .ok (.aload_n 0, 1) := by decide +kernel
theorem dX8_pullAt_42 : decode cX8_pullAt 42 = .ok (.getfield 9, 3) := by decide +kernel
theorem dX8_pullAt_45 : decode cX8_pullAt 45 = .ok (.getfield 50, 3) := by decide +kernel
theorem dX8_pullAt_48 : decode cX8_pullAt 48 = .ok (.iload_n 1, 1) := by decide +kernel
theorem dX8_pullAt_49 : decode cX8_pullAt 49 = .ok (.iaload, 1) := by decide +kernel
theorem dX8_pullAt_50 : decode cX8_pullAt 50 = .ok (.invokevirtual 61, 3) := by decide +kernel
theorem dX8_pullAt_53 : decode cX8_pullAt 53 = .ok (.ifCond .ne 14, 3) := by decide +kernel
theorem dX8_pullAt_56 : decode cX8_pullAt 56 = .ok (.aload_n 0, 1) := by decide +kernel
theorem dX8_pullAt_57 : decode cX8_pullAt 57 = .ok (.getfield 15, 3) := by decide +kernel
theorem dX8_pullAt_60 : decode cX8_pullAt 60 = .ok (.iload_n 2, 1) := by decide +kernel
theorem dX8_pullAt_61 : decode cX8_pullAt 61 = .ok (.invokevirtual 64, 3) := by decide +kernel
theorem dX8_pullAt_64 : decode cX8_pullAt 64 = .ok (.ifCond .eq 5, 3) := by decide +kernel
theorem dX8_pullAt_67 : decode cX8_pullAt 67 = .ok (.iconst 0, 1) := by decide +kernel
theorem dX8_pullAt_68 : decode cX8_pullAt 68 = .ok (.ireturn, 1) := by decide +kernel
theorem dX8_pullAt_69 : decode cX8_pullAt 69 = .ok (.aload_n 0, 1) := by decide +kernel
theorem dX8_pullAt_70 : decode cX8_pullAt 70 = .ok (.invokevirtual 67, 3) := by decide +kernel
theorem dX8_pullAt_73 : decode cX8_pullAt 73 = .ok (.astore 6, 2) := by decide +kernel
theorem dX8_pullAt_75 : decode cX8_pullAt 75 = .ok (.aload 6, 2) := by decide +kernel
theorem dX8_pullAt_77 : decode cX8_pullAt 77 = .ok (.iconst 0, 1) := by decide +kernel
theorem dX8_pullAt_78 : decode cX8_pullAt 78 = .ok (.aload_n 0, 1) := by decide +kernel
theorem dX8_pullAt_79 : decode cX8_pullAt 79 = .ok (.getfield 9, 3) := by decide +kernel
theorem dX8_pullAt_82 : decode cX8_pullAt 82 = .ok (.getfield 71, 3) := by decide +kernel
theorem dX8_pullAt_85 : decode cX8_pullAt 85 = .ok (.iload_n 1, 1) := by decide +kernel
theorem dX8_pullAt_86 : decode cX8_pullAt 86 = .ok (.iaload, 1) := by decide +kernel
theorem dX8_pullAt_87 : decode cX8_pullAt 87 = .ok (.iastore, 1) := by decide +kernel
theorem dX8_pullAt_88 : decode cX8_pullAt 88 = .ok (.aload 6, 2) := by decide +kernel
theorem dX8_pullAt_90 : decode cX8_pullAt 90 = .ok (.iconst 1, 1) := by decide +kernel
theorem dX8_pullAt_91 : decode cX8_pullAt 91 = .ok (.iload 5, 2) := by decide +kernel
theorem dX8_pullAt_93 : decode cX8_pullAt 93 = .ok (.iastore, 1) := by decide +kernel
theorem dX8_pullAt_94 : decode cX8_pullAt 94 = .ok (.aload 6, 2) := by decide +kernel
theorem dX8_pullAt_96 : decode cX8_pullAt 96 = .ok (.iconst 4, 1) := by decide +kernel
theorem dX8_pullAt_97 : decode cX8_pullAt 97 = .ok (.aload_n 0, 1) := by decide +kernel
theorem dX8_pullAt_98 : decode cX8_pullAt 98 = .ok (.getfield 9, 3) := by decide +kernel
theorem dX8_pullAt_101 : decode cX8_pullAt 101 = .ok (.getfield 74, 3) := by decide +kernel
theorem dX8_pullAt_104 : decode cX8_pullAt 104 = .ok (.iload_n 2, 1) := by decide +kernel
theorem dX8_pullAt_105 : decode cX8_pullAt 105 = .ok (.iaload, 1) := by decide +kernel
theorem dX8_pullAt_106 : decode cX8_pullAt 106 = .ok (.iastore, 1) := by decide +kernel
theorem dX8_pullAt_107 : decode cX8_pullAt 107 = .ok (.aload 6, 2) := by decide +kernel
theorem dX8_pullAt_109 : decode cX8_pullAt 109 = .ok (.bipush 7, 2) := by decide +kernel
theorem dX8_pullAt_111 : decode cX8_pullAt 111 = .ok (.iload_n 1, 1) := by decide +kernel
theorem dX8_pullAt_112 : decode cX8_pullAt 112 = .ok (.iastore, 1) := by decide +kernel
theorem dX8_pullAt_113 : decode cX8_pullAt 113 = .ok (.aload_n 0, 1) := by decide +kernel
theorem dX8_pullAt_114 : decode cX8_pullAt 114 = .ok (.getfield 9, 3) := by decide +kernel
theorem dX8_pullAt_117 : decode cX8_pullAt 117 = .ok (.getfield 31, 3) := by decide +kernel
theorem dX8_pullAt_120 : decode cX8_pullAt 120 = .ok (.iconst 0, 1) := by decide +kernel
theorem dX8_pullAt_121 : decode cX8_pullAt 121 = .ok (.bipush 99, 2) := by decide +kernel
theorem dX8_pullAt_123 : decode cX8_pullAt 123 = .ok (.invokevirtual 77, 3) := by decide +kernel
theorem dX8_pullAt_126 : decode cX8_pullAt 126 = .ok (.ireturn, 1) := by decide +kernel
theorem dX8_wayAcross_0 : decode cX8_wayAcross 0 = .ok (.aload_n 0, 1) := by decide +kernel
theorem dX8_wayAcross_1 : decode cX8_wayAcross 1 = .ok (.getfield 15, 3) := by decide +kernel
theorem dX8_wayAcross_4 : decode cX8_wayAcross 4 = .ok (.getfield 81, 3) := by decide +kernel
theorem dX8_wayAcross_7 : decode cX8_wayAcross 7 = .ok (.iconst 0, 1) := by decide +kernel
theorem dX8_wayAcross_8 : decode cX8_wayAcross 8 = .ok (.aload_n 0, 1) := by decide +kernel
theorem dX8_wayAcross_9 : decode cX8_wayAcross 9 = .ok (.getfield 9, 3) := by decide +kernel
theorem dX8_wayAcross_12 : decode cX8_wayAcross 12 = .ok (.getfield 50, 3) := by decide +kernel
theorem dX8_wayAcross_15 : decode cX8_wayAcross 15 = .ok (.iload_n 1, 1) := by decide +kernel
theorem dX8_wayAcross_16 : decode cX8_wayAcross 16 = .ok (.iaload, 1) := by decide +kernel
theorem dX8_wayAcross_17 : decode cX8_wayAcross 17 = .ok (.iadd, 1) := by decide +kernel
theorem dX8_wayAcross_18 : decode cX8_wayAcross 18 = .ok (.iaload, 1) := by decide +kernel
theorem dX8_wayAcross_19 : decode cX8_wayAcross 19 = .ok (.iload_n 2, 1) := by decide +kernel
theorem dX8_wayAcross_20 : decode cX8_wayAcross 20 = .ok (.invokestatic 84, 3) := by decide +kernel
theorem dX8_wayAcross_23 : decode cX8_wayAcross 23 = .ok (.ireturn, 1) := by decide +kernel
theorem dX8_wayDown_0 : decode cX8_wayDown 0 = .ok (.aload_n 0, 1) := by decide +kernel
theorem dX8_wayDown_1 : decode cX8_wayDown 1 = .ok (.getfield 15, 3) := by decide +kernel
theorem dX8_wayDown_4 : decode cX8_wayDown 4 = .ok (.getfield 81, 3) := by decide +kernel
theorem dX8_wayDown_7 : decode cX8_wayDown 7 = .ok (.iconst 4, 1) := by decide +kernel
theorem dX8_wayDown_8 : decode cX8_wayDown 8 = .ok (.aload_n 0, 1) := by decide +kernel
theorem dX8_wayDown_9 : decode cX8_wayDown 9 = .ok (.getfield 9, 3) := by decide +kernel
theorem dX8_wayDown_12 : decode cX8_wayDown 12 = .ok (.getfield 50, 3) := by decide +kernel
theorem dX8_wayDown_15 : decode cX8_wayDown 15 = .ok (.iload_n 1, 1) := by decide +kernel
theorem dX8_wayDown_16 : decode cX8_wayDown 16 = .ok (.iaload, 1) := by decide +kernel
theorem dX8_wayDown_17 : decode cX8_wayDown 17 = .ok (.iadd, 1) := by decide +kernel
theorem dX8_wayDown_18 : decode cX8_wayDown 18 = .ok (.iaload, 1) := by decide +kernel
theorem dX8_wayDown_19 : decode cX8_wayDown 19 = .ok (.iload_n 2, 1) := by decide +kernel
theorem dX8_wayDown_20 : decode cX8_wayDown 20 = .ok (.invokestatic 84, 3) := by decide +kernel
theorem dX8_wayDown_23 : decode cX8_wayDown 23 = .ok (.ireturn, 1) := by decide +kernel
theorem dX8_feel_0 : decode cX8_feel 0 = .ok (.aload_n 0, 1) := by decide +kernel
theorem dX8_feel_1 : decode cX8_feel 1 = .ok (.iconst 0, 1) := by decide +kernel
theorem dX8_feel_2 : decode cX8_feel 2 = .ok (.putfield 87, 3) := by decide +kernel
theorem dX8_feel_5 : decode cX8_feel 5 = .ok (.aload_n 0, 1) := by decide +kernel
theorem dX8_feel_6 : decode cX8_feel 6 = .ok (.iconst 0, 1) := by decide +kernel
theorem dX8_feel_7 : decode cX8_feel 7 = .ok (.putfield 90, 3) := by decide +kernel
theorem dX8_feel_10 : decode cX8_feel 10 = .ok (.iconst 0, 1) := by decide +kernel
theorem dX8_feel_11 : decode cX8_feel 11 = .ok (.istore 4, 2) := by decide +kernel
theorem dX8_feel_13 : decode cX8_feel 13 = .ok (.iload 4, 2) := by decide +kernel
theorem dX8_feel_15 : decode cX8_feel 15 = .ok (.aload_n 0, 1) := by decide +kernel
theorem dX8_feel_16 : decode cX8_feel 16 = .ok (.getfield 9, 3) := by decide +kernel
theorem dX8_feel_19 : decode cX8_feel 19 = .ok (.getfield 19, 3) := by decide +kernel
theorem dX8_feel_22 : decode cX8_feel 22 = .ok (.if_icmp .ge 71, 3) := by decide +kernel
theorem dX8_feel_25 : decode cX8_feel 25 = .ok (.aload_n 0, 1) := by decide +kernel
theorem dX8_feel_26 : decode cX8_feel 26 = .ok (.getfield 15, 3) := by decide +kernel
theorem dX8_feel_29 : decode cX8_feel 29 = .ok (.iload 4, 2) := by decide +kernel
theorem dX8_feel_31 : decode cX8_feel 31 = .ok (.iload_n 1, 1) := by decide +kernel
theorem dX8_feel_32 : decode cX8_feel 32 = .ok (.invokevirtual 25, 3) := by decide +kernel
theorem dX8_feel_35 : decode cX8_feel 35 = .ok (.ifCond .eq 52, 3) := by decide +kernel
theorem dX8_feel_38 : decode cX8_feel 38 = .ok (.aload_n 0, 1) := by decide +kernel
theorem dX8_feel_39 : decode cX8_feel 39 = .ok (.iload 4, 2) := by decide +kernel
theorem dX8_feel_41 : decode cX8_feel 41 = .ok (.iload_n 1, 1) := by decide +kernel
theorem dX8_feel_42 : decode cX8_feel 42 = .ok (.iload_n 2, 1) := by decide +kernel
theorem dX8_feel_43 : decode cX8_feel 43 = .ok (.iload_n 3, 1) := by decide +kernel
theorem dX8_feel_44 : decode cX8_feel 44 = .ok (.invokevirtual 93, 3) := by decide +kernel
theorem dX8_feel_47 : decode cX8_feel 47 = .ok (.istore 5, 2) := by decide +kernel
theorem dX8_feel_49 : decode cX8_feel 49 = .ok (.aload_n 0, 1) := by decide +kernel
theorem dX8_feel_50 : decode cX8_feel 50 = .ok (.dup, 1) := by decide +kernel
theorem dX8_feel_51 : decode cX8_feel 51 = .ok (.getfield 87, 3) := by decide +kernel
theorem dX8_feel_54 : decode cX8_feel 54 = .ok (.iload 5, 2) := by decide +kernel
theorem dX8_feel_56 : decode cX8_feel 56 = .ok (.aload_n 0, 1) := by decide +kernel
theorem dX8_feel_57 : decode cX8_feel 57 = .ok (.iload 4, 2) := by decide +kernel
theorem dX8_feel_59 : decode cX8_feel 59 = .ok (.iload_n 2, 1) := by decide +kernel
theorem dX8_feel_60 : decode cX8_feel 60 = .ok (.invokevirtual 97, 3) := by decide +kernel
theorem dX8_feel_63 : decode cX8_feel 63 = .ok (.imul, 1) := by decide +kernel
theorem dX8_feel_64 : decode cX8_feel 64 = .ok (.iadd, 1) := by decide +kernel
theorem dX8_feel_65 : decode cX8_feel 65 = .ok (.putfield 87, 3) := by decide +kernel
theorem dX8_feel_68 : decode cX8_feel 68 = .ok (.aload_n 0, 1) := by decide +kernel
theorem dX8_feel_69 : decode cX8_feel 69 = .ok (.dup, 1) := by decide +kernel
theorem dX8_feel_70 : decode cX8_feel 70 = .ok (.getfield 90, 3) := by decide +kernel
theorem dX8_feel_73 : decode cX8_feel 73 = .ok (.iload 5, 2) := by decide +kernel
theorem dX8_feel_75 : decode cX8_feel 75 = .ok (.aload_n 0, 1) := by decide +kernel
theorem dX8_feel_76 : decode cX8_feel 76 = .ok (.iload 4, 2) := by decide +kernel
theorem dX8_feel_78 : decode cX8_feel 78 = .ok (.iload_n 3, 1) := by decide +kernel
theorem dX8_feel_79 : decode cX8_feel 79 = .ok (.invokevirtual 100, 3) := by decide +kernel
theorem dX8_feel_82 : decode cX8_feel 82 = .ok (.imul, 1) := by decide +kernel
theorem dX8_feel_83 : decode cX8_feel 83 = .ok (.iadd, 1) := by decide +kernel
theorem dX8_feel_84 : decode cX8_feel 84 = .ok (.putfield 90, 3) := by decide +kernel
theorem dX8_feel_87 : decode cX8_feel 87 = .ok (.iinc 4 1, 3) := by decide +kernel
theorem dX8_feel_90 : decode cX8_feel 90 = .ok (.goto (-77), 3) := by decide +kernel
theorem dX8_feel_93 : decode cX8_feel 93 = .ok (.return_, 1) := by decide +kernel
theorem dX8_varsOfPerson_0 : decode cX8_varsOfPerson 0 = .ok (.aload_n 0, 1) := by decide +kernel
theorem dX8_varsOfPerson_1 : decode cX8_varsOfPerson 1 = .ok (.invokevirtual 67, 3) := by decide +kernel
theorem dX8_varsOfPerson_4 : decode cX8_varsOfPerson 4 = .ok (.astore 4, 2) := by decide +kernel
theorem dX8_varsOfPerson_6 : decode cX8_varsOfPerson 6 = .ok (.aload 4, 2) := by decide +kernel
theorem dX8_varsOfPerson_8 : decode cX8_varsOfPerson 8 = .ok (.iconst 4, 1) := by decide +kernel
theorem dX8_varsOfPerson_9 : decode cX8_varsOfPerson 9 = .ok (.aload_n 0, 1) := by decide +kernel
theorem dX8_varsOfPerson_10 : decode cX8_varsOfPerson 10 = .ok (.getfield 9, 3) := by decide +kernel
theorem dX8_varsOfPerson_13 : decode cX8_varsOfPerson 13 = .ok (.getfield 74, 3) := by decide +kernel
theorem dX8_varsOfPerson_16 : decode cX8_varsOfPerson 16 = .ok (.iload_n 1, 1) := by decide +kernel
theorem dX8_varsOfPerson_17 : decode cX8_varsOfPerson 17 = .ok (.iaload, 1) := by decide +kernel
theorem dX8_varsOfPerson_18 : decode cX8_varsOfPerson 18 = .ok (.iastore, 1) := by decide +kernel
theorem dX8_varsOfPerson_19 : decode cX8_varsOfPerson 19 = .ok (.aload 4, 2) := by decide +kernel
theorem dX8_varsOfPerson_21 : decode cX8_varsOfPerson 21 = .ok (.iconst 5, 1) := by decide +kernel
theorem dX8_varsOfPerson_22 : decode cX8_varsOfPerson 22 = .ok (.iload_n 2, 1) := by decide +kernel
theorem dX8_varsOfPerson_23 : decode cX8_varsOfPerson 23 = .ok (.iastore, 1) := by decide +kernel
theorem dX8_varsOfPerson_24 : decode cX8_varsOfPerson 24 = .ok (.aload 4, 2) := by decide +kernel
theorem dX8_varsOfPerson_26 : decode cX8_varsOfPerson 26 = .ok (.bipush 6, 2) := by decide +kernel
theorem dX8_varsOfPerson_28 : decode cX8_varsOfPerson 28 = .ok (.iload_n 3, 1) := by decide +kernel
theorem dX8_varsOfPerson_29 : decode cX8_varsOfPerson 29 = .ok (.iastore, 1) := by decide +kernel
theorem dX8_varsOfPerson_30 : decode cX8_varsOfPerson 30 = .ok (.aload 4, 2) := by decide +kernel
theorem dX8_varsOfPerson_32 : decode cX8_varsOfPerson 32 = .ok (.bipush 8, 2) := by decide +kernel
theorem dX8_varsOfPerson_34 : decode cX8_varsOfPerson 34 = .ok (.aload_n 0, 1) := by decide +kernel
theorem dX8_varsOfPerson_35 : decode cX8_varsOfPerson 35 = .ok (.iload_n 1, 1) := by decide +kernel
theorem dX8_varsOfPerson_36 : decode cX8_varsOfPerson 36 = .ok (.invokevirtual 103, 3) := by decide +kernel
theorem dX8_varsOfPerson_39 : decode cX8_varsOfPerson 39 = .ok (.iastore, 1) := by decide +kernel
theorem dX8_varsOfPerson_40 : decode cX8_varsOfPerson 40 = .ok (.aload 4, 2) := by decide +kernel
theorem dX8_varsOfPerson_42 : decode cX8_varsOfPerson 42 = .ok (.areturn, 1) := by decide +kernel
theorem dX8_standsAt_0 : decode cX8_standsAt 0 = .ok (.aload_n 0, 1) := by decide +kernel
theorem dX8_standsAt_1 : decode cX8_standsAt 1 = .ok (.iload_n 1, 1) := by decide +kernel
theorem dX8_standsAt_2 : decode cX8_standsAt 2 = .ok (.iload_n 2, 1) := by decide +kernel
theorem dX8_standsAt_3 : decode cX8_standsAt 3 = .ok (.iload_n 3, 1) := by decide +kernel
theorem dX8_standsAt_4 : decode cX8_standsAt 4 = .ok (.invokevirtual 107, 3) := by decide +kernel
theorem dX8_standsAt_7 : decode cX8_standsAt 7 = .ok (.pop, 1) := by decide +kernel
theorem dX8_standsAt_8 : decode cX8_standsAt 8 = .ok (.aload_n 0, 1) := by decide +kernel
theorem dX8_standsAt_9 : decode cX8_standsAt 9 = .ok (.getfield 9, 3) := by decide +kernel
theorem dX8_standsAt_12 : decode cX8_standsAt 12 = .ok (.getfield 31, 3) := by decide +kernel
theorem dX8_standsAt_15 : decode cX8_standsAt 15 = .ok (.iconst 1, 1) := by decide +kernel
theorem dX8_standsAt_16 : decode cX8_standsAt 16 = .ok (.sipush 999, 3) := by decide +kernel
theorem dX8_standsAt_19 : decode cX8_standsAt 19 = .ok (.invokevirtual 77, 3) := by decide +kernel
theorem dX8_standsAt_22 : decode cX8_standsAt 22 = .ok (.ireturn, 1) := by decide +kernel
theorem dX8_stormOf_0 : decode cX8_stormOf 0 = .ok (.aload_n 0, 1) := by decide +kernel
theorem dX8_stormOf_1 : decode cX8_stormOf 1 = .ok (.iload_n 1, 1) := by decide +kernel
theorem dX8_stormOf_2 : decode cX8_stormOf 2 = .ok (.aload_n 0, 1) := by decide +kernel
theorem dX8_stormOf_3 : decode cX8_stormOf 3 = .ok (.getfield 15, 3) := by decide +kernel
theorem dX8_stormOf_6 : decode cX8_stormOf 6 = .ok (.getfield 81, 3) := by decide +kernel
theorem dX8_stormOf_9 : decode cX8_stormOf 9 = .ok (.bipush 16, 2) := by decide +kernel
theorem dX8_stormOf_11 : decode cX8_stormOf 11 = .ok (.iload_n 1, 1) := by decide +kernel
theorem dX8_stormOf_12 : decode cX8_stormOf 12 = .ok (.iadd, 1) := by decide +kernel
theorem dX8_stormOf_13 : decode cX8_stormOf 13 = .ok (.iaload, 1) := by decide +kernel
theorem dX8_stormOf_14 : decode cX8_stormOf 14 = .ok (.aload_n 0, 1) := by decide +kernel
theorem dX8_stormOf_15 : decode cX8_stormOf 15 = .ok (.getfield 15, 3) := by decide +kernel
theorem dX8_stormOf_18 : decode cX8_stormOf 18 = .ok (.getfield 81, 3) := by decide +kernel
theorem dX8_stormOf_21 : decode cX8_stormOf 21 = .ok (.bipush 22, 2) := by decide +kernel
theorem dX8_stormOf_23 : decode cX8_stormOf 23 = .ok (.iload_n 1, 1) := by decide +kernel
theorem dX8_stormOf_24 : decode cX8_stormOf 24 = .ok (.iadd, 1) := by decide +kernel
theorem dX8_stormOf_25 : decode cX8_stormOf 25 = .ok (.iaload, 1) := by decide +kernel
theorem dX8_stormOf_26 : decode cX8_stormOf 26 = .ok (.invokevirtual 107, 3) := by decide +kernel
theorem dX8_stormOf_29 : decode cX8_stormOf 29 = .ok (.pop, 1) := by decide +kernel
theorem dX8_stormOf_30 : decode cX8_stormOf 30 = .ok (.aload_n 0, 1) := by decide +kernel
theorem dX8_stormOf_31 : decode cX8_stormOf 31 = .ok (.getfield 9, 3) := by decide +kernel
theorem dX8_stormOf_34 : decode cX8_stormOf 34 = .ok (.getfield 31, 3) := by decide +kernel
theorem dX8_stormOf_37 : decode cX8_stormOf 37 = .ok (.iconst 3, 1) := by decide +kernel
theorem dX8_stormOf_38 : decode cX8_stormOf 38 = .ok (.bipush 100, 2) := by decide +kernel
theorem dX8_stormOf_40 : decode cX8_stormOf 40 = .ok (.invokevirtual 77, 3) := by decide +kernel
theorem dX8_stormOf_43 : decode cX8_stormOf 43 = .ok (.ireturn, 1) := by decide +kernel
theorem dX8_isMovedAt_0 : decode cX8_isMovedAt 0 = .ok (.aload_n 0, 1) := by decide +kernel
theorem dX8_isMovedAt_1 : decode cX8_isMovedAt 1 = .ok (.iload_n 1, 1) := by decide +kernel
theorem dX8_isMovedAt_2 : decode cX8_isMovedAt 2 = .ok (.iload_n 2, 1) := by decide +kernel
theorem dX8_isMovedAt_3 : decode cX8_isMovedAt 3 = .ok (.iload_n 3, 1) := by decide +kernel
theorem dX8_isMovedAt_4 : decode cX8_isMovedAt 4 = .ok (.invokevirtual 111, 3) := by decide +kernel
theorem dX8_isMovedAt_7 : decode cX8_isMovedAt 7 = .ok (.aload_n 0, 1) := by decide +kernel
theorem dX8_isMovedAt_8 : decode cX8_isMovedAt 8 = .ok (.iload_n 1, 1) := by decide +kernel
theorem dX8_isMovedAt_9 : decode cX8_isMovedAt 9 = .ok (.iload_n 2, 1) := by decide +kernel
theorem dX8_isMovedAt_10 : decode cX8_isMovedAt 10 = .ok (.iload_n 3, 1) := by decide +kernel
theorem dX8_isMovedAt_11 : decode cX8_isMovedAt 11 = .ok (.invokevirtual 115, 3) := by decide +kernel
theorem dX8_isMovedAt_14 : decode cX8_isMovedAt 14 = .ok (.istore 4, 2) := by decide +kernel
theorem dX8_isMovedAt_16 : decode cX8_isMovedAt 16 = .ok (.aload_n 0, 1) := by decide +kernel
theorem dX8_isMovedAt_17 : decode cX8_isMovedAt 17 = .ok (.getfield 87, 3) := by decide +kernel
theorem dX8_isMovedAt_20 : decode cX8_isMovedAt 20 = .ok (.invokestatic 118, 3) := by decide +kernel
theorem dX8_isMovedAt_23 : decode cX8_isMovedAt 23 = .ok (.iload 4, 2) := by decide +kernel
theorem dX8_isMovedAt_25 : decode cX8_isMovedAt 25 = .ok (.if_icmp .gt 15, 3) := by decide +kernel
theorem dX8_isMovedAt_28 : decode cX8_isMovedAt 28 = .ok (.aload_n 0, 1) := by decide +kernel
theorem dX8_isMovedAt_29 : decode cX8_isMovedAt 29 = .ok (.getfield 90, 3) := by decide +kernel
theorem dX8_isMovedAt_32 : decode cX8_isMovedAt 32 = .ok (.invokestatic 118, 3) := by decide +kernel
theorem dX8_isMovedAt_35 : decode cX8_isMovedAt 35 = .ok (.iload 4, 2) := by decide +kernel
theorem dX8_isMovedAt_37 : decode cX8_isMovedAt 37 = .ok (.if_icmp .le 7, 3) := by decide +kernel
theorem dX8_isMovedAt_40 : decode cX8_isMovedAt 40 = .ok (.iconst 1, 1) := by decide +kernel
theorem dX8_isMovedAt_41 : decode cX8_isMovedAt 41 = .ok (.goto 4, 3) := by decide +kernel
theorem dX8_isMovedAt_44 : decode cX8_isMovedAt 44 = .ok (.iconst 0, 1) := by decide +kernel
theorem dX8_isMovedAt_45 : decode cX8_isMovedAt 45 = .ok (.ireturn, 1) := by decide +kernel
theorem dX8_priceOf_0 : decode cX8_priceOf 0 = .ok (.aload_n 0, 1) := by decide +kernel
theorem dX8_priceOf_1 : decode cX8_priceOf 1 = .ok (.getfield 15, 3) := by decide +kernel
theorem dX8_priceOf_4 : decode cX8_priceOf 4 = .ok (.getfield 81, 3) := by decide +kernel
theorem dX8_priceOf_7 : decode cX8_priceOf 7 = .ok (.bipush 28, 2) := by decide +kernel
theorem dX8_priceOf_9 : decode cX8_priceOf 9 = .ok (.iload_n 1, 1) := by decide +kernel
theorem dX8_priceOf_10 : decode cX8_priceOf 10 = .ok (.iadd, 1) := by decide +kernel
theorem dX8_priceOf_11 : decode cX8_priceOf 11 = .ok (.iaload, 1) := by decide +kernel
theorem dX8_priceOf_12 : decode cX8_priceOf 12 = .ok (.istore_n 2, 1) := by decide +kernel
theorem dX8_priceOf_13 : decode cX8_priceOf 13 = .ok (.aload_n 0, 1) := by decide +kernel
theorem dX8_priceOf_14 : decode cX8_priceOf 14 = .ok (.invokevirtual 67, 3) := by decide +kernel
theorem dX8_priceOf_17 : decode cX8_priceOf 17 = .ok (.astore_n 3, 1) := by decide +kernel
theorem dX8_priceOf_18 : decode cX8_priceOf 18 = .ok (.aload_n 3, 1) := by decide +kernel
theorem dX8_priceOf_19 : decode cX8_priceOf 19 = .ok (.iconst 0, 1) := by decide +kernel
theorem dX8_priceOf_20 : decode cX8_priceOf 20 = .ok (.aload_n 0, 1) := by decide +kernel
theorem dX8_priceOf_21 : decode cX8_priceOf 21 = .ok (.getfield 9, 3) := by decide +kernel
theorem dX8_priceOf_24 : decode cX8_priceOf 24 = .ok (.getfield 71, 3) := by decide +kernel
theorem dX8_priceOf_27 : decode cX8_priceOf 27 = .ok (.iload_n 1, 1) := by decide +kernel
theorem dX8_priceOf_28 : decode cX8_priceOf 28 = .ok (.iaload, 1) := by decide +kernel
theorem dX8_priceOf_29 : decode cX8_priceOf 29 = .ok (.iastore, 1) := by decide +kernel
theorem dX8_priceOf_30 : decode cX8_priceOf 30 = .ok (.aload_n 3, 1) := by decide +kernel
theorem dX8_priceOf_31 : decode cX8_priceOf 31 = .ok (.bipush 7, 2) := by decide +kernel
theorem dX8_priceOf_33 : decode cX8_priceOf 33 = .ok (.iload_n 1, 1) := by decide +kernel
theorem dX8_priceOf_34 : decode cX8_priceOf 34 = .ok (.iastore, 1) := by decide +kernel
theorem dX8_priceOf_35 : decode cX8_priceOf 35 = .ok (.aload_n 3, 1) := by decide +kernel
theorem dX8_priceOf_36 : decode cX8_priceOf 36 = .ok (.bipush 8, 2) := by decide +kernel
theorem dX8_priceOf_38 : decode cX8_priceOf 38 = .ok (.aload_n 0, 1) := by decide +kernel
theorem dX8_priceOf_39 : decode cX8_priceOf 39 = .ok (.iload_n 2, 1) := by decide +kernel
theorem dX8_priceOf_40 : decode cX8_priceOf 40 = .ok (.invokevirtual 103, 3) := by decide +kernel
theorem dX8_priceOf_43 : decode cX8_priceOf 43 = .ok (.iastore, 1) := by decide +kernel
theorem dX8_priceOf_44 : decode cX8_priceOf 44 = .ok (.aload_n 3, 1) := by decide +kernel
theorem dX8_priceOf_45 : decode cX8_priceOf 45 = .ok (.iconst 1, 1) := by decide +kernel
theorem dX8_priceOf_46 : decode cX8_priceOf 46 = .ok (.aload_n 0, 1) := by decide +kernel
theorem dX8_priceOf_47 : decode cX8_priceOf 47 = .ok (.getfield 15, 3) := by decide +kernel
theorem dX8_priceOf_50 : decode cX8_priceOf 50 = .ok (.aload_n 0, 1) := by decide +kernel
theorem dX8_priceOf_51 : decode cX8_priceOf 51 = .ok (.getfield 9, 3) := by decide +kernel
theorem dX8_priceOf_54 : decode cX8_priceOf 54 = .ok (.getfield 50, 3) := by decide +kernel
theorem dX8_priceOf_57 : decode cX8_priceOf 57 = .ok (.iload_n 1, 1) := by decide +kernel
theorem dX8_priceOf_58 : decode cX8_priceOf 58 = .ok (.iaload, 1) := by decide +kernel
theorem dX8_priceOf_59 : decode cX8_priceOf 59 = .ok (.aload_n 0, 1) := by decide +kernel
theorem dX8_priceOf_60 : decode cX8_priceOf 60 = .ok (.getfield 15, 3) := by decide +kernel
theorem dX8_priceOf_63 : decode cX8_priceOf 63 = .ok (.getfield 81, 3) := by decide +kernel
theorem dX8_priceOf_66 : decode cX8_priceOf 66 = .ok (.bipush 16, 2) := by decide +kernel
theorem dX8_priceOf_68 : decode cX8_priceOf 68 = .ok (.iload_n 2, 1) := by decide +kernel
theorem dX8_priceOf_69 : decode cX8_priceOf 69 = .ok (.iadd, 1) := by decide +kernel
theorem dX8_priceOf_70 : decode cX8_priceOf 70 = .ok (.iaload, 1) := by decide +kernel
theorem dX8_priceOf_71 : decode cX8_priceOf 71 = .ok (.aload_n 0, 1) := by decide +kernel
theorem dX8_priceOf_72 : decode cX8_priceOf 72 = .ok (.getfield 15, 3) := by decide +kernel
theorem dX8_priceOf_75 : decode cX8_priceOf 75 = .ok (.getfield 81, 3) := by decide +kernel
theorem dX8_priceOf_78 : decode cX8_priceOf 78 = .ok (.bipush 22, 2) := by decide +kernel
theorem dX8_priceOf_80 : decode cX8_priceOf 80 = .ok (.iload_n 2, 1) := by decide +kernel
theorem dX8_priceOf_81 : decode cX8_priceOf 81 = .ok (.iadd, 1) := by decide +kernel
theorem dX8_priceOf_82 : decode cX8_priceOf 82 = .ok (.iaload, 1) := by decide +kernel
theorem dX8_priceOf_83 : decode cX8_priceOf 83 = .ok (.invokevirtual 53, 3) := by decide +kernel
theorem dX8_priceOf_86 : decode cX8_priceOf 86 = .ok (.iastore, 1) := by decide +kernel
theorem dX8_priceOf_87 : decode cX8_priceOf 87 = .ok (.aload_n 0, 1) := by decide +kernel
theorem dX8_priceOf_88 : decode cX8_priceOf 88 = .ok (.getfield 9, 3) := by decide +kernel
theorem dX8_priceOf_91 : decode cX8_priceOf 91 = .ok (.getfield 31, 3) := by decide +kernel
theorem dX8_priceOf_94 : decode cX8_priceOf 94 = .ok (.iconst 2, 1) := by decide +kernel
theorem dX8_priceOf_95 : decode cX8_priceOf 95 = .ok (.sipush 999, 3) := by decide +kernel
theorem dX8_priceOf_98 : decode cX8_priceOf 98 = .ok (.invokevirtual 77, 3) := by decide +kernel
theorem dX8_priceOf_101 : decode cX8_priceOf 101 = .ok (.ireturn, 1) := by decide +kernel
theorem dX8_pricesOfAll_0 : decode cX8_pricesOfAll 0 = .ok (.iconst 0, 1) := by decide +kernel
theorem dX8_pricesOfAll_1 : decode cX8_pricesOfAll 1 = .ok (.istore_n 1, 1) := by decide +kernel
theorem dX8_pricesOfAll_2 : decode cX8_pricesOfAll 2 = .ok (.iconst 0, 1) := by decide +kernel
theorem dX8_pricesOfAll_3 : decode cX8_pricesOfAll 3 = .ok (.istore_n 2, 1) := by decide +kernel
theorem dX8_pricesOfAll_4 : decode cX8_pricesOfAll 4 = .ok (.iload_n 2, 1) := by decide +kernel
theorem dX8_pricesOfAll_5 : decode cX8_pricesOfAll 5 = .ok (.aload_n 0, 1) := by decide +kernel
theorem dX8_pricesOfAll_6 : decode cX8_pricesOfAll 6 = .ok (.getfield 9, 3) := by decide +kernel
theorem dX8_pricesOfAll_9 : decode cX8_pricesOfAll 9 = .ok (.getfield 19, 3) := by decide +kernel
theorem dX8_pricesOfAll_12 : decode cX8_pricesOfAll 12 = .ok (.if_icmp .ge 28, 3) := by decide +kernel
theorem dX8_pricesOfAll_15 : decode cX8_pricesOfAll 15 = .ok (.aload_n 0, 1) := by decide +kernel
theorem dX8_pricesOfAll_16 : decode cX8_pricesOfAll 16 = .ok (.getfield 15, 3) := by decide +kernel
theorem dX8_pricesOfAll_19 : decode cX8_pricesOfAll 19 = .ok (.iload_n 2, 1) := by decide +kernel
theorem dX8_pricesOfAll_20 : decode cX8_pricesOfAll 20 = .ok (.invokevirtual 57, 3) := by decide +kernel
theorem dX8_pricesOfAll_23 : decode cX8_pricesOfAll 23 = .ok (.ifCond .ne 11, 3) := by decide +kernel
theorem dX8_pricesOfAll_26 : decode cX8_pricesOfAll 26 = .ok (.iload_n 1, 1) := by decide +kernel
theorem dX8_pricesOfAll_27 : decode cX8_pricesOfAll 27 = .ok (.aload_n 0, 1) := by decide +kernel
theorem dX8_pricesOfAll_28 : decode cX8_pricesOfAll 28 = .ok (.iload_n 2, 1) := by decide +kernel
theorem dX8_pricesOfAll_29 : decode cX8_pricesOfAll 29 = .ok (.invokevirtual 123, 3) := by decide +kernel
theorem dX8_pricesOfAll_32 : decode cX8_pricesOfAll 32 = .ok (.iadd, 1) := by decide +kernel
theorem dX8_pricesOfAll_33 : decode cX8_pricesOfAll 33 = .ok (.istore_n 1, 1) := by decide +kernel
theorem dX8_pricesOfAll_34 : decode cX8_pricesOfAll 34 = .ok (.iinc 2 1, 3) := by decide +kernel
theorem dX8_pricesOfAll_37 : decode cX8_pricesOfAll 37 = .ok (.goto (-33), 3) := by decide +kernel
theorem dX8_pricesOfAll_40 : decode cX8_pricesOfAll 40 = .ok (.iload_n 1, 1) := by decide +kernel
theorem dX8_pricesOfAll_41 : decode cX8_pricesOfAll 41 = .ok (.ireturn, 1) := by decide +kernel
theorem dX8_goMonth_0 : decode cX8_goMonth 0 = .ok (.iload_n 1, 1) := by decide +kernel
theorem dX8_goMonth_1 : decode cX8_goMonth 1 = .ok (.istore 4, 2) := by decide +kernel
theorem dX8_goMonth_3 : decode cX8_goMonth 3 = .ok (.iload 4, 2) := by decide +kernel
theorem dX8_goMonth_5 : decode cX8_goMonth 5 = .ok (.iload_n 2, 1) := by decide +kernel
theorem dX8_goMonth_6 : decode cX8_goMonth 6 = .ok (.if_icmp .ge 179, 3) := by decide +kernel
theorem dX8_goMonth_9 : decode cX8_goMonth 9 = .ok (.aload_n 0, 1) := by decide +kernel
theorem dX8_goMonth_10 : decode cX8_goMonth 10 = .ok (.getfield 15, 3) := by decide +kernel
theorem dX8_goMonth_13 : decode cX8_goMonth 13 = .ok (.iload 4, 2) := by decide +kernel
theorem dX8_goMonth_15 : decode cX8_goMonth 15 = .ok (.invokevirtual 64, 3) := by decide +kernel
theorem dX8_goMonth_18 : decode cX8_goMonth 18 = .ok (.ifCond .ne 161, 3) := by decide +kernel
theorem dX8_goMonth_21 : decode cX8_goMonth 21 = .ok (.aload_n 0, 1) := by decide +kernel
theorem dX8_goMonth_22 : decode cX8_goMonth 22 = .ok (.getfield 15, 3) := by decide +kernel
theorem dX8_goMonth_25 : decode cX8_goMonth 25 = .ok (.getfield 81, 3) := by decide +kernel
theorem dX8_goMonth_28 : decode cX8_goMonth 28 = .ok (.bipush 16, 2) := by decide +kernel
theorem dX8_goMonth_30 : decode cX8_goMonth 30 = .ok (.iload 4, 2) := by decide +kernel
theorem dX8_goMonth_32 : decode cX8_goMonth 32 = .ok (.iadd, 1) := by decide +kernel
theorem dX8_goMonth_33 : decode cX8_goMonth 33 = .ok (.iaload, 1) := by decide +kernel
theorem dX8_goMonth_34 : decode cX8_goMonth 34 = .ok (.istore 5, 2) := by decide +kernel
theorem dX8_goMonth_36 : decode cX8_goMonth 36 = .ok (.aload_n 0, 1) := by decide +kernel
theorem dX8_goMonth_37 : decode cX8_goMonth 37 = .ok (.getfield 15, 3) := by decide +kernel
theorem dX8_goMonth_40 : decode cX8_goMonth 40 = .ok (.getfield 81, 3) := by decide +kernel
theorem dX8_goMonth_43 : decode cX8_goMonth 43 = .ok (.bipush 22, 2) := by decide +kernel
theorem dX8_goMonth_45 : decode cX8_goMonth 45 = .ok (.iload 4, 2) := by decide +kernel
theorem dX8_goMonth_47 : decode cX8_goMonth 47 = .ok (.iadd, 1) := by decide +kernel
theorem dX8_goMonth_48 : decode cX8_goMonth 48 = .ok (.iaload, 1) := by decide +kernel
theorem dX8_goMonth_49 : decode cX8_goMonth 49 = .ok (.istore 6, 2) := by decide +kernel
theorem dX8_goMonth_51 : decode cX8_goMonth 51 = .ok (.iload_n 3, 1) := by decide +kernel
theorem dX8_goMonth_52 : decode cX8_goMonth 52 = .ok (.ifCond .eq 17, 3) := by decide +kernel
theorem dX8_goMonth_55 : decode cX8_goMonth 55 = .ok (.aload_n 0, 1) := by decide +kernel
theorem dX8_goMonth_56 : decode cX8_goMonth 56 = .ok (.iload 4, 2) := by decide +kernel
theorem dX8_goMonth_58 : decode cX8_goMonth 58 = .ok (.iconst 1, 1) := by decide +kernel
theorem dX8_goMonth_59 : decode cX8_goMonth 59 = .ok (.invokevirtual 126, 3) := by decide +kernel
theorem dX8_goMonth_62 : decode cX8_goMonth 62 = .ok (.ifCond .eq 7, 3) := by decide +kernel
theorem dX8_goMonth_65 : decode cX8_goMonth 65 = .ok (.iconst 1, 1) := by decide +kernel
theorem dX8_goMonth_66 : decode cX8_goMonth 66 = .ok (.goto 4, 3) := by decide +kernel
theorem dX8_goMonth_69 : decode cX8_goMonth 69 = .ok (.iconst 0, 1) := by decide +kernel
theorem dX8_goMonth_70 : decode cX8_goMonth 70 = .ok (.istore 7, 2) := by decide +kernel
theorem dX8_goMonth_72 : decode cX8_goMonth 72 = .ok (.aload_n 0, 1) := by decide +kernel
theorem dX8_goMonth_73 : decode cX8_goMonth 73 = .ok (.iload 4, 2) := by decide +kernel
theorem dX8_goMonth_75 : decode cX8_goMonth 75 = .ok (.iload 5, 2) := by decide +kernel
theorem dX8_goMonth_77 : decode cX8_goMonth 77 = .ok (.iload 6, 2) := by decide +kernel
theorem dX8_goMonth_79 : decode cX8_goMonth 79 = .ok (.invokevirtual 111, 3) := by decide +kernel
theorem dX8_goMonth_82 : decode cX8_goMonth 82 = .ok (.aload_n 0, 1) := by decide +kernel
theorem dX8_goMonth_83 : decode cX8_goMonth 83 = .ok (.iload 4, 2) := by decide +kernel
theorem dX8_goMonth_85 : decode cX8_goMonth 85 = .ok (.iload 5, 2) := by decide +kernel
theorem dX8_goMonth_87 : decode cX8_goMonth 87 = .ok (.iload 6, 2) := by decide +kernel
theorem dX8_goMonth_89 : decode cX8_goMonth 89 = .ok (.invokevirtual 115, 3) := by decide +kernel
theorem dX8_goMonth_92 : decode cX8_goMonth 92 = .ok (.istore 8, 2) := by decide +kernel
theorem dX8_goMonth_94 : decode cX8_goMonth 94 = .ok (.iload 6, 2) := by decide +kernel
theorem dX8_goMonth_96 : decode cX8_goMonth 96 = .ok (.aload_n 0, 1) := by decide +kernel
theorem dX8_goMonth_97 : decode cX8_goMonth 97 = .ok (.getfield 90, 3) := by decide +kernel
theorem dX8_goMonth_100 : decode cX8_goMonth 100 = .ok (.iload 8, 2) := by decide +kernel
theorem dX8_goMonth_102 : decode cX8_goMonth 102 = .ok (.invokestatic 129, 3) := by decide +kernel
theorem dX8_goMonth_105 : decode cX8_goMonth 105 = .ok (.istore 9, 2) := by decide +kernel
theorem dX8_goMonth_107 : decode cX8_goMonth 107 = .ok (.aload_n 0, 1) := by decide +kernel
theorem dX8_goMonth_108 : decode cX8_goMonth 108 = .ok (.getfield 15, 3) := by decide +kernel
theorem dX8_goMonth_111 : decode cX8_goMonth 111 = .ok (.getfield 81, 3) := by decide +kernel
theorem dX8_goMonth_114 : decode cX8_goMonth 114 = .ok (.bipush 16, 2) := by decide +kernel
theorem dX8_goMonth_116 : decode cX8_goMonth 116 = .ok (.iload 4, 2) := by decide +kernel
theorem dX8_goMonth_118 : decode cX8_goMonth 118 = .ok (.iadd, 1) := by decide +kernel
theorem dX8_goMonth_119 : decode cX8_goMonth 119 = .ok (.iload 5, 2) := by decide +kernel
theorem dX8_goMonth_121 : decode cX8_goMonth 121 = .ok (.aload_n 0, 1) := by decide +kernel
theorem dX8_goMonth_122 : decode cX8_goMonth 122 = .ok (.getfield 87, 3) := by decide +kernel
theorem dX8_goMonth_125 : decode cX8_goMonth 125 = .ok (.iload 8, 2) := by decide +kernel
theorem dX8_goMonth_127 : decode cX8_goMonth 127 = .ok (.invokestatic 129, 3) := by decide +kernel
theorem dX8_goMonth_130 : decode cX8_goMonth 130 = .ok (.iastore, 1) := by decide +kernel
theorem dX8_goMonth_131 : decode cX8_goMonth 131 = .ok (.aload_n 0, 1) := by decide +kernel
theorem dX8_goMonth_132 : decode cX8_goMonth 132 = .ok (.getfield 15, 3) := by decide +kernel
theorem dX8_goMonth_135 : decode cX8_goMonth 135 = .ok (.getfield 81, 3) := by decide +kernel
theorem dX8_goMonth_138 : decode cX8_goMonth 138 = .ok (.bipush 22, 2) := by decide +kernel
theorem dX8_goMonth_140 : decode cX8_goMonth 140 = .ok (.iload 4, 2) := by decide +kernel
theorem dX8_goMonth_142 : decode cX8_goMonth 142 = .ok (.iadd, 1) := by decide +kernel
theorem dX8_goMonth_143 : decode cX8_goMonth 143 = .ok (.iload 9, 2) := by decide +kernel
theorem dX8_goMonth_145 : decode cX8_goMonth 145 = .ok (.iastore, 1) := by decide +kernel
theorem dX8_goMonth_146 : decode cX8_goMonth 146 = .ok (.iload 7, 2) := by decide +kernel
theorem dX8_goMonth_148 : decode cX8_goMonth 148 = .ok (.ifCond .ne 15, 3) := by decide +kernel
theorem dX8_goMonth_151 : decode cX8_goMonth 151 = .ok (.iload 9, 2) := by decide +kernel
theorem dX8_goMonth_153 : decode cX8_goMonth 153 = .ok (.aload_n 0, 1) := by decide +kernel
theorem dX8_goMonth_154 : decode cX8_goMonth 154 = .ok (.getfield 9, 3) := by decide +kernel
theorem dX8_goMonth_157 : decode cX8_goMonth 157 = .ok (.getfield 132, 3) := by decide +kernel
theorem dX8_goMonth_160 : decode cX8_goMonth 160 = .ok (.if_icmp .le 19, 3) := by decide +kernel
theorem dX8_goMonth_163 : decode cX8_goMonth 163 = .ok (.aload_n 0, 1) := by decide +kernel
theorem dX8_goMonth_164 : decode cX8_goMonth 164 = .ok (.getfield 15, 3) := by decide +kernel
theorem dX8_goMonth_167 : decode cX8_goMonth 167 = .ok (.dup, 1) := by decide +kernel
theorem dX8_goMonth_168 : decode cX8_goMonth 168 = .ok (.getfield 135, 3) := by decide +kernel
theorem dX8_goMonth_171 : decode cX8_goMonth 171 = .ok (.iconst 1, 1) := by decide +kernel
theorem dX8_goMonth_172 : decode cX8_goMonth 172 = .ok (.iload 4, 2) := by decide +kernel
theorem dX8_goMonth_174 : decode cX8_goMonth 174 = .ok (.ishl, 1) := by decide +kernel
theorem dX8_goMonth_175 : decode cX8_goMonth 175 = .ok (.ior, 1) := by decide +kernel
theorem dX8_goMonth_176 : decode cX8_goMonth 176 = .ok (.putfield 135, 3) := by decide +kernel
theorem dX8_goMonth_179 : decode cX8_goMonth 179 = .ok (.iinc 4 1, 3) := by decide +kernel
theorem dX8_goMonth_182 : decode cX8_goMonth 182 = .ok (.goto (-179), 3) := by decide +kernel
theorem dX8_goMonth_185 : decode cX8_goMonth 185 = .ok (.iconst 0, 1) := by decide +kernel
theorem dX8_goMonth_186 : decode cX8_goMonth 186 = .ok (.istore 4, 2) := by decide +kernel
theorem dX8_goMonth_188 : decode cX8_goMonth 188 = .ok (.iload 4, 2) := by decide +kernel
theorem dX8_goMonth_190 : decode cX8_goMonth 190 = .ok (.aload_n 0, 1) := by decide +kernel
theorem dX8_goMonth_191 : decode cX8_goMonth 191 = .ok (.getfield 9, 3) := by decide +kernel
theorem dX8_goMonth_194 : decode cX8_goMonth 194 = .ok (.getfield 138, 3) := by decide +kernel
theorem dX8_goMonth_197 : decode cX8_goMonth 197 = .ok (.if_icmp .ge 18, 3) := by decide +kernel
theorem dX8_goMonth_200 : decode cX8_goMonth 200 = .ok (.aload_n 0, 1) := by decide +kernel
theorem dX8_goMonth_201 : decode cX8_goMonth 201 = .ok (.getfield 15, 3) := by decide +kernel
theorem dX8_goMonth_204 : decode cX8_goMonth 204 = .ok (.iload 4, 2) := by decide +kernel
theorem dX8_goMonth_206 : decode cX8_goMonth 206 = .ok (.invokevirtual 141, 3) := by decide +kernel
theorem dX8_goMonth_209 : decode cX8_goMonth 209 = .ok (.iinc 4 1, 3) := by decide +kernel
theorem dX8_goMonth_212 : decode cX8_goMonth 212 = .ok (.goto (-24), 3) := by decide +kernel
theorem dX8_goMonth_215 : decode cX8_goMonth 215 = .ok (.aload_n 0, 1) := by decide +kernel
theorem dX8_goMonth_216 : decode cX8_goMonth 216 = .ok (.getfield 15, 3) := by decide +kernel
theorem dX8_goMonth_219 : decode cX8_goMonth 219 = .ok (.dup, 1) := by decide +kernel
theorem dX8_goMonth_220 : decode cX8_goMonth 220 = .ok (.getfield 47, 3) := by decide +kernel
theorem dX8_goMonth_223 : decode cX8_goMonth 223 = .ok (.iconst 1, 1) := by decide +kernel
theorem dX8_goMonth_224 : decode cX8_goMonth 224 = .ok (.iadd, 1) := by decide +kernel
theorem dX8_goMonth_225 : decode cX8_goMonth 225 = .ok (.putfield 47, 3) := by decide +kernel
theorem dX8_goMonth_228 : decode cX8_goMonth 228 = .ok (.return_, 1) := by decide +kernel
theorem dX8_gone_0 : decode cX8_gone 0 = .ok (.iload_n 1, 1) := by decide +kernel
theorem dX8_gone_1 : decode cX8_gone 1 = .ok (.invokestatic 118, 3) := by decide +kernel
theorem dX8_gone_4 : decode cX8_gone 4 = .ok (.iload_n 2, 1) := by decide +kernel
theorem dX8_gone_5 : decode cX8_gone 5 = .ok (.if_icmp .le 18, 3) := by decide +kernel
theorem dX8_gone_8 : decode cX8_gone 8 = .ok (.bipush 9, 2) := by decide +kernel
theorem dX8_gone_10 : decode cX8_gone 10 = .ok (.iload_n 0, 1) := by decide +kernel
theorem dX8_gone_11 : decode cX8_gone 11 = .ok (.iload_n 1, 1) := by decide +kernel
theorem dX8_gone_12 : decode cX8_gone 12 = .ok (.iconst 0, 1) := by decide +kernel
theorem dX8_gone_13 : decode cX8_gone 13 = .ok (.invokestatic 84, 3) := by decide +kernel
theorem dX8_gone_16 : decode cX8_gone 16 = .ok (.iadd, 1) := by decide +kernel
theorem dX8_gone_17 : decode cX8_gone 17 = .ok (.invokestatic 145, 3) := by decide +kernel
theorem dX8_gone_20 : decode cX8_gone 20 = .ok (.goto 4, 3) := by decide +kernel
theorem dX8_gone_23 : decode cX8_gone 23 = .ok (.iload_n 0, 1) := by decide +kernel
theorem dX8_gone_24 : decode cX8_gone 24 = .ok (.ireturn, 1) := by decide +kernel
theorem dX8_seedsThatDrown_0 : decode cX8_seedsThatDrown 0 = .ok (.aload_n 0, 1) := by decide +kernel
theorem dX8_seedsThatDrown_1 : decode cX8_seedsThatDrown 1 = .ok (.iload_n 1, 1) := by decide +kernel
theorem dX8_seedsThatDrown_2 : decode cX8_seedsThatDrown 2 = .ok (.invokevirtual 148, 3) := by decide +kernel
theorem dX8_seedsThatDrown_5 : decode cX8_seedsThatDrown 5 = .ok (.istore_n 3, 1) := by decide +kernel
theorem dX8_seedsThatDrown_6 : decode cX8_seedsThatDrown 6 = .ok (.iconst 0, 1) := by decide +kernel
theorem dX8_seedsThatDrown_7 : decode cX8_seedsThatDrown 7 = .ok (.istore 4, 2) := by decide +kernel
theorem dX8_seedsThatDrown_9 : decode cX8_seedsThatDrown 9 = .ok (.iconst 0, 1) := by decide +kernel
theorem dX8_seedsThatDrown_10 : decode cX8_seedsThatDrown 10 = .ok (.istore 5, 2) := by decide +kernel
theorem dX8_seedsThatDrown_12 : decode cX8_seedsThatDrown 12 = .ok (.iload 5, 2) := by decide +kernel
theorem dX8_seedsThatDrown_14 : decode cX8_seedsThatDrown 14 = .ok (.iload_n 2, 1) := by decide +kernel
theorem dX8_seedsThatDrown_15 : decode cX8_seedsThatDrown 15 = .ok (.if_icmp .ge 47, 3) := by decide +kernel
theorem dX8_seedsThatDrown_18 : decode cX8_seedsThatDrown 18 = .ok (.aload_n 0, 1) := by decide +kernel
theorem dX8_seedsThatDrown_19 : decode cX8_seedsThatDrown 19 = .ok (.getfield 9, 3) := by decide +kernel
theorem dX8_seedsThatDrown_22 : decode cX8_seedsThatDrown 22 = .ok (.getfield 151, 3) := by decide +kernel
theorem dX8_seedsThatDrown_25 : decode cX8_seedsThatDrown 25 = .ok (.iload 5, 2) := by decide +kernel
theorem dX8_seedsThatDrown_27 : decode cX8_seedsThatDrown 27 = .ok (.iadd, 1) := by decide +kernel
theorem dX8_seedsThatDrown_28 : decode cX8_seedsThatDrown 28 = .ok (.bipush 16, 2) := by decide +kernel
theorem dX8_seedsThatDrown_30 : decode cX8_seedsThatDrown 30 = .ok (.aload_n 0, 1) := by decide +kernel
theorem dX8_seedsThatDrown_31 : decode cX8_seedsThatDrown 31 = .ok (.getfield 15, 3) := by decide +kernel
theorem dX8_seedsThatDrown_34 : decode cX8_seedsThatDrown 34 = .ok (.getfield 47, 3) := by decide +kernel
theorem dX8_seedsThatDrown_37 : decode cX8_seedsThatDrown 37 = .ok (.imul, 1) := by decide +kernel
theorem dX8_seedsThatDrown_38 : decode cX8_seedsThatDrown 38 = .ok (.iload_n 1, 1) := by decide +kernel
