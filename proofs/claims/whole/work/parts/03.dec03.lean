theorem dX9_give_113 : decode cX9_give 113 = .ok (.aload_n 0, 1) := by decide +kernel
theorem dX9_give_114 : decode cX9_give 114 = .ok (.getfield 39, 3) := by decide +kernel
theorem dX9_give_117 : decode cX9_give 117 = .ok (.aload_n 0, 1) := by decide +kernel
theorem dX9_give_118 : decode cX9_give 118 = .ok (.getfield 35, 3) := by decide +kernel
theorem dX9_give_121 : decode cX9_give 121 = .ok (.invokevirtual 98, 3) := by decide +kernel
theorem dX9_give_124 : decode cX9_give 124 = .ok (.aload_n 0, 1) := by decide +kernel
theorem dX9_give_125 : decode cX9_give 125 = .ok (.getfield 39, 3) := by decide +kernel
theorem dX9_give_128 : decode cX9_give 128 = .ok (.getfield 125, 3) := by decide +kernel
theorem dX9_give_131 : decode cX9_give 131 = .ok (.bipush 28, 2) := by decide +kernel
theorem dX9_give_133 : decode cX9_give 133 = .ok (.iload_n 1, 1) := by decide +kernel
theorem dX9_give_134 : decode cX9_give 134 = .ok (.iadd, 1) := by decide +kernel
theorem dX9_give_135 : decode cX9_give 135 = .ok (.iload 5, 2) := by decide +kernel
theorem dX9_give_137 : decode cX9_give 137 = .ok (.iastore, 1) := by decide +kernel
theorem dX9_give_138 : decode cX9_give 138 = .ok (.aload_n 0, 1) := by decide +kernel
theorem dX9_give_139 : decode cX9_give 139 = .ok (.getfield 51, 3) := by decide +kernel
theorem dX9_give_142 : decode cX9_give 142 = .ok (.invokevirtual 238, 3) := by decide +kernel
theorem dX9_give_145 : decode cX9_give 145 = .ok (.istore 6, 2) := by decide +kernel
theorem dX9_give_147 : decode cX9_give 147 = .ok (.iload 6, 2) := by decide +kernel
theorem dX9_give_149 : decode cX9_give 149 = .ok (.iload_n 2, 1) := by decide +kernel
theorem dX9_give_150 : decode cX9_give 150 = .ok (.if_icmp .le 10, 3) := by decide +kernel
theorem dX9_give_153 : decode cX9_give 153 = .ok (.iload 6, 2) := by decide +kernel
theorem dX9_give_155 : decode cX9_give 155 = .ok (.istore_n 2, 1) := by decide +kernel
theorem dX9_give_156 : decode cX9_give 156 = .ok (.iload 5, 2) := by decide +kernel
theorem dX9_give_158 : decode cX9_give 158 = .ok (.istore 4, 2) := by decide +kernel
theorem dX9_give_160 : decode cX9_give 160 = .ok (.iinc 5 1, 3) := by decide +kernel
theorem dX9_give_163 : decode cX9_give 163 = .ok (.goto (-92), 3) := by decide +kernel
theorem dX9_give_166 : decode cX9_give 166 = .ok (.iload 4, 2) := by decide +kernel
theorem dX9_give_168 : decode cX9_give 168 = .ok (.ireturn, 1) := by decide +kernel
theorem dX9_plait_0 : decode cX9_plait 0 = .ok (.aload_n 0, 1) := by decide +kernel
theorem dX9_plait_1 : decode cX9_plait 1 = .ok (.iload_n 1, 1) := by decide +kernel
theorem dX9_plait_2 : decode cX9_plait 2 = .ok (.invokevirtual 132, 3) := by decide +kernel
theorem dX9_plait_5 : decode cX9_plait 5 = .ok (.ifCond .eq 39, 3) := by decide +kernel
theorem dX9_plait_8 : decode cX9_plait 8 = .ok (.iload 4, 2) := by decide +kernel
theorem dX9_plait_10 : decode cX9_plait 10 = .ok (.iconst 0, 1) := by decide +kernel
theorem dX9_plait_11 : decode cX9_plait 11 = .ok (.iconst 1, 1) := by decide +kernel
theorem dX9_plait_12 : decode cX9_plait 12 = .ok (.invokestatic 224, 3) := by decide +kernel
theorem dX9_plait_15 : decode cX9_plait 15 = .ok (.ifCond .eq 29, 3) := by decide +kernel
theorem dX9_plait_18 : decode cX9_plait 18 = .ok (.iload_n 2, 1) := by decide +kernel
theorem dX9_plait_19 : decode cX9_plait 19 = .ok (.sipush (-999), 3) := by decide +kernel
theorem dX9_plait_22 : decode cX9_plait 22 = .ok (.sipush 999, 3) := by decide +kernel
theorem dX9_plait_25 : decode cX9_plait 25 = .ok (.invokestatic 224, 3) := by decide +kernel
theorem dX9_plait_28 : decode cX9_plait 28 = .ok (.ifCond .eq 16, 3) := by decide +kernel
theorem dX9_plait_31 : decode cX9_plait 31 = .ok (.iload_n 3, 1) := by decide +kernel
theorem dX9_plait_32 : decode cX9_plait 32 = .ok (.sipush (-999), 3) := by decide +kernel
theorem dX9_plait_35 : decode cX9_plait 35 = .ok (.sipush 999, 3) := by decide +kernel
theorem dX9_plait_38 : decode cX9_plait 38 = .ok (.invokestatic 224, 3) := by decide +kernel
theorem dX9_plait_41 : decode cX9_plait 41 = .ok (.ifCond .ne 5, 3) := by decide +kernel
theorem dX9_plait_44 : decode cX9_plait 44 = .ok (.iconst (-1), 1) := by decide +kernel
theorem dX9_plait_45 : decode cX9_plait 45 = .ok (.ireturn, 1) := by decide +kernel
theorem dX9_plait_46 : decode cX9_plait 46 = .ok (.aload_n 0, 1) := by decide +kernel
theorem dX9_plait_47 : decode cX9_plait 47 = .ok (.getfield 35, 3) := by decide +kernel
theorem dX9_plait_50 : decode cX9_plait 50 = .ok (.iload_n 1, 1) := by decide +kernel
theorem dX9_plait_51 : decode cX9_plait 51 = .ok (.invokevirtual 139, 3) := by decide +kernel
theorem dX9_plait_54 : decode cX9_plait 54 = .ok (.ifCond .eq 6, 3) := by decide +kernel
theorem dX9_plait_57 : decode cX9_plait 57 = .ok (.bipush (-2), 2) := by decide +kernel
theorem dX9_plait_59 : decode cX9_plait 59 = .ok (.ireturn, 1) := by decide +kernel
theorem dX9_plait_60 : decode cX9_plait 60 = .ok (.aload_n 0, 1) := by decide +kernel
theorem dX9_plait_61 : decode cX9_plait 61 = .ok (.getfield 68, 3) := by decide +kernel
theorem dX9_plait_64 : decode cX9_plait 64 = .ok (.aload_n 0, 1) := by decide +kernel
theorem dX9_plait_65 : decode cX9_plait 65 = .ok (.getfield 47, 3) := by decide +kernel
theorem dX9_plait_68 : decode cX9_plait 68 = .ok (.iload_n 1, 1) := by decide +kernel
theorem dX9_plait_69 : decode cX9_plait 69 = .ok (.invokevirtual 252, 3) := by decide +kernel
theorem dX9_plait_72 : decode cX9_plait 72 = .ok (.aload_n 0, 1) := by decide +kernel
theorem dX9_plait_73 : decode cX9_plait 73 = .ok (.getfield 68, 3) := by decide +kernel
theorem dX9_plait_76 : decode cX9_plait 76 = .ok (.iload_n 2, 1) := by decide +kernel
theorem dX9_plait_77 : decode cX9_plait 77 = .ok (.iload_n 3, 1) := by decide +kernel
theorem dX9_plait_78 : decode cX9_plait 78 = .ok (.iconst 0, 1) := by decide +kernel
theorem dX9_plait_79 : decode cX9_plait 79 = .ok (.invokevirtual 256, 3) := by decide +kernel
theorem dX9_plait_82 : decode cX9_plait 82 = .ok (.aload_n 0, 1) := by decide +kernel
theorem dX9_plait_83 : decode cX9_plait 83 = .ok (.getfield 68, 3) := by decide +kernel
theorem dX9_plait_86 : decode cX9_plait 86 = .ok (.getfield 259, 3) := by decide +kernel
theorem dX9_plait_89 : decode cX9_plait 89 = .ok (.ifCond .ne 6, 3) := by decide +kernel
theorem dX9_plait_92 : decode cX9_plait 92 = .ok (.bipush (-2), 2) := by decide +kernel
theorem dX9_plait_94 : decode cX9_plait 94 = .ok (.ireturn, 1) := by decide +kernel
theorem dX9_plait_95 : decode cX9_plait 95 = .ok (.iload 4, 2) := by decide +kernel
theorem dX9_plait_97 : decode cX9_plait 97 = .ok (.ifCond .ne 16, 3) := by decide +kernel
theorem dX9_plait_100 : decode cX9_plait 100 = .ok (.aload_n 0, 1) := by decide +kernel
theorem dX9_plait_101 : decode cX9_plait 101 = .ok (.getfield 68, 3) := by decide +kernel
theorem dX9_plait_104 : decode cX9_plait 104 = .ok (.getfield 262, 3) := by decide +kernel
theorem dX9_plait_107 : decode cX9_plait 107 = .ok (.invokestatic 201, 3) := by decide +kernel
theorem dX9_plait_110 : decode cX9_plait 110 = .ok (.goto 10, 3) := by decide +kernel
theorem dX9_plait_113 : decode cX9_plait 113 = .ok (.aload_n 0, 1) := by decide +kernel
theorem dX9_plait_114 : decode cX9_plait 114 = .ok (.getfield 68, 3) := by decide +kernel
theorem dX9_plait_117 : decode cX9_plait 117 = .ok (.getfield 262, 3) := by decide +kernel
theorem dX9_plait_120 : decode cX9_plait 120 = .ok (.ireturn, 1) := by decide +kernel
theorem dX9_nothing_0 : decode cX9_nothing 0 = .ok (.aload_n 0, 1) := by decide +kernel
theorem dX9_nothing_1 : decode cX9_nothing 1 = .ok (.iload_n 1, 1) := by decide +kernel
theorem dX9_nothing_2 : decode cX9_nothing 2 = .ok (.invokevirtual 132, 3) := by decide +kernel
theorem dX9_nothing_5 : decode cX9_nothing 5 = .ok (.ifCond .eq 12, 3) := by decide +kernel
theorem dX9_nothing_8 : decode cX9_nothing 8 = .ok (.iload_n 2, 1) := by decide +kernel
theorem dX9_nothing_9 : decode cX9_nothing 9 = .ok (.iconst 0, 1) := by decide +kernel
theorem dX9_nothing_10 : decode cX9_nothing 10 = .ok (.iconst 1, 1) := by decide +kernel
theorem dX9_nothing_11 : decode cX9_nothing 11 = .ok (.invokestatic 224, 3) := by decide +kernel
theorem dX9_nothing_14 : decode cX9_nothing 14 = .ok (.ifCond .ne 5, 3) := by decide +kernel
theorem dX9_nothing_17 : decode cX9_nothing 17 = .ok (.iconst (-1), 1) := by decide +kernel
theorem dX9_nothing_18 : decode cX9_nothing 18 = .ok (.ireturn, 1) := by decide +kernel
theorem dX9_nothing_19 : decode cX9_nothing 19 = .ok (.aload_n 0, 1) := by decide +kernel
theorem dX9_nothing_20 : decode cX9_nothing 20 = .ok (.getfield 35, 3) := by decide +kernel
theorem dX9_nothing_23 : decode cX9_nothing 23 = .ok (.iload_n 1, 1) := by decide +kernel
theorem dX9_nothing_24 : decode cX9_nothing 24 = .ok (.invokevirtual 139, 3) := by decide +kernel
theorem dX9_nothing_27 : decode cX9_nothing 27 = .ok (.ifCond .eq 14, 3) := by decide +kernel
theorem dX9_nothing_30 : decode cX9_nothing 30 = .ok (.iload_n 2, 1) := by decide +kernel
theorem dX9_nothing_31 : decode cX9_nothing 31 = .ok (.ifCond .ne 7, 3) := by decide +kernel
theorem dX9_nothing_34 : decode cX9_nothing 34 = .ok (.iconst 0, 1) := by decide +kernel
theorem dX9_nothing_35 : decode cX9_nothing 35 = .ok (.goto 5, 3) := by decide +kernel
theorem dX9_nothing_38 : decode cX9_nothing 38 = .ok (.bipush (-2), 2) := by decide +kernel
theorem dX9_nothing_40 : decode cX9_nothing 40 = .ok (.ireturn, 1) := by decide +kernel
theorem dX9_nothing_41 : decode cX9_nothing 41 = .ok (.aload_n 0, 1) := by decide +kernel
theorem dX9_nothing_42 : decode cX9_nothing 42 = .ok (.getfield 68, 3) := by decide +kernel
theorem dX9_nothing_45 : decode cX9_nothing 45 = .ok (.aload_n 0, 1) := by decide +kernel
theorem dX9_nothing_46 : decode cX9_nothing 46 = .ok (.getfield 47, 3) := by decide +kernel
theorem dX9_nothing_49 : decode cX9_nothing 49 = .ok (.iload_n 1, 1) := by decide +kernel
theorem dX9_nothing_50 : decode cX9_nothing 50 = .ok (.invokevirtual 252, 3) := by decide +kernel
theorem dX9_nothing_53 : decode cX9_nothing 53 = .ok (.aload_n 0, 1) := by decide +kernel
theorem dX9_nothing_54 : decode cX9_nothing 54 = .ok (.getfield 68, 3) := by decide +kernel
theorem dX9_nothing_57 : decode cX9_nothing 57 = .ok (.iconst 0, 1) := by decide +kernel
theorem dX9_nothing_58 : decode cX9_nothing 58 = .ok (.iconst 0, 1) := by decide +kernel
theorem dX9_nothing_59 : decode cX9_nothing 59 = .ok (.iconst 1, 1) := by decide +kernel
theorem dX9_nothing_60 : decode cX9_nothing 60 = .ok (.invokevirtual 256, 3) := by decide +kernel
theorem dX9_nothing_63 : decode cX9_nothing 63 = .ok (.iload_n 2, 1) := by decide +kernel
theorem dX9_nothing_64 : decode cX9_nothing 64 = .ok (.ifCond .ne 11, 3) := by decide +kernel
theorem dX9_nothing_67 : decode cX9_nothing 67 = .ok (.aload_n 0, 1) := by decide +kernel
theorem dX9_nothing_68 : decode cX9_nothing 68 = .ok (.getfield 68, 3) := by decide +kernel
theorem dX9_nothing_71 : decode cX9_nothing 71 = .ok (.getfield 259, 3) := by decide +kernel
theorem dX9_nothing_74 : decode cX9_nothing 74 = .ok (.ireturn, 1) := by decide +kernel
theorem dX9_nothing_75 : decode cX9_nothing 75 = .ok (.aload_n 0, 1) := by decide +kernel
theorem dX9_nothing_76 : decode cX9_nothing 76 = .ok (.getfield 68, 3) := by decide +kernel
theorem dX9_nothing_79 : decode cX9_nothing 79 = .ok (.getfield 259, 3) := by decide +kernel
theorem dX9_nothing_82 : decode cX9_nothing 82 = .ok (.ifCond .ne 8, 3) := by decide +kernel
theorem dX9_nothing_85 : decode cX9_nothing 85 = .ok (.bipush (-2), 2) := by decide +kernel
theorem dX9_nothing_87 : decode cX9_nothing 87 = .ok (.goto 10, 3) := by decide +kernel
theorem dX9_nothing_90 : decode cX9_nothing 90 = .ok (.aload_n 0, 1) := by decide +kernel
theorem dX9_nothing_91 : decode cX9_nothing 91 = .ok (.getfield 68, 3) := by decide +kernel
theorem dX9_nothing_94 : decode cX9_nothing 94 = .ok (.getfield 262, 3) := by decide +kernel
theorem dX9_nothing_97 : decode cX9_nothing 97 = .ok (.ireturn, 1) := by decide +kernel
theorem dX9_strongest_0 : decode cX9_strongest 0 = .ok (.aload_n 0, 1) := by decide +kernel
theorem dX9_strongest_1 : decode cX9_strongest 1 = .ok (.iload_n 1, 1) := by decide +kernel
theorem dX9_strongest_2 : decode cX9_strongest 2 = .ok (.invokevirtual 132, 3) := by decide +kernel
theorem dX9_strongest_5 : decode cX9_strongest 5 = .ok (.ifCond .eq 12, 3) := by decide +kernel
theorem dX9_strongest_8 : decode cX9_strongest 8 = .ok (.iload_n 2, 1) := by decide +kernel
theorem dX9_strongest_9 : decode cX9_strongest 9 = .ok (.iconst 0, 1) := by decide +kernel
theorem dX9_strongest_10 : decode cX9_strongest 10 = .ok (.iconst 1, 1) := by decide +kernel
theorem dX9_strongest_11 : decode cX9_strongest 11 = .ok (.invokestatic 224, 3) := by decide +kernel
theorem dX9_strongest_14 : decode cX9_strongest 14 = .ok (.ifCond .ne 5, 3) := by decide +kernel
theorem dX9_strongest_17 : decode cX9_strongest 17 = .ok (.iconst (-1), 1) := by decide +kernel
theorem dX9_strongest_18 : decode cX9_strongest 18 = .ok (.ireturn, 1) := by decide +kernel
theorem dX9_strongest_19 : decode cX9_strongest 19 = .ok (.bipush (-2), 2) := by decide +kernel
theorem dX9_strongest_21 : decode cX9_strongest 21 = .ok (.istore_n 3, 1) := by decide +kernel
theorem dX9_strongest_22 : decode cX9_strongest 22 = .ok (.bipush (-2), 2) := by decide +kernel
theorem dX9_strongest_24 : decode cX9_strongest 24 = .ok (.istore 4, 2) := by decide +kernel
theorem dX9_strongest_26 : decode cX9_strongest 26 = .ok (.iconst 0, 1) := by decide +kernel
theorem dX9_strongest_27 : decode cX9_strongest 27 = .ok (.istore 5, 2) := by decide +kernel
theorem dX9_strongest_29 : decode cX9_strongest 29 = .ok (.iload 5, 2) := by decide +kernel
theorem dX9_strongest_31 : decode cX9_strongest 31 = .ok (.aload_n 0, 1) := by decide +kernel
theorem dX9_strongest_32 : decode cX9_strongest 32 = .ok (.getfield 16, 3) := by decide +kernel
theorem dX9_strongest_35 : decode cX9_strongest 35 = .ok (.getfield 118, 3) := by decide +kernel
theorem dX9_strongest_38 : decode cX9_strongest 38 = .ok (.if_icmp .ge 72, 3) := by decide +kernel
theorem dX9_strongest_41 : decode cX9_strongest 41 = .ok (.aload_n 0, 1) := by decide +kernel
theorem dX9_strongest_42 : decode cX9_strongest 42 = .ok (.getfield 35, 3) := by decide +kernel
theorem dX9_strongest_45 : decode cX9_strongest 45 = .ok (.iload 5, 2) := by decide +kernel
theorem dX9_strongest_47 : decode cX9_strongest 47 = .ok (.iload_n 1, 1) := by decide +kernel
theorem dX9_strongest_48 : decode cX9_strongest 48 = .ok (.invokevirtual 265, 3) := by decide +kernel
theorem dX9_strongest_51 : decode cX9_strongest 51 = .ok (.ifCond .eq 53, 3) := by decide +kernel
theorem dX9_strongest_54 : decode cX9_strongest 54 = .ok (.aload_n 0, 1) := by decide +kernel
theorem dX9_strongest_55 : decode cX9_strongest 55 = .ok (.getfield 47, 3) := by decide +kernel
theorem dX9_strongest_58 : decode cX9_strongest 58 = .ok (.iload 5, 2) := by decide +kernel
theorem dX9_strongest_60 : decode cX9_strongest 60 = .ok (.iload_n 1, 1) := by decide +kernel
theorem dX9_strongest_61 : decode cX9_strongest 61 = .ok (.aload_n 0, 1) := by decide +kernel
theorem dX9_strongest_62 : decode cX9_strongest 62 = .ok (.getfield 35, 3) := by decide +kernel
theorem dX9_strongest_65 : decode cX9_strongest 65 = .ok (.getfield 125, 3) := by decide +kernel
theorem dX9_strongest_68 : decode cX9_strongest 68 = .ok (.bipush 16, 2) := by decide +kernel
theorem dX9_strongest_70 : decode cX9_strongest 70 = .ok (.iload_n 1, 1) := by decide +kernel
theorem dX9_strongest_71 : decode cX9_strongest 71 = .ok (.iadd, 1) := by decide +kernel
theorem dX9_strongest_72 : decode cX9_strongest 72 = .ok (.iaload, 1) := by decide +kernel
theorem dX9_strongest_73 : decode cX9_strongest 73 = .ok (.aload_n 0, 1) := by decide +kernel
theorem dX9_strongest_74 : decode cX9_strongest 74 = .ok (.getfield 35, 3) := by decide +kernel
theorem dX9_strongest_77 : decode cX9_strongest 77 = .ok (.getfield 125, 3) := by decide +kernel
theorem dX9_strongest_80 : decode cX9_strongest 80 = .ok (.bipush 22, 2) := by decide +kernel
theorem dX9_strongest_82 : decode cX9_strongest 82 = .ok (.iload_n 1, 1) := by decide +kernel
theorem dX9_strongest_83 : decode cX9_strongest 83 = .ok (.iadd, 1) := by decide +kernel
theorem dX9_strongest_84 : decode cX9_strongest 84 = .ok (.iaload, 1) := by decide +kernel
theorem dX9_strongest_85 : decode cX9_strongest 85 = .ok (.invokevirtual 175, 3) := by decide +kernel
theorem dX9_strongest_88 : decode cX9_strongest 88 = .ok (.istore 6, 2) := by decide +kernel
theorem dX9_strongest_90 : decode cX9_strongest 90 = .ok (.iload 6, 2) := by decide +kernel
theorem dX9_strongest_92 : decode cX9_strongest 92 = .ok (.iload 4, 2) := by decide +kernel
theorem dX9_strongest_94 : decode cX9_strongest 94 = .ok (.if_icmp .le 10, 3) := by decide +kernel
theorem dX9_strongest_97 : decode cX9_strongest 97 = .ok (.iload 6, 2) := by decide +kernel
theorem dX9_strongest_99 : decode cX9_strongest 99 = .ok (.istore 4, 2) := by decide +kernel
theorem dX9_strongest_101 : decode cX9_strongest 101 = .ok (.iload 5, 2) := by decide +kernel
theorem dX9_strongest_103 : decode cX9_strongest 103 = .ok (.istore_n 3, 1) := by decide +kernel
theorem dX9_strongest_104 : decode cX9_strongest 104 = .ok (.iinc 5 1, 3) := by decide +kernel
theorem dX9_strongest_107 : decode cX9_strongest 107 = .ok (.goto (-78), 3) := by decide +kernel
theorem dX9_strongest_110 : decode cX9_strongest 110 = .ok (.iload_n 2, 1) := by decide +kernel
theorem dX9_strongest_111 : decode cX9_strongest 111 = .ok (.ifCond .ne 7, 3) := by decide +kernel
theorem dX9_strongest_114 : decode cX9_strongest 114 = .ok (.iload_n 3, 1) := by decide +kernel
theorem dX9_strongest_115 : decode cX9_strongest 115 = .ok (.goto 5, 3) := by decide +kernel
theorem dX9_strongest_118 : decode cX9_strongest 118 = .ok (.iload 4, 2) := by decide +kernel
theorem dX9_strongest_120 : decode cX9_strongest 120 = .ok (.ireturn, 1) := by decide +kernel
theorem dX9_even_0 : decode cX9_even 0 = .ok (.aload_n 0, 1) := by decide +kernel
theorem dX9_even_1 : decode cX9_even 1 = .ok (.iload_n 1, 1) := by decide +kernel
theorem dX9_even_2 : decode cX9_even 2 = .ok (.invokevirtual 132, 3) := by decide +kernel
theorem dX9_even_5 : decode cX9_even 5 = .ok (.ifCond .ne 5, 3) := by decide +kernel
theorem dX9_even_8 : decode cX9_even 8 = .ok (.iconst (-1), 1) := by decide +kernel
theorem dX9_even_9 : decode cX9_even 9 = .ok (.ireturn, 1) := by decide +kernel
theorem dX9_even_10 : decode cX9_even 10 = .ok (.aload_n 0, 1) := by decide +kernel
theorem dX9_even_11 : decode cX9_even 11 = .ok (.getfield 68, 3) := by decide +kernel
theorem dX9_even_14 : decode cX9_even 14 = .ok (.aload_n 0, 1) := by decide +kernel
theorem dX9_even_15 : decode cX9_even 15 = .ok (.getfield 47, 3) := by decide +kernel
theorem dX9_even_18 : decode cX9_even 18 = .ok (.iload_n 1, 1) := by decide +kernel
theorem dX9_even_19 : decode cX9_even 19 = .ok (.invokevirtual 252, 3) := by decide +kernel
theorem dX9_even_22 : decode cX9_even 22 = .ok (.iconst 0, 1) := by decide +kernel
theorem dX9_even_23 : decode cX9_even 23 = .ok (.istore_n 2, 1) := by decide +kernel
theorem dX9_even_24 : decode cX9_even 24 = .ok (.iconst 0, 1) := by decide +kernel
theorem dX9_even_25 : decode cX9_even 25 = .ok (.istore_n 3, 1) := by decide +kernel
theorem dX9_even_26 : decode cX9_even 26 = .ok (.iload_n 3, 1) := by decide +kernel
theorem dX9_even_27 : decode cX9_even 27 = .ok (.aload_n 0, 1) := by decide +kernel
theorem dX9_even_28 : decode cX9_even 28 = .ok (.getfield 16, 3) := by decide +kernel
theorem dX9_even_31 : decode cX9_even 31 = .ok (.getfield 118, 3) := by decide +kernel
theorem dX9_even_34 : decode cX9_even 34 = .ok (.if_icmp .ge 73, 3) := by decide +kernel
theorem dX9_even_37 : decode cX9_even 37 = .ok (.iload_n 3, 1) := by decide +kernel
theorem dX9_even_38 : decode cX9_even 38 = .ok (.iconst 1, 1) := by decide +kernel
theorem dX9_even_39 : decode cX9_even 39 = .ok (.iadd, 1) := by decide +kernel
theorem dX9_even_40 : decode cX9_even 40 = .ok (.istore 4, 2) := by decide +kernel
theorem dX9_even_42 : decode cX9_even 42 = .ok (.iload 4, 2) := by decide +kernel
theorem dX9_even_44 : decode cX9_even 44 = .ok (.aload_n 0, 1) := by decide +kernel
theorem dX9_even_45 : decode cX9_even 45 = .ok (.getfield 16, 3) := by decide +kernel
theorem dX9_even_48 : decode cX9_even 48 = .ok (.getfield 118, 3) := by decide +kernel
theorem dX9_even_51 : decode cX9_even 51 = .ok (.if_icmp .ge 50, 3) := by decide +kernel
theorem dX9_even_54 : decode cX9_even 54 = .ok (.aload_n 0, 1) := by decide +kernel
theorem dX9_even_55 : decode cX9_even 55 = .ok (.getfield 35, 3) := by decide +kernel
theorem dX9_even_58 : decode cX9_even 58 = .ok (.iload_n 3, 1) := by decide +kernel
theorem dX9_even_59 : decode cX9_even 59 = .ok (.iload_n 1, 1) := by decide +kernel
theorem dX9_even_60 : decode cX9_even 60 = .ok (.invokevirtual 265, 3) := by decide +kernel
theorem dX9_even_63 : decode cX9_even 63 = .ok (.ifCond .eq 32, 3) := by decide +kernel
theorem dX9_even_66 : decode cX9_even 66 = .ok (.aload_n 0, 1) := by decide +kernel
theorem dX9_even_67 : decode cX9_even 67 = .ok (.getfield 35, 3) := by decide +kernel
theorem dX9_even_70 : decode cX9_even 70 = .ok (.iload 4, 2) := by decide +kernel
theorem dX9_even_72 : decode cX9_even 72 = .ok (.iload_n 1, 1) := by decide +kernel
theorem dX9_even_73 : decode cX9_even 73 = .ok (.invokevirtual 265, 3) := by decide +kernel
theorem dX9_even_76 : decode cX9_even 76 = .ok (.ifCond .eq 19, 3) := by decide +kernel
theorem dX9_even_79 : decode cX9_even 79 = .ok (.aload_n 0, 1) := by decide +kernel
theorem dX9_even_80 : decode cX9_even 80 = .ok (.getfield 68, 3) := by decide +kernel
theorem dX9_even_83 : decode cX9_even 83 = .ok (.iload_n 3, 1) := by decide +kernel
theorem dX9_even_84 : decode cX9_even 84 = .ok (.iload 4, 2) := by decide +kernel
theorem dX9_even_86 : decode cX9_even 86 = .ok (.invokevirtual 268, 3) := by decide +kernel
theorem dX9_even_89 : decode cX9_even 89 = .ok (.ifCond .eq 6, 3) := by decide +kernel
theorem dX9_even_92 : decode cX9_even 92 = .ok (.iinc 2 1, 3) := by decide +kernel
theorem dX9_even_95 : decode cX9_even 95 = .ok (.iinc 4 1, 3) := by decide +kernel
theorem dX9_even_98 : decode cX9_even 98 = .ok (.goto (-56), 3) := by decide +kernel
theorem dX9_even_101 : decode cX9_even 101 = .ok (.iinc 3 1, 3) := by decide +kernel
theorem dX9_even_104 : decode cX9_even 104 = .ok (.goto (-78), 3) := by decide +kernel
theorem dX9_even_107 : decode cX9_even 107 = .ok (.iload_n 2, 1) := by decide +kernel
theorem dX9_even_108 : decode cX9_even 108 = .ok (.ireturn, 1) := by decide +kernel
theorem dX9_safe_0 : decode cX9_safe 0 = .ok (.aload_n 0, 1) := by decide +kernel
theorem dX9_safe_1 : decode cX9_safe 1 = .ok (.iload_n 1, 1) := by decide +kernel
theorem dX9_safe_2 : decode cX9_safe 2 = .ok (.invokevirtual 132, 3) := by decide +kernel
theorem dX9_safe_5 : decode cX9_safe 5 = .ok (.ifCond .eq 12, 3) := by decide +kernel
theorem dX9_safe_8 : decode cX9_safe 8 = .ok (.iload_n 2, 1) := by decide +kernel
theorem dX9_safe_9 : decode cX9_safe 9 = .ok (.iconst 0, 1) := by decide +kernel
theorem dX9_safe_10 : decode cX9_safe 10 = .ok (.iconst 1, 1) := by decide +kernel
theorem dX9_safe_11 : decode cX9_safe 11 = .ok (.invokestatic 224, 3) := by decide +kernel
theorem dX9_safe_14 : decode cX9_safe 14 = .ok (.ifCond .ne 5, 3) := by decide +kernel
theorem dX9_safe_17 : decode cX9_safe 17 = .ok (.iconst (-1), 1) := by decide +kernel
theorem dX9_safe_18 : decode cX9_safe 18 = .ok (.ireturn, 1) := by decide +kernel
theorem dX9_safe_19 : decode cX9_safe 19 = .ok (.aload_n 0, 1) := by decide +kernel
theorem dX9_safe_20 : decode cX9_safe 20 = .ok (.getfield 35, 3) := by decide +kernel
theorem dX9_safe_23 : decode cX9_safe 23 = .ok (.iload_n 1, 1) := by decide +kernel
theorem dX9_safe_24 : decode cX9_safe 24 = .ok (.invokevirtual 139, 3) := by decide +kernel
theorem dX9_safe_27 : decode cX9_safe 27 = .ok (.ifCond .eq 6, 3) := by decide +kernel
theorem dX9_safe_30 : decode cX9_safe 30 = .ok (.bipush (-3), 2) := by decide +kernel
theorem dX9_safe_32 : decode cX9_safe 32 = .ok (.ireturn, 1) := by decide +kernel
theorem dX9_safe_33 : decode cX9_safe 33 = .ok (.iconst 0, 1) := by decide +kernel
theorem dX9_safe_34 : decode cX9_safe 34 = .ok (.istore_n 3, 1) := by decide +kernel
theorem dX9_safe_35 : decode cX9_safe 35 = .ok (.bipush (-2), 2) := by decide +kernel
theorem dX9_safe_37 : decode cX9_safe 37 = .ok (.istore 4, 2) := by decide +kernel
theorem dX9_safe_39 : decode cX9_safe 39 = .ok (.bipush 10, 2) := by decide +kernel
theorem dX9_safe_41 : decode cX9_safe 41 = .ok (.istore 5, 2) := by decide +kernel
theorem dX9_safe_43 : decode cX9_safe 43 = .ok (.iconst 0, 1) := by decide +kernel
theorem dX9_safe_44 : decode cX9_safe 44 = .ok (.istore 6, 2) := by decide +kernel
theorem dX9_safe_46 : decode cX9_safe 46 = .ok (.iload 6, 2) := by decide +kernel
theorem dX9_safe_48 : decode cX9_safe 48 = .ok (.bipush 10, 2) := by decide +kernel
theorem dX9_safe_50 : decode cX9_safe 50 = .ok (.aload_n 0, 1) := by decide +kernel
theorem dX9_safe_51 : decode cX9_safe 51 = .ok (.getfield 16, 3) := by decide +kernel
theorem dX9_safe_54 : decode cX9_safe 54 = .ok (.getfield 271, 3) := by decide +kernel
theorem dX9_safe_57 : decode cX9_safe 57 = .ok (.iconst 1, 1) := by decide +kernel
theorem dX9_safe_58 : decode cX9_safe 58 = .ok (.iadd, 1) := by decide +kernel
theorem dX9_safe_59 : decode cX9_safe 59 = .ok (.imul, 1) := by decide +kernel
theorem dX9_safe_60 : decode cX9_safe 60 = .ok (.if_icmp .ge 89, 3) := by decide +kernel
theorem dX9_safe_63 : decode cX9_safe 63 = .ok (.iload 6, 2) := by decide +kernel
theorem dX9_safe_65 : decode cX9_safe 65 = .ok (.bipush 10, 2) := by decide +kernel
theorem dX9_safe_67 : decode cX9_safe 67 = .ok (.irem, 1) := by decide +kernel
theorem dX9_safe_68 : decode cX9_safe 68 = .ok (.istore 7, 2) := by decide +kernel
theorem dX9_safe_70 : decode cX9_safe 70 = .ok (.iload 6, 2) := by decide +kernel
theorem dX9_safe_72 : decode cX9_safe 72 = .ok (.bipush 10, 2) := by decide +kernel
theorem dX9_safe_74 : decode cX9_safe 74 = .ok (.idiv, 1) := by decide +kernel
theorem dX9_safe_75 : decode cX9_safe 75 = .ok (.istore 8, 2) := by decide +kernel
theorem dX9_safe_77 : decode cX9_safe 77 = .ok (.aload_n 0, 1) := by decide +kernel
theorem dX9_safe_78 : decode cX9_safe 78 = .ok (.getfield 47, 3) := by decide +kernel
theorem dX9_safe_81 : decode cX9_safe 81 = .ok (.iload_n 1, 1) := by decide +kernel
theorem dX9_safe_82 : decode cX9_safe 82 = .ok (.iload 7, 2) := by decide +kernel
theorem dX9_safe_84 : decode cX9_safe 84 = .ok (.iload 8, 2) := by decide +kernel
theorem dX9_safe_86 : decode cX9_safe 86 = .ok (.invokevirtual 213, 3) := by decide +kernel
theorem dX9_safe_89 : decode cX9_safe 89 = .ok (.ifCond .ne 54, 3) := by decide +kernel
theorem dX9_safe_92 : decode cX9_safe 92 = .ok (.iinc 3 1, 3) := by decide +kernel
theorem dX9_safe_95 : decode cX9_safe 95 = .ok (.iload 7, 2) := by decide +kernel
theorem dX9_safe_97 : decode cX9_safe 97 = .ok (.iload 8, 2) := by decide +kernel
theorem dX9_safe_99 : decode cX9_safe 99 = .ok (.aload_n 0, 1) := by decide +kernel
theorem dX9_safe_100 : decode cX9_safe 100 = .ok (.getfield 35, 3) := by decide +kernel
theorem dX9_safe_103 : decode cX9_safe 103 = .ok (.getfield 125, 3) := by decide +kernel
theorem dX9_safe_106 : decode cX9_safe 106 = .ok (.bipush 16, 2) := by decide +kernel
theorem dX9_safe_108 : decode cX9_safe 108 = .ok (.iload_n 1, 1) := by decide +kernel
theorem dX9_safe_109 : decode cX9_safe 109 = .ok (.iadd, 1) := by decide +kernel
theorem dX9_safe_110 : decode cX9_safe 110 = .ok (.iaload, 1) := by decide +kernel
theorem dX9_safe_111 : decode cX9_safe 111 = .ok (.aload_n 0, 1) := by decide +kernel
theorem dX9_safe_112 : decode cX9_safe 112 = .ok (.getfield 35, 3) := by decide +kernel
theorem dX9_safe_115 : decode cX9_safe 115 = .ok (.getfield 125, 3) := by decide +kernel
theorem dX9_safe_118 : decode cX9_safe 118 = .ok (.bipush 22, 2) := by decide +kernel
theorem dX9_safe_120 : decode cX9_safe 120 = .ok (.iload_n 1, 1) := by decide +kernel
theorem dX9_safe_121 : decode cX9_safe 121 = .ok (.iadd, 1) := by decide +kernel
theorem dX9_safe_122 : decode cX9_safe 122 = .ok (.iaload, 1) := by decide +kernel
theorem dX9_safe_123 : decode cX9_safe 123 = .ok (.invokestatic 274, 3) := by decide +kernel
theorem dX9_safe_126 : decode cX9_safe 126 = .ok (.istore 9, 2) := by decide +kernel
theorem dX9_safe_128 : decode cX9_safe 128 = .ok (.iload 9, 2) := by decide +kernel
theorem dX9_safe_130 : decode cX9_safe 130 = .ok (.iload 5, 2) := by decide +kernel
theorem dX9_safe_132 : decode cX9_safe 132 = .ok (.if_icmp .ge 11, 3) := by decide +kernel
theorem dX9_safe_135 : decode cX9_safe 135 = .ok (.iload 9, 2) := by decide +kernel
theorem dX9_safe_137 : decode cX9_safe 137 = .ok (.istore 5, 2) := by decide +kernel
theorem dX9_safe_139 : decode cX9_safe 139 = .ok (.iload 6, 2) := by decide +kernel
theorem dX9_safe_141 : decode cX9_safe 141 = .ok (.istore 4, 2) := by decide +kernel
theorem dX9_safe_143 : decode cX9_safe 143 = .ok (.iinc 6 1, 3) := by decide +kernel
theorem dX9_safe_146 : decode cX9_safe 146 = .ok (.goto (-100), 3) := by decide +kernel
theorem dX9_safe_149 : decode cX9_safe 149 = .ok (.iload_n 2, 1) := by decide +kernel
theorem dX9_safe_150 : decode cX9_safe 150 = .ok (.ifCond .ne 7, 3) := by decide +kernel
theorem dX9_safe_153 : decode cX9_safe 153 = .ok (.iload_n 3, 1) := by decide +kernel
theorem dX9_safe_154 : decode cX9_safe 154 = .ok (.goto 5, 3) := by decide +kernel
theorem dX9_safe_157 : decode cX9_safe 157 = .ok (.iload 4, 2) := by decide +kernel
theorem dX9_safe_159 : decode cX9_safe 159 = .ok (.ireturn, 1) := by decide +kernel
theorem dX9_worth_0 : decode cX9_worth 0 = .ok (.aload_n 0, 1) := by decide +kernel
theorem dX9_worth_1 : decode cX9_worth 1 = .ok (.iload_n 1, 1) := by decide +kernel
theorem dX9_worth_2 : decode cX9_worth 2 = .ok (.invokevirtual 132, 3) := by decide +kernel
theorem dX9_worth_5 : decode cX9_worth 5 = .ok (.ifCond .ne 5, 3) := by decide +kernel
theorem dX9_worth_8 : decode cX9_worth 8 = .ok (.iconst (-1), 1) := by decide +kernel
theorem dX9_worth_9 : decode cX9_worth 9 = .ok (.ireturn, 1) := by decide +kernel
theorem dX9_worth_10 : decode cX9_worth 10 = .ok (.iconst 0, 1) := by decide +kernel
theorem dX9_worth_11 : decode cX9_worth 11 = .ok (.istore_n 2, 1) := by decide +kernel
theorem dX9_worth_12 : decode cX9_worth 12 = .ok (.iconst 0, 1) := by decide +kernel
theorem dX9_worth_13 : decode cX9_worth 13 = .ok (.istore_n 3, 1) := by decide +kernel
theorem dX9_worth_14 : decode cX9_worth 14 = .ok (.iload_n 3, 1) := by decide +kernel
theorem dX9_worth_15 : decode cX9_worth 15 = .ok (.aload_n 0, 1) := by decide +kernel
theorem dX9_worth_16 : decode cX9_worth 16 = .ok (.getfield 16, 3) := by decide +kernel
theorem dX9_worth_19 : decode cX9_worth 19 = .ok (.getfield 118, 3) := by decide +kernel
theorem dX9_worth_22 : decode cX9_worth 22 = .ok (.if_icmp .ge 32, 3) := by decide +kernel
theorem dX9_worth_25 : decode cX9_worth 25 = .ok (.aload_n 0, 1) := by decide +kernel
theorem dX9_worth_26 : decode cX9_worth 26 = .ok (.getfield 35, 3) := by decide +kernel
theorem dX9_worth_29 : decode cX9_worth 29 = .ok (.iload_n 3, 1) := by decide +kernel
theorem dX9_worth_30 : decode cX9_worth 30 = .ok (.iload_n 1, 1) := by decide +kernel
theorem dX9_worth_31 : decode cX9_worth 31 = .ok (.invokevirtual 265, 3) := by decide +kernel
theorem dX9_worth_34 : decode cX9_worth 34 = .ok (.ifCond .eq 14, 3) := by decide +kernel
theorem dX9_worth_37 : decode cX9_worth 37 = .ok (.iload_n 2, 1) := by decide +kernel
theorem dX9_worth_38 : decode cX9_worth 38 = .ok (.aload_n 0, 1) := by decide +kernel
theorem dX9_worth_39 : decode cX9_worth 39 = .ok (.getfield 47, 3) := by decide +kernel
theorem dX9_worth_42 : decode cX9_worth 42 = .ok (.iload_n 3, 1) := by decide +kernel
theorem dX9_worth_43 : decode cX9_worth 43 = .ok (.invokevirtual 179, 3) := by decide +kernel
theorem dX9_worth_46 : decode cX9_worth 46 = .ok (.iadd, 1) := by decide +kernel
theorem dX9_worth_47 : decode cX9_worth 47 = .ok (.istore_n 2, 1) := by decide +kernel
theorem dX9_worth_48 : decode cX9_worth 48 = .ok (.iinc 3 1, 3) := by decide +kernel
theorem dX9_worth_51 : decode cX9_worth 51 = .ok (.goto (-37), 3) := by decide +kernel
theorem dX9_worth_54 : decode cX9_worth 54 = .ok (.iload_n 2, 1) := by decide +kernel
theorem dX9_worth_55 : decode cX9_worth 55 = .ok (.ireturn, 1) := by decide +kernel
theorem dX9_tell_0 : decode cX9_tell 0 = .ok (.iload_n 1, 1) := by decide +kernel
theorem dX9_tell_1 : decode cX9_tell 1 = .ok (.iconst 0, 1) := by decide +kernel
theorem dX9_tell_2 : decode cX9_tell 2 = .ok (.bipush 9, 2) := by decide +kernel
theorem dX9_tell_4 : decode cX9_tell 4 = .ok (.invokestatic 224, 3) := by decide +kernel
theorem dX9_tell_7 : decode cX9_tell 7 = .ok (.ifCond .eq 32, 3) := by decide +kernel
theorem dX9_tell_10 : decode cX9_tell 10 = .ok (.iload_n 2, 1) := by decide +kernel
theorem dX9_tell_11 : decode cX9_tell 11 = .ok (.iconst 0, 1) := by decide +kernel
theorem dX9_tell_12 : decode cX9_tell 12 = .ok (.bipush 9, 2) := by decide +kernel
theorem dX9_tell_14 : decode cX9_tell 14 = .ok (.invokestatic 224, 3) := by decide +kernel
theorem dX9_tell_17 : decode cX9_tell 17 = .ok (.ifCond .eq 22, 3) := by decide +kernel
theorem dX9_tell_20 : decode cX9_tell 20 = .ok (.iload_n 3, 1) := by decide +kernel
theorem dX9_tell_21 : decode cX9_tell 21 = .ok (.iconst (-1), 1) := by decide +kernel
theorem dX9_tell_22 : decode cX9_tell 22 = .ok (.iconst 1, 1) := by decide +kernel
theorem dX9_tell_23 : decode cX9_tell 23 = .ok (.invokestatic 224, 3) := by decide +kernel
theorem dX9_tell_26 : decode cX9_tell 26 = .ok (.ifCond .eq 13, 3) := by decide +kernel
theorem dX9_tell_29 : decode cX9_tell 29 = .ok (.iload 4, 2) := by decide +kernel
theorem dX9_tell_31 : decode cX9_tell 31 = .ok (.iconst (-1), 1) := by decide +kernel
theorem dX9_tell_32 : decode cX9_tell 32 = .ok (.iconst 1, 1) := by decide +kernel
theorem dX9_tell_33 : decode cX9_tell 33 = .ok (.invokestatic 224, 3) := by decide +kernel
theorem dX9_tell_36 : decode cX9_tell 36 = .ok (.ifCond .ne 5, 3) := by decide +kernel
theorem dX9_tell_39 : decode cX9_tell 39 = .ok (.iconst (-1), 1) := by decide +kernel
theorem dX9_tell_40 : decode cX9_tell 40 = .ok (.ireturn, 1) := by decide +kernel
theorem dX9_tell_41 : decode cX9_tell 41 = .ok (.aload_n 0, 1) := by decide +kernel
theorem dX9_tell_42 : decode cX9_tell 42 = .ok (.getfield 75, 3) := by decide +kernel
theorem dX9_tell_45 : decode cX9_tell 45 = .ok (.iload_n 1, 1) := by decide +kernel
theorem dX9_tell_46 : decode cX9_tell 46 = .ok (.iload_n 2, 1) := by decide +kernel
theorem dX9_tell_47 : decode cX9_tell 47 = .ok (.iload_n 3, 1) := by decide +kernel
theorem dX9_tell_48 : decode cX9_tell 48 = .ok (.iload 4, 2) := by decide +kernel
theorem dX9_tell_50 : decode cX9_tell 50 = .ok (.invokevirtual 277, 3) := by decide +kernel
theorem dX9_tell_53 : decode cX9_tell 53 = .ok (.ireturn, 1) := by decide +kernel
theorem dX9_forget_0 : decode cX9_forget 0 = .ok (.aload_n 0, 1) := by decide +kernel
theorem dX9_forget_1 : decode cX9_forget 1 = .ok (.getfield 75, 3) := by decide +kernel
theorem dX9_forget_4 : decode cX9_forget 4 = .ok (.getfield 200, 3) := by decide +kernel
theorem dX9_forget_7 : decode cX9_forget 7 = .ok (.istore_n 1, 1) := by decide +kernel
theorem dX9_forget_8 : decode cX9_forget 8 = .ok (.aload_n 0, 1) := by decide +kernel
theorem dX9_forget_9 : decode cX9_forget 9 = .ok (.getfield 75, 3) := by decide +kernel
theorem dX9_forget_12 : decode cX9_forget 12 = .ok (.invokevirtual 108, 3) := by decide +kernel
theorem dX9_forget_15 : decode cX9_forget 15 = .ok (.iload_n 1, 1) := by decide +kernel
theorem dX9_forget_16 : decode cX9_forget 16 = .ok (.ireturn, 1) := by decide +kernel
theorem dX9_where_0 : decode cX9_where 0 = .ok (.iload_n 1, 1) := by decide +kernel
theorem dX9_where_1 : decode cX9_where 1 = .ok (.iconst 0, 1) := by decide +kernel
theorem dX9_where_2 : decode cX9_where 2 = .ok (.aload_n 0, 1) := by decide +kernel
theorem dX9_where_3 : decode cX9_where 3 = .ok (.getfield 75, 3) := by decide +kernel
theorem dX9_where_6 : decode cX9_where 6 = .ok (.getfield 200, 3) := by decide +kernel
theorem dX9_where_9 : decode cX9_where 9 = .ok (.invokestatic 224, 3) := by decide +kernel
theorem dX9_where_12 : decode cX9_where 12 = .ok (.ifCond .ne 5, 3) := by decide +kernel
theorem dX9_where_15 : decode cX9_where 15 = .ok (.iconst (-1), 1) := by decide +kernel
theorem dX9_where_16 : decode cX9_where 16 = .ok (.ireturn, 1) := by decide +kernel
theorem dX9_where_17 : decode cX9_where 17 = .ok (.aload_n 0, 1) := by decide +kernel
theorem dX9_where_18 : decode cX9_where 18 = .ok (.getfield 75, 3) := by decide +kernel
theorem dX9_where_21 : decode cX9_where 21 = .ok (.iload_n 1, 1) := by decide +kernel
theorem dX9_where_22 : decode cX9_where 22 = .ok (.invokevirtual 280, 3) := by decide +kernel
theorem dX9_where_25 : decode cX9_where 25 = .ok (.aload_n 0, 1) := by decide +kernel
theorem dX9_where_26 : decode cX9_where 26 = .ok (.getfield 75, 3) := by decide +kernel
theorem dX9_where_29 : decode cX9_where 29 = .ok (.getfield 283, 3) := by decide +kernel
theorem dX9_where_32 : decode cX9_where 32 = .ok (.ireturn, 1) := by decide +kernel
theorem dX9_surest_0 : decode cX9_surest 0 = .ok (.iload_n 1, 1) := by decide +kernel
theorem dX9_surest_1 : decode cX9_surest 1 = .ok (.iconst 0, 1) := by decide +kernel
theorem dX9_surest_2 : decode cX9_surest 2 = .ok (.aload_n 0, 1) := by decide +kernel
theorem dX9_surest_3 : decode cX9_surest 3 = .ok (.getfield 75, 3) := by decide +kernel
theorem dX9_surest_6 : decode cX9_surest 6 = .ok (.getfield 200, 3) := by decide +kernel
theorem dX9_surest_9 : decode cX9_surest 9 = .ok (.invokestatic 224, 3) := by decide +kernel
theorem dX9_surest_12 : decode cX9_surest 12 = .ok (.ifCond .ne 5, 3) := by decide +kernel
theorem dX9_surest_15 : decode cX9_surest 15 = .ok (.iconst (-1), 1) := by decide +kernel
theorem dX9_surest_16 : decode cX9_surest 16 = .ok (.ireturn, 1) := by decide +kernel
theorem dX9_surest_17 : decode cX9_surest 17 = .ok (.aload_n 0, 1) := by decide +kernel
theorem dX9_surest_18 : decode cX9_surest 18 = .ok (.getfield 75, 3) := by decide +kernel
theorem dX9_surest_21 : decode cX9_surest 21 = .ok (.iload_n 1, 1) := by decide +kernel
theorem dX9_surest_22 : decode cX9_surest 22 = .ok (.invokevirtual 280, 3) := by decide +kernel
theorem dX9_surest_25 : decode cX9_surest 25 = .ok (.aload_n 0, 1) := by decide +kernel
theorem dX9_surest_26 : decode cX9_surest 26 = .ok (.getfield 75, 3) := by decide +kernel
theorem dX9_surest_29 : decode cX9_surest 29 = .ok (.invokevirtual 286, 3) := by decide +kernel
theorem dX9_surest_32 : decode cX9_surest 32 = .ok (.ireturn, 1) := by decide +kernel
theorem dX9_holdNext_0 : decode cX9_holdNext 0 = .ok (.iload_n 1, 1) := by decide +kernel
theorem dX9_holdNext_1 : decode cX9_holdNext 1 = .ok (.iconst 0, 1) := by decide +kernel
theorem dX9_holdNext_2 : decode cX9_holdNext 2 = .ok (.aload_n 0, 1) := by decide +kernel
theorem dX9_holdNext_3 : decode cX9_holdNext 3 = .ok (.getfield 75, 3) := by decide +kernel
theorem dX9_holdNext_6 : decode cX9_holdNext 6 = .ok (.getfield 200, 3) := by decide +kernel
theorem dX9_holdNext_9 : decode cX9_holdNext 9 = .ok (.invokestatic 224, 3) := by decide +kernel
theorem dX9_holdNext_12 : decode cX9_holdNext 12 = .ok (.ifCond .ne 5, 3) := by decide +kernel
theorem dX9_holdNext_15 : decode cX9_holdNext 15 = .ok (.iconst (-1), 1) := by decide +kernel
theorem dX9_holdNext_16 : decode cX9_holdNext 16 = .ok (.ireturn, 1) := by decide +kernel
theorem dX9_holdNext_17 : decode cX9_holdNext 17 = .ok (.aload_n 0, 1) := by decide +kernel
theorem dX9_holdNext_18 : decode cX9_holdNext 18 = .ok (.getfield 75, 3) := by decide +kernel
theorem dX9_holdNext_21 : decode cX9_holdNext 21 = .ok (.iload_n 1, 1) := by decide +kernel
theorem dX9_holdNext_22 : decode cX9_holdNext 22 = .ok (.invokevirtual 280, 3) := by decide +kernel
theorem dX9_holdNext_25 : decode cX9_holdNext 25 = .ok (.aload_n 0, 1) := by decide +kernel
theorem dX9_holdNext_26 : decode cX9_holdNext 26 = .ok (.getfield 75, 3) := by decide +kernel
theorem dX9_holdNext_29 : decode cX9_holdNext 29 = .ok (.getfield 283, 3) := by decide +kernel
theorem dX9_holdNext_32 : decode cX9_holdNext 32 = .ok (.ifCond .ne 8, 3) := by decide +kernel
theorem dX9_holdNext_35 : decode cX9_holdNext 35 = .ok (.bipush (-2), 2) := by decide +kernel
theorem dX9_holdNext_37 : decode cX9_holdNext 37 = .ok (.goto 10, 3) := by decide +kernel
theorem dX9_holdNext_40 : decode cX9_holdNext 40 = .ok (.aload_n 0, 1) := by decide +kernel
theorem dX9_holdNext_41 : decode cX9_holdNext 41 = .ok (.getfield 75, 3) := by decide +kernel
theorem dX9_holdNext_44 : decode cX9_holdNext 44 = .ok (.invokevirtual 289, 3) := by decide +kernel
theorem dX9_holdNext_47 : decode cX9_holdNext 47 = .ok (.ireturn, 1) := by decide +kernel
theorem dX9_farApart_0 : decode cX9_farApart 0 = .ok (.iload_n 0, 1) := by decide +kernel
theorem dX9_farApart_1 : decode cX9_farApart 1 = .ok (.iload_n 2, 1) := by decide +kernel
theorem dX9_farApart_2 : decode cX9_farApart 2 = .ok (.isub, 1) := by decide +kernel
theorem dX9_farApart_3 : decode cX9_farApart 3 = .ok (.invokestatic 292, 3) := by decide +kernel
theorem dX9_farApart_6 : decode cX9_farApart 6 = .ok (.iload_n 1, 1) := by decide +kernel
theorem dX9_farApart_7 : decode cX9_farApart 7 = .ok (.iload_n 3, 1) := by decide +kernel
theorem dX9_farApart_8 : decode cX9_farApart 8 = .ok (.isub, 1) := by decide +kernel
theorem dX9_farApart_9 : decode cX9_farApart 9 = .ok (.invokestatic 292, 3) := by decide +kernel
theorem dX9_farApart_12 : decode cX9_farApart 12 = .ok (.invokestatic 297, 3) := by decide +kernel
theorem dX9_farApart_15 : decode cX9_farApart 15 = .ok (.ireturn, 1) := by decide +kernel
theorem dX9_wayTo_0 : decode cX9_wayTo 0 = .ok (.iload_n 0, 1) := by decide +kernel
theorem dX9_wayTo_1 : decode cX9_wayTo 1 = .ok (.iload_n 1, 1) := by decide +kernel
theorem dX9_wayTo_2 : decode cX9_wayTo 2 = .ok (.if_icmp .ne 5, 3) := by decide +kernel
theorem dX9_wayTo_5 : decode cX9_wayTo 5 = .ok (.iconst 0, 1) := by decide +kernel
theorem dX9_wayTo_6 : decode cX9_wayTo 6 = .ok (.ireturn, 1) := by decide +kernel
theorem dX9_wayTo_7 : decode cX9_wayTo 7 = .ok (.iload_n 0, 1) := by decide +kernel
theorem dX9_wayTo_8 : decode cX9_wayTo 8 = .ok (.iload_n 1, 1) := by decide +kernel
theorem dX9_wayTo_9 : decode cX9_wayTo 9 = .ok (.if_icmp .ge 7, 3) := by decide +kernel
theorem dX9_wayTo_12 : decode cX9_wayTo 12 = .ok (.iconst (-1), 1) := by decide +kernel
theorem dX9_wayTo_13 : decode cX9_wayTo 13 = .ok (.goto 4, 3) := by decide +kernel
theorem dX9_wayTo_16 : decode cX9_wayTo 16 = .ok (.iconst 1, 1) := by decide +kernel
theorem dX9_wayTo_17 : decode cX9_wayTo 17 = .ok (.ireturn, 1) := by decide +kernel
theorem dX9_lowestOf_0 : decode cX9_lowestOf 0 = .ok (.iconst 0, 1) := by decide +kernel
theorem dX9_lowestOf_1 : decode cX9_lowestOf 1 = .ok (.istore_n 1, 1) := by decide +kernel
theorem dX9_lowestOf_2 : decode cX9_lowestOf 2 = .ok (.iload_n 1, 1) := by decide +kernel
theorem dX9_lowestOf_3 : decode cX9_lowestOf 3 = .ok (.bipush 6, 2) := by decide +kernel
theorem dX9_lowestOf_5 : decode cX9_lowestOf 5 = .ok (.if_icmp .ge 19, 3) := by decide +kernel
theorem dX9_lowestOf_8 : decode cX9_lowestOf 8 = .ok (.iload_n 0, 1) := by decide +kernel
theorem dX9_lowestOf_9 : decode cX9_lowestOf 9 = .ok (.iload_n 1, 1) := by decide +kernel
theorem dX9_lowestOf_10 : decode cX9_lowestOf 10 = .ok (.ishr, 1) := by decide +kernel
theorem dX9_lowestOf_11 : decode cX9_lowestOf 11 = .ok (.iconst 1, 1) := by decide +kernel
theorem dX9_lowestOf_12 : decode cX9_lowestOf 12 = .ok (.iand, 1) := by decide +kernel
theorem dX9_lowestOf_13 : decode cX9_lowestOf 13 = .ok (.ifCond .eq 5, 3) := by decide +kernel
theorem dX9_lowestOf_16 : decode cX9_lowestOf 16 = .ok (.iload_n 1, 1) := by decide +kernel
theorem dX9_lowestOf_17 : decode cX9_lowestOf 17 = .ok (.ireturn, 1) := by decide +kernel
theorem dX9_lowestOf_18 : decode cX9_lowestOf 18 = .ok (.iinc 1 1, 3) := by decide +kernel
theorem dX9_lowestOf_21 : decode cX9_lowestOf 21 = .ok (.goto (-19), 3) := by decide +kernel
theorem dX9_lowestOf_24 : decode cX9_lowestOf 24 = .ok (.iconst (-1), 1) := by decide +kernel
theorem dX9_lowestOf_25 : decode cX9_lowestOf 25 = .ok (.ireturn, 1) := by decide +kernel
theorem dX9_heldTo_0 : decode cX9_heldTo 0 = .ok (.iconst 0, 1) := by decide +kernel
theorem dX9_heldTo_1 : decode cX9_heldTo 1 = .ok (.iload_n 0, 1) := by decide +kernel
theorem dX9_heldTo_2 : decode cX9_heldTo 2 = .ok (.iload_n 1, 1) := by decide +kernel
theorem dX9_heldTo_3 : decode cX9_heldTo 3 = .ok (.invokestatic 300, 3) := by decide +kernel
theorem dX9_heldTo_6 : decode cX9_heldTo 6 = .ok (.invokestatic 297, 3) := by decide +kernel
theorem dX9_heldTo_9 : decode cX9_heldTo 9 = .ok (.ireturn, 1) := by decide +kernel
theorem dX10_init_0 : decode cX10_init 0 = .ok (.aload_n 0, 1) := by decide +kernel
theorem dX10_init_1 : decode cX10_init 1 = .ok (.invokespecial 7, 3) := by decide +kernel
theorem dX10_init_4 : decode cX10_init 4 = .ok (.aload_n 0, 1) := by decide +kernel
theorem dX10_init_5 : decode cX10_init 5 = .ok (.sipush 2000, 3) := by decide +kernel
theorem dX10_init_8 : decode cX10_init 8 = .ok (.newarray .byte, 2) := by decide +kernel
theorem dX10_init_10 : decode cX10_init 10 = .ok (.putfield 13, 3) := by decide +kernel
theorem dX10_init_13 : decode cX10_init 13 = .ok (.aload_n 0, 1) := by decide +kernel
theorem dX10_init_14 : decode cX10_init 14 = .ok (.sipush 2000, 3) := by decide +kernel
theorem dX10_init_17 : decode cX10_init 17 = .ok (.newarray .byte, 2) := by decide +kernel
theorem dX10_init_19 : decode cX10_init 19 = .ok (.putfield 17, 3) := by decide +kernel
theorem dX10_init_22 : decode cX10_init 22 = .ok (.aload_n 0, 1) := by decide +kernel
theorem dX10_init_23 : decode cX10_init 23 = .ok (.sipush 403, 3) := by decide +kernel
theorem dX10_init_26 : decode cX10_init 26 = .ok (.newarray .int, 2) := by decide +kernel
theorem dX10_init_28 : decode cX10_init 28 = .ok (.putfield 20, 3) := by decide +kernel
theorem dX10_init_31 : decode cX10_init 31 = .ok (.aload_n 0, 1) := by decide +kernel
theorem dX10_init_32 : decode cX10_init 32 = .ok (.sipush 403, 3) := by decide +kernel
theorem dX10_init_35 : decode cX10_init 35 = .ok (.newarray .int, 2) := by decide +kernel
theorem dX10_init_37 : decode cX10_init 37 = .ok (.putfield 24, 3) := by decide +kernel
theorem dX10_init_40 : decode cX10_init 40 = .ok (.aload_n 0, 1) := by decide +kernel
theorem dX10_init_41 : decode cX10_init 41 = .ok (.sipush 403, 3) := by decide +kernel
theorem dX10_init_44 : decode cX10_init 44 = .ok (.newarray .int, 2) := by decide +kernel
theorem dX10_init_46 : decode cX10_init 46 = .ok (.putfield 27, 3) := by decide +kernel
theorem dX10_init_49 : decode cX10_init 49 = .ok (.aload_n 0, 1) := by decide +kernel
theorem dX10_init_50 : decode cX10_init 50 = .ok (.sipush 403, 3) := by decide +kernel
theorem dX10_init_53 : decode cX10_init 53 = .ok (.newarray .long, 2) := by decide +kernel
theorem dX10_init_55 : decode cX10_init 55 = .ok (.putfield 30, 3) := by decide +kernel
theorem dX10_init_58 : decode cX10_init 58 = .ok (.aload_n 0, 1) := by decide +kernel
theorem dX10_init_59 : decode cX10_init 59 = .ok (.bipush 21, 2) := by decide +kernel
theorem dX10_init_61 : decode cX10_init 61 = .ok (.newarray .long, 2) := by decide +kernel
theorem dX10_init_63 : decode cX10_init 63 = .ok (.putfield 34, 3) := by decide +kernel
theorem dX10_init_66 : decode cX10_init 66 = .ok (.aload_n 0, 1) := by decide +kernel
theorem dX10_init_67 : decode cX10_init 67 = .ok (.iconst (-1), 1) := by decide +kernel
theorem dX10_init_68 : decode cX10_init 68 = .ok (.putfield 37, 3) := by decide +kernel
theorem dX10_init_71 : decode cX10_init 71 = .ok (.aload_n 0, 1) := by decide +kernel
theorem dX10_init_72 : decode cX10_init 72 = .ok (.bipush 10, 2) := by decide +kernel
theorem dX10_init_74 : decode cX10_init 74 = .ok (.newarray .long, 2) := by decide +kernel
theorem dX10_init_76 : decode cX10_init 76 = .ok (.putfield 40, 3) := by decide +kernel
theorem dX10_init_79 : decode cX10_init 79 = .ok (.aload_n 0, 1) := by decide +kernel
theorem dX10_init_80 : decode cX10_init 80 = .ok (.bipush 10, 2) := by decide +kernel
theorem dX10_init_82 : decode cX10_init 82 = .ok (.newarray .int, 2) := by decide +kernel
theorem dX10_init_84 : decode cX10_init 84 = .ok (.putfield 43, 3) := by decide +kernel
theorem dX10_init_87 : decode cX10_init 87 = .ok (.aload_n 0, 1) := by decide +kernel
theorem dX10_init_88 : decode cX10_init 88 = .ok (.iconst 2, 1) := by decide +kernel
theorem dX10_init_89 : decode cX10_init 89 = .ok (.newarray .int, 2) := by decide +kernel
theorem dX10_init_91 : decode cX10_init 91 = .ok (.putfield 46, 3) := by decide +kernel
theorem dX10_init_94 : decode cX10_init 94 = .ok (.aload_n 0, 1) := by decide +kernel
theorem dX10_init_95 : decode cX10_init 95 = .ok (.bipush 32, 2) := by decide +kernel
theorem dX10_init_97 : decode cX10_init 97 = .ok (.newarray .int, 2) := by decide +kernel
theorem dX10_init_99 : decode cX10_init 99 = .ok (.putfield 49, 3) := by decide +kernel
theorem dX10_init_102 : decode cX10_init 102 = .ok (.aload_n 0, 1) := by decide +kernel
theorem dX10_init_103 : decode cX10_init 103 = .ok (.iconst 2, 1) := by decide +kernel
theorem dX10_init_104 : decode cX10_init 104 = .ok (.newarray .int, 2) := by decide +kernel
theorem dX10_init_106 : decode cX10_init 106 = .ok (.putfield 52, 3) := by decide +kernel
theorem dX10_init_109 : decode cX10_init 109 = .ok (.aload_n 0, 1) := by decide +kernel
theorem dX10_init_110 : decode cX10_init 110 = .ok (.bipush 12, 2) := by decide +kernel
theorem dX10_init_112 : decode cX10_init 112 = .ok (.newarray .int, 2) := by decide +kernel
theorem dX10_init_114 : decode cX10_init 114 = .ok (.putfield 55, 3) := by decide +kernel
theorem dX10_init_117 : decode cX10_init 117 = .ok (.aload_n 0, 1) := by decide +kernel
theorem dX10_init_118 : decode cX10_init 118 = .ok (.bipush 12, 2) := by decide +kernel
theorem dX10_init_120 : decode cX10_init 120 = .ok (.newarray .int, 2) := by decide +kernel
theorem dX10_init_122 : decode cX10_init 122 = .ok (.putfield 58, 3) := by decide +kernel
theorem dX10_init_125 : decode cX10_init 125 = .ok (.aload_n 0, 1) := by decide +kernel
theorem dX10_init_126 : decode cX10_init 126 = .ok (.bipush 12, 2) := by decide +kernel
theorem dX10_init_128 : decode cX10_init 128 = .ok (.newarray .int, 2) := by decide +kernel
theorem dX10_init_130 : decode cX10_init 130 = .ok (.putfield 61, 3) := by decide +kernel
theorem dX10_init_133 : decode cX10_init 133 = .ok (.aload_n 0, 1) := by decide +kernel
theorem dX10_init_134 : decode cX10_init 134 = .ok (.iconst 2, 1) := by decide +kernel
theorem dX10_init_135 : decode cX10_init 135 = .ok (.newarray .int, 2) := by decide +kernel
theorem dX10_init_137 : decode cX10_init 137 = .ok (.putfield 64, 3) := by decide +kernel
theorem dX10_init_140 : decode cX10_init 140 = .ok (.aload_n 0, 1) := by decide +kernel
theorem dX10_init_141 : decode cX10_init 141 = .ok (.bipush 16, 2) := by decide +kernel
theorem dX10_init_143 : decode cX10_init 143 = .ok (.newarray .int, 2) := by decide +kernel
theorem dX10_init_145 : decode cX10_init 145 = .ok (.putfield 67, 3) := by decide +kernel
theorem dX10_init_148 : decode cX10_init 148 = .ok (.aload_n 0, 1) := by decide +kernel
theorem dX10_init_149 : decode cX10_init 149 = .ok (.bipush 16, 2) := by decide +kernel
theorem dX10_init_151 : decode cX10_init 151 = .ok (.newarray .int, 2) := by decide +kernel
theorem dX10_init_153 : decode cX10_init 153 = .ok (.putfield 70, 3) := by decide +kernel
theorem dX10_init_156 : decode cX10_init 156 = .ok (.aload_n 0, 1) := by decide +kernel
theorem dX10_init_157 : decode cX10_init 157 = .ok (.bipush 16, 2) := by decide +kernel
theorem dX10_init_159 : decode cX10_init 159 = .ok (.newarray .int, 2) := by decide +kernel
theorem dX10_init_161 : decode cX10_init 161 = .ok (.putfield 73, 3) := by decide +kernel
theorem dX10_init_164 : decode cX10_init 164 = .ok (.aload_n 0, 1) := by decide +kernel
theorem dX10_init_165 : decode cX10_init 165 = .ok (.iconst 2, 1) := by decide +kernel
theorem dX10_init_166 : decode cX10_init 166 = .ok (.newarray .int, 2) := by decide +kernel
theorem dX10_init_168 : decode cX10_init 168 = .ok (.putfield 76, 3) := by decide +kernel
theorem dX10_init_171 : decode cX10_init 171 = .ok (.aload_n 0, 1) := by decide +kernel
theorem dX10_init_172 : decode cX10_init 172 = .ok (.iconst 2, 1) := by decide +kernel
theorem dX10_init_173 : decode cX10_init 173 = .ok (.newarray .int, 2) := by decide +kernel
theorem dX10_init_175 : decode cX10_init 175 = .ok (.putfield 79, 3) := by decide +kernel
theorem dX10_init_178 : decode cX10_init 178 = .ok (.aload_n 0, 1) := by decide +kernel
theorem dX10_init_179 : decode cX10_init 179 = .ok (.bipush 8, 2) := by decide +kernel
theorem dX10_init_181 : decode cX10_init 181 = .ok (.newarray .int, 2) := by decide +kernel
theorem dX10_init_183 : decode cX10_init 183 = .ok (.putfield 82, 3) := by decide +kernel
theorem dX10_init_186 : decode cX10_init 186 = .ok (.aload_n 0, 1) := by decide +kernel
theorem dX10_init_187 : decode cX10_init 187 = .ok (.bipush 8, 2) := by decide +kernel
theorem dX10_init_189 : decode cX10_init 189 = .ok (.newarray .int, 2) := by decide +kernel
theorem dX10_init_191 : decode cX10_init 191 = .ok (.putfield 85, 3) := by decide +kernel
theorem dX10_init_194 : decode cX10_init 194 = .ok (.aload_n 0, 1) := by decide +kernel
theorem dX10_init_195 : decode cX10_init 195 = .ok (.sipush 260, 3) := by decide +kernel
theorem dX10_init_198 : decode cX10_init 198 = .ok (.newarray .boolean, 2) := by decide +kernel
theorem dX10_init_200 : decode cX10_init 200 = .ok (.putfield 88, 3) := by decide +kernel
theorem dX10_init_203 : decode cX10_init 203 = .ok (.aload_n 0, 1) := by decide +kernel
theorem dX10_init_204 : decode cX10_init 204 = .ok (.sipush 260, 3) := by decide +kernel
theorem dX10_init_207 : decode cX10_init 207 = .ok (.newarray .int, 2) := by decide +kernel
theorem dX10_init_209 : decode cX10_init 209 = .ok (.putfield 92, 3) := by decide +kernel
theorem dX10_init_212 : decode cX10_init 212 = .ok (.aload_n 0, 1) := by decide +kernel
theorem dX10_init_213 : decode cX10_init 213 = .ok (.sipush 260, 3) := by decide +kernel
theorem dX10_init_216 : decode cX10_init 216 = .ok (.newarray .int, 2) := by decide +kernel
theorem dX10_init_218 : decode cX10_init 218 = .ok (.putfield 95, 3) := by decide +kernel
theorem dX10_init_221 : decode cX10_init 221 = .ok (.aload_n 0, 1) := by decide +kernel
theorem dX10_init_222 : decode cX10_init 222 = .ok (.sipush 260, 3) := by decide +kernel
theorem dX10_init_225 : decode cX10_init 225 = .ok (.newarray .int, 2) := by decide +kernel
theorem dX10_init_227 : decode cX10_init 227 = .ok (.putfield 98, 3) := by decide +kernel
theorem dX10_init_230 : decode cX10_init 230 = .ok (.aload_n 0, 1) := by decide +kernel
theorem dX10_init_231 : decode cX10_init 231 = .ok (.sipush 260, 3) := by decide +kernel
theorem dX10_init_234 : decode cX10_init 234 = .ok (.newarray .int, 2) := by decide +kernel
theorem dX10_init_236 : decode cX10_init 236 = .ok (.putfield 101, 3) := by decide +kernel
theorem dX10_init_239 : decode cX10_init 239 = .ok (.aload_n 0, 1) := by decide +kernel
theorem dX10_init_240 : decode cX10_init 240 = .ok (.sipush 840, 3) := by decide +kernel
theorem dX10_init_243 : decode cX10_init 243 = .ok (.newarray .int, 2) := by decide +kernel
theorem dX10_init_245 : decode cX10_init 245 = .ok (.putfield 104, 3) := by decide +kernel
theorem dX10_init_248 : decode cX10_init 248 = .ok (.aload_n 0, 1) := by decide +kernel
theorem dX10_init_249 : decode cX10_init 249 = .ok (.sipush 840, 3) := by decide +kernel
theorem dX10_init_252 : decode cX10_init 252 = .ok (.newarray .int, 2) := by decide +kernel
theorem dX10_init_254 : decode cX10_init 254 = .ok (.putfield 107, 3) := by decide +kernel
theorem dX10_init_257 : decode cX10_init 257 = .ok (.aload_n 0, 1) := by decide +kernel
theorem dX10_init_258 : decode cX10_init 258 = .ok (.bipush 64, 2) := by decide +kernel
theorem dX10_init_260 : decode cX10_init 260 = .ok (.newarray .int, 2) := by decide +kernel
theorem dX10_init_262 : decode cX10_init 262 = .ok (.putfield 110, 3) := by decide +kernel
theorem dX10_init_265 : decode cX10_init 265 = .ok (.aload_n 0, 1) := by decide +kernel
theorem dX10_init_266 : decode cX10_init 266 = .ok (.bipush 9, 2) := by decide +kernel
theorem dX10_init_268 : decode cX10_init 268 = .ok (.newarray .int, 2) := by decide +kernel
theorem dX10_init_270 : decode cX10_init 270 = .ok (.putfield 113, 3) := by decide +kernel
theorem dX10_init_273 : decode cX10_init 273 = .ok (.aload_n 0, 1) := by decide +kernel
theorem dX10_init_274 : decode cX10_init 274 = .ok (.sipush 400, 3) := by decide +kernel
theorem dX10_init_277 : decode cX10_init 277 = .ok (.newarray .int, 2) := by decide +kernel
theorem dX10_init_279 : decode cX10_init 279 = .ok (.putfield 116, 3) := by decide +kernel
theorem dX10_init_282 : decode cX10_init 282 = .ok (.aload_n 0, 1) := by decide +kernel
theorem dX10_init_283 : decode cX10_init 283 = .ok (.bipush 55, 2) := by decide +kernel
theorem dX10_init_285 : decode cX10_init 285 = .ok (.newarray .int, 2) := by decide +kernel
theorem dX10_init_287 : decode cX10_init 287 = .ok (.putfield 119, 3) := by decide +kernel
theorem dX10_init_290 : decode cX10_init 290 = .ok (.aload_n 0, 1) := by decide +kernel
theorem dX10_init_291 : decode cX10_init 291 = .ok (.bipush 55, 2) := by decide +kernel
theorem dX10_init_293 : decode cX10_init 293 = .ok (.newarray .int, 2) := by decide +kernel
theorem dX10_init_295 : decode cX10_init 295 = .ok (.putfield 122, 3) := by decide +kernel
theorem dX10_init_298 : decode cX10_init 298 = .ok (.aload_n 0, 1) := by decide +kernel
theorem dX10_init_299 : decode cX10_init 299 = .ok (.bipush 6, 2) := by decide +kernel
theorem dX10_init_301 : decode cX10_init 301 = .ok (.newarray .boolean, 2) := by decide +kernel
theorem dX10_init_303 : decode cX10_init 303 = .ok (.putfield 125, 3) := by decide +kernel
theorem dX10_init_306 : decode cX10_init 306 = .ok (.aload_n 0, 1) := by decide +kernel
theorem dX10_init_307 : decode cX10_init 307 = .ok (.bipush 6, 2) := by decide +kernel
theorem dX10_init_309 : decode cX10_init 309 = .ok (.newarray .int, 2) := by decide +kernel
theorem dX10_init_311 : decode cX10_init 311 = .ok (.putfield 128, 3) := by decide +kernel
theorem dX10_init_314 : decode cX10_init 314 = .ok (.aload_n 0, 1) := by decide +kernel
theorem dX10_init_315 : decode cX10_init 315 = .ok (.bipush 6, 2) := by decide +kernel
theorem dX10_init_317 : decode cX10_init 317 = .ok (.newarray .int, 2) := by decide +kernel
theorem dX10_init_319 : decode cX10_init 319 = .ok (.putfield 131, 3) := by decide +kernel
theorem dX10_init_322 : decode cX10_init 322 = .ok (.aload_n 0, 1) := by decide +kernel
theorem dX10_init_323 : decode cX10_init 323 = .ok (.bipush 6, 2) := by decide +kernel
theorem dX10_init_325 : decode cX10_init 325 = .ok (.newarray .boolean, 2) := by decide +kernel
theorem dX10_init_327 : decode cX10_init 327 = .ok (.putfield 134, 3) := by decide +kernel
theorem dX10_init_330 : decode cX10_init 330 = .ok (.aload_n 0, 1) := by decide +kernel
theorem dX10_init_331 : decode cX10_init 331 = .ok (.sipush 2200, 3) := by decide +kernel
theorem dX10_init_334 : decode cX10_init 334 = .ok (.newarray .int, 2) := by decide +kernel
theorem dX10_init_336 : decode cX10_init 336 = .ok (.putfield 137, 3) := by decide +kernel
theorem dX10_init_339 : decode cX10_init 339 = .ok (.aload_n 0, 1) := by decide +kernel
theorem dX10_init_340 : decode cX10_init 340 = .ok (.bipush 20, 2) := by decide +kernel
theorem dX10_init_342 : decode cX10_init 342 = .ok (.newarray .int, 2) := by decide +kernel
theorem dX10_init_344 : decode cX10_init 344 = .ok (.putfield 140, 3) := by decide +kernel
theorem dX10_init_347 : decode cX10_init 347 = .ok (.aload_n 0, 1) := by decide +kernel
theorem dX10_init_348 : decode cX10_init 348 = .ok (.bipush 20, 2) := by decide +kernel
theorem dX10_init_350 : decode cX10_init 350 = .ok (.newarray .int, 2) := by decide +kernel
theorem dX10_init_352 : decode cX10_init 352 = .ok (.putfield 143, 3) := by decide +kernel
theorem dX10_init_355 : decode cX10_init 355 = .ok (.aload_n 0, 1) := by decide +kernel
theorem dX10_init_356 : decode cX10_init 356 = .ok (.bipush 20, 2) := by decide +kernel
theorem dX10_init_358 : decode cX10_init 358 = .ok (.newarray .int, 2) := by decide +kernel
theorem dX10_init_360 : decode cX10_init 360 = .ok (.putfield 146, 3) := by decide +kernel
theorem dX10_init_363 : decode cX10_init 363 = .ok (.aload_n 0, 1) := by decide +kernel
theorem dX10_init_364 : decode cX10_init 364 = .ok (.bipush 9, 2) := by decide +kernel
theorem dX10_init_366 : decode cX10_init 366 = .ok (.newarray .int, 2) := by decide +kernel
theorem dX10_init_368 : decode cX10_init 368 = .ok (.putfield 149, 3) := by decide +kernel
theorem dX10_init_371 : decode cX10_init 371 = .ok (.aload_n 0, 1) := by decide +kernel
theorem dX10_init_372 : decode cX10_init 372 = .ok (.iconst 3, 1) := by decide +kernel
theorem dX10_init_373 : decode cX10_init 373 = .ok (.newarray .boolean, 2) := by decide +kernel
theorem dX10_init_375 : decode cX10_init 375 = .ok (.putfield 152, 3) := by decide +kernel
theorem dX10_init_378 : decode cX10_init 378 = .ok (.aload_n 0, 1) := by decide +kernel
theorem dX10_init_379 : decode cX10_init 379 = .ok (.sipush 165, 3) := by decide +kernel
theorem dX10_init_382 : decode cX10_init 382 = .ok (.newarray .int, 2) := by decide +kernel
theorem dX10_init_384 : decode cX10_init 384 = .ok (.putfield 155, 3) := by decide +kernel
theorem dX10_init_387 : decode cX10_init 387 = .ok (.aload_n 0, 1) := by decide +kernel
theorem dX10_init_388 : decode cX10_init 388 = .ok (.iconst 0, 1) := by decide +kernel
theorem dX10_init_389 : decode cX10_init 389 = .ok (.invokevirtual 158, 3) := by decide +kernel
theorem dX10_init_392 : decode cX10_init 392 = .ok (.aload_n 0, 1) := by decide +kernel
theorem dX10_init_393 : decode cX10_init 393 = .ok (.iconst 1, 1) := by decide +kernel
theorem dX10_init_394 : decode cX10_init 394 = .ok (.invokevirtual 158, 3) := by decide +kernel
theorem dX10_init_397 : decode cX10_init 397 = .ok (.aload_n 0, 1) := by decide +kernel
theorem dX10_init_398 : decode cX10_init 398 = .ok (.getfield 34, 3) := by decide +kernel
theorem dX10_init_401 : decode cX10_init 401 = .ok (.iconst 0, 1) := by decide +kernel
theorem dX10_init_402 : decode cX10_init 402 = .ok (.bipush 109, 2) := by decide +kernel
theorem dX10_init_404 : decode cX10_init 404 = .ok (.bipush 101, 2) := by decide +kernel
theorem dX10_init_406 : decode cX10_init 406 = .ok (.bipush 114, 2) := by decide +kernel
theorem dX10_init_408 : decode cX10_init 408 = .ok (.bipush 109, 2) := by decide +kernel
theorem dX10_init_410 : decode cX10_init 410 = .ok (.bipush 97, 2) := by decide +kernel
theorem dX10_init_412 : decode cX10_init 412 = .ok (.bipush 105, 2) := by decide +kernel
theorem dX10_init_414 : decode cX10_init 414 = .ok (.bipush 100, 2) := by decide +kernel
theorem dX10_init_416 : decode cX10_init 416 = .ok (.invokestatic 162, 3) := by decide +kernel
theorem dX10_init_419 : decode cX10_init 419 = .ok (.lastore, 1) := by decide +kernel
theorem dX10_init_420 : decode cX10_init 420 = .ok (.aload_n 0, 1) := by decide +kernel
theorem dX10_init_421 : decode cX10_init 421 = .ok (.getfield 34, 3) := by decide +kernel
theorem dX10_init_424 : decode cX10_init 424 = .ok (.iconst 1, 1) := by decide +kernel
theorem dX10_init_425 : decode cX10_init 425 = .ok (.bipush 112, 2) := by decide +kernel
theorem dX10_init_427 : decode cX10_init 427 = .ok (.bipush 101, 2) := by decide +kernel
theorem dX10_init_429 : decode cX10_init 429 = .ok (.bipush 114, 2) := by decide +kernel
theorem dX10_init_431 : decode cX10_init 431 = .ok (.bipush 115, 2) := by decide +kernel
theorem dX10_init_433 : decode cX10_init 433 = .ok (.bipush 111, 2) := by decide +kernel
theorem dX10_init_435 : decode cX10_init 435 = .ok (.bipush 110, 2) := by decide +kernel
theorem dX10_init_437 : decode cX10_init 437 = .ok (.iconst 0, 1) := by decide +kernel
theorem dX10_init_438 : decode cX10_init 438 = .ok (.invokestatic 162, 3) := by decide +kernel
theorem dX10_init_441 : decode cX10_init 441 = .ok (.lastore, 1) := by decide +kernel
theorem dX10_init_442 : decode cX10_init 442 = .ok (.aload_n 0, 1) := by decide +kernel
theorem dX10_init_443 : decode cX10_init 443 = .ok (.getfield 34, 3) := by decide +kernel
theorem dX10_init_446 : decode cX10_init 446 = .ok (.iconst 2, 1) := by decide +kernel
theorem dX10_init_447 : decode cX10_init 447 = .ok (.bipush 115, 2) := by decide +kernel
theorem dX10_init_449 : decode cX10_init 449 = .ok (.bipush 116, 2) := by decide +kernel
theorem dX10_init_451 : decode cX10_init 451 = .ok (.bipush 114, 2) := by decide +kernel
theorem dX10_init_453 : decode cX10_init 453 = .ok (.bipush 97, 2) := by decide +kernel
theorem dX10_init_455 : decode cX10_init 455 = .ok (.bipush 110, 2) := by decide +kernel
theorem dX10_init_457 : decode cX10_init 457 = .ok (.bipush 100, 2) := by decide +kernel
theorem dX10_init_459 : decode cX10_init 459 = .ok (.iconst 0, 1) := by decide +kernel
theorem dX10_init_460 : decode cX10_init 460 = .ok (.invokestatic 162, 3) := by decide +kernel
theorem dX10_init_463 : decode cX10_init 463 = .ok (.lastore, 1) := by decide +kernel
theorem dX10_init_464 : decode cX10_init 464 = .ok (.aload_n 0, 1) := by decide +kernel
theorem dX10_init_465 : decode cX10_init 465 = .ok (.getfield 34, 3) := by decide +kernel
theorem dX10_init_468 : decode cX10_init 468 = .ok (.iconst 3, 1) := by decide +kernel
theorem dX10_init_469 : decode cX10_init 469 = .ok (.bipush 112, 2) := by decide +kernel
theorem dX10_init_471 : decode cX10_init 471 = .ok (.bipush 117, 2) := by decide +kernel
theorem dX10_init_473 : decode cX10_init 473 = .ok (.bipush 108, 2) := by decide +kernel
theorem dX10_init_475 : decode cX10_init 475 = .ok (.bipush 108, 2) := by decide +kernel
theorem dX10_init_477 : decode cX10_init 477 = .ok (.iconst 0, 1) := by decide +kernel
theorem dX10_init_478 : decode cX10_init 478 = .ok (.iconst 0, 1) := by decide +kernel
theorem dX10_init_479 : decode cX10_init 479 = .ok (.iconst 0, 1) := by decide +kernel
theorem dX10_init_480 : decode cX10_init 480 = .ok (.invokestatic 162, 3) := by decide +kernel
theorem dX10_init_483 : decode cX10_init 483 = .ok (.lastore, 1) := by decide +kernel
theorem dX10_init_484 : decode cX10_init 484 = .ok (.aload_n 0, 1) := by decide +kernel
theorem dX10_init_485 : decode cX10_init 485 = .ok (.getfield 34, 3) := by decide +kernel
theorem dX10_init_488 : decode cX10_init 488 = .ok (.iconst 4, 1) := by decide +kernel
theorem dX10_init_489 : decode cX10_init 489 = .ok (.bipush 115, 2) := by decide +kernel
theorem dX10_init_491 : decode cX10_init 491 = .ok (.bipush 116, 2) := by decide +kernel
theorem dX10_init_493 : decode cX10_init 493 = .ok (.bipush 97, 2) := by decide +kernel
theorem dX10_init_495 : decode cX10_init 495 = .ok (.bipush 110, 2) := by decide +kernel
theorem dX10_init_497 : decode cX10_init 497 = .ok (.bipush 100, 2) := by decide +kernel
theorem dX10_init_499 : decode cX10_init 499 = .ok (.bipush 115, 2) := by decide +kernel
theorem dX10_init_501 : decode cX10_init 501 = .ok (.iconst 0, 1) := by decide +kernel
theorem dX10_init_502 : decode cX10_init 502 = .ok (.invokestatic 162, 3) := by decide +kernel
theorem dX10_init_505 : decode cX10_init 505 = .ok (.lastore, 1) := by decide +kernel
theorem dX10_init_506 : decode cX10_init 506 = .ok (.aload_n 0, 1) := by decide +kernel
theorem dX10_init_507 : decode cX10_init 507 = .ok (.getfield 34, 3) := by decide +kernel
theorem dX10_init_510 : decode cX10_init 510 = .ok (.iconst 5, 1) := by decide +kernel
theorem dX10_init_511 : decode cX10_init 511 = .ok (.bipush 112, 2) := by decide +kernel
theorem dX10_init_513 : decode cX10_init 513 = .ok (.bipush 114, 2) := by decide +kernel
theorem dX10_init_515 : decode cX10_init 515 = .ok (.bipush 105, 2) := by decide +kernel
theorem dX10_init_517 : decode cX10_init 517 = .ok (.bipush 99, 2) := by decide +kernel
theorem dX10_init_519 : decode cX10_init 519 = .ok (.bipush 101, 2) := by decide +kernel
theorem dX10_init_521 : decode cX10_init 521 = .ok (.iconst 0, 1) := by decide +kernel
theorem dX10_init_522 : decode cX10_init 522 = .ok (.iconst 0, 1) := by decide +kernel
theorem dX10_init_523 : decode cX10_init 523 = .ok (.invokestatic 162, 3) := by decide +kernel
theorem dX10_init_526 : decode cX10_init 526 = .ok (.lastore, 1) := by decide +kernel
theorem dX10_init_527 : decode cX10_init 527 = .ok (.aload_n 0, 1) := by decide +kernel
theorem dX10_init_528 : decode cX10_init 528 = .ok (.getfield 34, 3) := by decide +kernel
theorem dX10_init_531 : decode cX10_init 531 = .ok (.bipush 6, 2) := by decide +kernel
theorem dX10_init_533 : decode cX10_init 533 = .ok (.bipush 115, 2) := by decide +kernel
theorem dX10_init_535 : decode cX10_init 535 = .ok (.bipush 116, 2) := by decide +kernel
theorem dX10_init_537 : decode cX10_init 537 = .ok (.bipush 111, 2) := by decide +kernel
theorem dX10_init_539 : decode cX10_init 539 = .ok (.bipush 114, 2) := by decide +kernel
theorem dX10_init_541 : decode cX10_init 541 = .ok (.bipush 109, 2) := by decide +kernel
theorem dX10_init_543 : decode cX10_init 543 = .ok (.iconst 0, 1) := by decide +kernel
theorem dX10_init_544 : decode cX10_init 544 = .ok (.iconst 0, 1) := by decide +kernel
theorem dX10_init_545 : decode cX10_init 545 = .ok (.invokestatic 162, 3) := by decide +kernel
theorem dX10_init_548 : decode cX10_init 548 = .ok (.lastore, 1) := by decide +kernel
theorem dX10_init_549 : decode cX10_init 549 = .ok (.aload_n 0, 1) := by decide +kernel
theorem dX10_init_550 : decode cX10_init 550 = .ok (.getfield 34, 3) := by decide +kernel
theorem dX10_init_553 : decode cX10_init 553 = .ok (.bipush 7, 2) := by decide +kernel
theorem dX10_init_555 : decode cX10_init 555 = .ok (.bipush 112, 2) := by decide +kernel
theorem dX10_init_557 : decode cX10_init 557 = .ok (.bipush 105, 2) := by decide +kernel
theorem dX10_init_559 : decode cX10_init 559 = .ok (.bipush 101, 2) := by decide +kernel
theorem dX10_init_561 : decode cX10_init 561 = .ok (.bipush 114, 2) := by decide +kernel
theorem dX10_init_563 : decode cX10_init 563 = .ok (.iconst 0, 1) := by decide +kernel
theorem dX10_init_564 : decode cX10_init 564 = .ok (.iconst 0, 1) := by decide +kernel
theorem dX10_init_565 : decode cX10_init 565 = .ok (.iconst 0, 1) := by decide +kernel
theorem dX10_init_566 : decode cX10_init 566 = .ok (.invokestatic 162, 3) := by decide +kernel
theorem dX10_init_569 : decode cX10_init 569 = .ok (.lastore, 1) := by decide +kernel
theorem dX10_init_570 : decode cX10_init 570 = .ok (.aload_n 0, 1) := by decide +kernel
theorem dX10_init_571 : decode cX10_init 571 = .ok (.getfield 34, 3) := by decide +kernel
theorem dX10_init_574 : decode cX10_init 574 = .ok (.bipush 8, 2) := by decide +kernel
theorem dX10_init_576 : decode cX10_init 576 = .ok (.bipush 115, 2) := by decide +kernel
theorem dX10_init_578 : decode cX10_init 578 = .ok (.bipush 101, 2) := by decide +kernel
theorem dX10_init_580 : decode cX10_init 580 = .ok (.bipush 101, 2) := by decide +kernel
theorem dX10_init_582 : decode cX10_init 582 = .ok (.bipush 100, 2) := by decide +kernel
theorem dX10_init_584 : decode cX10_init 584 = .ok (.iconst 0, 1) := by decide +kernel
theorem dX10_init_585 : decode cX10_init 585 = .ok (.iconst 0, 1) := by decide +kernel
theorem dX10_init_586 : decode cX10_init 586 = .ok (.iconst 0, 1) := by decide +kernel
theorem dX10_init_587 : decode cX10_init 587 = .ok (.invokestatic 162, 3) := by decide +kernel
theorem dX10_init_590 : decode cX10_init 590 = .ok (.lastore, 1) := by decide +kernel
theorem dX10_init_591 : decode cX10_init 591 = .ok (.aload_n 0, 1) := by decide +kernel
theorem dX10_init_592 : decode cX10_init 592 = .ok (.getfield 34, 3) := by decide +kernel
theorem dX10_init_595 : decode cX10_init 595 = .ok (.bipush 9, 2) := by decide +kernel
theorem dX10_init_597 : decode cX10_init 597 = .ok (.bipush 105, 2) := by decide +kernel
theorem dX10_init_599 : decode cX10_init 599 = .ok (.bipush 102, 2) := by decide +kernel
theorem dX10_init_601 : decode cX10_init 601 = .ok (.iconst 0, 1) := by decide +kernel
theorem dX10_init_602 : decode cX10_init 602 = .ok (.iconst 0, 1) := by decide +kernel
theorem dX10_init_603 : decode cX10_init 603 = .ok (.iconst 0, 1) := by decide +kernel
theorem dX10_init_604 : decode cX10_init 604 = .ok (.iconst 0, 1) := by decide +kernel
theorem dX10_init_605 : decode cX10_init 605 = .ok (.iconst 0, 1) := by decide +kernel
theorem dX10_init_606 : decode cX10_init 606 = .ok (.invokestatic 162, 3) := by decide +kernel
theorem dX10_init_609 : decode cX10_init 609 = .ok (.lastore, 1) := by decide +kernel
theorem dX10_init_610 : decode cX10_init 610 = .ok (.aload_n 0, 1) := by decide +kernel
theorem dX10_init_611 : decode cX10_init 611 = .ok (.getfield 34, 3) := by decide +kernel
theorem dX10_init_614 : decode cX10_init 614 = .ok (.bipush 10, 2) := by decide +kernel
theorem dX10_init_616 : decode cX10_init 616 = .ok (.bipush 116, 2) := by decide +kernel
theorem dX10_init_618 : decode cX10_init 618 = .ok (.bipush 104, 2) := by decide +kernel
theorem dX10_init_620 : decode cX10_init 620 = .ok (.bipush 101, 2) := by decide +kernel
theorem dX10_init_622 : decode cX10_init 622 = .ok (.bipush 110, 2) := by decide +kernel
theorem dX10_init_624 : decode cX10_init 624 = .ok (.iconst 0, 1) := by decide +kernel
theorem dX10_init_625 : decode cX10_init 625 = .ok (.iconst 0, 1) := by decide +kernel
theorem dX10_init_626 : decode cX10_init 626 = .ok (.iconst 0, 1) := by decide +kernel
theorem dX10_init_627 : decode cX10_init 627 = .ok (.invokestatic 162, 3) := by decide +kernel
theorem dX10_init_630 : decode cX10_init 630 = .ok (.lastore, 1) := by decide +kernel
theorem dX10_init_631 : decode cX10_init 631 = .ok (.aload_n 0, 1) := by decide +kernel
theorem dX10_init_632 : decode cX10_init 632 = .ok (.getfield 34, 3) := by decide +kernel
theorem dX10_init_635 : decode cX10_init 635 = .ok (.bipush 11, 2) := by decide +kernel
theorem dX10_init_637 : decode cX10_init 637 = .ok (.bipush 101, 2) := by decide +kernel
theorem dX10_init_639 : decode cX10_init 639 = .ok (.bipush 108, 2) := by decide +kernel
theorem dX10_init_641 : decode cX10_init 641 = .ok (.bipush 115, 2) := by decide +kernel
theorem dX10_init_643 : decode cX10_init 643 = .ok (.bipush 101, 2) := by decide +kernel
theorem dX10_init_645 : decode cX10_init 645 = .ok (.iconst 0, 1) := by decide +kernel
theorem dX10_init_646 : decode cX10_init 646 = .ok (.iconst 0, 1) := by decide +kernel
theorem dX10_init_647 : decode cX10_init 647 = .ok (.iconst 0, 1) := by decide +kernel
theorem dX10_init_648 : decode cX10_init 648 = .ok (.invokestatic 162, 3) := by decide +kernel
theorem dX10_init_651 : decode cX10_init 651 = .ok (.lastore, 1) := by decide +kernel
theorem dX10_init_652 : decode cX10_init 652 = .ok (.aload_n 0, 1) := by decide +kernel
theorem dX10_init_653 : decode cX10_init 653 = .ok (.getfield 34, 3) := by decide +kernel
theorem dX10_init_656 : decode cX10_init 656 = .ok (.bipush 12, 2) := by decide +kernel
theorem dX10_init_658 : decode cX10_init 658 = .ok (.bipush 108, 2) := by decide +kernel
theorem dX10_init_660 : decode cX10_init 660 = .ok (.bipush 101, 2) := by decide +kernel
theorem dX10_init_662 : decode cX10_init 662 = .ok (.bipush 110, 2) := by decide +kernel
theorem dX10_init_664 : decode cX10_init 664 = .ok (.bipush 103, 2) := by decide +kernel
theorem dX10_init_666 : decode cX10_init 666 = .ok (.bipush 116, 2) := by decide +kernel
theorem dX10_init_668 : decode cX10_init 668 = .ok (.bipush 104, 2) := by decide +kernel
theorem dX10_init_670 : decode cX10_init 670 = .ok (.iconst 0, 1) := by decide +kernel
theorem dX10_init_671 : decode cX10_init 671 = .ok (.invokestatic 162, 3) := by decide +kernel
theorem dX10_init_674 : decode cX10_init 674 = .ok (.lastore, 1) := by decide +kernel
theorem dX10_init_675 : decode cX10_init 675 = .ok (.aload_n 0, 1) := by decide +kernel
theorem dX10_init_676 : decode cX10_init 676 = .ok (.getfield 34, 3) := by decide +kernel
theorem dX10_init_679 : decode cX10_init 679 = .ok (.bipush 13, 2) := by decide +kernel
theorem dX10_init_681 : decode cX10_init 681 = .ok (.bipush 102, 2) := by decide +kernel
theorem dX10_init_683 : decode cX10_init 683 = .ok (.bipush 97, 2) := by decide +kernel
theorem dX10_init_685 : decode cX10_init 685 = .ok (.bipush 114, 2) := by decide +kernel
theorem dX10_init_687 : decode cX10_init 687 = .ok (.iconst 0, 1) := by decide +kernel
theorem dX10_init_688 : decode cX10_init 688 = .ok (.iconst 0, 1) := by decide +kernel
theorem dX10_init_689 : decode cX10_init 689 = .ok (.iconst 0, 1) := by decide +kernel
theorem dX10_init_690 : decode cX10_init 690 = .ok (.iconst 0, 1) := by decide +kernel
theorem dX10_init_691 : decode cX10_init 691 = .ok (.invokestatic 162, 3) := by decide +kernel
theorem dX10_init_694 : decode cX10_init 694 = .ok (.lastore, 1) := by decide +kernel
theorem dX10_init_695 : decode cX10_init 695 = .ok (.aload_n 0, 1) := by decide +kernel
theorem dX10_init_696 : decode cX10_init 696 = .ok (.getfield 34, 3) := by decide +kernel
theorem dX10_init_699 : decode cX10_init 699 = .ok (.bipush 14, 2) := by decide +kernel
theorem dX10_init_701 : decode cX10_init 701 = .ok (.bipush 109, 2) := by decide +kernel
theorem dX10_init_703 : decode cX10_init 703 = .ok (.bipush 111, 2) := by decide +kernel
theorem dX10_init_705 : decode cX10_init 705 = .ok (.bipush 111, 2) := by decide +kernel
theorem dX10_init_707 : decode cX10_init 707 = .ok (.bipush 110, 2) := by decide +kernel
theorem dX10_init_709 : decode cX10_init 709 = .ok (.iconst 0, 1) := by decide +kernel
theorem dX10_init_710 : decode cX10_init 710 = .ok (.iconst 0, 1) := by decide +kernel
theorem dX10_init_711 : decode cX10_init 711 = .ok (.iconst 0, 1) := by decide +kernel
theorem dX10_init_712 : decode cX10_init 712 = .ok (.invokestatic 162, 3) := by decide +kernel
theorem dX10_init_715 : decode cX10_init 715 = .ok (.lastore, 1) := by decide +kernel
theorem dX10_init_716 : decode cX10_init 716 = .ok (.aload_n 0, 1) := by decide +kernel
theorem dX10_init_717 : decode cX10_init 717 = .ok (.getfield 34, 3) := by decide +kernel
theorem dX10_init_720 : decode cX10_init 720 = .ok (.bipush 15, 2) := by decide +kernel
theorem dX10_init_722 : decode cX10_init 722 = .ok (.bipush 109, 2) := by decide +kernel
theorem dX10_init_724 : decode cX10_init 724 = .ok (.bipush 111, 2) := by decide +kernel
theorem dX10_init_726 : decode cX10_init 726 = .ok (.bipush 110, 2) := by decide +kernel
theorem dX10_init_728 : decode cX10_init 728 = .ok (.bipush 116, 2) := by decide +kernel
theorem dX10_init_730 : decode cX10_init 730 = .ok (.bipush 104, 2) := by decide +kernel
theorem dX10_init_732 : decode cX10_init 732 = .ok (.iconst 0, 1) := by decide +kernel
theorem dX10_init_733 : decode cX10_init 733 = .ok (.iconst 0, 1) := by decide +kernel
theorem dX10_init_734 : decode cX10_init 734 = .ok (.invokestatic 162, 3) := by decide +kernel
theorem dX10_init_737 : decode cX10_init 737 = .ok (.lastore, 1) := by decide +kernel
theorem dX10_init_738 : decode cX10_init 738 = .ok (.aload_n 0, 1) := by decide +kernel
theorem dX10_init_739 : decode cX10_init 739 = .ok (.getfield 34, 3) := by decide +kernel
theorem dX10_init_742 : decode cX10_init 742 = .ok (.bipush 16, 2) := by decide +kernel
theorem dX10_init_744 : decode cX10_init 744 = .ok (.bipush 119, 2) := by decide +kernel
theorem dX10_init_746 : decode cX10_init 746 = .ok (.bipush 101, 2) := by decide +kernel
theorem dX10_init_748 : decode cX10_init 748 = .ok (.bipush 105, 2) := by decide +kernel
theorem dX10_init_750 : decode cX10_init 750 = .ok (.bipush 103, 2) := by decide +kernel
theorem dX10_init_752 : decode cX10_init 752 = .ok (.bipush 104, 2) := by decide +kernel
theorem dX10_init_754 : decode cX10_init 754 = .ok (.bipush 116, 2) := by decide +kernel
theorem dX10_init_756 : decode cX10_init 756 = .ok (.iconst 0, 1) := by decide +kernel
theorem dX10_init_757 : decode cX10_init 757 = .ok (.invokestatic 162, 3) := by decide +kernel
theorem dX10_init_760 : decode cX10_init 760 = .ok (.lastore, 1) := by decide +kernel
theorem dX10_init_761 : decode cX10_init 761 = .ok (.aload_n 0, 1) := by decide +kernel
theorem dX10_init_762 : decode cX10_init 762 = .ok (.getfield 34, 3) := by decide +kernel
theorem dX10_init_765 : decode cX10_init 765 = .ok (.bipush 17, 2) := by decide +kernel
theorem dX10_init_767 : decode cX10_init 767 = .ok (.bipush 97, 2) := by decide +kernel
theorem dX10_init_769 : decode cX10_init 769 = .ok (.bipush 99, 2) := by decide +kernel
theorem dX10_init_771 : decode cX10_init 771 = .ok (.bipush 114, 2) := by decide +kernel
theorem dX10_init_773 : decode cX10_init 773 = .ok (.bipush 111, 2) := by decide +kernel
theorem dX10_init_775 : decode cX10_init 775 = .ok (.bipush 115, 2) := by decide +kernel
theorem dX10_init_777 : decode cX10_init 777 = .ok (.bipush 115, 2) := by decide +kernel
theorem dX10_init_779 : decode cX10_init 779 = .ok (.iconst 0, 1) := by decide +kernel
theorem dX10_init_780 : decode cX10_init 780 = .ok (.invokestatic 162, 3) := by decide +kernel
theorem dX10_init_783 : decode cX10_init 783 = .ok (.lastore, 1) := by decide +kernel
theorem dX10_init_784 : decode cX10_init 784 = .ok (.aload_n 0, 1) := by decide +kernel
theorem dX10_init_785 : decode cX10_init 785 = .ok (.getfield 34, 3) := by decide +kernel
theorem dX10_init_788 : decode cX10_init 788 = .ok (.bipush 18, 2) := by decide +kernel
theorem dX10_init_790 : decode cX10_init 790 = .ok (.bipush 100, 2) := by decide +kernel
theorem dX10_init_792 : decode cX10_init 792 = .ok (.bipush 111, 2) := by decide +kernel
theorem dX10_init_794 : decode cX10_init 794 = .ok (.bipush 119, 2) := by decide +kernel
theorem dX10_init_796 : decode cX10_init 796 = .ok (.bipush 110, 2) := by decide +kernel
theorem dX10_init_798 : decode cX10_init 798 = .ok (.iconst 0, 1) := by decide +kernel
theorem dX10_init_799 : decode cX10_init 799 = .ok (.iconst 0, 1) := by decide +kernel
theorem dX10_init_800 : decode cX10_init 800 = .ok (.iconst 0, 1) := by decide +kernel
theorem dX10_init_801 : decode cX10_init 801 = .ok (.invokestatic 162, 3) := by decide +kernel
theorem dX10_init_804 : decode cX10_init 804 = .ok (.lastore, 1) := by decide +kernel
theorem dX10_init_805 : decode cX10_init 805 = .ok (.aload_n 0, 1) := by decide +kernel
theorem dX10_init_806 : decode cX10_init 806 = .ok (.getfield 34, 3) := by decide +kernel
theorem dX10_init_809 : decode cX10_init 809 = .ok (.bipush 19, 2) := by decide +kernel
theorem dX10_init_811 : decode cX10_init 811 = .ok (.bipush 119, 2) := by decide +kernel
theorem dX10_init_813 : decode cX10_init 813 = .ok (.bipush 104, 2) := by decide +kernel
theorem dX10_init_815 : decode cX10_init 815 = .ok (.bipush 105, 2) := by decide +kernel
theorem dX10_init_817 : decode cX10_init 817 = .ok (.bipush 99, 2) := by decide +kernel
theorem dX10_init_819 : decode cX10_init 819 = .ok (.bipush 104, 2) := by decide +kernel
theorem dX10_init_821 : decode cX10_init 821 = .ok (.iconst 0, 1) := by decide +kernel
theorem dX10_init_822 : decode cX10_init 822 = .ok (.iconst 0, 1) := by decide +kernel
theorem dX10_init_823 : decode cX10_init 823 = .ok (.invokestatic 162, 3) := by decide +kernel
theorem dX10_init_826 : decode cX10_init 826 = .ok (.lastore, 1) := by decide +kernel
theorem dX10_init_827 : decode cX10_init 827 = .ok (.aload_n 0, 1) := by decide +kernel
theorem dX10_init_828 : decode cX10_init 828 = .ok (.getfield 34, 3) := by decide +kernel
theorem dX10_init_831 : decode cX10_init 831 = .ok (.bipush 20, 2) := by decide +kernel
theorem dX10_init_833 : decode cX10_init 833 = .ok (.bipush 119, 2) := by decide +kernel
theorem dX10_init_835 : decode cX10_init 835 = .ok (.bipush 101, 2) := by decide +kernel
theorem dX10_init_837 : decode cX10_init 837 = .ok (.bipush 97, 2) := by decide +kernel
theorem dX10_init_839 : decode cX10_init 839 = .ok (.bipush 114, 2) := by decide +kernel
theorem dX10_init_841 : decode cX10_init 841 = .ok (.bipush 115, 2) := by decide +kernel
theorem dX10_init_843 : decode cX10_init 843 = .ok (.iconst 0, 1) := by decide +kernel
theorem dX10_init_844 : decode cX10_init 844 = .ok (.iconst 0, 1) := by decide +kernel
theorem dX10_init_845 : decode cX10_init 845 = .ok (.invokestatic 162, 3) := by decide +kernel
theorem dX10_init_848 : decode cX10_init 848 = .ok (.lastore, 1) := by decide +kernel
theorem dX10_init_849 : decode cX10_init 849 = .ok (.aload_n 0, 1) := by decide +kernel
theorem dX10_init_850 : decode cX10_init 850 = .ok (.invokevirtual 166, 3) := by decide +kernel
theorem dX10_init_853 : decode cX10_init 853 = .ok (.aload_n 0, 1) := by decide +kernel
theorem dX10_init_854 : decode cX10_init 854 = .ok (.invokevirtual 169, 3) := by decide +kernel
theorem dX10_init_857 : decode cX10_init 857 = .ok (.return_, 1) := by decide +kernel
theorem dX10_feed_0 : decode cX10_feed 0 = .ok (.aload_n 0, 1) := by decide +kernel
theorem dX10_feed_1 : decode cX10_feed 1 = .ok (.getfield 172, 3) := by decide +kernel
theorem dX10_feed_4 : decode cX10_feed 4 = .ok (.bipush 20, 2) := by decide +kernel
theorem dX10_feed_6 : decode cX10_feed 6 = .ok (.iadd, 1) := by decide +kernel
theorem dX10_feed_7 : decode cX10_feed 7 = .ok (.sipush 2000, 3) := by decide +kernel
theorem dX10_feed_10 : decode cX10_feed 10 = .ok (.if_icmp .le 5, 3) := by decide +kernel
theorem dX10_feed_13 : decode cX10_feed 13 = .ok (.iconst (-1), 1) := by decide +kernel
theorem dX10_feed_14 : decode cX10_feed 14 = .ok (.ireturn, 1) := by decide +kernel
theorem dX10_feed_15 : decode cX10_feed 15 = .ok (.aload_n 0, 1) := by decide +kernel
theorem dX10_feed_16 : decode cX10_feed 16 = .ok (.iload_n 1, 1) := by decide +kernel
theorem dX10_feed_17 : decode cX10_feed 17 = .ok (.invokevirtual 175, 3) := by decide +kernel
theorem dX10_feed_20 : decode cX10_feed 20 = .ok (.aload_n 0, 1) := by decide +kernel
theorem dX10_feed_21 : decode cX10_feed 21 = .ok (.iload_n 2, 1) := by decide +kernel
theorem dX10_feed_22 : decode cX10_feed 22 = .ok (.invokevirtual 175, 3) := by decide +kernel
theorem dX10_feed_25 : decode cX10_feed 25 = .ok (.aload_n 0, 1) := by decide +kernel
theorem dX10_feed_26 : decode cX10_feed 26 = .ok (.iload_n 3, 1) := by decide +kernel
theorem dX10_feed_27 : decode cX10_feed 27 = .ok (.invokevirtual 175, 3) := by decide +kernel
theorem dX10_feed_30 : decode cX10_feed 30 = .ok (.aload_n 0, 1) := by decide +kernel
theorem dX10_feed_31 : decode cX10_feed 31 = .ok (.iload 4, 2) := by decide +kernel
theorem dX10_feed_33 : decode cX10_feed 33 = .ok (.invokevirtual 175, 3) := by decide +kernel
theorem dX10_feed_36 : decode cX10_feed 36 = .ok (.aload_n 0, 1) := by decide +kernel
theorem dX10_feed_37 : decode cX10_feed 37 = .ok (.iload 5, 2) := by decide +kernel
theorem dX10_feed_39 : decode cX10_feed 39 = .ok (.invokevirtual 175, 3) := by decide +kernel
theorem dX10_feed_42 : decode cX10_feed 42 = .ok (.aload_n 0, 1) := by decide +kernel
theorem dX10_feed_43 : decode cX10_feed 43 = .ok (.getfield 172, 3) := by decide +kernel
theorem dX10_feed_46 : decode cX10_feed 46 = .ok (.ireturn, 1) := by decide +kernel
theorem dX10_put_0 : decode cX10_put 0 = .ok (.bipush 24, 2) := by decide +kernel
theorem dX10_put_2 : decode cX10_put 2 = .ok (.istore_n 2, 1) := by decide +kernel
theorem dX10_put_3 : decode cX10_put 3 = .ok (.iload_n 2, 1) := by decide +kernel
theorem dX10_put_4 : decode cX10_put 4 = .ok (.ifCond .lt 32, 3) := by decide +kernel
theorem dX10_put_7 : decode cX10_put 7 = .ok (.aload_n 0, 1) := by decide +kernel
theorem dX10_put_8 : decode cX10_put 8 = .ok (.getfield 13, 3) := by decide +kernel
theorem dX10_put_11 : decode cX10_put 11 = .ok (.aload_n 0, 1) := by decide +kernel
theorem dX10_put_12 : decode cX10_put 12 = .ok (.getfield 172, 3) := by decide +kernel
theorem dX10_put_15 : decode cX10_put 15 = .ok (.iload_n 1, 1) := by decide +kernel
theorem dX10_put_16 : decode cX10_put 16 = .ok (.iload_n 2, 1) := by decide +kernel
theorem dX10_put_17 : decode cX10_put 17 = .ok (.ishr, 1) := by decide +kernel
theorem dX10_put_18 : decode cX10_put 18 = .ok (.i2b, 1) := by decide +kernel
theorem dX10_put_19 : decode cX10_put 19 = .ok (.bastore, 1) := by decide +kernel
theorem dX10_put_20 : decode cX10_put 20 = .ok (.aload_n 0, 1) := by decide +kernel
theorem dX10_put_21 : decode cX10_put 21 = .ok (.dup, 1) := by decide +kernel
theorem dX10_put_22 : decode cX10_put 22 = .ok (.getfield 172, 3) := by decide +kernel
theorem dX10_put_25 : decode cX10_put 25 = .ok (.iconst 1, 1) := by decide +kernel
theorem dX10_put_26 : decode cX10_put 26 = .ok (.iadd, 1) := by decide +kernel
theorem dX10_put_27 : decode cX10_put 27 = .ok (.putfield 172, 3) := by decide +kernel
theorem dX10_put_30 : decode cX10_put 30 = .ok (.iinc 2 (-8), 3) := by decide +kernel
theorem dX10_put_33 : decode cX10_put 33 = .ok (.goto (-30), 3) := by decide +kernel
theorem dX10_put_36 : decode cX10_put 36 = .ok (.return_, 1) := by decide +kernel
theorem dX10_back_0 : decode cX10_back 0 = .ok (.iload_n 1, 1) := by decide +kernel
theorem dX10_back_1 : decode cX10_back 1 = .ok (.ifCond .lt 11, 3) := by decide +kernel
theorem dX10_back_4 : decode cX10_back 4 = .ok (.iload_n 1, 1) := by decide +kernel
theorem dX10_back_5 : decode cX10_back 5 = .ok (.aload_n 0, 1) := by decide +kernel
theorem dX10_back_6 : decode cX10_back 6 = .ok (.getfield 172, 3) := by decide +kernel
theorem dX10_back_9 : decode cX10_back 9 = .ok (.if_icmp .le 5, 3) := by decide +kernel
theorem dX10_back_12 : decode cX10_back 12 = .ok (.iconst (-1), 1) := by decide +kernel
theorem dX10_back_13 : decode cX10_back 13 = .ok (.ireturn, 1) := by decide +kernel
theorem dX10_back_14 : decode cX10_back 14 = .ok (.aload_n 0, 1) := by decide +kernel
theorem dX10_back_15 : decode cX10_back 15 = .ok (.dup, 1) := by decide +kernel
theorem dX10_back_16 : decode cX10_back 16 = .ok (.getfield 172, 3) := by decide +kernel
theorem dX10_back_19 : decode cX10_back 19 = .ok (.iload_n 1, 1) := by decide +kernel
theorem dX10_back_20 : decode cX10_back 20 = .ok (.isub, 1) := by decide +kernel
theorem dX10_back_21 : decode cX10_back 21 = .ok (.putfield 172, 3) := by decide +kernel
theorem dX10_back_24 : decode cX10_back 24 = .ok (.aload_n 0, 1) := by decide +kernel
theorem dX10_back_25 : decode cX10_back 25 = .ok (.getfield 172, 3) := by decide +kernel
theorem dX10_back_28 : decode cX10_back 28 = .ok (.ireturn, 1) := by decide +kernel
theorem dX10_byteAt_0 : decode cX10_byteAt 0 = .ok (.iload_n 1, 1) := by decide +kernel
theorem dX10_byteAt_1 : decode cX10_byteAt 1 = .ok (.aload_n 0, 1) := by decide +kernel
theorem dX10_byteAt_2 : decode cX10_byteAt 2 = .ok (.getfield 178, 3) := by decide +kernel
theorem dX10_byteAt_5 : decode cX10_byteAt 5 = .ok (.if_icmp .ge 16, 3) := by decide +kernel
theorem dX10_byteAt_8 : decode cX10_byteAt 8 = .ok (.aload_n 0, 1) := by decide +kernel
theorem dX10_byteAt_9 : decode cX10_byteAt 9 = .ok (.getfield 17, 3) := by decide +kernel
theorem dX10_byteAt_12 : decode cX10_byteAt 12 = .ok (.iload_n 1, 1) := by decide +kernel
theorem dX10_byteAt_13 : decode cX10_byteAt 13 = .ok (.baload, 1) := by decide +kernel
theorem dX10_byteAt_14 : decode cX10_byteAt 14 = .ok (.sipush 255, 3) := by decide +kernel
theorem dX10_byteAt_17 : decode cX10_byteAt 17 = .ok (.iand, 1) := by decide +kernel
theorem dX10_byteAt_18 : decode cX10_byteAt 18 = .ok (.goto 4, 3) := by decide +kernel
theorem dX10_byteAt_21 : decode cX10_byteAt 21 = .ok (.iconst 0, 1) := by decide +kernel
theorem dX10_byteAt_22 : decode cX10_byteAt 22 = .ok (.ireturn, 1) := by decide +kernel
theorem dX10_isDigit_0 : decode cX10_isDigit 0 = .ok (.iload_n 0, 1) := by decide +kernel
theorem dX10_isDigit_1 : decode cX10_isDigit 1 = .ok (.bipush 48, 2) := by decide +kernel
theorem dX10_isDigit_3 : decode cX10_isDigit 3 = .ok (.if_icmp .lt 13, 3) := by decide +kernel
theorem dX10_isDigit_6 : decode cX10_isDigit 6 = .ok (.iload_n 0, 1) := by decide +kernel
theorem dX10_isDigit_7 : decode cX10_isDigit 7 = .ok (.bipush 57, 2) := by decide +kernel
theorem dX10_isDigit_9 : decode cX10_isDigit 9 = .ok (.if_icmp .gt 7, 3) := by decide +kernel
theorem dX10_isDigit_12 : decode cX10_isDigit 12 = .ok (.iconst 1, 1) := by decide +kernel
theorem dX10_isDigit_13 : decode cX10_isDigit 13 = .ok (.goto 4, 3) := by decide +kernel
theorem dX10_isDigit_16 : decode cX10_isDigit 16 = .ok (.iconst 0, 1) := by decide +kernel
theorem dX10_isDigit_17 : decode cX10_isDigit 17 = .ok (.ireturn, 1) := by decide +kernel
theorem dX10_isLetter_0 : decode cX10_isLetter 0 = .ok (.iload_n 0, 1) := by decide +kernel
theorem dX10_isLetter_1 : decode cX10_isLetter 1 = .ok (.bipush 97, 2) := by decide +kernel
theorem dX10_isLetter_3 : decode cX10_isLetter 3 = .ok (.if_icmp .lt 13, 3) := by decide +kernel
theorem dX10_isLetter_6 : decode cX10_isLetter 6 = .ok (.iload_n 0, 1) := by decide +kernel
theorem dX10_isLetter_7 : decode cX10_isLetter 7 = .ok (.bipush 122, 2) := by decide +kernel
theorem dX10_isLetter_9 : decode cX10_isLetter 9 = .ok (.if_icmp .gt 7, 3) := by decide +kernel
theorem dX10_isLetter_12 : decode cX10_isLetter 12 = .ok (.iconst 1, 1) := by decide +kernel
theorem dX10_isLetter_13 : decode cX10_isLetter 13 = .ok (.goto 4, 3) := by decide +kernel
theorem dX10_isLetter_16 : decode cX10_isLetter 16 = .ok (.iconst 0, 1) := by decide +kernel
theorem dX10_isLetter_17 : decode cX10_isLetter 17 = .ok (.ireturn, 1) := by decide +kernel
theorem dX10_appends_0 : decode cX10_appends 0 = .ok (.iload_n 2, 1) := by decide +kernel
theorem dX10_appends_1 : decode cX10_appends 1 = .ok (.ifCond .ne 7, 3) := by decide +kernel
theorem dX10_appends_4 : decode cX10_appends 4 = .ok (.lload_n 0, 1) := by decide +kernel
theorem dX10_appends_5 : decode cX10_appends 5 = .ok (.goto 16, 3) := by decide +kernel
theorem dX10_appends_8 : decode cX10_appends 8 = .ok (.ldc2_w 181, 3) := by decide +kernel
theorem dX10_appends_11 : decode cX10_appends 11 = .ok (.lload_n 0, 1) := by decide +kernel
theorem dX10_appends_12 : decode cX10_appends 12 = .ok (.lmul, 1) := by decide +kernel
theorem dX10_appends_13 : decode cX10_appends 13 = .ok (.iload_n 2, 1) := by decide +kernel
theorem dX10_appends_14 : decode cX10_appends 14 = .ok (.bipush 97, 2) := by decide +kernel
theorem dX10_appends_16 : decode cX10_appends 16 = .ok (.isub, 1) := by decide +kernel
theorem dX10_appends_17 : decode cX10_appends 17 = .ok (.iconst 1, 1) := by decide +kernel
theorem dX10_appends_18 : decode cX10_appends 18 = .ok (.iadd, 1) := by decide +kernel
theorem dX10_appends_19 : decode cX10_appends 19 = .ok (.i2l, 1) := by decide +kernel
theorem dX10_appends_20 : decode cX10_appends 20 = .ok (.ladd, 1) := by decide +kernel
theorem dX10_appends_21 : decode cX10_appends 21 = .ok (.lreturn, 1) := by decide +kernel
theorem dX10_word_0 : decode cX10_word 0 = .ok (.lconst 0, 1) := by decide +kernel
theorem dX10_word_1 : decode cX10_word 1 = .ok (.iload_n 0, 1) := by decide +kernel
theorem dX10_word_2 : decode cX10_word 2 = .ok (.invokestatic 183, 3) := by decide +kernel
theorem dX10_word_5 : decode cX10_word 5 = .ok (.iload_n 1, 1) := by decide +kernel
theorem dX10_word_6 : decode cX10_word 6 = .ok (.invokestatic 183, 3) := by decide +kernel
theorem dX10_word_9 : decode cX10_word 9 = .ok (.iload_n 2, 1) := by decide +kernel
theorem dX10_word_10 : decode cX10_word 10 = .ok (.invokestatic 183, 3) := by decide +kernel
theorem dX10_word_13 : decode cX10_word 13 = .ok (.iload_n 3, 1) := by decide +kernel
theorem dX10_word_14 : decode cX10_word 14 = .ok (.invokestatic 183, 3) := by decide +kernel
theorem dX10_word_17 : decode cX10_word 17 = .ok (.iload 4, 2) := by decide +kernel
theorem dX10_word_19 : decode cX10_word 19 = .ok (.invokestatic 183, 3) := by decide +kernel
theorem dX10_word_22 : decode cX10_word 22 = .ok (.iload 5, 2) := by decide +kernel
theorem dX10_word_24 : decode cX10_word 24 = .ok (.invokestatic 183, 3) := by decide +kernel
theorem dX10_word_27 : decode cX10_word 27 = .ok (.iload 6, 2) := by decide +kernel
theorem dX10_word_29 : decode cX10_word 29 = .ok (.invokestatic 183, 3) := by decide +kernel
theorem dX10_word_32 : decode cX10_word 32 = .ok (.lreturn, 1) := by decide +kernel
theorem dX10_token_0 : decode cX10_token 0 = .ok (.aload_n 0, 1) := by decide +kernel
theorem dX10_token_1 : decode cX10_token 1 = .ok (.getfield 20, 3) := by decide +kernel
theorem dX10_token_4 : decode cX10_token 4 = .ok (.aload_n 0, 1) := by decide +kernel
theorem dX10_token_5 : decode cX10_token 5 = .ok (.getfield 187, 3) := by decide +kernel
theorem dX10_token_8 : decode cX10_token 8 = .ok (.iload_n 1, 1) := by decide +kernel
theorem dX10_token_9 : decode cX10_token 9 = .ok (.iastore, 1) := by decide +kernel
theorem dX10_token_10 : decode cX10_token 10 = .ok (.aload_n 0, 1) := by decide +kernel
theorem dX10_token_11 : decode cX10_token 11 = .ok (.getfield 24, 3) := by decide +kernel
theorem dX10_token_14 : decode cX10_token 14 = .ok (.aload_n 0, 1) := by decide +kernel
theorem dX10_token_15 : decode cX10_token 15 = .ok (.getfield 187, 3) := by decide +kernel
theorem dX10_token_18 : decode cX10_token 18 = .ok (.iload_n 2, 1) := by decide +kernel
theorem dX10_token_19 : decode cX10_token 19 = .ok (.iastore, 1) := by decide +kernel
theorem dX10_token_20 : decode cX10_token 20 = .ok (.aload_n 0, 1) := by decide +kernel
theorem dX10_token_21 : decode cX10_token 21 = .ok (.getfield 27, 3) := by decide +kernel
theorem dX10_token_24 : decode cX10_token 24 = .ok (.aload_n 0, 1) := by decide +kernel
theorem dX10_token_25 : decode cX10_token 25 = .ok (.getfield 187, 3) := by decide +kernel
theorem dX10_token_28 : decode cX10_token 28 = .ok (.iload_n 3, 1) := by decide +kernel
theorem dX10_token_29 : decode cX10_token 29 = .ok (.iastore, 1) := by decide +kernel
theorem dX10_token_30 : decode cX10_token 30 = .ok (.aload_n 0, 1) := by decide +kernel
theorem dX10_token_31 : decode cX10_token 31 = .ok (.getfield 30, 3) := by decide +kernel
theorem dX10_token_34 : decode cX10_token 34 = .ok (.aload_n 0, 1) := by decide +kernel
theorem dX10_token_35 : decode cX10_token 35 = .ok (.getfield 187, 3) := by decide +kernel
theorem dX10_token_38 : decode cX10_token 38 = .ok (.lload 4, 2) := by decide +kernel
theorem dX10_token_40 : decode cX10_token 40 = .ok (.lastore, 1) := by decide +kernel
theorem dX10_token_41 : decode cX10_token 41 = .ok (.aload_n 0, 1) := by decide +kernel
theorem dX10_token_42 : decode cX10_token 42 = .ok (.dup, 1) := by decide +kernel
theorem dX10_token_43 : decode cX10_token 43 = .ok (.getfield 187, 3) := by decide +kernel
theorem dX10_token_46 : decode cX10_token 46 = .ok (.iconst 1, 1) := by decide +kernel
theorem dX10_token_47 : decode cX10_token 47 = .ok (.iadd, 1) := by decide +kernel
theorem dX10_token_48 : decode cX10_token 48 = .ok (.putfield 187, 3) := by decide +kernel
theorem dX10_token_51 : decode cX10_token 51 = .ok (.return_, 1) := by decide +kernel
theorem dX10_cutsUp_0 : decode cX10_cutsUp 0 = .ok (.aload_n 0, 1) := by decide +kernel
theorem dX10_cutsUp_1 : decode cX10_cutsUp 1 = .ok (.iconst 0, 1) := by decide +kernel
theorem dX10_cutsUp_2 : decode cX10_cutsUp 2 = .ok (.putfield 187, 3) := by decide +kernel
theorem dX10_cutsUp_5 : decode cX10_cutsUp 5 = .ok (.iconst 0, 1) := by decide +kernel
theorem dX10_cutsUp_6 : decode cX10_cutsUp 6 = .ok (.istore_n 1, 1) := by decide +kernel
theorem dX10_cutsUp_7 : decode cX10_cutsUp 7 = .ok (.aload_n 0, 1) := by decide +kernel
theorem dX10_cutsUp_8 : decode cX10_cutsUp 8 = .ok (.getfield 187, 3) := by decide +kernel
theorem dX10_cutsUp_11 : decode cX10_cutsUp 11 = .ok (.sipush 400, 3) := by decide +kernel
theorem dX10_cutsUp_14 : decode cX10_cutsUp 14 = .ok (.if_icmp .gt 280, 3) := by decide +kernel
theorem dX10_cutsUp_17 : decode cX10_cutsUp 17 = .ok (.aload_n 0, 1) := by decide +kernel
theorem dX10_cutsUp_18 : decode cX10_cutsUp 18 = .ok (.iload_n 1, 1) := by decide +kernel
theorem dX10_cutsUp_19 : decode cX10_cutsUp 19 = .ok (.invokevirtual 190, 3) := by decide +kernel
theorem dX10_cutsUp_22 : decode cX10_cutsUp 22 = .ok (.istore_n 2, 1) := by decide +kernel
theorem dX10_cutsUp_23 : decode cX10_cutsUp 23 = .ok (.iload_n 1, 1) := by decide +kernel
theorem dX10_cutsUp_24 : decode cX10_cutsUp 24 = .ok (.aload_n 0, 1) := by decide +kernel
theorem dX10_cutsUp_25 : decode cX10_cutsUp 25 = .ok (.getfield 178, 3) := by decide +kernel
theorem dX10_cutsUp_28 : decode cX10_cutsUp 28 = .ok (.if_icmp .lt 15, 3) := by decide +kernel
theorem dX10_cutsUp_31 : decode cX10_cutsUp 31 = .ok (.aload_n 0, 1) := by decide +kernel
theorem dX10_cutsUp_32 : decode cX10_cutsUp 32 = .ok (.iconst 0, 1) := by decide +kernel
theorem dX10_cutsUp_33 : decode cX10_cutsUp 33 = .ok (.aload_n 0, 1) := by decide +kernel
theorem dX10_cutsUp_34 : decode cX10_cutsUp 34 = .ok (.getfield 178, 3) := by decide +kernel
theorem dX10_cutsUp_37 : decode cX10_cutsUp 37 = .ok (.iconst 0, 1) := by decide +kernel
theorem dX10_cutsUp_38 : decode cX10_cutsUp 38 = .ok (.lconst 0, 1) := by decide +kernel
theorem dX10_cutsUp_39 : decode cX10_cutsUp 39 = .ok (.invokevirtual 194, 3) := by decide +kernel
theorem dX10_cutsUp_42 : decode cX10_cutsUp 42 = .ok (.return_, 1) := by decide +kernel
theorem dX10_cutsUp_43 : decode cX10_cutsUp 43 = .ok (.iload_n 2, 1) := by decide +kernel
theorem dX10_cutsUp_44 : decode cX10_cutsUp 44 = .ok (.bipush 9, 2) := by decide +kernel
theorem dX10_cutsUp_46 : decode cX10_cutsUp 46 = .ok (.if_icmp .eq 21, 3) := by decide +kernel
theorem dX10_cutsUp_49 : decode cX10_cutsUp 49 = .ok (.iload_n 2, 1) := by decide +kernel
theorem dX10_cutsUp_50 : decode cX10_cutsUp 50 = .ok (.bipush 10, 2) := by decide +kernel
theorem dX10_cutsUp_52 : decode cX10_cutsUp 52 = .ok (.if_icmp .eq 15, 3) := by decide +kernel
theorem dX10_cutsUp_55 : decode cX10_cutsUp 55 = .ok (.iload_n 2, 1) := by decide +kernel
theorem dX10_cutsUp_56 : decode cX10_cutsUp 56 = .ok (.bipush 13, 2) := by decide +kernel
theorem dX10_cutsUp_58 : decode cX10_cutsUp 58 = .ok (.if_icmp .eq 9, 3) := by decide +kernel
theorem dX10_cutsUp_61 : decode cX10_cutsUp 61 = .ok (.iload_n 2, 1) := by decide +kernel
theorem dX10_cutsUp_62 : decode cX10_cutsUp 62 = .ok (.bipush 32, 2) := by decide +kernel
theorem dX10_cutsUp_64 : decode cX10_cutsUp 64 = .ok (.if_icmp .ne 9, 3) := by decide +kernel
theorem dX10_cutsUp_67 : decode cX10_cutsUp 67 = .ok (.iinc 1 1, 3) := by decide +kernel
theorem dX10_cutsUp_70 : decode cX10_cutsUp 70 = .ok (.goto 221, 3) := by decide +kernel
theorem dX10_cutsUp_73 : decode cX10_cutsUp 73 = .ok (.iload_n 2, 1) := by decide +kernel
theorem dX10_cutsUp_74 : decode cX10_cutsUp 74 = .ok (.invokestatic 198, 3) := by decide +kernel
theorem dX10_cutsUp_77 : decode cX10_cutsUp 77 = .ok (.ifCond .eq 119, 3) := by decide +kernel
theorem dX10_cutsUp_80 : decode cX10_cutsUp 80 = .ok (.iconst 0, 1) := by decide +kernel
theorem dX10_cutsUp_81 : decode cX10_cutsUp 81 = .ok (.istore_n 3, 1) := by decide +kernel
theorem dX10_cutsUp_82 : decode cX10_cutsUp 82 = .ok (.lconst 0, 1) := by decide +kernel
theorem dX10_cutsUp_83 : decode cX10_cutsUp 83 = .ok (.lstore 4, 2) := by decide +kernel
theorem dX10_cutsUp_85 : decode cX10_cutsUp 85 = .ok (.aload_n 0, 1) := by decide +kernel
theorem dX10_cutsUp_86 : decode cX10_cutsUp 86 = .ok (.iload_n 1, 1) := by decide +kernel
theorem dX10_cutsUp_87 : decode cX10_cutsUp 87 = .ok (.iload_n 3, 1) := by decide +kernel
theorem dX10_cutsUp_88 : decode cX10_cutsUp 88 = .ok (.iadd, 1) := by decide +kernel
theorem dX10_cutsUp_89 : decode cX10_cutsUp 89 = .ok (.invokevirtual 190, 3) := by decide +kernel
theorem dX10_cutsUp_92 : decode cX10_cutsUp 92 = .ok (.invokestatic 198, 3) := by decide +kernel
theorem dX10_cutsUp_95 : decode cX10_cutsUp 95 = .ok (.ifCond .eq 29, 3) := by decide +kernel
theorem dX10_cutsUp_98 : decode cX10_cutsUp 98 = .ok (.iload_n 3, 1) := by decide +kernel
theorem dX10_cutsUp_99 : decode cX10_cutsUp 99 = .ok (.bipush 8, 2) := by decide +kernel
theorem dX10_cutsUp_101 : decode cX10_cutsUp 101 = .ok (.if_icmp .ge 17, 3) := by decide +kernel
theorem dX10_cutsUp_104 : decode cX10_cutsUp 104 = .ok (.lload 4, 2) := by decide +kernel
theorem dX10_cutsUp_106 : decode cX10_cutsUp 106 = .ok (.aload_n 0, 1) := by decide +kernel
theorem dX10_cutsUp_107 : decode cX10_cutsUp 107 = .ok (.iload_n 1, 1) := by decide +kernel
theorem dX10_cutsUp_108 : decode cX10_cutsUp 108 = .ok (.iload_n 3, 1) := by decide +kernel
theorem dX10_cutsUp_109 : decode cX10_cutsUp 109 = .ok (.iadd, 1) := by decide +kernel
theorem dX10_cutsUp_110 : decode cX10_cutsUp 110 = .ok (.invokevirtual 190, 3) := by decide +kernel
theorem dX10_cutsUp_113 : decode cX10_cutsUp 113 = .ok (.invokestatic 183, 3) := by decide +kernel
theorem dX10_cutsUp_116 : decode cX10_cutsUp 116 = .ok (.lstore 4, 2) := by decide +kernel
theorem dX10_cutsUp_118 : decode cX10_cutsUp 118 = .ok (.iinc 3 1, 3) := by decide +kernel
theorem dX10_cutsUp_121 : decode cX10_cutsUp 121 = .ok (.goto (-36), 3) := by decide +kernel
theorem dX10_cutsUp_124 : decode cX10_cutsUp 124 = .ok (.iload_n 3, 1) := by decide +kernel
theorem dX10_cutsUp_125 : decode cX10_cutsUp 125 = .ok (.bipush 8, 2) := by decide +kernel
theorem dX10_cutsUp_127 : decode cX10_cutsUp 127 = .ok (.if_icmp .le 7, 3) := by decide +kernel
theorem dX10_cutsUp_130 : decode cX10_cutsUp 130 = .ok (.iconst 3, 1) := by decide +kernel
theorem dX10_cutsUp_131 : decode cX10_cutsUp 131 = .ok (.goto 4, 3) := by decide +kernel
theorem dX10_cutsUp_134 : decode cX10_cutsUp 134 = .ok (.iconst 1, 1) := by decide +kernel
theorem dX10_cutsUp_135 : decode cX10_cutsUp 135 = .ok (.istore 6, 2) := by decide +kernel
theorem dX10_cutsUp_137 : decode cX10_cutsUp 137 = .ok (.iload_n 3, 1) := by decide +kernel
theorem dX10_cutsUp_138 : decode cX10_cutsUp 138 = .ok (.bipush 8, 2) := by decide +kernel
theorem dX10_cutsUp_140 : decode cX10_cutsUp 140 = .ok (.if_icmp .gt 39, 3) := by decide +kernel
theorem dX10_cutsUp_143 : decode cX10_cutsUp 143 = .ok (.iconst 0, 1) := by decide +kernel
theorem dX10_cutsUp_144 : decode cX10_cutsUp 144 = .ok (.istore 7, 2) := by decide +kernel
theorem dX10_cutsUp_146 : decode cX10_cutsUp 146 = .ok (.iload 7, 2) := by decide +kernel
theorem dX10_cutsUp_148 : decode cX10_cutsUp 148 = .ok (.bipush 21, 2) := by decide +kernel
theorem dX10_cutsUp_150 : decode cX10_cutsUp 150 = .ok (.if_icmp .ge 29, 3) := by decide +kernel
theorem dX10_cutsUp_153 : decode cX10_cutsUp 153 = .ok (.aload_n 0, 1) := by decide +kernel
theorem dX10_cutsUp_154 : decode cX10_cutsUp 154 = .ok (.getfield 34, 3) := by decide +kernel
theorem dX10_cutsUp_157 : decode cX10_cutsUp 157 = .ok (.iload 7, 2) := by decide +kernel
theorem dX10_cutsUp_159 : decode cX10_cutsUp 159 = .ok (.laload, 1) := by decide +kernel
theorem dX10_cutsUp_160 : decode cX10_cutsUp 160 = .ok (.lload 4, 2) := by decide +kernel
theorem dX10_cutsUp_162 : decode cX10_cutsUp 162 = .ok (.lcmp, 1) := by decide +kernel
theorem dX10_cutsUp_163 : decode cX10_cutsUp 163 = .ok (.ifCond .ne 10, 3) := by decide +kernel
theorem dX10_cutsUp_166 : decode cX10_cutsUp 166 = .ok (.bipush 20, 2) := by decide +kernel
theorem dX10_cutsUp_168 : decode cX10_cutsUp 168 = .ok (.iload 7, 2) := by decide +kernel
theorem dX10_cutsUp_170 : decode cX10_cutsUp 170 = .ok (.iadd, 1) := by decide +kernel
theorem dX10_cutsUp_171 : decode cX10_cutsUp 171 = .ok (.istore 6, 2) := by decide +kernel
theorem dX10_cutsUp_173 : decode cX10_cutsUp 173 = .ok (.iinc 7 1, 3) := by decide +kernel
theorem dX10_cutsUp_176 : decode cX10_cutsUp 176 = .ok (.goto (-30), 3) := by decide +kernel
theorem dX10_cutsUp_179 : decode cX10_cutsUp 179 = .ok (.aload_n 0, 1) := by decide +kernel
theorem dX10_cutsUp_180 : decode cX10_cutsUp 180 = .ok (.iload 6, 2) := by decide +kernel
theorem dX10_cutsUp_182 : decode cX10_cutsUp 182 = .ok (.iload_n 1, 1) := by decide +kernel
theorem dX10_cutsUp_183 : decode cX10_cutsUp 183 = .ok (.iconst 0, 1) := by decide +kernel
theorem dX10_cutsUp_184 : decode cX10_cutsUp 184 = .ok (.lload 4, 2) := by decide +kernel
theorem dX10_cutsUp_186 : decode cX10_cutsUp 186 = .ok (.invokevirtual 194, 3) := by decide +kernel
theorem dX10_cutsUp_189 : decode cX10_cutsUp 189 = .ok (.iload_n 1, 1) := by decide +kernel
theorem dX10_cutsUp_190 : decode cX10_cutsUp 190 = .ok (.iload_n 3, 1) := by decide +kernel
theorem dX10_cutsUp_191 : decode cX10_cutsUp 191 = .ok (.iadd, 1) := by decide +kernel
theorem dX10_cutsUp_192 : decode cX10_cutsUp 192 = .ok (.istore_n 1, 1) := by decide +kernel
theorem dX10_cutsUp_193 : decode cX10_cutsUp 193 = .ok (.goto 98, 3) := by decide +kernel
theorem dX10_cutsUp_196 : decode cX10_cutsUp 196 = .ok (.iload_n 2, 1) := by decide +kernel
theorem dX10_cutsUp_197 : decode cX10_cutsUp 197 = .ok (.invokestatic 202, 3) := by decide +kernel
theorem dX10_cutsUp_200 : decode cX10_cutsUp 200 = .ok (.ifCond .eq 75, 3) := by decide +kernel
theorem dX10_cutsUp_203 : decode cX10_cutsUp 203 = .ok (.iconst 0, 1) := by decide +kernel
theorem dX10_cutsUp_204 : decode cX10_cutsUp 204 = .ok (.istore_n 3, 1) := by decide +kernel
theorem dX10_cutsUp_205 : decode cX10_cutsUp 205 = .ok (.iconst 0, 1) := by decide +kernel
theorem dX10_cutsUp_206 : decode cX10_cutsUp 206 = .ok (.istore 4, 2) := by decide +kernel
theorem dX10_cutsUp_208 : decode cX10_cutsUp 208 = .ok (.aload_n 0, 1) := by decide +kernel
theorem dX10_cutsUp_209 : decode cX10_cutsUp 209 = .ok (.iload_n 1, 1) := by decide +kernel
theorem dX10_cutsUp_210 : decode cX10_cutsUp 210 = .ok (.iload_n 3, 1) := by decide +kernel
theorem dX10_cutsUp_211 : decode cX10_cutsUp 211 = .ok (.iadd, 1) := by decide +kernel
theorem dX10_cutsUp_212 : decode cX10_cutsUp 212 = .ok (.invokevirtual 190, 3) := by decide +kernel
theorem dX10_cutsUp_215 : decode cX10_cutsUp 215 = .ok (.invokestatic 202, 3) := by decide +kernel
theorem dX10_cutsUp_218 : decode cX10_cutsUp 218 = .ok (.ifCond .eq 32, 3) := by decide +kernel
theorem dX10_cutsUp_221 : decode cX10_cutsUp 221 = .ok (.iload_n 3, 1) := by decide +kernel
theorem dX10_cutsUp_222 : decode cX10_cutsUp 222 = .ok (.iconst 4, 1) := by decide +kernel
theorem dX10_cutsUp_223 : decode cX10_cutsUp 223 = .ok (.if_icmp .ge 21, 3) := by decide +kernel
theorem dX10_cutsUp_226 : decode cX10_cutsUp 226 = .ok (.bipush 10, 2) := by decide +kernel
theorem dX10_cutsUp_228 : decode cX10_cutsUp 228 = .ok (.iload 4, 2) := by decide +kernel
theorem dX10_cutsUp_230 : decode cX10_cutsUp 230 = .ok (.imul, 1) := by decide +kernel
theorem dX10_cutsUp_231 : decode cX10_cutsUp 231 = .ok (.aload_n 0, 1) := by decide +kernel
theorem dX10_cutsUp_232 : decode cX10_cutsUp 232 = .ok (.iload_n 1, 1) := by decide +kernel
theorem dX10_cutsUp_233 : decode cX10_cutsUp 233 = .ok (.iload_n 3, 1) := by decide +kernel
theorem dX10_cutsUp_234 : decode cX10_cutsUp 234 = .ok (.iadd, 1) := by decide +kernel
theorem dX10_cutsUp_235 : decode cX10_cutsUp 235 = .ok (.invokevirtual 190, 3) := by decide +kernel
theorem dX10_cutsUp_238 : decode cX10_cutsUp 238 = .ok (.iadd, 1) := by decide +kernel
theorem dX10_cutsUp_239 : decode cX10_cutsUp 239 = .ok (.bipush 48, 2) := by decide +kernel
theorem dX10_cutsUp_241 : decode cX10_cutsUp 241 = .ok (.isub, 1) := by decide +kernel
theorem dX10_cutsUp_242 : decode cX10_cutsUp 242 = .ok (.istore 4, 2) := by decide +kernel
theorem dX10_cutsUp_244 : decode cX10_cutsUp 244 = .ok (.iinc 3 1, 3) := by decide +kernel
theorem dX10_cutsUp_247 : decode cX10_cutsUp 247 = .ok (.goto (-39), 3) := by decide +kernel
theorem dX10_cutsUp_250 : decode cX10_cutsUp 250 = .ok (.aload_n 0, 1) := by decide +kernel
theorem dX10_cutsUp_251 : decode cX10_cutsUp 251 = .ok (.iload_n 3, 1) := by decide +kernel
theorem dX10_cutsUp_252 : decode cX10_cutsUp 252 = .ok (.iconst 4, 1) := by decide +kernel
theorem dX10_cutsUp_253 : decode cX10_cutsUp 253 = .ok (.if_icmp .le 7, 3) := by decide +kernel
theorem dX10_cutsUp_256 : decode cX10_cutsUp 256 = .ok (.iconst 3, 1) := by decide +kernel
theorem dX10_cutsUp_257 : decode cX10_cutsUp 257 = .ok (.goto 4, 3) := by decide +kernel
theorem dX10_cutsUp_260 : decode cX10_cutsUp 260 = .ok (.iconst 2, 1) := by decide +kernel
theorem dX10_cutsUp_261 : decode cX10_cutsUp 261 = .ok (.iload_n 1, 1) := by decide +kernel
theorem dX10_cutsUp_262 : decode cX10_cutsUp 262 = .ok (.iload 4, 2) := by decide +kernel
theorem dX10_cutsUp_264 : decode cX10_cutsUp 264 = .ok (.lconst 0, 1) := by decide +kernel
theorem dX10_cutsUp_265 : decode cX10_cutsUp 265 = .ok (.invokevirtual 194, 3) := by decide +kernel
theorem dX10_cutsUp_268 : decode cX10_cutsUp 268 = .ok (.iload_n 1, 1) := by decide +kernel
theorem dX10_cutsUp_269 : decode cX10_cutsUp 269 = .ok (.iload_n 3, 1) := by decide +kernel
theorem dX10_cutsUp_270 : decode cX10_cutsUp 270 = .ok (.iadd, 1) := by decide +kernel
theorem dX10_cutsUp_271 : decode cX10_cutsUp 271 = .ok (.istore_n 1, 1) := by decide +kernel
theorem dX10_cutsUp_272 : decode cX10_cutsUp 272 = .ok (.goto 19, 3) := by decide +kernel
theorem dX10_cutsUp_275 : decode cX10_cutsUp 275 = .ok (.iload_n 1, 1) := by decide +kernel
theorem dX10_cutsUp_276 : decode cX10_cutsUp 276 = .ok (.aload_n 0, 1) := by decide +kernel
theorem dX10_cutsUp_277 : decode cX10_cutsUp 277 = .ok (.iload_n 1, 1) := by decide +kernel
theorem dX10_cutsUp_278 : decode cX10_cutsUp 278 = .ok (.iload_n 2, 1) := by decide +kernel
theorem dX10_cutsUp_279 : decode cX10_cutsUp 279 = .ok (.aload_n 0, 1) := by decide +kernel
theorem dX10_cutsUp_280 : decode cX10_cutsUp 280 = .ok (.iload_n 1, 1) := by decide +kernel
theorem dX10_cutsUp_281 : decode cX10_cutsUp 281 = .ok (.iconst 1, 1) := by decide +kernel
theorem dX10_cutsUp_282 : decode cX10_cutsUp 282 = .ok (.iadd, 1) := by decide +kernel
theorem dX10_cutsUp_283 : decode cX10_cutsUp 283 = .ok (.invokevirtual 190, 3) := by decide +kernel
theorem dX10_cutsUp_286 : decode cX10_cutsUp 286 = .ok (.invokevirtual 205, 3) := by decide +kernel
theorem dX10_cutsUp_289 : decode cX10_cutsUp 289 = .ok (.iadd, 1) := by decide +kernel
theorem dX10_cutsUp_290 : decode cX10_cutsUp 290 = .ok (.istore_n 1, 1) := by decide +kernel
theorem dX10_cutsUp_291 : decode cX10_cutsUp 291 = .ok (.goto (-284), 3) := by decide +kernel
theorem dX10_cutsUp_294 : decode cX10_cutsUp 294 = .ok (.return_, 1) := by decide +kernel
theorem dX10_sign_0 : decode cX10_sign 0 = .ok (.iload_n 2, 1) := by decide +kernel
theorem dX10_sign_1 : decode cX10_sign 1 = .ok (.bipush 59, 2) := by decide +kernel
theorem dX10_sign_3 : decode cX10_sign 3 = .ok (.if_icmp .ne 7, 3) := by decide +kernel
theorem dX10_sign_6 : decode cX10_sign 6 = .ok (.iconst 4, 1) := by decide +kernel
theorem dX10_sign_7 : decode cX10_sign 7 = .ok (.goto 36, 3) := by decide +kernel
theorem dX10_sign_10 : decode cX10_sign 10 = .ok (.iload_n 2, 1) := by decide +kernel
theorem dX10_sign_11 : decode cX10_sign 11 = .ok (.bipush 61, 2) := by decide +kernel
theorem dX10_sign_13 : decode cX10_sign 13 = .ok (.if_icmp .ne 7, 3) := by decide +kernel
theorem dX10_sign_16 : decode cX10_sign 16 = .ok (.iconst 5, 1) := by decide +kernel
theorem dX10_sign_17 : decode cX10_sign 17 = .ok (.goto 26, 3) := by decide +kernel
theorem dX10_sign_20 : decode cX10_sign 20 = .ok (.iload_n 2, 1) := by decide +kernel
theorem dX10_sign_21 : decode cX10_sign 21 = .ok (.bipush 40, 2) := by decide +kernel
theorem dX10_sign_23 : decode cX10_sign 23 = .ok (.if_icmp .ne 8, 3) := by decide +kernel
theorem dX10_sign_26 : decode cX10_sign 26 = .ok (.bipush 6, 2) := by decide +kernel
theorem dX10_sign_28 : decode cX10_sign 28 = .ok (.goto 15, 3) := by decide +kernel
theorem dX10_sign_31 : decode cX10_sign 31 = .ok (.iload_n 2, 1) := by decide +kernel
theorem dX10_sign_32 : decode cX10_sign 32 = .ok (.bipush 41, 2) := by decide +kernel
theorem dX10_sign_34 : decode cX10_sign 34 = .ok (.if_icmp .ne 8, 3) := by decide +kernel
theorem dX10_sign_37 : decode cX10_sign 37 = .ok (.bipush 7, 2) := by decide +kernel
theorem dX10_sign_39 : decode cX10_sign 39 = .ok (.goto 4, 3) := by decide +kernel
theorem dX10_sign_42 : decode cX10_sign 42 = .ok (.iconst 3, 1) := by decide +kernel
theorem dX10_sign_43 : decode cX10_sign 43 = .ok (.istore 4, 2) := by decide +kernel
theorem dX10_sign_45 : decode cX10_sign 45 = .ok (.iload_n 2, 1) := by decide +kernel
theorem dX10_sign_46 : decode cX10_sign 46 = .ok (.bipush 43, 2) := by decide +kernel
theorem dX10_sign_48 : decode cX10_sign 48 = .ok (.if_icmp .ne 7, 3) := by decide +kernel
theorem dX10_sign_51 : decode cX10_sign 51 = .ok (.bipush 8, 2) := by decide +kernel
theorem dX10_sign_53 : decode cX10_sign 53 = .ok (.istore 4, 2) := by decide +kernel
theorem dX10_sign_55 : decode cX10_sign 55 = .ok (.iload_n 2, 1) := by decide +kernel
theorem dX10_sign_56 : decode cX10_sign 56 = .ok (.bipush 45, 2) := by decide +kernel
theorem dX10_sign_58 : decode cX10_sign 58 = .ok (.if_icmp .ne 7, 3) := by decide +kernel
theorem dX10_sign_61 : decode cX10_sign 61 = .ok (.bipush 9, 2) := by decide +kernel
theorem dX10_sign_63 : decode cX10_sign 63 = .ok (.istore 4, 2) := by decide +kernel
theorem dX10_sign_65 : decode cX10_sign 65 = .ok (.iload_n 2, 1) := by decide +kernel
theorem dX10_sign_66 : decode cX10_sign 66 = .ok (.bipush 42, 2) := by decide +kernel
theorem dX10_sign_68 : decode cX10_sign 68 = .ok (.if_icmp .ne 7, 3) := by decide +kernel
theorem dX10_sign_71 : decode cX10_sign 71 = .ok (.bipush 10, 2) := by decide +kernel
theorem dX10_sign_73 : decode cX10_sign 73 = .ok (.istore 4, 2) := by decide +kernel
theorem dX10_sign_75 : decode cX10_sign 75 = .ok (.iload_n 2, 1) := by decide +kernel
theorem dX10_sign_76 : decode cX10_sign 76 = .ok (.bipush 47, 2) := by decide +kernel
theorem dX10_sign_78 : decode cX10_sign 78 = .ok (.if_icmp .ne 7, 3) := by decide +kernel
theorem dX10_sign_81 : decode cX10_sign 81 = .ok (.bipush 15, 2) := by decide +kernel
theorem dX10_sign_83 : decode cX10_sign 83 = .ok (.istore 4, 2) := by decide +kernel
theorem dX10_sign_85 : decode cX10_sign 85 = .ok (.iload_n 2, 1) := by decide +kernel
theorem dX10_sign_86 : decode cX10_sign 86 = .ok (.bipush 60, 2) := by decide +kernel
theorem dX10_sign_88 : decode cX10_sign 88 = .ok (.if_icmp .ne 7, 3) := by decide +kernel
theorem dX10_sign_91 : decode cX10_sign 91 = .ok (.bipush 13, 2) := by decide +kernel
theorem dX10_sign_93 : decode cX10_sign 93 = .ok (.istore 4, 2) := by decide +kernel
theorem dX10_sign_95 : decode cX10_sign 95 = .ok (.aload_n 0, 1) := by decide +kernel
theorem dX10_sign_96 : decode cX10_sign 96 = .ok (.iload 4, 2) := by decide +kernel
theorem dX10_sign_98 : decode cX10_sign 98 = .ok (.iload_n 1, 1) := by decide +kernel
theorem dX10_sign_99 : decode cX10_sign 99 = .ok (.iconst 0, 1) := by decide +kernel
theorem dX10_sign_100 : decode cX10_sign 100 = .ok (.lconst 0, 1) := by decide +kernel
theorem dX10_sign_101 : decode cX10_sign 101 = .ok (.invokevirtual 194, 3) := by decide +kernel
theorem dX10_sign_104 : decode cX10_sign 104 = .ok (.iconst 1, 1) := by decide +kernel
theorem dX10_sign_105 : decode cX10_sign 105 = .ok (.ireturn, 1) := by decide +kernel
theorem dX10_is_0 : decode cX10_is 0 = .ok (.aload_n 0, 1) := by decide +kernel
theorem dX10_is_1 : decode cX10_is 1 = .ok (.getfield 209, 3) := by decide +kernel
theorem dX10_is_4 : decode cX10_is 4 = .ok (.ifCond .ne 20, 3) := by decide +kernel
theorem dX10_is_7 : decode cX10_is 7 = .ok (.aload_n 0, 1) := by decide +kernel
theorem dX10_is_8 : decode cX10_is 8 = .ok (.getfield 20, 3) := by decide +kernel
theorem dX10_is_11 : decode cX10_is 11 = .ok (.aload_n 0, 1) := by decide +kernel
theorem dX10_is_12 : decode cX10_is 12 = .ok (.getfield 212, 3) := by decide +kernel
theorem dX10_is_15 : decode cX10_is 15 = .ok (.iaload, 1) := by decide +kernel
theorem dX10_is_16 : decode cX10_is 16 = .ok (.iload_n 1, 1) := by decide +kernel
theorem dX10_is_17 : decode cX10_is 17 = .ok (.if_icmp .ne 7, 3) := by decide +kernel
theorem dX10_is_20 : decode cX10_is 20 = .ok (.iconst 1, 1) := by decide +kernel
theorem dX10_is_21 : decode cX10_is 21 = .ok (.goto 4, 3) := by decide +kernel
theorem dX10_is_24 : decode cX10_is 24 = .ok (.iconst 0, 1) := by decide +kernel
theorem dX10_is_25 : decode cX10_is 25 = .ok (.ireturn, 1) := by decide +kernel
theorem dX10_fail_0 : decode cX10_fail 0 = .ok (.aload_n 0, 1) := by decide +kernel
theorem dX10_fail_1 : decode cX10_fail 1 = .ok (.getfield 209, 3) := by decide +kernel
theorem dX10_fail_4 : decode cX10_fail 4 = .ok (.ifCond .le 4, 3) := by decide +kernel
theorem dX10_fail_7 : decode cX10_fail 7 = .ok (.return_, 1) := by decide +kernel
theorem dX10_fail_8 : decode cX10_fail 8 = .ok (.aload_n 0, 1) := by decide +kernel
theorem dX10_fail_9 : decode cX10_fail 9 = .ok (.iload_n 1, 1) := by decide +kernel
theorem dX10_fail_10 : decode cX10_fail 10 = .ok (.putfield 209, 3) := by decide +kernel
theorem dX10_fail_13 : decode cX10_fail 13 = .ok (.aload_n 0, 1) := by decide +kernel
theorem dX10_fail_14 : decode cX10_fail 14 = .ok (.aload_n 0, 1) := by decide +kernel
theorem dX10_fail_15 : decode cX10_fail 15 = .ok (.getfield 24, 3) := by decide +kernel
theorem dX10_fail_18 : decode cX10_fail 18 = .ok (.aload_n 0, 1) := by decide +kernel
theorem dX10_fail_19 : decode cX10_fail 19 = .ok (.getfield 212, 3) := by decide +kernel
theorem dX10_fail_22 : decode cX10_fail 22 = .ok (.iaload, 1) := by decide +kernel
theorem dX10_fail_23 : decode cX10_fail 23 = .ok (.putfield 215, 3) := by decide +kernel
theorem dX10_fail_26 : decode cX10_fail 26 = .ok (.return_, 1) := by decide +kernel
theorem dX10_wrong_0 : decode cX10_wrong 0 = .ok (.aload_n 0, 1) := by decide +kernel
theorem dX10_wrong_1 : decode cX10_wrong 1 = .ok (.getfield 24, 3) := by decide +kernel
theorem dX10_wrong_4 : decode cX10_wrong 4 = .ok (.iload_n 2, 1) := by decide +kernel
theorem dX10_wrong_5 : decode cX10_wrong 5 = .ok (.iaload, 1) := by decide +kernel
theorem dX10_wrong_6 : decode cX10_wrong 6 = .ok (.istore_n 3, 1) := by decide +kernel
theorem dX10_wrong_7 : decode cX10_wrong 7 = .ok (.aload_n 0, 1) := by decide +kernel
theorem dX10_wrong_8 : decode cX10_wrong 8 = .ok (.getfield 209, 3) := by decide +kernel
theorem dX10_wrong_11 : decode cX10_wrong 11 = .ok (.ifCond .gt 34, 3) := by decide +kernel
theorem dX10_wrong_14 : decode cX10_wrong 14 = .ok (.aload_n 0, 1) := by decide +kernel
theorem dX10_wrong_15 : decode cX10_wrong 15 = .ok (.getfield 218, 3) := by decide +kernel
theorem dX10_wrong_18 : decode cX10_wrong 18 = .ok (.ifCond .eq 28, 3) := by decide +kernel
theorem dX10_wrong_21 : decode cX10_wrong 21 = .ok (.iload_n 3, 1) := by decide +kernel
theorem dX10_wrong_22 : decode cX10_wrong 22 = .ok (.aload_n 0, 1) := by decide +kernel
theorem dX10_wrong_23 : decode cX10_wrong 23 = .ok (.getfield 221, 3) := by decide +kernel
theorem dX10_wrong_26 : decode cX10_wrong 26 = .ok (.if_icmp .gt 19, 3) := by decide +kernel
theorem dX10_wrong_29 : decode cX10_wrong 29 = .ok (.iload_n 3, 1) := by decide +kernel
theorem dX10_wrong_30 : decode cX10_wrong 30 = .ok (.aload_n 0, 1) := by decide +kernel
theorem dX10_wrong_31 : decode cX10_wrong 31 = .ok (.getfield 221, 3) := by decide +kernel
theorem dX10_wrong_34 : decode cX10_wrong 34 = .ok (.if_icmp .ne 12, 3) := by decide +kernel
theorem dX10_wrong_37 : decode cX10_wrong 37 = .ok (.iload_n 1, 1) := by decide +kernel
theorem dX10_wrong_38 : decode cX10_wrong 38 = .ok (.aload_n 0, 1) := by decide +kernel
theorem dX10_wrong_39 : decode cX10_wrong 39 = .ok (.getfield 218, 3) := by decide +kernel
theorem dX10_wrong_42 : decode cX10_wrong 42 = .ok (.if_icmp .lt 4, 3) := by decide +kernel
theorem dX10_wrong_45 : decode cX10_wrong 45 = .ok (.return_, 1) := by decide +kernel
theorem dX10_wrong_46 : decode cX10_wrong 46 = .ok (.aload_n 0, 1) := by decide +kernel
theorem dX10_wrong_47 : decode cX10_wrong 47 = .ok (.iload_n 1, 1) := by decide +kernel
theorem dX10_wrong_48 : decode cX10_wrong 48 = .ok (.putfield 218, 3) := by decide +kernel
theorem dX10_wrong_51 : decode cX10_wrong 51 = .ok (.aload_n 0, 1) := by decide +kernel
