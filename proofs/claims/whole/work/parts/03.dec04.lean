theorem dX10_wrong_52 : decode cX10_wrong 52 = .ok (.iload_n 3, 1) := by decide +kernel
theorem dX10_wrong_53 : decode cX10_wrong 53 = .ok (.putfield 221, 3) := by decide +kernel
theorem dX10_wrong_56 : decode cX10_wrong 56 = .ok (.return_, 1) := by decide +kernel
theorem dX10_goesOn_0 : decode cX10_goesOn 0 = .ok (.aload_n 0, 1) := by decide +kernel
theorem dX10_goesOn_1 : decode cX10_goesOn 1 = .ok (.getfield 212, 3) := by decide +kernel
theorem dX10_goesOn_4 : decode cX10_goesOn 4 = .ok (.sipush 400, 3) := by decide +kernel
theorem dX10_goesOn_7 : decode cX10_goesOn 7 = .ok (.if_icmp .ne 11, 3) := by decide +kernel
theorem dX10_goesOn_10 : decode cX10_goesOn 10 = .ok (.aload_n 0, 1) := by decide +kernel
theorem dX10_goesOn_11 : decode cX10_goesOn 11 = .ok (.iconst 2, 1) := by decide +kernel
theorem dX10_goesOn_12 : decode cX10_goesOn 12 = .ok (.invokevirtual 224, 3) := by decide +kernel
theorem dX10_goesOn_15 : decode cX10_goesOn 15 = .ok (.goto 13, 3) := by decide +kernel
theorem dX10_goesOn_18 : decode cX10_goesOn 18 = .ok (.aload_n 0, 1) := by decide +kernel
theorem dX10_goesOn_19 : decode cX10_goesOn 19 = .ok (.dup, 1) := by decide +kernel
theorem dX10_goesOn_20 : decode cX10_goesOn 20 = .ok (.getfield 212, 3) := by decide +kernel
theorem dX10_goesOn_23 : decode cX10_goesOn 23 = .ok (.iconst 1, 1) := by decide +kernel
theorem dX10_goesOn_24 : decode cX10_goesOn 24 = .ok (.iadd, 1) := by decide +kernel
theorem dX10_goesOn_25 : decode cX10_goesOn 25 = .ok (.putfield 212, 3) := by decide +kernel
theorem dX10_goesOn_28 : decode cX10_goesOn 28 = .ok (.return_, 1) := by decide +kernel
theorem dX10_must_0 : decode cX10_must 0 = .ok (.aload_n 0, 1) := by decide +kernel
theorem dX10_must_1 : decode cX10_must 1 = .ok (.iload_n 1, 1) := by decide +kernel
theorem dX10_must_2 : decode cX10_must 2 = .ok (.invokevirtual 227, 3) := by decide +kernel
theorem dX10_must_5 : decode cX10_must 5 = .ok (.ifCond .eq 10, 3) := by decide +kernel
theorem dX10_must_8 : decode cX10_must 8 = .ok (.aload_n 0, 1) := by decide +kernel
theorem dX10_must_9 : decode cX10_must 9 = .ok (.invokevirtual 230, 3) := by decide +kernel
theorem dX10_must_12 : decode cX10_must 12 = .ok (.goto 8, 3) := by decide +kernel
theorem dX10_must_15 : decode cX10_must 15 = .ok (.aload_n 0, 1) := by decide +kernel
theorem dX10_must_16 : decode cX10_must 16 = .ok (.iconst 1, 1) := by decide +kernel
theorem dX10_must_17 : decode cX10_must 17 = .ok (.invokevirtual 224, 3) := by decide +kernel
theorem dX10_must_20 : decode cX10_must 20 = .ok (.return_, 1) := by decide +kernel
theorem dX10_plain_0 : decode cX10_plain 0 = .ok (.aload_n 0, 1) := by decide +kernel
theorem dX10_plain_1 : decode cX10_plain 1 = .ok (.getfield 46, 3) := by decide +kernel
theorem dX10_plain_4 : decode cX10_plain 4 = .ok (.iload_n 1, 1) := by decide +kernel
theorem dX10_plain_5 : decode cX10_plain 5 = .ok (.iconst 0, 1) := by decide +kernel
theorem dX10_plain_6 : decode cX10_plain 6 = .ok (.iastore, 1) := by decide +kernel
theorem dX10_plain_7 : decode cX10_plain 7 = .ok (.aload_n 0, 1) := by decide +kernel
theorem dX10_plain_8 : decode cX10_plain 8 = .ok (.getfield 52, 3) := by decide +kernel
theorem dX10_plain_11 : decode cX10_plain 11 = .ok (.iload_n 1, 1) := by decide +kernel
theorem dX10_plain_12 : decode cX10_plain 12 = .ok (.iconst 0, 1) := by decide +kernel
theorem dX10_plain_13 : decode cX10_plain 13 = .ok (.iastore, 1) := by decide +kernel
theorem dX10_plain_14 : decode cX10_plain 14 = .ok (.aload_n 0, 1) := by decide +kernel
theorem dX10_plain_15 : decode cX10_plain 15 = .ok (.getfield 64, 3) := by decide +kernel
theorem dX10_plain_18 : decode cX10_plain 18 = .ok (.iload_n 1, 1) := by decide +kernel
theorem dX10_plain_19 : decode cX10_plain 19 = .ok (.iconst 0, 1) := by decide +kernel
theorem dX10_plain_20 : decode cX10_plain 20 = .ok (.iastore, 1) := by decide +kernel
theorem dX10_plain_21 : decode cX10_plain 21 = .ok (.aload_n 0, 1) := by decide +kernel
theorem dX10_plain_22 : decode cX10_plain 22 = .ok (.getfield 76, 3) := by decide +kernel
theorem dX10_plain_25 : decode cX10_plain 25 = .ok (.iload_n 1, 1) := by decide +kernel
theorem dX10_plain_26 : decode cX10_plain 26 = .ok (.iconst 4, 1) := by decide +kernel
theorem dX10_plain_27 : decode cX10_plain 27 = .ok (.iastore, 1) := by decide +kernel
theorem dX10_plain_28 : decode cX10_plain 28 = .ok (.aload_n 0, 1) := by decide +kernel
theorem dX10_plain_29 : decode cX10_plain 29 = .ok (.getfield 79, 3) := by decide +kernel
theorem dX10_plain_32 : decode cX10_plain 32 = .ok (.iload_n 1, 1) := by decide +kernel
theorem dX10_plain_33 : decode cX10_plain 33 = .ok (.iconst 0, 1) := by decide +kernel
theorem dX10_plain_34 : decode cX10_plain 34 = .ok (.iastore, 1) := by decide +kernel
theorem dX10_plain_35 : decode cX10_plain 35 = .ok (.iconst 0, 1) := by decide +kernel
theorem dX10_plain_36 : decode cX10_plain 36 = .ok (.istore_n 2, 1) := by decide +kernel
theorem dX10_plain_37 : decode cX10_plain 37 = .ok (.iload_n 2, 1) := by decide +kernel
theorem dX10_plain_38 : decode cX10_plain 38 = .ok (.iconst 4, 1) := by decide +kernel
theorem dX10_plain_39 : decode cX10_plain 39 = .ok (.if_icmp .ge 31, 3) := by decide +kernel
theorem dX10_plain_42 : decode cX10_plain 42 = .ok (.aload_n 0, 1) := by decide +kernel
theorem dX10_plain_43 : decode cX10_plain 43 = .ok (.getfield 82, 3) := by decide +kernel
theorem dX10_plain_46 : decode cX10_plain 46 = .ok (.iconst 4, 1) := by decide +kernel
theorem dX10_plain_47 : decode cX10_plain 47 = .ok (.iload_n 1, 1) := by decide +kernel
theorem dX10_plain_48 : decode cX10_plain 48 = .ok (.imul, 1) := by decide +kernel
theorem dX10_plain_49 : decode cX10_plain 49 = .ok (.iload_n 2, 1) := by decide +kernel
theorem dX10_plain_50 : decode cX10_plain 50 = .ok (.iadd, 1) := by decide +kernel
theorem dX10_plain_51 : decode cX10_plain 51 = .ok (.iconst 0, 1) := by decide +kernel
theorem dX10_plain_52 : decode cX10_plain 52 = .ok (.iastore, 1) := by decide +kernel
theorem dX10_plain_53 : decode cX10_plain 53 = .ok (.aload_n 0, 1) := by decide +kernel
theorem dX10_plain_54 : decode cX10_plain 54 = .ok (.getfield 85, 3) := by decide +kernel
theorem dX10_plain_57 : decode cX10_plain 57 = .ok (.iconst 4, 1) := by decide +kernel
theorem dX10_plain_58 : decode cX10_plain 58 = .ok (.iload_n 1, 1) := by decide +kernel
theorem dX10_plain_59 : decode cX10_plain 59 = .ok (.imul, 1) := by decide +kernel
theorem dX10_plain_60 : decode cX10_plain 60 = .ok (.iload_n 2, 1) := by decide +kernel
theorem dX10_plain_61 : decode cX10_plain 61 = .ok (.iadd, 1) := by decide +kernel
theorem dX10_plain_62 : decode cX10_plain 62 = .ok (.iconst 0, 1) := by decide +kernel
theorem dX10_plain_63 : decode cX10_plain 63 = .ok (.iastore, 1) := by decide +kernel
theorem dX10_plain_64 : decode cX10_plain 64 = .ok (.iinc 2 1, 3) := by decide +kernel
theorem dX10_plain_67 : decode cX10_plain 67 = .ok (.goto (-30), 3) := by decide +kernel
theorem dX10_plain_70 : decode cX10_plain 70 = .ok (.return_, 1) := by decide +kernel
theorem dX10_read_0 : decode cX10_read 0 = .ok (.aload_n 0, 1) := by decide +kernel
theorem dX10_read_1 : decode cX10_read 1 = .ok (.aload_n 0, 1) := by decide +kernel
theorem dX10_read_2 : decode cX10_read 2 = .ok (.getfield 172, 3) := by decide +kernel
theorem dX10_read_5 : decode cX10_read 5 = .ok (.putfield 178, 3) := by decide +kernel
theorem dX10_read_8 : decode cX10_read 8 = .ok (.iconst 0, 1) := by decide +kernel
theorem dX10_read_9 : decode cX10_read 9 = .ok (.istore_n 1, 1) := by decide +kernel
theorem dX10_read_10 : decode cX10_read 10 = .ok (.iload_n 1, 1) := by decide +kernel
theorem dX10_read_11 : decode cX10_read 11 = .ok (.aload_n 0, 1) := by decide +kernel
theorem dX10_read_12 : decode cX10_read 12 = .ok (.getfield 178, 3) := by decide +kernel
theorem dX10_read_15 : decode cX10_read 15 = .ok (.if_icmp .ge 21, 3) := by decide +kernel
theorem dX10_read_18 : decode cX10_read 18 = .ok (.aload_n 0, 1) := by decide +kernel
theorem dX10_read_19 : decode cX10_read 19 = .ok (.getfield 17, 3) := by decide +kernel
theorem dX10_read_22 : decode cX10_read 22 = .ok (.iload_n 1, 1) := by decide +kernel
theorem dX10_read_23 : decode cX10_read 23 = .ok (.aload_n 0, 1) := by decide +kernel
theorem dX10_read_24 : decode cX10_read 24 = .ok (.getfield 13, 3) := by decide +kernel
theorem dX10_read_27 : decode cX10_read 27 = .ok (.iload_n 1, 1) := by decide +kernel
theorem dX10_read_28 : decode cX10_read 28 = .ok (.baload, 1) := by decide +kernel
theorem dX10_read_29 : decode cX10_read 29 = .ok (.bastore, 1) := by decide +kernel
theorem dX10_read_30 : decode cX10_read 30 = .ok (.iinc 1 1, 3) := by decide +kernel
theorem dX10_read_33 : decode cX10_read 33 = .ok (.goto (-23), 3) := by decide +kernel
theorem dX10_read_36 : decode cX10_read 36 = .ok (.aload_n 0, 1) := by decide +kernel
theorem dX10_read_37 : decode cX10_read 37 = .ok (.iconst 0, 1) := by decide +kernel
theorem dX10_read_38 : decode cX10_read 38 = .ok (.putfield 172, 3) := by decide +kernel
theorem dX10_read_41 : decode cX10_read 41 = .ok (.aload_n 0, 1) := by decide +kernel
theorem dX10_read_42 : decode cX10_read 42 = .ok (.invokevirtual 233, 3) := by decide +kernel
theorem dX10_read_45 : decode cX10_read 45 = .ok (.aload_n 0, 1) := by decide +kernel
theorem dX10_read_46 : decode cX10_read 46 = .ok (.iconst 0, 1) := by decide +kernel
theorem dX10_read_47 : decode cX10_read 47 = .ok (.putfield 212, 3) := by decide +kernel
theorem dX10_read_50 : decode cX10_read 50 = .ok (.aload_n 0, 1) := by decide +kernel
theorem dX10_read_51 : decode cX10_read 51 = .ok (.iconst 0, 1) := by decide +kernel
theorem dX10_read_52 : decode cX10_read 52 = .ok (.putfield 236, 3) := by decide +kernel
theorem dX10_read_55 : decode cX10_read 55 = .ok (.aload_n 0, 1) := by decide +kernel
theorem dX10_read_56 : decode cX10_read 56 = .ok (.iconst 0, 1) := by decide +kernel
theorem dX10_read_57 : decode cX10_read 57 = .ok (.putfield 209, 3) := by decide +kernel
theorem dX10_read_60 : decode cX10_read 60 = .ok (.aload_n 0, 1) := by decide +kernel
theorem dX10_read_61 : decode cX10_read 61 = .ok (.iconst 0, 1) := by decide +kernel
theorem dX10_read_62 : decode cX10_read 62 = .ok (.putfield 218, 3) := by decide +kernel
theorem dX10_read_65 : decode cX10_read 65 = .ok (.aload_n 0, 1) := by decide +kernel
theorem dX10_read_66 : decode cX10_read 66 = .ok (.iconst 1, 1) := by decide +kernel
theorem dX10_read_67 : decode cX10_read 67 = .ok (.aload_n 0, 1) := by decide +kernel
theorem dX10_read_68 : decode cX10_read 68 = .ok (.getfield 239, 3) := by decide +kernel
theorem dX10_read_71 : decode cX10_read 71 = .ok (.isub, 1) := by decide +kernel
theorem dX10_read_72 : decode cX10_read 72 = .ok (.putfield 242, 3) := by decide +kernel
theorem dX10_read_75 : decode cX10_read 75 = .ok (.aload_n 0, 1) := by decide +kernel
theorem dX10_read_76 : decode cX10_read 76 = .ok (.iconst 0, 1) := by decide +kernel
theorem dX10_read_77 : decode cX10_read 77 = .ok (.putfield 245, 3) := by decide +kernel
theorem dX10_read_80 : decode cX10_read 80 = .ok (.aload_n 0, 1) := by decide +kernel
theorem dX10_read_81 : decode cX10_read 81 = .ok (.aload_n 0, 1) := by decide +kernel
theorem dX10_read_82 : decode cX10_read 82 = .ok (.getfield 242, 3) := by decide +kernel
theorem dX10_read_85 : decode cX10_read 85 = .ok (.invokevirtual 158, 3) := by decide +kernel
theorem dX10_read_88 : decode cX10_read 88 = .ok (.aload_n 0, 1) := by decide +kernel
theorem dX10_read_89 : decode cX10_read 89 = .ok (.sipush 130, 3) := by decide +kernel
theorem dX10_read_92 : decode cX10_read 92 = .ok (.aload_n 0, 1) := by decide +kernel
theorem dX10_read_93 : decode cX10_read 93 = .ok (.getfield 242, 3) := by decide +kernel
theorem dX10_read_96 : decode cX10_read 96 = .ok (.imul, 1) := by decide +kernel
theorem dX10_read_97 : decode cX10_read 97 = .ok (.putfield 248, 3) := by decide +kernel
theorem dX10_read_100 : decode cX10_read 100 = .ok (.aload_n 0, 1) := by decide +kernel
theorem dX10_read_101 : decode cX10_read 101 = .ok (.sipush 420, 3) := by decide +kernel
theorem dX10_read_104 : decode cX10_read 104 = .ok (.aload_n 0, 1) := by decide +kernel
theorem dX10_read_105 : decode cX10_read 105 = .ok (.getfield 242, 3) := by decide +kernel
theorem dX10_read_108 : decode cX10_read 108 = .ok (.imul, 1) := by decide +kernel
theorem dX10_read_109 : decode cX10_read 109 = .ok (.putfield 251, 3) := by decide +kernel
theorem dX10_read_112 : decode cX10_read 112 = .ok (.aload_n 0, 1) := by decide +kernel
theorem dX10_read_113 : decode cX10_read 113 = .ok (.getfield 209, 3) := by decide +kernel
theorem dX10_read_116 : decode cX10_read 116 = .ok (.ifCond .ne 18, 3) := by decide +kernel
theorem dX10_read_119 : decode cX10_read 119 = .ok (.aload_n 0, 1) := by decide +kernel
theorem dX10_read_120 : decode cX10_read 120 = .ok (.iconst 0, 1) := by decide +kernel
theorem dX10_read_121 : decode cX10_read 121 = .ok (.invokevirtual 227, 3) := by decide +kernel
theorem dX10_read_124 : decode cX10_read 124 = .ok (.ifCond .ne 10, 3) := by decide +kernel
theorem dX10_read_127 : decode cX10_read 127 = .ok (.aload_n 0, 1) := by decide +kernel
theorem dX10_read_128 : decode cX10_read 128 = .ok (.invokevirtual 254, 3) := by decide +kernel
theorem dX10_read_131 : decode cX10_read 131 = .ok (.goto (-19), 3) := by decide +kernel
theorem dX10_read_134 : decode cX10_read 134 = .ok (.aload_n 0, 1) := by decide +kernel
theorem dX10_read_135 : decode cX10_read 135 = .ok (.aload_n 0, 1) := by decide +kernel
theorem dX10_read_136 : decode cX10_read 136 = .ok (.getfield 209, 3) := by decide +kernel
theorem dX10_read_139 : decode cX10_read 139 = .ok (.ifCond .le 10, 3) := by decide +kernel
theorem dX10_read_142 : decode cX10_read 142 = .ok (.aload_n 0, 1) := by decide +kernel
theorem dX10_read_143 : decode cX10_read 143 = .ok (.getfield 215, 3) := by decide +kernel
theorem dX10_read_146 : decode cX10_read 146 = .ok (.goto 18, 3) := by decide +kernel
theorem dX10_read_149 : decode cX10_read 149 = .ok (.aload_n 0, 1) := by decide +kernel
theorem dX10_read_150 : decode cX10_read 150 = .ok (.getfield 218, 3) := by decide +kernel
theorem dX10_read_153 : decode cX10_read 153 = .ok (.ifCond .le 10, 3) := by decide +kernel
theorem dX10_read_156 : decode cX10_read 156 = .ok (.aload_n 0, 1) := by decide +kernel
theorem dX10_read_157 : decode cX10_read 157 = .ok (.getfield 221, 3) := by decide +kernel
theorem dX10_read_160 : decode cX10_read 160 = .ok (.goto 4, 3) := by decide +kernel
theorem dX10_read_163 : decode cX10_read 163 = .ok (.iconst (-1), 1) := by decide +kernel
theorem dX10_read_164 : decode cX10_read 164 = .ok (.putfield 37, 3) := by decide +kernel
theorem dX10_read_167 : decode cX10_read 167 = .ok (.aload_n 0, 1) := by decide +kernel
theorem dX10_read_168 : decode cX10_read 168 = .ok (.getfield 209, 3) := by decide +kernel
theorem dX10_read_171 : decode cX10_read 171 = .ok (.ifCond .le 8, 3) := by decide +kernel
theorem dX10_read_174 : decode cX10_read 174 = .ok (.aload_n 0, 1) := by decide +kernel
theorem dX10_read_175 : decode cX10_read 175 = .ok (.getfield 209, 3) := by decide +kernel
theorem dX10_read_178 : decode cX10_read 178 = .ok (.ireturn, 1) := by decide +kernel
theorem dX10_read_179 : decode cX10_read 179 = .ok (.aload_n 0, 1) := by decide +kernel
theorem dX10_read_180 : decode cX10_read 180 = .ok (.getfield 218, 3) := by decide +kernel
theorem dX10_read_183 : decode cX10_read 183 = .ok (.ifCond .le 8, 3) := by decide +kernel
theorem dX10_read_186 : decode cX10_read 186 = .ok (.aload_n 0, 1) := by decide +kernel
theorem dX10_read_187 : decode cX10_read 187 = .ok (.getfield 218, 3) := by decide +kernel
theorem dX10_read_190 : decode cX10_read 190 = .ok (.ireturn, 1) := by decide +kernel
theorem dX10_read_191 : decode cX10_read 191 = .ok (.aload_n 0, 1) := by decide +kernel
theorem dX10_read_192 : decode cX10_read 192 = .ok (.aload_n 0, 1) := by decide +kernel
theorem dX10_read_193 : decode cX10_read 193 = .ok (.getfield 242, 3) := by decide +kernel
theorem dX10_read_196 : decode cX10_read 196 = .ok (.putfield 239, 3) := by decide +kernel
theorem dX10_read_199 : decode cX10_read 199 = .ok (.aload_n 0, 1) := by decide +kernel
theorem dX10_read_200 : decode cX10_read 200 = .ok (.invokevirtual 166, 3) := by decide +kernel
theorem dX10_read_203 : decode cX10_read 203 = .ok (.aload_n 0, 1) := by decide +kernel
theorem dX10_read_204 : decode cX10_read 204 = .ok (.invokevirtual 169, 3) := by decide +kernel
theorem dX10_read_207 : decode cX10_read 207 = .ok (.aload_n 0, 1) := by decide +kernel
theorem dX10_read_208 : decode cX10_read 208 = .ok (.iconst 0, 1) := by decide +kernel
theorem dX10_read_209 : decode cX10_read 209 = .ok (.putfield 257, 3) := by decide +kernel
theorem dX10_read_212 : decode cX10_read 212 = .ok (.aload_n 0, 1) := by decide +kernel
theorem dX10_read_213 : decode cX10_read 213 = .ok (.iconst 0, 1) := by decide +kernel
theorem dX10_read_214 : decode cX10_read 214 = .ok (.putfield 260, 3) := by decide +kernel
theorem dX10_read_217 : decode cX10_read 217 = .ok (.iconst 0, 1) := by decide +kernel
theorem dX10_read_218 : decode cX10_read 218 = .ok (.istore_n 1, 1) := by decide +kernel
theorem dX10_read_219 : decode cX10_read 219 = .ok (.iload_n 1, 1) := by decide +kernel
theorem dX10_read_220 : decode cX10_read 220 = .ok (.iconst 3, 1) := by decide +kernel
theorem dX10_read_221 : decode cX10_read 221 = .ok (.if_icmp .ge 16, 3) := by decide +kernel
theorem dX10_read_224 : decode cX10_read 224 = .ok (.aload_n 0, 1) := by decide +kernel
theorem dX10_read_225 : decode cX10_read 225 = .ok (.getfield 152, 3) := by decide +kernel
theorem dX10_read_228 : decode cX10_read 228 = .ok (.iload_n 1, 1) := by decide +kernel
theorem dX10_read_229 : decode cX10_read 229 = .ok (.iconst 0, 1) := by decide +kernel
theorem dX10_read_230 : decode cX10_read 230 = .ok (.bastore, 1) := by decide +kernel
theorem dX10_read_231 : decode cX10_read 231 = .ok (.iinc 1 1, 3) := by decide +kernel
theorem dX10_read_234 : decode cX10_read 234 = .ok (.goto (-15), 3) := by decide +kernel
theorem dX10_read_237 : decode cX10_read 237 = .ok (.iconst 0, 1) := by decide +kernel
theorem dX10_read_238 : decode cX10_read 238 = .ok (.ireturn, 1) := by decide +kernel
theorem dX10_place_0 : decode cX10_place 0 = .ok (.aload_n 0, 1) := by decide +kernel
theorem dX10_place_1 : decode cX10_place 1 = .ok (.getfield 37, 3) := by decide +kernel
theorem dX10_place_4 : decode cX10_place 4 = .ok (.ireturn, 1) := by decide +kernel
theorem dX10_roomFor_0 : decode cX10_roomFor 0 = .ok (.iload_n 1, 1) := by decide +kernel
theorem dX10_roomFor_1 : decode cX10_roomFor 1 = .ok (.iload_n 2, 1) := by decide +kernel
theorem dX10_roomFor_2 : decode cX10_roomFor 2 = .ok (.if_icmp .ne 8, 3) := by decide +kernel
theorem dX10_roomFor_5 : decode cX10_roomFor 5 = .ok (.aload_n 0, 1) := by decide +kernel
theorem dX10_roomFor_6 : decode cX10_roomFor 6 = .ok (.iconst 2, 1) := by decide +kernel
theorem dX10_roomFor_7 : decode cX10_roomFor 7 = .ok (.invokevirtual 224, 3) := by decide +kernel
theorem dX10_roomFor_10 : decode cX10_roomFor 10 = .ok (.aload_n 0, 1) := by decide +kernel
theorem dX10_roomFor_11 : decode cX10_roomFor 11 = .ok (.getfield 209, 3) := by decide +kernel
theorem dX10_roomFor_14 : decode cX10_roomFor 14 = .ok (.ifCond .ne 7, 3) := by decide +kernel
theorem dX10_roomFor_17 : decode cX10_roomFor 17 = .ok (.aload_n 0, 1) := by decide +kernel
theorem dX10_roomFor_18 : decode cX10_roomFor 18 = .ok (.invokevirtual 230, 3) := by decide +kernel
theorem dX10_roomFor_21 : decode cX10_roomFor 21 = .ok (.return_, 1) := by decide +kernel
theorem dX10_tellOne_0 : decode cX10_tellOne 0 = .ok (.aload_n 0, 1) := by decide +kernel
theorem dX10_tellOne_1 : decode cX10_tellOne 1 = .ok (.getfield 20, 3) := by decide +kernel
theorem dX10_tellOne_4 : decode cX10_tellOne 4 = .ok (.aload_n 0, 1) := by decide +kernel
theorem dX10_tellOne_5 : decode cX10_tellOne 5 = .ok (.getfield 212, 3) := by decide +kernel
theorem dX10_tellOne_8 : decode cX10_tellOne 8 = .ok (.iaload, 1) := by decide +kernel
theorem dX10_tellOne_9 : decode cX10_tellOne 9 = .ok (.tableswitch 194 20 28 #[51, 79, 108, 194, 194, 194, 194, 137, 165], 51) := by decide +kernel
theorem dX10_tellOne_60 : decode cX10_tellOne 60 = .ok (.aload_n 0, 1) := by decide +kernel
theorem dX10_tellOne_61 : decode cX10_tellOne 61 = .ok (.aload_n 0, 1) := by decide +kernel
theorem dX10_tellOne_62 : decode cX10_tellOne 62 = .ok (.getfield 46, 3) := by decide +kernel
theorem dX10_tellOne_65 : decode cX10_tellOne 65 = .ok (.aload_n 0, 1) := by decide +kernel
theorem dX10_tellOne_66 : decode cX10_tellOne 66 = .ok (.getfield 242, 3) := by decide +kernel
theorem dX10_tellOne_69 : decode cX10_tellOne 69 = .ok (.iaload, 1) := by decide +kernel
theorem dX10_tellOne_70 : decode cX10_tellOne 70 = .ok (.iconst 4, 1) := by decide +kernel
theorem dX10_tellOne_71 : decode cX10_tellOne 71 = .ok (.invokevirtual 263, 3) := by decide +kernel
theorem dX10_tellOne_74 : decode cX10_tellOne 74 = .ok (.aload_n 0, 1) := by decide +kernel
theorem dX10_tellOne_75 : decode cX10_tellOne 75 = .ok (.getfield 209, 3) := by decide +kernel
theorem dX10_tellOne_78 : decode cX10_tellOne 78 = .ok (.ifCond .ne 178, 3) := by decide +kernel
theorem dX10_tellOne_81 : decode cX10_tellOne 81 = .ok (.aload_n 0, 1) := by decide +kernel
theorem dX10_tellOne_82 : decode cX10_tellOne 82 = .ok (.invokevirtual 267, 3) := by decide +kernel
theorem dX10_tellOne_85 : decode cX10_tellOne 85 = .ok (.goto 171, 3) := by decide +kernel
theorem dX10_tellOne_88 : decode cX10_tellOne 88 = .ok (.aload_n 0, 1) := by decide +kernel
theorem dX10_tellOne_89 : decode cX10_tellOne 89 = .ok (.aload_n 0, 1) := by decide +kernel
theorem dX10_tellOne_90 : decode cX10_tellOne 90 = .ok (.getfield 52, 3) := by decide +kernel
theorem dX10_tellOne_93 : decode cX10_tellOne 93 = .ok (.aload_n 0, 1) := by decide +kernel
theorem dX10_tellOne_94 : decode cX10_tellOne 94 = .ok (.getfield 242, 3) := by decide +kernel
theorem dX10_tellOne_97 : decode cX10_tellOne 97 = .ok (.iaload, 1) := by decide +kernel
theorem dX10_tellOne_98 : decode cX10_tellOne 98 = .ok (.bipush 6, 2) := by decide +kernel
theorem dX10_tellOne_100 : decode cX10_tellOne 100 = .ok (.invokevirtual 263, 3) := by decide +kernel
theorem dX10_tellOne_103 : decode cX10_tellOne 103 = .ok (.aload_n 0, 1) := by decide +kernel
theorem dX10_tellOne_104 : decode cX10_tellOne 104 = .ok (.getfield 209, 3) := by decide +kernel
theorem dX10_tellOne_107 : decode cX10_tellOne 107 = .ok (.ifCond .ne 149, 3) := by decide +kernel
theorem dX10_tellOne_110 : decode cX10_tellOne 110 = .ok (.aload_n 0, 1) := by decide +kernel
theorem dX10_tellOne_111 : decode cX10_tellOne 111 = .ok (.invokevirtual 270, 3) := by decide +kernel
theorem dX10_tellOne_114 : decode cX10_tellOne 114 = .ok (.goto 142, 3) := by decide +kernel
theorem dX10_tellOne_117 : decode cX10_tellOne 117 = .ok (.aload_n 0, 1) := by decide +kernel
theorem dX10_tellOne_118 : decode cX10_tellOne 118 = .ok (.aload_n 0, 1) := by decide +kernel
theorem dX10_tellOne_119 : decode cX10_tellOne 119 = .ok (.getfield 64, 3) := by decide +kernel
theorem dX10_tellOne_122 : decode cX10_tellOne 122 = .ok (.aload_n 0, 1) := by decide +kernel
theorem dX10_tellOne_123 : decode cX10_tellOne 123 = .ok (.getfield 242, 3) := by decide +kernel
theorem dX10_tellOne_126 : decode cX10_tellOne 126 = .ok (.iaload, 1) := by decide +kernel
theorem dX10_tellOne_127 : decode cX10_tellOne 127 = .ok (.bipush 8, 2) := by decide +kernel
theorem dX10_tellOne_129 : decode cX10_tellOne 129 = .ok (.invokevirtual 263, 3) := by decide +kernel
theorem dX10_tellOne_132 : decode cX10_tellOne 132 = .ok (.aload_n 0, 1) := by decide +kernel
theorem dX10_tellOne_133 : decode cX10_tellOne 133 = .ok (.getfield 209, 3) := by decide +kernel
theorem dX10_tellOne_136 : decode cX10_tellOne 136 = .ok (.ifCond .ne 120, 3) := by decide +kernel
theorem dX10_tellOne_139 : decode cX10_tellOne 139 = .ok (.aload_n 0, 1) := by decide +kernel
theorem dX10_tellOne_140 : decode cX10_tellOne 140 = .ok (.invokevirtual 273, 3) := by decide +kernel
theorem dX10_tellOne_143 : decode cX10_tellOne 143 = .ok (.goto 113, 3) := by decide +kernel
theorem dX10_tellOne_146 : decode cX10_tellOne 146 = .ok (.aload_n 0, 1) := by decide +kernel
theorem dX10_tellOne_147 : decode cX10_tellOne 147 = .ok (.invokevirtual 230, 3) := by decide +kernel
theorem dX10_tellOne_150 : decode cX10_tellOne 150 = .ok (.aload_n 0, 1) := by decide +kernel
theorem dX10_tellOne_151 : decode cX10_tellOne 151 = .ok (.getfield 76, 3) := by decide +kernel
theorem dX10_tellOne_154 : decode cX10_tellOne 154 = .ok (.aload_n 0, 1) := by decide +kernel
theorem dX10_tellOne_155 : decode cX10_tellOne 155 = .ok (.getfield 242, 3) := by decide +kernel
theorem dX10_tellOne_158 : decode cX10_tellOne 158 = .ok (.aload_n 0, 1) := by decide +kernel
theorem dX10_tellOne_159 : decode cX10_tellOne 159 = .ok (.iconst 0, 1) := by decide +kernel
theorem dX10_tellOne_160 : decode cX10_tellOne 160 = .ok (.bipush 9, 2) := by decide +kernel
theorem dX10_tellOne_162 : decode cX10_tellOne 162 = .ok (.invokevirtual 276, 3) := by decide +kernel
theorem dX10_tellOne_165 : decode cX10_tellOne 165 = .ok (.iastore, 1) := by decide +kernel
theorem dX10_tellOne_166 : decode cX10_tellOne 166 = .ok (.aload_n 0, 1) := by decide +kernel
theorem dX10_tellOne_167 : decode cX10_tellOne 167 = .ok (.iconst 4, 1) := by decide +kernel
theorem dX10_tellOne_168 : decode cX10_tellOne 168 = .ok (.invokevirtual 280, 3) := by decide +kernel
theorem dX10_tellOne_171 : decode cX10_tellOne 171 = .ok (.goto 85, 3) := by decide +kernel
theorem dX10_tellOne_174 : decode cX10_tellOne 174 = .ok (.aload_n 0, 1) := by decide +kernel
theorem dX10_tellOne_175 : decode cX10_tellOne 175 = .ok (.invokevirtual 230, 3) := by decide +kernel
theorem dX10_tellOne_178 : decode cX10_tellOne 178 = .ok (.aload_n 0, 1) := by decide +kernel
theorem dX10_tellOne_179 : decode cX10_tellOne 179 = .ok (.getfield 79, 3) := by decide +kernel
theorem dX10_tellOne_182 : decode cX10_tellOne 182 = .ok (.aload_n 0, 1) := by decide +kernel
theorem dX10_tellOne_183 : decode cX10_tellOne 183 = .ok (.getfield 242, 3) := by decide +kernel
theorem dX10_tellOne_186 : decode cX10_tellOne 186 = .ok (.aload_n 0, 1) := by decide +kernel
theorem dX10_tellOne_187 : decode cX10_tellOne 187 = .ok (.iconst 0, 1) := by decide +kernel
theorem dX10_tellOne_188 : decode cX10_tellOne 188 = .ok (.sipush 9999, 3) := by decide +kernel
theorem dX10_tellOne_191 : decode cX10_tellOne 191 = .ok (.invokevirtual 276, 3) := by decide +kernel
theorem dX10_tellOne_194 : decode cX10_tellOne 194 = .ok (.iastore, 1) := by decide +kernel
theorem dX10_tellOne_195 : decode cX10_tellOne 195 = .ok (.aload_n 0, 1) := by decide +kernel
theorem dX10_tellOne_196 : decode cX10_tellOne 196 = .ok (.iconst 4, 1) := by decide +kernel
theorem dX10_tellOne_197 : decode cX10_tellOne 197 = .ok (.invokevirtual 280, 3) := by decide +kernel
theorem dX10_tellOne_200 : decode cX10_tellOne 200 = .ok (.goto 56, 3) := by decide +kernel
theorem dX10_tellOne_203 : decode cX10_tellOne 203 = .ok (.aload_n 0, 1) := by decide +kernel
theorem dX10_tellOne_204 : decode cX10_tellOne 204 = .ok (.getfield 20, 3) := by decide +kernel
theorem dX10_tellOne_207 : decode cX10_tellOne 207 = .ok (.aload_n 0, 1) := by decide +kernel
theorem dX10_tellOne_208 : decode cX10_tellOne 208 = .ok (.getfield 212, 3) := by decide +kernel
theorem dX10_tellOne_211 : decode cX10_tellOne 211 = .ok (.iaload, 1) := by decide +kernel
theorem dX10_tellOne_212 : decode cX10_tellOne 212 = .ok (.bipush 23, 2) := by decide +kernel
theorem dX10_tellOne_214 : decode cX10_tellOne 214 = .ok (.isub, 1) := by decide +kernel
theorem dX10_tellOne_215 : decode cX10_tellOne 215 = .ok (.istore_n 1, 1) := by decide +kernel
theorem dX10_tellOne_216 : decode cX10_tellOne 216 = .ok (.iload_n 1, 1) := by decide +kernel
theorem dX10_tellOne_217 : decode cX10_tellOne 217 = .ok (.ifCond .lt 17, 3) := by decide +kernel
theorem dX10_tellOne_220 : decode cX10_tellOne 220 = .ok (.aload_n 0, 1) := by decide +kernel
theorem dX10_tellOne_221 : decode cX10_tellOne 221 = .ok (.getfield 20, 3) := by decide +kernel
theorem dX10_tellOne_224 : decode cX10_tellOne 224 = .ok (.aload_n 0, 1) := by decide +kernel
theorem dX10_tellOne_225 : decode cX10_tellOne 225 = .ok (.getfield 212, 3) := by decide +kernel
theorem dX10_tellOne_228 : decode cX10_tellOne 228 = .ok (.iaload, 1) := by decide +kernel
theorem dX10_tellOne_229 : decode cX10_tellOne 229 = .ok (.bipush 26, 2) := by decide +kernel
theorem dX10_tellOne_231 : decode cX10_tellOne 231 = .ok (.if_icmp .le 8, 3) := by decide +kernel
theorem dX10_tellOne_234 : decode cX10_tellOne 234 = .ok (.aload_n 0, 1) := by decide +kernel
theorem dX10_tellOne_235 : decode cX10_tellOne 235 = .ok (.iconst 1, 1) := by decide +kernel
theorem dX10_tellOne_236 : decode cX10_tellOne 236 = .ok (.invokevirtual 224, 3) := by decide +kernel
theorem dX10_tellOne_239 : decode cX10_tellOne 239 = .ok (.aload_n 0, 1) := by decide +kernel
theorem dX10_tellOne_240 : decode cX10_tellOne 240 = .ok (.getfield 209, 3) := by decide +kernel
theorem dX10_tellOne_243 : decode cX10_tellOne 243 = .ok (.ifCond .le 4, 3) := by decide +kernel
theorem dX10_tellOne_246 : decode cX10_tellOne 246 = .ok (.return_, 1) := by decide +kernel
theorem dX10_tellOne_247 : decode cX10_tellOne 247 = .ok (.aload_n 0, 1) := by decide +kernel
theorem dX10_tellOne_248 : decode cX10_tellOne 248 = .ok (.invokevirtual 230, 3) := by decide +kernel
theorem dX10_tellOne_251 : decode cX10_tellOne 251 = .ok (.aload_n 0, 1) := by decide +kernel
theorem dX10_tellOne_252 : decode cX10_tellOne 252 = .ok (.iload_n 1, 1) := by decide +kernel
theorem dX10_tellOne_253 : decode cX10_tellOne 253 = .ok (.invokevirtual 283, 3) := by decide +kernel
theorem dX10_tellOne_256 : decode cX10_tellOne 256 = .ok (.return_, 1) := by decide +kernel
theorem dX10_named_0 : decode cX10_named 0 = .ok (.aload_n 0, 1) := by decide +kernel
theorem dX10_named_1 : decode cX10_named 1 = .ok (.getfield 212, 3) := by decide +kernel
theorem dX10_named_4 : decode cX10_named 4 = .ok (.istore_n 1, 1) := by decide +kernel
theorem dX10_named_5 : decode cX10_named 5 = .ok (.aload_n 0, 1) := by decide +kernel
theorem dX10_named_6 : decode cX10_named 6 = .ok (.iconst 1, 1) := by decide +kernel
theorem dX10_named_7 : decode cX10_named 7 = .ok (.invokevirtual 280, 3) := by decide +kernel
theorem dX10_named_10 : decode cX10_named 10 = .ok (.iconst 0, 1) := by decide +kernel
theorem dX10_named_11 : decode cX10_named 11 = .ok (.istore_n 2, 1) := by decide +kernel
theorem dX10_named_12 : decode cX10_named 12 = .ok (.iload_n 2, 1) := by decide +kernel
theorem dX10_named_13 : decode cX10_named 13 = .ok (.aload_n 0, 1) := by decide +kernel
theorem dX10_named_14 : decode cX10_named 14 = .ok (.getfield 245, 3) := by decide +kernel
theorem dX10_named_17 : decode cX10_named 17 = .ok (.if_icmp .ge 38, 3) := by decide +kernel
theorem dX10_named_20 : decode cX10_named 20 = .ok (.aload_n 0, 1) := by decide +kernel
theorem dX10_named_21 : decode cX10_named 21 = .ok (.getfield 209, 3) := by decide +kernel
theorem dX10_named_24 : decode cX10_named 24 = .ok (.ifCond .ne 31, 3) := by decide +kernel
theorem dX10_named_27 : decode cX10_named 27 = .ok (.aload_n 0, 1) := by decide +kernel
theorem dX10_named_28 : decode cX10_named 28 = .ok (.getfield 40, 3) := by decide +kernel
theorem dX10_named_31 : decode cX10_named 31 = .ok (.iload_n 2, 1) := by decide +kernel
theorem dX10_named_32 : decode cX10_named 32 = .ok (.laload, 1) := by decide +kernel
theorem dX10_named_33 : decode cX10_named 33 = .ok (.aload_n 0, 1) := by decide +kernel
theorem dX10_named_34 : decode cX10_named 34 = .ok (.getfield 30, 3) := by decide +kernel
theorem dX10_named_37 : decode cX10_named 37 = .ok (.iload_n 1, 1) := by decide +kernel
theorem dX10_named_38 : decode cX10_named 38 = .ok (.laload, 1) := by decide +kernel
theorem dX10_named_39 : decode cX10_named 39 = .ok (.lcmp, 1) := by decide +kernel
theorem dX10_named_40 : decode cX10_named 40 = .ok (.ifCond .ne 9, 3) := by decide +kernel
theorem dX10_named_43 : decode cX10_named 43 = .ok (.aload_n 0, 1) := by decide +kernel
theorem dX10_named_44 : decode cX10_named 44 = .ok (.iconst 3, 1) := by decide +kernel
theorem dX10_named_45 : decode cX10_named 45 = .ok (.iload_n 1, 1) := by decide +kernel
theorem dX10_named_46 : decode cX10_named 46 = .ok (.invokevirtual 286, 3) := by decide +kernel
theorem dX10_named_49 : decode cX10_named 49 = .ok (.iinc 2 1, 3) := by decide +kernel
theorem dX10_named_52 : decode cX10_named 52 = .ok (.goto (-40), 3) := by decide +kernel
theorem dX10_named_55 : decode cX10_named 55 = .ok (.iload_n 1, 1) := by decide +kernel
theorem dX10_named_56 : decode cX10_named 56 = .ok (.ireturn, 1) := by decide +kernel
theorem dX10_endsName_0 : decode cX10_endsName 0 = .ok (.aload_n 0, 1) := by decide +kernel
theorem dX10_endsName_1 : decode cX10_endsName 1 = .ok (.iconst 4, 1) := by decide +kernel
theorem dX10_endsName_2 : decode cX10_endsName 2 = .ok (.invokevirtual 280, 3) := by decide +kernel
theorem dX10_endsName_5 : decode cX10_endsName 5 = .ok (.aload_n 0, 1) := by decide +kernel
theorem dX10_endsName_6 : decode cX10_endsName 6 = .ok (.getfield 209, 3) := by decide +kernel
theorem dX10_endsName_9 : decode cX10_endsName 9 = .ok (.ifCond .le 4, 3) := by decide +kernel
theorem dX10_endsName_12 : decode cX10_endsName 12 = .ok (.return_, 1) := by decide +kernel
theorem dX10_endsName_13 : decode cX10_endsName 13 = .ok (.aload_n 0, 1) := by decide +kernel
theorem dX10_endsName_14 : decode cX10_endsName 14 = .ok (.getfield 40, 3) := by decide +kernel
theorem dX10_endsName_17 : decode cX10_endsName 17 = .ok (.aload_n 0, 1) := by decide +kernel
theorem dX10_endsName_18 : decode cX10_endsName 18 = .ok (.getfield 245, 3) := by decide +kernel
theorem dX10_endsName_21 : decode cX10_endsName 21 = .ok (.aload_n 0, 1) := by decide +kernel
theorem dX10_endsName_22 : decode cX10_endsName 22 = .ok (.getfield 30, 3) := by decide +kernel
theorem dX10_endsName_25 : decode cX10_endsName 25 = .ok (.iload_n 1, 1) := by decide +kernel
theorem dX10_endsName_26 : decode cX10_endsName 26 = .ok (.laload, 1) := by decide +kernel
theorem dX10_endsName_27 : decode cX10_endsName 27 = .ok (.lastore, 1) := by decide +kernel
theorem dX10_endsName_28 : decode cX10_endsName 28 = .ok (.aload_n 0, 1) := by decide +kernel
theorem dX10_endsName_29 : decode cX10_endsName 29 = .ok (.getfield 43, 3) := by decide +kernel
theorem dX10_endsName_32 : decode cX10_endsName 32 = .ok (.aload_n 0, 1) := by decide +kernel
theorem dX10_endsName_33 : decode cX10_endsName 33 = .ok (.getfield 245, 3) := by decide +kernel
theorem dX10_endsName_36 : decode cX10_endsName 36 = .ok (.iload_n 2, 1) := by decide +kernel
theorem dX10_endsName_37 : decode cX10_endsName 37 = .ok (.iastore, 1) := by decide +kernel
theorem dX10_endsName_38 : decode cX10_endsName 38 = .ok (.aload_n 0, 1) := by decide +kernel
theorem dX10_endsName_39 : decode cX10_endsName 39 = .ok (.dup, 1) := by decide +kernel
theorem dX10_endsName_40 : decode cX10_endsName 40 = .ok (.getfield 245, 3) := by decide +kernel
theorem dX10_endsName_43 : decode cX10_endsName 43 = .ok (.iconst 1, 1) := by decide +kernel
theorem dX10_endsName_44 : decode cX10_endsName 44 = .ok (.iadd, 1) := by decide +kernel
theorem dX10_endsName_45 : decode cX10_endsName 45 = .ok (.putfield 245, 3) := by decide +kernel
theorem dX10_endsName_48 : decode cX10_endsName 48 = .ok (.return_, 1) := by decide +kernel
theorem dX10_known_0 : decode cX10_known 0 = .ok (.aload_n 0, 1) := by decide +kernel
theorem dX10_known_1 : decode cX10_known 1 = .ok (.getfield 212, 3) := by decide +kernel
theorem dX10_known_4 : decode cX10_known 4 = .ok (.istore_n 2, 1) := by decide +kernel
theorem dX10_known_5 : decode cX10_known 5 = .ok (.aload_n 0, 1) := by decide +kernel
theorem dX10_known_6 : decode cX10_known 6 = .ok (.iconst 1, 1) := by decide +kernel
theorem dX10_known_7 : decode cX10_known 7 = .ok (.invokevirtual 280, 3) := by decide +kernel
theorem dX10_known_10 : decode cX10_known 10 = .ok (.aload_n 0, 1) := by decide +kernel
theorem dX10_known_11 : decode cX10_known 11 = .ok (.getfield 209, 3) := by decide +kernel
theorem dX10_known_14 : decode cX10_known 14 = .ok (.ifCond .le 5, 3) := by decide +kernel
theorem dX10_known_17 : decode cX10_known 17 = .ok (.iconst (-1), 1) := by decide +kernel
theorem dX10_known_18 : decode cX10_known 18 = .ok (.ireturn, 1) := by decide +kernel
theorem dX10_known_19 : decode cX10_known 19 = .ok (.iconst 0, 1) := by decide +kernel
theorem dX10_known_20 : decode cX10_known 20 = .ok (.istore_n 3, 1) := by decide +kernel
theorem dX10_known_21 : decode cX10_known 21 = .ok (.iload_n 3, 1) := by decide +kernel
theorem dX10_known_22 : decode cX10_known 22 = .ok (.aload_n 0, 1) := by decide +kernel
theorem dX10_known_23 : decode cX10_known 23 = .ok (.getfield 245, 3) := by decide +kernel
theorem dX10_known_26 : decode cX10_known 26 = .ok (.if_icmp .ge 57, 3) := by decide +kernel
theorem dX10_known_29 : decode cX10_known 29 = .ok (.aload_n 0, 1) := by decide +kernel
theorem dX10_known_30 : decode cX10_known 30 = .ok (.getfield 40, 3) := by decide +kernel
theorem dX10_known_33 : decode cX10_known 33 = .ok (.iload_n 3, 1) := by decide +kernel
theorem dX10_known_34 : decode cX10_known 34 = .ok (.laload, 1) := by decide +kernel
theorem dX10_known_35 : decode cX10_known 35 = .ok (.aload_n 0, 1) := by decide +kernel
theorem dX10_known_36 : decode cX10_known 36 = .ok (.getfield 30, 3) := by decide +kernel
theorem dX10_known_39 : decode cX10_known 39 = .ok (.iload_n 2, 1) := by decide +kernel
theorem dX10_known_40 : decode cX10_known 40 = .ok (.laload, 1) := by decide +kernel
theorem dX10_known_41 : decode cX10_known 41 = .ok (.lcmp, 1) := by decide +kernel
theorem dX10_known_42 : decode cX10_known 42 = .ok (.ifCond .ne 35, 3) := by decide +kernel
theorem dX10_known_45 : decode cX10_known 45 = .ok (.aload_n 0, 1) := by decide +kernel
theorem dX10_known_46 : decode cX10_known 46 = .ok (.getfield 43, 3) := by decide +kernel
theorem dX10_known_49 : decode cX10_known 49 = .ok (.iload_n 3, 1) := by decide +kernel
theorem dX10_known_50 : decode cX10_known 50 = .ok (.iaload, 1) := by decide +kernel
theorem dX10_known_51 : decode cX10_known 51 = .ok (.iload_n 1, 1) := by decide +kernel
theorem dX10_known_52 : decode cX10_known 52 = .ok (.if_icmp .lt 25, 3) := by decide +kernel
theorem dX10_known_55 : decode cX10_known 55 = .ok (.aload_n 0, 1) := by decide +kernel
theorem dX10_known_56 : decode cX10_known 56 = .ok (.getfield 43, 3) := by decide +kernel
theorem dX10_known_59 : decode cX10_known 59 = .ok (.iload_n 3, 1) := by decide +kernel
theorem dX10_known_60 : decode cX10_known 60 = .ok (.iaload, 1) := by decide +kernel
theorem dX10_known_61 : decode cX10_known 61 = .ok (.iload_n 1, 1) := by decide +kernel
theorem dX10_known_62 : decode cX10_known 62 = .ok (.bipush 10, 2) := by decide +kernel
theorem dX10_known_64 : decode cX10_known 64 = .ok (.iadd, 1) := by decide +kernel
theorem dX10_known_65 : decode cX10_known 65 = .ok (.if_icmp .ge 12, 3) := by decide +kernel
theorem dX10_known_68 : decode cX10_known 68 = .ok (.aload_n 0, 1) := by decide +kernel
theorem dX10_known_69 : decode cX10_known 69 = .ok (.getfield 43, 3) := by decide +kernel
theorem dX10_known_72 : decode cX10_known 72 = .ok (.iload_n 3, 1) := by decide +kernel
theorem dX10_known_73 : decode cX10_known 73 = .ok (.iaload, 1) := by decide +kernel
theorem dX10_known_74 : decode cX10_known 74 = .ok (.iload_n 1, 1) := by decide +kernel
theorem dX10_known_75 : decode cX10_known 75 = .ok (.isub, 1) := by decide +kernel
theorem dX10_known_76 : decode cX10_known 76 = .ok (.ireturn, 1) := by decide +kernel
theorem dX10_known_77 : decode cX10_known 77 = .ok (.iinc 3 1, 3) := by decide +kernel
theorem dX10_known_80 : decode cX10_known 80 = .ok (.goto (-59), 3) := by decide +kernel
theorem dX10_known_83 : decode cX10_known 83 = .ok (.aload_n 0, 1) := by decide +kernel
theorem dX10_known_84 : decode cX10_known 84 = .ok (.iconst 4, 1) := by decide +kernel
theorem dX10_known_85 : decode cX10_known 85 = .ok (.iload_n 2, 1) := by decide +kernel
theorem dX10_known_86 : decode cX10_known 86 = .ok (.invokevirtual 286, 3) := by decide +kernel
theorem dX10_known_89 : decode cX10_known 89 = .ok (.iconst (-1), 1) := by decide +kernel
theorem dX10_known_90 : decode cX10_known 90 = .ok (.ireturn, 1) := by decide +kernel
theorem dX10_bounded_0 : decode cX10_bounded 0 = .ok (.aload_n 0, 1) := by decide +kernel
theorem dX10_bounded_1 : decode cX10_bounded 1 = .ok (.getfield 209, 3) := by decide +kernel
theorem dX10_bounded_4 : decode cX10_bounded 4 = .ok (.ifCond .gt 11, 3) := by decide +kernel
theorem dX10_bounded_7 : decode cX10_bounded 7 = .ok (.aload_n 0, 1) := by decide +kernel
theorem dX10_bounded_8 : decode cX10_bounded 8 = .ok (.iconst 2, 1) := by decide +kernel
theorem dX10_bounded_9 : decode cX10_bounded 9 = .ok (.invokevirtual 227, 3) := by decide +kernel
theorem dX10_bounded_12 : decode cX10_bounded 12 = .ok (.ifCond .ne 10, 3) := by decide +kernel
theorem dX10_bounded_15 : decode cX10_bounded 15 = .ok (.aload_n 0, 1) := by decide +kernel
theorem dX10_bounded_16 : decode cX10_bounded 16 = .ok (.iconst 1, 1) := by decide +kernel
theorem dX10_bounded_17 : decode cX10_bounded 17 = .ok (.invokevirtual 224, 3) := by decide +kernel
theorem dX10_bounded_20 : decode cX10_bounded 20 = .ok (.iload_n 1, 1) := by decide +kernel
theorem dX10_bounded_21 : decode cX10_bounded 21 = .ok (.ireturn, 1) := by decide +kernel
theorem dX10_bounded_22 : decode cX10_bounded 22 = .ok (.aload_n 0, 1) := by decide +kernel
theorem dX10_bounded_23 : decode cX10_bounded 23 = .ok (.getfield 27, 3) := by decide +kernel
theorem dX10_bounded_26 : decode cX10_bounded 26 = .ok (.aload_n 0, 1) := by decide +kernel
theorem dX10_bounded_27 : decode cX10_bounded 27 = .ok (.getfield 212, 3) := by decide +kernel
theorem dX10_bounded_30 : decode cX10_bounded 30 = .ok (.iaload, 1) := by decide +kernel
theorem dX10_bounded_31 : decode cX10_bounded 31 = .ok (.istore_n 3, 1) := by decide +kernel
theorem dX10_bounded_32 : decode cX10_bounded 32 = .ok (.iload_n 3, 1) := by decide +kernel
theorem dX10_bounded_33 : decode cX10_bounded 33 = .ok (.iload_n 1, 1) := by decide +kernel
theorem dX10_bounded_34 : decode cX10_bounded 34 = .ok (.if_icmp .lt 8, 3) := by decide +kernel
theorem dX10_bounded_37 : decode cX10_bounded 37 = .ok (.iload_n 3, 1) := by decide +kernel
theorem dX10_bounded_38 : decode cX10_bounded 38 = .ok (.iload_n 2, 1) := by decide +kernel
theorem dX10_bounded_39 : decode cX10_bounded 39 = .ok (.if_icmp .le 12, 3) := by decide +kernel
theorem dX10_bounded_42 : decode cX10_bounded 42 = .ok (.aload_n 0, 1) := by decide +kernel
theorem dX10_bounded_43 : decode cX10_bounded 43 = .ok (.iconst 5, 1) := by decide +kernel
theorem dX10_bounded_44 : decode cX10_bounded 44 = .ok (.aload_n 0, 1) := by decide +kernel
theorem dX10_bounded_45 : decode cX10_bounded 45 = .ok (.getfield 212, 3) := by decide +kernel
theorem dX10_bounded_48 : decode cX10_bounded 48 = .ok (.invokevirtual 286, 3) := by decide +kernel
theorem dX10_bounded_51 : decode cX10_bounded 51 = .ok (.aload_n 0, 1) := by decide +kernel
theorem dX10_bounded_52 : decode cX10_bounded 52 = .ok (.invokevirtual 230, 3) := by decide +kernel
theorem dX10_bounded_55 : decode cX10_bounded 55 = .ok (.iload_n 3, 1) := by decide +kernel
theorem dX10_bounded_56 : decode cX10_bounded 56 = .ok (.ireturn, 1) := by decide +kernel
theorem dX10_toldStep_0 : decode cX10_toldStep 0 = .ok (.aload_n 0, 1) := by decide +kernel
theorem dX10_toldStep_1 : decode cX10_toldStep 1 = .ok (.getfield 209, 3) := by decide +kernel
theorem dX10_toldStep_4 : decode cX10_toldStep 4 = .ok (.ifCond .ne 16, 3) := by decide +kernel
theorem dX10_toldStep_7 : decode cX10_toldStep 7 = .ok (.aload_n 0, 1) := by decide +kernel
theorem dX10_toldStep_8 : decode cX10_toldStep 8 = .ok (.bipush 9, 2) := by decide +kernel
theorem dX10_toldStep_10 : decode cX10_toldStep 10 = .ok (.invokevirtual 227, 3) := by decide +kernel
theorem dX10_toldStep_13 : decode cX10_toldStep 13 = .ok (.ifCond .eq 7, 3) := by decide +kernel
theorem dX10_toldStep_16 : decode cX10_toldStep 16 = .ok (.iconst 1, 1) := by decide +kernel
theorem dX10_toldStep_17 : decode cX10_toldStep 17 = .ok (.goto 4, 3) := by decide +kernel
theorem dX10_toldStep_20 : decode cX10_toldStep 20 = .ok (.iconst 0, 1) := by decide +kernel
theorem dX10_toldStep_21 : decode cX10_toldStep 21 = .ok (.istore_n 1, 1) := by decide +kernel
theorem dX10_toldStep_22 : decode cX10_toldStep 22 = .ok (.iload_n 1, 1) := by decide +kernel
theorem dX10_toldStep_23 : decode cX10_toldStep 23 = .ok (.ifCond .eq 7, 3) := by decide +kernel
theorem dX10_toldStep_26 : decode cX10_toldStep 26 = .ok (.aload_n 0, 1) := by decide +kernel
theorem dX10_toldStep_27 : decode cX10_toldStep 27 = .ok (.invokevirtual 230, 3) := by decide +kernel
theorem dX10_toldStep_30 : decode cX10_toldStep 30 = .ok (.aload_n 0, 1) := by decide +kernel
theorem dX10_toldStep_31 : decode cX10_toldStep 31 = .ok (.iconst 0, 1) := by decide +kernel
theorem dX10_toldStep_32 : decode cX10_toldStep 32 = .ok (.iconst 3, 1) := by decide +kernel
theorem dX10_toldStep_33 : decode cX10_toldStep 33 = .ok (.invokevirtual 276, 3) := by decide +kernel
theorem dX10_toldStep_36 : decode cX10_toldStep 36 = .ok (.istore_n 2, 1) := by decide +kernel
theorem dX10_toldStep_37 : decode cX10_toldStep 37 = .ok (.iload_n 1, 1) := by decide +kernel
theorem dX10_toldStep_38 : decode cX10_toldStep 38 = .ok (.ifCond .eq 8, 3) := by decide +kernel
theorem dX10_toldStep_41 : decode cX10_toldStep 41 = .ok (.iload_n 2, 1) := by decide +kernel
theorem dX10_toldStep_42 : decode cX10_toldStep 42 = .ok (.ineg, 1) := by decide +kernel
theorem dX10_toldStep_43 : decode cX10_toldStep 43 = .ok (.goto 4, 3) := by decide +kernel
theorem dX10_toldStep_46 : decode cX10_toldStep 46 = .ok (.iload_n 2, 1) := by decide +kernel
theorem dX10_toldStep_47 : decode cX10_toldStep 47 = .ok (.ireturn, 1) := by decide +kernel
theorem dX10_tellMermaid_0 : decode cX10_tellMermaid 0 = .ok (.bipush 16, 2) := by decide +kernel
theorem dX10_tellMermaid_2 : decode cX10_tellMermaid 2 = .ok (.aload_n 0, 1) := by decide +kernel
theorem dX10_tellMermaid_3 : decode cX10_tellMermaid 3 = .ok (.getfield 242, 3) := by decide +kernel
theorem dX10_tellMermaid_6 : decode cX10_tellMermaid 6 = .ok (.imul, 1) := by decide +kernel
theorem dX10_tellMermaid_7 : decode cX10_tellMermaid 7 = .ok (.aload_n 0, 1) := by decide +kernel
theorem dX10_tellMermaid_8 : decode cX10_tellMermaid 8 = .ok (.getfield 46, 3) := by decide +kernel
theorem dX10_tellMermaid_11 : decode cX10_tellMermaid 11 = .ok (.aload_n 0, 1) := by decide +kernel
theorem dX10_tellMermaid_12 : decode cX10_tellMermaid 12 = .ok (.getfield 242, 3) := by decide +kernel
theorem dX10_tellMermaid_15 : decode cX10_tellMermaid 15 = .ok (.iaload, 1) := by decide +kernel
theorem dX10_tellMermaid_16 : decode cX10_tellMermaid 16 = .ok (.iadd, 1) := by decide +kernel
theorem dX10_tellMermaid_17 : decode cX10_tellMermaid 17 = .ok (.istore_n 1, 1) := by decide +kernel
theorem dX10_tellMermaid_18 : decode cX10_tellMermaid 18 = .ok (.aload_n 0, 1) := by decide +kernel
theorem dX10_tellMermaid_19 : decode cX10_tellMermaid 19 = .ok (.invokevirtual 289, 3) := by decide +kernel
theorem dX10_tellMermaid_22 : decode cX10_tellMermaid 22 = .ok (.istore_n 2, 1) := by decide +kernel
theorem dX10_tellMermaid_23 : decode cX10_tellMermaid 23 = .ok (.aload_n 0, 1) := by decide +kernel
theorem dX10_tellMermaid_24 : decode cX10_tellMermaid 24 = .ok (.getfield 49, 3) := by decide +kernel
theorem dX10_tellMermaid_27 : decode cX10_tellMermaid 27 = .ok (.iload_n 1, 1) := by decide +kernel
theorem dX10_tellMermaid_28 : decode cX10_tellMermaid 28 = .ok (.aload_n 0, 1) := by decide +kernel
theorem dX10_tellMermaid_29 : decode cX10_tellMermaid 29 = .ok (.iconst 0, 1) := by decide +kernel
theorem dX10_tellMermaid_30 : decode cX10_tellMermaid 30 = .ok (.bipush 9, 2) := by decide +kernel
theorem dX10_tellMermaid_32 : decode cX10_tellMermaid 32 = .ok (.invokevirtual 276, 3) := by decide +kernel
theorem dX10_tellMermaid_35 : decode cX10_tellMermaid 35 = .ok (.iastore, 1) := by decide +kernel
theorem dX10_tellMermaid_36 : decode cX10_tellMermaid 36 = .ok (.aload_n 0, 1) := by decide +kernel
theorem dX10_tellMermaid_37 : decode cX10_tellMermaid 37 = .ok (.getfield 49, 3) := by decide +kernel
theorem dX10_tellMermaid_40 : decode cX10_tellMermaid 40 = .ok (.iload_n 1, 1) := by decide +kernel
theorem dX10_tellMermaid_41 : decode cX10_tellMermaid 41 = .ok (.iconst 4, 1) := by decide +kernel
theorem dX10_tellMermaid_42 : decode cX10_tellMermaid 42 = .ok (.iadd, 1) := by decide +kernel
theorem dX10_tellMermaid_43 : decode cX10_tellMermaid 43 = .ok (.aload_n 0, 1) := by decide +kernel
theorem dX10_tellMermaid_44 : decode cX10_tellMermaid 44 = .ok (.iconst 0, 1) := by decide +kernel
theorem dX10_tellMermaid_45 : decode cX10_tellMermaid 45 = .ok (.bipush 9, 2) := by decide +kernel
theorem dX10_tellMermaid_47 : decode cX10_tellMermaid 47 = .ok (.invokevirtual 276, 3) := by decide +kernel
theorem dX10_tellMermaid_50 : decode cX10_tellMermaid 50 = .ok (.iastore, 1) := by decide +kernel
theorem dX10_tellMermaid_51 : decode cX10_tellMermaid 51 = .ok (.aload_n 0, 1) := by decide +kernel
theorem dX10_tellMermaid_52 : decode cX10_tellMermaid 52 = .ok (.getfield 49, 3) := by decide +kernel
theorem dX10_tellMermaid_55 : decode cX10_tellMermaid 55 = .ok (.iload_n 1, 1) := by decide +kernel
theorem dX10_tellMermaid_56 : decode cX10_tellMermaid 56 = .ok (.bipush 8, 2) := by decide +kernel
theorem dX10_tellMermaid_58 : decode cX10_tellMermaid 58 = .ok (.iadd, 1) := by decide +kernel
theorem dX10_tellMermaid_59 : decode cX10_tellMermaid 59 = .ok (.aload_n 0, 1) := by decide +kernel
theorem dX10_tellMermaid_60 : decode cX10_tellMermaid 60 = .ok (.invokevirtual 293, 3) := by decide +kernel
theorem dX10_tellMermaid_63 : decode cX10_tellMermaid 63 = .ok (.iastore, 1) := by decide +kernel
theorem dX10_tellMermaid_64 : decode cX10_tellMermaid 64 = .ok (.aload_n 0, 1) := by decide +kernel
theorem dX10_tellMermaid_65 : decode cX10_tellMermaid 65 = .ok (.getfield 49, 3) := by decide +kernel
theorem dX10_tellMermaid_68 : decode cX10_tellMermaid 68 = .ok (.iload_n 1, 1) := by decide +kernel
theorem dX10_tellMermaid_69 : decode cX10_tellMermaid 69 = .ok (.bipush 12, 2) := by decide +kernel
theorem dX10_tellMermaid_71 : decode cX10_tellMermaid 71 = .ok (.iadd, 1) := by decide +kernel
theorem dX10_tellMermaid_72 : decode cX10_tellMermaid 72 = .ok (.aload_n 0, 1) := by decide +kernel
theorem dX10_tellMermaid_73 : decode cX10_tellMermaid 73 = .ok (.invokevirtual 293, 3) := by decide +kernel
theorem dX10_tellMermaid_76 : decode cX10_tellMermaid 76 = .ok (.iastore, 1) := by decide +kernel
theorem dX10_tellMermaid_77 : decode cX10_tellMermaid 77 = .ok (.aload_n 0, 1) := by decide +kernel
theorem dX10_tellMermaid_78 : decode cX10_tellMermaid 78 = .ok (.iload_n 2, 1) := by decide +kernel
theorem dX10_tellMermaid_79 : decode cX10_tellMermaid 79 = .ok (.aload_n 0, 1) := by decide +kernel
theorem dX10_tellMermaid_80 : decode cX10_tellMermaid 80 = .ok (.getfield 46, 3) := by decide +kernel
theorem dX10_tellMermaid_83 : decode cX10_tellMermaid 83 = .ok (.aload_n 0, 1) := by decide +kernel
theorem dX10_tellMermaid_84 : decode cX10_tellMermaid 84 = .ok (.getfield 242, 3) := by decide +kernel
theorem dX10_tellMermaid_87 : decode cX10_tellMermaid 87 = .ok (.iaload, 1) := by decide +kernel
theorem dX10_tellMermaid_88 : decode cX10_tellMermaid 88 = .ok (.invokevirtual 296, 3) := by decide +kernel
theorem dX10_tellMermaid_91 : decode cX10_tellMermaid 91 = .ok (.aload_n 0, 1) := by decide +kernel
theorem dX10_tellMermaid_92 : decode cX10_tellMermaid 92 = .ok (.getfield 209, 3) := by decide +kernel
theorem dX10_tellMermaid_95 : decode cX10_tellMermaid 95 = .ok (.ifCond .ne 16, 3) := by decide +kernel
theorem dX10_tellMermaid_98 : decode cX10_tellMermaid 98 = .ok (.aload_n 0, 1) := by decide +kernel
theorem dX10_tellMermaid_99 : decode cX10_tellMermaid 99 = .ok (.getfield 46, 3) := by decide +kernel
theorem dX10_tellMermaid_102 : decode cX10_tellMermaid 102 = .ok (.aload_n 0, 1) := by decide +kernel
theorem dX10_tellMermaid_103 : decode cX10_tellMermaid 103 = .ok (.getfield 242, 3) := by decide +kernel
theorem dX10_tellMermaid_106 : decode cX10_tellMermaid 106 = .ok (.dup2, 1) := by decide +kernel
theorem dX10_tellMermaid_107 : decode cX10_tellMermaid 107 = .ok (.iaload, 1) := by decide +kernel
theorem dX10_tellMermaid_108 : decode cX10_tellMermaid 108 = .ok (.iconst 1, 1) := by decide +kernel
theorem dX10_tellMermaid_109 : decode cX10_tellMermaid 109 = .ok (.iadd, 1) := by decide +kernel
theorem dX10_tellMermaid_110 : decode cX10_tellMermaid 110 = .ok (.iastore, 1) := by decide +kernel
theorem dX10_tellMermaid_111 : decode cX10_tellMermaid 111 = .ok (.return_, 1) := by decide +kernel
theorem dX10_tellPerson_0 : decode cX10_tellPerson 0 = .ok (.bipush 6, 2) := by decide +kernel
theorem dX10_tellPerson_2 : decode cX10_tellPerson 2 = .ok (.aload_n 0, 1) := by decide +kernel
theorem dX10_tellPerson_3 : decode cX10_tellPerson 3 = .ok (.getfield 242, 3) := by decide +kernel
theorem dX10_tellPerson_6 : decode cX10_tellPerson 6 = .ok (.imul, 1) := by decide +kernel
theorem dX10_tellPerson_7 : decode cX10_tellPerson 7 = .ok (.aload_n 0, 1) := by decide +kernel
theorem dX10_tellPerson_8 : decode cX10_tellPerson 8 = .ok (.getfield 52, 3) := by decide +kernel
theorem dX10_tellPerson_11 : decode cX10_tellPerson 11 = .ok (.aload_n 0, 1) := by decide +kernel
theorem dX10_tellPerson_12 : decode cX10_tellPerson 12 = .ok (.getfield 242, 3) := by decide +kernel
theorem dX10_tellPerson_15 : decode cX10_tellPerson 15 = .ok (.iaload, 1) := by decide +kernel
theorem dX10_tellPerson_16 : decode cX10_tellPerson 16 = .ok (.iadd, 1) := by decide +kernel
theorem dX10_tellPerson_17 : decode cX10_tellPerson 17 = .ok (.istore_n 1, 1) := by decide +kernel
theorem dX10_tellPerson_18 : decode cX10_tellPerson 18 = .ok (.aload_n 0, 1) := by decide +kernel
theorem dX10_tellPerson_19 : decode cX10_tellPerson 19 = .ok (.invokevirtual 289, 3) := by decide +kernel
theorem dX10_tellPerson_22 : decode cX10_tellPerson 22 = .ok (.istore_n 2, 1) := by decide +kernel
theorem dX10_tellPerson_23 : decode cX10_tellPerson 23 = .ok (.aload_n 0, 1) := by decide +kernel
theorem dX10_tellPerson_24 : decode cX10_tellPerson 24 = .ok (.getfield 55, 3) := by decide +kernel
theorem dX10_tellPerson_27 : decode cX10_tellPerson 27 = .ok (.iload_n 1, 1) := by decide +kernel
theorem dX10_tellPerson_28 : decode cX10_tellPerson 28 = .ok (.aload_n 0, 1) := by decide +kernel
theorem dX10_tellPerson_29 : decode cX10_tellPerson 29 = .ok (.iconst 0, 1) := by decide +kernel
theorem dX10_tellPerson_30 : decode cX10_tellPerson 30 = .ok (.bipush 9, 2) := by decide +kernel
theorem dX10_tellPerson_32 : decode cX10_tellPerson 32 = .ok (.invokevirtual 276, 3) := by decide +kernel
theorem dX10_tellPerson_35 : decode cX10_tellPerson 35 = .ok (.iastore, 1) := by decide +kernel
theorem dX10_tellPerson_36 : decode cX10_tellPerson 36 = .ok (.aload_n 0, 1) := by decide +kernel
theorem dX10_tellPerson_37 : decode cX10_tellPerson 37 = .ok (.getfield 58, 3) := by decide +kernel
theorem dX10_tellPerson_40 : decode cX10_tellPerson 40 = .ok (.iload_n 1, 1) := by decide +kernel
theorem dX10_tellPerson_41 : decode cX10_tellPerson 41 = .ok (.aload_n 0, 1) := by decide +kernel
theorem dX10_tellPerson_42 : decode cX10_tellPerson 42 = .ok (.iconst 0, 1) := by decide +kernel
theorem dX10_tellPerson_43 : decode cX10_tellPerson 43 = .ok (.bipush 9, 2) := by decide +kernel
theorem dX10_tellPerson_45 : decode cX10_tellPerson 45 = .ok (.invokevirtual 276, 3) := by decide +kernel
theorem dX10_tellPerson_48 : decode cX10_tellPerson 48 = .ok (.iastore, 1) := by decide +kernel
theorem dX10_tellPerson_49 : decode cX10_tellPerson 49 = .ok (.aload_n 0, 1) := by decide +kernel
theorem dX10_tellPerson_50 : decode cX10_tellPerson 50 = .ok (.getfield 61, 3) := by decide +kernel
theorem dX10_tellPerson_53 : decode cX10_tellPerson 53 = .ok (.iload_n 1, 1) := by decide +kernel
theorem dX10_tellPerson_54 : decode cX10_tellPerson 54 = .ok (.aload_n 0, 1) := by decide +kernel
theorem dX10_tellPerson_55 : decode cX10_tellPerson 55 = .ok (.iconst 1, 1) := by decide +kernel
theorem dX10_tellPerson_56 : decode cX10_tellPerson 56 = .ok (.bipush 99, 2) := by decide +kernel
theorem dX10_tellPerson_58 : decode cX10_tellPerson 58 = .ok (.invokevirtual 276, 3) := by decide +kernel
theorem dX10_tellPerson_61 : decode cX10_tellPerson 61 = .ok (.iastore, 1) := by decide +kernel
theorem dX10_tellPerson_62 : decode cX10_tellPerson 62 = .ok (.aload_n 0, 1) := by decide +kernel
theorem dX10_tellPerson_63 : decode cX10_tellPerson 63 = .ok (.iload_n 2, 1) := by decide +kernel
theorem dX10_tellPerson_64 : decode cX10_tellPerson 64 = .ok (.bipush 10, 2) := by decide +kernel
theorem dX10_tellPerson_66 : decode cX10_tellPerson 66 = .ok (.aload_n 0, 1) := by decide +kernel
theorem dX10_tellPerson_67 : decode cX10_tellPerson 67 = .ok (.getfield 52, 3) := by decide +kernel
theorem dX10_tellPerson_70 : decode cX10_tellPerson 70 = .ok (.aload_n 0, 1) := by decide +kernel
theorem dX10_tellPerson_71 : decode cX10_tellPerson 71 = .ok (.getfield 242, 3) := by decide +kernel
theorem dX10_tellPerson_74 : decode cX10_tellPerson 74 = .ok (.iaload, 1) := by decide +kernel
theorem dX10_tellPerson_75 : decode cX10_tellPerson 75 = .ok (.iadd, 1) := by decide +kernel
theorem dX10_tellPerson_76 : decode cX10_tellPerson 76 = .ok (.invokevirtual 296, 3) := by decide +kernel
theorem dX10_tellPerson_79 : decode cX10_tellPerson 79 = .ok (.aload_n 0, 1) := by decide +kernel
theorem dX10_tellPerson_80 : decode cX10_tellPerson 80 = .ok (.getfield 209, 3) := by decide +kernel
theorem dX10_tellPerson_83 : decode cX10_tellPerson 83 = .ok (.ifCond .ne 16, 3) := by decide +kernel
theorem dX10_tellPerson_86 : decode cX10_tellPerson 86 = .ok (.aload_n 0, 1) := by decide +kernel
theorem dX10_tellPerson_87 : decode cX10_tellPerson 87 = .ok (.getfield 52, 3) := by decide +kernel
theorem dX10_tellPerson_90 : decode cX10_tellPerson 90 = .ok (.aload_n 0, 1) := by decide +kernel
theorem dX10_tellPerson_91 : decode cX10_tellPerson 91 = .ok (.getfield 242, 3) := by decide +kernel
theorem dX10_tellPerson_94 : decode cX10_tellPerson 94 = .ok (.dup2, 1) := by decide +kernel
theorem dX10_tellPerson_95 : decode cX10_tellPerson 95 = .ok (.iaload, 1) := by decide +kernel
theorem dX10_tellPerson_96 : decode cX10_tellPerson 96 = .ok (.iconst 1, 1) := by decide +kernel
theorem dX10_tellPerson_97 : decode cX10_tellPerson 97 = .ok (.iadd, 1) := by decide +kernel
theorem dX10_tellPerson_98 : decode cX10_tellPerson 98 = .ok (.iastore, 1) := by decide +kernel
theorem dX10_tellPerson_99 : decode cX10_tellPerson 99 = .ok (.return_, 1) := by decide +kernel
theorem dX10_tellStrand_0 : decode cX10_tellStrand 0 = .ok (.bipush 8, 2) := by decide +kernel
theorem dX10_tellStrand_2 : decode cX10_tellStrand 2 = .ok (.aload_n 0, 1) := by decide +kernel
theorem dX10_tellStrand_3 : decode cX10_tellStrand 3 = .ok (.getfield 242, 3) := by decide +kernel
theorem dX10_tellStrand_6 : decode cX10_tellStrand 6 = .ok (.imul, 1) := by decide +kernel
theorem dX10_tellStrand_7 : decode cX10_tellStrand 7 = .ok (.aload_n 0, 1) := by decide +kernel
theorem dX10_tellStrand_8 : decode cX10_tellStrand 8 = .ok (.getfield 64, 3) := by decide +kernel
theorem dX10_tellStrand_11 : decode cX10_tellStrand 11 = .ok (.aload_n 0, 1) := by decide +kernel
theorem dX10_tellStrand_12 : decode cX10_tellStrand 12 = .ok (.getfield 242, 3) := by decide +kernel
theorem dX10_tellStrand_15 : decode cX10_tellStrand 15 = .ok (.iaload, 1) := by decide +kernel
theorem dX10_tellStrand_16 : decode cX10_tellStrand 16 = .ok (.iadd, 1) := by decide +kernel
theorem dX10_tellStrand_17 : decode cX10_tellStrand 17 = .ok (.istore_n 1, 1) := by decide +kernel
theorem dX10_tellStrand_18 : decode cX10_tellStrand 18 = .ok (.aload_n 0, 1) := by decide +kernel
theorem dX10_tellStrand_19 : decode cX10_tellStrand 19 = .ok (.getfield 67, 3) := by decide +kernel
theorem dX10_tellStrand_22 : decode cX10_tellStrand 22 = .ok (.iload_n 1, 1) := by decide +kernel
theorem dX10_tellStrand_23 : decode cX10_tellStrand 23 = .ok (.aload_n 0, 1) := by decide +kernel
theorem dX10_tellStrand_24 : decode cX10_tellStrand 24 = .ok (.iconst 0, 1) := by decide +kernel
theorem dX10_tellStrand_25 : decode cX10_tellStrand 25 = .ok (.invokevirtual 299, 3) := by decide +kernel
theorem dX10_tellStrand_28 : decode cX10_tellStrand 28 = .ok (.iastore, 1) := by decide +kernel
theorem dX10_tellStrand_29 : decode cX10_tellStrand 29 = .ok (.aload_n 0, 1) := by decide +kernel
theorem dX10_tellStrand_30 : decode cX10_tellStrand 30 = .ok (.getfield 70, 3) := by decide +kernel
theorem dX10_tellStrand_33 : decode cX10_tellStrand 33 = .ok (.iload_n 1, 1) := by decide +kernel
theorem dX10_tellStrand_34 : decode cX10_tellStrand 34 = .ok (.aload_n 0, 1) := by decide +kernel
theorem dX10_tellStrand_35 : decode cX10_tellStrand 35 = .ok (.bipush 10, 2) := by decide +kernel
theorem dX10_tellStrand_37 : decode cX10_tellStrand 37 = .ok (.invokevirtual 299, 3) := by decide +kernel
theorem dX10_tellStrand_40 : decode cX10_tellStrand 40 = .ok (.iastore, 1) := by decide +kernel
theorem dX10_tellStrand_41 : decode cX10_tellStrand 41 = .ok (.aload_n 0, 1) := by decide +kernel
theorem dX10_tellStrand_42 : decode cX10_tellStrand 42 = .ok (.getfield 73, 3) := by decide +kernel
theorem dX10_tellStrand_45 : decode cX10_tellStrand 45 = .ok (.iload_n 1, 1) := by decide +kernel
theorem dX10_tellStrand_46 : decode cX10_tellStrand 46 = .ok (.aload_n 0, 1) := by decide +kernel
theorem dX10_tellStrand_47 : decode cX10_tellStrand 47 = .ok (.iconst 1, 1) := by decide +kernel
theorem dX10_tellStrand_48 : decode cX10_tellStrand 48 = .ok (.bipush 9, 2) := by decide +kernel
theorem dX10_tellStrand_50 : decode cX10_tellStrand 50 = .ok (.invokevirtual 276, 3) := by decide +kernel
theorem dX10_tellStrand_53 : decode cX10_tellStrand 53 = .ok (.iastore, 1) := by decide +kernel
theorem dX10_tellStrand_54 : decode cX10_tellStrand 54 = .ok (.aload_n 0, 1) := by decide +kernel
theorem dX10_tellStrand_55 : decode cX10_tellStrand 55 = .ok (.iconst 4, 1) := by decide +kernel
theorem dX10_tellStrand_56 : decode cX10_tellStrand 56 = .ok (.invokevirtual 280, 3) := by decide +kernel
theorem dX10_tellStrand_59 : decode cX10_tellStrand 59 = .ok (.aload_n 0, 1) := by decide +kernel
theorem dX10_tellStrand_60 : decode cX10_tellStrand 60 = .ok (.getfield 209, 3) := by decide +kernel
theorem dX10_tellStrand_63 : decode cX10_tellStrand 63 = .ok (.ifCond .ne 16, 3) := by decide +kernel
theorem dX10_tellStrand_66 : decode cX10_tellStrand 66 = .ok (.aload_n 0, 1) := by decide +kernel
theorem dX10_tellStrand_67 : decode cX10_tellStrand 67 = .ok (.getfield 64, 3) := by decide +kernel
theorem dX10_tellStrand_70 : decode cX10_tellStrand 70 = .ok (.aload_n 0, 1) := by decide +kernel
theorem dX10_tellStrand_71 : decode cX10_tellStrand 71 = .ok (.getfield 242, 3) := by decide +kernel
theorem dX10_tellStrand_74 : decode cX10_tellStrand 74 = .ok (.dup2, 1) := by decide +kernel
theorem dX10_tellStrand_75 : decode cX10_tellStrand 75 = .ok (.iaload, 1) := by decide +kernel
theorem dX10_tellStrand_76 : decode cX10_tellStrand 76 = .ok (.iconst 1, 1) := by decide +kernel
theorem dX10_tellStrand_77 : decode cX10_tellStrand 77 = .ok (.iadd, 1) := by decide +kernel
theorem dX10_tellStrand_78 : decode cX10_tellStrand 78 = .ok (.iastore, 1) := by decide +kernel
theorem dX10_tellStrand_79 : decode cX10_tellStrand 79 = .ok (.return_, 1) := by decide +kernel
theorem dX10_tellLaw_0 : decode cX10_tellLaw 0 = .ok (.aload_n 0, 1) := by decide +kernel
theorem dX10_tellLaw_1 : decode cX10_tellLaw 1 = .ok (.iconst 5, 1) := by decide +kernel
theorem dX10_tellLaw_2 : decode cX10_tellLaw 2 = .ok (.invokevirtual 280, 3) := by decide +kernel
theorem dX10_tellLaw_5 : decode cX10_tellLaw 5 = .ok (.aload_n 0, 1) := by decide +kernel
theorem dX10_tellLaw_6 : decode cX10_tellLaw 6 = .ok (.getfield 248, 3) := by decide +kernel
theorem dX10_tellLaw_9 : decode cX10_tellLaw 9 = .ok (.istore_n 2, 1) := by decide +kernel
theorem dX10_tellLaw_10 : decode cX10_tellLaw 10 = .ok (.iconst 0, 1) := by decide +kernel
theorem dX10_tellLaw_11 : decode cX10_tellLaw 11 = .ok (.istore_n 3, 1) := by decide +kernel
theorem dX10_tellLaw_12 : decode cX10_tellLaw 12 = .ok (.aload_n 0, 1) := by decide +kernel
theorem dX10_tellLaw_13 : decode cX10_tellLaw 13 = .ok (.getfield 209, 3) := by decide +kernel
theorem dX10_tellLaw_16 : decode cX10_tellLaw 16 = .ok (.ifCond .ne 113, 3) := by decide +kernel
theorem dX10_tellLaw_19 : decode cX10_tellLaw 19 = .ok (.aload_n 0, 1) := by decide +kernel
theorem dX10_tellLaw_20 : decode cX10_tellLaw 20 = .ok (.bipush 29, 2) := by decide +kernel
theorem dX10_tellLaw_22 : decode cX10_tellLaw 22 = .ok (.invokevirtual 227, 3) := by decide +kernel
theorem dX10_tellLaw_25 : decode cX10_tellLaw 25 = .ok (.ifCond .eq 104, 3) := by decide +kernel
theorem dX10_tellLaw_28 : decode cX10_tellLaw 28 = .ok (.iload_n 3, 1) := by decide +kernel
theorem dX10_tellLaw_29 : decode cX10_tellLaw 29 = .ok (.iconst 4, 1) := by decide +kernel
theorem dX10_tellLaw_30 : decode cX10_tellLaw 30 = .ok (.if_icmp .ne 8, 3) := by decide +kernel
theorem dX10_tellLaw_33 : decode cX10_tellLaw 33 = .ok (.aload_n 0, 1) := by decide +kernel
theorem dX10_tellLaw_34 : decode cX10_tellLaw 34 = .ok (.iconst 2, 1) := by decide +kernel
theorem dX10_tellLaw_35 : decode cX10_tellLaw 35 = .ok (.invokevirtual 224, 3) := by decide +kernel
theorem dX10_tellLaw_38 : decode cX10_tellLaw 38 = .ok (.aload_n 0, 1) := by decide +kernel
theorem dX10_tellLaw_39 : decode cX10_tellLaw 39 = .ok (.getfield 209, 3) := by decide +kernel
theorem dX10_tellLaw_42 : decode cX10_tellLaw 42 = .ok (.ifCond .le 4, 3) := by decide +kernel
theorem dX10_tellLaw_45 : decode cX10_tellLaw 45 = .ok (.return_, 1) := by decide +kernel
theorem dX10_tellLaw_46 : decode cX10_tellLaw 46 = .ok (.iinc 3 1, 3) := by decide +kernel
theorem dX10_tellLaw_49 : decode cX10_tellLaw 49 = .ok (.aload_n 0, 1) := by decide +kernel
theorem dX10_tellLaw_50 : decode cX10_tellLaw 50 = .ok (.invokevirtual 230, 3) := by decide +kernel
theorem dX10_tellLaw_53 : decode cX10_tellLaw 53 = .ok (.aload_n 0, 1) := by decide +kernel
theorem dX10_tellLaw_54 : decode cX10_tellLaw 54 = .ok (.getfield 88, 3) := by decide +kernel
theorem dX10_tellLaw_57 : decode cX10_tellLaw 57 = .ok (.aload_n 0, 1) := by decide +kernel
theorem dX10_tellLaw_58 : decode cX10_tellLaw 58 = .ok (.getfield 248, 3) := by decide +kernel
theorem dX10_tellLaw_61 : decode cX10_tellLaw 61 = .ok (.iconst 1, 1) := by decide +kernel
theorem dX10_tellLaw_62 : decode cX10_tellLaw 62 = .ok (.bastore, 1) := by decide +kernel
theorem dX10_tellLaw_63 : decode cX10_tellLaw 63 = .ok (.aload_n 0, 1) := by decide +kernel
theorem dX10_tellLaw_64 : decode cX10_tellLaw 64 = .ok (.getfield 92, 3) := by decide +kernel
theorem dX10_tellLaw_67 : decode cX10_tellLaw 67 = .ok (.aload_n 0, 1) := by decide +kernel
theorem dX10_tellLaw_68 : decode cX10_tellLaw 68 = .ok (.getfield 248, 3) := by decide +kernel
theorem dX10_tellLaw_71 : decode cX10_tellLaw 71 = .ok (.aload_n 0, 1) := by decide +kernel
theorem dX10_tellLaw_72 : decode cX10_tellLaw 72 = .ok (.getfield 251, 3) := by decide +kernel
theorem dX10_tellLaw_75 : decode cX10_tellLaw 75 = .ok (.iastore, 1) := by decide +kernel
theorem dX10_tellLaw_76 : decode cX10_tellLaw 76 = .ok (.aload_n 0, 1) := by decide +kernel
theorem dX10_tellLaw_77 : decode cX10_tellLaw 77 = .ok (.invokevirtual 302, 3) := by decide +kernel
theorem dX10_tellLaw_80 : decode cX10_tellLaw 80 = .ok (.aload_n 0, 1) := by decide +kernel
theorem dX10_tellLaw_81 : decode cX10_tellLaw 81 = .ok (.bipush 13, 2) := by decide +kernel
theorem dX10_tellLaw_83 : decode cX10_tellLaw 83 = .ok (.invokevirtual 280, 3) := by decide +kernel
theorem dX10_tellLaw_86 : decode cX10_tellLaw 86 = .ok (.aload_n 0, 1) := by decide +kernel
theorem dX10_tellLaw_87 : decode cX10_tellLaw 87 = .ok (.getfield 95, 3) := by decide +kernel
theorem dX10_tellLaw_90 : decode cX10_tellLaw 90 = .ok (.aload_n 0, 1) := by decide +kernel
theorem dX10_tellLaw_91 : decode cX10_tellLaw 91 = .ok (.getfield 248, 3) := by decide +kernel
theorem dX10_tellLaw_94 : decode cX10_tellLaw 94 = .ok (.aload_n 0, 1) := by decide +kernel
theorem dX10_tellLaw_95 : decode cX10_tellLaw 95 = .ok (.getfield 251, 3) := by decide +kernel
theorem dX10_tellLaw_98 : decode cX10_tellLaw 98 = .ok (.iastore, 1) := by decide +kernel
theorem dX10_tellLaw_99 : decode cX10_tellLaw 99 = .ok (.aload_n 0, 1) := by decide +kernel
theorem dX10_tellLaw_100 : decode cX10_tellLaw 100 = .ok (.getfield 209, 3) := by decide +kernel
theorem dX10_tellLaw_103 : decode cX10_tellLaw 103 = .ok (.ifCond .ne 7, 3) := by decide +kernel
theorem dX10_tellLaw_106 : decode cX10_tellLaw 106 = .ok (.aload_n 0, 1) := by decide +kernel
theorem dX10_tellLaw_107 : decode cX10_tellLaw 107 = .ok (.invokevirtual 302, 3) := by decide +kernel
theorem dX10_tellLaw_110 : decode cX10_tellLaw 110 = .ok (.aload_n 0, 1) := by decide +kernel
theorem dX10_tellLaw_111 : decode cX10_tellLaw 111 = .ok (.bipush 30, 2) := by decide +kernel
theorem dX10_tellLaw_113 : decode cX10_tellLaw 113 = .ok (.invokevirtual 280, 3) := by decide +kernel
theorem dX10_tellLaw_116 : decode cX10_tellLaw 116 = .ok (.aload_n 0, 1) := by decide +kernel
theorem dX10_tellLaw_117 : decode cX10_tellLaw 117 = .ok (.invokevirtual 305, 3) := by decide +kernel
theorem dX10_tellLaw_120 : decode cX10_tellLaw 120 = .ok (.aload_n 0, 1) := by decide +kernel
theorem dX10_tellLaw_121 : decode cX10_tellLaw 121 = .ok (.bipush 31, 2) := by decide +kernel
theorem dX10_tellLaw_123 : decode cX10_tellLaw 123 = .ok (.invokevirtual 280, 3) := by decide +kernel
theorem dX10_tellLaw_126 : decode cX10_tellLaw 126 = .ok (.goto (-114), 3) := by decide +kernel
theorem dX10_tellLaw_129 : decode cX10_tellLaw 129 = .ok (.aload_n 0, 1) := by decide +kernel
theorem dX10_tellLaw_130 : decode cX10_tellLaw 130 = .ok (.getfield 88, 3) := by decide +kernel
theorem dX10_tellLaw_133 : decode cX10_tellLaw 133 = .ok (.aload_n 0, 1) := by decide +kernel
theorem dX10_tellLaw_134 : decode cX10_tellLaw 134 = .ok (.getfield 248, 3) := by decide +kernel
theorem dX10_tellLaw_137 : decode cX10_tellLaw 137 = .ok (.iconst 0, 1) := by decide +kernel
theorem dX10_tellLaw_138 : decode cX10_tellLaw 138 = .ok (.bastore, 1) := by decide +kernel
theorem dX10_tellLaw_139 : decode cX10_tellLaw 139 = .ok (.aload_n 0, 1) := by decide +kernel
theorem dX10_tellLaw_140 : decode cX10_tellLaw 140 = .ok (.invokevirtual 305, 3) := by decide +kernel
theorem dX10_tellLaw_143 : decode cX10_tellLaw 143 = .ok (.aload_n 0, 1) := by decide +kernel
theorem dX10_tellLaw_144 : decode cX10_tellLaw 144 = .ok (.iconst 4, 1) := by decide +kernel
theorem dX10_tellLaw_145 : decode cX10_tellLaw 145 = .ok (.invokevirtual 280, 3) := by decide +kernel
theorem dX10_tellLaw_148 : decode cX10_tellLaw 148 = .ok (.aload_n 0, 1) := by decide +kernel
theorem dX10_tellLaw_149 : decode cX10_tellLaw 149 = .ok (.getfield 209, 3) := by decide +kernel
theorem dX10_tellLaw_152 : decode cX10_tellLaw 152 = .ok (.ifCond .le 4, 3) := by decide +kernel
theorem dX10_tellLaw_155 : decode cX10_tellLaw 155 = .ok (.return_, 1) := by decide +kernel
theorem dX10_tellLaw_156 : decode cX10_tellLaw 156 = .ok (.aload_n 0, 1) := by decide +kernel
theorem dX10_tellLaw_157 : decode cX10_tellLaw 157 = .ok (.getfield 82, 3) := by decide +kernel
theorem dX10_tellLaw_160 : decode cX10_tellLaw 160 = .ok (.iconst 4, 1) := by decide +kernel
theorem dX10_tellLaw_161 : decode cX10_tellLaw 161 = .ok (.aload_n 0, 1) := by decide +kernel
theorem dX10_tellLaw_162 : decode cX10_tellLaw 162 = .ok (.getfield 242, 3) := by decide +kernel
theorem dX10_tellLaw_165 : decode cX10_tellLaw 165 = .ok (.imul, 1) := by decide +kernel
theorem dX10_tellLaw_166 : decode cX10_tellLaw 166 = .ok (.iload_n 1, 1) := by decide +kernel
theorem dX10_tellLaw_167 : decode cX10_tellLaw 167 = .ok (.iadd, 1) := by decide +kernel
theorem dX10_tellLaw_168 : decode cX10_tellLaw 168 = .ok (.iload_n 2, 1) := by decide +kernel
theorem dX10_tellLaw_169 : decode cX10_tellLaw 169 = .ok (.iastore, 1) := by decide +kernel
theorem dX10_tellLaw_170 : decode cX10_tellLaw 170 = .ok (.aload_n 0, 1) := by decide +kernel
theorem dX10_tellLaw_171 : decode cX10_tellLaw 171 = .ok (.getfield 85, 3) := by decide +kernel
theorem dX10_tellLaw_174 : decode cX10_tellLaw 174 = .ok (.iconst 4, 1) := by decide +kernel
theorem dX10_tellLaw_175 : decode cX10_tellLaw 175 = .ok (.aload_n 0, 1) := by decide +kernel
theorem dX10_tellLaw_176 : decode cX10_tellLaw 176 = .ok (.getfield 242, 3) := by decide +kernel
theorem dX10_tellLaw_179 : decode cX10_tellLaw 179 = .ok (.imul, 1) := by decide +kernel
theorem dX10_tellLaw_180 : decode cX10_tellLaw 180 = .ok (.iload_n 1, 1) := by decide +kernel
theorem dX10_tellLaw_181 : decode cX10_tellLaw 181 = .ok (.iadd, 1) := by decide +kernel
theorem dX10_tellLaw_182 : decode cX10_tellLaw 182 = .ok (.aload_n 0, 1) := by decide +kernel
theorem dX10_tellLaw_183 : decode cX10_tellLaw 183 = .ok (.getfield 248, 3) := by decide +kernel
theorem dX10_tellLaw_186 : decode cX10_tellLaw 186 = .ok (.iastore, 1) := by decide +kernel
theorem dX10_tellLaw_187 : decode cX10_tellLaw 187 = .ok (.return_, 1) := by decide +kernel
theorem dX10_term_0 : decode cX10_term 0 = .ok (.aload_n 0, 1) := by decide +kernel
theorem dX10_term_1 : decode cX10_term 1 = .ok (.getfield 98, 3) := by decide +kernel
theorem dX10_term_4 : decode cX10_term 4 = .ok (.aload_n 0, 1) := by decide +kernel
theorem dX10_term_5 : decode cX10_term 5 = .ok (.getfield 248, 3) := by decide +kernel
theorem dX10_term_8 : decode cX10_term 8 = .ok (.aload_n 0, 1) := by decide +kernel
theorem dX10_term_9 : decode cX10_term 9 = .ok (.getfield 251, 3) := by decide +kernel
theorem dX10_term_12 : decode cX10_term 12 = .ok (.iastore, 1) := by decide +kernel
theorem dX10_term_13 : decode cX10_term 13 = .ok (.aload_n 0, 1) := by decide +kernel
theorem dX10_term_14 : decode cX10_term 14 = .ok (.getfield 209, 3) := by decide +kernel
theorem dX10_term_17 : decode cX10_term 17 = .ok (.ifCond .ne 7, 3) := by decide +kernel
theorem dX10_term_20 : decode cX10_term 20 = .ok (.aload_n 0, 1) := by decide +kernel
theorem dX10_term_21 : decode cX10_term 21 = .ok (.invokevirtual 302, 3) := by decide +kernel
theorem dX10_term_24 : decode cX10_term 24 = .ok (.aload_n 0, 1) := by decide +kernel
theorem dX10_term_25 : decode cX10_term 25 = .ok (.getfield 101, 3) := by decide +kernel
theorem dX10_term_28 : decode cX10_term 28 = .ok (.aload_n 0, 1) := by decide +kernel
theorem dX10_term_29 : decode cX10_term 29 = .ok (.getfield 248, 3) := by decide +kernel
theorem dX10_term_32 : decode cX10_term 32 = .ok (.aload_n 0, 1) := by decide +kernel
theorem dX10_term_33 : decode cX10_term 33 = .ok (.getfield 251, 3) := by decide +kernel
theorem dX10_term_36 : decode cX10_term 36 = .ok (.iastore, 1) := by decide +kernel
theorem dX10_term_37 : decode cX10_term 37 = .ok (.aload_n 0, 1) := by decide +kernel
theorem dX10_term_38 : decode cX10_term 38 = .ok (.dup, 1) := by decide +kernel
theorem dX10_term_39 : decode cX10_term 39 = .ok (.getfield 248, 3) := by decide +kernel
theorem dX10_term_42 : decode cX10_term 42 = .ok (.iconst 1, 1) := by decide +kernel
theorem dX10_term_43 : decode cX10_term 43 = .ok (.iadd, 1) := by decide +kernel
theorem dX10_term_44 : decode cX10_term 44 = .ok (.putfield 248, 3) := by decide +kernel
theorem dX10_term_47 : decode cX10_term 47 = .ok (.return_, 1) := by decide +kernel
theorem dX10_emit_0 : decode cX10_emit 0 = .ok (.aload_n 0, 1) := by decide +kernel
theorem dX10_emit_1 : decode cX10_emit 1 = .ok (.getfield 104, 3) := by decide +kernel
theorem dX10_emit_4 : decode cX10_emit 4 = .ok (.aload_n 0, 1) := by decide +kernel
theorem dX10_emit_5 : decode cX10_emit 5 = .ok (.getfield 251, 3) := by decide +kernel
theorem dX10_emit_8 : decode cX10_emit 8 = .ok (.iload_n 1, 1) := by decide +kernel
theorem dX10_emit_9 : decode cX10_emit 9 = .ok (.iastore, 1) := by decide +kernel
theorem dX10_emit_10 : decode cX10_emit 10 = .ok (.aload_n 0, 1) := by decide +kernel
theorem dX10_emit_11 : decode cX10_emit 11 = .ok (.getfield 107, 3) := by decide +kernel
theorem dX10_emit_14 : decode cX10_emit 14 = .ok (.aload_n 0, 1) := by decide +kernel
theorem dX10_emit_15 : decode cX10_emit 15 = .ok (.getfield 251, 3) := by decide +kernel
theorem dX10_emit_18 : decode cX10_emit 18 = .ok (.iload_n 2, 1) := by decide +kernel
theorem dX10_emit_19 : decode cX10_emit 19 = .ok (.iastore, 1) := by decide +kernel
theorem dX10_emit_20 : decode cX10_emit 20 = .ok (.aload_n 0, 1) := by decide +kernel
theorem dX10_emit_21 : decode cX10_emit 21 = .ok (.dup, 1) := by decide +kernel
theorem dX10_emit_22 : decode cX10_emit 22 = .ok (.getfield 251, 3) := by decide +kernel
theorem dX10_emit_25 : decode cX10_emit 25 = .ok (.iconst 1, 1) := by decide +kernel
theorem dX10_emit_26 : decode cX10_emit 26 = .ok (.iadd, 1) := by decide +kernel
theorem dX10_emit_27 : decode cX10_emit 27 = .ok (.putfield 251, 3) := by decide +kernel
theorem dX10_emit_30 : decode cX10_emit 30 = .ok (.return_, 1) := by decide +kernel
theorem dX10_comesOut_0 : decode cX10_comesOut 0 = .ok (.aload_n 0, 1) := by decide +kernel
theorem dX10_comesOut_1 : decode cX10_comesOut 1 = .ok (.getfield 308, 3) := by decide +kernel
theorem dX10_comesOut_4 : decode cX10_comesOut 4 = .ok (.ifCond .le 87, 3) := by decide +kernel
theorem dX10_comesOut_7 : decode cX10_comesOut 7 = .ok (.aload_n 0, 1) := by decide +kernel
theorem dX10_comesOut_8 : decode cX10_comesOut 8 = .ok (.getfield 110, 3) := by decide +kernel
theorem dX10_comesOut_11 : decode cX10_comesOut 11 = .ok (.aload_n 0, 1) := by decide +kernel
theorem dX10_comesOut_12 : decode cX10_comesOut 12 = .ok (.getfield 308, 3) := by decide +kernel
theorem dX10_comesOut_15 : decode cX10_comesOut 15 = .ok (.iconst 1, 1) := by decide +kernel
theorem dX10_comesOut_16 : decode cX10_comesOut 16 = .ok (.isub, 1) := by decide +kernel
theorem dX10_comesOut_17 : decode cX10_comesOut 17 = .ok (.iaload, 1) := by decide +kernel
theorem dX10_comesOut_18 : decode cX10_comesOut 18 = .ok (.istore_n 2, 1) := by decide +kernel
theorem dX10_comesOut_19 : decode cX10_comesOut 19 = .ok (.iload_n 2, 1) := by decide +kernel
theorem dX10_comesOut_20 : decode cX10_comesOut 20 = .ok (.bipush 6, 2) := by decide +kernel
theorem dX10_comesOut_22 : decode cX10_comesOut 22 = .ok (.if_icmp .eq 19, 3) := by decide +kernel
theorem dX10_comesOut_25 : decode cX10_comesOut 25 = .ok (.iload_n 1, 1) := by decide +kernel
theorem dX10_comesOut_26 : decode cX10_comesOut 26 = .ok (.ifCond .eq 16, 3) := by decide +kernel
theorem dX10_comesOut_29 : decode cX10_comesOut 29 = .ok (.iload_n 2, 1) := by decide +kernel
theorem dX10_comesOut_30 : decode cX10_comesOut 30 = .ok (.bipush 8, 2) := by decide +kernel
theorem dX10_comesOut_32 : decode cX10_comesOut 32 = .ok (.if_icmp .eq 9, 3) := by decide +kernel
theorem dX10_comesOut_35 : decode cX10_comesOut 35 = .ok (.iload_n 2, 1) := by decide +kernel
theorem dX10_comesOut_36 : decode cX10_comesOut 36 = .ok (.bipush 9, 2) := by decide +kernel
theorem dX10_comesOut_38 : decode cX10_comesOut 38 = .ok (.if_icmp .ne 4, 3) := by decide +kernel
theorem dX10_comesOut_41 : decode cX10_comesOut 41 = .ok (.return_, 1) := by decide +kernel
theorem dX10_comesOut_42 : decode cX10_comesOut 42 = .ok (.aload_n 0, 1) := by decide +kernel
theorem dX10_comesOut_43 : decode cX10_comesOut 43 = .ok (.dup, 1) := by decide +kernel
theorem dX10_comesOut_44 : decode cX10_comesOut 44 = .ok (.getfield 308, 3) := by decide +kernel
theorem dX10_comesOut_47 : decode cX10_comesOut 47 = .ok (.iconst 1, 1) := by decide +kernel
theorem dX10_comesOut_48 : decode cX10_comesOut 48 = .ok (.isub, 1) := by decide +kernel
theorem dX10_comesOut_49 : decode cX10_comesOut 49 = .ok (.putfield 308, 3) := by decide +kernel
theorem dX10_comesOut_52 : decode cX10_comesOut 52 = .ok (.aload_n 0, 1) := by decide +kernel
theorem dX10_comesOut_53 : decode cX10_comesOut 53 = .ok (.iload_n 2, 1) := by decide +kernel
theorem dX10_comesOut_54 : decode cX10_comesOut 54 = .ok (.bipush 8, 2) := by decide +kernel
theorem dX10_comesOut_56 : decode cX10_comesOut 56 = .ok (.if_icmp .ne 7, 3) := by decide +kernel
theorem dX10_comesOut_59 : decode cX10_comesOut 59 = .ok (.iconst 2, 1) := by decide +kernel
theorem dX10_comesOut_60 : decode cX10_comesOut 60 = .ok (.goto 24, 3) := by decide +kernel
theorem dX10_comesOut_63 : decode cX10_comesOut 63 = .ok (.iload_n 2, 1) := by decide +kernel
theorem dX10_comesOut_64 : decode cX10_comesOut 64 = .ok (.bipush 9, 2) := by decide +kernel
theorem dX10_comesOut_66 : decode cX10_comesOut 66 = .ok (.if_icmp .ne 7, 3) := by decide +kernel
theorem dX10_comesOut_69 : decode cX10_comesOut 69 = .ok (.iconst 3, 1) := by decide +kernel
theorem dX10_comesOut_70 : decode cX10_comesOut 70 = .ok (.goto 14, 3) := by decide +kernel
theorem dX10_comesOut_73 : decode cX10_comesOut 73 = .ok (.iload_n 2, 1) := by decide +kernel
theorem dX10_comesOut_74 : decode cX10_comesOut 74 = .ok (.bipush 10, 2) := by decide +kernel
theorem dX10_comesOut_76 : decode cX10_comesOut 76 = .ok (.if_icmp .ne 7, 3) := by decide +kernel
theorem dX10_comesOut_79 : decode cX10_comesOut 79 = .ok (.iconst 4, 1) := by decide +kernel
theorem dX10_comesOut_80 : decode cX10_comesOut 80 = .ok (.goto 4, 3) := by decide +kernel
theorem dX10_comesOut_83 : decode cX10_comesOut 83 = .ok (.iconst 5, 1) := by decide +kernel
theorem dX10_comesOut_84 : decode cX10_comesOut 84 = .ok (.iconst 0, 1) := by decide +kernel
theorem dX10_comesOut_85 : decode cX10_comesOut 85 = .ok (.invokevirtual 311, 3) := by decide +kernel
theorem dX10_comesOut_88 : decode cX10_comesOut 88 = .ok (.goto (-88), 3) := by decide +kernel
theorem dX10_comesOut_91 : decode cX10_comesOut 91 = .ok (.return_, 1) := by decide +kernel
theorem dX10_expression_0 : decode cX10_expression 0 = .ok (.aload_n 0, 1) := by decide +kernel
theorem dX10_expression_1 : decode cX10_expression 1 = .ok (.iconst 0, 1) := by decide +kernel
theorem dX10_expression_2 : decode cX10_expression 2 = .ok (.putfield 308, 3) := by decide +kernel
theorem dX10_expression_5 : decode cX10_expression 5 = .ok (.aload_n 0, 1) := by decide +kernel
theorem dX10_expression_6 : decode cX10_expression 6 = .ok (.getfield 236, 3) := by decide +kernel
theorem dX10_expression_9 : decode cX10_expression 9 = .ok (.istore_n 1, 1) := by decide +kernel
theorem dX10_expression_10 : decode cX10_expression 10 = .ok (.iconst 1, 1) := by decide +kernel
theorem dX10_expression_11 : decode cX10_expression 11 = .ok (.istore_n 2, 1) := by decide +kernel
theorem dX10_expression_12 : decode cX10_expression 12 = .ok (.iload_n 2, 1) := by decide +kernel
theorem dX10_expression_13 : decode cX10_expression 13 = .ok (.ifCond .eq 259, 3) := by decide +kernel
theorem dX10_expression_16 : decode cX10_expression 16 = .ok (.aload_n 0, 1) := by decide +kernel
theorem dX10_expression_17 : decode cX10_expression 17 = .ok (.getfield 209, 3) := by decide +kernel
theorem dX10_expression_20 : decode cX10_expression 20 = .ok (.ifCond .ne 252, 3) := by decide +kernel
theorem dX10_expression_23 : decode cX10_expression 23 = .ok (.aload_n 0, 1) := by decide +kernel
theorem dX10_expression_24 : decode cX10_expression 24 = .ok (.bipush 6, 2) := by decide +kernel
theorem dX10_expression_26 : decode cX10_expression 26 = .ok (.invokevirtual 227, 3) := by decide +kernel
theorem dX10_expression_29 : decode cX10_expression 29 = .ok (.ifCond .eq 55, 3) := by decide +kernel
theorem dX10_expression_32 : decode cX10_expression 32 = .ok (.aload_n 0, 1) := by decide +kernel
theorem dX10_expression_33 : decode cX10_expression 33 = .ok (.getfield 236, 3) := by decide +kernel
theorem dX10_expression_36 : decode cX10_expression 36 = .ok (.bipush 6, 2) := by decide +kernel
theorem dX10_expression_38 : decode cX10_expression 38 = .ok (.if_icmp .ne 8, 3) := by decide +kernel
theorem dX10_expression_41 : decode cX10_expression 41 = .ok (.aload_n 0, 1) := by decide +kernel
theorem dX10_expression_42 : decode cX10_expression 42 = .ok (.iconst 2, 1) := by decide +kernel
theorem dX10_expression_43 : decode cX10_expression 43 = .ok (.invokevirtual 224, 3) := by decide +kernel
theorem dX10_expression_46 : decode cX10_expression 46 = .ok (.aload_n 0, 1) := by decide +kernel
theorem dX10_expression_47 : decode cX10_expression 47 = .ok (.dup, 1) := by decide +kernel
theorem dX10_expression_48 : decode cX10_expression 48 = .ok (.getfield 236, 3) := by decide +kernel
theorem dX10_expression_51 : decode cX10_expression 51 = .ok (.iconst 1, 1) := by decide +kernel
theorem dX10_expression_52 : decode cX10_expression 52 = .ok (.iadd, 1) := by decide +kernel
theorem dX10_expression_53 : decode cX10_expression 53 = .ok (.putfield 236, 3) := by decide +kernel
theorem dX10_expression_56 : decode cX10_expression 56 = .ok (.aload_n 0, 1) := by decide +kernel
theorem dX10_expression_57 : decode cX10_expression 57 = .ok (.invokevirtual 230, 3) := by decide +kernel
theorem dX10_expression_60 : decode cX10_expression 60 = .ok (.aload_n 0, 1) := by decide +kernel
theorem dX10_expression_61 : decode cX10_expression 61 = .ok (.getfield 110, 3) := by decide +kernel
theorem dX10_expression_64 : decode cX10_expression 64 = .ok (.aload_n 0, 1) := by decide +kernel
theorem dX10_expression_65 : decode cX10_expression 65 = .ok (.getfield 308, 3) := by decide +kernel
theorem dX10_expression_68 : decode cX10_expression 68 = .ok (.bipush 6, 2) := by decide +kernel
theorem dX10_expression_70 : decode cX10_expression 70 = .ok (.iastore, 1) := by decide +kernel
theorem dX10_expression_71 : decode cX10_expression 71 = .ok (.aload_n 0, 1) := by decide +kernel
theorem dX10_expression_72 : decode cX10_expression 72 = .ok (.dup, 1) := by decide +kernel
theorem dX10_expression_73 : decode cX10_expression 73 = .ok (.getfield 308, 3) := by decide +kernel
theorem dX10_expression_76 : decode cX10_expression 76 = .ok (.iconst 1, 1) := by decide +kernel
theorem dX10_expression_77 : decode cX10_expression 77 = .ok (.iadd, 1) := by decide +kernel
theorem dX10_expression_78 : decode cX10_expression 78 = .ok (.putfield 308, 3) := by decide +kernel
theorem dX10_expression_81 : decode cX10_expression 81 = .ok (.goto (-58), 3) := by decide +kernel
theorem dX10_expression_84 : decode cX10_expression 84 = .ok (.aload_n 0, 1) := by decide +kernel
theorem dX10_expression_85 : decode cX10_expression 85 = .ok (.invokevirtual 314, 3) := by decide +kernel
theorem dX10_expression_88 : decode cX10_expression 88 = .ok (.aload_n 0, 1) := by decide +kernel
theorem dX10_expression_89 : decode cX10_expression 89 = .ok (.getfield 209, 3) := by decide +kernel
theorem dX10_expression_92 : decode cX10_expression 92 = .ok (.ifCond .le 4, 3) := by decide +kernel
theorem dX10_expression_95 : decode cX10_expression 95 = .ok (.return_, 1) := by decide +kernel
theorem dX10_expression_96 : decode cX10_expression 96 = .ok (.aload_n 0, 1) := by decide +kernel
theorem dX10_expression_97 : decode cX10_expression 97 = .ok (.bipush 7, 2) := by decide +kernel
theorem dX10_expression_99 : decode cX10_expression 99 = .ok (.invokevirtual 227, 3) := by decide +kernel
theorem dX10_expression_102 : decode cX10_expression 102 = .ok (.ifCond .eq 43, 3) := by decide +kernel
theorem dX10_expression_105 : decode cX10_expression 105 = .ok (.aload_n 0, 1) := by decide +kernel
theorem dX10_expression_106 : decode cX10_expression 106 = .ok (.getfield 236, 3) := by decide +kernel
theorem dX10_expression_109 : decode cX10_expression 109 = .ok (.iload_n 1, 1) := by decide +kernel
theorem dX10_expression_110 : decode cX10_expression 110 = .ok (.if_icmp .le 35, 3) := by decide +kernel
theorem dX10_expression_113 : decode cX10_expression 113 = .ok (.aload_n 0, 1) := by decide +kernel
theorem dX10_expression_114 : decode cX10_expression 114 = .ok (.iconst 0, 1) := by decide +kernel
theorem dX10_expression_115 : decode cX10_expression 115 = .ok (.invokevirtual 317, 3) := by decide +kernel
theorem dX10_expression_118 : decode cX10_expression 118 = .ok (.aload_n 0, 1) := by decide +kernel
theorem dX10_expression_119 : decode cX10_expression 119 = .ok (.dup, 1) := by decide +kernel
theorem dX10_expression_120 : decode cX10_expression 120 = .ok (.getfield 308, 3) := by decide +kernel
theorem dX10_expression_123 : decode cX10_expression 123 = .ok (.iconst 1, 1) := by decide +kernel
theorem dX10_expression_124 : decode cX10_expression 124 = .ok (.isub, 1) := by decide +kernel
theorem dX10_expression_125 : decode cX10_expression 125 = .ok (.putfield 308, 3) := by decide +kernel
theorem dX10_expression_128 : decode cX10_expression 128 = .ok (.aload_n 0, 1) := by decide +kernel
theorem dX10_expression_129 : decode cX10_expression 129 = .ok (.dup, 1) := by decide +kernel
theorem dX10_expression_130 : decode cX10_expression 130 = .ok (.getfield 236, 3) := by decide +kernel
theorem dX10_expression_133 : decode cX10_expression 133 = .ok (.iconst 1, 1) := by decide +kernel
theorem dX10_expression_134 : decode cX10_expression 134 = .ok (.isub, 1) := by decide +kernel
theorem dX10_expression_135 : decode cX10_expression 135 = .ok (.putfield 236, 3) := by decide +kernel
theorem dX10_expression_138 : decode cX10_expression 138 = .ok (.aload_n 0, 1) := by decide +kernel
theorem dX10_expression_139 : decode cX10_expression 139 = .ok (.invokevirtual 230, 3) := by decide +kernel
theorem dX10_expression_142 : decode cX10_expression 142 = .ok (.goto (-46), 3) := by decide +kernel
theorem dX10_expression_145 : decode cX10_expression 145 = .ok (.aload_n 0, 1) := by decide +kernel
theorem dX10_expression_146 : decode cX10_expression 146 = .ok (.bipush 8, 2) := by decide +kernel
theorem dX10_expression_148 : decode cX10_expression 148 = .ok (.invokevirtual 227, 3) := by decide +kernel
theorem dX10_expression_151 : decode cX10_expression 151 = .ok (.ifCond .ne 30, 3) := by decide +kernel
theorem dX10_expression_154 : decode cX10_expression 154 = .ok (.aload_n 0, 1) := by decide +kernel
theorem dX10_expression_155 : decode cX10_expression 155 = .ok (.bipush 9, 2) := by decide +kernel
theorem dX10_expression_157 : decode cX10_expression 157 = .ok (.invokevirtual 227, 3) := by decide +kernel
theorem dX10_expression_160 : decode cX10_expression 160 = .ok (.ifCond .ne 21, 3) := by decide +kernel
theorem dX10_expression_163 : decode cX10_expression 163 = .ok (.aload_n 0, 1) := by decide +kernel
theorem dX10_expression_164 : decode cX10_expression 164 = .ok (.bipush 10, 2) := by decide +kernel
theorem dX10_expression_166 : decode cX10_expression 166 = .ok (.invokevirtual 227, 3) := by decide +kernel
theorem dX10_expression_169 : decode cX10_expression 169 = .ok (.ifCond .ne 12, 3) := by decide +kernel
theorem dX10_expression_172 : decode cX10_expression 172 = .ok (.aload_n 0, 1) := by decide +kernel
theorem dX10_expression_173 : decode cX10_expression 173 = .ok (.bipush 15, 2) := by decide +kernel
theorem dX10_expression_175 : decode cX10_expression 175 = .ok (.invokevirtual 227, 3) := by decide +kernel
theorem dX10_expression_178 : decode cX10_expression 178 = .ok (.ifCond .eq 7, 3) := by decide +kernel
theorem dX10_expression_181 : decode cX10_expression 181 = .ok (.iconst 1, 1) := by decide +kernel
theorem dX10_expression_182 : decode cX10_expression 182 = .ok (.goto 4, 3) := by decide +kernel
theorem dX10_expression_185 : decode cX10_expression 185 = .ok (.iconst 0, 1) := by decide +kernel
theorem dX10_expression_186 : decode cX10_expression 186 = .ok (.istore_n 2, 1) := by decide +kernel
theorem dX10_expression_187 : decode cX10_expression 187 = .ok (.iload_n 2, 1) := by decide +kernel
theorem dX10_expression_188 : decode cX10_expression 188 = .ok (.ifCond .ne 22, 3) := by decide +kernel
theorem dX10_expression_191 : decode cX10_expression 191 = .ok (.aload_n 0, 1) := by decide +kernel
theorem dX10_expression_192 : decode cX10_expression 192 = .ok (.getfield 236, 3) := by decide +kernel
theorem dX10_expression_195 : decode cX10_expression 195 = .ok (.iload_n 1, 1) := by decide +kernel
theorem dX10_expression_196 : decode cX10_expression 196 = .ok (.if_icmp .le 8, 3) := by decide +kernel
theorem dX10_expression_199 : decode cX10_expression 199 = .ok (.aload_n 0, 1) := by decide +kernel
theorem dX10_expression_200 : decode cX10_expression 200 = .ok (.iconst 1, 1) := by decide +kernel
theorem dX10_expression_201 : decode cX10_expression 201 = .ok (.invokevirtual 224, 3) := by decide +kernel
theorem dX10_expression_204 : decode cX10_expression 204 = .ok (.aload_n 0, 1) := by decide +kernel
theorem dX10_expression_205 : decode cX10_expression 205 = .ok (.iconst 0, 1) := by decide +kernel
theorem dX10_expression_206 : decode cX10_expression 206 = .ok (.invokevirtual 317, 3) := by decide +kernel
theorem dX10_expression_209 : decode cX10_expression 209 = .ok (.return_, 1) := by decide +kernel
theorem dX10_expression_210 : decode cX10_expression 210 = .ok (.aload_n 0, 1) := by decide +kernel
theorem dX10_expression_211 : decode cX10_expression 211 = .ok (.aload_n 0, 1) := by decide +kernel
theorem dX10_expression_212 : decode cX10_expression 212 = .ok (.bipush 10, 2) := by decide +kernel
theorem dX10_expression_214 : decode cX10_expression 214 = .ok (.invokevirtual 227, 3) := by decide +kernel
theorem dX10_expression_217 : decode cX10_expression 217 = .ok (.ifCond .ne 12, 3) := by decide +kernel
theorem dX10_expression_220 : decode cX10_expression 220 = .ok (.aload_n 0, 1) := by decide +kernel
theorem dX10_expression_221 : decode cX10_expression 221 = .ok (.bipush 15, 2) := by decide +kernel
theorem dX10_expression_223 : decode cX10_expression 223 = .ok (.invokevirtual 227, 3) := by decide +kernel
theorem dX10_expression_226 : decode cX10_expression 226 = .ok (.ifCond .eq 7, 3) := by decide +kernel
theorem dX10_expression_229 : decode cX10_expression 229 = .ok (.iconst 1, 1) := by decide +kernel
theorem dX10_expression_230 : decode cX10_expression 230 = .ok (.goto 4, 3) := by decide +kernel
theorem dX10_expression_233 : decode cX10_expression 233 = .ok (.iconst 0, 1) := by decide +kernel
theorem dX10_expression_234 : decode cX10_expression 234 = .ok (.invokevirtual 317, 3) := by decide +kernel
theorem dX10_expression_237 : decode cX10_expression 237 = .ok (.aload_n 0, 1) := by decide +kernel
theorem dX10_expression_238 : decode cX10_expression 238 = .ok (.getfield 110, 3) := by decide +kernel
theorem dX10_expression_241 : decode cX10_expression 241 = .ok (.aload_n 0, 1) := by decide +kernel
theorem dX10_expression_242 : decode cX10_expression 242 = .ok (.getfield 308, 3) := by decide +kernel
theorem dX10_expression_245 : decode cX10_expression 245 = .ok (.aload_n 0, 1) := by decide +kernel
theorem dX10_expression_246 : decode cX10_expression 246 = .ok (.getfield 20, 3) := by decide +kernel
theorem dX10_expression_249 : decode cX10_expression 249 = .ok (.aload_n 0, 1) := by decide +kernel
theorem dX10_expression_250 : decode cX10_expression 250 = .ok (.getfield 212, 3) := by decide +kernel
theorem dX10_expression_253 : decode cX10_expression 253 = .ok (.iaload, 1) := by decide +kernel
theorem dX10_expression_254 : decode cX10_expression 254 = .ok (.iastore, 1) := by decide +kernel
theorem dX10_expression_255 : decode cX10_expression 255 = .ok (.aload_n 0, 1) := by decide +kernel
theorem dX10_expression_256 : decode cX10_expression 256 = .ok (.dup, 1) := by decide +kernel
theorem dX10_expression_257 : decode cX10_expression 257 = .ok (.getfield 308, 3) := by decide +kernel
theorem dX10_expression_260 : decode cX10_expression 260 = .ok (.iconst 1, 1) := by decide +kernel
theorem dX10_expression_261 : decode cX10_expression 261 = .ok (.iadd, 1) := by decide +kernel
theorem dX10_expression_262 : decode cX10_expression 262 = .ok (.putfield 308, 3) := by decide +kernel
theorem dX10_expression_265 : decode cX10_expression 265 = .ok (.aload_n 0, 1) := by decide +kernel
theorem dX10_expression_266 : decode cX10_expression 266 = .ok (.invokevirtual 230, 3) := by decide +kernel
theorem dX10_expression_269 : decode cX10_expression 269 = .ok (.goto (-257), 3) := by decide +kernel
theorem dX10_expression_272 : decode cX10_expression 272 = .ok (.return_, 1) := by decide +kernel
theorem dX10_unit_0 : decode cX10_unit 0 = .ok (.aload_n 0, 1) := by decide +kernel
theorem dX10_unit_1 : decode cX10_unit 1 = .ok (.iconst 2, 1) := by decide +kernel
theorem dX10_unit_2 : decode cX10_unit 2 = .ok (.invokevirtual 227, 3) := by decide +kernel
theorem dX10_unit_5 : decode cX10_unit 5 = .ok (.ifCond .eq 24, 3) := by decide +kernel
theorem dX10_unit_8 : decode cX10_unit 8 = .ok (.aload_n 0, 1) := by decide +kernel
theorem dX10_unit_9 : decode cX10_unit 9 = .ok (.iconst 0, 1) := by decide +kernel
theorem dX10_unit_10 : decode cX10_unit 10 = .ok (.aload_n 0, 1) := by decide +kernel
theorem dX10_unit_11 : decode cX10_unit 11 = .ok (.getfield 27, 3) := by decide +kernel
theorem dX10_unit_14 : decode cX10_unit 14 = .ok (.aload_n 0, 1) := by decide +kernel
theorem dX10_unit_15 : decode cX10_unit 15 = .ok (.getfield 212, 3) := by decide +kernel
theorem dX10_unit_18 : decode cX10_unit 18 = .ok (.iaload, 1) := by decide +kernel
theorem dX10_unit_19 : decode cX10_unit 19 = .ok (.invokevirtual 311, 3) := by decide +kernel
theorem dX10_unit_22 : decode cX10_unit 22 = .ok (.aload_n 0, 1) := by decide +kernel
theorem dX10_unit_23 : decode cX10_unit 23 = .ok (.invokevirtual 230, 3) := by decide +kernel
theorem dX10_unit_26 : decode cX10_unit 26 = .ok (.goto 67, 3) := by decide +kernel
theorem dX10_unit_29 : decode cX10_unit 29 = .ok (.aload_n 0, 1) := by decide +kernel
theorem dX10_unit_30 : decode cX10_unit 30 = .ok (.getfield 209, 3) := by decide +kernel
theorem dX10_unit_33 : decode cX10_unit 33 = .ok (.ifCond .ne 55, 3) := by decide +kernel
theorem dX10_unit_36 : decode cX10_unit 36 = .ok (.aload_n 0, 1) := by decide +kernel
theorem dX10_unit_37 : decode cX10_unit 37 = .ok (.getfield 20, 3) := by decide +kernel
theorem dX10_unit_40 : decode cX10_unit 40 = .ok (.aload_n 0, 1) := by decide +kernel
theorem dX10_unit_41 : decode cX10_unit 41 = .ok (.getfield 212, 3) := by decide +kernel
theorem dX10_unit_44 : decode cX10_unit 44 = .ok (.iaload, 1) := by decide +kernel
theorem dX10_unit_45 : decode cX10_unit 45 = .ok (.bipush 32, 2) := by decide +kernel
theorem dX10_unit_47 : decode cX10_unit 47 = .ok (.if_icmp .lt 41, 3) := by decide +kernel
theorem dX10_unit_50 : decode cX10_unit 50 = .ok (.aload_n 0, 1) := by decide +kernel
theorem dX10_unit_51 : decode cX10_unit 51 = .ok (.getfield 20, 3) := by decide +kernel
theorem dX10_unit_54 : decode cX10_unit 54 = .ok (.aload_n 0, 1) := by decide +kernel
theorem dX10_unit_55 : decode cX10_unit 55 = .ok (.getfield 212, 3) := by decide +kernel
theorem dX10_unit_58 : decode cX10_unit 58 = .ok (.iaload, 1) := by decide +kernel
theorem dX10_unit_59 : decode cX10_unit 59 = .ok (.bipush 40, 2) := by decide +kernel
theorem dX10_unit_61 : decode cX10_unit 61 = .ok (.if_icmp .gt 27, 3) := by decide +kernel
theorem dX10_unit_64 : decode cX10_unit 64 = .ok (.aload_n 0, 1) := by decide +kernel
theorem dX10_unit_65 : decode cX10_unit 65 = .ok (.iconst 1, 1) := by decide +kernel
theorem dX10_unit_66 : decode cX10_unit 66 = .ok (.aload_n 0, 1) := by decide +kernel
theorem dX10_unit_67 : decode cX10_unit 67 = .ok (.getfield 20, 3) := by decide +kernel
theorem dX10_unit_70 : decode cX10_unit 70 = .ok (.aload_n 0, 1) := by decide +kernel
theorem dX10_unit_71 : decode cX10_unit 71 = .ok (.getfield 212, 3) := by decide +kernel
theorem dX10_unit_74 : decode cX10_unit 74 = .ok (.iaload, 1) := by decide +kernel
theorem dX10_unit_75 : decode cX10_unit 75 = .ok (.bipush 32, 2) := by decide +kernel
theorem dX10_unit_77 : decode cX10_unit 77 = .ok (.isub, 1) := by decide +kernel
theorem dX10_unit_78 : decode cX10_unit 78 = .ok (.invokevirtual 311, 3) := by decide +kernel
theorem dX10_unit_81 : decode cX10_unit 81 = .ok (.aload_n 0, 1) := by decide +kernel
theorem dX10_unit_82 : decode cX10_unit 82 = .ok (.invokevirtual 230, 3) := by decide +kernel
theorem dX10_unit_85 : decode cX10_unit 85 = .ok (.goto 8, 3) := by decide +kernel
theorem dX10_unit_88 : decode cX10_unit 88 = .ok (.aload_n 0, 1) := by decide +kernel
theorem dX10_unit_89 : decode cX10_unit 89 = .ok (.iconst 1, 1) := by decide +kernel
theorem dX10_unit_90 : decode cX10_unit 90 = .ok (.invokevirtual 224, 3) := by decide +kernel
theorem dX10_unit_93 : decode cX10_unit 93 = .ok (.return_, 1) := by decide +kernel
theorem dX10_termOf_0 : decode cX10_termOf 0 = .ok (.iconst 0, 1) := by decide +kernel
theorem dX10_termOf_1 : decode cX10_termOf 1 = .ok (.istore_n 3, 1) := by decide +kernel
theorem dX10_termOf_2 : decode cX10_termOf 2 = .ok (.iload_n 1, 1) := by decide +kernel
theorem dX10_termOf_3 : decode cX10_termOf 3 = .ok (.istore 4, 2) := by decide +kernel
theorem dX10_termOf_5 : decode cX10_termOf 5 = .ok (.iload 4, 2) := by decide +kernel
theorem dX10_termOf_7 : decode cX10_termOf 7 = .ok (.iload_n 2, 1) := by decide +kernel
theorem dX10_termOf_8 : decode cX10_termOf 8 = .ok (.if_icmp .ge 157, 3) := by decide +kernel
theorem dX10_termOf_11 : decode cX10_termOf 11 = .ok (.aload_n 0, 1) := by decide +kernel
theorem dX10_termOf_12 : decode cX10_termOf 12 = .ok (.getfield 104, 3) := by decide +kernel
theorem dX10_termOf_15 : decode cX10_termOf 15 = .ok (.iload 4, 2) := by decide +kernel
theorem dX10_termOf_17 : decode cX10_termOf 17 = .ok (.iaload, 1) := by decide +kernel
theorem dX10_termOf_18 : decode cX10_termOf 18 = .ok (.istore 5, 2) := by decide +kernel
theorem dX10_termOf_20 : decode cX10_termOf 20 = .ok (.iload 5, 2) := by decide +kernel
theorem dX10_termOf_22 : decode cX10_termOf 22 = .ok (.iconst 2, 1) := by decide +kernel
theorem dX10_termOf_23 : decode cX10_termOf 23 = .ok (.if_icmp .ge 42, 3) := by decide +kernel
theorem dX10_termOf_26 : decode cX10_termOf 26 = .ok (.aload_n 0, 1) := by decide +kernel
theorem dX10_termOf_27 : decode cX10_termOf 27 = .ok (.getfield 116, 3) := by decide +kernel
theorem dX10_termOf_30 : decode cX10_termOf 30 = .ok (.iload_n 3, 1) := by decide +kernel
theorem dX10_termOf_31 : decode cX10_termOf 31 = .ok (.iload 5, 2) := by decide +kernel
theorem dX10_termOf_33 : decode cX10_termOf 33 = .ok (.ifCond .ne 13, 3) := by decide +kernel
theorem dX10_termOf_36 : decode cX10_termOf 36 = .ok (.aload_n 0, 1) := by decide +kernel
theorem dX10_termOf_37 : decode cX10_termOf 37 = .ok (.getfield 107, 3) := by decide +kernel
theorem dX10_termOf_40 : decode cX10_termOf 40 = .ok (.iload 4, 2) := by decide +kernel
theorem dX10_termOf_42 : decode cX10_termOf 42 = .ok (.iaload, 1) := by decide +kernel
theorem dX10_termOf_43 : decode cX10_termOf 43 = .ok (.goto 15, 3) := by decide +kernel
theorem dX10_termOf_46 : decode cX10_termOf 46 = .ok (.aload_n 0, 1) := by decide +kernel
theorem dX10_termOf_47 : decode cX10_termOf 47 = .ok (.getfield 113, 3) := by decide +kernel
theorem dX10_termOf_50 : decode cX10_termOf 50 = .ok (.aload_n 0, 1) := by decide +kernel
theorem dX10_termOf_51 : decode cX10_termOf 51 = .ok (.getfield 107, 3) := by decide +kernel
theorem dX10_termOf_54 : decode cX10_termOf 54 = .ok (.iload 4, 2) := by decide +kernel
theorem dX10_termOf_56 : decode cX10_termOf 56 = .ok (.iaload, 1) := by decide +kernel
theorem dX10_termOf_57 : decode cX10_termOf 57 = .ok (.iaload, 1) := by decide +kernel
theorem dX10_termOf_58 : decode cX10_termOf 58 = .ok (.iastore, 1) := by decide +kernel
theorem dX10_termOf_59 : decode cX10_termOf 59 = .ok (.iinc 3 1, 3) := by decide +kernel
theorem dX10_termOf_62 : decode cX10_termOf 62 = .ok (.goto 97, 3) := by decide +kernel
theorem dX10_termOf_65 : decode cX10_termOf 65 = .ok (.iinc 3 (-1), 3) := by decide +kernel
theorem dX10_termOf_68 : decode cX10_termOf 68 = .ok (.aload_n 0, 1) := by decide +kernel
theorem dX10_termOf_69 : decode cX10_termOf 69 = .ok (.getfield 116, 3) := by decide +kernel
theorem dX10_termOf_72 : decode cX10_termOf 72 = .ok (.iload_n 3, 1) := by decide +kernel
theorem dX10_termOf_73 : decode cX10_termOf 73 = .ok (.iconst 1, 1) := by decide +kernel
theorem dX10_termOf_74 : decode cX10_termOf 74 = .ok (.isub, 1) := by decide +kernel
theorem dX10_termOf_75 : decode cX10_termOf 75 = .ok (.iaload, 1) := by decide +kernel
theorem dX10_termOf_76 : decode cX10_termOf 76 = .ok (.istore 6, 2) := by decide +kernel
theorem dX10_termOf_78 : decode cX10_termOf 78 = .ok (.aload_n 0, 1) := by decide +kernel
theorem dX10_termOf_79 : decode cX10_termOf 79 = .ok (.getfield 116, 3) := by decide +kernel
theorem dX10_termOf_82 : decode cX10_termOf 82 = .ok (.iload_n 3, 1) := by decide +kernel
theorem dX10_termOf_83 : decode cX10_termOf 83 = .ok (.iaload, 1) := by decide +kernel
theorem dX10_termOf_84 : decode cX10_termOf 84 = .ok (.istore 7, 2) := by decide +kernel
theorem dX10_termOf_86 : decode cX10_termOf 86 = .ok (.iload 5, 2) := by decide +kernel
theorem dX10_termOf_88 : decode cX10_termOf 88 = .ok (.iconst 5, 1) := by decide +kernel
theorem dX10_termOf_89 : decode cX10_termOf 89 = .ok (.if_icmp .ne 15, 3) := by decide +kernel
theorem dX10_termOf_92 : decode cX10_termOf 92 = .ok (.iload 7, 2) := by decide +kernel
theorem dX10_termOf_94 : decode cX10_termOf 94 = .ok (.ifCond .ne 10, 3) := by decide +kernel
theorem dX10_termOf_97 : decode cX10_termOf 97 = .ok (.aload_n 0, 1) := by decide +kernel
theorem dX10_termOf_98 : decode cX10_termOf 98 = .ok (.iconst 1, 1) := by decide +kernel
theorem dX10_termOf_99 : decode cX10_termOf 99 = .ok (.putfield 321, 3) := by decide +kernel
theorem dX10_termOf_102 : decode cX10_termOf 102 = .ok (.iconst 0, 1) := by decide +kernel
theorem dX10_termOf_103 : decode cX10_termOf 103 = .ok (.ireturn, 1) := by decide +kernel
theorem dX10_termOf_104 : decode cX10_termOf 104 = .ok (.aload_n 0, 1) := by decide +kernel
theorem dX10_termOf_105 : decode cX10_termOf 105 = .ok (.getfield 116, 3) := by decide +kernel
theorem dX10_termOf_108 : decode cX10_termOf 108 = .ok (.iload_n 3, 1) := by decide +kernel
theorem dX10_termOf_109 : decode cX10_termOf 109 = .ok (.iconst 1, 1) := by decide +kernel
theorem dX10_termOf_110 : decode cX10_termOf 110 = .ok (.isub, 1) := by decide +kernel
theorem dX10_termOf_111 : decode cX10_termOf 111 = .ok (.iload 5, 2) := by decide +kernel
theorem dX10_termOf_113 : decode cX10_termOf 113 = .ok (.iconst 2, 1) := by decide +kernel
theorem dX10_termOf_114 : decode cX10_termOf 114 = .ok (.if_icmp .ne 11, 3) := by decide +kernel
theorem dX10_termOf_117 : decode cX10_termOf 117 = .ok (.iload 6, 2) := by decide +kernel
theorem dX10_termOf_119 : decode cX10_termOf 119 = .ok (.iload 7, 2) := by decide +kernel
theorem dX10_termOf_121 : decode cX10_termOf 121 = .ok (.iadd, 1) := by decide +kernel
theorem dX10_termOf_122 : decode cX10_termOf 122 = .ok (.goto 36, 3) := by decide +kernel
theorem dX10_termOf_125 : decode cX10_termOf 125 = .ok (.iload 5, 2) := by decide +kernel
theorem dX10_termOf_127 : decode cX10_termOf 127 = .ok (.iconst 3, 1) := by decide +kernel
theorem dX10_termOf_128 : decode cX10_termOf 128 = .ok (.if_icmp .ne 11, 3) := by decide +kernel
theorem dX10_termOf_131 : decode cX10_termOf 131 = .ok (.iload 6, 2) := by decide +kernel
theorem dX10_termOf_133 : decode cX10_termOf 133 = .ok (.iload 7, 2) := by decide +kernel
theorem dX10_termOf_135 : decode cX10_termOf 135 = .ok (.isub, 1) := by decide +kernel
theorem dX10_termOf_136 : decode cX10_termOf 136 = .ok (.goto 22, 3) := by decide +kernel
theorem dX10_termOf_139 : decode cX10_termOf 139 = .ok (.iload 5, 2) := by decide +kernel
theorem dX10_termOf_141 : decode cX10_termOf 141 = .ok (.iconst 4, 1) := by decide +kernel
theorem dX10_termOf_142 : decode cX10_termOf 142 = .ok (.if_icmp .ne 11, 3) := by decide +kernel
theorem dX10_termOf_145 : decode cX10_termOf 145 = .ok (.iload 6, 2) := by decide +kernel
theorem dX10_termOf_147 : decode cX10_termOf 147 = .ok (.iload 7, 2) := by decide +kernel
theorem dX10_termOf_149 : decode cX10_termOf 149 = .ok (.imul, 1) := by decide +kernel
theorem dX10_termOf_150 : decode cX10_termOf 150 = .ok (.goto 8, 3) := by decide +kernel
theorem dX10_termOf_153 : decode cX10_termOf 153 = .ok (.iload 6, 2) := by decide +kernel
theorem dX10_termOf_155 : decode cX10_termOf 155 = .ok (.iload 7, 2) := by decide +kernel
theorem dX10_termOf_157 : decode cX10_termOf 157 = .ok (.idiv, 1) := by decide +kernel
theorem dX10_termOf_158 : decode cX10_termOf 158 = .ok (.iastore, 1) := by decide +kernel
theorem dX10_termOf_159 : decode cX10_termOf 159 = .ok (.iinc 4 1, 3) := by decide +kernel
theorem dX10_termOf_162 : decode cX10_termOf 162 = .ok (.goto (-157), 3) := by decide +kernel
theorem dX10_termOf_165 : decode cX10_termOf 165 = .ok (.aload_n 0, 1) := by decide +kernel
theorem dX10_termOf_166 : decode cX10_termOf 166 = .ok (.getfield 116, 3) := by decide +kernel
theorem dX10_termOf_169 : decode cX10_termOf 169 = .ok (.iconst 0, 1) := by decide +kernel
theorem dX10_termOf_170 : decode cX10_termOf 170 = .ok (.iaload, 1) := by decide +kernel
theorem dX10_termOf_171 : decode cX10_termOf 171 = .ok (.ireturn, 1) := by decide +kernel
theorem dX10_in_0 : decode cX10_in 0 = .ok (.iload_n 0, 1) := by decide +kernel
theorem dX10_in_1 : decode cX10_in 1 = .ok (.iload_n 1, 1) := by decide +kernel
theorem dX10_in_2 : decode cX10_in 2 = .ok (.if_icmp .lt 12, 3) := by decide +kernel
theorem dX10_in_5 : decode cX10_in 5 = .ok (.iload_n 0, 1) := by decide +kernel
theorem dX10_in_6 : decode cX10_in 6 = .ok (.iload_n 2, 1) := by decide +kernel
theorem dX10_in_7 : decode cX10_in 7 = .ok (.if_icmp .gt 7, 3) := by decide +kernel
theorem dX10_in_10 : decode cX10_in 10 = .ok (.iconst 1, 1) := by decide +kernel
theorem dX10_in_11 : decode cX10_in 11 = .ok (.goto 4, 3) := by decide +kernel
theorem dX10_in_14 : decode cX10_in 14 = .ok (.iconst 0, 1) := by decide +kernel
theorem dX10_in_15 : decode cX10_in 15 = .ok (.ireturn, 1) := by decide +kernel
theorem dX10_within_0 : decode cX10_within 0 = .ok (.iload_n 0, 1) := by decide +kernel
theorem dX10_within_1 : decode cX10_within 1 = .ok (.iload_n 1, 1) := by decide +kernel
theorem dX10_within_2 : decode cX10_within 2 = .ok (.if_icmp .ge 7, 3) := by decide +kernel
theorem dX10_within_5 : decode cX10_within 5 = .ok (.iload_n 1, 1) := by decide +kernel
theorem dX10_within_6 : decode cX10_within 6 = .ok (.goto 13, 3) := by decide +kernel
theorem dX10_within_9 : decode cX10_within 9 = .ok (.iload_n 0, 1) := by decide +kernel
theorem dX10_within_10 : decode cX10_within 10 = .ok (.iload_n 2, 1) := by decide +kernel
theorem dX10_within_11 : decode cX10_within 11 = .ok (.if_icmp .le 7, 3) := by decide +kernel
theorem dX10_within_14 : decode cX10_within 14 = .ok (.iload_n 2, 1) := by decide +kernel
theorem dX10_within_15 : decode cX10_within 15 = .ok (.goto 4, 3) := by decide +kernel
theorem dX10_within_18 : decode cX10_within 18 = .ok (.iload_n 0, 1) := by decide +kernel
theorem dX10_within_19 : decode cX10_within 19 = .ok (.ireturn, 1) := by decide +kernel
theorem dX10_bits_0 : decode cX10_bits 0 = .ok (.iconst 0, 1) := by decide +kernel
theorem dX10_bits_1 : decode cX10_bits 1 = .ok (.istore_n 1, 1) := by decide +kernel
theorem dX10_bits_2 : decode cX10_bits 2 = .ok (.iconst 0, 1) := by decide +kernel
theorem dX10_bits_3 : decode cX10_bits 3 = .ok (.istore_n 2, 1) := by decide +kernel
theorem dX10_bits_4 : decode cX10_bits 4 = .ok (.iload_n 2, 1) := by decide +kernel
theorem dX10_bits_5 : decode cX10_bits 5 = .ok (.bipush 8, 2) := by decide +kernel
theorem dX10_bits_7 : decode cX10_bits 7 = .ok (.if_icmp .ge 17, 3) := by decide +kernel
theorem dX10_bits_10 : decode cX10_bits 10 = .ok (.iload_n 1, 1) := by decide +kernel
theorem dX10_bits_11 : decode cX10_bits 11 = .ok (.iload_n 0, 1) := by decide +kernel
theorem dX10_bits_12 : decode cX10_bits 12 = .ok (.iload_n 2, 1) := by decide +kernel
theorem dX10_bits_13 : decode cX10_bits 13 = .ok (.ishr, 1) := by decide +kernel
theorem dX10_bits_14 : decode cX10_bits 14 = .ok (.iconst 1, 1) := by decide +kernel
theorem dX10_bits_15 : decode cX10_bits 15 = .ok (.iand, 1) := by decide +kernel
theorem dX10_bits_16 : decode cX10_bits 16 = .ok (.iadd, 1) := by decide +kernel
theorem dX10_bits_17 : decode cX10_bits 17 = .ok (.istore_n 1, 1) := by decide +kernel
theorem dX10_bits_18 : decode cX10_bits 18 = .ok (.iinc 2 1, 3) := by decide +kernel
theorem dX10_bits_21 : decode cX10_bits 21 = .ok (.goto (-17), 3) := by decide +kernel
theorem dX10_bits_24 : decode cX10_bits 24 = .ok (.iload_n 1, 1) := by decide +kernel
theorem dX10_bits_25 : decode cX10_bits 25 = .ok (.ireturn, 1) := by decide +kernel
theorem dX10_off_0 : decode cX10_off 0 = .ok (.iload_n 0, 1) := by decide +kernel
theorem dX10_off_1 : decode cX10_off 1 = .ok (.iload_n 1, 1) := by decide +kernel
theorem dX10_off_2 : decode cX10_off 2 = .ok (.if_icmp .ge 9, 3) := by decide +kernel
theorem dX10_off_5 : decode cX10_off 5 = .ok (.iload_n 1, 1) := by decide +kernel
theorem dX10_off_6 : decode cX10_off 6 = .ok (.iload_n 0, 1) := by decide +kernel
theorem dX10_off_7 : decode cX10_off 7 = .ok (.isub, 1) := by decide +kernel
theorem dX10_off_8 : decode cX10_off 8 = .ok (.goto 6, 3) := by decide +kernel
theorem dX10_off_11 : decode cX10_off 11 = .ok (.iload_n 0, 1) := by decide +kernel
theorem dX10_off_12 : decode cX10_off 12 = .ok (.iload_n 1, 1) := by decide +kernel
theorem dX10_off_13 : decode cX10_off 13 = .ok (.isub, 1) := by decide +kernel
theorem dX10_off_14 : decode cX10_off 14 = .ok (.ireturn, 1) := by decide +kernel
theorem dX10_signOf_0 : decode cX10_signOf 0 = .ok (.iload_n 0, 1) := by decide +kernel
theorem dX10_signOf_1 : decode cX10_signOf 1 = .ok (.ifCond .ge 7, 3) := by decide +kernel
theorem dX10_signOf_4 : decode cX10_signOf 4 = .ok (.iconst (-1), 1) := by decide +kernel
theorem dX10_signOf_5 : decode cX10_signOf 5 = .ok (.goto 12, 3) := by decide +kernel
theorem dX10_signOf_8 : decode cX10_signOf 8 = .ok (.iload_n 0, 1) := by decide +kernel
theorem dX10_signOf_9 : decode cX10_signOf 9 = .ok (.ifCond .le 7, 3) := by decide +kernel
theorem dX10_signOf_12 : decode cX10_signOf 12 = .ok (.iconst 1, 1) := by decide +kernel
theorem dX10_signOf_13 : decode cX10_signOf 13 = .ok (.goto 4, 3) := by decide +kernel
theorem dX10_signOf_16 : decode cX10_signOf 16 = .ok (.iconst 0, 1) := by decide +kernel
theorem dX10_signOf_17 : decode cX10_signOf 17 = .ok (.ireturn, 1) := by decide +kernel
theorem dX10_more_0 : decode cX10_more 0 = .ok (.iload_n 0, 1) := by decide +kernel
theorem dX10_more_1 : decode cX10_more 1 = .ok (.iload_n 1, 1) := by decide +kernel
theorem dX10_more_2 : decode cX10_more 2 = .ok (.if_icmp .le 7, 3) := by decide +kernel
theorem dX10_more_5 : decode cX10_more 5 = .ok (.iload_n 0, 1) := by decide +kernel
theorem dX10_more_6 : decode cX10_more 6 = .ok (.goto 4, 3) := by decide +kernel
theorem dX10_more_9 : decode cX10_more 9 = .ok (.iload_n 1, 1) := by decide +kernel
theorem dX10_more_10 : decode cX10_more 10 = .ok (.ireturn, 1) := by decide +kernel
theorem dX10_isMermaid_0 : decode cX10_isMermaid 0 = .ok (.iload_n 1, 1) := by decide +kernel
theorem dX10_isMermaid_1 : decode cX10_isMermaid 1 = .ok (.iconst 0, 1) := by decide +kernel
theorem dX10_isMermaid_2 : decode cX10_isMermaid 2 = .ok (.aload_n 0, 1) := by decide +kernel
theorem dX10_isMermaid_3 : decode cX10_isMermaid 3 = .ok (.getfield 46, 3) := by decide +kernel
theorem dX10_isMermaid_6 : decode cX10_isMermaid 6 = .ok (.aload_n 0, 1) := by decide +kernel
theorem dX10_isMermaid_7 : decode cX10_isMermaid 7 = .ok (.getfield 239, 3) := by decide +kernel
theorem dX10_isMermaid_10 : decode cX10_isMermaid 10 = .ok (.iaload, 1) := by decide +kernel
theorem dX10_isMermaid_11 : decode cX10_isMermaid 11 = .ok (.iconst 1, 1) := by decide +kernel
theorem dX10_isMermaid_12 : decode cX10_isMermaid 12 = .ok (.isub, 1) := by decide +kernel
theorem dX10_isMermaid_13 : decode cX10_isMermaid 13 = .ok (.invokestatic 325, 3) := by decide +kernel
theorem dX10_isMermaid_16 : decode cX10_isMermaid 16 = .ok (.ireturn, 1) := by decide +kernel
theorem dX10_isPerson_0 : decode cX10_isPerson 0 = .ok (.iload_n 1, 1) := by decide +kernel
theorem dX10_isPerson_1 : decode cX10_isPerson 1 = .ok (.iconst 0, 1) := by decide +kernel
theorem dX10_isPerson_2 : decode cX10_isPerson 2 = .ok (.aload_n 0, 1) := by decide +kernel
theorem dX10_isPerson_3 : decode cX10_isPerson 3 = .ok (.getfield 52, 3) := by decide +kernel
theorem dX10_isPerson_6 : decode cX10_isPerson 6 = .ok (.aload_n 0, 1) := by decide +kernel
theorem dX10_isPerson_7 : decode cX10_isPerson 7 = .ok (.getfield 239, 3) := by decide +kernel
theorem dX10_isPerson_10 : decode cX10_isPerson 10 = .ok (.iaload, 1) := by decide +kernel
theorem dX10_isPerson_11 : decode cX10_isPerson 11 = .ok (.iconst 1, 1) := by decide +kernel
theorem dX10_isPerson_12 : decode cX10_isPerson 12 = .ok (.isub, 1) := by decide +kernel
theorem dX10_isPerson_13 : decode cX10_isPerson 13 = .ok (.invokestatic 325, 3) := by decide +kernel
theorem dX10_isPerson_16 : decode cX10_isPerson 16 = .ok (.ireturn, 1) := by decide +kernel
theorem dX10_isStrand_0 : decode cX10_isStrand 0 = .ok (.iload_n 1, 1) := by decide +kernel
theorem dX10_isStrand_1 : decode cX10_isStrand 1 = .ok (.iconst 0, 1) := by decide +kernel
theorem dX10_isStrand_2 : decode cX10_isStrand 2 = .ok (.aload_n 0, 1) := by decide +kernel
theorem dX10_isStrand_3 : decode cX10_isStrand 3 = .ok (.getfield 64, 3) := by decide +kernel
theorem dX10_isStrand_6 : decode cX10_isStrand 6 = .ok (.aload_n 0, 1) := by decide +kernel
theorem dX10_isStrand_7 : decode cX10_isStrand 7 = .ok (.getfield 239, 3) := by decide +kernel
theorem dX10_isStrand_10 : decode cX10_isStrand 10 = .ok (.iaload, 1) := by decide +kernel
theorem dX10_isStrand_11 : decode cX10_isStrand 11 = .ok (.iconst 1, 1) := by decide +kernel
theorem dX10_isStrand_12 : decode cX10_isStrand 12 = .ok (.isub, 1) := by decide +kernel
theorem dX10_isStrand_13 : decode cX10_isStrand 13 = .ok (.invokestatic 325, 3) := by decide +kernel
theorem dX10_isStrand_16 : decode cX10_isStrand 16 = .ok (.ireturn, 1) := by decide +kernel
theorem dX10_begins_0 : decode cX10_begins 0 = .ok (.iconst 0, 1) := by decide +kernel
theorem dX10_begins_1 : decode cX10_begins 1 = .ok (.istore_n 1, 1) := by decide +kernel
theorem dX10_begins_2 : decode cX10_begins 2 = .ok (.iload_n 1, 1) := by decide +kernel
theorem dX10_begins_3 : decode cX10_begins 3 = .ok (.bipush 55, 2) := by decide +kernel
theorem dX10_begins_5 : decode cX10_begins 5 = .ok (.if_icmp .ge 16, 3) := by decide +kernel
theorem dX10_begins_8 : decode cX10_begins 8 = .ok (.aload_n 0, 1) := by decide +kernel
theorem dX10_begins_9 : decode cX10_begins 9 = .ok (.getfield 122, 3) := by decide +kernel
theorem dX10_begins_12 : decode cX10_begins 12 = .ok (.iload_n 1, 1) := by decide +kernel
theorem dX10_begins_13 : decode cX10_begins 13 = .ok (.iconst 0, 1) := by decide +kernel
theorem dX10_begins_14 : decode cX10_begins 14 = .ok (.iastore, 1) := by decide +kernel
theorem dX10_begins_15 : decode cX10_begins 15 = .ok (.iinc 1 1, 3) := by decide +kernel
theorem dX10_begins_18 : decode cX10_begins 18 = .ok (.goto (-16), 3) := by decide +kernel
theorem dX10_begins_21 : decode cX10_begins 21 = .ok (.iconst 0, 1) := by decide +kernel
theorem dX10_begins_22 : decode cX10_begins 22 = .ok (.istore_n 1, 1) := by decide +kernel
theorem dX10_begins_23 : decode cX10_begins 23 = .ok (.iload_n 1, 1) := by decide +kernel
theorem dX10_begins_24 : decode cX10_begins 24 = .ok (.aload_n 0, 1) := by decide +kernel
theorem dX10_begins_25 : decode cX10_begins 25 = .ok (.getfield 46, 3) := by decide +kernel
theorem dX10_begins_28 : decode cX10_begins 28 = .ok (.aload_n 0, 1) := by decide +kernel
theorem dX10_begins_29 : decode cX10_begins 29 = .ok (.getfield 239, 3) := by decide +kernel
theorem dX10_begins_32 : decode cX10_begins 32 = .ok (.iaload, 1) := by decide +kernel
theorem dX10_begins_33 : decode cX10_begins 33 = .ok (.if_icmp .ge 47, 3) := by decide +kernel
theorem dX10_begins_36 : decode cX10_begins 36 = .ok (.iconst 0, 1) := by decide +kernel
theorem dX10_begins_37 : decode cX10_begins 37 = .ok (.istore_n 2, 1) := by decide +kernel
theorem dX10_begins_38 : decode cX10_begins 38 = .ok (.iload_n 2, 1) := by decide +kernel
theorem dX10_begins_39 : decode cX10_begins 39 = .ok (.bipush 16, 2) := by decide +kernel
theorem dX10_begins_41 : decode cX10_begins 41 = .ok (.if_icmp .ge 33, 3) := by decide +kernel
theorem dX10_begins_44 : decode cX10_begins 44 = .ok (.aload_n 0, 1) := by decide +kernel
theorem dX10_begins_45 : decode cX10_begins 45 = .ok (.getfield 122, 3) := by decide +kernel
theorem dX10_begins_48 : decode cX10_begins 48 = .ok (.iload_n 2, 1) := by decide +kernel
theorem dX10_begins_49 : decode cX10_begins 49 = .ok (.iload_n 1, 1) := by decide +kernel
theorem dX10_begins_50 : decode cX10_begins 50 = .ok (.iadd, 1) := by decide +kernel
theorem dX10_begins_51 : decode cX10_begins 51 = .ok (.aload_n 0, 1) := by decide +kernel
theorem dX10_begins_52 : decode cX10_begins 52 = .ok (.getfield 49, 3) := by decide +kernel
theorem dX10_begins_55 : decode cX10_begins 55 = .ok (.bipush 16, 2) := by decide +kernel
theorem dX10_begins_57 : decode cX10_begins 57 = .ok (.aload_n 0, 1) := by decide +kernel
theorem dX10_begins_58 : decode cX10_begins 58 = .ok (.getfield 239, 3) := by decide +kernel
theorem dX10_begins_61 : decode cX10_begins 61 = .ok (.imul, 1) := by decide +kernel
theorem dX10_begins_62 : decode cX10_begins 62 = .ok (.iload_n 2, 1) := by decide +kernel
theorem dX10_begins_63 : decode cX10_begins 63 = .ok (.iadd, 1) := by decide +kernel
theorem dX10_begins_64 : decode cX10_begins 64 = .ok (.iload_n 1, 1) := by decide +kernel
theorem dX10_begins_65 : decode cX10_begins 65 = .ok (.iadd, 1) := by decide +kernel
theorem dX10_begins_66 : decode cX10_begins 66 = .ok (.iaload, 1) := by decide +kernel
theorem dX10_begins_67 : decode cX10_begins 67 = .ok (.iastore, 1) := by decide +kernel
theorem dX10_begins_68 : decode cX10_begins 68 = .ok (.iinc 2 4, 3) := by decide +kernel
theorem dX10_begins_71 : decode cX10_begins 71 = .ok (.goto (-33), 3) := by decide +kernel
theorem dX10_begins_74 : decode cX10_begins 74 = .ok (.iinc 1 1, 3) := by decide +kernel
theorem dX10_begins_77 : decode cX10_begins 77 = .ok (.goto (-54), 3) := by decide +kernel
theorem dX10_begins_80 : decode cX10_begins 80 = .ok (.iconst 0, 1) := by decide +kernel
theorem dX10_begins_81 : decode cX10_begins 81 = .ok (.istore_n 1, 1) := by decide +kernel
theorem dX10_begins_82 : decode cX10_begins 82 = .ok (.iload_n 1, 1) := by decide +kernel
theorem dX10_begins_83 : decode cX10_begins 83 = .ok (.aload_n 0, 1) := by decide +kernel
theorem dX10_begins_84 : decode cX10_begins 84 = .ok (.getfield 52, 3) := by decide +kernel
theorem dX10_begins_87 : decode cX10_begins 87 = .ok (.aload_n 0, 1) := by decide +kernel
theorem dX10_begins_88 : decode cX10_begins 88 = .ok (.getfield 239, 3) := by decide +kernel
theorem dX10_begins_91 : decode cX10_begins 91 = .ok (.iaload, 1) := by decide +kernel
theorem dX10_begins_92 : decode cX10_begins 92 = .ok (.if_icmp .ge 55, 3) := by decide +kernel
theorem dX10_begins_95 : decode cX10_begins 95 = .ok (.aload_n 0, 1) := by decide +kernel
theorem dX10_begins_96 : decode cX10_begins 96 = .ok (.getfield 122, 3) := by decide +kernel
theorem dX10_begins_99 : decode cX10_begins 99 = .ok (.bipush 20, 2) := by decide +kernel
theorem dX10_begins_101 : decode cX10_begins 101 = .ok (.iload_n 1, 1) := by decide +kernel
theorem dX10_begins_102 : decode cX10_begins 102 = .ok (.iadd, 1) := by decide +kernel
theorem dX10_begins_103 : decode cX10_begins 103 = .ok (.aload_n 0, 1) := by decide +kernel
theorem dX10_begins_104 : decode cX10_begins 104 = .ok (.getfield 55, 3) := by decide +kernel
theorem dX10_begins_107 : decode cX10_begins 107 = .ok (.bipush 6, 2) := by decide +kernel
theorem dX10_begins_109 : decode cX10_begins 109 = .ok (.aload_n 0, 1) := by decide +kernel
theorem dX10_begins_110 : decode cX10_begins 110 = .ok (.getfield 239, 3) := by decide +kernel
theorem dX10_begins_113 : decode cX10_begins 113 = .ok (.imul, 1) := by decide +kernel
theorem dX10_begins_114 : decode cX10_begins 114 = .ok (.iload_n 1, 1) := by decide +kernel
theorem dX10_begins_115 : decode cX10_begins 115 = .ok (.iadd, 1) := by decide +kernel
theorem dX10_begins_116 : decode cX10_begins 116 = .ok (.iaload, 1) := by decide +kernel
theorem dX10_begins_117 : decode cX10_begins 117 = .ok (.iastore, 1) := by decide +kernel
theorem dX10_begins_118 : decode cX10_begins 118 = .ok (.aload_n 0, 1) := by decide +kernel
theorem dX10_begins_119 : decode cX10_begins 119 = .ok (.getfield 122, 3) := by decide +kernel
theorem dX10_begins_122 : decode cX10_begins 122 = .ok (.bipush 26, 2) := by decide +kernel
theorem dX10_begins_124 : decode cX10_begins 124 = .ok (.iload_n 1, 1) := by decide +kernel
theorem dX10_begins_125 : decode cX10_begins 125 = .ok (.iadd, 1) := by decide +kernel
theorem dX10_begins_126 : decode cX10_begins 126 = .ok (.aload_n 0, 1) := by decide +kernel
theorem dX10_begins_127 : decode cX10_begins 127 = .ok (.getfield 58, 3) := by decide +kernel
theorem dX10_begins_130 : decode cX10_begins 130 = .ok (.bipush 6, 2) := by decide +kernel
theorem dX10_begins_132 : decode cX10_begins 132 = .ok (.aload_n 0, 1) := by decide +kernel
theorem dX10_begins_133 : decode cX10_begins 133 = .ok (.getfield 239, 3) := by decide +kernel
theorem dX10_begins_136 : decode cX10_begins 136 = .ok (.imul, 1) := by decide +kernel
theorem dX10_begins_137 : decode cX10_begins 137 = .ok (.iload_n 1, 1) := by decide +kernel
theorem dX10_begins_138 : decode cX10_begins 138 = .ok (.iadd, 1) := by decide +kernel
theorem dX10_begins_139 : decode cX10_begins 139 = .ok (.iaload, 1) := by decide +kernel
theorem dX10_begins_140 : decode cX10_begins 140 = .ok (.iastore, 1) := by decide +kernel
theorem dX10_begins_141 : decode cX10_begins 141 = .ok (.iinc 1 1, 3) := by decide +kernel
theorem dX10_begins_144 : decode cX10_begins 144 = .ok (.goto (-62), 3) := by decide +kernel
theorem dX10_begins_147 : decode cX10_begins 147 = .ok (.iconst 0, 1) := by decide +kernel
theorem dX10_begins_148 : decode cX10_begins 148 = .ok (.istore_n 1, 1) := by decide +kernel
theorem dX10_begins_149 : decode cX10_begins 149 = .ok (.iload_n 1, 1) := by decide +kernel
theorem dX10_begins_150 : decode cX10_begins 150 = .ok (.aload_n 0, 1) := by decide +kernel
theorem dX10_begins_151 : decode cX10_begins 151 = .ok (.getfield 64, 3) := by decide +kernel
theorem dX10_begins_154 : decode cX10_begins 154 = .ok (.aload_n 0, 1) := by decide +kernel
theorem dX10_begins_155 : decode cX10_begins 155 = .ok (.getfield 239, 3) := by decide +kernel
theorem dX10_begins_158 : decode cX10_begins 158 = .ok (.iaload, 1) := by decide +kernel
theorem dX10_begins_159 : decode cX10_begins 159 = .ok (.if_icmp .ge 32, 3) := by decide +kernel
theorem dX10_begins_162 : decode cX10_begins 162 = .ok (.aload_n 0, 1) := by decide +kernel
theorem dX10_begins_163 : decode cX10_begins 163 = .ok (.getfield 122, 3) := by decide +kernel
theorem dX10_begins_166 : decode cX10_begins 166 = .ok (.bipush 38, 2) := by decide +kernel
theorem dX10_begins_168 : decode cX10_begins 168 = .ok (.iload_n 1, 1) := by decide +kernel
theorem dX10_begins_169 : decode cX10_begins 169 = .ok (.iadd, 1) := by decide +kernel
theorem dX10_begins_170 : decode cX10_begins 170 = .ok (.aload_n 0, 1) := by decide +kernel
theorem dX10_begins_171 : decode cX10_begins 171 = .ok (.getfield 70, 3) := by decide +kernel
theorem dX10_begins_174 : decode cX10_begins 174 = .ok (.bipush 8, 2) := by decide +kernel
theorem dX10_begins_176 : decode cX10_begins 176 = .ok (.aload_n 0, 1) := by decide +kernel
theorem dX10_begins_177 : decode cX10_begins 177 = .ok (.getfield 239, 3) := by decide +kernel
theorem dX10_begins_180 : decode cX10_begins 180 = .ok (.imul, 1) := by decide +kernel
theorem dX10_begins_181 : decode cX10_begins 181 = .ok (.iload_n 1, 1) := by decide +kernel
theorem dX10_begins_182 : decode cX10_begins 182 = .ok (.iadd, 1) := by decide +kernel
theorem dX10_begins_183 : decode cX10_begins 183 = .ok (.iaload, 1) := by decide +kernel
theorem dX10_begins_184 : decode cX10_begins 184 = .ok (.iastore, 1) := by decide +kernel
theorem dX10_begins_185 : decode cX10_begins 185 = .ok (.iinc 1 1, 3) := by decide +kernel
theorem dX10_begins_188 : decode cX10_begins 188 = .ok (.goto (-39), 3) := by decide +kernel
theorem dX10_begins_191 : decode cX10_begins 191 = .ok (.aload_n 0, 1) := by decide +kernel
theorem dX10_begins_192 : decode cX10_begins 192 = .ok (.aload_n 0, 1) := by decide +kernel
theorem dX10_begins_193 : decode cX10_begins 193 = .ok (.getfield 79, 3) := by decide +kernel
theorem dX10_begins_196 : decode cX10_begins 196 = .ok (.aload_n 0, 1) := by decide +kernel
theorem dX10_begins_197 : decode cX10_begins 197 = .ok (.getfield 239, 3) := by decide +kernel
theorem dX10_begins_200 : decode cX10_begins 200 = .ok (.iaload, 1) := by decide +kernel
theorem dX10_begins_201 : decode cX10_begins 201 = .ok (.putfield 329, 3) := by decide +kernel
theorem dX10_begins_204 : decode cX10_begins 204 = .ok (.aload_n 0, 1) := by decide +kernel
theorem dX10_begins_205 : decode cX10_begins 205 = .ok (.iconst 0, 1) := by decide +kernel
theorem dX10_begins_206 : decode cX10_begins 206 = .ok (.putfield 332, 3) := by decide +kernel
theorem dX10_begins_209 : decode cX10_begins 209 = .ok (.return_, 1) := by decide +kernel
