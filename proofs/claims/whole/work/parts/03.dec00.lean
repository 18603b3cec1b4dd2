theorem dX0_init_0 : decode cX0_init 0 = .ok (.aload_n 0, 1) := by decide +kernel
theorem dX0_init_1 : decode cX0_init 1 = .ok (.invokespecial 3, 3) := by decide +kernel
theorem dX0_init_4 : decode cX0_init 4 = .ok (.aload_n 0, 1) := by decide +kernel
theorem dX0_init_5 : decode cX0_init 5 = .ok (.iconst 4, 1) := by decide +kernel
theorem dX0_init_6 : decode cX0_init 6 = .ok (.newarray .long, 2) := by decide +kernel
theorem dX0_init_8 : decode cX0_init 8 = .ok (.putfield 9, 3) := by decide +kernel
theorem dX0_init_11 : decode cX0_init 11 = .ok (.aload_n 0, 1) := by decide +kernel
theorem dX0_init_12 : decode cX0_init 12 = .ok (.bipush 6, 2) := by decide +kernel
theorem dX0_init_14 : decode cX0_init 14 = .ok (.newarray .long, 2) := by decide +kernel
theorem dX0_init_16 : decode cX0_init 16 = .ok (.putfield 15, 3) := by decide +kernel
theorem dX0_init_19 : decode cX0_init 19 = .ok (.aload_n 0, 1) := by decide +kernel
theorem dX0_init_20 : decode cX0_init 20 = .ok (.bipush 6, 2) := by decide +kernel
theorem dX0_init_22 : decode cX0_init 22 = .ok (.newarray .int, 2) := by decide +kernel
theorem dX0_init_24 : decode cX0_init 24 = .ok (.putfield 18, 3) := by decide +kernel
theorem dX0_init_27 : decode cX0_init 27 = .ok (.aload_n 0, 1) := by decide +kernel
theorem dX0_init_28 : decode cX0_init 28 = .ok (.bipush 8, 2) := by decide +kernel
theorem dX0_init_30 : decode cX0_init 30 = .ok (.newarray .int, 2) := by decide +kernel
theorem dX0_init_32 : decode cX0_init 32 = .ok (.putfield 22, 3) := by decide +kernel
theorem dX0_init_35 : decode cX0_init 35 = .ok (.aload_n 0, 1) := by decide +kernel
theorem dX0_init_36 : decode cX0_init 36 = .ok (.bipush 8, 2) := by decide +kernel
theorem dX0_init_38 : decode cX0_init 38 = .ok (.newarray .int, 2) := by decide +kernel
theorem dX0_init_40 : decode cX0_init 40 = .ok (.putfield 25, 3) := by decide +kernel
theorem dX0_init_43 : decode cX0_init 43 = .ok (.aload_n 0, 1) := by decide +kernel
theorem dX0_init_44 : decode cX0_init 44 = .ok (.new 28, 3) := by decide +kernel
theorem dX0_init_47 : decode cX0_init 47 = .ok (.dup, 1) := by decide +kernel
theorem dX0_init_48 : decode cX0_init 48 = .ok (.invokespecial 30, 3) := by decide +kernel
theorem dX0_init_51 : decode cX0_init 51 = .ok (.putfield 31, 3) := by decide +kernel
theorem dX0_init_54 : decode cX0_init 54 = .ok (.aload_n 0, 1) := by decide +kernel
theorem dX0_init_55 : decode cX0_init 55 = .ok (.new 35, 3) := by decide +kernel
theorem dX0_init_58 : decode cX0_init 58 = .ok (.dup, 1) := by decide +kernel
theorem dX0_init_59 : decode cX0_init 59 = .ok (.invokespecial 37, 3) := by decide +kernel
theorem dX0_init_62 : decode cX0_init 62 = .ok (.putfield 38, 3) := by decide +kernel
theorem dX0_init_65 : decode cX0_init 65 = .ok (.aload_n 0, 1) := by decide +kernel
theorem dX0_init_66 : decode cX0_init 66 = .ok (.iconst 4, 1) := by decide +kernel
theorem dX0_init_67 : decode cX0_init 67 = .ok (.putfield 42, 3) := by decide +kernel
theorem dX0_init_70 : decode cX0_init 70 = .ok (.return_, 1) := by decide +kernel
theorem dX0_clearAll_0 : decode cX0_clearAll 0 = .ok (.aload_n 0, 1) := by decide +kernel
theorem dX0_clearAll_1 : decode cX0_clearAll 1 = .ok (.iconst 0, 1) := by decide +kernel
theorem dX0_clearAll_2 : decode cX0_clearAll 2 = .ok (.putfield 46, 3) := by decide +kernel
theorem dX0_clearAll_5 : decode cX0_clearAll 5 = .ok (.aload_n 0, 1) := by decide +kernel
theorem dX0_clearAll_6 : decode cX0_clearAll 6 = .ok (.iconst 0, 1) := by decide +kernel
theorem dX0_clearAll_7 : decode cX0_clearAll 7 = .ok (.putfield 49, 3) := by decide +kernel
theorem dX0_clearAll_10 : decode cX0_clearAll 10 = .ok (.aload_n 0, 1) := by decide +kernel
theorem dX0_clearAll_11 : decode cX0_clearAll 11 = .ok (.iconst 0, 1) := by decide +kernel
theorem dX0_clearAll_12 : decode cX0_clearAll 12 = .ok (.putfield 52, 3) := by decide +kernel
theorem dX0_clearAll_15 : decode cX0_clearAll 15 = .ok (.aload_n 0, 1) := by decide +kernel
theorem dX0_clearAll_16 : decode cX0_clearAll 16 = .ok (.iconst 4, 1) := by decide +kernel
theorem dX0_clearAll_17 : decode cX0_clearAll 17 = .ok (.putfield 42, 3) := by decide +kernel
theorem dX0_clearAll_20 : decode cX0_clearAll 20 = .ok (.aload_n 0, 1) := by decide +kernel
theorem dX0_clearAll_21 : decode cX0_clearAll 21 = .ok (.iconst 0, 1) := by decide +kernel
theorem dX0_clearAll_22 : decode cX0_clearAll 22 = .ok (.putfield 55, 3) := by decide +kernel
theorem dX0_clearAll_25 : decode cX0_clearAll 25 = .ok (.aload_n 0, 1) := by decide +kernel
theorem dX0_clearAll_26 : decode cX0_clearAll 26 = .ok (.getfield 31, 3) := by decide +kernel
theorem dX0_clearAll_29 : decode cX0_clearAll 29 = .ok (.invokevirtual 58, 3) := by decide +kernel
theorem dX0_clearAll_32 : decode cX0_clearAll 32 = .ok (.aload_n 0, 1) := by decide +kernel
theorem dX0_clearAll_33 : decode cX0_clearAll 33 = .ok (.getfield 38, 3) := by decide +kernel
theorem dX0_clearAll_36 : decode cX0_clearAll 36 = .ok (.invokevirtual 61, 3) := by decide +kernel
theorem dX0_clearAll_39 : decode cX0_clearAll 39 = .ok (.return_, 1) := by decide +kernel
theorem dX0_mermaidNamed_0 : decode cX0_mermaidNamed 0 = .ok (.aload_n 0, 1) := by decide +kernel
theorem dX0_mermaidNamed_1 : decode cX0_mermaidNamed 1 = .ok (.getfield 9, 3) := by decide +kernel
theorem dX0_mermaidNamed_4 : decode cX0_mermaidNamed 4 = .ok (.aload_n 0, 1) := by decide +kernel
theorem dX0_mermaidNamed_5 : decode cX0_mermaidNamed 5 = .ok (.getfield 46, 3) := by decide +kernel
theorem dX0_mermaidNamed_8 : decode cX0_mermaidNamed 8 = .ok (.lload_n 1, 1) := by decide +kernel
theorem dX0_mermaidNamed_9 : decode cX0_mermaidNamed 9 = .ok (.invokestatic 62, 3) := by decide +kernel
theorem dX0_mermaidNamed_12 : decode cX0_mermaidNamed 12 = .ok (.ireturn, 1) := by decide +kernel
theorem dX0_personNamed_0 : decode cX0_personNamed 0 = .ok (.aload_n 0, 1) := by decide +kernel
theorem dX0_personNamed_1 : decode cX0_personNamed 1 = .ok (.getfield 15, 3) := by decide +kernel
theorem dX0_personNamed_4 : decode cX0_personNamed 4 = .ok (.aload_n 0, 1) := by decide +kernel
theorem dX0_personNamed_5 : decode cX0_personNamed 5 = .ok (.getfield 49, 3) := by decide +kernel
theorem dX0_personNamed_8 : decode cX0_personNamed 8 = .ok (.lload_n 1, 1) := by decide +kernel
theorem dX0_personNamed_9 : decode cX0_personNamed 9 = .ok (.invokestatic 62, 3) := by decide +kernel
theorem dX0_personNamed_12 : decode cX0_personNamed 12 = .ok (.ireturn, 1) := by decide +kernel
theorem dX0_indexOf_0 : decode cX0_indexOf 0 = .ok (.iconst 0, 1) := by decide +kernel
theorem dX0_indexOf_1 : decode cX0_indexOf 1 = .ok (.istore 4, 2) := by decide +kernel
theorem dX0_indexOf_3 : decode cX0_indexOf 3 = .ok (.iload 4, 2) := by decide +kernel
theorem dX0_indexOf_5 : decode cX0_indexOf 5 = .ok (.iload_n 1, 1) := by decide +kernel
theorem dX0_indexOf_6 : decode cX0_indexOf 6 = .ok (.if_icmp .ge 28, 3) := by decide +kernel
theorem dX0_indexOf_9 : decode cX0_indexOf 9 = .ok (.iload 4, 2) := by decide +kernel
theorem dX0_indexOf_11 : decode cX0_indexOf 11 = .ok (.aload_n 0, 1) := by decide +kernel
theorem dX0_indexOf_12 : decode cX0_indexOf 12 = .ok (.arraylength, 1) := by decide +kernel
theorem dX0_indexOf_13 : decode cX0_indexOf 13 = .ok (.if_icmp .ge 21, 3) := by decide +kernel
theorem dX0_indexOf_16 : decode cX0_indexOf 16 = .ok (.aload_n 0, 1) := by decide +kernel
theorem dX0_indexOf_17 : decode cX0_indexOf 17 = .ok (.iload 4, 2) := by decide +kernel
theorem dX0_indexOf_19 : decode cX0_indexOf 19 = .ok (.laload, 1) := by decide +kernel
theorem dX0_indexOf_20 : decode cX0_indexOf 20 = .ok (.lload_n 2, 1) := by decide +kernel
theorem dX0_indexOf_21 : decode cX0_indexOf 21 = .ok (.lcmp, 1) := by decide +kernel
theorem dX0_indexOf_22 : decode cX0_indexOf 22 = .ok (.ifCond .ne 6, 3) := by decide +kernel
theorem dX0_indexOf_25 : decode cX0_indexOf 25 = .ok (.iload 4, 2) := by decide +kernel
theorem dX0_indexOf_27 : decode cX0_indexOf 27 = .ok (.ireturn, 1) := by decide +kernel
theorem dX0_indexOf_28 : decode cX0_indexOf 28 = .ok (.iinc 4 1, 3) := by decide +kernel
theorem dX0_indexOf_31 : decode cX0_indexOf 31 = .ok (.goto (-28), 3) := by decide +kernel
theorem dX0_indexOf_34 : decode cX0_indexOf 34 = .ok (.iconst (-1), 1) := by decide +kernel
theorem dX0_indexOf_35 : decode cX0_indexOf 35 = .ok (.ireturn, 1) := by decide +kernel
theorem dX0_addMermaid_0 : decode cX0_addMermaid 0 = .ok (.aload_n 0, 1) := by decide +kernel
theorem dX0_addMermaid_1 : decode cX0_addMermaid 1 = .ok (.getfield 46, 3) := by decide +kernel
theorem dX0_addMermaid_4 : decode cX0_addMermaid 4 = .ok (.iconst 4, 1) := by decide +kernel
theorem dX0_addMermaid_5 : decode cX0_addMermaid 5 = .ok (.if_icmp .ge 88, 3) := by decide +kernel
theorem dX0_addMermaid_8 : decode cX0_addMermaid 8 = .ok (.aload_n 0, 1) := by decide +kernel
theorem dX0_addMermaid_9 : decode cX0_addMermaid 9 = .ok (.getfield 9, 3) := by decide +kernel
theorem dX0_addMermaid_12 : decode cX0_addMermaid 12 = .ok (.aload_n 0, 1) := by decide +kernel
theorem dX0_addMermaid_13 : decode cX0_addMermaid 13 = .ok (.getfield 46, 3) := by decide +kernel
theorem dX0_addMermaid_16 : decode cX0_addMermaid 16 = .ok (.lload_n 1, 1) := by decide +kernel
theorem dX0_addMermaid_17 : decode cX0_addMermaid 17 = .ok (.lastore, 1) := by decide +kernel
theorem dX0_addMermaid_18 : decode cX0_addMermaid 18 = .ok (.aload_n 0, 1) := by decide +kernel
theorem dX0_addMermaid_19 : decode cX0_addMermaid 19 = .ok (.getfield 38, 3) := by decide +kernel
theorem dX0_addMermaid_22 : decode cX0_addMermaid 22 = .ok (.getfield 66, 3) := by decide +kernel
theorem dX0_addMermaid_25 : decode cX0_addMermaid 25 = .ok (.iconst 0, 1) := by decide +kernel
theorem dX0_addMermaid_26 : decode cX0_addMermaid 26 = .ok (.aload_n 0, 1) := by decide +kernel
theorem dX0_addMermaid_27 : decode cX0_addMermaid 27 = .ok (.getfield 46, 3) := by decide +kernel
theorem dX0_addMermaid_30 : decode cX0_addMermaid 30 = .ok (.iadd, 1) := by decide +kernel
theorem dX0_addMermaid_31 : decode cX0_addMermaid 31 = .ok (.iload_n 3, 1) := by decide +kernel
theorem dX0_addMermaid_32 : decode cX0_addMermaid 32 = .ok (.iastore, 1) := by decide +kernel
theorem dX0_addMermaid_33 : decode cX0_addMermaid 33 = .ok (.aload_n 0, 1) := by decide +kernel
theorem dX0_addMermaid_34 : decode cX0_addMermaid 34 = .ok (.getfield 38, 3) := by decide +kernel
theorem dX0_addMermaid_37 : decode cX0_addMermaid 37 = .ok (.getfield 66, 3) := by decide +kernel
theorem dX0_addMermaid_40 : decode cX0_addMermaid 40 = .ok (.iconst 4, 1) := by decide +kernel
theorem dX0_addMermaid_41 : decode cX0_addMermaid 41 = .ok (.aload_n 0, 1) := by decide +kernel
theorem dX0_addMermaid_42 : decode cX0_addMermaid 42 = .ok (.getfield 46, 3) := by decide +kernel
theorem dX0_addMermaid_45 : decode cX0_addMermaid 45 = .ok (.iadd, 1) := by decide +kernel
theorem dX0_addMermaid_46 : decode cX0_addMermaid 46 = .ok (.iload 4, 2) := by decide +kernel
theorem dX0_addMermaid_48 : decode cX0_addMermaid 48 = .ok (.iastore, 1) := by decide +kernel
theorem dX0_addMermaid_49 : decode cX0_addMermaid 49 = .ok (.aload_n 0, 1) := by decide +kernel
theorem dX0_addMermaid_50 : decode cX0_addMermaid 50 = .ok (.getfield 38, 3) := by decide +kernel
theorem dX0_addMermaid_53 : decode cX0_addMermaid 53 = .ok (.getfield 66, 3) := by decide +kernel
theorem dX0_addMermaid_56 : decode cX0_addMermaid 56 = .ok (.bipush 8, 2) := by decide +kernel
theorem dX0_addMermaid_58 : decode cX0_addMermaid 58 = .ok (.aload_n 0, 1) := by decide +kernel
theorem dX0_addMermaid_59 : decode cX0_addMermaid 59 = .ok (.getfield 46, 3) := by decide +kernel
theorem dX0_addMermaid_62 : decode cX0_addMermaid 62 = .ok (.iadd, 1) := by decide +kernel
theorem dX0_addMermaid_63 : decode cX0_addMermaid 63 = .ok (.iload 5, 2) := by decide +kernel
theorem dX0_addMermaid_65 : decode cX0_addMermaid 65 = .ok (.iastore, 1) := by decide +kernel
theorem dX0_addMermaid_66 : decode cX0_addMermaid 66 = .ok (.aload_n 0, 1) := by decide +kernel
theorem dX0_addMermaid_67 : decode cX0_addMermaid 67 = .ok (.getfield 38, 3) := by decide +kernel
theorem dX0_addMermaid_70 : decode cX0_addMermaid 70 = .ok (.getfield 66, 3) := by decide +kernel
theorem dX0_addMermaid_73 : decode cX0_addMermaid 73 = .ok (.bipush 12, 2) := by decide +kernel
theorem dX0_addMermaid_75 : decode cX0_addMermaid 75 = .ok (.aload_n 0, 1) := by decide +kernel
theorem dX0_addMermaid_76 : decode cX0_addMermaid 76 = .ok (.getfield 46, 3) := by decide +kernel
theorem dX0_addMermaid_79 : decode cX0_addMermaid 79 = .ok (.iadd, 1) := by decide +kernel
theorem dX0_addMermaid_80 : decode cX0_addMermaid 80 = .ok (.iload 6, 2) := by decide +kernel
theorem dX0_addMermaid_82 : decode cX0_addMermaid 82 = .ok (.iastore, 1) := by decide +kernel
theorem dX0_addMermaid_83 : decode cX0_addMermaid 83 = .ok (.aload_n 0, 1) := by decide +kernel
theorem dX0_addMermaid_84 : decode cX0_addMermaid 84 = .ok (.dup, 1) := by decide +kernel
theorem dX0_addMermaid_85 : decode cX0_addMermaid 85 = .ok (.getfield 46, 3) := by decide +kernel
theorem dX0_addMermaid_88 : decode cX0_addMermaid 88 = .ok (.iconst 1, 1) := by decide +kernel
theorem dX0_addMermaid_89 : decode cX0_addMermaid 89 = .ok (.iadd, 1) := by decide +kernel
theorem dX0_addMermaid_90 : decode cX0_addMermaid 90 = .ok (.putfield 46, 3) := by decide +kernel
theorem dX0_addMermaid_93 : decode cX0_addMermaid 93 = .ok (.return_, 1) := by decide +kernel
theorem dX0_addPerson_0 : decode cX0_addPerson 0 = .ok (.aload_n 0, 1) := by decide +kernel
theorem dX0_addPerson_1 : decode cX0_addPerson 1 = .ok (.getfield 49, 3) := by decide +kernel
theorem dX0_addPerson_4 : decode cX0_addPerson 4 = .ok (.bipush 6, 2) := by decide +kernel
theorem dX0_addPerson_6 : decode cX0_addPerson 6 = .ok (.if_icmp .ge 67, 3) := by decide +kernel
theorem dX0_addPerson_9 : decode cX0_addPerson 9 = .ok (.aload_n 0, 1) := by decide +kernel
theorem dX0_addPerson_10 : decode cX0_addPerson 10 = .ok (.getfield 15, 3) := by decide +kernel
theorem dX0_addPerson_13 : decode cX0_addPerson 13 = .ok (.aload_n 0, 1) := by decide +kernel
theorem dX0_addPerson_14 : decode cX0_addPerson 14 = .ok (.getfield 49, 3) := by decide +kernel
theorem dX0_addPerson_17 : decode cX0_addPerson 17 = .ok (.lload_n 1, 1) := by decide +kernel
theorem dX0_addPerson_18 : decode cX0_addPerson 18 = .ok (.lastore, 1) := by decide +kernel
theorem dX0_addPerson_19 : decode cX0_addPerson 19 = .ok (.aload_n 0, 1) := by decide +kernel
theorem dX0_addPerson_20 : decode cX0_addPerson 20 = .ok (.getfield 38, 3) := by decide +kernel
theorem dX0_addPerson_23 : decode cX0_addPerson 23 = .ok (.getfield 66, 3) := by decide +kernel
theorem dX0_addPerson_26 : decode cX0_addPerson 26 = .ok (.bipush 16, 2) := by decide +kernel
theorem dX0_addPerson_28 : decode cX0_addPerson 28 = .ok (.aload_n 0, 1) := by decide +kernel
theorem dX0_addPerson_29 : decode cX0_addPerson 29 = .ok (.getfield 49, 3) := by decide +kernel
theorem dX0_addPerson_32 : decode cX0_addPerson 32 = .ok (.iadd, 1) := by decide +kernel
theorem dX0_addPerson_33 : decode cX0_addPerson 33 = .ok (.iload_n 3, 1) := by decide +kernel
theorem dX0_addPerson_34 : decode cX0_addPerson 34 = .ok (.iastore, 1) := by decide +kernel
theorem dX0_addPerson_35 : decode cX0_addPerson 35 = .ok (.aload_n 0, 1) := by decide +kernel
theorem dX0_addPerson_36 : decode cX0_addPerson 36 = .ok (.getfield 38, 3) := by decide +kernel
theorem dX0_addPerson_39 : decode cX0_addPerson 39 = .ok (.getfield 66, 3) := by decide +kernel
theorem dX0_addPerson_42 : decode cX0_addPerson 42 = .ok (.bipush 22, 2) := by decide +kernel
theorem dX0_addPerson_44 : decode cX0_addPerson 44 = .ok (.aload_n 0, 1) := by decide +kernel
theorem dX0_addPerson_45 : decode cX0_addPerson 45 = .ok (.getfield 49, 3) := by decide +kernel
theorem dX0_addPerson_48 : decode cX0_addPerson 48 = .ok (.iadd, 1) := by decide +kernel
theorem dX0_addPerson_49 : decode cX0_addPerson 49 = .ok (.iload 4, 2) := by decide +kernel
theorem dX0_addPerson_51 : decode cX0_addPerson 51 = .ok (.iastore, 1) := by decide +kernel
theorem dX0_addPerson_52 : decode cX0_addPerson 52 = .ok (.aload_n 0, 1) := by decide +kernel
theorem dX0_addPerson_53 : decode cX0_addPerson 53 = .ok (.getfield 18, 3) := by decide +kernel
theorem dX0_addPerson_56 : decode cX0_addPerson 56 = .ok (.aload_n 0, 1) := by decide +kernel
theorem dX0_addPerson_57 : decode cX0_addPerson 57 = .ok (.getfield 49, 3) := by decide +kernel
theorem dX0_addPerson_60 : decode cX0_addPerson 60 = .ok (.iload 5, 2) := by decide +kernel
theorem dX0_addPerson_62 : decode cX0_addPerson 62 = .ok (.iastore, 1) := by decide +kernel
theorem dX0_addPerson_63 : decode cX0_addPerson 63 = .ok (.aload_n 0, 1) := by decide +kernel
theorem dX0_addPerson_64 : decode cX0_addPerson 64 = .ok (.dup, 1) := by decide +kernel
theorem dX0_addPerson_65 : decode cX0_addPerson 65 = .ok (.getfield 49, 3) := by decide +kernel
theorem dX0_addPerson_68 : decode cX0_addPerson 68 = .ok (.iconst 1, 1) := by decide +kernel
theorem dX0_addPerson_69 : decode cX0_addPerson 69 = .ok (.iadd, 1) := by decide +kernel
theorem dX0_addPerson_70 : decode cX0_addPerson 70 = .ok (.putfield 49, 3) := by decide +kernel
theorem dX0_addPerson_73 : decode cX0_addPerson 73 = .ok (.return_, 1) := by decide +kernel
theorem dX0_addStrand_0 : decode cX0_addStrand 0 = .ok (.aload_n 0, 1) := by decide +kernel
theorem dX0_addStrand_1 : decode cX0_addStrand 1 = .ok (.getfield 52, 3) := by decide +kernel
theorem dX0_addStrand_4 : decode cX0_addStrand 4 = .ok (.bipush 8, 2) := by decide +kernel
theorem dX0_addStrand_6 : decode cX0_addStrand 6 = .ok (.if_icmp .ge 49, 3) := by decide +kernel
theorem dX0_addStrand_9 : decode cX0_addStrand 9 = .ok (.aload_n 0, 1) := by decide +kernel
theorem dX0_addStrand_10 : decode cX0_addStrand 10 = .ok (.getfield 22, 3) := by decide +kernel
theorem dX0_addStrand_13 : decode cX0_addStrand 13 = .ok (.aload_n 0, 1) := by decide +kernel
theorem dX0_addStrand_14 : decode cX0_addStrand 14 = .ok (.getfield 52, 3) := by decide +kernel
theorem dX0_addStrand_17 : decode cX0_addStrand 17 = .ok (.iload_n 1, 1) := by decide +kernel
theorem dX0_addStrand_18 : decode cX0_addStrand 18 = .ok (.iastore, 1) := by decide +kernel
theorem dX0_addStrand_19 : decode cX0_addStrand 19 = .ok (.aload_n 0, 1) := by decide +kernel
theorem dX0_addStrand_20 : decode cX0_addStrand 20 = .ok (.getfield 38, 3) := by decide +kernel
theorem dX0_addStrand_23 : decode cX0_addStrand 23 = .ok (.getfield 66, 3) := by decide +kernel
theorem dX0_addStrand_26 : decode cX0_addStrand 26 = .ok (.bipush 28, 2) := by decide +kernel
theorem dX0_addStrand_28 : decode cX0_addStrand 28 = .ok (.aload_n 0, 1) := by decide +kernel
theorem dX0_addStrand_29 : decode cX0_addStrand 29 = .ok (.getfield 52, 3) := by decide +kernel
theorem dX0_addStrand_32 : decode cX0_addStrand 32 = .ok (.iadd, 1) := by decide +kernel
theorem dX0_addStrand_33 : decode cX0_addStrand 33 = .ok (.iload_n 2, 1) := by decide +kernel
theorem dX0_addStrand_34 : decode cX0_addStrand 34 = .ok (.iastore, 1) := by decide +kernel
theorem dX0_addStrand_35 : decode cX0_addStrand 35 = .ok (.aload_n 0, 1) := by decide +kernel
theorem dX0_addStrand_36 : decode cX0_addStrand 36 = .ok (.getfield 25, 3) := by decide +kernel
theorem dX0_addStrand_39 : decode cX0_addStrand 39 = .ok (.aload_n 0, 1) := by decide +kernel
theorem dX0_addStrand_40 : decode cX0_addStrand 40 = .ok (.getfield 52, 3) := by decide +kernel
theorem dX0_addStrand_43 : decode cX0_addStrand 43 = .ok (.iload_n 3, 1) := by decide +kernel
theorem dX0_addStrand_44 : decode cX0_addStrand 44 = .ok (.iastore, 1) := by decide +kernel
theorem dX0_addStrand_45 : decode cX0_addStrand 45 = .ok (.aload_n 0, 1) := by decide +kernel
theorem dX0_addStrand_46 : decode cX0_addStrand 46 = .ok (.dup, 1) := by decide +kernel
theorem dX0_addStrand_47 : decode cX0_addStrand 47 = .ok (.getfield 52, 3) := by decide +kernel
theorem dX0_addStrand_50 : decode cX0_addStrand 50 = .ok (.iconst 1, 1) := by decide +kernel
theorem dX0_addStrand_51 : decode cX0_addStrand 51 = .ok (.iadd, 1) := by decide +kernel
theorem dX0_addStrand_52 : decode cX0_addStrand 52 = .ok (.putfield 52, 3) := by decide +kernel
theorem dX0_addStrand_55 : decode cX0_addStrand 55 = .ok (.return_, 1) := by decide +kernel
theorem dX1_init_0 : decode cX1_init 0 = .ok (.aload_n 0, 1) := by decide +kernel
theorem dX1_init_1 : decode cX1_init 1 = .ok (.invokespecial 3, 3) := by decide +kernel
theorem dX1_init_4 : decode cX1_init 4 = .ok (.aload_n 0, 1) := by decide +kernel
theorem dX1_init_5 : decode cX1_init 5 = .ok (.bipush 40, 2) := by decide +kernel
theorem dX1_init_7 : decode cX1_init 7 = .ok (.anewarray 9, 3) := by decide +kernel
theorem dX1_init_10 : decode cX1_init 10 = .ok (.putfield 11, 3) := by decide +kernel
theorem dX1_init_13 : decode cX1_init 13 = .ok (.iconst 0, 1) := by decide +kernel
theorem dX1_init_14 : decode cX1_init 14 = .ok (.istore_n 1, 1) := by decide +kernel
theorem dX1_init_15 : decode cX1_init 15 = .ok (.iload_n 1, 1) := by decide +kernel
theorem dX1_init_16 : decode cX1_init 16 = .ok (.bipush 40, 2) := by decide +kernel
theorem dX1_init_18 : decode cX1_init 18 = .ok (.if_icmp .ge 22, 3) := by decide +kernel
theorem dX1_init_21 : decode cX1_init 21 = .ok (.aload_n 0, 1) := by decide +kernel
theorem dX1_init_22 : decode cX1_init 22 = .ok (.getfield 11, 3) := by decide +kernel
theorem dX1_init_25 : decode cX1_init 25 = .ok (.iload_n 1, 1) := by decide +kernel
theorem dX1_init_26 : decode cX1_init 26 = .ok (.new 9, 3) := by decide +kernel
theorem dX1_init_29 : decode cX1_init 29 = .ok (.dup, 1) := by decide +kernel
theorem dX1_init_30 : decode cX1_init 30 = .ok (.invokespecial 17, 3) := by decide +kernel
theorem dX1_init_33 : decode cX1_init 33 = .ok (.aastore, 1) := by decide +kernel
theorem dX1_init_34 : decode cX1_init 34 = .ok (.iinc 1 1, 3) := by decide +kernel
theorem dX1_init_37 : decode cX1_init 37 = .ok (.goto (-22), 3) := by decide +kernel
theorem dX1_init_40 : decode cX1_init 40 = .ok (.return_, 1) := by decide +kernel
theorem dX1_clearAll_0 : decode cX1_clearAll 0 = .ok (.aload_n 0, 1) := by decide +kernel
theorem dX1_clearAll_1 : decode cX1_clearAll 1 = .ok (.iconst 0, 1) := by decide +kernel
theorem dX1_clearAll_2 : decode cX1_clearAll 2 = .ok (.putfield 18, 3) := by decide +kernel
theorem dX1_clearAll_5 : decode cX1_clearAll 5 = .ok (.return_, 1) := by decide +kernel
theorem dX1_keep_0 : decode cX1_keep 0 = .ok (.aload_n 0, 1) := by decide +kernel
theorem dX1_keep_1 : decode cX1_keep 1 = .ok (.getfield 11, 3) := by decide +kernel
theorem dX1_keep_4 : decode cX1_keep 4 = .ok (.aload_n 0, 1) := by decide +kernel
theorem dX1_keep_5 : decode cX1_keep 5 = .ok (.getfield 22, 3) := by decide +kernel
theorem dX1_keep_8 : decode cX1_keep 8 = .ok (.aaload, 1) := by decide +kernel
theorem dX1_keep_9 : decode cX1_keep 9 = .ok (.aload_n 1, 1) := by decide +kernel
theorem dX1_keep_10 : decode cX1_keep 10 = .ok (.invokevirtual 25, 3) := by decide +kernel
theorem dX1_keep_13 : decode cX1_keep 13 = .ok (.aload_n 0, 1) := by decide +kernel
theorem dX1_keep_14 : decode cX1_keep 14 = .ok (.aload_n 0, 1) := by decide +kernel
theorem dX1_keep_15 : decode cX1_keep 15 = .ok (.getfield 22, 3) := by decide +kernel
theorem dX1_keep_18 : decode cX1_keep 18 = .ok (.iconst 1, 1) := by decide +kernel
theorem dX1_keep_19 : decode cX1_keep 19 = .ok (.iadd, 1) := by decide +kernel
theorem dX1_keep_20 : decode cX1_keep 20 = .ok (.bipush 40, 2) := by decide +kernel
theorem dX1_keep_22 : decode cX1_keep 22 = .ok (.irem, 1) := by decide +kernel
theorem dX1_keep_23 : decode cX1_keep 23 = .ok (.putfield 22, 3) := by decide +kernel
theorem dX1_keep_26 : decode cX1_keep 26 = .ok (.aload_n 0, 1) := by decide +kernel
theorem dX1_keep_27 : decode cX1_keep 27 = .ok (.aload_n 0, 1) := by decide +kernel
theorem dX1_keep_28 : decode cX1_keep 28 = .ok (.getfield 18, 3) := by decide +kernel
theorem dX1_keep_31 : decode cX1_keep 31 = .ok (.iconst 1, 1) := by decide +kernel
theorem dX1_keep_32 : decode cX1_keep 32 = .ok (.iadd, 1) := by decide +kernel
theorem dX1_keep_33 : decode cX1_keep 33 = .ok (.bipush 40, 2) := by decide +kernel
theorem dX1_keep_35 : decode cX1_keep 35 = .ok (.invokestatic 29, 3) := by decide +kernel
theorem dX1_keep_38 : decode cX1_keep 38 = .ok (.putfield 18, 3) := by decide +kernel
theorem dX1_keep_41 : decode cX1_keep 41 = .ok (.return_, 1) := by decide +kernel
theorem dX1_takeBackInto_0 : decode cX1_takeBackInto 0 = .ok (.aload_n 0, 1) := by decide +kernel
theorem dX1_takeBackInto_1 : decode cX1_takeBackInto 1 = .ok (.getfield 18, 3) := by decide +kernel
theorem dX1_takeBackInto_4 : decode cX1_takeBackInto 4 = .ok (.ifCond .ne 5, 3) := by decide +kernel
theorem dX1_takeBackInto_7 : decode cX1_takeBackInto 7 = .ok (.iconst 0, 1) := by decide +kernel
theorem dX1_takeBackInto_8 : decode cX1_takeBackInto 8 = .ok (.ireturn, 1) := by decide +kernel
theorem dX1_takeBackInto_9 : decode cX1_takeBackInto 9 = .ok (.aload_n 0, 1) := by decide +kernel
theorem dX1_takeBackInto_10 : decode cX1_takeBackInto 10 = .ok (.dup, 1) := by decide +kernel
theorem dX1_takeBackInto_11 : decode cX1_takeBackInto 11 = .ok (.getfield 18, 3) := by decide +kernel
theorem dX1_takeBackInto_14 : decode cX1_takeBackInto 14 = .ok (.iconst 1, 1) := by decide +kernel
theorem dX1_takeBackInto_15 : decode cX1_takeBackInto 15 = .ok (.isub, 1) := by decide +kernel
theorem dX1_takeBackInto_16 : decode cX1_takeBackInto 16 = .ok (.putfield 18, 3) := by decide +kernel
theorem dX1_takeBackInto_19 : decode cX1_takeBackInto 19 = .ok (.aload_n 0, 1) := by decide +kernel
theorem dX1_takeBackInto_20 : decode cX1_takeBackInto 20 = .ok (.aload_n 0, 1) := by decide +kernel
theorem dX1_takeBackInto_21 : decode cX1_takeBackInto 21 = .ok (.getfield 22, 3) := by decide +kernel
theorem dX1_takeBackInto_24 : decode cX1_takeBackInto 24 = .ok (.bipush 40, 2) := by decide +kernel
theorem dX1_takeBackInto_26 : decode cX1_takeBackInto 26 = .ok (.iadd, 1) := by decide +kernel
theorem dX1_takeBackInto_27 : decode cX1_takeBackInto 27 = .ok (.iconst 1, 1) := by decide +kernel
theorem dX1_takeBackInto_28 : decode cX1_takeBackInto 28 = .ok (.isub, 1) := by decide +kernel
theorem dX1_takeBackInto_29 : decode cX1_takeBackInto 29 = .ok (.bipush 40, 2) := by decide +kernel
theorem dX1_takeBackInto_31 : decode cX1_takeBackInto 31 = .ok (.irem, 1) := by decide +kernel
theorem dX1_takeBackInto_32 : decode cX1_takeBackInto 32 = .ok (.putfield 22, 3) := by decide +kernel
theorem dX1_takeBackInto_35 : decode cX1_takeBackInto 35 = .ok (.aload_n 1, 1) := by decide +kernel
theorem dX1_takeBackInto_36 : decode cX1_takeBackInto 36 = .ok (.aload_n 0, 1) := by decide +kernel
theorem dX1_takeBackInto_37 : decode cX1_takeBackInto 37 = .ok (.getfield 11, 3) := by decide +kernel
theorem dX1_takeBackInto_40 : decode cX1_takeBackInto 40 = .ok (.aload_n 0, 1) := by decide +kernel
theorem dX1_takeBackInto_41 : decode cX1_takeBackInto 41 = .ok (.getfield 22, 3) := by decide +kernel
theorem dX1_takeBackInto_44 : decode cX1_takeBackInto 44 = .ok (.aaload, 1) := by decide +kernel
theorem dX1_takeBackInto_45 : decode cX1_takeBackInto 45 = .ok (.invokevirtual 25, 3) := by decide +kernel
theorem dX1_takeBackInto_48 : decode cX1_takeBackInto 48 = .ok (.iconst 1, 1) := by decide +kernel
theorem dX1_takeBackInto_49 : decode cX1_takeBackInto 49 = .ok (.ireturn, 1) := by decide +kernel
theorem dX2_init_0 : decode cX2_init 0 = .ok (.aload_n 0, 1) := by decide +kernel
theorem dX2_init_1 : decode cX2_init 1 = .ok (.invokespecial 3, 3) := by decide +kernel
theorem dX2_init_4 : decode cX2_init 4 = .ok (.aload_n 0, 1) := by decide +kernel
theorem dX2_init_5 : decode cX2_init 5 = .ok (.bipush 9, 2) := by decide +kernel
theorem dX2_init_7 : decode cX2_init 7 = .ok (.newarray .int, 2) := by decide +kernel
theorem dX2_init_9 : decode cX2_init 9 = .ok (.putfield 9, 3) := by decide +kernel
theorem dX2_init_12 : decode cX2_init 12 = .ok (.aload_n 0, 1) := by decide +kernel
theorem dX2_init_13 : decode cX2_init 13 = .ok (.sipush 404, 3) := by decide +kernel
theorem dX2_init_16 : decode cX2_init 16 = .ok (.newarray .int, 2) := by decide +kernel
theorem dX2_init_18 : decode cX2_init 18 = .ok (.putfield 15, 3) := by decide +kernel
theorem dX2_init_21 : decode cX2_init 21 = .ok (.aload_n 0, 1) := by decide +kernel
theorem dX2_init_22 : decode cX2_init 22 = .ok (.bipush 56, 2) := by decide +kernel
theorem dX2_init_24 : decode cX2_init 24 = .ok (.newarray .int, 2) := by decide +kernel
theorem dX2_init_26 : decode cX2_init 26 = .ok (.putfield 18, 3) := by decide +kernel
theorem dX2_init_29 : decode cX2_init 29 = .ok (.aload_n 0, 1) := by decide +kernel
theorem dX2_init_30 : decode cX2_init 30 = .ok (.iconst 4, 1) := by decide +kernel
theorem dX2_init_31 : decode cX2_init 31 = .ok (.newarray .int, 2) := by decide +kernel
theorem dX2_init_33 : decode cX2_init 33 = .ok (.putfield 21, 3) := by decide +kernel
theorem dX2_init_36 : decode cX2_init 36 = .ok (.aload_n 0, 1) := by decide +kernel
theorem dX2_init_37 : decode cX2_init 37 = .ok (.bipush 15, 2) := by decide +kernel
theorem dX2_init_39 : decode cX2_init 39 = .ok (.newarray .int, 2) := by decide +kernel
theorem dX2_init_41 : decode cX2_init 41 = .ok (.putfield 24, 3) := by decide +kernel
theorem dX2_init_44 : decode cX2_init 44 = .ok (.aload_n 0, 1) := by decide +kernel
theorem dX2_init_45 : decode cX2_init 45 = .ok (.invokevirtual 27, 3) := by decide +kernel
theorem dX2_init_48 : decode cX2_init 48 = .ok (.return_, 1) := by decide +kernel
theorem dX2_clearAll_0 : decode cX2_clearAll 0 = .ok (.aload_n 0, 1) := by decide +kernel
theorem dX2_clearAll_1 : decode cX2_clearAll 1 = .ok (.iconst 0, 1) := by decide +kernel
theorem dX2_clearAll_2 : decode cX2_clearAll 2 = .ok (.putfield 30, 3) := by decide +kernel
theorem dX2_clearAll_5 : decode cX2_clearAll 5 = .ok (.aload_n 0, 1) := by decide +kernel
theorem dX2_clearAll_6 : decode cX2_clearAll 6 = .ok (.iconst 0, 1) := by decide +kernel
theorem dX2_clearAll_7 : decode cX2_clearAll 7 = .ok (.sipush 10000, 3) := by decide +kernel
theorem dX2_clearAll_10 : decode cX2_clearAll 10 = .ok (.invokevirtual 34, 3) := by decide +kernel
theorem dX2_clearAll_13 : decode cX2_clearAll 13 = .ok (.aload_n 0, 1) := by decide +kernel
theorem dX2_clearAll_14 : decode cX2_clearAll 14 = .ok (.iconst 1, 1) := by decide +kernel
theorem dX2_clearAll_15 : decode cX2_clearAll 15 = .ok (.sipush 10004, 3) := by decide +kernel
theorem dX2_clearAll_18 : decode cX2_clearAll 18 = .ok (.invokevirtual 34, 3) := by decide +kernel
theorem dX2_clearAll_21 : decode cX2_clearAll 21 = .ok (.aload_n 0, 1) := by decide +kernel
theorem dX2_clearAll_22 : decode cX2_clearAll 22 = .ok (.iconst 2, 1) := by decide +kernel
theorem dX2_clearAll_23 : decode cX2_clearAll 23 = .ok (.sipush 10000, 3) := by decide +kernel
theorem dX2_clearAll_26 : decode cX2_clearAll 26 = .ok (.invokevirtual 34, 3) := by decide +kernel
theorem dX2_clearAll_29 : decode cX2_clearAll 29 = .ok (.aload_n 0, 1) := by decide +kernel
theorem dX2_clearAll_30 : decode cX2_clearAll 30 = .ok (.iconst 3, 1) := by decide +kernel
theorem dX2_clearAll_31 : decode cX2_clearAll 31 = .ok (.iconst 0, 1) := by decide +kernel
theorem dX2_clearAll_32 : decode cX2_clearAll 32 = .ok (.invokevirtual 34, 3) := by decide +kernel
theorem dX2_clearAll_35 : decode cX2_clearAll 35 = .ok (.return_, 1) := by decide +kernel
theorem dX2_putUntold_0 : decode cX2_putUntold 0 = .ok (.aload_n 0, 1) := by decide +kernel
theorem dX2_putUntold_1 : decode cX2_putUntold 1 = .ok (.iload_n 1, 1) := by decide +kernel
theorem dX2_putUntold_2 : decode cX2_putUntold 2 = .ok (.invokevirtual 38, 3) := by decide +kernel
theorem dX2_putUntold_5 : decode cX2_putUntold 5 = .ok (.aload_n 0, 1) := by decide +kernel
theorem dX2_putUntold_6 : decode cX2_putUntold 6 = .ok (.iload_n 2, 1) := by decide +kernel
theorem dX2_putUntold_7 : decode cX2_putUntold 7 = .ok (.invokevirtual 42, 3) := by decide +kernel
theorem dX2_putUntold_10 : decode cX2_putUntold 10 = .ok (.aload_n 0, 1) := by decide +kernel
theorem dX2_putUntold_11 : decode cX2_putUntold 11 = .ok (.iload_n 1, 1) := by decide +kernel
theorem dX2_putUntold_12 : decode cX2_putUntold 12 = .ok (.invokevirtual 45, 3) := by decide +kernel
theorem dX2_putUntold_15 : decode cX2_putUntold 15 = .ok (.return_, 1) := by decide +kernel
theorem dX2_open_0 : decode cX2_open 0 = .ok (.aload_n 0, 1) := by decide +kernel
theorem dX2_open_1 : decode cX2_open 1 = .ok (.getfield 21, 3) := by decide +kernel
theorem dX2_open_4 : decode cX2_open 4 = .ok (.iload_n 1, 1) := by decide +kernel
theorem dX2_open_5 : decode cX2_open 5 = .ok (.iconst 0, 1) := by decide +kernel
theorem dX2_open_6 : decode cX2_open 6 = .ok (.iastore, 1) := by decide +kernel
theorem dX2_open_7 : decode cX2_open 7 = .ok (.aload_n 0, 1) := by decide +kernel
theorem dX2_open_8 : decode cX2_open 8 = .ok (.getfield 18, 3) := by decide +kernel
theorem dX2_open_11 : decode cX2_open 11 = .ok (.iload_n 1, 1) := by decide +kernel
theorem dX2_open_12 : decode cX2_open 12 = .ok (.bipush 14, 2) := by decide +kernel
theorem dX2_open_14 : decode cX2_open 14 = .ok (.imul, 1) := by decide +kernel
theorem dX2_open_15 : decode cX2_open 15 = .ok (.aload_n 0, 1) := by decide +kernel
theorem dX2_open_16 : decode cX2_open 16 = .ok (.getfield 30, 3) := by decide +kernel
theorem dX2_open_19 : decode cX2_open 19 = .ok (.iastore, 1) := by decide +kernel
theorem dX2_open_20 : decode cX2_open 20 = .ok (.return_, 1) := by decide +kernel
theorem dX2_put_0 : decode cX2_put 0 = .ok (.aload_n 0, 1) := by decide +kernel
theorem dX2_put_1 : decode cX2_put 1 = .ok (.getfield 30, 3) := by decide +kernel
theorem dX2_put_4 : decode cX2_put 4 = .ok (.aload_n 0, 1) := by decide +kernel
theorem dX2_put_5 : decode cX2_put 5 = .ok (.getfield 15, 3) := by decide +kernel
theorem dX2_put_8 : decode cX2_put 8 = .ok (.arraylength, 1) := by decide +kernel
theorem dX2_put_9 : decode cX2_put 9 = .ok (.if_icmp .ge 23, 3) := by decide +kernel
theorem dX2_put_12 : decode cX2_put 12 = .ok (.aload_n 0, 1) := by decide +kernel
theorem dX2_put_13 : decode cX2_put 13 = .ok (.getfield 15, 3) := by decide +kernel
theorem dX2_put_16 : decode cX2_put 16 = .ok (.aload_n 0, 1) := by decide +kernel
theorem dX2_put_17 : decode cX2_put 17 = .ok (.getfield 30, 3) := by decide +kernel
theorem dX2_put_20 : decode cX2_put 20 = .ok (.iload_n 1, 1) := by decide +kernel
theorem dX2_put_21 : decode cX2_put 21 = .ok (.iastore, 1) := by decide +kernel
theorem dX2_put_22 : decode cX2_put 22 = .ok (.aload_n 0, 1) := by decide +kernel
theorem dX2_put_23 : decode cX2_put 23 = .ok (.dup, 1) := by decide +kernel
theorem dX2_put_24 : decode cX2_put 24 = .ok (.getfield 30, 3) := by decide +kernel
theorem dX2_put_27 : decode cX2_put 27 = .ok (.iconst 1, 1) := by decide +kernel
theorem dX2_put_28 : decode cX2_put 28 = .ok (.iadd, 1) := by decide +kernel
theorem dX2_put_29 : decode cX2_put 29 = .ok (.putfield 30, 3) := by decide +kernel
theorem dX2_put_32 : decode cX2_put 32 = .ok (.return_, 1) := by decide +kernel
theorem dX2_endPiece_0 : decode cX2_endPiece 0 = .ok (.aload_n 0, 1) := by decide +kernel
theorem dX2_endPiece_1 : decode cX2_endPiece 1 = .ok (.getfield 21, 3) := by decide +kernel
theorem dX2_endPiece_4 : decode cX2_endPiece 4 = .ok (.iload_n 1, 1) := by decide +kernel
theorem dX2_endPiece_5 : decode cX2_endPiece 5 = .ok (.iaload, 1) := by decide +kernel
theorem dX2_endPiece_6 : decode cX2_endPiece 6 = .ok (.bipush 13, 2) := by decide +kernel
theorem dX2_endPiece_8 : decode cX2_endPiece 8 = .ok (.if_icmp .ge 33, 3) := by decide +kernel
theorem dX2_endPiece_11 : decode cX2_endPiece 11 = .ok (.aload_n 0, 1) := by decide +kernel
theorem dX2_endPiece_12 : decode cX2_endPiece 12 = .ok (.getfield 21, 3) := by decide +kernel
theorem dX2_endPiece_15 : decode cX2_endPiece 15 = .ok (.iload_n 1, 1) := by decide +kernel
theorem dX2_endPiece_16 : decode cX2_endPiece 16 = .ok (.dup2, 1) := by decide +kernel
theorem dX2_endPiece_17 : decode cX2_endPiece 17 = .ok (.iaload, 1) := by decide +kernel
theorem dX2_endPiece_18 : decode cX2_endPiece 18 = .ok (.iconst 1, 1) := by decide +kernel
theorem dX2_endPiece_19 : decode cX2_endPiece 19 = .ok (.iadd, 1) := by decide +kernel
theorem dX2_endPiece_20 : decode cX2_endPiece 20 = .ok (.iastore, 1) := by decide +kernel
theorem dX2_endPiece_21 : decode cX2_endPiece 21 = .ok (.aload_n 0, 1) := by decide +kernel
theorem dX2_endPiece_22 : decode cX2_endPiece 22 = .ok (.getfield 18, 3) := by decide +kernel
theorem dX2_endPiece_25 : decode cX2_endPiece 25 = .ok (.iload_n 1, 1) := by decide +kernel
theorem dX2_endPiece_26 : decode cX2_endPiece 26 = .ok (.bipush 14, 2) := by decide +kernel
theorem dX2_endPiece_28 : decode cX2_endPiece 28 = .ok (.imul, 1) := by decide +kernel
theorem dX2_endPiece_29 : decode cX2_endPiece 29 = .ok (.aload_n 0, 1) := by decide +kernel
theorem dX2_endPiece_30 : decode cX2_endPiece 30 = .ok (.getfield 21, 3) := by decide +kernel
theorem dX2_endPiece_33 : decode cX2_endPiece 33 = .ok (.iload_n 1, 1) := by decide +kernel
theorem dX2_endPiece_34 : decode cX2_endPiece 34 = .ok (.iaload, 1) := by decide +kernel
theorem dX2_endPiece_35 : decode cX2_endPiece 35 = .ok (.iadd, 1) := by decide +kernel
theorem dX2_endPiece_36 : decode cX2_endPiece 36 = .ok (.aload_n 0, 1) := by decide +kernel
theorem dX2_endPiece_37 : decode cX2_endPiece 37 = .ok (.getfield 30, 3) := by decide +kernel
theorem dX2_endPiece_40 : decode cX2_endPiece 40 = .ok (.iastore, 1) := by decide +kernel
theorem dX2_endPiece_41 : decode cX2_endPiece 41 = .ok (.return_, 1) := by decide +kernel
theorem dX2_held_0 : decode cX2_held 0 = .ok (.aload_n 0, 1) := by decide +kernel
theorem dX2_held_1 : decode cX2_held 1 = .ok (.iconst 0, 1) := by decide +kernel
theorem dX2_held_2 : decode cX2_held 2 = .ok (.putfield 48, 3) := by decide +kernel
theorem dX2_held_5 : decode cX2_held 5 = .ok (.aload_n 0, 1) := by decide +kernel
theorem dX2_held_6 : decode cX2_held 6 = .ok (.getfield 21, 3) := by decide +kernel
theorem dX2_held_9 : decode cX2_held 9 = .ok (.iload_n 1, 1) := by decide +kernel
theorem dX2_held_10 : decode cX2_held 10 = .ok (.iaload, 1) := by decide +kernel
theorem dX2_held_11 : decode cX2_held 11 = .ok (.iconst 1, 1) := by decide +kernel
theorem dX2_held_12 : decode cX2_held 12 = .ok (.isub, 1) := by decide +kernel
theorem dX2_held_13 : decode cX2_held 13 = .ok (.istore_n 3, 1) := by decide +kernel
theorem dX2_held_14 : decode cX2_held 14 = .ok (.iconst 0, 1) := by decide +kernel
theorem dX2_held_15 : decode cX2_held 15 = .ok (.istore 4, 2) := by decide +kernel
theorem dX2_held_17 : decode cX2_held 17 = .ok (.iload 4, 2) := by decide +kernel
theorem dX2_held_19 : decode cX2_held 19 = .ok (.iconst 2, 1) := by decide +kernel
theorem dX2_held_20 : decode cX2_held 20 = .ok (.iadd, 1) := by decide +kernel
theorem dX2_held_21 : decode cX2_held 21 = .ok (.aload_n 0, 1) := by decide +kernel
theorem dX2_held_22 : decode cX2_held 22 = .ok (.getfield 21, 3) := by decide +kernel
theorem dX2_held_25 : decode cX2_held 25 = .ok (.iload_n 1, 1) := by decide +kernel
theorem dX2_held_26 : decode cX2_held 26 = .ok (.iaload, 1) := by decide +kernel
theorem dX2_held_27 : decode cX2_held 27 = .ok (.if_icmp .ge 53, 3) := by decide +kernel
theorem dX2_held_30 : decode cX2_held 30 = .ok (.aload_n 0, 1) := by decide +kernel
theorem dX2_held_31 : decode cX2_held 31 = .ok (.iload_n 1, 1) := by decide +kernel
theorem dX2_held_32 : decode cX2_held 32 = .ok (.iload 4, 2) := by decide +kernel
theorem dX2_held_34 : decode cX2_held 34 = .ok (.invokevirtual 52, 3) := by decide +kernel
theorem dX2_held_37 : decode cX2_held 37 = .ok (.istore 5, 2) := by decide +kernel
theorem dX2_held_39 : decode cX2_held 39 = .ok (.aload_n 0, 1) := by decide +kernel
theorem dX2_held_40 : decode cX2_held 40 = .ok (.iload_n 1, 1) := by decide +kernel
theorem dX2_held_41 : decode cX2_held 41 = .ok (.iload 4, 2) := by decide +kernel
theorem dX2_held_43 : decode cX2_held 43 = .ok (.iconst 1, 1) := by decide +kernel
theorem dX2_held_44 : decode cX2_held 44 = .ok (.iadd, 1) := by decide +kernel
theorem dX2_held_45 : decode cX2_held 45 = .ok (.invokevirtual 52, 3) := by decide +kernel
theorem dX2_held_48 : decode cX2_held 48 = .ok (.istore 6, 2) := by decide +kernel
theorem dX2_held_50 : decode cX2_held 50 = .ok (.aload_n 0, 1) := by decide +kernel
theorem dX2_held_51 : decode cX2_held 51 = .ok (.getfield 48, 3) := by decide +kernel
theorem dX2_held_54 : decode cX2_held 54 = .ok (.ifCond .eq 5, 3) := by decide +kernel
theorem dX2_held_57 : decode cX2_held 57 = .ok (.iconst 0, 1) := by decide +kernel
theorem dX2_held_58 : decode cX2_held 58 = .ok (.ireturn, 1) := by decide +kernel
theorem dX2_held_59 : decode cX2_held 59 = .ok (.iload 5, 2) := by decide +kernel
theorem dX2_held_61 : decode cX2_held 61 = .ok (.iload 6, 2) := by decide +kernel
theorem dX2_held_63 : decode cX2_held 63 = .ok (.if_icmp .ge 11, 3) := by decide +kernel
theorem dX2_held_66 : decode cX2_held 66 = .ok (.iload 4, 2) := by decide +kernel
theorem dX2_held_68 : decode cX2_held 68 = .ok (.iconst 2, 1) := by decide +kernel
theorem dX2_held_69 : decode cX2_held 69 = .ok (.iadd, 1) := by decide +kernel
theorem dX2_held_70 : decode cX2_held 70 = .ok (.istore_n 3, 1) := by decide +kernel
theorem dX2_held_71 : decode cX2_held 71 = .ok (.goto 9, 3) := by decide +kernel
theorem dX2_held_74 : decode cX2_held 74 = .ok (.iinc 4 3, 3) := by decide +kernel
theorem dX2_held_77 : decode cX2_held 77 = .ok (.goto (-60), 3) := by decide +kernel
theorem dX2_held_80 : decode cX2_held 80 = .ok (.aload_n 0, 1) := by decide +kernel
theorem dX2_held_81 : decode cX2_held 81 = .ok (.iload_n 1, 1) := by decide +kernel
theorem dX2_held_82 : decode cX2_held 82 = .ok (.iload_n 3, 1) := by decide +kernel
theorem dX2_held_83 : decode cX2_held 83 = .ok (.invokevirtual 52, 3) := by decide +kernel
theorem dX2_held_86 : decode cX2_held 86 = .ok (.istore 4, 2) := by decide +kernel
theorem dX2_held_88 : decode cX2_held 88 = .ok (.aload_n 0, 1) := by decide +kernel
theorem dX2_held_89 : decode cX2_held 89 = .ok (.getfield 48, 3) := by decide +kernel
theorem dX2_held_92 : decode cX2_held 92 = .ok (.ifCond .eq 7, 3) := by decide +kernel
theorem dX2_held_95 : decode cX2_held 95 = .ok (.iconst 0, 1) := by decide +kernel
theorem dX2_held_96 : decode cX2_held 96 = .ok (.goto 9, 3) := by decide +kernel
theorem dX2_held_99 : decode cX2_held 99 = .ok (.iload_n 2, 1) := by decide +kernel
theorem dX2_held_100 : decode cX2_held 100 = .ok (.iload 4, 2) := by decide +kernel
theorem dX2_held_102 : decode cX2_held 102 = .ok (.invokestatic 56, 3) := by decide +kernel
theorem dX2_held_105 : decode cX2_held 105 = .ok (.ireturn, 1) := by decide +kernel
theorem dX2_valueOf_0 : decode cX2_valueOf 0 = .ok (.iload_n 2, 1) := by decide +kernel
theorem dX2_valueOf_1 : decode cX2_valueOf 1 = .ok (.ifCond .lt 9, 3) := by decide +kernel
theorem dX2_valueOf_4 : decode cX2_valueOf 4 = .ok (.iload_n 2, 1) := by decide +kernel
theorem dX2_valueOf_5 : decode cX2_valueOf 5 = .ok (.bipush 13, 2) := by decide +kernel
theorem dX2_valueOf_7 : decode cX2_valueOf 7 = .ok (.if_icmp .lt 5, 3) := by decide +kernel
theorem dX2_valueOf_10 : decode cX2_valueOf 10 = .ok (.iconst 0, 1) := by decide +kernel
theorem dX2_valueOf_11 : decode cX2_valueOf 11 = .ok (.ireturn, 1) := by decide +kernel
theorem dX2_valueOf_12 : decode cX2_valueOf 12 = .ok (.aload_n 0, 1) := by decide +kernel
theorem dX2_valueOf_13 : decode cX2_valueOf 13 = .ok (.getfield 18, 3) := by decide +kernel
theorem dX2_valueOf_16 : decode cX2_valueOf 16 = .ok (.iload_n 1, 1) := by decide +kernel
theorem dX2_valueOf_17 : decode cX2_valueOf 17 = .ok (.bipush 14, 2) := by decide +kernel
theorem dX2_valueOf_19 : decode cX2_valueOf 19 = .ok (.imul, 1) := by decide +kernel
theorem dX2_valueOf_20 : decode cX2_valueOf 20 = .ok (.iload_n 2, 1) := by decide +kernel
theorem dX2_valueOf_21 : decode cX2_valueOf 21 = .ok (.iadd, 1) := by decide +kernel
theorem dX2_valueOf_22 : decode cX2_valueOf 22 = .ok (.iconst 1, 1) := by decide +kernel
theorem dX2_valueOf_23 : decode cX2_valueOf 23 = .ok (.iadd, 1) := by decide +kernel
theorem dX2_valueOf_24 : decode cX2_valueOf 24 = .ok (.iaload, 1) := by decide +kernel
theorem dX2_valueOf_25 : decode cX2_valueOf 25 = .ok (.istore_n 3, 1) := by decide +kernel
theorem dX2_valueOf_26 : decode cX2_valueOf 26 = .ok (.iconst 0, 1) := by decide +kernel
theorem dX2_valueOf_27 : decode cX2_valueOf 27 = .ok (.istore 4, 2) := by decide +kernel
theorem dX2_valueOf_29 : decode cX2_valueOf 29 = .ok (.aload_n 0, 1) := by decide +kernel
theorem dX2_valueOf_30 : decode cX2_valueOf 30 = .ok (.getfield 18, 3) := by decide +kernel
theorem dX2_valueOf_33 : decode cX2_valueOf 33 = .ok (.iload_n 1, 1) := by decide +kernel
theorem dX2_valueOf_34 : decode cX2_valueOf 34 = .ok (.bipush 14, 2) := by decide +kernel
theorem dX2_valueOf_36 : decode cX2_valueOf 36 = .ok (.imul, 1) := by decide +kernel
theorem dX2_valueOf_37 : decode cX2_valueOf 37 = .ok (.iload_n 2, 1) := by decide +kernel
theorem dX2_valueOf_38 : decode cX2_valueOf 38 = .ok (.iadd, 1) := by decide +kernel
theorem dX2_valueOf_39 : decode cX2_valueOf 39 = .ok (.iaload, 1) := by decide +kernel
theorem dX2_valueOf_40 : decode cX2_valueOf 40 = .ok (.istore 5, 2) := by decide +kernel
theorem dX2_valueOf_42 : decode cX2_valueOf 42 = .ok (.iload 5, 2) := by decide +kernel
theorem dX2_valueOf_44 : decode cX2_valueOf 44 = .ok (.iload_n 3, 1) := by decide +kernel
theorem dX2_valueOf_45 : decode cX2_valueOf 45 = .ok (.if_icmp .ge 132, 3) := by decide +kernel
theorem dX2_valueOf_48 : decode cX2_valueOf 48 = .ok (.iload 5, 2) := by decide +kernel
theorem dX2_valueOf_50 : decode cX2_valueOf 50 = .ok (.aload_n 0, 1) := by decide +kernel
theorem dX2_valueOf_51 : decode cX2_valueOf 51 = .ok (.getfield 15, 3) := by decide +kernel
theorem dX2_valueOf_54 : decode cX2_valueOf 54 = .ok (.arraylength, 1) := by decide +kernel
theorem dX2_valueOf_55 : decode cX2_valueOf 55 = .ok (.if_icmp .ge 122, 3) := by decide +kernel
theorem dX2_valueOf_58 : decode cX2_valueOf 58 = .ok (.aload_n 0, 1) := by decide +kernel
theorem dX2_valueOf_59 : decode cX2_valueOf 59 = .ok (.getfield 15, 3) := by decide +kernel
theorem dX2_valueOf_62 : decode cX2_valueOf 62 = .ok (.iload 5, 2) := by decide +kernel
theorem dX2_valueOf_64 : decode cX2_valueOf 64 = .ok (.iaload, 1) := by decide +kernel
theorem dX2_valueOf_65 : decode cX2_valueOf 65 = .ok (.istore 6, 2) := by decide +kernel
theorem dX2_valueOf_67 : decode cX2_valueOf 67 = .ok (.iload 6, 2) := by decide +kernel
theorem dX2_valueOf_69 : decode cX2_valueOf 69 = .ok (.sipush 20000, 3) := by decide +kernel
theorem dX2_valueOf_72 : decode cX2_valueOf 72 = .ok (.if_icmp .lt 50, 3) := by decide +kernel
theorem dX2_valueOf_75 : decode cX2_valueOf 75 = .ok (.iload 4, 2) := by decide +kernel
theorem dX2_valueOf_77 : decode cX2_valueOf 77 = .ok (.iconst 2, 1) := by decide +kernel
theorem dX2_valueOf_78 : decode cX2_valueOf 78 = .ok (.if_icmp .lt 44, 3) := by decide +kernel
theorem dX2_valueOf_81 : decode cX2_valueOf 81 = .ok (.iinc 4 (-1), 3) := by decide +kernel
theorem dX2_valueOf_84 : decode cX2_valueOf 84 = .ok (.aload_n 0, 1) := by decide +kernel
theorem dX2_valueOf_85 : decode cX2_valueOf 85 = .ok (.getfield 24, 3) := by decide +kernel
theorem dX2_valueOf_88 : decode cX2_valueOf 88 = .ok (.iload 4, 2) := by decide +kernel
theorem dX2_valueOf_90 : decode cX2_valueOf 90 = .ok (.iconst 1, 1) := by decide +kernel
theorem dX2_valueOf_91 : decode cX2_valueOf 91 = .ok (.isub, 1) := by decide +kernel
theorem dX2_valueOf_92 : decode cX2_valueOf 92 = .ok (.aload_n 0, 1) := by decide +kernel
theorem dX2_valueOf_93 : decode cX2_valueOf 93 = .ok (.iload 6, 2) := by decide +kernel
theorem dX2_valueOf_95 : decode cX2_valueOf 95 = .ok (.sipush 20000, 3) := by decide +kernel
theorem dX2_valueOf_98 : decode cX2_valueOf 98 = .ok (.isub, 1) := by decide +kernel
theorem dX2_valueOf_99 : decode cX2_valueOf 99 = .ok (.aload_n 0, 1) := by decide +kernel
theorem dX2_valueOf_100 : decode cX2_valueOf 100 = .ok (.getfield 24, 3) := by decide +kernel
theorem dX2_valueOf_103 : decode cX2_valueOf 103 = .ok (.iload 4, 2) := by decide +kernel
theorem dX2_valueOf_105 : decode cX2_valueOf 105 = .ok (.iconst 1, 1) := by decide +kernel
theorem dX2_valueOf_106 : decode cX2_valueOf 106 = .ok (.isub, 1) := by decide +kernel
theorem dX2_valueOf_107 : decode cX2_valueOf 107 = .ok (.iaload, 1) := by decide +kernel
theorem dX2_valueOf_108 : decode cX2_valueOf 108 = .ok (.aload_n 0, 1) := by decide +kernel
theorem dX2_valueOf_109 : decode cX2_valueOf 109 = .ok (.getfield 24, 3) := by decide +kernel
theorem dX2_valueOf_112 : decode cX2_valueOf 112 = .ok (.iload 4, 2) := by decide +kernel
theorem dX2_valueOf_114 : decode cX2_valueOf 114 = .ok (.iaload, 1) := by decide +kernel
theorem dX2_valueOf_115 : decode cX2_valueOf 115 = .ok (.invokevirtual 59, 3) := by decide +kernel
theorem dX2_valueOf_118 : decode cX2_valueOf 118 = .ok (.iastore, 1) := by decide +kernel
theorem dX2_valueOf_119 : decode cX2_valueOf 119 = .ok (.goto 52, 3) := by decide +kernel
theorem dX2_valueOf_122 : decode cX2_valueOf 122 = .ok (.iload 6, 2) := by decide +kernel
theorem dX2_valueOf_124 : decode cX2_valueOf 124 = .ok (.sipush 20000, 3) := by decide +kernel
theorem dX2_valueOf_127 : decode cX2_valueOf 127 = .ok (.if_icmp .ge 44, 3) := by decide +kernel
theorem dX2_valueOf_130 : decode cX2_valueOf 130 = .ok (.iload 4, 2) := by decide +kernel
theorem dX2_valueOf_132 : decode cX2_valueOf 132 = .ok (.bipush 15, 2) := by decide +kernel
theorem dX2_valueOf_134 : decode cX2_valueOf 134 = .ok (.if_icmp .ge 37, 3) := by decide +kernel
theorem dX2_valueOf_137 : decode cX2_valueOf 137 = .ok (.aload_n 0, 1) := by decide +kernel
theorem dX2_valueOf_138 : decode cX2_valueOf 138 = .ok (.getfield 24, 3) := by decide +kernel
theorem dX2_valueOf_141 : decode cX2_valueOf 141 = .ok (.iload 4, 2) := by decide +kernel
theorem dX2_valueOf_143 : decode cX2_valueOf 143 = .ok (.iload 6, 2) := by decide +kernel
theorem dX2_valueOf_145 : decode cX2_valueOf 145 = .ok (.sipush 10000, 3) := by decide +kernel
theorem dX2_valueOf_148 : decode cX2_valueOf 148 = .ok (.if_icmp .lt 17, 3) := by decide +kernel
theorem dX2_valueOf_151 : decode cX2_valueOf 151 = .ok (.aload_n 0, 1) := by decide +kernel
theorem dX2_valueOf_152 : decode cX2_valueOf 152 = .ok (.getfield 9, 3) := by decide +kernel
theorem dX2_valueOf_155 : decode cX2_valueOf 155 = .ok (.iload 6, 2) := by decide +kernel
theorem dX2_valueOf_157 : decode cX2_valueOf 157 = .ok (.sipush 10000, 3) := by decide +kernel
theorem dX2_valueOf_160 : decode cX2_valueOf 160 = .ok (.isub, 1) := by decide +kernel
theorem dX2_valueOf_161 : decode cX2_valueOf 161 = .ok (.iaload, 1) := by decide +kernel
theorem dX2_valueOf_162 : decode cX2_valueOf 162 = .ok (.goto 5, 3) := by decide +kernel
theorem dX2_valueOf_165 : decode cX2_valueOf 165 = .ok (.iload 6, 2) := by decide +kernel
theorem dX2_valueOf_167 : decode cX2_valueOf 167 = .ok (.iastore, 1) := by decide +kernel
theorem dX2_valueOf_168 : decode cX2_valueOf 168 = .ok (.iinc 4 1, 3) := by decide +kernel
theorem dX2_valueOf_171 : decode cX2_valueOf 171 = .ok (.iinc 5 1, 3) := by decide +kernel
theorem dX2_valueOf_174 : decode cX2_valueOf 174 = .ok (.goto (-132), 3) := by decide +kernel
theorem dX2_valueOf_177 : decode cX2_valueOf 177 = .ok (.aload_n 0, 1) := by decide +kernel
theorem dX2_valueOf_178 : decode cX2_valueOf 178 = .ok (.getfield 24, 3) := by decide +kernel
theorem dX2_valueOf_181 : decode cX2_valueOf 181 = .ok (.iconst 0, 1) := by decide +kernel
theorem dX2_valueOf_182 : decode cX2_valueOf 182 = .ok (.iaload, 1) := by decide +kernel
theorem dX2_valueOf_183 : decode cX2_valueOf 183 = .ok (.ireturn, 1) := by decide +kernel
theorem dX2_joined_0 : decode cX2_joined 0 = .ok (.iload_n 1, 1) := by decide +kernel
theorem dX2_joined_1 : decode cX2_joined 1 = .ok (.tableswitch 43 42 45 #[39, 31, 43, 35], 31) := by decide +kernel
theorem dX2_joined_32 : decode cX2_joined 32 = .ok (.iload_n 2, 1) := by decide +kernel
theorem dX2_joined_33 : decode cX2_joined 33 = .ok (.iload_n 3, 1) := by decide +kernel
theorem dX2_joined_34 : decode cX2_joined 34 = .ok (.iadd, 1) := by decide +kernel
theorem dX2_joined_35 : decode cX2_joined 35 = .ok (.ireturn, 1) := by decide +kernel
theorem dX2_joined_36 : decode cX2_joined 36 = .ok (.iload_n 2, 1) := by decide +kernel
theorem dX2_joined_37 : decode cX2_joined 37 = .ok (.iload_n 3, 1) := by decide +kernel
theorem dX2_joined_38 : decode cX2_joined 38 = .ok (.isub, 1) := by decide +kernel
theorem dX2_joined_39 : decode cX2_joined 39 = .ok (.ireturn, 1) := by decide +kernel
theorem dX2_joined_40 : decode cX2_joined 40 = .ok (.iload_n 2, 1) := by decide +kernel
theorem dX2_joined_41 : decode cX2_joined 41 = .ok (.iload_n 3, 1) := by decide +kernel
theorem dX2_joined_42 : decode cX2_joined 42 = .ok (.imul, 1) := by decide +kernel
theorem dX2_joined_43 : decode cX2_joined 43 = .ok (.ireturn, 1) := by decide +kernel
theorem dX2_joined_44 : decode cX2_joined 44 = .ok (.iload_n 3, 1) := by decide +kernel
theorem dX2_joined_45 : decode cX2_joined 45 = .ok (.ifCond .ne 10, 3) := by decide +kernel
theorem dX2_joined_48 : decode cX2_joined 48 = .ok (.aload_n 0, 1) := by decide +kernel
theorem dX2_joined_49 : decode cX2_joined 49 = .ok (.iconst 1, 1) := by decide +kernel
theorem dX2_joined_50 : decode cX2_joined 50 = .ok (.putfield 48, 3) := by decide +kernel
theorem dX2_joined_53 : decode cX2_joined 53 = .ok (.iconst 0, 1) := by decide +kernel
theorem dX2_joined_54 : decode cX2_joined 54 = .ok (.ireturn, 1) := by decide +kernel
theorem dX2_joined_55 : decode cX2_joined 55 = .ok (.iload_n 2, 1) := by decide +kernel
theorem dX2_joined_56 : decode cX2_joined 56 = .ok (.iload_n 3, 1) := by decide +kernel
theorem dX2_joined_57 : decode cX2_joined 57 = .ok (.idiv, 1) := by decide +kernel
theorem dX2_joined_58 : decode cX2_joined 58 = .ok (.ireturn, 1) := by decide +kernel
theorem dX3_init_0 : decode cX3_init 0 = .ok (.aload_n 0, 1) := by decide +kernel
theorem dX3_init_1 : decode cX3_init 1 = .ok (.invokespecial 3, 3) := by decide +kernel
theorem dX3_init_4 : decode cX3_init 4 = .ok (.aload_n 0, 1) := by decide +kernel
theorem dX3_init_5 : decode cX3_init 5 = .ok (.bipush 8, 2) := by decide +kernel
theorem dX3_init_7 : decode cX3_init 7 = .ok (.newarray .int, 2) := by decide +kernel
theorem dX3_init_9 : decode cX3_init 9 = .ok (.putfield 9, 3) := by decide +kernel
theorem dX3_init_12 : decode cX3_init 12 = .ok (.aload_n 0, 1) := by decide +kernel
theorem dX3_init_13 : decode cX3_init 13 = .ok (.bipush 8, 2) := by decide +kernel
theorem dX3_init_15 : decode cX3_init 15 = .ok (.newarray .int, 2) := by decide +kernel
theorem dX3_init_17 : decode cX3_init 17 = .ok (.putfield 15, 3) := by decide +kernel
theorem dX3_init_20 : decode cX3_init 20 = .ok (.return_, 1) := by decide +kernel
theorem dX3_layOn_0 : decode cX3_layOn 0 = .ok (.aload_n 1, 1) := by decide +kernel
theorem dX3_layOn_1 : decode cX3_layOn 1 = .ok (.getfield 18, 3) := by decide +kernel
theorem dX3_layOn_4 : decode cX3_layOn 4 = .ok (.getfield 24, 3) := by decide +kernel
theorem dX3_layOn_7 : decode cX3_layOn 7 = .ok (.bipush 16, 2) := by decide +kernel
theorem dX3_layOn_9 : decode cX3_layOn 9 = .ok (.iload_n 2, 1) := by decide +kernel
theorem dX3_layOn_10 : decode cX3_layOn 10 = .ok (.iadd, 1) := by decide +kernel
theorem dX3_layOn_11 : decode cX3_layOn 11 = .ok (.iaload, 1) := by decide +kernel
theorem dX3_layOn_12 : decode cX3_layOn 12 = .ok (.istore_n 3, 1) := by decide +kernel
theorem dX3_layOn_13 : decode cX3_layOn 13 = .ok (.aload_n 1, 1) := by decide +kernel
theorem dX3_layOn_14 : decode cX3_layOn 14 = .ok (.getfield 18, 3) := by decide +kernel
theorem dX3_layOn_17 : decode cX3_layOn 17 = .ok (.getfield 24, 3) := by decide +kernel
theorem dX3_layOn_20 : decode cX3_layOn 20 = .ok (.bipush 22, 2) := by decide +kernel
theorem dX3_layOn_22 : decode cX3_layOn 22 = .ok (.iload_n 2, 1) := by decide +kernel
theorem dX3_layOn_23 : decode cX3_layOn 23 = .ok (.iadd, 1) := by decide +kernel
theorem dX3_layOn_24 : decode cX3_layOn 24 = .ok (.iaload, 1) := by decide +kernel
theorem dX3_layOn_25 : decode cX3_layOn 25 = .ok (.istore 4, 2) := by decide +kernel
theorem dX3_layOn_27 : decode cX3_layOn 27 = .ok (.aload_n 0, 1) := by decide +kernel
theorem dX3_layOn_28 : decode cX3_layOn 28 = .ok (.aload_n 1, 1) := by decide +kernel
theorem dX3_layOn_29 : decode cX3_layOn 29 = .ok (.getfield 29, 3) := by decide +kernel
theorem dX3_layOn_32 : decode cX3_layOn 32 = .ok (.getfield 33, 3) := by decide +kernel
theorem dX3_layOn_35 : decode cX3_layOn 35 = .ok (.putfield 39, 3) := by decide +kernel
theorem dX3_layOn_38 : decode cX3_layOn 38 = .ok (.aload_n 0, 1) := by decide +kernel
theorem dX3_layOn_39 : decode cX3_layOn 39 = .ok (.aload_n 1, 1) := by decide +kernel
theorem dX3_layOn_40 : decode cX3_layOn 40 = .ok (.getfield 18, 3) := by decide +kernel
theorem dX3_layOn_43 : decode cX3_layOn 43 = .ok (.getfield 40, 3) := by decide +kernel
theorem dX3_layOn_46 : decode cX3_layOn 46 = .ok (.putfield 43, 3) := by decide +kernel
theorem dX3_layOn_49 : decode cX3_layOn 49 = .ok (.iconst 0, 1) := by decide +kernel
theorem dX3_layOn_50 : decode cX3_layOn 50 = .ok (.istore 5, 2) := by decide +kernel
theorem dX3_layOn_52 : decode cX3_layOn 52 = .ok (.iload 5, 2) := by decide +kernel
theorem dX3_layOn_54 : decode cX3_layOn 54 = .ok (.aload_n 0, 1) := by decide +kernel
theorem dX3_layOn_55 : decode cX3_layOn 55 = .ok (.getfield 39, 3) := by decide +kernel
theorem dX3_layOn_58 : decode cX3_layOn 58 = .ok (.if_icmp .ge 56, 3) := by decide +kernel
theorem dX3_layOn_61 : decode cX3_layOn 61 = .ok (.aload_n 1, 1) := by decide +kernel
theorem dX3_layOn_62 : decode cX3_layOn 62 = .ok (.iload 5, 2) := by decide +kernel
theorem dX3_layOn_64 : decode cX3_layOn 64 = .ok (.iload_n 2, 1) := by decide +kernel
theorem dX3_layOn_65 : decode cX3_layOn 65 = .ok (.iload_n 3, 1) := by decide +kernel
theorem dX3_layOn_66 : decode cX3_layOn 66 = .ok (.iload 4, 2) := by decide +kernel
theorem dX3_layOn_68 : decode cX3_layOn 68 = .ok (.invokevirtual 44, 3) := by decide +kernel
theorem dX3_layOn_71 : decode cX3_layOn 71 = .ok (.istore 6, 2) := by decide +kernel
theorem dX3_layOn_73 : decode cX3_layOn 73 = .ok (.aload_n 0, 1) := by decide +kernel
theorem dX3_layOn_74 : decode cX3_layOn 74 = .ok (.getfield 9, 3) := by decide +kernel
theorem dX3_layOn_77 : decode cX3_layOn 77 = .ok (.iload 5, 2) := by decide +kernel
theorem dX3_layOn_79 : decode cX3_layOn 79 = .ok (.iload 6, 2) := by decide +kernel
theorem dX3_layOn_81 : decode cX3_layOn 81 = .ok (.aload_n 1, 1) := by decide +kernel
theorem dX3_layOn_82 : decode cX3_layOn 82 = .ok (.iload 5, 2) := by decide +kernel
theorem dX3_layOn_84 : decode cX3_layOn 84 = .ok (.iload_n 3, 1) := by decide +kernel
theorem dX3_layOn_85 : decode cX3_layOn 85 = .ok (.invokevirtual 48, 3) := by decide +kernel
theorem dX3_layOn_88 : decode cX3_layOn 88 = .ok (.imul, 1) := by decide +kernel
theorem dX3_layOn_89 : decode cX3_layOn 89 = .ok (.iastore, 1) := by decide +kernel
theorem dX3_layOn_90 : decode cX3_layOn 90 = .ok (.aload_n 0, 1) := by decide +kernel
theorem dX3_layOn_91 : decode cX3_layOn 91 = .ok (.getfield 15, 3) := by decide +kernel
theorem dX3_layOn_94 : decode cX3_layOn 94 = .ok (.iload 5, 2) := by decide +kernel
theorem dX3_layOn_96 : decode cX3_layOn 96 = .ok (.iload 6, 2) := by decide +kernel
theorem dX3_layOn_98 : decode cX3_layOn 98 = .ok (.aload_n 1, 1) := by decide +kernel
theorem dX3_layOn_99 : decode cX3_layOn 99 = .ok (.iload 5, 2) := by decide +kernel
theorem dX3_layOn_101 : decode cX3_layOn 101 = .ok (.iload 4, 2) := by decide +kernel
theorem dX3_layOn_103 : decode cX3_layOn 103 = .ok (.invokevirtual 52, 3) := by decide +kernel
theorem dX3_layOn_106 : decode cX3_layOn 106 = .ok (.imul, 1) := by decide +kernel
theorem dX3_layOn_107 : decode cX3_layOn 107 = .ok (.iastore, 1) := by decide +kernel
theorem dX3_layOn_108 : decode cX3_layOn 108 = .ok (.iinc 5 1, 3) := by decide +kernel
theorem dX3_layOn_111 : decode cX3_layOn 111 = .ok (.goto (-59), 3) := by decide +kernel
theorem dX3_layOn_114 : decode cX3_layOn 114 = .ok (.return_, 1) := by decide +kernel
theorem dX3_areEven_0 : decode cX3_areEven 0 = .ok (.aload_n 0, 1) := by decide +kernel
theorem dX3_areEven_1 : decode cX3_areEven 1 = .ok (.getfield 9, 3) := by decide +kernel
theorem dX3_areEven_4 : decode cX3_areEven 4 = .ok (.iload_n 1, 1) := by decide +kernel
theorem dX3_areEven_5 : decode cX3_areEven 5 = .ok (.iaload, 1) := by decide +kernel
theorem dX3_areEven_6 : decode cX3_areEven 6 = .ok (.ifCond .ne 12, 3) := by decide +kernel
theorem dX3_areEven_9 : decode cX3_areEven 9 = .ok (.aload_n 0, 1) := by decide +kernel
theorem dX3_areEven_10 : decode cX3_areEven 10 = .ok (.getfield 15, 3) := by decide +kernel
theorem dX3_areEven_13 : decode cX3_areEven 13 = .ok (.iload_n 1, 1) := by decide +kernel
theorem dX3_areEven_14 : decode cX3_areEven 14 = .ok (.iaload, 1) := by decide +kernel
theorem dX3_areEven_15 : decode cX3_areEven 15 = .ok (.ifCond .eq 7, 3) := by decide +kernel
theorem dX3_areEven_18 : decode cX3_areEven 18 = .ok (.iconst 1, 1) := by decide +kernel
theorem dX3_areEven_19 : decode cX3_areEven 19 = .ok (.goto 4, 3) := by decide +kernel
theorem dX3_areEven_22 : decode cX3_areEven 22 = .ok (.iconst 0, 1) := by decide +kernel
theorem dX3_areEven_23 : decode cX3_areEven 23 = .ok (.istore_n 3, 1) := by decide +kernel
theorem dX3_areEven_24 : decode cX3_areEven 24 = .ok (.iload_n 3, 1) := by decide +kernel
theorem dX3_areEven_25 : decode cX3_areEven 25 = .ok (.ifCond .eq 39, 3) := by decide +kernel
theorem dX3_areEven_28 : decode cX3_areEven 28 = .ok (.aload_n 0, 1) := by decide +kernel
theorem dX3_areEven_29 : decode cX3_areEven 29 = .ok (.getfield 9, 3) := by decide +kernel
theorem dX3_areEven_32 : decode cX3_areEven 32 = .ok (.iload_n 1, 1) := by decide +kernel
theorem dX3_areEven_33 : decode cX3_areEven 33 = .ok (.iaload, 1) := by decide +kernel
theorem dX3_areEven_34 : decode cX3_areEven 34 = .ok (.aload_n 0, 1) := by decide +kernel
theorem dX3_areEven_35 : decode cX3_areEven 35 = .ok (.getfield 9, 3) := by decide +kernel
theorem dX3_areEven_38 : decode cX3_areEven 38 = .ok (.iload_n 2, 1) := by decide +kernel
theorem dX3_areEven_39 : decode cX3_areEven 39 = .ok (.iaload, 1) := by decide +kernel
theorem dX3_areEven_40 : decode cX3_areEven 40 = .ok (.ineg, 1) := by decide +kernel
theorem dX3_areEven_41 : decode cX3_areEven 41 = .ok (.if_icmp .ne 23, 3) := by decide +kernel
theorem dX3_areEven_44 : decode cX3_areEven 44 = .ok (.aload_n 0, 1) := by decide +kernel
theorem dX3_areEven_45 : decode cX3_areEven 45 = .ok (.getfield 15, 3) := by decide +kernel
theorem dX3_areEven_48 : decode cX3_areEven 48 = .ok (.iload_n 1, 1) := by decide +kernel
theorem dX3_areEven_49 : decode cX3_areEven 49 = .ok (.iaload, 1) := by decide +kernel
theorem dX3_areEven_50 : decode cX3_areEven 50 = .ok (.aload_n 0, 1) := by decide +kernel
theorem dX3_areEven_51 : decode cX3_areEven 51 = .ok (.getfield 15, 3) := by decide +kernel
theorem dX3_areEven_54 : decode cX3_areEven 54 = .ok (.iload_n 2, 1) := by decide +kernel
theorem dX3_areEven_55 : decode cX3_areEven 55 = .ok (.iaload, 1) := by decide +kernel
theorem dX3_areEven_56 : decode cX3_areEven 56 = .ok (.ineg, 1) := by decide +kernel
theorem dX3_areEven_57 : decode cX3_areEven 57 = .ok (.if_icmp .ne 7, 3) := by decide +kernel
theorem dX3_areEven_60 : decode cX3_areEven 60 = .ok (.iconst 1, 1) := by decide +kernel
theorem dX3_areEven_61 : decode cX3_areEven 61 = .ok (.goto 4, 3) := by decide +kernel
theorem dX3_areEven_64 : decode cX3_areEven 64 = .ok (.iconst 0, 1) := by decide +kernel
theorem dX3_areEven_65 : decode cX3_areEven 65 = .ok (.ireturn, 1) := by decide +kernel
theorem dX3_seek_0 : decode cX3_seek 0 = .ok (.aload_n 0, 1) := by decide +kernel
theorem dX3_seek_1 : decode cX3_seek 1 = .ok (.iconst 0, 1) := by decide +kernel
theorem dX3_seek_2 : decode cX3_seek 2 = .ok (.putfield 55, 3) := by decide +kernel
theorem dX3_seek_5 : decode cX3_seek 5 = .ok (.aload_n 0, 1) := by decide +kernel
theorem dX3_seek_6 : decode cX3_seek 6 = .ok (.iconst 0, 1) := by decide +kernel
theorem dX3_seek_7 : decode cX3_seek 7 = .ok (.putfield 58, 3) := by decide +kernel
theorem dX3_seek_10 : decode cX3_seek 10 = .ok (.iload_n 3, 1) := by decide +kernel
theorem dX3_seek_11 : decode cX3_seek 11 = .ok (.istore 4, 2) := by decide +kernel
theorem dX3_seek_13 : decode cX3_seek 13 = .ok (.iload 4, 2) := by decide +kernel
theorem dX3_seek_15 : decode cX3_seek 15 = .ok (.iconst 1, 1) := by decide +kernel
theorem dX3_seek_16 : decode cX3_seek 16 = .ok (.aload_n 0, 1) := by decide +kernel
theorem dX3_seek_17 : decode cX3_seek 17 = .ok (.getfield 39, 3) := by decide +kernel
theorem dX3_seek_20 : decode cX3_seek 20 = .ok (.ishl, 1) := by decide +kernel
theorem dX3_seek_21 : decode cX3_seek 21 = .ok (.if_icmp .ge 68, 3) := by decide +kernel
theorem dX3_seek_24 : decode cX3_seek 24 = .ok (.iload 4, 2) := by decide +kernel
theorem dX3_seek_26 : decode cX3_seek 26 = .ok (.aload_n 0, 1) := by decide +kernel
theorem dX3_seek_27 : decode cX3_seek 27 = .ok (.getfield 43, 3) := by decide +kernel
theorem dX3_seek_30 : decode cX3_seek 30 = .ok (.iand, 1) := by decide +kernel
theorem dX3_seek_31 : decode cX3_seek 31 = .ok (.ifCond .ne 52, 3) := by decide +kernel
theorem dX3_seek_34 : decode cX3_seek 34 = .ok (.aload_n 0, 1) := by decide +kernel
theorem dX3_seek_35 : decode cX3_seek 35 = .ok (.iload 4, 2) := by decide +kernel
theorem dX3_seek_37 : decode cX3_seek 37 = .ok (.iload_n 1, 1) := by decide +kernel
theorem dX3_seek_38 : decode cX3_seek 38 = .ok (.iload_n 2, 1) := by decide +kernel
theorem dX3_seek_39 : decode cX3_seek 39 = .ok (.invokevirtual 61, 3) := by decide +kernel
theorem dX3_seek_42 : decode cX3_seek 42 = .ok (.ifCond .eq 41, 3) := by decide +kernel
theorem dX3_seek_45 : decode cX3_seek 45 = .ok (.aload_n 0, 1) := by decide +kernel
theorem dX3_seek_46 : decode cX3_seek 46 = .ok (.getfield 55, 3) := by decide +kernel
theorem dX3_seek_49 : decode cX3_seek 49 = .ok (.ifCond .eq 18, 3) := by decide +kernel
theorem dX3_seek_52 : decode cX3_seek 52 = .ok (.iload 4, 2) := by decide +kernel
theorem dX3_seek_54 : decode cX3_seek 54 = .ok (.invokestatic 65, 3) := by decide +kernel
theorem dX3_seek_57 : decode cX3_seek 57 = .ok (.aload_n 0, 1) := by decide +kernel
theorem dX3_seek_58 : decode cX3_seek 58 = .ok (.getfield 58, 3) := by decide +kernel
theorem dX3_seek_61 : decode cX3_seek 61 = .ok (.invokestatic 65, 3) := by decide +kernel
theorem dX3_seek_64 : decode cX3_seek 64 = .ok (.if_icmp .ge 9, 3) := by decide +kernel
theorem dX3_seek_67 : decode cX3_seek 67 = .ok (.aload_n 0, 1) := by decide +kernel
theorem dX3_seek_68 : decode cX3_seek 68 = .ok (.iload 4, 2) := by decide +kernel
theorem dX3_seek_70 : decode cX3_seek 70 = .ok (.putfield 58, 3) := by decide +kernel
theorem dX3_seek_73 : decode cX3_seek 73 = .ok (.aload_n 0, 1) := by decide +kernel
theorem dX3_seek_74 : decode cX3_seek 74 = .ok (.dup, 1) := by decide +kernel
theorem dX3_seek_75 : decode cX3_seek 75 = .ok (.getfield 55, 3) := by decide +kernel
theorem dX3_seek_78 : decode cX3_seek 78 = .ok (.iconst 1, 1) := by decide +kernel
theorem dX3_seek_79 : decode cX3_seek 79 = .ok (.iadd, 1) := by decide +kernel
theorem dX3_seek_80 : decode cX3_seek 80 = .ok (.putfield 55, 3) := by decide +kernel
theorem dX3_seek_83 : decode cX3_seek 83 = .ok (.iinc 4 1, 3) := by decide +kernel
theorem dX3_seek_86 : decode cX3_seek 86 = .ok (.goto (-73), 3) := by decide +kernel
theorem dX3_seek_89 : decode cX3_seek 89 = .ok (.return_, 1) := by decide +kernel
theorem dX3_pullsBy_0 : decode cX3_pullsBy 0 = .ok (.iload_n 2, 1) := by decide +kernel
theorem dX3_pullsBy_1 : decode cX3_pullsBy 1 = .ok (.istore 4, 2) := by decide +kernel
theorem dX3_pullsBy_3 : decode cX3_pullsBy 3 = .ok (.iload_n 3, 1) := by decide +kernel
theorem dX3_pullsBy_4 : decode cX3_pullsBy 4 = .ok (.istore 5, 2) := by decide +kernel
theorem dX3_pullsBy_6 : decode cX3_pullsBy 6 = .ok (.iconst 0, 1) := by decide +kernel
theorem dX3_pullsBy_7 : decode cX3_pullsBy 7 = .ok (.istore 6, 2) := by decide +kernel
theorem dX3_pullsBy_9 : decode cX3_pullsBy 9 = .ok (.iload 6, 2) := by decide +kernel
theorem dX3_pullsBy_11 : decode cX3_pullsBy 11 = .ok (.aload_n 0, 1) := by decide +kernel
theorem dX3_pullsBy_12 : decode cX3_pullsBy 12 = .ok (.getfield 39, 3) := by decide +kernel
theorem dX3_pullsBy_15 : decode cX3_pullsBy 15 = .ok (.if_icmp .ge 42, 3) := by decide +kernel
theorem dX3_pullsBy_18 : decode cX3_pullsBy 18 = .ok (.iload_n 1, 1) := by decide +kernel
theorem dX3_pullsBy_19 : decode cX3_pullsBy 19 = .ok (.iload 6, 2) := by decide +kernel
theorem dX3_pullsBy_21 : decode cX3_pullsBy 21 = .ok (.ishr, 1) := by decide +kernel
theorem dX3_pullsBy_22 : decode cX3_pullsBy 22 = .ok (.iconst 1, 1) := by decide +kernel
theorem dX3_pullsBy_23 : decode cX3_pullsBy 23 = .ok (.iand, 1) := by decide +kernel
theorem dX3_pullsBy_24 : decode cX3_pullsBy 24 = .ok (.ifCond .eq 27, 3) := by decide +kernel
theorem dX3_pullsBy_27 : decode cX3_pullsBy 27 = .ok (.iload 4, 2) := by decide +kernel
theorem dX3_pullsBy_29 : decode cX3_pullsBy 29 = .ok (.aload_n 0, 1) := by decide +kernel
theorem dX3_pullsBy_30 : decode cX3_pullsBy 30 = .ok (.getfield 9, 3) := by decide +kernel
theorem dX3_pullsBy_33 : decode cX3_pullsBy 33 = .ok (.iload 6, 2) := by decide +kernel
theorem dX3_pullsBy_35 : decode cX3_pullsBy 35 = .ok (.iaload, 1) := by decide +kernel
theorem dX3_pullsBy_36 : decode cX3_pullsBy 36 = .ok (.isub, 1) := by decide +kernel
theorem dX3_pullsBy_37 : decode cX3_pullsBy 37 = .ok (.istore 4, 2) := by decide +kernel
theorem dX3_pullsBy_39 : decode cX3_pullsBy 39 = .ok (.iload 5, 2) := by decide +kernel
theorem dX3_pullsBy_41 : decode cX3_pullsBy 41 = .ok (.aload_n 0, 1) := by decide +kernel
theorem dX3_pullsBy_42 : decode cX3_pullsBy 42 = .ok (.getfield 15, 3) := by decide +kernel
theorem dX3_pullsBy_45 : decode cX3_pullsBy 45 = .ok (.iload 6, 2) := by decide +kernel
theorem dX3_pullsBy_47 : decode cX3_pullsBy 47 = .ok (.iaload, 1) := by decide +kernel
theorem dX3_pullsBy_48 : decode cX3_pullsBy 48 = .ok (.isub, 1) := by decide +kernel
theorem dX3_pullsBy_49 : decode cX3_pullsBy 49 = .ok (.istore 5, 2) := by decide +kernel
theorem dX3_pullsBy_51 : decode cX3_pullsBy 51 = .ok (.iinc 6 1, 3) := by decide +kernel
theorem dX3_pullsBy_54 : decode cX3_pullsBy 54 = .ok (.goto (-45), 3) := by decide +kernel
theorem dX3_pullsBy_57 : decode cX3_pullsBy 57 = .ok (.iload 4, 2) := by decide +kernel
theorem dX3_pullsBy_59 : decode cX3_pullsBy 59 = .ok (.ifCond .ne 12, 3) := by decide +kernel
theorem dX3_pullsBy_62 : decode cX3_pullsBy 62 = .ok (.iload 5, 2) := by decide +kernel
theorem dX3_pullsBy_64 : decode cX3_pullsBy 64 = .ok (.ifCond .ne 7, 3) := by decide +kernel
theorem dX3_pullsBy_67 : decode cX3_pullsBy 67 = .ok (.iconst 1, 1) := by decide +kernel
theorem dX3_pullsBy_68 : decode cX3_pullsBy 68 = .ok (.goto 4, 3) := by decide +kernel
theorem dX3_pullsBy_71 : decode cX3_pullsBy 71 = .ok (.iconst 0, 1) := by decide +kernel
theorem dX3_pullsBy_72 : decode cX3_pullsBy 72 = .ok (.ireturn, 1) := by decide +kernel
theorem dX4_init_0 : decode cX4_init 0 = .ok (.aload_n 0, 1) := by decide +kernel
theorem dX4_init_1 : decode cX4_init 1 = .ok (.invokespecial 3, 3) := by decide +kernel
theorem dX4_init_4 : decode cX4_init 4 = .ok (.aload_n 0, 1) := by decide +kernel
theorem dX4_init_5 : decode cX4_init 5 = .ok (.new 9, 3) := by decide +kernel
theorem dX4_init_8 : decode cX4_init 8 = .ok (.dup, 1) := by decide +kernel
theorem dX4_init_9 : decode cX4_init 9 = .ok (.aload_n 1, 1) := by decide +kernel
theorem dX4_init_10 : decode cX4_init 10 = .ok (.invokespecial 11, 3) := by decide +kernel
theorem dX4_init_13 : decode cX4_init 13 = .ok (.putfield 14, 3) := by decide +kernel
theorem dX4_init_16 : decode cX4_init 16 = .ok (.aload_n 0, 1) := by decide +kernel
theorem dX4_init_17 : decode cX4_init 17 = .ok (.aload_n 2, 1) := by decide +kernel
theorem dX4_init_18 : decode cX4_init 18 = .ok (.putfield 20, 3) := by decide +kernel
theorem dX4_init_21 : decode cX4_init 21 = .ok (.aload_n 0, 1) := by decide +kernel
theorem dX4_init_22 : decode cX4_init 22 = .ok (.iconst (-1), 1) := by decide +kernel
theorem dX4_init_23 : decode cX4_init 23 = .ok (.putfield 24, 3) := by decide +kernel
theorem dX4_init_26 : decode cX4_init 26 = .ok (.return_, 1) := by decide +kernel
theorem dX4_readText_0 : decode cX4_readText 0 = .ok (.aload_n 0, 1) := by decide +kernel
theorem dX4_readText_1 : decode cX4_readText 1 = .ok (.getfield 14, 3) := by decide +kernel
theorem dX4_readText_4 : decode cX4_readText 4 = .ok (.iload_n 1, 1) := by decide +kernel
theorem dX4_readText_5 : decode cX4_readText 5 = .ok (.invokevirtual 28, 3) := by decide +kernel
theorem dX4_readText_8 : decode cX4_readText 8 = .ok (.aload_n 0, 1) := by decide +kernel
theorem dX4_readText_9 : decode cX4_readText 9 = .ok (.aload_n 2, 1) := by decide +kernel
theorem dX4_readText_10 : decode cX4_readText 10 = .ok (.putfield 20, 3) := by decide +kernel
theorem dX4_readText_13 : decode cX4_readText 13 = .ok (.aload_n 0, 1) := by decide +kernel
theorem dX4_readText_14 : decode cX4_readText 14 = .ok (.getfield 20, 3) := by decide +kernel
theorem dX4_readText_17 : decode cX4_readText 17 = .ok (.invokevirtual 32, 3) := by decide +kernel
theorem dX4_readText_20 : decode cX4_readText 20 = .ok (.aload_n 0, 1) := by decide +kernel
theorem dX4_readText_21 : decode cX4_readText 21 = .ok (.iconst 0, 1) := by decide +kernel
theorem dX4_readText_22 : decode cX4_readText 22 = .ok (.putfield 37, 3) := by decide +kernel
theorem dX4_readText_25 : decode cX4_readText 25 = .ok (.aload_n 0, 1) := by decide +kernel
theorem dX4_readText_26 : decode cX4_readText 26 = .ok (.iconst 0, 1) := by decide +kernel
theorem dX4_readText_27 : decode cX4_readText 27 = .ok (.putfield 40, 3) := by decide +kernel
theorem dX4_readText_30 : decode cX4_readText 30 = .ok (.aload_n 0, 1) := by decide +kernel
theorem dX4_readText_31 : decode cX4_readText 31 = .ok (.iconst (-1), 1) := by decide +kernel
theorem dX4_readText_32 : decode cX4_readText 32 = .ok (.putfield 24, 3) := by decide +kernel
theorem dX4_readText_35 : decode cX4_readText 35 = .ok (.aload_n 0, 1) := by decide +kernel
theorem dX4_readText_36 : decode cX4_readText 36 = .ok (.iconst 0, 1) := by decide +kernel
theorem dX4_readText_37 : decode cX4_readText 37 = .ok (.putfield 43, 3) := by decide +kernel
theorem dX4_readText_40 : decode cX4_readText 40 = .ok (.iconst 0, 1) := by decide +kernel
theorem dX4_readText_41 : decode cX4_readText 41 = .ok (.istore_n 3, 1) := by decide +kernel
theorem dX4_readText_42 : decode cX4_readText 42 = .ok (.iload_n 3, 1) := by decide +kernel
theorem dX4_readText_43 : decode cX4_readText 43 = .ok (.sipush 400, 3) := by decide +kernel
theorem dX4_readText_46 : decode cX4_readText 46 = .ok (.if_icmp .gt 125, 3) := by decide +kernel
theorem dX4_readText_49 : decode cX4_readText 49 = .ok (.aload_n 0, 1) := by decide +kernel
theorem dX4_readText_50 : decode cX4_readText 50 = .ok (.getfield 40, 3) := by decide +kernel
theorem dX4_readText_53 : decode cX4_readText 53 = .ok (.ifCond .ne 118, 3) := by decide +kernel
theorem dX4_readText_56 : decode cX4_readText 56 = .ok (.aload_n 0, 1) := by decide +kernel
theorem dX4_readText_57 : decode cX4_readText 57 = .ok (.invokevirtual 46, 3) := by decide +kernel
theorem dX4_readText_60 : decode cX4_readText 60 = .ok (.bipush 23, 2) := by decide +kernel
theorem dX4_readText_62 : decode cX4_readText 62 = .ok (.if_icmp .eq 109, 3) := by decide +kernel
theorem dX4_readText_65 : decode cX4_readText 65 = .ok (.aload_n 0, 1) := by decide +kernel
theorem dX4_readText_66 : decode cX4_readText 66 = .ok (.invokevirtual 46, 3) := by decide +kernel
theorem dX4_readText_69 : decode cX4_readText 69 = .ok (.istore 4, 2) := by decide +kernel
theorem dX4_readText_71 : decode cX4_readText 71 = .ok (.iload 4, 2) := by decide +kernel
theorem dX4_readText_73 : decode cX4_readText 73 = .ok (.tableswitch 86 0 8 #[51, 58, 65, 86, 86, 86, 86, 72, 79], 51) := by decide +kernel
theorem dX4_readText_124 : decode cX4_readText 124 = .ok (.aload_n 0, 1) := by decide +kernel
theorem dX4_readText_125 : decode cX4_readText 125 = .ok (.invokevirtual 50, 3) := by decide +kernel
theorem dX4_readText_128 : decode cX4_readText 128 = .ok (.goto 37, 3) := by decide +kernel
theorem dX4_readText_131 : decode cX4_readText 131 = .ok (.aload_n 0, 1) := by decide +kernel
theorem dX4_readText_132 : decode cX4_readText 132 = .ok (.invokevirtual 53, 3) := by decide +kernel
theorem dX4_readText_135 : decode cX4_readText 135 = .ok (.goto 30, 3) := by decide +kernel
theorem dX4_readText_138 : decode cX4_readText 138 = .ok (.aload_n 0, 1) := by decide +kernel
theorem dX4_readText_139 : decode cX4_readText 139 = .ok (.invokevirtual 56, 3) := by decide +kernel
theorem dX4_readText_142 : decode cX4_readText 142 = .ok (.goto 23, 3) := by decide +kernel
theorem dX4_readText_145 : decode cX4_readText 145 = .ok (.aload_n 0, 1) := by decide +kernel
theorem dX4_readText_146 : decode cX4_readText 146 = .ok (.invokevirtual 59, 3) := by decide +kernel
theorem dX4_readText_149 : decode cX4_readText 149 = .ok (.goto 16, 3) := by decide +kernel
theorem dX4_readText_152 : decode cX4_readText 152 = .ok (.aload_n 0, 1) := by decide +kernel
theorem dX4_readText_153 : decode cX4_readText 153 = .ok (.invokevirtual 62, 3) := by decide +kernel
theorem dX4_readText_156 : decode cX4_readText 156 = .ok (.goto 9, 3) := by decide +kernel
theorem dX4_readText_159 : decode cX4_readText 159 = .ok (.aload_n 0, 1) := by decide +kernel
theorem dX4_readText_160 : decode cX4_readText 160 = .ok (.iload 4, 2) := by decide +kernel
theorem dX4_readText_162 : decode cX4_readText 162 = .ok (.invokevirtual 65, 3) := by decide +kernel
theorem dX4_readText_165 : decode cX4_readText 165 = .ok (.iinc 3 1, 3) := by decide +kernel
theorem dX4_readText_168 : decode cX4_readText 168 = .ok (.goto (-126), 3) := by decide +kernel
theorem dX4_readText_171 : decode cX4_readText 171 = .ok (.aload_n 0, 1) := by decide +kernel
theorem dX4_readText_172 : decode cX4_readText 172 = .ok (.getfield 40, 3) := by decide +kernel
theorem dX4_readText_175 : decode cX4_readText 175 = .ok (.ifCond .ne 26, 3) := by decide +kernel
theorem dX4_readText_178 : decode cX4_readText 178 = .ok (.aload_n 0, 1) := by decide +kernel
theorem dX4_readText_179 : decode cX4_readText 179 = .ok (.getfield 43, 3) := by decide +kernel
theorem dX4_readText_182 : decode cX4_readText 182 = .ok (.ifCond .eq 19, 3) := by decide +kernel
theorem dX4_readText_185 : decode cX4_readText 185 = .ok (.aload_n 0, 1) := by decide +kernel
theorem dX4_readText_186 : decode cX4_readText 186 = .ok (.aload_n 0, 1) := by decide +kernel
theorem dX4_readText_187 : decode cX4_readText 187 = .ok (.getfield 43, 3) := by decide +kernel
theorem dX4_readText_190 : decode cX4_readText 190 = .ok (.putfield 40, 3) := by decide +kernel
theorem dX4_readText_193 : decode cX4_readText 193 = .ok (.aload_n 0, 1) := by decide +kernel
theorem dX4_readText_194 : decode cX4_readText 194 = .ok (.aload_n 0, 1) := by decide +kernel
theorem dX4_readText_195 : decode cX4_readText 195 = .ok (.getfield 68, 3) := by decide +kernel
theorem dX4_readText_198 : decode cX4_readText 198 = .ok (.putfield 24, 3) := by decide +kernel
theorem dX4_readText_201 : decode cX4_readText 201 = .ok (.aload_n 0, 1) := by decide +kernel
theorem dX4_readText_202 : decode cX4_readText 202 = .ok (.getfield 40, 3) := by decide +kernel
theorem dX4_readText_205 : decode cX4_readText 205 = .ok (.ireturn, 1) := by decide +kernel
theorem dX4_atHand_0 : decode cX4_atHand 0 = .ok (.aload_n 0, 1) := by decide +kernel
theorem dX4_atHand_1 : decode cX4_atHand 1 = .ok (.getfield 40, 3) := by decide +kernel
theorem dX4_atHand_4 : decode cX4_atHand 4 = .ok (.ifCond .ne 18, 3) := by decide +kernel
theorem dX4_atHand_7 : decode cX4_atHand 7 = .ok (.aload_n 0, 1) := by decide +kernel
theorem dX4_atHand_8 : decode cX4_atHand 8 = .ok (.getfield 14, 3) := by decide +kernel
theorem dX4_atHand_11 : decode cX4_atHand 11 = .ok (.getfield 71, 3) := by decide +kernel
theorem dX4_atHand_14 : decode cX4_atHand 14 = .ok (.aload_n 0, 1) := by decide +kernel
theorem dX4_atHand_15 : decode cX4_atHand 15 = .ok (.getfield 37, 3) := by decide +kernel
theorem dX4_atHand_18 : decode cX4_atHand 18 = .ok (.iaload, 1) := by decide +kernel
theorem dX4_atHand_19 : decode cX4_atHand 19 = .ok (.goto 4, 3) := by decide +kernel
theorem dX4_atHand_22 : decode cX4_atHand 22 = .ok (.iconst (-1), 1) := by decide +kernel
theorem dX4_atHand_23 : decode cX4_atHand 23 = .ok (.ireturn, 1) := by decide +kernel
theorem dX4_refuse_0 : decode cX4_refuse 0 = .ok (.aload_n 0, 1) := by decide +kernel
theorem dX4_refuse_1 : decode cX4_refuse 1 = .ok (.getfield 40, 3) := by decide +kernel
theorem dX4_refuse_4 : decode cX4_refuse 4 = .ok (.ifCond .ne 24, 3) := by decide +kernel
theorem dX4_refuse_7 : decode cX4_refuse 7 = .ok (.aload_n 0, 1) := by decide +kernel
theorem dX4_refuse_8 : decode cX4_refuse 8 = .ok (.iload_n 1, 1) := by decide +kernel
theorem dX4_refuse_9 : decode cX4_refuse 9 = .ok (.putfield 40, 3) := by decide +kernel
theorem dX4_refuse_12 : decode cX4_refuse 12 = .ok (.aload_n 0, 1) := by decide +kernel
theorem dX4_refuse_13 : decode cX4_refuse 13 = .ok (.aload_n 0, 1) := by decide +kernel
theorem dX4_refuse_14 : decode cX4_refuse 14 = .ok (.getfield 14, 3) := by decide +kernel
theorem dX4_refuse_17 : decode cX4_refuse 17 = .ok (.getfield 75, 3) := by decide +kernel
theorem dX4_refuse_20 : decode cX4_refuse 20 = .ok (.aload_n 0, 1) := by decide +kernel
theorem dX4_refuse_21 : decode cX4_refuse 21 = .ok (.getfield 37, 3) := by decide +kernel
theorem dX4_refuse_24 : decode cX4_refuse 24 = .ok (.iaload, 1) := by decide +kernel
theorem dX4_refuse_25 : decode cX4_refuse 25 = .ok (.putfield 24, 3) := by decide +kernel
theorem dX4_refuse_28 : decode cX4_refuse 28 = .ok (.return_, 1) := by decide +kernel
theorem dX4_mark_0 : decode cX4_mark 0 = .ok (.aload_n 0, 1) := by decide +kernel
theorem dX4_mark_1 : decode cX4_mark 1 = .ok (.getfield 43, 3) := by decide +kernel
theorem dX4_mark_4 : decode cX4_mark 4 = .ok (.ifCond .ne 21, 3) := by decide +kernel
theorem dX4_mark_7 : decode cX4_mark 7 = .ok (.aload_n 0, 1) := by decide +kernel
theorem dX4_mark_8 : decode cX4_mark 8 = .ok (.iload_n 1, 1) := by decide +kernel
theorem dX4_mark_9 : decode cX4_mark 9 = .ok (.putfield 43, 3) := by decide +kernel
theorem dX4_mark_12 : decode cX4_mark 12 = .ok (.aload_n 0, 1) := by decide +kernel
theorem dX4_mark_13 : decode cX4_mark 13 = .ok (.aload_n 0, 1) := by decide +kernel
theorem dX4_mark_14 : decode cX4_mark 14 = .ok (.getfield 14, 3) := by decide +kernel
theorem dX4_mark_17 : decode cX4_mark 17 = .ok (.getfield 75, 3) := by decide +kernel
theorem dX4_mark_20 : decode cX4_mark 20 = .ok (.iload_n 2, 1) := by decide +kernel
theorem dX4_mark_21 : decode cX4_mark 21 = .ok (.iaload, 1) := by decide +kernel
theorem dX4_mark_22 : decode cX4_mark 22 = .ok (.putfield 68, 3) := by decide +kernel
theorem dX4_mark_25 : decode cX4_mark 25 = .ok (.return_, 1) := by decide +kernel
theorem dX4_take_0 : decode cX4_take 0 = .ok (.aload_n 0, 1) := by decide +kernel
theorem dX4_take_1 : decode cX4_take 1 = .ok (.invokevirtual 46, 3) := by decide +kernel
theorem dX4_take_4 : decode cX4_take 4 = .ok (.iload_n 1, 1) := by decide +kernel
theorem dX4_take_5 : decode cX4_take 5 = .ok (.if_icmp .eq 11, 3) := by decide +kernel
theorem dX4_take_8 : decode cX4_take 8 = .ok (.aload_n 0, 1) := by decide +kernel
theorem dX4_take_9 : decode cX4_take 9 = .ok (.iconst 1, 1) := by decide +kernel
theorem dX4_take_10 : decode cX4_take 10 = .ok (.invokevirtual 78, 3) := by decide +kernel
theorem dX4_take_13 : decode cX4_take 13 = .ok (.goto 38, 3) := by decide +kernel
theorem dX4_take_16 : decode cX4_take 16 = .ok (.aload_n 0, 1) := by decide +kernel
theorem dX4_take_17 : decode cX4_take 17 = .ok (.getfield 37, 3) := by decide +kernel
theorem dX4_take_20 : decode cX4_take 20 = .ok (.sipush 400, 3) := by decide +kernel
theorem dX4_take_23 : decode cX4_take 23 = .ok (.if_icmp .lt 11, 3) := by decide +kernel
theorem dX4_take_26 : decode cX4_take 26 = .ok (.aload_n 0, 1) := by decide +kernel
theorem dX4_take_27 : decode cX4_take 27 = .ok (.iconst 2, 1) := by decide +kernel
theorem dX4_take_28 : decode cX4_take 28 = .ok (.invokevirtual 78, 3) := by decide +kernel
theorem dX4_take_31 : decode cX4_take 31 = .ok (.goto 20, 3) := by decide +kernel
theorem dX4_take_34 : decode cX4_take 34 = .ok (.aload_n 0, 1) := by decide +kernel
theorem dX4_take_35 : decode cX4_take 35 = .ok (.dup, 1) := by decide +kernel
theorem dX4_take_36 : decode cX4_take 36 = .ok (.getfield 37, 3) := by decide +kernel
theorem dX4_take_39 : decode cX4_take 39 = .ok (.iconst 1, 1) := by decide +kernel
theorem dX4_take_40 : decode cX4_take 40 = .ok (.iadd, 1) := by decide +kernel
theorem dX4_take_41 : decode cX4_take 41 = .ok (.putfield 37, 3) := by decide +kernel
theorem dX4_take_44 : decode cX4_take 44 = .ok (.aload_n 0, 1) := by decide +kernel
theorem dX4_take_45 : decode cX4_take 45 = .ok (.getfield 37, 3) := by decide +kernel
theorem dX4_take_48 : decode cX4_take 48 = .ok (.iconst 1, 1) := by decide +kernel
theorem dX4_take_49 : decode cX4_take 49 = .ok (.isub, 1) := by decide +kernel
theorem dX4_take_50 : decode cX4_take 50 = .ok (.ireturn, 1) := by decide +kernel
theorem dX4_take_51 : decode cX4_take 51 = .ok (.aload_n 0, 1) := by decide +kernel
theorem dX4_take_52 : decode cX4_take 52 = .ok (.getfield 37, 3) := by decide +kernel
theorem dX4_take_55 : decode cX4_take 55 = .ok (.ireturn, 1) := by decide +kernel
theorem dX4_takeNewName_0 : decode cX4_takeNewName 0 = .ok (.aload_n 0, 1) := by decide +kernel
theorem dX4_takeNewName_1 : decode cX4_takeNewName 1 = .ok (.bipush 21, 2) := by decide +kernel
theorem dX4_takeNewName_3 : decode cX4_takeNewName 3 = .ok (.invokevirtual 81, 3) := by decide +kernel
theorem dX4_takeNewName_6 : decode cX4_takeNewName 6 = .ok (.istore_n 1, 1) := by decide +kernel
theorem dX4_takeNewName_7 : decode cX4_takeNewName 7 = .ok (.aload_n 0, 1) := by decide +kernel
theorem dX4_takeNewName_8 : decode cX4_takeNewName 8 = .ok (.getfield 14, 3) := by decide +kernel
theorem dX4_takeNewName_11 : decode cX4_takeNewName 11 = .ok (.getfield 85, 3) := by decide +kernel
theorem dX4_takeNewName_14 : decode cX4_takeNewName 14 = .ok (.iload_n 1, 1) := by decide +kernel
theorem dX4_takeNewName_15 : decode cX4_takeNewName 15 = .ok (.laload, 1) := by decide +kernel
theorem dX4_takeNewName_16 : decode cX4_takeNewName 16 = .ok (.lstore_n 2, 1) := by decide +kernel
theorem dX4_takeNewName_17 : decode cX4_takeNewName 17 = .ok (.aload_n 0, 1) := by decide +kernel
theorem dX4_takeNewName_18 : decode cX4_takeNewName 18 = .ok (.getfield 20, 3) := by decide +kernel
theorem dX4_takeNewName_21 : decode cX4_takeNewName 21 = .ok (.lload_n 2, 1) := by decide +kernel
theorem dX4_takeNewName_22 : decode cX4_takeNewName 22 = .ok (.invokevirtual 89, 3) := by decide +kernel
theorem dX4_takeNewName_25 : decode cX4_takeNewName 25 = .ok (.iconst (-1), 1) := by decide +kernel
theorem dX4_takeNewName_26 : decode cX4_takeNewName 26 = .ok (.if_icmp .ne 15, 3) := by decide +kernel
theorem dX4_takeNewName_29 : decode cX4_takeNewName 29 = .ok (.aload_n 0, 1) := by decide +kernel
theorem dX4_takeNewName_30 : decode cX4_takeNewName 30 = .ok (.getfield 20, 3) := by decide +kernel
theorem dX4_takeNewName_33 : decode cX4_takeNewName 33 = .ok (.lload_n 2, 1) := by decide +kernel
theorem dX4_takeNewName_34 : decode cX4_takeNewName 34 = .ok (.invokevirtual 93, 3) := by decide +kernel
theorem dX4_takeNewName_37 : decode cX4_takeNewName 37 = .ok (.iconst (-1), 1) := by decide +kernel
theorem dX4_takeNewName_38 : decode cX4_takeNewName 38 = .ok (.if_icmp .eq 9, 3) := by decide +kernel
theorem dX4_takeNewName_41 : decode cX4_takeNewName 41 = .ok (.aload_n 0, 1) := by decide +kernel
theorem dX4_takeNewName_42 : decode cX4_takeNewName 42 = .ok (.iconst 3, 1) := by decide +kernel
theorem dX4_takeNewName_43 : decode cX4_takeNewName 43 = .ok (.iload_n 1, 1) := by decide +kernel
theorem dX4_takeNewName_44 : decode cX4_takeNewName 44 = .ok (.invokevirtual 96, 3) := by decide +kernel
theorem dX4_takeNewName_47 : decode cX4_takeNewName 47 = .ok (.lload_n 2, 1) := by decide +kernel
theorem dX4_takeNewName_48 : decode cX4_takeNewName 48 = .ok (.lreturn, 1) := by decide +kernel
theorem dX4_takeNumber_0 : decode cX4_takeNumber 0 = .ok (.aload_n 0, 1) := by decide +kernel
theorem dX4_takeNumber_1 : decode cX4_takeNumber 1 = .ok (.bipush 22, 2) := by decide +kernel
theorem dX4_takeNumber_3 : decode cX4_takeNumber 3 = .ok (.invokevirtual 81, 3) := by decide +kernel
theorem dX4_takeNumber_6 : decode cX4_takeNumber 6 = .ok (.istore 4, 2) := by decide +kernel
theorem dX4_takeNumber_8 : decode cX4_takeNumber 8 = .ok (.iload_n 1, 1) := by decide +kernel
theorem dX4_takeNumber_9 : decode cX4_takeNumber 9 = .ok (.aload_n 0, 1) := by decide +kernel
theorem dX4_takeNumber_10 : decode cX4_takeNumber 10 = .ok (.getfield 14, 3) := by decide +kernel
theorem dX4_takeNumber_13 : decode cX4_takeNumber 13 = .ok (.getfield 85, 3) := by decide +kernel
theorem dX4_takeNumber_16 : decode cX4_takeNumber 16 = .ok (.iload 4, 2) := by decide +kernel
theorem dX4_takeNumber_18 : decode cX4_takeNumber 18 = .ok (.laload, 1) := by decide +kernel
theorem dX4_takeNumber_19 : decode cX4_takeNumber 19 = .ok (.l2i, 1) := by decide +kernel
theorem dX4_takeNumber_20 : decode cX4_takeNumber 20 = .ok (.imul, 1) := by decide +kernel
theorem dX4_takeNumber_21 : decode cX4_takeNumber 21 = .ok (.istore 5, 2) := by decide +kernel
theorem dX4_takeNumber_23 : decode cX4_takeNumber 23 = .ok (.iload 5, 2) := by decide +kernel
theorem dX4_takeNumber_25 : decode cX4_takeNumber 25 = .ok (.iload_n 2, 1) := by decide +kernel
theorem dX4_takeNumber_26 : decode cX4_takeNumber 26 = .ok (.if_icmp .lt 9, 3) := by decide +kernel
theorem dX4_takeNumber_29 : decode cX4_takeNumber 29 = .ok (.iload 5, 2) := by decide +kernel
theorem dX4_takeNumber_31 : decode cX4_takeNumber 31 = .ok (.iload_n 3, 1) := by decide +kernel
theorem dX4_takeNumber_32 : decode cX4_takeNumber 32 = .ok (.if_icmp .le 10, 3) := by decide +kernel
theorem dX4_takeNumber_35 : decode cX4_takeNumber 35 = .ok (.aload_n 0, 1) := by decide +kernel
theorem dX4_takeNumber_36 : decode cX4_takeNumber 36 = .ok (.iconst 5, 1) := by decide +kernel
theorem dX4_takeNumber_37 : decode cX4_takeNumber 37 = .ok (.iload 4, 2) := by decide +kernel
theorem dX4_takeNumber_39 : decode cX4_takeNumber 39 = .ok (.invokevirtual 96, 3) := by decide +kernel
theorem dX4_takeNumber_42 : decode cX4_takeNumber 42 = .ok (.iload 5, 2) := by decide +kernel
theorem dX4_takeNumber_44 : decode cX4_takeNumber 44 = .ok (.ireturn, 1) := by decide +kernel
theorem dX4_takeStep_0 : decode cX4_takeStep 0 = .ok (.iconst 1, 1) := by decide +kernel
theorem dX4_takeStep_1 : decode cX4_takeStep 1 = .ok (.istore_n 1, 1) := by decide +kernel
theorem dX4_takeStep_2 : decode cX4_takeStep 2 = .ok (.aload_n 0, 1) := by decide +kernel
theorem dX4_takeStep_3 : decode cX4_takeStep 3 = .ok (.invokevirtual 46, 3) := by decide +kernel
theorem dX4_takeStep_6 : decode cX4_takeStep 6 = .ok (.bipush 45, 2) := by decide +kernel
theorem dX4_takeStep_8 : decode cX4_takeStep 8 = .ok (.if_icmp .ne 12, 3) := by decide +kernel
theorem dX4_takeStep_11 : decode cX4_takeStep 11 = .ok (.aload_n 0, 1) := by decide +kernel
theorem dX4_takeStep_12 : decode cX4_takeStep 12 = .ok (.bipush 45, 2) := by decide +kernel
theorem dX4_takeStep_14 : decode cX4_takeStep 14 = .ok (.invokevirtual 81, 3) := by decide +kernel
theorem dX4_takeStep_17 : decode cX4_takeStep 17 = .ok (.pop, 1) := by decide +kernel
theorem dX4_takeStep_18 : decode cX4_takeStep 18 = .ok (.iconst (-1), 1) := by decide +kernel
theorem dX4_takeStep_19 : decode cX4_takeStep 19 = .ok (.istore_n 1, 1) := by decide +kernel
theorem dX4_takeStep_20 : decode cX4_takeStep 20 = .ok (.aload_n 0, 1) := by decide +kernel
theorem dX4_takeStep_21 : decode cX4_takeStep 21 = .ok (.iload_n 1, 1) := by decide +kernel
theorem dX4_takeStep_22 : decode cX4_takeStep 22 = .ok (.bipush (-3), 2) := by decide +kernel
theorem dX4_takeStep_24 : decode cX4_takeStep 24 = .ok (.iconst 3, 1) := by decide +kernel
theorem dX4_takeStep_25 : decode cX4_takeStep 25 = .ok (.invokevirtual 100, 3) := by decide +kernel
theorem dX4_takeStep_28 : decode cX4_takeStep 28 = .ok (.ireturn, 1) := by decide +kernel
theorem dX4_readMermaid_0 : decode cX4_readMermaid 0 = .ok (.aload_n 0, 1) := by decide +kernel
theorem dX4_readMermaid_1 : decode cX4_readMermaid 1 = .ok (.getfield 20, 3) := by decide +kernel
theorem dX4_readMermaid_4 : decode cX4_readMermaid 4 = .ok (.getfield 104, 3) := by decide +kernel
theorem dX4_readMermaid_7 : decode cX4_readMermaid 7 = .ok (.iconst 4, 1) := by decide +kernel
theorem dX4_readMermaid_8 : decode cX4_readMermaid 8 = .ok (.if_icmp .lt 8, 3) := by decide +kernel
theorem dX4_readMermaid_11 : decode cX4_readMermaid 11 = .ok (.aload_n 0, 1) := by decide +kernel
theorem dX4_readMermaid_12 : decode cX4_readMermaid 12 = .ok (.iconst 2, 1) := by decide +kernel
theorem dX4_readMermaid_13 : decode cX4_readMermaid 13 = .ok (.invokevirtual 78, 3) := by decide +kernel
theorem dX4_readMermaid_16 : decode cX4_readMermaid 16 = .ok (.aload_n 0, 1) := by decide +kernel
theorem dX4_readMermaid_17 : decode cX4_readMermaid 17 = .ok (.iconst 0, 1) := by decide +kernel
theorem dX4_readMermaid_18 : decode cX4_readMermaid 18 = .ok (.invokevirtual 81, 3) := by decide +kernel
theorem dX4_readMermaid_21 : decode cX4_readMermaid 21 = .ok (.pop, 1) := by decide +kernel
theorem dX4_readMermaid_22 : decode cX4_readMermaid 22 = .ok (.aload_n 0, 1) := by decide +kernel
theorem dX4_readMermaid_23 : decode cX4_readMermaid 23 = .ok (.invokevirtual 107, 3) := by decide +kernel
theorem dX4_readMermaid_26 : decode cX4_readMermaid 26 = .ok (.lstore_n 1, 1) := by decide +kernel
theorem dX4_readMermaid_27 : decode cX4_readMermaid 27 = .ok (.aload_n 0, 1) := by decide +kernel
theorem dX4_readMermaid_28 : decode cX4_readMermaid 28 = .ok (.iconst 1, 1) := by decide +kernel
theorem dX4_readMermaid_29 : decode cX4_readMermaid 29 = .ok (.iconst 0, 1) := by decide +kernel
theorem dX4_readMermaid_30 : decode cX4_readMermaid 30 = .ok (.bipush 9, 2) := by decide +kernel
theorem dX4_readMermaid_32 : decode cX4_readMermaid 32 = .ok (.invokevirtual 100, 3) := by decide +kernel
theorem dX4_readMermaid_35 : decode cX4_readMermaid 35 = .ok (.istore_n 3, 1) := by decide +kernel
theorem dX4_readMermaid_36 : decode cX4_readMermaid 36 = .ok (.aload_n 0, 1) := by decide +kernel
theorem dX4_readMermaid_37 : decode cX4_readMermaid 37 = .ok (.iconst 1, 1) := by decide +kernel
theorem dX4_readMermaid_38 : decode cX4_readMermaid 38 = .ok (.iconst 0, 1) := by decide +kernel
theorem dX4_readMermaid_39 : decode cX4_readMermaid 39 = .ok (.bipush 9, 2) := by decide +kernel
theorem dX4_readMermaid_41 : decode cX4_readMermaid 41 = .ok (.invokevirtual 100, 3) := by decide +kernel
theorem dX4_readMermaid_44 : decode cX4_readMermaid 44 = .ok (.istore 4, 2) := by decide +kernel
theorem dX4_readMermaid_46 : decode cX4_readMermaid 46 = .ok (.aload_n 0, 1) := by decide +kernel
theorem dX4_readMermaid_47 : decode cX4_readMermaid 47 = .ok (.invokevirtual 111, 3) := by decide +kernel
theorem dX4_readMermaid_50 : decode cX4_readMermaid 50 = .ok (.istore 5, 2) := by decide +kernel
theorem dX4_readMermaid_52 : decode cX4_readMermaid 52 = .ok (.aload_n 0, 1) := by decide +kernel
theorem dX4_readMermaid_53 : decode cX4_readMermaid 53 = .ok (.invokevirtual 111, 3) := by decide +kernel
theorem dX4_readMermaid_56 : decode cX4_readMermaid 56 = .ok (.istore 6, 2) := by decide +kernel
theorem dX4_readMermaid_58 : decode cX4_readMermaid 58 = .ok (.aload_n 0, 1) := by decide +kernel
theorem dX4_readMermaid_59 : decode cX4_readMermaid 59 = .ok (.bipush 59, 2) := by decide +kernel
theorem dX4_readMermaid_61 : decode cX4_readMermaid 61 = .ok (.invokevirtual 81, 3) := by decide +kernel
theorem dX4_readMermaid_64 : decode cX4_readMermaid 64 = .ok (.pop, 1) := by decide +kernel
theorem dX4_readMermaid_65 : decode cX4_readMermaid 65 = .ok (.aload_n 0, 1) := by decide +kernel
theorem dX4_readMermaid_66 : decode cX4_readMermaid 66 = .ok (.getfield 20, 3) := by decide +kernel
theorem dX4_readMermaid_69 : decode cX4_readMermaid 69 = .ok (.lload_n 1, 1) := by decide +kernel
theorem dX4_readMermaid_70 : decode cX4_readMermaid 70 = .ok (.iload_n 3, 1) := by decide +kernel
theorem dX4_readMermaid_71 : decode cX4_readMermaid 71 = .ok (.iload 4, 2) := by decide +kernel
theorem dX4_readMermaid_73 : decode cX4_readMermaid 73 = .ok (.iload 5, 2) := by decide +kernel
theorem dX4_readMermaid_75 : decode cX4_readMermaid 75 = .ok (.iload 6, 2) := by decide +kernel
theorem dX4_readMermaid_77 : decode cX4_readMermaid 77 = .ok (.invokevirtual 114, 3) := by decide +kernel
theorem dX4_readMermaid_80 : decode cX4_readMermaid 80 = .ok (.return_, 1) := by decide +kernel
theorem dX4_readPerson_0 : decode cX4_readPerson 0 = .ok (.aload_n 0, 1) := by decide +kernel
theorem dX4_readPerson_1 : decode cX4_readPerson 1 = .ok (.getfield 20, 3) := by decide +kernel
theorem dX4_readPerson_4 : decode cX4_readPerson 4 = .ok (.getfield 118, 3) := by decide +kernel
theorem dX4_readPerson_7 : decode cX4_readPerson 7 = .ok (.bipush 6, 2) := by decide +kernel
theorem dX4_readPerson_9 : decode cX4_readPerson 9 = .ok (.if_icmp .lt 8, 3) := by decide +kernel
theorem dX4_readPerson_12 : decode cX4_readPerson 12 = .ok (.aload_n 0, 1) := by decide +kernel
theorem dX4_readPerson_13 : decode cX4_readPerson 13 = .ok (.iconst 2, 1) := by decide +kernel
theorem dX4_readPerson_14 : decode cX4_readPerson 14 = .ok (.invokevirtual 78, 3) := by decide +kernel
theorem dX4_readPerson_17 : decode cX4_readPerson 17 = .ok (.aload_n 0, 1) := by decide +kernel
theorem dX4_readPerson_18 : decode cX4_readPerson 18 = .ok (.iconst 1, 1) := by decide +kernel
theorem dX4_readPerson_19 : decode cX4_readPerson 19 = .ok (.invokevirtual 81, 3) := by decide +kernel
theorem dX4_readPerson_22 : decode cX4_readPerson 22 = .ok (.pop, 1) := by decide +kernel
theorem dX4_readPerson_23 : decode cX4_readPerson 23 = .ok (.aload_n 0, 1) := by decide +kernel
theorem dX4_readPerson_24 : decode cX4_readPerson 24 = .ok (.invokevirtual 107, 3) := by decide +kernel
theorem dX4_readPerson_27 : decode cX4_readPerson 27 = .ok (.lstore_n 1, 1) := by decide +kernel
theorem dX4_readPerson_28 : decode cX4_readPerson 28 = .ok (.aload_n 0, 1) := by decide +kernel
theorem dX4_readPerson_29 : decode cX4_readPerson 29 = .ok (.iconst 1, 1) := by decide +kernel
theorem dX4_readPerson_30 : decode cX4_readPerson 30 = .ok (.iconst 0, 1) := by decide +kernel
theorem dX4_readPerson_31 : decode cX4_readPerson 31 = .ok (.bipush 9, 2) := by decide +kernel
theorem dX4_readPerson_33 : decode cX4_readPerson 33 = .ok (.invokevirtual 100, 3) := by decide +kernel
theorem dX4_readPerson_36 : decode cX4_readPerson 36 = .ok (.istore_n 3, 1) := by decide +kernel
theorem dX4_readPerson_37 : decode cX4_readPerson 37 = .ok (.aload_n 0, 1) := by decide +kernel
theorem dX4_readPerson_38 : decode cX4_readPerson 38 = .ok (.iconst 1, 1) := by decide +kernel
theorem dX4_readPerson_39 : decode cX4_readPerson 39 = .ok (.iconst 0, 1) := by decide +kernel
theorem dX4_readPerson_40 : decode cX4_readPerson 40 = .ok (.bipush 9, 2) := by decide +kernel
theorem dX4_readPerson_42 : decode cX4_readPerson 42 = .ok (.invokevirtual 100, 3) := by decide +kernel
theorem dX4_readPerson_45 : decode cX4_readPerson 45 = .ok (.istore 4, 2) := by decide +kernel
theorem dX4_readPerson_47 : decode cX4_readPerson 47 = .ok (.aload_n 0, 1) := by decide +kernel
theorem dX4_readPerson_48 : decode cX4_readPerson 48 = .ok (.iconst 1, 1) := by decide +kernel
theorem dX4_readPerson_49 : decode cX4_readPerson 49 = .ok (.iconst 1, 1) := by decide +kernel
theorem dX4_readPerson_50 : decode cX4_readPerson 50 = .ok (.bipush 99, 2) := by decide +kernel
theorem dX4_readPerson_52 : decode cX4_readPerson 52 = .ok (.invokevirtual 100, 3) := by decide +kernel
theorem dX4_readPerson_55 : decode cX4_readPerson 55 = .ok (.istore 5, 2) := by decide +kernel
theorem dX4_readPerson_57 : decode cX4_readPerson 57 = .ok (.aload_n 0, 1) := by decide +kernel
theorem dX4_readPerson_58 : decode cX4_readPerson 58 = .ok (.bipush 59, 2) := by decide +kernel
theorem dX4_readPerson_60 : decode cX4_readPerson 60 = .ok (.invokevirtual 81, 3) := by decide +kernel
theorem dX4_readPerson_63 : decode cX4_readPerson 63 = .ok (.pop, 1) := by decide +kernel
theorem dX4_readPerson_64 : decode cX4_readPerson 64 = .ok (.aload_n 0, 1) := by decide +kernel
theorem dX4_readPerson_65 : decode cX4_readPerson 65 = .ok (.getfield 20, 3) := by decide +kernel
theorem dX4_readPerson_68 : decode cX4_readPerson 68 = .ok (.lload_n 1, 1) := by decide +kernel
theorem dX4_readPerson_69 : decode cX4_readPerson 69 = .ok (.iload_n 3, 1) := by decide +kernel
theorem dX4_readPerson_70 : decode cX4_readPerson 70 = .ok (.iload 4, 2) := by decide +kernel
theorem dX4_readPerson_72 : decode cX4_readPerson 72 = .ok (.iload 5, 2) := by decide +kernel
theorem dX4_readPerson_74 : decode cX4_readPerson 74 = .ok (.invokevirtual 121, 3) := by decide +kernel
theorem dX4_readPerson_77 : decode cX4_readPerson 77 = .ok (.return_, 1) := by decide +kernel
theorem dX4_readStrand_0 : decode cX4_readStrand 0 = .ok (.aload_n 0, 1) := by decide +kernel
theorem dX4_readStrand_1 : decode cX4_readStrand 1 = .ok (.getfield 20, 3) := by decide +kernel
theorem dX4_readStrand_4 : decode cX4_readStrand 4 = .ok (.getfield 125, 3) := by decide +kernel
theorem dX4_readStrand_7 : decode cX4_readStrand 7 = .ok (.bipush 8, 2) := by decide +kernel
theorem dX4_readStrand_9 : decode cX4_readStrand 9 = .ok (.if_icmp .lt 8, 3) := by decide +kernel
theorem dX4_readStrand_12 : decode cX4_readStrand 12 = .ok (.aload_n 0, 1) := by decide +kernel
theorem dX4_readStrand_13 : decode cX4_readStrand 13 = .ok (.iconst 2, 1) := by decide +kernel
theorem dX4_readStrand_14 : decode cX4_readStrand 14 = .ok (.invokevirtual 78, 3) := by decide +kernel
theorem dX4_readStrand_17 : decode cX4_readStrand 17 = .ok (.aload_n 0, 1) := by decide +kernel
theorem dX4_readStrand_18 : decode cX4_readStrand 18 = .ok (.iconst 2, 1) := by decide +kernel
theorem dX4_readStrand_19 : decode cX4_readStrand 19 = .ok (.invokevirtual 81, 3) := by decide +kernel
theorem dX4_readStrand_22 : decode cX4_readStrand 22 = .ok (.pop, 1) := by decide +kernel
theorem dX4_readStrand_23 : decode cX4_readStrand 23 = .ok (.aload_n 0, 1) := by decide +kernel
theorem dX4_readStrand_24 : decode cX4_readStrand 24 = .ok (.bipush 21, 2) := by decide +kernel
theorem dX4_readStrand_26 : decode cX4_readStrand 26 = .ok (.invokevirtual 81, 3) := by decide +kernel
theorem dX4_readStrand_29 : decode cX4_readStrand 29 = .ok (.istore_n 1, 1) := by decide +kernel
theorem dX4_readStrand_30 : decode cX4_readStrand 30 = .ok (.aload_n 0, 1) := by decide +kernel
theorem dX4_readStrand_31 : decode cX4_readStrand 31 = .ok (.getfield 20, 3) := by decide +kernel
theorem dX4_readStrand_34 : decode cX4_readStrand 34 = .ok (.aload_n 0, 1) := by decide +kernel
theorem dX4_readStrand_35 : decode cX4_readStrand 35 = .ok (.getfield 14, 3) := by decide +kernel
theorem dX4_readStrand_38 : decode cX4_readStrand 38 = .ok (.getfield 85, 3) := by decide +kernel
theorem dX4_readStrand_41 : decode cX4_readStrand 41 = .ok (.iload_n 1, 1) := by decide +kernel
theorem dX4_readStrand_42 : decode cX4_readStrand 42 = .ok (.laload, 1) := by decide +kernel
theorem dX4_readStrand_43 : decode cX4_readStrand 43 = .ok (.invokevirtual 89, 3) := by decide +kernel
theorem dX4_readStrand_46 : decode cX4_readStrand 46 = .ok (.istore_n 2, 1) := by decide +kernel
theorem dX4_readStrand_47 : decode cX4_readStrand 47 = .ok (.iload_n 2, 1) := by decide +kernel
theorem dX4_readStrand_48 : decode cX4_readStrand 48 = .ok (.iconst (-1), 1) := by decide +kernel
theorem dX4_readStrand_49 : decode cX4_readStrand 49 = .ok (.if_icmp .ne 9, 3) := by decide +kernel
theorem dX4_readStrand_52 : decode cX4_readStrand 52 = .ok (.aload_n 0, 1) := by decide +kernel
theorem dX4_readStrand_53 : decode cX4_readStrand 53 = .ok (.iconst 4, 1) := by decide +kernel
theorem dX4_readStrand_54 : decode cX4_readStrand 54 = .ok (.iload_n 1, 1) := by decide +kernel
theorem dX4_readStrand_55 : decode cX4_readStrand 55 = .ok (.invokevirtual 96, 3) := by decide +kernel
theorem dX4_readStrand_58 : decode cX4_readStrand 58 = .ok (.aload_n 0, 1) := by decide +kernel
theorem dX4_readStrand_59 : decode cX4_readStrand 59 = .ok (.bipush 21, 2) := by decide +kernel
theorem dX4_readStrand_61 : decode cX4_readStrand 61 = .ok (.invokevirtual 81, 3) := by decide +kernel
theorem dX4_readStrand_64 : decode cX4_readStrand 64 = .ok (.istore_n 3, 1) := by decide +kernel
theorem dX4_readStrand_65 : decode cX4_readStrand 65 = .ok (.aload_n 0, 1) := by decide +kernel
theorem dX4_readStrand_66 : decode cX4_readStrand 66 = .ok (.getfield 20, 3) := by decide +kernel
theorem dX4_readStrand_69 : decode cX4_readStrand 69 = .ok (.aload_n 0, 1) := by decide +kernel
theorem dX4_readStrand_70 : decode cX4_readStrand 70 = .ok (.getfield 14, 3) := by decide +kernel
theorem dX4_readStrand_73 : decode cX4_readStrand 73 = .ok (.getfield 85, 3) := by decide +kernel
theorem dX4_readStrand_76 : decode cX4_readStrand 76 = .ok (.iload_n 3, 1) := by decide +kernel
theorem dX4_readStrand_77 : decode cX4_readStrand 77 = .ok (.laload, 1) := by decide +kernel
theorem dX4_readStrand_78 : decode cX4_readStrand 78 = .ok (.invokevirtual 93, 3) := by decide +kernel
theorem dX4_readStrand_81 : decode cX4_readStrand 81 = .ok (.istore 4, 2) := by decide +kernel
theorem dX4_readStrand_83 : decode cX4_readStrand 83 = .ok (.iload 4, 2) := by decide +kernel
theorem dX4_readStrand_85 : decode cX4_readStrand 85 = .ok (.iconst (-1), 1) := by decide +kernel
theorem dX4_readStrand_86 : decode cX4_readStrand 86 = .ok (.if_icmp .ne 9, 3) := by decide +kernel
theorem dX4_readStrand_89 : decode cX4_readStrand 89 = .ok (.aload_n 0, 1) := by decide +kernel
theorem dX4_readStrand_90 : decode cX4_readStrand 90 = .ok (.iconst 4, 1) := by decide +kernel
theorem dX4_readStrand_91 : decode cX4_readStrand 91 = .ok (.iload_n 3, 1) := by decide +kernel
theorem dX4_readStrand_92 : decode cX4_readStrand 92 = .ok (.invokevirtual 96, 3) := by decide +kernel
theorem dX4_readStrand_95 : decode cX4_readStrand 95 = .ok (.aload_n 0, 1) := by decide +kernel
theorem dX4_readStrand_96 : decode cX4_readStrand 96 = .ok (.iconst 1, 1) := by decide +kernel
theorem dX4_readStrand_97 : decode cX4_readStrand 97 = .ok (.iconst 1, 1) := by decide +kernel
theorem dX4_readStrand_98 : decode cX4_readStrand 98 = .ok (.bipush 9, 2) := by decide +kernel
theorem dX4_readStrand_100 : decode cX4_readStrand 100 = .ok (.invokevirtual 100, 3) := by decide +kernel
theorem dX4_readStrand_103 : decode cX4_readStrand 103 = .ok (.istore 5, 2) := by decide +kernel
theorem dX4_readStrand_105 : decode cX4_readStrand 105 = .ok (.aload_n 0, 1) := by decide +kernel
theorem dX4_readStrand_106 : decode cX4_readStrand 106 = .ok (.bipush 59, 2) := by decide +kernel
theorem dX4_readStrand_108 : decode cX4_readStrand 108 = .ok (.invokevirtual 81, 3) := by decide +kernel
theorem dX4_readStrand_111 : decode cX4_readStrand 111 = .ok (.pop, 1) := by decide +kernel
theorem dX4_readStrand_112 : decode cX4_readStrand 112 = .ok (.aload_n 0, 1) := by decide +kernel
theorem dX4_readStrand_113 : decode cX4_readStrand 113 = .ok (.getfield 20, 3) := by decide +kernel
theorem dX4_readStrand_116 : decode cX4_readStrand 116 = .ok (.iload_n 2, 1) := by decide +kernel
theorem dX4_readStrand_117 : decode cX4_readStrand 117 = .ok (.iload 4, 2) := by decide +kernel
theorem dX4_readStrand_119 : decode cX4_readStrand 119 = .ok (.iload 5, 2) := by decide +kernel
theorem dX4_readStrand_121 : decode cX4_readStrand 121 = .ok (.invokevirtual 128, 3) := by decide +kernel
theorem dX4_readStrand_124 : decode cX4_readStrand 124 = .ok (.return_, 1) := by decide +kernel
theorem dX4_readPier_0 : decode cX4_readPier 0 = .ok (.aload_n 0, 1) := by decide +kernel
theorem dX4_readPier_1 : decode cX4_readPier 1 = .ok (.bipush 7, 2) := by decide +kernel
theorem dX4_readPier_3 : decode cX4_readPier 3 = .ok (.invokevirtual 81, 3) := by decide +kernel
theorem dX4_readPier_6 : decode cX4_readPier 6 = .ok (.pop, 1) := by decide +kernel
theorem dX4_readPier_7 : decode cX4_readPier 7 = .ok (.aload_n 0, 1) := by decide +kernel
theorem dX4_readPier_8 : decode cX4_readPier 8 = .ok (.getfield 20, 3) := by decide +kernel
theorem dX4_readPier_11 : decode cX4_readPier 11 = .ok (.aload_n 0, 1) := by decide +kernel
theorem dX4_readPier_12 : decode cX4_readPier 12 = .ok (.iconst 1, 1) := by decide +kernel
theorem dX4_readPier_13 : decode cX4_readPier 13 = .ok (.iconst 0, 1) := by decide +kernel
theorem dX4_readPier_14 : decode cX4_readPier 14 = .ok (.bipush 9, 2) := by decide +kernel
theorem dX4_readPier_16 : decode cX4_readPier 16 = .ok (.invokevirtual 100, 3) := by decide +kernel
theorem dX4_readPier_19 : decode cX4_readPier 19 = .ok (.putfield 132, 3) := by decide +kernel
theorem dX4_readPier_22 : decode cX4_readPier 22 = .ok (.aload_n 0, 1) := by decide +kernel
theorem dX4_readPier_23 : decode cX4_readPier 23 = .ok (.bipush 59, 2) := by decide +kernel
theorem dX4_readPier_25 : decode cX4_readPier 25 = .ok (.invokevirtual 81, 3) := by decide +kernel
theorem dX4_readPier_28 : decode cX4_readPier 28 = .ok (.pop, 1) := by decide +kernel
theorem dX4_readPier_29 : decode cX4_readPier 29 = .ok (.return_, 1) := by decide +kernel
theorem dX4_readSeed_0 : decode cX4_readSeed 0 = .ok (.aload_n 0, 1) := by decide +kernel
theorem dX4_readSeed_1 : decode cX4_readSeed 1 = .ok (.bipush 8, 2) := by decide +kernel
theorem dX4_readSeed_3 : decode cX4_readSeed 3 = .ok (.invokevirtual 81, 3) := by decide +kernel
theorem dX4_readSeed_6 : decode cX4_readSeed 6 = .ok (.pop, 1) := by decide +kernel
theorem dX4_readSeed_7 : decode cX4_readSeed 7 = .ok (.aload_n 0, 1) := by decide +kernel
theorem dX4_readSeed_8 : decode cX4_readSeed 8 = .ok (.getfield 20, 3) := by decide +kernel
theorem dX4_readSeed_11 : decode cX4_readSeed 11 = .ok (.aload_n 0, 1) := by decide +kernel
theorem dX4_readSeed_12 : decode cX4_readSeed 12 = .ok (.iconst 1, 1) := by decide +kernel
theorem dX4_readSeed_13 : decode cX4_readSeed 13 = .ok (.iconst 0, 1) := by decide +kernel
theorem dX4_readSeed_14 : decode cX4_readSeed 14 = .ok (.sipush 9999, 3) := by decide +kernel
theorem dX4_readSeed_17 : decode cX4_readSeed 17 = .ok (.invokevirtual 100, 3) := by decide +kernel
theorem dX4_readSeed_20 : decode cX4_readSeed 20 = .ok (.putfield 135, 3) := by decide +kernel
theorem dX4_readSeed_23 : decode cX4_readSeed 23 = .ok (.aload_n 0, 1) := by decide +kernel
theorem dX4_readSeed_24 : decode cX4_readSeed 24 = .ok (.bipush 59, 2) := by decide +kernel
theorem dX4_readSeed_26 : decode cX4_readSeed 26 = .ok (.invokevirtual 81, 3) := by decide +kernel
theorem dX4_readSeed_29 : decode cX4_readSeed 29 = .ok (.pop, 1) := by decide +kernel
theorem dX4_readSeed_30 : decode cX4_readSeed 30 = .ok (.return_, 1) := by decide +kernel
theorem dX4_readLaw_0 : decode cX4_readLaw 0 = .ok (.iload_n 1, 1) := by decide +kernel
theorem dX4_readLaw_1 : decode cX4_readLaw 1 = .ok (.iconst 3, 1) := by decide +kernel
theorem dX4_readLaw_2 : decode cX4_readLaw 2 = .ok (.if_icmp .lt 9, 3) := by decide +kernel
theorem dX4_readLaw_5 : decode cX4_readLaw 5 = .ok (.iload_n 1, 1) := by decide +kernel
theorem dX4_readLaw_6 : decode cX4_readLaw 6 = .ok (.bipush 6, 2) := by decide +kernel
theorem dX4_readLaw_8 : decode cX4_readLaw 8 = .ok (.if_icmp .le 9, 3) := by decide +kernel
theorem dX4_readLaw_11 : decode cX4_readLaw 11 = .ok (.aload_n 0, 1) := by decide +kernel
theorem dX4_readLaw_12 : decode cX4_readLaw 12 = .ok (.iconst 1, 1) := by decide +kernel
theorem dX4_readLaw_13 : decode cX4_readLaw 13 = .ok (.invokevirtual 78, 3) := by decide +kernel
theorem dX4_readLaw_16 : decode cX4_readLaw 16 = .ok (.return_, 1) := by decide +kernel
theorem dX4_readLaw_17 : decode cX4_readLaw 17 = .ok (.iload_n 1, 1) := by decide +kernel
theorem dX4_readLaw_18 : decode cX4_readLaw 18 = .ok (.iconst 3, 1) := by decide +kernel
theorem dX4_readLaw_19 : decode cX4_readLaw 19 = .ok (.isub, 1) := by decide +kernel
theorem dX4_readLaw_20 : decode cX4_readLaw 20 = .ok (.istore_n 2, 1) := by decide +kernel
theorem dX4_readLaw_21 : decode cX4_readLaw 21 = .ok (.aload_n 0, 1) := by decide +kernel
theorem dX4_readLaw_22 : decode cX4_readLaw 22 = .ok (.iload_n 1, 1) := by decide +kernel
theorem dX4_readLaw_23 : decode cX4_readLaw 23 = .ok (.invokevirtual 81, 3) := by decide +kernel
theorem dX4_readLaw_26 : decode cX4_readLaw 26 = .ok (.pop, 1) := by decide +kernel
theorem dX4_readLaw_27 : decode cX4_readLaw 27 = .ok (.aload_n 0, 1) := by decide +kernel
theorem dX4_readLaw_28 : decode cX4_readLaw 28 = .ok (.bipush 61, 2) := by decide +kernel
theorem dX4_readLaw_30 : decode cX4_readLaw 30 = .ok (.invokevirtual 81, 3) := by decide +kernel
theorem dX4_readLaw_33 : decode cX4_readLaw 33 = .ok (.pop, 1) := by decide +kernel
theorem dX4_readLaw_34 : decode cX4_readLaw 34 = .ok (.aload_n 0, 1) := by decide +kernel
theorem dX4_readLaw_35 : decode cX4_readLaw 35 = .ok (.getfield 20, 3) := by decide +kernel
theorem dX4_readLaw_38 : decode cX4_readLaw 38 = .ok (.getfield 138, 3) := by decide +kernel
theorem dX4_readLaw_41 : decode cX4_readLaw 41 = .ok (.iload_n 2, 1) := by decide +kernel
theorem dX4_readLaw_42 : decode cX4_readLaw 42 = .ok (.invokevirtual 142, 3) := by decide +kernel
theorem dX4_readLaw_45 : decode cX4_readLaw 45 = .ok (.iconst 0, 1) := by decide +kernel
theorem dX4_readLaw_46 : decode cX4_readLaw 46 = .ok (.istore_n 3, 1) := by decide +kernel
theorem dX4_readLaw_47 : decode cX4_readLaw 47 = .ok (.iload_n 3, 1) := by decide +kernel
theorem dX4_readLaw_48 : decode cX4_readLaw 48 = .ok (.iconst 4, 1) := by decide +kernel
theorem dX4_readLaw_49 : decode cX4_readLaw 49 = .ok (.if_icmp .gt 104, 3) := by decide +kernel
theorem dX4_readLaw_52 : decode cX4_readLaw 52 = .ok (.aload_n 0, 1) := by decide +kernel
theorem dX4_readLaw_53 : decode cX4_readLaw 53 = .ok (.invokevirtual 46, 3) := by decide +kernel
theorem dX4_readLaw_56 : decode cX4_readLaw 56 = .ok (.bipush 9, 2) := by decide +kernel
theorem dX4_readLaw_58 : decode cX4_readLaw 58 = .ok (.if_icmp .ne 95, 3) := by decide +kernel
theorem dX4_readLaw_61 : decode cX4_readLaw 61 = .ok (.iload_n 3, 1) := by decide +kernel
theorem dX4_readLaw_62 : decode cX4_readLaw 62 = .ok (.iconst 4, 1) := by decide +kernel
theorem dX4_readLaw_63 : decode cX4_readLaw 63 = .ok (.if_icmp .ne 8, 3) := by decide +kernel
theorem dX4_readLaw_66 : decode cX4_readLaw 66 = .ok (.aload_n 0, 1) := by decide +kernel
theorem dX4_readLaw_67 : decode cX4_readLaw 67 = .ok (.iconst 2, 1) := by decide +kernel
theorem dX4_readLaw_68 : decode cX4_readLaw 68 = .ok (.invokevirtual 78, 3) := by decide +kernel
theorem dX4_readLaw_71 : decode cX4_readLaw 71 = .ok (.aload_n 0, 1) := by decide +kernel
theorem dX4_readLaw_72 : decode cX4_readLaw 72 = .ok (.bipush 9, 2) := by decide +kernel
theorem dX4_readLaw_74 : decode cX4_readLaw 74 = .ok (.invokevirtual 81, 3) := by decide +kernel
theorem dX4_readLaw_77 : decode cX4_readLaw 77 = .ok (.pop, 1) := by decide +kernel
theorem dX4_readLaw_78 : decode cX4_readLaw 78 = .ok (.aload_n 0, 1) := by decide +kernel
theorem dX4_readLaw_79 : decode cX4_readLaw 79 = .ok (.iconst 0, 1) := by decide +kernel
theorem dX4_readLaw_80 : decode cX4_readLaw 80 = .ok (.invokevirtual 147, 3) := by decide +kernel
theorem dX4_readLaw_83 : decode cX4_readLaw 83 = .ok (.aload_n 0, 1) := by decide +kernel
theorem dX4_readLaw_84 : decode cX4_readLaw 84 = .ok (.getfield 20, 3) := by decide +kernel
theorem dX4_readLaw_87 : decode cX4_readLaw 87 = .ok (.getfield 138, 3) := by decide +kernel
theorem dX4_readLaw_90 : decode cX4_readLaw 90 = .ok (.iload_n 2, 1) := by decide +kernel
theorem dX4_readLaw_91 : decode cX4_readLaw 91 = .ok (.invokevirtual 150, 3) := by decide +kernel
theorem dX4_readLaw_94 : decode cX4_readLaw 94 = .ok (.aload_n 0, 1) := by decide +kernel
theorem dX4_readLaw_95 : decode cX4_readLaw 95 = .ok (.bipush 60, 2) := by decide +kernel
theorem dX4_readLaw_97 : decode cX4_readLaw 97 = .ok (.invokevirtual 81, 3) := by decide +kernel
theorem dX4_readLaw_100 : decode cX4_readLaw 100 = .ok (.pop, 1) := by decide +kernel
theorem dX4_readLaw_101 : decode cX4_readLaw 101 = .ok (.aload_n 0, 1) := by decide +kernel
theorem dX4_readLaw_102 : decode cX4_readLaw 102 = .ok (.iconst 0, 1) := by decide +kernel
theorem dX4_readLaw_103 : decode cX4_readLaw 103 = .ok (.invokevirtual 147, 3) := by decide +kernel
theorem dX4_readLaw_106 : decode cX4_readLaw 106 = .ok (.aload_n 0, 1) := by decide +kernel
theorem dX4_readLaw_107 : decode cX4_readLaw 107 = .ok (.getfield 20, 3) := by decide +kernel
theorem dX4_readLaw_110 : decode cX4_readLaw 110 = .ok (.getfield 138, 3) := by decide +kernel
theorem dX4_readLaw_113 : decode cX4_readLaw 113 = .ok (.iload_n 2, 1) := by decide +kernel
theorem dX4_readLaw_114 : decode cX4_readLaw 114 = .ok (.invokevirtual 150, 3) := by decide +kernel
theorem dX4_readLaw_117 : decode cX4_readLaw 117 = .ok (.aload_n 0, 1) := by decide +kernel
theorem dX4_readLaw_118 : decode cX4_readLaw 118 = .ok (.bipush 10, 2) := by decide +kernel
theorem dX4_readLaw_120 : decode cX4_readLaw 120 = .ok (.invokevirtual 81, 3) := by decide +kernel
theorem dX4_readLaw_123 : decode cX4_readLaw 123 = .ok (.pop, 1) := by decide +kernel
theorem dX4_readLaw_124 : decode cX4_readLaw 124 = .ok (.aload_n 0, 1) := by decide +kernel
theorem dX4_readLaw_125 : decode cX4_readLaw 125 = .ok (.iconst 0, 1) := by decide +kernel
theorem dX4_readLaw_126 : decode cX4_readLaw 126 = .ok (.invokevirtual 147, 3) := by decide +kernel
theorem dX4_readLaw_129 : decode cX4_readLaw 129 = .ok (.aload_n 0, 1) := by decide +kernel
theorem dX4_readLaw_130 : decode cX4_readLaw 130 = .ok (.getfield 20, 3) := by decide +kernel
theorem dX4_readLaw_133 : decode cX4_readLaw 133 = .ok (.getfield 138, 3) := by decide +kernel
theorem dX4_readLaw_136 : decode cX4_readLaw 136 = .ok (.iload_n 2, 1) := by decide +kernel
theorem dX4_readLaw_137 : decode cX4_readLaw 137 = .ok (.invokevirtual 150, 3) := by decide +kernel
theorem dX4_readLaw_140 : decode cX4_readLaw 140 = .ok (.aload_n 0, 1) := by decide +kernel
theorem dX4_readLaw_141 : decode cX4_readLaw 141 = .ok (.bipush 11, 2) := by decide +kernel
theorem dX4_readLaw_143 : decode cX4_readLaw 143 = .ok (.invokevirtual 81, 3) := by decide +kernel
theorem dX4_readLaw_146 : decode cX4_readLaw 146 = .ok (.pop, 1) := by decide +kernel
theorem dX4_readLaw_147 : decode cX4_readLaw 147 = .ok (.iinc 3 1, 3) := by decide +kernel
theorem dX4_readLaw_150 : decode cX4_readLaw 150 = .ok (.goto (-103), 3) := by decide +kernel
theorem dX4_readLaw_153 : decode cX4_readLaw 153 = .ok (.aload_n 0, 1) := by decide +kernel
theorem dX4_readLaw_154 : decode cX4_readLaw 154 = .ok (.iconst 0, 1) := by decide +kernel
theorem dX4_readLaw_155 : decode cX4_readLaw 155 = .ok (.invokevirtual 147, 3) := by decide +kernel
theorem dX4_readLaw_158 : decode cX4_readLaw 158 = .ok (.aload_n 0, 1) := by decide +kernel
theorem dX4_readLaw_159 : decode cX4_readLaw 159 = .ok (.getfield 20, 3) := by decide +kernel
theorem dX4_readLaw_162 : decode cX4_readLaw 162 = .ok (.getfield 138, 3) := by decide +kernel
theorem dX4_readLaw_165 : decode cX4_readLaw 165 = .ok (.iload_n 2, 1) := by decide +kernel
theorem dX4_readLaw_166 : decode cX4_readLaw 166 = .ok (.invokevirtual 150, 3) := by decide +kernel
theorem dX4_readLaw_169 : decode cX4_readLaw 169 = .ok (.aload_n 0, 1) := by decide +kernel
theorem dX4_readLaw_170 : decode cX4_readLaw 170 = .ok (.bipush 59, 2) := by decide +kernel
theorem dX4_readLaw_172 : decode cX4_readLaw 172 = .ok (.invokevirtual 81, 3) := by decide +kernel
theorem dX4_readLaw_175 : decode cX4_readLaw 175 = .ok (.pop, 1) := by decide +kernel
theorem dX4_readLaw_176 : decode cX4_readLaw 176 = .ok (.return_, 1) := by decide +kernel
theorem dX4_readSum_0 : decode cX4_readSum 0 = .ok (.aload_n 0, 1) := by decide +kernel
theorem dX4_readSum_1 : decode cX4_readSum 1 = .ok (.iload_n 1, 1) := by decide +kernel
theorem dX4_readSum_2 : decode cX4_readSum 2 = .ok (.invokevirtual 153, 3) := by decide +kernel
theorem dX4_readSum_5 : decode cX4_readSum 5 = .ok (.iconst 0, 1) := by decide +kernel
theorem dX4_readSum_6 : decode cX4_readSum 6 = .ok (.istore_n 2, 1) := by decide +kernel
theorem dX4_readSum_7 : decode cX4_readSum 7 = .ok (.iload_n 2, 1) := by decide +kernel
theorem dX4_readSum_8 : decode cX4_readSum 8 = .ok (.sipush 400, 3) := by decide +kernel
theorem dX4_readSum_11 : decode cX4_readSum 11 = .ok (.if_icmp .ge 58, 3) := by decide +kernel
theorem dX4_readSum_14 : decode cX4_readSum 14 = .ok (.aload_n 0, 1) := by decide +kernel
theorem dX4_readSum_15 : decode cX4_readSum 15 = .ok (.invokevirtual 46, 3) := by decide +kernel
theorem dX4_readSum_18 : decode cX4_readSum 18 = .ok (.bipush 43, 2) := by decide +kernel
theorem dX4_readSum_20 : decode cX4_readSum 20 = .ok (.if_icmp .eq 12, 3) := by decide +kernel
theorem dX4_readSum_23 : decode cX4_readSum 23 = .ok (.aload_n 0, 1) := by decide +kernel
theorem dX4_readSum_24 : decode cX4_readSum 24 = .ok (.invokevirtual 46, 3) := by decide +kernel
theorem dX4_readSum_27 : decode cX4_readSum 27 = .ok (.bipush 45, 2) := by decide +kernel
theorem dX4_readSum_29 : decode cX4_readSum 29 = .ok (.if_icmp .ne 40, 3) := by decide +kernel
theorem dX4_readSum_32 : decode cX4_readSum 32 = .ok (.aload_n 0, 1) := by decide +kernel
theorem dX4_readSum_33 : decode cX4_readSum 33 = .ok (.invokevirtual 46, 3) := by decide +kernel
theorem dX4_readSum_36 : decode cX4_readSum 36 = .ok (.istore_n 3, 1) := by decide +kernel
theorem dX4_readSum_37 : decode cX4_readSum 37 = .ok (.aload_n 0, 1) := by decide +kernel
theorem dX4_readSum_38 : decode cX4_readSum 38 = .ok (.iload_n 3, 1) := by decide +kernel
theorem dX4_readSum_39 : decode cX4_readSum 39 = .ok (.invokevirtual 81, 3) := by decide +kernel
theorem dX4_readSum_42 : decode cX4_readSum 42 = .ok (.pop, 1) := by decide +kernel
theorem dX4_readSum_43 : decode cX4_readSum 43 = .ok (.aload_n 0, 1) := by decide +kernel
theorem dX4_readSum_44 : decode cX4_readSum 44 = .ok (.iload_n 1, 1) := by decide +kernel
theorem dX4_readSum_45 : decode cX4_readSum 45 = .ok (.invokevirtual 153, 3) := by decide +kernel
theorem dX4_readSum_48 : decode cX4_readSum 48 = .ok (.aload_n 0, 1) := by decide +kernel
theorem dX4_readSum_49 : decode cX4_readSum 49 = .ok (.getfield 20, 3) := by decide +kernel
theorem dX4_readSum_52 : decode cX4_readSum 52 = .ok (.getfield 138, 3) := by decide +kernel
theorem dX4_readSum_55 : decode cX4_readSum 55 = .ok (.sipush 20000, 3) := by decide +kernel
theorem dX4_readSum_58 : decode cX4_readSum 58 = .ok (.iload_n 3, 1) := by decide +kernel
theorem dX4_readSum_59 : decode cX4_readSum 59 = .ok (.iadd, 1) := by decide +kernel
theorem dX4_readSum_60 : decode cX4_readSum 60 = .ok (.invokevirtual 156, 3) := by decide +kernel
theorem dX4_readSum_63 : decode cX4_readSum 63 = .ok (.iinc 2 1, 3) := by decide +kernel
theorem dX4_readSum_66 : decode cX4_readSum 66 = .ok (.goto (-59), 3) := by decide +kernel
theorem dX4_readSum_69 : decode cX4_readSum 69 = .ok (.return_, 1) := by decide +kernel
theorem dX4_readProduct_0 : decode cX4_readProduct 0 = .ok (.aload_n 0, 1) := by decide +kernel
theorem dX4_readProduct_1 : decode cX4_readProduct 1 = .ok (.iload_n 1, 1) := by decide +kernel
theorem dX4_readProduct_2 : decode cX4_readProduct 2 = .ok (.invokevirtual 159, 3) := by decide +kernel
theorem dX4_readProduct_5 : decode cX4_readProduct 5 = .ok (.iconst 0, 1) := by decide +kernel
theorem dX4_readProduct_6 : decode cX4_readProduct 6 = .ok (.istore_n 2, 1) := by decide +kernel
theorem dX4_readProduct_7 : decode cX4_readProduct 7 = .ok (.iload_n 2, 1) := by decide +kernel
theorem dX4_readProduct_8 : decode cX4_readProduct 8 = .ok (.sipush 400, 3) := by decide +kernel
theorem dX4_readProduct_11 : decode cX4_readProduct 11 = .ok (.if_icmp .ge 58, 3) := by decide +kernel
theorem dX4_readProduct_14 : decode cX4_readProduct 14 = .ok (.aload_n 0, 1) := by decide +kernel
theorem dX4_readProduct_15 : decode cX4_readProduct 15 = .ok (.invokevirtual 46, 3) := by decide +kernel
theorem dX4_readProduct_18 : decode cX4_readProduct 18 = .ok (.bipush 42, 2) := by decide +kernel
theorem dX4_readProduct_20 : decode cX4_readProduct 20 = .ok (.if_icmp .eq 12, 3) := by decide +kernel
theorem dX4_readProduct_23 : decode cX4_readProduct 23 = .ok (.aload_n 0, 1) := by decide +kernel
theorem dX4_readProduct_24 : decode cX4_readProduct 24 = .ok (.invokevirtual 46, 3) := by decide +kernel
theorem dX4_readProduct_27 : decode cX4_readProduct 27 = .ok (.bipush 47, 2) := by decide +kernel
theorem dX4_readProduct_29 : decode cX4_readProduct 29 = .ok (.if_icmp .ne 40, 3) := by decide +kernel
theorem dX4_readProduct_32 : decode cX4_readProduct 32 = .ok (.aload_n 0, 1) := by decide +kernel
theorem dX4_readProduct_33 : decode cX4_readProduct 33 = .ok (.invokevirtual 46, 3) := by decide +kernel
theorem dX4_readProduct_36 : decode cX4_readProduct 36 = .ok (.istore_n 3, 1) := by decide +kernel
theorem dX4_readProduct_37 : decode cX4_readProduct 37 = .ok (.aload_n 0, 1) := by decide +kernel
theorem dX4_readProduct_38 : decode cX4_readProduct 38 = .ok (.iload_n 3, 1) := by decide +kernel
theorem dX4_readProduct_39 : decode cX4_readProduct 39 = .ok (.invokevirtual 81, 3) := by decide +kernel
theorem dX4_readProduct_42 : decode cX4_readProduct 42 = .ok (.pop, 1) := by decide +kernel
theorem dX4_readProduct_43 : decode cX4_readProduct 43 = .ok (.aload_n 0, 1) := by decide +kernel
theorem dX4_readProduct_44 : decode cX4_readProduct 44 = .ok (.iload_n 1, 1) := by decide +kernel
theorem dX4_readProduct_45 : decode cX4_readProduct 45 = .ok (.invokevirtual 159, 3) := by decide +kernel
theorem dX4_readProduct_48 : decode cX4_readProduct 48 = .ok (.aload_n 0, 1) := by decide +kernel
theorem dX4_readProduct_49 : decode cX4_readProduct 49 = .ok (.getfield 20, 3) := by decide +kernel
theorem dX4_readProduct_52 : decode cX4_readProduct 52 = .ok (.getfield 138, 3) := by decide +kernel
theorem dX4_readProduct_55 : decode cX4_readProduct 55 = .ok (.sipush 20000, 3) := by decide +kernel
theorem dX4_readProduct_58 : decode cX4_readProduct 58 = .ok (.iload_n 3, 1) := by decide +kernel
theorem dX4_readProduct_59 : decode cX4_readProduct 59 = .ok (.iadd, 1) := by decide +kernel
theorem dX4_readProduct_60 : decode cX4_readProduct 60 = .ok (.invokevirtual 156, 3) := by decide +kernel
theorem dX4_readProduct_63 : decode cX4_readProduct 63 = .ok (.iinc 2 1, 3) := by decide +kernel
theorem dX4_readProduct_66 : decode cX4_readProduct 66 = .ok (.goto (-59), 3) := by decide +kernel
theorem dX4_readProduct_69 : decode cX4_readProduct 69 = .ok (.return_, 1) := by decide +kernel
theorem dX4_readUnit_0 : decode cX4_readUnit 0 = .ok (.aload_n 0, 1) := by decide +kernel
theorem dX4_readUnit_1 : decode cX4_readUnit 1 = .ok (.invokevirtual 46, 3) := by decide +kernel
theorem dX4_readUnit_4 : decode cX4_readUnit 4 = .ok (.istore_n 2, 1) := by decide +kernel
theorem dX4_readUnit_5 : decode cX4_readUnit 5 = .ok (.iload_n 2, 1) := by decide +kernel
theorem dX4_readUnit_6 : decode cX4_readUnit 6 = .ok (.bipush 22, 2) := by decide +kernel
