theorem dX9_init_0 : decode cX9_init 0 = .ok (.aload_n 0, 1) := by decide +kernel
theorem dX9_init_1 : decode cX9_init 1 = .ok (.invokespecial 1, 3) := by decide +kernel
theorem dX9_init_4 : decode cX9_init 4 = .ok (.aload_n 0, 1) := by decide +kernel
theorem dX9_init_5 : decode cX9_init 5 = .ok (.bipush 12, 2) := by decide +kernel
theorem dX9_init_7 : decode cX9_init 7 = .ok (.newarray .int, 2) := by decide +kernel
theorem dX9_init_9 : decode cX9_init 9 = .ok (.putfield 7, 3) := by decide +kernel
theorem dX9_init_12 : decode cX9_init 12 = .ok (.aload_n 0, 1) := by decide +kernel
theorem dX9_init_13 : decode cX9_init 13 = .ok (.bipush 12, 2) := by decide +kernel
theorem dX9_init_15 : decode cX9_init 15 = .ok (.newarray .int, 2) := by decide +kernel
theorem dX9_init_17 : decode cX9_init 17 = .ok (.putfield 13, 3) := by decide +kernel
theorem dX9_init_20 : decode cX9_init 20 = .ok (.aload_n 0, 1) := by decide +kernel
theorem dX9_init_21 : decode cX9_init 21 = .ok (.bipush 8, 2) := by decide +kernel
theorem dX9_init_23 : decode cX9_init 23 = .ok (.newarray .int, 2) := by decide +kernel
theorem dX9_init_25 : decode cX9_init 25 = .ok (.putfield 16, 3) := by decide +kernel
theorem dX9_init_28 : decode cX9_init 28 = .ok (.aload_n 0, 1) := by decide +kernel
theorem dX9_init_29 : decode cX9_init 29 = .ok (.iconst 3, 1) := by decide +kernel
theorem dX9_init_30 : decode cX9_init 30 = .ok (.putfield 19, 3) := by decide +kernel
theorem dX9_init_33 : decode cX9_init 33 = .ok (.aload_n 0, 1) := by decide +kernel
theorem dX9_init_34 : decode cX9_init 34 = .ok (.iconst 5, 1) := by decide +kernel
theorem dX9_init_35 : decode cX9_init 35 = .ok (.putfield 23, 3) := by decide +kernel
theorem dX9_init_38 : decode cX9_init 38 = .ok (.aload_n 0, 1) := by decide +kernel
theorem dX9_init_39 : decode cX9_init 39 = .ok (.bipush 12, 2) := by decide +kernel
theorem dX9_init_41 : decode cX9_init 41 = .ok (.newarray .int, 2) := by decide +kernel
theorem dX9_init_43 : decode cX9_init 43 = .ok (.putfield 26, 3) := by decide +kernel
theorem dX9_init_46 : decode cX9_init 46 = .ok (.aload_n 0, 1) := by decide +kernel
theorem dX9_init_47 : decode cX9_init 47 = .ok (.bipush 24, 2) := by decide +kernel
theorem dX9_init_49 : decode cX9_init 49 = .ok (.newarray .int, 2) := by decide +kernel
theorem dX9_init_51 : decode cX9_init 51 = .ok (.putfield 29, 3) := by decide +kernel
theorem dX9_init_54 : decode cX9_init 54 = .ok (.aload_n 0, 1) := by decide +kernel
theorem dX9_init_55 : decode cX9_init 55 = .ok (.bipush 60, 2) := by decide +kernel
theorem dX9_init_57 : decode cX9_init 57 = .ok (.newarray .int, 2) := by decide +kernel
theorem dX9_init_59 : decode cX9_init 59 = .ok (.putfield 32, 3) := by decide +kernel
theorem dX9_init_62 : decode cX9_init 62 = .ok (.aload_n 0, 1) := by decide +kernel
theorem dX9_init_63 : decode cX9_init 63 = .ok (.bipush 100, 2) := by decide +kernel
theorem dX9_init_65 : decode cX9_init 65 = .ok (.newarray .int, 2) := by decide +kernel
theorem dX9_init_67 : decode cX9_init 67 = .ok (.putfield 35, 3) := by decide +kernel
theorem dX9_init_70 : decode cX9_init 70 = .ok (.aload_n 0, 1) := by decide +kernel
theorem dX9_init_71 : decode cX9_init 71 = .ok (.sipush 1722, 3) := by decide +kernel
theorem dX9_init_74 : decode cX9_init 74 = .ok (.newarray .int, 2) := by decide +kernel
theorem dX9_init_76 : decode cX9_init 76 = .ok (.putfield 38, 3) := by decide +kernel
theorem dX9_init_79 : decode cX9_init 79 = .ok (.aload_n 0, 1) := by decide +kernel
theorem dX9_init_80 : decode cX9_init 80 = .ok (.bipush 100, 2) := by decide +kernel
theorem dX9_init_82 : decode cX9_init 82 = .ok (.newarray .int, 2) := by decide +kernel
theorem dX9_init_84 : decode cX9_init 84 = .ok (.putfield 41, 3) := by decide +kernel
theorem dX9_init_87 : decode cX9_init 87 = .ok (.aload_n 0, 1) := by decide +kernel
theorem dX9_init_88 : decode cX9_init 88 = .ok (.sipush 10000, 3) := by decide +kernel
theorem dX9_init_91 : decode cX9_init 91 = .ok (.newarray .int, 2) := by decide +kernel
theorem dX9_init_93 : decode cX9_init 93 = .ok (.putfield 44, 3) := by decide +kernel
theorem dX9_init_96 : decode cX9_init 96 = .ok (.aload_n 0, 1) := by decide +kernel
theorem dX9_init_97 : decode cX9_init 97 = .ok (.sipush 140, 3) := by decide +kernel
theorem dX9_init_100 : decode cX9_init 100 = .ok (.newarray .int, 2) := by decide +kernel
theorem dX9_init_102 : decode cX9_init 102 = .ok (.putfield 47, 3) := by decide +kernel
theorem dX9_init_105 : decode cX9_init 105 = .ok (.aload_n 0, 1) := by decide +kernel
theorem dX9_init_106 : decode cX9_init 106 = .ok (.iconst 2, 1) := by decide +kernel
theorem dX9_init_107 : decode cX9_init 107 = .ok (.newarray .boolean, 2) := by decide +kernel
theorem dX9_init_109 : decode cX9_init 109 = .ok (.putfield 50, 3) := by decide +kernel
theorem dX9_init_112 : decode cX9_init 112 = .ok (.return_, 1) := by decide +kernel
theorem dX9_in_0 : decode cX9_in 0 = .ok (.iload_n 0, 1) := by decide +kernel
theorem dX9_in_1 : decode cX9_in 1 = .ok (.iload_n 1, 1) := by decide +kernel
theorem dX9_in_2 : decode cX9_in 2 = .ok (.if_icmp .lt 12, 3) := by decide +kernel
theorem dX9_in_5 : decode cX9_in 5 = .ok (.iload_n 0, 1) := by decide +kernel
theorem dX9_in_6 : decode cX9_in 6 = .ok (.iload_n 2, 1) := by decide +kernel
theorem dX9_in_7 : decode cX9_in 7 = .ok (.if_icmp .gt 7, 3) := by decide +kernel
theorem dX9_in_10 : decode cX9_in 10 = .ok (.iconst 1, 1) := by decide +kernel
theorem dX9_in_11 : decode cX9_in 11 = .ok (.goto 4, 3) := by decide +kernel
theorem dX9_in_14 : decode cX9_in 14 = .ok (.iconst 0, 1) := by decide +kernel
theorem dX9_in_15 : decode cX9_in 15 = .ok (.ireturn, 1) := by decide +kernel
theorem dX9_has_0 : decode cX9_has 0 = .ok (.iload_n 0, 1) := by decide +kernel
theorem dX9_has_1 : decode cX9_has 1 = .ok (.iload_n 1, 1) := by decide +kernel
theorem dX9_has_2 : decode cX9_has 2 = .ok (.ishr, 1) := by decide +kernel
theorem dX9_has_3 : decode cX9_has 3 = .ok (.iconst 1, 1) := by decide +kernel
theorem dX9_has_4 : decode cX9_has 4 = .ok (.iand, 1) := by decide +kernel
theorem dX9_has_5 : decode cX9_has 5 = .ok (.iconst 1, 1) := by decide +kernel
theorem dX9_has_6 : decode cX9_has 6 = .ok (.if_icmp .ne 7, 3) := by decide +kernel
theorem dX9_has_9 : decode cX9_has 9 = .ok (.iconst 1, 1) := by decide +kernel
theorem dX9_has_10 : decode cX9_has 10 = .ok (.goto 4, 3) := by decide +kernel
theorem dX9_has_13 : decode cX9_has 13 = .ok (.iconst 0, 1) := by decide +kernel
theorem dX9_has_14 : decode cX9_has 14 = .ok (.ireturn, 1) := by decide +kernel
theorem dX9_bits_0 : decode cX9_bits 0 = .ok (.iconst 0, 1) := by decide +kernel
theorem dX9_bits_1 : decode cX9_bits 1 = .ok (.istore_n 1, 1) := by decide +kernel
theorem dX9_bits_2 : decode cX9_bits 2 = .ok (.iconst 0, 1) := by decide +kernel
theorem dX9_bits_3 : decode cX9_bits 3 = .ok (.istore_n 2, 1) := by decide +kernel
theorem dX9_bits_4 : decode cX9_bits 4 = .ok (.iload_n 2, 1) := by decide +kernel
theorem dX9_bits_5 : decode cX9_bits 5 = .ok (.bipush 12, 2) := by decide +kernel
theorem dX9_bits_7 : decode cX9_bits 7 = .ok (.if_icmp .ge 17, 3) := by decide +kernel
theorem dX9_bits_10 : decode cX9_bits 10 = .ok (.iload_n 1, 1) := by decide +kernel
theorem dX9_bits_11 : decode cX9_bits 11 = .ok (.iload_n 0, 1) := by decide +kernel
theorem dX9_bits_12 : decode cX9_bits 12 = .ok (.iload_n 2, 1) := by decide +kernel
theorem dX9_bits_13 : decode cX9_bits 13 = .ok (.ishr, 1) := by decide +kernel
theorem dX9_bits_14 : decode cX9_bits 14 = .ok (.iconst 1, 1) := by decide +kernel
theorem dX9_bits_15 : decode cX9_bits 15 = .ok (.iand, 1) := by decide +kernel
theorem dX9_bits_16 : decode cX9_bits 16 = .ok (.iadd, 1) := by decide +kernel
theorem dX9_bits_17 : decode cX9_bits 17 = .ok (.istore_n 1, 1) := by decide +kernel
theorem dX9_bits_18 : decode cX9_bits 18 = .ok (.iinc 2 1, 3) := by decide +kernel
theorem dX9_bits_21 : decode cX9_bits 21 = .ok (.goto (-17), 3) := by decide +kernel
theorem dX9_bits_24 : decode cX9_bits 24 = .ok (.iload_n 1, 1) := by decide +kernel
theorem dX9_bits_25 : decode cX9_bits 25 = .ok (.ireturn, 1) := by decide +kernel
theorem dX9_isCell_0 : decode cX9_isCell 0 = .ok (.iload_n 0, 1) := by decide +kernel
theorem dX9_isCell_1 : decode cX9_isCell 1 = .ok (.iconst 0, 1) := by decide +kernel
theorem dX9_isCell_2 : decode cX9_isCell 2 = .ok (.bipush 11, 2) := by decide +kernel
theorem dX9_isCell_4 : decode cX9_isCell 4 = .ok (.invokestatic 54, 3) := by decide +kernel
theorem dX9_isCell_7 : decode cX9_isCell 7 = .ok (.ireturn, 1) := by decide +kernel
theorem dX9_isThere_0 : decode cX9_isThere 0 = .ok (.iload_n 1, 1) := by decide +kernel
theorem dX9_isThere_1 : decode cX9_isThere 1 = .ok (.iconst 0, 1) := by decide +kernel
theorem dX9_isThere_2 : decode cX9_isThere 2 = .ok (.bipush 7, 2) := by decide +kernel
theorem dX9_isThere_4 : decode cX9_isThere 4 = .ok (.invokestatic 54, 3) := by decide +kernel
theorem dX9_isThere_7 : decode cX9_isThere 7 = .ok (.ifCond .eq 21, 3) := by decide +kernel
theorem dX9_isThere_10 : decode cX9_isThere 10 = .ok (.aload_n 0, 1) := by decide +kernel
theorem dX9_isThere_11 : decode cX9_isThere 11 = .ok (.getfield 7, 3) := by decide +kernel
theorem dX9_isThere_14 : decode cX9_isThere 14 = .ok (.bipush 8, 2) := by decide +kernel
theorem dX9_isThere_16 : decode cX9_isThere 16 = .ok (.iaload, 1) := by decide +kernel
theorem dX9_isThere_17 : decode cX9_isThere 17 = .ok (.iload_n 1, 1) := by decide +kernel
theorem dX9_isThere_18 : decode cX9_isThere 18 = .ok (.invokestatic 58, 3) := by decide +kernel
theorem dX9_isThere_21 : decode cX9_isThere 21 = .ok (.ifCond .eq 7, 3) := by decide +kernel
theorem dX9_isThere_24 : decode cX9_isThere 24 = .ok (.iconst 1, 1) := by decide +kernel
theorem dX9_isThere_25 : decode cX9_isThere 25 = .ok (.goto 4, 3) := by decide +kernel
theorem dX9_isThere_28 : decode cX9_isThere 28 = .ok (.iconst 0, 1) := by decide +kernel
theorem dX9_isThere_29 : decode cX9_isThere 29 = .ok (.ireturn, 1) := by decide +kernel
theorem dX9_witness_0 : decode cX9_witness 0 = .ok (.iload_n 1, 1) := by decide +kernel
theorem dX9_witness_1 : decode cX9_witness 1 = .ok (.iconst 0, 1) := by decide +kernel
theorem dX9_witness_2 : decode cX9_witness 2 = .ok (.bipush 7, 2) := by decide +kernel
theorem dX9_witness_4 : decode cX9_witness 4 = .ok (.invokestatic 54, 3) := by decide +kernel
theorem dX9_witness_7 : decode cX9_witness 7 = .ok (.ifCond .ne 5, 3) := by decide +kernel
theorem dX9_witness_10 : decode cX9_witness 10 = .ok (.iconst (-1), 1) := by decide +kernel
theorem dX9_witness_11 : decode cX9_witness 11 = .ok (.ireturn, 1) := by decide +kernel
theorem dX9_witness_12 : decode cX9_witness 12 = .ok (.iload_n 2, 1) := by decide +kernel
theorem dX9_witness_13 : decode cX9_witness 13 = .ok (.iconst 0, 1) := by decide +kernel
theorem dX9_witness_14 : decode cX9_witness 14 = .ok (.bipush 15, 2) := by decide +kernel
theorem dX9_witness_16 : decode cX9_witness 16 = .ok (.invokestatic 54, 3) := by decide +kernel
theorem dX9_witness_19 : decode cX9_witness 19 = .ok (.ifCond .eq 14, 3) := by decide +kernel
theorem dX9_witness_22 : decode cX9_witness 22 = .ok (.iload 4, 2) := by decide +kernel
theorem dX9_witness_24 : decode cX9_witness 24 = .ok (.iconst 0, 1) := by decide +kernel
theorem dX9_witness_25 : decode cX9_witness 25 = .ok (.bipush 99, 2) := by decide +kernel
theorem dX9_witness_27 : decode cX9_witness 27 = .ok (.invokestatic 54, 3) := by decide +kernel
theorem dX9_witness_30 : decode cX9_witness 30 = .ok (.ifCond .ne 6, 3) := by decide +kernel
theorem dX9_witness_33 : decode cX9_witness 33 = .ok (.bipush (-2), 2) := by decide +kernel
theorem dX9_witness_35 : decode cX9_witness 35 = .ok (.ireturn, 1) := by decide +kernel
theorem dX9_witness_36 : decode cX9_witness 36 = .ok (.aload_n 0, 1) := by decide +kernel
theorem dX9_witness_37 : decode cX9_witness 37 = .ok (.getfield 16, 3) := by decide +kernel
theorem dX9_witness_40 : decode cX9_witness 40 = .ok (.iload_n 1, 1) := by decide +kernel
theorem dX9_witness_41 : decode cX9_witness 41 = .ok (.iload_n 2, 1) := by decide +kernel
theorem dX9_witness_42 : decode cX9_witness 42 = .ok (.iastore, 1) := by decide +kernel
theorem dX9_witness_43 : decode cX9_witness 43 = .ok (.aload_n 0, 1) := by decide +kernel
theorem dX9_witness_44 : decode cX9_witness 44 = .ok (.getfield 7, 3) := by decide +kernel
theorem dX9_witness_47 : decode cX9_witness 47 = .ok (.iload_n 1, 1) := by decide +kernel
theorem dX9_witness_48 : decode cX9_witness 48 = .ok (.iload 4, 2) := by decide +kernel
theorem dX9_witness_50 : decode cX9_witness 50 = .ok (.iastore, 1) := by decide +kernel
theorem dX9_witness_51 : decode cX9_witness 51 = .ok (.aload_n 0, 1) := by decide +kernel
theorem dX9_witness_52 : decode cX9_witness 52 = .ok (.getfield 7, 3) := by decide +kernel
theorem dX9_witness_55 : decode cX9_witness 55 = .ok (.bipush 8, 2) := by decide +kernel
theorem dX9_witness_57 : decode cX9_witness 57 = .ok (.dup2, 1) := by decide +kernel
theorem dX9_witness_58 : decode cX9_witness 58 = .ok (.iaload, 1) := by decide +kernel
theorem dX9_witness_59 : decode cX9_witness 59 = .ok (.iconst 1, 1) := by decide +kernel
theorem dX9_witness_60 : decode cX9_witness 60 = .ok (.iload_n 1, 1) := by decide +kernel
theorem dX9_witness_61 : decode cX9_witness 61 = .ok (.ishl, 1) := by decide +kernel
theorem dX9_witness_62 : decode cX9_witness 62 = .ok (.ior, 1) := by decide +kernel
theorem dX9_witness_63 : decode cX9_witness 63 = .ok (.iastore, 1) := by decide +kernel
theorem dX9_witness_64 : decode cX9_witness 64 = .ok (.aload_n 0, 1) := by decide +kernel
theorem dX9_witness_65 : decode cX9_witness 65 = .ok (.getfield 7, 3) := by decide +kernel
theorem dX9_witness_68 : decode cX9_witness 68 = .ok (.bipush 9, 2) := by decide +kernel
theorem dX9_witness_70 : decode cX9_witness 70 = .ok (.dup2, 1) := by decide +kernel
theorem dX9_witness_71 : decode cX9_witness 71 = .ok (.iaload, 1) := by decide +kernel
theorem dX9_witness_72 : decode cX9_witness 72 = .ok (.iconst 1, 1) := by decide +kernel
theorem dX9_witness_73 : decode cX9_witness 73 = .ok (.iload_n 1, 1) := by decide +kernel
theorem dX9_witness_74 : decode cX9_witness 74 = .ok (.ishl, 1) := by decide +kernel
theorem dX9_witness_75 : decode cX9_witness 75 = .ok (.iconst (-1), 1) := by decide +kernel
theorem dX9_witness_76 : decode cX9_witness 76 = .ok (.ixor, 1) := by decide +kernel
theorem dX9_witness_77 : decode cX9_witness 77 = .ok (.iand, 1) := by decide +kernel
theorem dX9_witness_78 : decode cX9_witness 78 = .ok (.iastore, 1) := by decide +kernel
theorem dX9_witness_79 : decode cX9_witness 79 = .ok (.aload_n 0, 1) := by decide +kernel
theorem dX9_witness_80 : decode cX9_witness 80 = .ok (.getfield 7, 3) := by decide +kernel
theorem dX9_witness_83 : decode cX9_witness 83 = .ok (.bipush 9, 2) := by decide +kernel
theorem dX9_witness_85 : decode cX9_witness 85 = .ok (.dup2, 1) := by decide +kernel
theorem dX9_witness_86 : decode cX9_witness 86 = .ok (.iaload, 1) := by decide +kernel
theorem dX9_witness_87 : decode cX9_witness 87 = .ok (.iload_n 3, 1) := by decide +kernel
theorem dX9_witness_88 : decode cX9_witness 88 = .ok (.ifCond .eq 9, 3) := by decide +kernel
theorem dX9_witness_91 : decode cX9_witness 91 = .ok (.iconst 1, 1) := by decide +kernel
theorem dX9_witness_92 : decode cX9_witness 92 = .ok (.iload_n 1, 1) := by decide +kernel
theorem dX9_witness_93 : decode cX9_witness 93 = .ok (.ishl, 1) := by decide +kernel
theorem dX9_witness_94 : decode cX9_witness 94 = .ok (.goto 4, 3) := by decide +kernel
theorem dX9_witness_97 : decode cX9_witness 97 = .ok (.iconst 0, 1) := by decide +kernel
theorem dX9_witness_98 : decode cX9_witness 98 = .ok (.ior, 1) := by decide +kernel
theorem dX9_witness_99 : decode cX9_witness 99 = .ok (.iastore, 1) := by decide +kernel
theorem dX9_witness_100 : decode cX9_witness 100 = .ok (.aload_n 0, 1) := by decide +kernel
theorem dX9_witness_101 : decode cX9_witness 101 = .ok (.getfield 7, 3) := by decide +kernel
theorem dX9_witness_104 : decode cX9_witness 104 = .ok (.bipush 8, 2) := by decide +kernel
theorem dX9_witness_106 : decode cX9_witness 106 = .ok (.iaload, 1) := by decide +kernel
theorem dX9_witness_107 : decode cX9_witness 107 = .ok (.invokestatic 62, 3) := by decide +kernel
theorem dX9_witness_110 : decode cX9_witness 110 = .ok (.ireturn, 1) := by decide +kernel
theorem dX9_he_0 : decode cX9_he 0 = .ok (.iload_n 1, 1) := by decide +kernel
theorem dX9_he_1 : decode cX9_he 1 = .ok (.iconst 0, 1) := by decide +kernel
theorem dX9_he_2 : decode cX9_he 2 = .ok (.bipush 15, 2) := by decide +kernel
theorem dX9_he_4 : decode cX9_he 4 = .ok (.invokestatic 54, 3) := by decide +kernel
theorem dX9_he_7 : decode cX9_he 7 = .ok (.ifCond .eq 23, 3) := by decide +kernel
theorem dX9_he_10 : decode cX9_he 10 = .ok (.iload_n 2, 1) := by decide +kernel
theorem dX9_he_11 : decode cX9_he 11 = .ok (.iconst 0, 1) := by decide +kernel
theorem dX9_he_12 : decode cX9_he 12 = .ok (.bipush 9, 2) := by decide +kernel
theorem dX9_he_14 : decode cX9_he 14 = .ok (.invokestatic 54, 3) := by decide +kernel
theorem dX9_he_17 : decode cX9_he 17 = .ok (.ifCond .eq 13, 3) := by decide +kernel
theorem dX9_he_20 : decode cX9_he 20 = .ok (.iload_n 3, 1) := by decide +kernel
theorem dX9_he_21 : decode cX9_he 21 = .ok (.iconst 0, 1) := by decide +kernel
theorem dX9_he_22 : decode cX9_he 22 = .ok (.bipush 9, 2) := by decide +kernel
theorem dX9_he_24 : decode cX9_he 24 = .ok (.invokestatic 54, 3) := by decide +kernel
theorem dX9_he_27 : decode cX9_he 27 = .ok (.ifCond .ne 6, 3) := by decide +kernel
theorem dX9_he_30 : decode cX9_he 30 = .ok (.bipush (-2), 2) := by decide +kernel
theorem dX9_he_32 : decode cX9_he 32 = .ok (.ireturn, 1) := by decide +kernel
theorem dX9_he_33 : decode cX9_he 33 = .ok (.bipush 100, 2) := by decide +kernel
theorem dX9_he_35 : decode cX9_he 35 = .ok (.aload_n 0, 1) := by decide +kernel
theorem dX9_he_36 : decode cX9_he 36 = .ok (.getfield 7, 3) := by decide +kernel
theorem dX9_he_39 : decode cX9_he 39 = .ok (.bipush 10, 2) := by decide +kernel
theorem dX9_he_41 : decode cX9_he 41 = .ok (.iaload, 1) := by decide +kernel
theorem dX9_he_42 : decode cX9_he 42 = .ok (.imul, 1) := by decide +kernel
theorem dX9_he_43 : decode cX9_he 43 = .ok (.bipush 10, 2) := by decide +kernel
theorem dX9_he_45 : decode cX9_he 45 = .ok (.aload_n 0, 1) := by decide +kernel
theorem dX9_he_46 : decode cX9_he 46 = .ok (.getfield 19, 3) := by decide +kernel
theorem dX9_he_49 : decode cX9_he 49 = .ok (.imul, 1) := by decide +kernel
theorem dX9_he_50 : decode cX9_he 50 = .ok (.iadd, 1) := by decide +kernel
theorem dX9_he_51 : decode cX9_he 51 = .ok (.aload_n 0, 1) := by decide +kernel
theorem dX9_he_52 : decode cX9_he 52 = .ok (.getfield 23, 3) := by decide +kernel
theorem dX9_he_55 : decode cX9_he 55 = .ok (.iadd, 1) := by decide +kernel
theorem dX9_he_56 : decode cX9_he 56 = .ok (.istore 4, 2) := by decide +kernel
theorem dX9_he_58 : decode cX9_he 58 = .ok (.aload_n 0, 1) := by decide +kernel
theorem dX9_he_59 : decode cX9_he 59 = .ok (.getfield 7, 3) := by decide +kernel
theorem dX9_he_62 : decode cX9_he 62 = .ok (.bipush 10, 2) := by decide +kernel
theorem dX9_he_64 : decode cX9_he 64 = .ok (.iload_n 1, 1) := by decide +kernel
theorem dX9_he_65 : decode cX9_he 65 = .ok (.iastore, 1) := by decide +kernel
theorem dX9_he_66 : decode cX9_he 66 = .ok (.aload_n 0, 1) := by decide +kernel
theorem dX9_he_67 : decode cX9_he 67 = .ok (.iload_n 2, 1) := by decide +kernel
theorem dX9_he_68 : decode cX9_he 68 = .ok (.putfield 19, 3) := by decide +kernel
theorem dX9_he_71 : decode cX9_he 71 = .ok (.aload_n 0, 1) := by decide +kernel
theorem dX9_he_72 : decode cX9_he 72 = .ok (.iload_n 3, 1) := by decide +kernel
theorem dX9_he_73 : decode cX9_he 73 = .ok (.putfield 23, 3) := by decide +kernel
theorem dX9_he_76 : decode cX9_he 76 = .ok (.iload 4, 2) := by decide +kernel
theorem dX9_he_78 : decode cX9_he 78 = .ok (.ireturn, 1) := by decide +kernel
theorem dX9_way_0 : decode cX9_way 0 = .ok (.iload_n 1, 1) := by decide +kernel
theorem dX9_way_1 : decode cX9_way 1 = .ok (.invokestatic 66, 3) := by decide +kernel
theorem dX9_way_4 : decode cX9_way 4 = .ok (.ifCond .eq 15, 3) := by decide +kernel
theorem dX9_way_7 : decode cX9_way 7 = .ok (.iload_n 2, 1) := by decide +kernel
theorem dX9_way_8 : decode cX9_way 8 = .ok (.invokestatic 66, 3) := by decide +kernel
theorem dX9_way_11 : decode cX9_way 11 = .ok (.ifCond .eq 8, 3) := by decide +kernel
theorem dX9_way_14 : decode cX9_way 14 = .ok (.iload_n 1, 1) := by decide +kernel
theorem dX9_way_15 : decode cX9_way 15 = .ok (.iload_n 2, 1) := by decide +kernel
theorem dX9_way_16 : decode cX9_way 16 = .ok (.if_icmp .ne 5, 3) := by decide +kernel
theorem dX9_way_19 : decode cX9_way 19 = .ok (.iconst (-1), 1) := by decide +kernel
theorem dX9_way_20 : decode cX9_way 20 = .ok (.ireturn, 1) := by decide +kernel
theorem dX9_way_21 : decode cX9_way 21 = .ok (.aload_n 0, 1) := by decide +kernel
theorem dX9_way_22 : decode cX9_way 22 = .ok (.getfield 26, 3) := by decide +kernel
theorem dX9_way_25 : decode cX9_way 25 = .ok (.iload_n 1, 1) := by decide +kernel
theorem dX9_way_26 : decode cX9_way 26 = .ok (.dup2, 1) := by decide +kernel
theorem dX9_way_27 : decode cX9_way 27 = .ok (.iaload, 1) := by decide +kernel
theorem dX9_way_28 : decode cX9_way 28 = .ok (.iconst 1, 1) := by decide +kernel
theorem dX9_way_29 : decode cX9_way 29 = .ok (.iload_n 2, 1) := by decide +kernel
theorem dX9_way_30 : decode cX9_way 30 = .ok (.ishl, 1) := by decide +kernel
theorem dX9_way_31 : decode cX9_way 31 = .ok (.iconst (-1), 1) := by decide +kernel
theorem dX9_way_32 : decode cX9_way 32 = .ok (.ixor, 1) := by decide +kernel
theorem dX9_way_33 : decode cX9_way 33 = .ok (.iand, 1) := by decide +kernel
theorem dX9_way_34 : decode cX9_way 34 = .ok (.iastore, 1) := by decide +kernel
theorem dX9_way_35 : decode cX9_way 35 = .ok (.aload_n 0, 1) := by decide +kernel
theorem dX9_way_36 : decode cX9_way 36 = .ok (.getfield 26, 3) := by decide +kernel
theorem dX9_way_39 : decode cX9_way 39 = .ok (.iload_n 2, 1) := by decide +kernel
theorem dX9_way_40 : decode cX9_way 40 = .ok (.dup2, 1) := by decide +kernel
theorem dX9_way_41 : decode cX9_way 41 = .ok (.iaload, 1) := by decide +kernel
theorem dX9_way_42 : decode cX9_way 42 = .ok (.iconst 1, 1) := by decide +kernel
theorem dX9_way_43 : decode cX9_way 43 = .ok (.iload_n 1, 1) := by decide +kernel
theorem dX9_way_44 : decode cX9_way 44 = .ok (.ishl, 1) := by decide +kernel
theorem dX9_way_45 : decode cX9_way 45 = .ok (.iconst (-1), 1) := by decide +kernel
theorem dX9_way_46 : decode cX9_way 46 = .ok (.ixor, 1) := by decide +kernel
theorem dX9_way_47 : decode cX9_way 47 = .ok (.iand, 1) := by decide +kernel
theorem dX9_way_48 : decode cX9_way 48 = .ok (.iastore, 1) := by decide +kernel
theorem dX9_way_49 : decode cX9_way 49 = .ok (.aload_n 0, 1) := by decide +kernel
theorem dX9_way_50 : decode cX9_way 50 = .ok (.getfield 26, 3) := by decide +kernel
theorem dX9_way_53 : decode cX9_way 53 = .ok (.iload_n 1, 1) := by decide +kernel
theorem dX9_way_54 : decode cX9_way 54 = .ok (.dup2, 1) := by decide +kernel
theorem dX9_way_55 : decode cX9_way 55 = .ok (.iaload, 1) := by decide +kernel
theorem dX9_way_56 : decode cX9_way 56 = .ok (.iload_n 3, 1) := by decide +kernel
theorem dX9_way_57 : decode cX9_way 57 = .ok (.ifCond .eq 9, 3) := by decide +kernel
theorem dX9_way_60 : decode cX9_way 60 = .ok (.iconst 1, 1) := by decide +kernel
theorem dX9_way_61 : decode cX9_way 61 = .ok (.iload_n 2, 1) := by decide +kernel
theorem dX9_way_62 : decode cX9_way 62 = .ok (.ishl, 1) := by decide +kernel
theorem dX9_way_63 : decode cX9_way 63 = .ok (.goto 4, 3) := by decide +kernel
theorem dX9_way_66 : decode cX9_way 66 = .ok (.iconst 0, 1) := by decide +kernel
theorem dX9_way_67 : decode cX9_way 67 = .ok (.ior, 1) := by decide +kernel
theorem dX9_way_68 : decode cX9_way 68 = .ok (.iastore, 1) := by decide +kernel
theorem dX9_way_69 : decode cX9_way 69 = .ok (.aload_n 0, 1) := by decide +kernel
theorem dX9_way_70 : decode cX9_way 70 = .ok (.getfield 26, 3) := by decide +kernel
theorem dX9_way_73 : decode cX9_way 73 = .ok (.iload_n 2, 1) := by decide +kernel
theorem dX9_way_74 : decode cX9_way 74 = .ok (.dup2, 1) := by decide +kernel
theorem dX9_way_75 : decode cX9_way 75 = .ok (.iaload, 1) := by decide +kernel
theorem dX9_way_76 : decode cX9_way 76 = .ok (.iload_n 3, 1) := by decide +kernel
theorem dX9_way_77 : decode cX9_way 77 = .ok (.ifCond .eq 9, 3) := by decide +kernel
theorem dX9_way_80 : decode cX9_way 80 = .ok (.iconst 1, 1) := by decide +kernel
theorem dX9_way_81 : decode cX9_way 81 = .ok (.iload_n 1, 1) := by decide +kernel
theorem dX9_way_82 : decode cX9_way 82 = .ok (.ishl, 1) := by decide +kernel
theorem dX9_way_83 : decode cX9_way 83 = .ok (.goto 4, 3) := by decide +kernel
theorem dX9_way_86 : decode cX9_way 86 = .ok (.iconst 0, 1) := by decide +kernel
theorem dX9_way_87 : decode cX9_way 87 = .ok (.ior, 1) := by decide +kernel
theorem dX9_way_88 : decode cX9_way 88 = .ok (.iastore, 1) := by decide +kernel
theorem dX9_way_89 : decode cX9_way 89 = .ok (.iconst 0, 1) := by decide +kernel
theorem dX9_way_90 : decode cX9_way 90 = .ok (.istore 4, 2) := by decide +kernel
theorem dX9_way_92 : decode cX9_way 92 = .ok (.iconst 0, 1) := by decide +kernel
theorem dX9_way_93 : decode cX9_way 93 = .ok (.istore 5, 2) := by decide +kernel
theorem dX9_way_95 : decode cX9_way 95 = .ok (.iload 5, 2) := by decide +kernel
theorem dX9_way_97 : decode cX9_way 97 = .ok (.bipush 12, 2) := by decide +kernel
theorem dX9_way_99 : decode cX9_way 99 = .ok (.if_icmp .ge 24, 3) := by decide +kernel
theorem dX9_way_102 : decode cX9_way 102 = .ok (.iload 4, 2) := by decide +kernel
theorem dX9_way_104 : decode cX9_way 104 = .ok (.aload_n 0, 1) := by decide +kernel
theorem dX9_way_105 : decode cX9_way 105 = .ok (.getfield 26, 3) := by decide +kernel
theorem dX9_way_108 : decode cX9_way 108 = .ok (.iload 5, 2) := by decide +kernel
theorem dX9_way_110 : decode cX9_way 110 = .ok (.iaload, 1) := by decide +kernel
theorem dX9_way_111 : decode cX9_way 111 = .ok (.invokestatic 62, 3) := by decide +kernel
theorem dX9_way_114 : decode cX9_way 114 = .ok (.iadd, 1) := by decide +kernel
theorem dX9_way_115 : decode cX9_way 115 = .ok (.istore 4, 2) := by decide +kernel
theorem dX9_way_117 : decode cX9_way 117 = .ok (.iinc 5 1, 3) := by decide +kernel
theorem dX9_way_120 : decode cX9_way 120 = .ok (.goto (-25), 3) := by decide +kernel
theorem dX9_way_123 : decode cX9_way 123 = .ok (.iload 4, 2) := by decide +kernel
theorem dX9_way_125 : decode cX9_way 125 = .ok (.iconst 2, 1) := by decide +kernel
theorem dX9_way_126 : decode cX9_way 126 = .ok (.idiv, 1) := by decide +kernel
theorem dX9_way_127 : decode cX9_way 127 = .ok (.ireturn, 1) := by decide +kernel
theorem dX9_milk_0 : decode cX9_milk 0 = .ok (.iload_n 1, 1) := by decide +kernel
theorem dX9_milk_1 : decode cX9_milk 1 = .ok (.iconst 0, 1) := by decide +kernel
theorem dX9_milk_2 : decode cX9_milk 2 = .ok (.sipush 4095, 3) := by decide +kernel
theorem dX9_milk_5 : decode cX9_milk 5 = .ok (.invokestatic 54, 3) := by decide +kernel
theorem dX9_milk_8 : decode cX9_milk 8 = .ok (.ifCond .ne 6, 3) := by decide +kernel
theorem dX9_milk_11 : decode cX9_milk 11 = .ok (.bipush (-2), 2) := by decide +kernel
theorem dX9_milk_13 : decode cX9_milk 13 = .ok (.ireturn, 1) := by decide +kernel
theorem dX9_milk_14 : decode cX9_milk 14 = .ok (.aload_n 0, 1) := by decide +kernel
theorem dX9_milk_15 : decode cX9_milk 15 = .ok (.getfield 70, 3) := by decide +kernel
theorem dX9_milk_18 : decode cX9_milk 18 = .ok (.istore_n 2, 1) := by decide +kernel
theorem dX9_milk_19 : decode cX9_milk 19 = .ok (.aload_n 0, 1) := by decide +kernel
theorem dX9_milk_20 : decode cX9_milk 20 = .ok (.iload_n 1, 1) := by decide +kernel
theorem dX9_milk_21 : decode cX9_milk 21 = .ok (.putfield 70, 3) := by decide +kernel
theorem dX9_milk_24 : decode cX9_milk 24 = .ok (.iload_n 2, 1) := by decide +kernel
theorem dX9_milk_25 : decode cX9_milk 25 = .ok (.ireturn, 1) := by decide +kernel
theorem dX9_say_0 : decode cX9_say 0 = .ok (.iload_n 1, 1) := by decide +kernel
theorem dX9_say_1 : decode cX9_say 1 = .ok (.bipush 33, 2) := by decide +kernel
theorem dX9_say_3 : decode cX9_say 3 = .ok (.bipush 126, 2) := by decide +kernel
theorem dX9_say_5 : decode cX9_say 5 = .ok (.invokestatic 54, 3) := by decide +kernel
theorem dX9_say_8 : decode cX9_say 8 = .ok (.ifCond .ne 6, 3) := by decide +kernel
theorem dX9_say_11 : decode cX9_say 11 = .ok (.bipush (-2), 2) := by decide +kernel
theorem dX9_say_13 : decode cX9_say 13 = .ok (.ireturn, 1) := by decide +kernel
theorem dX9_say_14 : decode cX9_say 14 = .ok (.aload_n 0, 1) := by decide +kernel
theorem dX9_say_15 : decode cX9_say 15 = .ok (.getfield 73, 3) := by decide +kernel
theorem dX9_say_18 : decode cX9_say 18 = .ok (.bipush 60, 2) := by decide +kernel
theorem dX9_say_20 : decode cX9_say 20 = .ok (.if_icmp .ne 6, 3) := by decide +kernel
theorem dX9_say_23 : decode cX9_say 23 = .ok (.bipush (-4), 2) := by decide +kernel
theorem dX9_say_25 : decode cX9_say 25 = .ok (.ireturn, 1) := by decide +kernel
theorem dX9_say_26 : decode cX9_say 26 = .ok (.aload_n 0, 1) := by decide +kernel
theorem dX9_say_27 : decode cX9_say 27 = .ok (.getfield 32, 3) := by decide +kernel
theorem dX9_say_30 : decode cX9_say 30 = .ok (.aload_n 0, 1) := by decide +kernel
theorem dX9_say_31 : decode cX9_say 31 = .ok (.getfield 73, 3) := by decide +kernel
theorem dX9_say_34 : decode cX9_say 34 = .ok (.iload_n 1, 1) := by decide +kernel
theorem dX9_say_35 : decode cX9_say 35 = .ok (.iastore, 1) := by decide +kernel
theorem dX9_say_36 : decode cX9_say 36 = .ok (.aload_n 0, 1) := by decide +kernel
theorem dX9_say_37 : decode cX9_say 37 = .ok (.dup, 1) := by decide +kernel
theorem dX9_say_38 : decode cX9_say 38 = .ok (.getfield 73, 3) := by decide +kernel
theorem dX9_say_41 : decode cX9_say 41 = .ok (.iconst 1, 1) := by decide +kernel
theorem dX9_say_42 : decode cX9_say 42 = .ok (.iadd, 1) := by decide +kernel
theorem dX9_say_43 : decode cX9_say 43 = .ok (.putfield 73, 3) := by decide +kernel
theorem dX9_say_46 : decode cX9_say 46 = .ok (.aload_n 0, 1) := by decide +kernel
theorem dX9_say_47 : decode cX9_say 47 = .ok (.getfield 73, 3) := by decide +kernel
theorem dX9_say_50 : decode cX9_say 50 = .ok (.ireturn, 1) := by decide +kernel
theorem dX9_wipe_0 : decode cX9_wipe 0 = .ok (.aload_n 0, 1) := by decide +kernel
theorem dX9_wipe_1 : decode cX9_wipe 1 = .ok (.getfield 73, 3) := by decide +kernel
theorem dX9_wipe_4 : decode cX9_wipe 4 = .ok (.istore_n 1, 1) := by decide +kernel
theorem dX9_wipe_5 : decode cX9_wipe 5 = .ok (.aload_n 0, 1) := by decide +kernel
theorem dX9_wipe_6 : decode cX9_wipe 6 = .ok (.iconst 0, 1) := by decide +kernel
theorem dX9_wipe_7 : decode cX9_wipe 7 = .ok (.putfield 73, 3) := by decide +kernel
theorem dX9_wipe_10 : decode cX9_wipe 10 = .ok (.iload_n 1, 1) := by decide +kernel
theorem dX9_wipe_11 : decode cX9_wipe 11 = .ok (.ireturn, 1) := by decide +kernel
theorem dX9_faultOf_0 : decode cX9_faultOf 0 = .ok (.iconst 0, 1) := by decide +kernel
theorem dX9_faultOf_1 : decode cX9_faultOf 1 = .ok (.istore_n 1, 1) := by decide +kernel
theorem dX9_faultOf_2 : decode cX9_faultOf 2 = .ok (.iconst 0, 1) := by decide +kernel
theorem dX9_faultOf_3 : decode cX9_faultOf 3 = .ok (.istore_n 2, 1) := by decide +kernel
theorem dX9_faultOf_4 : decode cX9_faultOf 4 = .ok (.iload_n 2, 1) := by decide +kernel
theorem dX9_faultOf_5 : decode cX9_faultOf 5 = .ok (.aload_n 0, 1) := by decide +kernel
theorem dX9_faultOf_6 : decode cX9_faultOf 6 = .ok (.getfield 73, 3) := by decide +kernel
theorem dX9_faultOf_9 : decode cX9_faultOf 9 = .ok (.if_icmp .ge 155, 3) := by decide +kernel
theorem dX9_faultOf_12 : decode cX9_faultOf 12 = .ok (.aload_n 0, 1) := by decide +kernel
theorem dX9_faultOf_13 : decode cX9_faultOf 13 = .ok (.getfield 32, 3) := by decide +kernel
theorem dX9_faultOf_16 : decode cX9_faultOf 16 = .ok (.iload_n 2, 1) := by decide +kernel
theorem dX9_faultOf_17 : decode cX9_faultOf 17 = .ok (.iaload, 1) := by decide +kernel
theorem dX9_faultOf_18 : decode cX9_faultOf 18 = .ok (.istore_n 3, 1) := by decide +kernel
theorem dX9_faultOf_19 : decode cX9_faultOf 19 = .ok (.iload_n 3, 1) := by decide +kernel
theorem dX9_faultOf_20 : decode cX9_faultOf 20 = .ok (.bipush 65, 2) := by decide +kernel
theorem dX9_faultOf_22 : decode cX9_faultOf 22 = .ok (.bipush 72, 2) := by decide +kernel
theorem dX9_faultOf_24 : decode cX9_faultOf 24 = .ok (.invokestatic 54, 3) := by decide +kernel
theorem dX9_faultOf_27 : decode cX9_faultOf 27 = .ok (.istore 4, 2) := by decide +kernel
theorem dX9_faultOf_29 : decode cX9_faultOf 29 = .ok (.iload_n 3, 1) := by decide +kernel
theorem dX9_faultOf_30 : decode cX9_faultOf 30 = .ok (.bipush 62, 2) := by decide +kernel
theorem dX9_faultOf_32 : decode cX9_faultOf 32 = .ok (.if_icmp .eq 9, 3) := by decide +kernel
theorem dX9_faultOf_35 : decode cX9_faultOf 35 = .ok (.iload_n 3, 1) := by decide +kernel
theorem dX9_faultOf_36 : decode cX9_faultOf 36 = .ok (.bipush 60, 2) := by decide +kernel
theorem dX9_faultOf_38 : decode cX9_faultOf 38 = .ok (.if_icmp .ne 7, 3) := by decide +kernel
theorem dX9_faultOf_41 : decode cX9_faultOf 41 = .ok (.iconst 1, 1) := by decide +kernel
theorem dX9_faultOf_42 : decode cX9_faultOf 42 = .ok (.goto 4, 3) := by decide +kernel
theorem dX9_faultOf_45 : decode cX9_faultOf 45 = .ok (.iconst 0, 1) := by decide +kernel
theorem dX9_faultOf_46 : decode cX9_faultOf 46 = .ok (.istore 5, 2) := by decide +kernel
theorem dX9_faultOf_48 : decode cX9_faultOf 48 = .ok (.iload_n 1, 1) := by decide +kernel
theorem dX9_faultOf_49 : decode cX9_faultOf 49 = .ok (.ifCond .ne 27, 3) := by decide +kernel
theorem dX9_faultOf_52 : decode cX9_faultOf 52 = .ok (.iload 4, 2) := by decide +kernel
theorem dX9_faultOf_54 : decode cX9_faultOf 54 = .ok (.ifCond .ne 14, 3) := by decide +kernel
theorem dX9_faultOf_57 : decode cX9_faultOf 57 = .ok (.iload 5, 2) := by decide +kernel
theorem dX9_faultOf_59 : decode cX9_faultOf 59 = .ok (.ifCond .ne 9, 3) := by decide +kernel
theorem dX9_faultOf_62 : decode cX9_faultOf 62 = .ok (.iload_n 3, 1) := by decide +kernel
theorem dX9_faultOf_63 : decode cX9_faultOf 63 = .ok (.bipush 46, 2) := by decide +kernel
theorem dX9_faultOf_65 : decode cX9_faultOf 65 = .ok (.if_icmp .ne 7, 3) := by decide +kernel
theorem dX9_faultOf_68 : decode cX9_faultOf 68 = .ok (.iconst 1, 1) := by decide +kernel
theorem dX9_faultOf_69 : decode cX9_faultOf 69 = .ok (.goto 52, 3) := by decide +kernel
theorem dX9_faultOf_72 : decode cX9_faultOf 72 = .ok (.iconst 0, 1) := by decide +kernel
theorem dX9_faultOf_73 : decode cX9_faultOf 73 = .ok (.goto 48, 3) := by decide +kernel
theorem dX9_faultOf_76 : decode cX9_faultOf 76 = .ok (.iload_n 1, 1) := by decide +kernel
theorem dX9_faultOf_77 : decode cX9_faultOf 77 = .ok (.iconst 1, 1) := by decide +kernel
theorem dX9_faultOf_78 : decode cX9_faultOf 78 = .ok (.if_icmp .ne 35, 3) := by decide +kernel
theorem dX9_faultOf_81 : decode cX9_faultOf 81 = .ok (.iload_n 3, 1) := by decide +kernel
theorem dX9_faultOf_82 : decode cX9_faultOf 82 = .ok (.bipush 63, 2) := by decide +kernel
theorem dX9_faultOf_84 : decode cX9_faultOf 84 = .ok (.if_icmp .eq 21, 3) := by decide +kernel
theorem dX9_faultOf_87 : decode cX9_faultOf 87 = .ok (.iload_n 3, 1) := by decide +kernel
theorem dX9_faultOf_88 : decode cX9_faultOf 88 = .ok (.bipush 61, 2) := by decide +kernel
theorem dX9_faultOf_90 : decode cX9_faultOf 90 = .ok (.if_icmp .eq 15, 3) := by decide +kernel
theorem dX9_faultOf_93 : decode cX9_faultOf 93 = .ok (.iload_n 3, 1) := by decide +kernel
theorem dX9_faultOf_94 : decode cX9_faultOf 94 = .ok (.bipush 126, 2) := by decide +kernel
theorem dX9_faultOf_96 : decode cX9_faultOf 96 = .ok (.if_icmp .eq 9, 3) := by decide +kernel
theorem dX9_faultOf_99 : decode cX9_faultOf 99 = .ok (.iload_n 3, 1) := by decide +kernel
theorem dX9_faultOf_100 : decode cX9_faultOf 100 = .ok (.bipush 33, 2) := by decide +kernel
theorem dX9_faultOf_102 : decode cX9_faultOf 102 = .ok (.if_icmp .ne 7, 3) := by decide +kernel
theorem dX9_faultOf_105 : decode cX9_faultOf 105 = .ok (.iconst 1, 1) := by decide +kernel
theorem dX9_faultOf_106 : decode cX9_faultOf 106 = .ok (.goto 15, 3) := by decide +kernel
theorem dX9_faultOf_109 : decode cX9_faultOf 109 = .ok (.iconst 0, 1) := by decide +kernel
theorem dX9_faultOf_110 : decode cX9_faultOf 110 = .ok (.goto 11, 3) := by decide +kernel
theorem dX9_faultOf_113 : decode cX9_faultOf 113 = .ok (.iload_n 3, 1) := by decide +kernel
theorem dX9_faultOf_114 : decode cX9_faultOf 114 = .ok (.bipush 49, 2) := by decide +kernel
theorem dX9_faultOf_116 : decode cX9_faultOf 116 = .ok (.bipush 57, 2) := by decide +kernel
theorem dX9_faultOf_118 : decode cX9_faultOf 118 = .ok (.invokestatic 54, 3) := by decide +kernel
theorem dX9_faultOf_121 : decode cX9_faultOf 121 = .ok (.istore 6, 2) := by decide +kernel
theorem dX9_faultOf_123 : decode cX9_faultOf 123 = .ok (.iload 6, 2) := by decide +kernel
theorem dX9_faultOf_125 : decode cX9_faultOf 125 = .ok (.ifCond .ne 5, 3) := by decide +kernel
theorem dX9_faultOf_128 : decode cX9_faultOf 128 = .ok (.iload_n 2, 1) := by decide +kernel
theorem dX9_faultOf_129 : decode cX9_faultOf 129 = .ok (.ireturn, 1) := by decide +kernel
theorem dX9_faultOf_130 : decode cX9_faultOf 130 = .ok (.iload_n 1, 1) := by decide +kernel
theorem dX9_faultOf_131 : decode cX9_faultOf 131 = .ok (.ifCond .eq 7, 3) := by decide +kernel
theorem dX9_faultOf_134 : decode cX9_faultOf 134 = .ok (.iconst 0, 1) := by decide +kernel
theorem dX9_faultOf_135 : decode cX9_faultOf 135 = .ok (.goto 22, 3) := by decide +kernel
theorem dX9_faultOf_138 : decode cX9_faultOf 138 = .ok (.iload 4, 2) := by decide +kernel
theorem dX9_faultOf_140 : decode cX9_faultOf 140 = .ok (.ifCond .eq 7, 3) := by decide +kernel
theorem dX9_faultOf_143 : decode cX9_faultOf 143 = .ok (.iconst 1, 1) := by decide +kernel
theorem dX9_faultOf_144 : decode cX9_faultOf 144 = .ok (.goto 13, 3) := by decide +kernel
theorem dX9_faultOf_147 : decode cX9_faultOf 147 = .ok (.iload 5, 2) := by decide +kernel
theorem dX9_faultOf_149 : decode cX9_faultOf 149 = .ok (.ifCond .eq 7, 3) := by decide +kernel
theorem dX9_faultOf_152 : decode cX9_faultOf 152 = .ok (.iconst 2, 1) := by decide +kernel
theorem dX9_faultOf_153 : decode cX9_faultOf 153 = .ok (.goto 4, 3) := by decide +kernel
theorem dX9_faultOf_156 : decode cX9_faultOf 156 = .ok (.iconst 0, 1) := by decide +kernel
theorem dX9_faultOf_157 : decode cX9_faultOf 157 = .ok (.istore_n 1, 1) := by decide +kernel
theorem dX9_faultOf_158 : decode cX9_faultOf 158 = .ok (.iinc 2 1, 3) := by decide +kernel
theorem dX9_faultOf_161 : decode cX9_faultOf 161 = .ok (.goto (-157), 3) := by decide +kernel
theorem dX9_faultOf_164 : decode cX9_faultOf 164 = .ok (.iload_n 1, 1) := by decide +kernel
theorem dX9_faultOf_165 : decode cX9_faultOf 165 = .ok (.ifCond .ne 8, 3) := by decide +kernel
theorem dX9_faultOf_168 : decode cX9_faultOf 168 = .ok (.bipush (-6), 2) := by decide +kernel
theorem dX9_faultOf_170 : decode cX9_faultOf 170 = .ok (.goto 7, 3) := by decide +kernel
theorem dX9_faultOf_173 : decode cX9_faultOf 173 = .ok (.aload_n 0, 1) := by decide +kernel
theorem dX9_faultOf_174 : decode cX9_faultOf 174 = .ok (.getfield 73, 3) := by decide +kernel
theorem dX9_faultOf_177 : decode cX9_faultOf 177 = .ok (.ireturn, 1) := by decide +kernel
theorem dX9_fault_0 : decode cX9_fault 0 = .ok (.aload_n 0, 1) := by decide +kernel
theorem dX9_fault_1 : decode cX9_fault 1 = .ok (.invokevirtual 76, 3) := by decide +kernel
theorem dX9_fault_4 : decode cX9_fault 4 = .ok (.ireturn, 1) := by decide +kernel
theorem dX9_asNow_0 : decode cX9_asNow 0 = .ok (.iconst 0, 1) := by decide +kernel
theorem dX9_asNow_1 : decode cX9_asNow 1 = .ok (.istore_n 1, 1) := by decide +kernel
theorem dX9_asNow_2 : decode cX9_asNow 2 = .ok (.iload_n 1, 1) := by decide +kernel
theorem dX9_asNow_3 : decode cX9_asNow 3 = .ok (.bipush 12, 2) := by decide +kernel
theorem dX9_asNow_5 : decode cX9_asNow 5 = .ok (.if_icmp .ge 21, 3) := by decide +kernel
theorem dX9_asNow_8 : decode cX9_asNow 8 = .ok (.aload_n 0, 1) := by decide +kernel
theorem dX9_asNow_9 : decode cX9_asNow 9 = .ok (.getfield 13, 3) := by decide +kernel
theorem dX9_asNow_12 : decode cX9_asNow 12 = .ok (.iload_n 1, 1) := by decide +kernel
theorem dX9_asNow_13 : decode cX9_asNow 13 = .ok (.aload_n 0, 1) := by decide +kernel
theorem dX9_asNow_14 : decode cX9_asNow 14 = .ok (.getfield 7, 3) := by decide +kernel
theorem dX9_asNow_17 : decode cX9_asNow 17 = .ok (.iload_n 1, 1) := by decide +kernel
theorem dX9_asNow_18 : decode cX9_asNow 18 = .ok (.iaload, 1) := by decide +kernel
theorem dX9_asNow_19 : decode cX9_asNow 19 = .ok (.iastore, 1) := by decide +kernel
theorem dX9_asNow_20 : decode cX9_asNow 20 = .ok (.iinc 1 1, 3) := by decide +kernel
theorem dX9_asNow_23 : decode cX9_asNow 23 = .ok (.goto (-21), 3) := by decide +kernel
theorem dX9_asNow_26 : decode cX9_asNow 26 = .ok (.aload_n 0, 1) := by decide +kernel
theorem dX9_asNow_27 : decode cX9_asNow 27 = .ok (.bipush (-6), 2) := by decide +kernel
theorem dX9_asNow_29 : decode cX9_asNow 29 = .ok (.putfield 80, 3) := by decide +kernel
theorem dX9_asNow_32 : decode cX9_asNow 32 = .ok (.aload_n 0, 1) := by decide +kernel
theorem dX9_asNow_33 : decode cX9_asNow 33 = .ok (.bipush (-6), 2) := by decide +kernel
theorem dX9_asNow_35 : decode cX9_asNow 35 = .ok (.putfield 83, 3) := by decide +kernel
theorem dX9_asNow_38 : decode cX9_asNow 38 = .ok (.return_, 1) := by decide +kernel
theorem dX9_sits_0 : decode cX9_sits 0 = .ok (.iload_n 1, 1) := by decide +kernel
theorem dX9_sits_1 : decode cX9_sits 1 = .ok (.iconst 0, 1) := by decide +kernel
theorem dX9_sits_2 : decode cX9_sits 2 = .ok (.bipush 7, 2) := by decide +kernel
theorem dX9_sits_4 : decode cX9_sits 4 = .ok (.invokestatic 54, 3) := by decide +kernel
theorem dX9_sits_7 : decode cX9_sits 7 = .ok (.ifCond .eq 21, 3) := by decide +kernel
theorem dX9_sits_10 : decode cX9_sits 10 = .ok (.aload_n 0, 1) := by decide +kernel
theorem dX9_sits_11 : decode cX9_sits 11 = .ok (.getfield 13, 3) := by decide +kernel
theorem dX9_sits_14 : decode cX9_sits 14 = .ok (.bipush 8, 2) := by decide +kernel
theorem dX9_sits_16 : decode cX9_sits 16 = .ok (.iaload, 1) := by decide +kernel
theorem dX9_sits_17 : decode cX9_sits 17 = .ok (.iload_n 1, 1) := by decide +kernel
theorem dX9_sits_18 : decode cX9_sits 18 = .ok (.invokestatic 58, 3) := by decide +kernel
theorem dX9_sits_21 : decode cX9_sits 21 = .ok (.ifCond .eq 7, 3) := by decide +kernel
theorem dX9_sits_24 : decode cX9_sits 24 = .ok (.iconst 1, 1) := by decide +kernel
theorem dX9_sits_25 : decode cX9_sits 25 = .ok (.goto 4, 3) := by decide +kernel
theorem dX9_sits_28 : decode cX9_sits 28 = .ok (.iconst 0, 1) := by decide +kernel
theorem dX9_sits_29 : decode cX9_sits 29 = .ok (.ireturn, 1) := by decide +kernel
theorem dX9_offOnes_0 : decode cX9_offOnes 0 = .ok (.iconst 0, 1) := by decide +kernel
theorem dX9_offOnes_1 : decode cX9_offOnes 1 = .ok (.istore_n 1, 1) := by decide +kernel
theorem dX9_offOnes_2 : decode cX9_offOnes 2 = .ok (.iconst 0, 1) := by decide +kernel
theorem dX9_offOnes_3 : decode cX9_offOnes 3 = .ok (.istore_n 2, 1) := by decide +kernel
theorem dX9_offOnes_4 : decode cX9_offOnes 4 = .ok (.iload_n 2, 1) := by decide +kernel
theorem dX9_offOnes_5 : decode cX9_offOnes 5 = .ok (.bipush 8, 2) := by decide +kernel
theorem dX9_offOnes_7 : decode cX9_offOnes 7 = .ok (.if_icmp .ge 36, 3) := by decide +kernel
theorem dX9_offOnes_10 : decode cX9_offOnes 10 = .ok (.iload_n 1, 1) := by decide +kernel
theorem dX9_offOnes_11 : decode cX9_offOnes 11 = .ok (.aload_n 0, 1) := by decide +kernel
theorem dX9_offOnes_12 : decode cX9_offOnes 12 = .ok (.iload_n 2, 1) := by decide +kernel
theorem dX9_offOnes_13 : decode cX9_offOnes 13 = .ok (.invokevirtual 86, 3) := by decide +kernel
theorem dX9_offOnes_16 : decode cX9_offOnes 16 = .ok (.ifCond .eq 18, 3) := by decide +kernel
theorem dX9_offOnes_19 : decode cX9_offOnes 19 = .ok (.aload_n 0, 1) := by decide +kernel
theorem dX9_offOnes_20 : decode cX9_offOnes 20 = .ok (.getfield 13, 3) := by decide +kernel
theorem dX9_offOnes_23 : decode cX9_offOnes 23 = .ok (.iload_n 2, 1) := by decide +kernel
theorem dX9_offOnes_24 : decode cX9_offOnes 24 = .ok (.iaload, 1) := by decide +kernel
theorem dX9_offOnes_25 : decode cX9_offOnes 25 = .ok (.ifCond .ne 9, 3) := by decide +kernel
theorem dX9_offOnes_28 : decode cX9_offOnes 28 = .ok (.iconst 1, 1) := by decide +kernel
theorem dX9_offOnes_29 : decode cX9_offOnes 29 = .ok (.iload_n 2, 1) := by decide +kernel
theorem dX9_offOnes_30 : decode cX9_offOnes 30 = .ok (.ishl, 1) := by decide +kernel
theorem dX9_offOnes_31 : decode cX9_offOnes 31 = .ok (.goto 4, 3) := by decide +kernel
theorem dX9_offOnes_34 : decode cX9_offOnes 34 = .ok (.iconst 0, 1) := by decide +kernel
theorem dX9_offOnes_35 : decode cX9_offOnes 35 = .ok (.ior, 1) := by decide +kernel
theorem dX9_offOnes_36 : decode cX9_offOnes 36 = .ok (.istore_n 1, 1) := by decide +kernel
theorem dX9_offOnes_37 : decode cX9_offOnes 37 = .ok (.iinc 2 1, 3) := by decide +kernel
theorem dX9_offOnes_40 : decode cX9_offOnes 40 = .ok (.goto (-36), 3) := by decide +kernel
theorem dX9_offOnes_43 : decode cX9_offOnes 43 = .ok (.iload_n 1, 1) := by decide +kernel
theorem dX9_offOnes_44 : decode cX9_offOnes 44 = .ok (.ireturn, 1) := by decide +kernel
theorem dX9_farFrom_0 : decode cX9_farFrom 0 = .ok (.aload_n 0, 1) := by decide +kernel
theorem dX9_farFrom_1 : decode cX9_farFrom 1 = .ok (.getfield 16, 3) := by decide +kernel
theorem dX9_farFrom_4 : decode cX9_farFrom 4 = .ok (.iload_n 1, 1) := by decide +kernel
theorem dX9_farFrom_5 : decode cX9_farFrom 5 = .ok (.iaload, 1) := by decide +kernel
theorem dX9_farFrom_6 : decode cX9_farFrom 6 = .ok (.aload_n 0, 1) := by decide +kernel
theorem dX9_farFrom_7 : decode cX9_farFrom 7 = .ok (.getfield 13, 3) := by decide +kernel
theorem dX9_farFrom_10 : decode cX9_farFrom 10 = .ok (.bipush 10, 2) := by decide +kernel
theorem dX9_farFrom_12 : decode cX9_farFrom 12 = .ok (.iaload, 1) := by decide +kernel
theorem dX9_farFrom_13 : decode cX9_farFrom 13 = .ok (.if_icmp .le 20, 3) := by decide +kernel
theorem dX9_farFrom_16 : decode cX9_farFrom 16 = .ok (.aload_n 0, 1) := by decide +kernel
theorem dX9_farFrom_17 : decode cX9_farFrom 17 = .ok (.getfield 16, 3) := by decide +kernel
theorem dX9_farFrom_20 : decode cX9_farFrom 20 = .ok (.iload_n 1, 1) := by decide +kernel
theorem dX9_farFrom_21 : decode cX9_farFrom 21 = .ok (.iaload, 1) := by decide +kernel
theorem dX9_farFrom_22 : decode cX9_farFrom 22 = .ok (.aload_n 0, 1) := by decide +kernel
theorem dX9_farFrom_23 : decode cX9_farFrom 23 = .ok (.getfield 13, 3) := by decide +kernel
theorem dX9_farFrom_26 : decode cX9_farFrom 26 = .ok (.bipush 10, 2) := by decide +kernel
theorem dX9_farFrom_28 : decode cX9_farFrom 28 = .ok (.iaload, 1) := by decide +kernel
theorem dX9_farFrom_29 : decode cX9_farFrom 29 = .ok (.isub, 1) := by decide +kernel
theorem dX9_farFrom_30 : decode cX9_farFrom 30 = .ok (.goto 17, 3) := by decide +kernel
theorem dX9_farFrom_33 : decode cX9_farFrom 33 = .ok (.aload_n 0, 1) := by decide +kernel
theorem dX9_farFrom_34 : decode cX9_farFrom 34 = .ok (.getfield 13, 3) := by decide +kernel
theorem dX9_farFrom_37 : decode cX9_farFrom 37 = .ok (.bipush 10, 2) := by decide +kernel
theorem dX9_farFrom_39 : decode cX9_farFrom 39 = .ok (.iaload, 1) := by decide +kernel
theorem dX9_farFrom_40 : decode cX9_farFrom 40 = .ok (.aload_n 0, 1) := by decide +kernel
theorem dX9_farFrom_41 : decode cX9_farFrom 41 = .ok (.getfield 16, 3) := by decide +kernel
theorem dX9_farFrom_44 : decode cX9_farFrom 44 = .ok (.iload_n 1, 1) := by decide +kernel
theorem dX9_farFrom_45 : decode cX9_farFrom 45 = .ok (.iaload, 1) := by decide +kernel
theorem dX9_farFrom_46 : decode cX9_farFrom 46 = .ok (.isub, 1) := by decide +kernel
theorem dX9_farFrom_47 : decode cX9_farFrom 47 = .ok (.ireturn, 1) := by decide +kernel
theorem dX9_lose_0 : decode cX9_lose 0 = .ok (.aload_n 0, 1) := by decide +kernel
theorem dX9_lose_1 : decode cX9_lose 1 = .ok (.getfield 13, 3) := by decide +kernel
theorem dX9_lose_4 : decode cX9_lose 4 = .ok (.iload_n 1, 1) := by decide +kernel
theorem dX9_lose_5 : decode cX9_lose 5 = .ok (.aload_n 0, 1) := by decide +kernel
theorem dX9_lose_6 : decode cX9_lose 6 = .ok (.getfield 13, 3) := by decide +kernel
theorem dX9_lose_9 : decode cX9_lose 9 = .ok (.iload_n 1, 1) := by decide +kernel
theorem dX9_lose_10 : decode cX9_lose 10 = .ok (.iaload, 1) := by decide +kernel
theorem dX9_lose_11 : decode cX9_lose 11 = .ok (.iload_n 2, 1) := by decide +kernel
theorem dX9_lose_12 : decode cX9_lose 12 = .ok (.if_icmp .le 14, 3) := by decide +kernel
theorem dX9_lose_15 : decode cX9_lose 15 = .ok (.aload_n 0, 1) := by decide +kernel
theorem dX9_lose_16 : decode cX9_lose 16 = .ok (.getfield 13, 3) := by decide +kernel
theorem dX9_lose_19 : decode cX9_lose 19 = .ok (.iload_n 1, 1) := by decide +kernel
theorem dX9_lose_20 : decode cX9_lose 20 = .ok (.iaload, 1) := by decide +kernel
theorem dX9_lose_21 : decode cX9_lose 21 = .ok (.iload_n 2, 1) := by decide +kernel
theorem dX9_lose_22 : decode cX9_lose 22 = .ok (.isub, 1) := by decide +kernel
theorem dX9_lose_23 : decode cX9_lose 23 = .ok (.goto 4, 3) := by decide +kernel
theorem dX9_lose_26 : decode cX9_lose 26 = .ok (.iconst 0, 1) := by decide +kernel
theorem dX9_lose_27 : decode cX9_lose 27 = .ok (.iastore, 1) := by decide +kernel
theorem dX9_lose_28 : decode cX9_lose 28 = .ok (.return_, 1) := by decide +kernel
theorem dX9_step_0 : decode cX9_step 0 = .ok (.aload_n 0, 1) := by decide +kernel
theorem dX9_step_1 : decode cX9_step 1 = .ok (.getfield 13, 3) := by decide +kernel
theorem dX9_step_4 : decode cX9_step 4 = .ok (.bipush 10, 2) := by decide +kernel
theorem dX9_step_6 : decode cX9_step 6 = .ok (.iaload, 1) := by decide +kernel
theorem dX9_step_7 : decode cX9_step 7 = .ok (.iload_n 1, 1) := by decide +kernel
theorem dX9_step_8 : decode cX9_step 8 = .ok (.iadd, 1) := by decide +kernel
theorem dX9_step_9 : decode cX9_step 9 = .ok (.iconst 0, 1) := by decide +kernel
theorem dX9_step_10 : decode cX9_step 10 = .ok (.bipush 15, 2) := by decide +kernel
theorem dX9_step_12 : decode cX9_step 12 = .ok (.invokestatic 54, 3) := by decide +kernel
theorem dX9_step_15 : decode cX9_step 15 = .ok (.ifCond .ne 5, 3) := by decide +kernel
theorem dX9_step_18 : decode cX9_step 18 = .ok (.iconst 2, 1) := by decide +kernel
theorem dX9_step_19 : decode cX9_step 19 = .ok (.ireturn, 1) := by decide +kernel
theorem dX9_step_20 : decode cX9_step 20 = .ok (.aload_n 0, 1) := by decide +kernel
theorem dX9_step_21 : decode cX9_step 21 = .ok (.getfield 13, 3) := by decide +kernel
theorem dX9_step_24 : decode cX9_step 24 = .ok (.bipush 10, 2) := by decide +kernel
theorem dX9_step_26 : decode cX9_step 26 = .ok (.dup2, 1) := by decide +kernel
theorem dX9_step_27 : decode cX9_step 27 = .ok (.iaload, 1) := by decide +kernel
theorem dX9_step_28 : decode cX9_step 28 = .ok (.iload_n 1, 1) := by decide +kernel
theorem dX9_step_29 : decode cX9_step 29 = .ok (.iadd, 1) := by decide +kernel
theorem dX9_step_30 : decode cX9_step 30 = .ok (.iastore, 1) := by decide +kernel
theorem dX9_step_31 : decode cX9_step 31 = .ok (.iconst 0, 1) := by decide +kernel
theorem dX9_step_32 : decode cX9_step 32 = .ok (.ireturn, 1) := by decide +kernel
theorem dX9_bend_0 : decode cX9_bend 0 = .ok (.aload_n 0, 1) := by decide +kernel
theorem dX9_bend_1 : decode cX9_bend 1 = .ok (.iload_n 1, 1) := by decide +kernel
theorem dX9_bend_2 : decode cX9_bend 2 = .ok (.invokevirtual 86, 3) := by decide +kernel
theorem dX9_bend_5 : decode cX9_bend 5 = .ok (.ifCond .ne 5, 3) := by decide +kernel
theorem dX9_bend_8 : decode cX9_bend 8 = .ok (.iconst 1, 1) := by decide +kernel
theorem dX9_bend_9 : decode cX9_bend 9 = .ok (.ireturn, 1) := by decide +kernel
theorem dX9_bend_10 : decode cX9_bend 10 = .ok (.aload_n 0, 1) := by decide +kernel
theorem dX9_bend_11 : decode cX9_bend 11 = .ok (.iload_n 1, 1) := by decide +kernel
theorem dX9_bend_12 : decode cX9_bend 12 = .ok (.invokevirtual 89, 3) := by decide +kernel
theorem dX9_bend_15 : decode cX9_bend 15 = .ok (.iconst 1, 1) := by decide +kernel
theorem dX9_bend_16 : decode cX9_bend 16 = .ok (.if_icmp .le 5, 3) := by decide +kernel
theorem dX9_bend_19 : decode cX9_bend 19 = .ok (.iconst 3, 1) := by decide +kernel
theorem dX9_bend_20 : decode cX9_bend 20 = .ok (.ireturn, 1) := by decide +kernel
theorem dX9_bend_21 : decode cX9_bend 21 = .ok (.aload_n 0, 1) := by decide +kernel
theorem dX9_bend_22 : decode cX9_bend 22 = .ok (.getfield 13, 3) := by decide +kernel
theorem dX9_bend_25 : decode cX9_bend 25 = .ok (.iload_n 1, 1) := by decide +kernel
theorem dX9_bend_26 : decode cX9_bend 26 = .ok (.iaload, 1) := by decide +kernel
theorem dX9_bend_27 : decode cX9_bend 27 = .ok (.ifCond .ne 5, 3) := by decide +kernel
theorem dX9_bend_30 : decode cX9_bend 30 = .ok (.iconst 4, 1) := by decide +kernel
theorem dX9_bend_31 : decode cX9_bend 31 = .ok (.ireturn, 1) := by decide +kernel
theorem dX9_bend_32 : decode cX9_bend 32 = .ok (.aload_n 0, 1) := by decide +kernel
theorem dX9_bend_33 : decode cX9_bend 33 = .ok (.iload_n 1, 1) := by decide +kernel
theorem dX9_bend_34 : decode cX9_bend 34 = .ok (.iconst 2, 1) := by decide +kernel
theorem dX9_bend_35 : decode cX9_bend 35 = .ok (.aload_n 0, 1) := by decide +kernel
theorem dX9_bend_36 : decode cX9_bend 36 = .ok (.getfield 19, 3) := by decide +kernel
theorem dX9_bend_39 : decode cX9_bend 39 = .ok (.imul, 1) := by decide +kernel
theorem dX9_bend_40 : decode cX9_bend 40 = .ok (.aload_n 0, 1) := by decide +kernel
theorem dX9_bend_41 : decode cX9_bend 41 = .ok (.getfield 13, 3) := by decide +kernel
theorem dX9_bend_44 : decode cX9_bend 44 = .ok (.bipush 9, 2) := by decide +kernel
theorem dX9_bend_46 : decode cX9_bend 46 = .ok (.iaload, 1) := by decide +kernel
theorem dX9_bend_47 : decode cX9_bend 47 = .ok (.iload_n 1, 1) := by decide +kernel
theorem dX9_bend_48 : decode cX9_bend 48 = .ok (.invokestatic 58, 3) := by decide +kernel
theorem dX9_bend_51 : decode cX9_bend 51 = .ok (.ifCond .eq 12, 3) := by decide +kernel
theorem dX9_bend_54 : decode cX9_bend 54 = .ok (.iconst 3, 1) := by decide +kernel
theorem dX9_bend_55 : decode cX9_bend 55 = .ok (.aload_n 0, 1) := by decide +kernel
theorem dX9_bend_56 : decode cX9_bend 56 = .ok (.getfield 23, 3) := by decide +kernel
theorem dX9_bend_59 : decode cX9_bend 59 = .ok (.imul, 1) := by decide +kernel
theorem dX9_bend_60 : decode cX9_bend 60 = .ok (.goto 4, 3) := by decide +kernel
theorem dX9_bend_63 : decode cX9_bend 63 = .ok (.iconst 0, 1) := by decide +kernel
theorem dX9_bend_64 : decode cX9_bend 64 = .ok (.iadd, 1) := by decide +kernel
theorem dX9_bend_65 : decode cX9_bend 65 = .ok (.invokevirtual 92, 3) := by decide +kernel
theorem dX9_bend_68 : decode cX9_bend 68 = .ok (.iconst 0, 1) := by decide +kernel
theorem dX9_bend_69 : decode cX9_bend 69 = .ok (.ireturn, 1) := by decide +kernel
theorem dX9_fill_0 : decode cX9_fill 0 = .ok (.aload_n 0, 1) := by decide +kernel
theorem dX9_fill_1 : decode cX9_fill 1 = .ok (.iload_n 1, 1) := by decide +kernel
theorem dX9_fill_2 : decode cX9_fill 2 = .ok (.invokevirtual 86, 3) := by decide +kernel
theorem dX9_fill_5 : decode cX9_fill 5 = .ok (.ifCond .ne 5, 3) := by decide +kernel
theorem dX9_fill_8 : decode cX9_fill 8 = .ok (.iconst 1, 1) := by decide +kernel
theorem dX9_fill_9 : decode cX9_fill 9 = .ok (.ireturn, 1) := by decide +kernel
theorem dX9_fill_10 : decode cX9_fill 10 = .ok (.aload_n 0, 1) := by decide +kernel
theorem dX9_fill_11 : decode cX9_fill 11 = .ok (.getfield 13, 3) := by decide +kernel
theorem dX9_fill_14 : decode cX9_fill 14 = .ok (.iload_n 1, 1) := by decide +kernel
theorem dX9_fill_15 : decode cX9_fill 15 = .ok (.iaload, 1) := by decide +kernel
theorem dX9_fill_16 : decode cX9_fill 16 = .ok (.bipush 49, 2) := by decide +kernel
theorem dX9_fill_18 : decode cX9_fill 18 = .ok (.if_icmp .le 5, 3) := by decide +kernel
theorem dX9_fill_21 : decode cX9_fill 21 = .ok (.iconst 4, 1) := by decide +kernel
theorem dX9_fill_22 : decode cX9_fill 22 = .ok (.ireturn, 1) := by decide +kernel
theorem dX9_fill_23 : decode cX9_fill 23 = .ok (.aload_n 0, 1) := by decide +kernel
theorem dX9_fill_24 : decode cX9_fill 24 = .ok (.getfield 13, 3) := by decide +kernel
theorem dX9_fill_27 : decode cX9_fill 27 = .ok (.iload_n 1, 1) := by decide +kernel
theorem dX9_fill_28 : decode cX9_fill 28 = .ok (.bipush 50, 2) := by decide +kernel
theorem dX9_fill_30 : decode cX9_fill 30 = .ok (.iastore, 1) := by decide +kernel
theorem dX9_fill_31 : decode cX9_fill 31 = .ok (.iconst 0, 1) := by decide +kernel
theorem dX9_fill_32 : decode cX9_fill 32 = .ok (.ireturn, 1) := by decide +kernel
theorem dX9_thinkAgain_0 : decode cX9_thinkAgain 0 = .ok (.aload_n 0, 1) := by decide +kernel
theorem dX9_thinkAgain_1 : decode cX9_thinkAgain 1 = .ok (.iload_n 1, 1) := by decide +kernel
theorem dX9_thinkAgain_2 : decode cX9_thinkAgain 2 = .ok (.invokevirtual 86, 3) := by decide +kernel
theorem dX9_thinkAgain_5 : decode cX9_thinkAgain 5 = .ok (.ifCond .ne 5, 3) := by decide +kernel
theorem dX9_thinkAgain_8 : decode cX9_thinkAgain 8 = .ok (.iconst 1, 1) := by decide +kernel
theorem dX9_thinkAgain_9 : decode cX9_thinkAgain 9 = .ok (.ireturn, 1) := by decide +kernel
theorem dX9_thinkAgain_10 : decode cX9_thinkAgain 10 = .ok (.aload_n 0, 1) := by decide +kernel
theorem dX9_thinkAgain_11 : decode cX9_thinkAgain 11 = .ok (.getfield 13, 3) := by decide +kernel
theorem dX9_thinkAgain_14 : decode cX9_thinkAgain 14 = .ok (.bipush 9, 2) := by decide +kernel
theorem dX9_thinkAgain_16 : decode cX9_thinkAgain 16 = .ok (.dup2, 1) := by decide +kernel
theorem dX9_thinkAgain_17 : decode cX9_thinkAgain 17 = .ok (.iaload, 1) := by decide +kernel
theorem dX9_thinkAgain_18 : decode cX9_thinkAgain 18 = .ok (.iconst 1, 1) := by decide +kernel
theorem dX9_thinkAgain_19 : decode cX9_thinkAgain 19 = .ok (.iload_n 1, 1) := by decide +kernel
theorem dX9_thinkAgain_20 : decode cX9_thinkAgain 20 = .ok (.ishl, 1) := by decide +kernel
theorem dX9_thinkAgain_21 : decode cX9_thinkAgain 21 = .ok (.ixor, 1) := by decide +kernel
theorem dX9_thinkAgain_22 : decode cX9_thinkAgain 22 = .ok (.iastore, 1) := by decide +kernel
theorem dX9_thinkAgain_23 : decode cX9_thinkAgain 23 = .ok (.iconst 0, 1) := by decide +kernel
theorem dX9_thinkAgain_24 : decode cX9_thinkAgain 24 = .ok (.ireturn, 1) := by decide +kernel
theorem dX9_letGo_0 : decode cX9_letGo 0 = .ok (.aload_n 0, 1) := by decide +kernel
theorem dX9_letGo_1 : decode cX9_letGo 1 = .ok (.iload_n 1, 1) := by decide +kernel
theorem dX9_letGo_2 : decode cX9_letGo 2 = .ok (.invokevirtual 86, 3) := by decide +kernel
theorem dX9_letGo_5 : decode cX9_letGo 5 = .ok (.ifCond .ne 5, 3) := by decide +kernel
theorem dX9_letGo_8 : decode cX9_letGo 8 = .ok (.iconst 1, 1) := by decide +kernel
theorem dX9_letGo_9 : decode cX9_letGo 9 = .ok (.ireturn, 1) := by decide +kernel
theorem dX9_letGo_10 : decode cX9_letGo 10 = .ok (.aload_n 0, 1) := by decide +kernel
theorem dX9_letGo_11 : decode cX9_letGo 11 = .ok (.getfield 13, 3) := by decide +kernel
theorem dX9_letGo_14 : decode cX9_letGo 14 = .ok (.bipush 8, 2) := by decide +kernel
theorem dX9_letGo_16 : decode cX9_letGo 16 = .ok (.dup2, 1) := by decide +kernel
theorem dX9_letGo_17 : decode cX9_letGo 17 = .ok (.iaload, 1) := by decide +kernel
theorem dX9_letGo_18 : decode cX9_letGo 18 = .ok (.iconst 1, 1) := by decide +kernel
theorem dX9_letGo_19 : decode cX9_letGo 19 = .ok (.iload_n 1, 1) := by decide +kernel
theorem dX9_letGo_20 : decode cX9_letGo 20 = .ok (.ishl, 1) := by decide +kernel
theorem dX9_letGo_21 : decode cX9_letGo 21 = .ok (.iconst (-1), 1) := by decide +kernel
theorem dX9_letGo_22 : decode cX9_letGo 22 = .ok (.ixor, 1) := by decide +kernel
theorem dX9_letGo_23 : decode cX9_letGo 23 = .ok (.iand, 1) := by decide +kernel
theorem dX9_letGo_24 : decode cX9_letGo 24 = .ok (.iastore, 1) := by decide +kernel
theorem dX9_letGo_25 : decode cX9_letGo 25 = .ok (.iconst 0, 1) := by decide +kernel
theorem dX9_letGo_26 : decode cX9_letGo 26 = .ok (.ireturn, 1) := by decide +kernel
theorem dX9_hourly_0 : decode cX9_hourly 0 = .ok (.aload_n 0, 1) := by decide +kernel
theorem dX9_hourly_1 : decode cX9_hourly 1 = .ok (.iload_n 1, 1) := by decide +kernel
theorem dX9_hourly_2 : decode cX9_hourly 2 = .ok (.invokevirtual 89, 3) := by decide +kernel
theorem dX9_hourly_5 : decode cX9_hourly 5 = .ok (.istore_n 2, 1) := by decide +kernel
theorem dX9_hourly_6 : decode cX9_hourly 6 = .ok (.iload_n 2, 1) := by decide +kernel
theorem dX9_hourly_7 : decode cX9_hourly 7 = .ok (.iconst 3, 1) := by decide +kernel
theorem dX9_hourly_8 : decode cX9_hourly 8 = .ok (.if_icmp .le 7, 3) := by decide +kernel
theorem dX9_hourly_11 : decode cX9_hourly 11 = .ok (.iconst 0, 1) := by decide +kernel
theorem dX9_hourly_12 : decode cX9_hourly 12 = .ok (.goto 34, 3) := by decide +kernel
theorem dX9_hourly_15 : decode cX9_hourly 15 = .ok (.aload_n 0, 1) := by decide +kernel
theorem dX9_hourly_16 : decode cX9_hourly 16 = .ok (.getfield 19, 3) := by decide +kernel
theorem dX9_hourly_19 : decode cX9_hourly 19 = .ok (.iconst 4, 1) := by decide +kernel
theorem dX9_hourly_20 : decode cX9_hourly 20 = .ok (.iload_n 2, 1) := by decide +kernel
theorem dX9_hourly_21 : decode cX9_hourly 21 = .ok (.isub, 1) := by decide +kernel
theorem dX9_hourly_22 : decode cX9_hourly 22 = .ok (.imul, 1) := by decide +kernel
theorem dX9_hourly_23 : decode cX9_hourly 23 = .ok (.aload_n 0, 1) := by decide +kernel
theorem dX9_hourly_24 : decode cX9_hourly 24 = .ok (.getfield 13, 3) := by decide +kernel
theorem dX9_hourly_27 : decode cX9_hourly 27 = .ok (.bipush 9, 2) := by decide +kernel
theorem dX9_hourly_29 : decode cX9_hourly 29 = .ok (.iaload, 1) := by decide +kernel
theorem dX9_hourly_30 : decode cX9_hourly 30 = .ok (.iload_n 1, 1) := by decide +kernel
theorem dX9_hourly_31 : decode cX9_hourly 31 = .ok (.invokestatic 58, 3) := by decide +kernel
theorem dX9_hourly_34 : decode cX9_hourly 34 = .ok (.ifCond .eq 10, 3) := by decide +kernel
theorem dX9_hourly_37 : decode cX9_hourly 37 = .ok (.aload_n 0, 1) := by decide +kernel
theorem dX9_hourly_38 : decode cX9_hourly 38 = .ok (.getfield 23, 3) := by decide +kernel
theorem dX9_hourly_41 : decode cX9_hourly 41 = .ok (.goto 4, 3) := by decide +kernel
theorem dX9_hourly_44 : decode cX9_hourly 44 = .ok (.iconst 0, 1) := by decide +kernel
theorem dX9_hourly_45 : decode cX9_hourly 45 = .ok (.iadd, 1) := by decide +kernel
theorem dX9_hourly_46 : decode cX9_hourly 46 = .ok (.ireturn, 1) := by decide +kernel
theorem dX9_endHour_0 : decode cX9_endHour 0 = .ok (.aload_n 0, 1) := by decide +kernel
theorem dX9_endHour_1 : decode cX9_endHour 1 = .ok (.getfield 13, 3) := by decide +kernel
theorem dX9_endHour_4 : decode cX9_endHour 4 = .ok (.bipush 11, 2) := by decide +kernel
theorem dX9_endHour_6 : decode cX9_endHour 6 = .ok (.iaload, 1) := by decide +kernel
theorem dX9_endHour_7 : decode cX9_endHour 7 = .ok (.bipush 99, 2) := by decide +kernel
theorem dX9_endHour_9 : decode cX9_endHour 9 = .ok (.if_icmp .ne 5, 3) := by decide +kernel
theorem dX9_endHour_12 : decode cX9_endHour 12 = .ok (.iconst 5, 1) := by decide +kernel
theorem dX9_endHour_13 : decode cX9_endHour 13 = .ok (.ireturn, 1) := by decide +kernel
theorem dX9_endHour_14 : decode cX9_endHour 14 = .ok (.aload_n 0, 1) := by decide +kernel
theorem dX9_endHour_15 : decode cX9_endHour 15 = .ok (.getfield 13, 3) := by decide +kernel
theorem dX9_endHour_18 : decode cX9_endHour 18 = .ok (.bipush 11, 2) := by decide +kernel
theorem dX9_endHour_20 : decode cX9_endHour 20 = .ok (.dup2, 1) := by decide +kernel
theorem dX9_endHour_21 : decode cX9_endHour 21 = .ok (.iaload, 1) := by decide +kernel
theorem dX9_endHour_22 : decode cX9_endHour 22 = .ok (.iconst 1, 1) := by decide +kernel
theorem dX9_endHour_23 : decode cX9_endHour 23 = .ok (.iadd, 1) := by decide +kernel
theorem dX9_endHour_24 : decode cX9_endHour 24 = .ok (.iastore, 1) := by decide +kernel
theorem dX9_endHour_25 : decode cX9_endHour 25 = .ok (.iconst 0, 1) := by decide +kernel
theorem dX9_endHour_26 : decode cX9_endHour 26 = .ok (.istore_n 1, 1) := by decide +kernel
theorem dX9_endHour_27 : decode cX9_endHour 27 = .ok (.iload_n 1, 1) := by decide +kernel
theorem dX9_endHour_28 : decode cX9_endHour 28 = .ok (.bipush 8, 2) := by decide +kernel
theorem dX9_endHour_30 : decode cX9_endHour 30 = .ok (.if_icmp .ge 27, 3) := by decide +kernel
theorem dX9_endHour_33 : decode cX9_endHour 33 = .ok (.aload_n 0, 1) := by decide +kernel
theorem dX9_endHour_34 : decode cX9_endHour 34 = .ok (.iload_n 1, 1) := by decide +kernel
theorem dX9_endHour_35 : decode cX9_endHour 35 = .ok (.invokevirtual 86, 3) := by decide +kernel
theorem dX9_endHour_38 : decode cX9_endHour 38 = .ok (.ifCond .eq 13, 3) := by decide +kernel
theorem dX9_endHour_41 : decode cX9_endHour 41 = .ok (.aload_n 0, 1) := by decide +kernel
theorem dX9_endHour_42 : decode cX9_endHour 42 = .ok (.iload_n 1, 1) := by decide +kernel
theorem dX9_endHour_43 : decode cX9_endHour 43 = .ok (.aload_n 0, 1) := by decide +kernel
theorem dX9_endHour_44 : decode cX9_endHour 44 = .ok (.iload_n 1, 1) := by decide +kernel
theorem dX9_endHour_45 : decode cX9_endHour 45 = .ok (.invokevirtual 96, 3) := by decide +kernel
theorem dX9_endHour_48 : decode cX9_endHour 48 = .ok (.invokevirtual 92, 3) := by decide +kernel
theorem dX9_endHour_51 : decode cX9_endHour 51 = .ok (.iinc 1 1, 3) := by decide +kernel
theorem dX9_endHour_54 : decode cX9_endHour 54 = .ok (.goto (-27), 3) := by decide +kernel
theorem dX9_endHour_57 : decode cX9_endHour 57 = .ok (.iconst 0, 1) := by decide +kernel
theorem dX9_endHour_58 : decode cX9_endHour 58 = .ok (.ireturn, 1) := by decide +kernel
theorem dX9_witnessAct_0 : decode cX9_witnessAct 0 = .ok (.iload_n 2, 1) := by decide +kernel
theorem dX9_witnessAct_1 : decode cX9_witnessAct 1 = .ok (.bipush 63, 2) := by decide +kernel
theorem dX9_witnessAct_3 : decode cX9_witnessAct 3 = .ok (.if_icmp .ne 11, 3) := by decide +kernel
theorem dX9_witnessAct_6 : decode cX9_witnessAct 6 = .ok (.aload_n 0, 1) := by decide +kernel
theorem dX9_witnessAct_7 : decode cX9_witnessAct 7 = .ok (.iload_n 1, 1) := by decide +kernel
theorem dX9_witnessAct_8 : decode cX9_witnessAct 8 = .ok (.invokevirtual 99, 3) := by decide +kernel
theorem dX9_witnessAct_11 : decode cX9_witnessAct 11 = .ok (.goto 36, 3) := by decide +kernel
theorem dX9_witnessAct_14 : decode cX9_witnessAct 14 = .ok (.iload_n 2, 1) := by decide +kernel
theorem dX9_witnessAct_15 : decode cX9_witnessAct 15 = .ok (.bipush 61, 2) := by decide +kernel
theorem dX9_witnessAct_17 : decode cX9_witnessAct 17 = .ok (.if_icmp .ne 11, 3) := by decide +kernel
theorem dX9_witnessAct_20 : decode cX9_witnessAct 20 = .ok (.aload_n 0, 1) := by decide +kernel
theorem dX9_witnessAct_21 : decode cX9_witnessAct 21 = .ok (.iload_n 1, 1) := by decide +kernel
theorem dX9_witnessAct_22 : decode cX9_witnessAct 22 = .ok (.invokevirtual 102, 3) := by decide +kernel
theorem dX9_witnessAct_25 : decode cX9_witnessAct 25 = .ok (.goto 22, 3) := by decide +kernel
theorem dX9_witnessAct_28 : decode cX9_witnessAct 28 = .ok (.iload_n 2, 1) := by decide +kernel
theorem dX9_witnessAct_29 : decode cX9_witnessAct 29 = .ok (.bipush 126, 2) := by decide +kernel
theorem dX9_witnessAct_31 : decode cX9_witnessAct 31 = .ok (.if_icmp .ne 11, 3) := by decide +kernel
theorem dX9_witnessAct_34 : decode cX9_witnessAct 34 = .ok (.aload_n 0, 1) := by decide +kernel
theorem dX9_witnessAct_35 : decode cX9_witnessAct 35 = .ok (.iload_n 1, 1) := by decide +kernel
theorem dX9_witnessAct_36 : decode cX9_witnessAct 36 = .ok (.invokevirtual 105, 3) := by decide +kernel
theorem dX9_witnessAct_39 : decode cX9_witnessAct 39 = .ok (.goto 8, 3) := by decide +kernel
theorem dX9_witnessAct_42 : decode cX9_witnessAct 42 = .ok (.aload_n 0, 1) := by decide +kernel
theorem dX9_witnessAct_43 : decode cX9_witnessAct 43 = .ok (.iload_n 1, 1) := by decide +kernel
theorem dX9_witnessAct_44 : decode cX9_witnessAct 44 = .ok (.invokevirtual 108, 3) := by decide +kernel
theorem dX9_witnessAct_47 : decode cX9_witnessAct 47 = .ok (.ireturn, 1) := by decide +kernel
theorem dX9_goTerms_0 : decode cX9_goTerms 0 = .ok (.aload_n 0, 1) := by decide +kernel
theorem dX9_goTerms_1 : decode cX9_goTerms 1 = .ok (.invokevirtual 111, 3) := by decide +kernel
theorem dX9_goTerms_4 : decode cX9_goTerms 4 = .ok (.aload_n 0, 1) := by decide +kernel
theorem dX9_goTerms_5 : decode cX9_goTerms 5 = .ok (.iconst 0, 1) := by decide +kernel
theorem dX9_goTerms_6 : decode cX9_goTerms 6 = .ok (.putfield 114, 3) := by decide +kernel
theorem dX9_goTerms_9 : decode cX9_goTerms 9 = .ok (.iconst 0, 1) := by decide +kernel
theorem dX9_goTerms_10 : decode cX9_goTerms 10 = .ok (.istore_n 1, 1) := by decide +kernel
theorem dX9_goTerms_11 : decode cX9_goTerms 11 = .ok (.iload_n 1, 1) := by decide +kernel
theorem dX9_goTerms_12 : decode cX9_goTerms 12 = .ok (.aload_n 0, 1) := by decide +kernel
theorem dX9_goTerms_13 : decode cX9_goTerms 13 = .ok (.getfield 73, 3) := by decide +kernel
theorem dX9_goTerms_16 : decode cX9_goTerms 16 = .ok (.if_icmp .ge 178, 3) := by decide +kernel
theorem dX9_goTerms_19 : decode cX9_goTerms 19 = .ok (.aload_n 0, 1) := by decide +kernel
theorem dX9_goTerms_20 : decode cX9_goTerms 20 = .ok (.invokevirtual 117, 3) := by decide +kernel
theorem dX9_goTerms_23 : decode cX9_goTerms 23 = .ok (.istore_n 2, 1) := by decide +kernel
theorem dX9_goTerms_24 : decode cX9_goTerms 24 = .ok (.aload_n 0, 1) := by decide +kernel
theorem dX9_goTerms_25 : decode cX9_goTerms 25 = .ok (.getfield 32, 3) := by decide +kernel
theorem dX9_goTerms_28 : decode cX9_goTerms 28 = .ok (.iload_n 1, 1) := by decide +kernel
theorem dX9_goTerms_29 : decode cX9_goTerms 29 = .ok (.iaload, 1) := by decide +kernel
theorem dX9_goTerms_30 : decode cX9_goTerms 30 = .ok (.istore_n 3, 1) := by decide +kernel
theorem dX9_goTerms_31 : decode cX9_goTerms 31 = .ok (.iinc 1 1, 3) := by decide +kernel
theorem dX9_goTerms_34 : decode cX9_goTerms 34 = .ok (.iload_n 3, 1) := by decide +kernel
theorem dX9_goTerms_35 : decode cX9_goTerms 35 = .ok (.bipush 46, 2) := by decide +kernel
theorem dX9_goTerms_37 : decode cX9_goTerms 37 = .ok (.if_icmp .ne 14, 3) := by decide +kernel
theorem dX9_goTerms_40 : decode cX9_goTerms 40 = .ok (.aload_n 0, 1) := by decide +kernel
theorem dX9_goTerms_41 : decode cX9_goTerms 41 = .ok (.aload_n 0, 1) := by decide +kernel
theorem dX9_goTerms_42 : decode cX9_goTerms 42 = .ok (.invokevirtual 120, 3) := by decide +kernel
theorem dX9_goTerms_45 : decode cX9_goTerms 45 = .ok (.putfield 123, 3) := by decide +kernel
theorem dX9_goTerms_48 : decode cX9_goTerms 48 = .ok (.goto 64, 3) := by decide +kernel
theorem dX9_goTerms_51 : decode cX9_goTerms 51 = .ok (.aload_n 0, 1) := by decide +kernel
theorem dX9_goTerms_52 : decode cX9_goTerms 52 = .ok (.getfield 32, 3) := by decide +kernel
theorem dX9_goTerms_55 : decode cX9_goTerms 55 = .ok (.iload_n 1, 1) := by decide +kernel
theorem dX9_goTerms_56 : decode cX9_goTerms 56 = .ok (.iaload, 1) := by decide +kernel
theorem dX9_goTerms_57 : decode cX9_goTerms 57 = .ok (.istore 4, 2) := by decide +kernel
theorem dX9_goTerms_59 : decode cX9_goTerms 59 = .ok (.aload_n 0, 1) := by decide +kernel
theorem dX9_goTerms_60 : decode cX9_goTerms 60 = .ok (.iload_n 3, 1) := by decide +kernel
theorem dX9_goTerms_61 : decode cX9_goTerms 61 = .ok (.bipush 62, 2) := by decide +kernel
theorem dX9_goTerms_63 : decode cX9_goTerms 63 = .ok (.if_icmp .ne 15, 3) := by decide +kernel
theorem dX9_goTerms_66 : decode cX9_goTerms 66 = .ok (.aload_n 0, 1) := by decide +kernel
theorem dX9_goTerms_67 : decode cX9_goTerms 67 = .ok (.iload 4, 2) := by decide +kernel
theorem dX9_goTerms_69 : decode cX9_goTerms 69 = .ok (.bipush 48, 2) := by decide +kernel
theorem dX9_goTerms_71 : decode cX9_goTerms 71 = .ok (.isub, 1) := by decide +kernel
theorem dX9_goTerms_72 : decode cX9_goTerms 72 = .ok (.invokevirtual 126, 3) := by decide +kernel
theorem dX9_goTerms_75 : decode cX9_goTerms 75 = .ok (.goto 31, 3) := by decide +kernel
theorem dX9_goTerms_78 : decode cX9_goTerms 78 = .ok (.iload_n 3, 1) := by decide +kernel
theorem dX9_goTerms_79 : decode cX9_goTerms 79 = .ok (.bipush 60, 2) := by decide +kernel
theorem dX9_goTerms_81 : decode cX9_goTerms 81 = .ok (.if_icmp .ne 15, 3) := by decide +kernel
theorem dX9_goTerms_84 : decode cX9_goTerms 84 = .ok (.aload_n 0, 1) := by decide +kernel
theorem dX9_goTerms_85 : decode cX9_goTerms 85 = .ok (.bipush 48, 2) := by decide +kernel
theorem dX9_goTerms_87 : decode cX9_goTerms 87 = .ok (.iload 4, 2) := by decide +kernel
theorem dX9_goTerms_89 : decode cX9_goTerms 89 = .ok (.isub, 1) := by decide +kernel
theorem dX9_goTerms_90 : decode cX9_goTerms 90 = .ok (.invokevirtual 126, 3) := by decide +kernel
theorem dX9_goTerms_93 : decode cX9_goTerms 93 = .ok (.goto 13, 3) := by decide +kernel
theorem dX9_goTerms_96 : decode cX9_goTerms 96 = .ok (.aload_n 0, 1) := by decide +kernel
theorem dX9_goTerms_97 : decode cX9_goTerms 97 = .ok (.iload_n 3, 1) := by decide +kernel
theorem dX9_goTerms_98 : decode cX9_goTerms 98 = .ok (.bipush 65, 2) := by decide +kernel
theorem dX9_goTerms_100 : decode cX9_goTerms 100 = .ok (.isub, 1) := by decide +kernel
theorem dX9_goTerms_101 : decode cX9_goTerms 101 = .ok (.iload 4, 2) := by decide +kernel
theorem dX9_goTerms_103 : decode cX9_goTerms 103 = .ok (.invokevirtual 129, 3) := by decide +kernel
theorem dX9_goTerms_106 : decode cX9_goTerms 106 = .ok (.putfield 123, 3) := by decide +kernel
theorem dX9_goTerms_109 : decode cX9_goTerms 109 = .ok (.iinc 1 1, 3) := by decide +kernel
theorem dX9_goTerms_112 : decode cX9_goTerms 112 = .ok (.aload_n 0, 1) := by decide +kernel
theorem dX9_goTerms_113 : decode cX9_goTerms 113 = .ok (.getfield 123, 3) := by decide +kernel
theorem dX9_goTerms_116 : decode cX9_goTerms 116 = .ok (.ifCond .le 8, 3) := by decide +kernel
theorem dX9_goTerms_119 : decode cX9_goTerms 119 = .ok (.aload_n 0, 1) := by decide +kernel
theorem dX9_goTerms_120 : decode cX9_goTerms 120 = .ok (.getfield 114, 3) := by decide +kernel
theorem dX9_goTerms_123 : decode cX9_goTerms 123 = .ok (.ireturn, 1) := by decide +kernel
theorem dX9_goTerms_124 : decode cX9_goTerms 124 = .ok (.aload_n 0, 1) := by decide +kernel
theorem dX9_goTerms_125 : decode cX9_goTerms 125 = .ok (.invokevirtual 117, 3) := by decide +kernel
theorem dX9_goTerms_128 : decode cX9_goTerms 128 = .ok (.iload_n 2, 1) := by decide +kernel
theorem dX9_goTerms_129 : decode cX9_goTerms 129 = .ok (.iconst (-1), 1) := by decide +kernel
theorem dX9_goTerms_130 : decode cX9_goTerms 130 = .ok (.ixor, 1) := by decide +kernel
theorem dX9_goTerms_131 : decode cX9_goTerms 131 = .ok (.iand, 1) := by decide +kernel
theorem dX9_goTerms_132 : decode cX9_goTerms 132 = .ok (.istore 4, 2) := by decide +kernel
theorem dX9_goTerms_134 : decode cX9_goTerms 134 = .ok (.iconst 0, 1) := by decide +kernel
theorem dX9_goTerms_135 : decode cX9_goTerms 135 = .ok (.istore 5, 2) := by decide +kernel
theorem dX9_goTerms_137 : decode cX9_goTerms 137 = .ok (.iload 5, 2) := by decide +kernel
theorem dX9_goTerms_139 : decode cX9_goTerms 139 = .ok (.bipush 8, 2) := by decide +kernel
theorem dX9_goTerms_141 : decode cX9_goTerms 141 = .ok (.if_icmp .ge 40, 3) := by decide +kernel
theorem dX9_goTerms_144 : decode cX9_goTerms 144 = .ok (.aload_n 0, 1) := by decide +kernel
theorem dX9_goTerms_145 : decode cX9_goTerms 145 = .ok (.getfield 80, 3) := by decide +kernel
theorem dX9_goTerms_148 : decode cX9_goTerms 148 = .ok (.ifCond .ge 33, 3) := by decide +kernel
theorem dX9_goTerms_151 : decode cX9_goTerms 151 = .ok (.iload 4, 2) := by decide +kernel
theorem dX9_goTerms_153 : decode cX9_goTerms 153 = .ok (.iload 5, 2) := by decide +kernel
theorem dX9_goTerms_155 : decode cX9_goTerms 155 = .ok (.invokestatic 58, 3) := by decide +kernel
theorem dX9_goTerms_158 : decode cX9_goTerms 158 = .ok (.ifCond .eq 17, 3) := by decide +kernel
theorem dX9_goTerms_161 : decode cX9_goTerms 161 = .ok (.aload_n 0, 1) := by decide +kernel
theorem dX9_goTerms_162 : decode cX9_goTerms 162 = .ok (.aload_n 0, 1) := by decide +kernel
theorem dX9_goTerms_163 : decode cX9_goTerms 163 = .ok (.getfield 114, 3) := by decide +kernel
theorem dX9_goTerms_166 : decode cX9_goTerms 166 = .ok (.putfield 80, 3) := by decide +kernel
theorem dX9_goTerms_169 : decode cX9_goTerms 169 = .ok (.aload_n 0, 1) := by decide +kernel
theorem dX9_goTerms_170 : decode cX9_goTerms 170 = .ok (.iload 5, 2) := by decide +kernel
theorem dX9_goTerms_172 : decode cX9_goTerms 172 = .ok (.putfield 83, 3) := by decide +kernel
theorem dX9_goTerms_175 : decode cX9_goTerms 175 = .ok (.iinc 5 1, 3) := by decide +kernel
theorem dX9_goTerms_178 : decode cX9_goTerms 178 = .ok (.goto (-41), 3) := by decide +kernel
theorem dX9_goTerms_181 : decode cX9_goTerms 181 = .ok (.aload_n 0, 1) := by decide +kernel
theorem dX9_goTerms_182 : decode cX9_goTerms 182 = .ok (.dup, 1) := by decide +kernel
theorem dX9_goTerms_183 : decode cX9_goTerms 183 = .ok (.getfield 114, 3) := by decide +kernel
theorem dX9_goTerms_186 : decode cX9_goTerms 186 = .ok (.iconst 1, 1) := by decide +kernel
theorem dX9_goTerms_187 : decode cX9_goTerms 187 = .ok (.iadd, 1) := by decide +kernel
theorem dX9_goTerms_188 : decode cX9_goTerms 188 = .ok (.putfield 114, 3) := by decide +kernel
theorem dX9_goTerms_191 : decode cX9_goTerms 191 = .ok (.goto (-180), 3) := by decide +kernel
theorem dX9_goTerms_194 : decode cX9_goTerms 194 = .ok (.bipush (-6), 2) := by decide +kernel
theorem dX9_goTerms_196 : decode cX9_goTerms 196 = .ok (.ireturn, 1) := by decide +kernel
theorem dX9_judge_0 : decode cX9_judge 0 = .ok (.iload_n 1, 1) := by decide +kernel
theorem dX9_judge_1 : decode cX9_judge 1 = .ok (.iconst 0, 1) := by decide +kernel
theorem dX9_judge_2 : decode cX9_judge 2 = .ok (.iconst 1, 1) := by decide +kernel
theorem dX9_judge_3 : decode cX9_judge 3 = .ok (.invokestatic 54, 3) := by decide +kernel
theorem dX9_judge_6 : decode cX9_judge 6 = .ok (.ifCond .ne 6, 3) := by decide +kernel
theorem dX9_judge_9 : decode cX9_judge 9 = .ok (.bipush (-2), 2) := by decide +kernel
theorem dX9_judge_11 : decode cX9_judge 11 = .ok (.ireturn, 1) := by decide +kernel
theorem dX9_judge_12 : decode cX9_judge 12 = .ok (.aload_n 0, 1) := by decide +kernel
theorem dX9_judge_13 : decode cX9_judge 13 = .ok (.invokevirtual 76, 3) := by decide +kernel
theorem dX9_judge_16 : decode cX9_judge 16 = .ok (.ifCond .lt 6, 3) := by decide +kernel
theorem dX9_judge_19 : decode cX9_judge 19 = .ok (.bipush (-5), 2) := by decide +kernel
theorem dX9_judge_21 : decode cX9_judge 21 = .ok (.ireturn, 1) := by decide +kernel
theorem dX9_judge_22 : decode cX9_judge 22 = .ok (.aload_n 0, 1) := by decide +kernel
theorem dX9_judge_23 : decode cX9_judge 23 = .ok (.invokevirtual 133, 3) := by decide +kernel
theorem dX9_judge_26 : decode cX9_judge 26 = .ok (.istore_n 2, 1) := by decide +kernel
theorem dX9_judge_27 : decode cX9_judge 27 = .ok (.iload_n 2, 1) := by decide +kernel
theorem dX9_judge_28 : decode cX9_judge 28 = .ok (.ifCond .lt 7, 3) := by decide +kernel
theorem dX9_judge_31 : decode cX9_judge 31 = .ok (.iload_n 1, 1) := by decide +kernel
theorem dX9_judge_32 : decode cX9_judge 32 = .ok (.ifCond .ne 7, 3) := by decide +kernel
theorem dX9_judge_35 : decode cX9_judge 35 = .ok (.iload_n 2, 1) := by decide +kernel
theorem dX9_judge_36 : decode cX9_judge 36 = .ok (.goto 7, 3) := by decide +kernel
theorem dX9_judge_39 : decode cX9_judge 39 = .ok (.aload_n 0, 1) := by decide +kernel
theorem dX9_judge_40 : decode cX9_judge 40 = .ok (.getfield 123, 3) := by decide +kernel
theorem dX9_judge_43 : decode cX9_judge 43 = .ok (.ireturn, 1) := by decide +kernel
theorem dX9_barOfTerms_0 : decode cX9_barOfTerms 0 = .ok (.aload_n 0, 1) := by decide +kernel
theorem dX9_barOfTerms_1 : decode cX9_barOfTerms 1 = .ok (.invokevirtual 76, 3) := by decide +kernel
theorem dX9_barOfTerms_4 : decode cX9_barOfTerms 4 = .ok (.ifCond .ge 10, 3) := by decide +kernel
theorem dX9_barOfTerms_7 : decode cX9_barOfTerms 7 = .ok (.aload_n 0, 1) := by decide +kernel
theorem dX9_barOfTerms_8 : decode cX9_barOfTerms 8 = .ok (.invokevirtual 133, 3) := by decide +kernel
theorem dX9_barOfTerms_11 : decode cX9_barOfTerms 11 = .ok (.ifCond .lt 8, 3) := by decide +kernel
theorem dX9_barOfTerms_14 : decode cX9_barOfTerms 14 = .ok (.bipush (-5), 2) := by decide +kernel
theorem dX9_barOfTerms_16 : decode cX9_barOfTerms 16 = .ok (.goto 4, 3) := by decide +kernel
theorem dX9_barOfTerms_19 : decode cX9_barOfTerms 19 = .ok (.iconst 0, 1) := by decide +kernel
theorem dX9_barOfTerms_20 : decode cX9_barOfTerms 20 = .ok (.ireturn, 1) := by decide +kernel
theorem dX9_done_0 : decode cX9_done 0 = .ok (.aload_n 0, 1) := by decide +kernel
theorem dX9_done_1 : decode cX9_done 1 = .ok (.invokevirtual 136, 3) := by decide +kernel
theorem dX9_done_4 : decode cX9_done 4 = .ok (.ifCond .ge 6, 3) := by decide +kernel
theorem dX9_done_7 : decode cX9_done 7 = .ok (.bipush (-5), 2) := by decide +kernel
theorem dX9_done_9 : decode cX9_done 9 = .ok (.ireturn, 1) := by decide +kernel
theorem dX9_done_10 : decode cX9_done 10 = .ok (.iconst 0, 1) := by decide +kernel
theorem dX9_done_11 : decode cX9_done 11 = .ok (.istore_n 1, 1) := by decide +kernel
theorem dX9_done_12 : decode cX9_done 12 = .ok (.iload_n 1, 1) := by decide +kernel
theorem dX9_done_13 : decode cX9_done 13 = .ok (.bipush 12, 2) := by decide +kernel
theorem dX9_done_15 : decode cX9_done 15 = .ok (.if_icmp .ge 21, 3) := by decide +kernel
theorem dX9_done_18 : decode cX9_done 18 = .ok (.aload_n 0, 1) := by decide +kernel
theorem dX9_done_19 : decode cX9_done 19 = .ok (.getfield 7, 3) := by decide +kernel
theorem dX9_done_22 : decode cX9_done 22 = .ok (.iload_n 1, 1) := by decide +kernel
theorem dX9_done_23 : decode cX9_done 23 = .ok (.aload_n 0, 1) := by decide +kernel
theorem dX9_done_24 : decode cX9_done 24 = .ok (.getfield 13, 3) := by decide +kernel
theorem dX9_done_27 : decode cX9_done 27 = .ok (.iload_n 1, 1) := by decide +kernel
theorem dX9_done_28 : decode cX9_done 28 = .ok (.iaload, 1) := by decide +kernel
theorem dX9_done_29 : decode cX9_done 29 = .ok (.iastore, 1) := by decide +kernel
theorem dX9_done_30 : decode cX9_done 30 = .ok (.iinc 1 1, 3) := by decide +kernel
theorem dX9_done_33 : decode cX9_done 33 = .ok (.goto (-21), 3) := by decide +kernel
theorem dX9_done_36 : decode cX9_done 36 = .ok (.aload_n 0, 1) := by decide +kernel
theorem dX9_done_37 : decode cX9_done 37 = .ok (.iconst 0, 1) := by decide +kernel
theorem dX9_done_38 : decode cX9_done 38 = .ok (.putfield 73, 3) := by decide +kernel
theorem dX9_done_41 : decode cX9_done 41 = .ok (.aload_n 0, 1) := by decide +kernel
theorem dX9_done_42 : decode cX9_done 42 = .ok (.getfield 114, 3) := by decide +kernel
theorem dX9_done_45 : decode cX9_done 45 = .ok (.ireturn, 1) := by decide +kernel
theorem dX9_behind_0 : decode cX9_behind 0 = .ok (.aload_n 0, 1) := by decide +kernel
theorem dX9_behind_1 : decode cX9_behind 1 = .ok (.iload_n 1, 1) := by decide +kernel
theorem dX9_behind_2 : decode cX9_behind 2 = .ok (.invokevirtual 139, 3) := by decide +kernel
theorem dX9_behind_5 : decode cX9_behind 5 = .ok (.ifCond .ne 5, 3) := by decide +kernel
theorem dX9_behind_8 : decode cX9_behind 8 = .ok (.iconst (-1), 1) := by decide +kernel
theorem dX9_behind_9 : decode cX9_behind 9 = .ok (.ireturn, 1) := by decide +kernel
theorem dX9_behind_10 : decode cX9_behind 10 = .ok (.iload_n 2, 1) := by decide +kernel
theorem dX9_behind_11 : decode cX9_behind 11 = .ok (.iconst 0, 1) := by decide +kernel
theorem dX9_behind_12 : decode cX9_behind 12 = .ok (.iconst 1, 1) := by decide +kernel
theorem dX9_behind_13 : decode cX9_behind 13 = .ok (.invokestatic 54, 3) := by decide +kernel
theorem dX9_behind_16 : decode cX9_behind 16 = .ok (.ifCond .ne 6, 3) := by decide +kernel
theorem dX9_behind_19 : decode cX9_behind 19 = .ok (.bipush (-2), 2) := by decide +kernel
theorem dX9_behind_21 : decode cX9_behind 21 = .ok (.ireturn, 1) := by decide +kernel
theorem dX9_behind_22 : decode cX9_behind 22 = .ok (.aload_n 0, 1) := by decide +kernel
theorem dX9_behind_23 : decode cX9_behind 23 = .ok (.invokevirtual 136, 3) := by decide +kernel
theorem dX9_behind_26 : decode cX9_behind 26 = .ok (.ifCond .ge 6, 3) := by decide +kernel
theorem dX9_behind_29 : decode cX9_behind 29 = .ok (.bipush (-5), 2) := by decide +kernel
theorem dX9_behind_31 : decode cX9_behind 31 = .ok (.ireturn, 1) := by decide +kernel
theorem dX9_behind_32 : decode cX9_behind 32 = .ok (.aload_n 0, 1) := by decide +kernel
theorem dX9_behind_33 : decode cX9_behind 33 = .ok (.iload_n 1, 1) := by decide +kernel
theorem dX9_behind_34 : decode cX9_behind 34 = .ok (.invokevirtual 86, 3) := by decide +kernel
theorem dX9_behind_37 : decode cX9_behind 37 = .ok (.ifCond .ne 8, 3) := by decide +kernel
theorem dX9_behind_40 : decode cX9_behind 40 = .ok (.bipush (-6), 2) := by decide +kernel
theorem dX9_behind_42 : decode cX9_behind 42 = .ok (.goto 27, 3) := by decide +kernel
theorem dX9_behind_45 : decode cX9_behind 45 = .ok (.iload_n 2, 1) := by decide +kernel
theorem dX9_behind_46 : decode cX9_behind 46 = .ok (.ifCond .ne 12, 3) := by decide +kernel
theorem dX9_behind_49 : decode cX9_behind 49 = .ok (.aload_n 0, 1) := by decide +kernel
theorem dX9_behind_50 : decode cX9_behind 50 = .ok (.getfield 13, 3) := by decide +kernel
theorem dX9_behind_53 : decode cX9_behind 53 = .ok (.iload_n 1, 1) := by decide +kernel
theorem dX9_behind_54 : decode cX9_behind 54 = .ok (.iaload, 1) := by decide +kernel
theorem dX9_behind_55 : decode cX9_behind 55 = .ok (.goto 14, 3) := by decide +kernel
theorem dX9_behind_58 : decode cX9_behind 58 = .ok (.aload_n 0, 1) := by decide +kernel
theorem dX9_behind_59 : decode cX9_behind 59 = .ok (.getfield 13, 3) := by decide +kernel
theorem dX9_behind_62 : decode cX9_behind 62 = .ok (.bipush 9, 2) := by decide +kernel
theorem dX9_behind_64 : decode cX9_behind 64 = .ok (.iaload, 1) := by decide +kernel
theorem dX9_behind_65 : decode cX9_behind 65 = .ok (.iload_n 1, 1) := by decide +kernel
theorem dX9_behind_66 : decode cX9_behind 66 = .ok (.ishr, 1) := by decide +kernel
theorem dX9_behind_67 : decode cX9_behind 67 = .ok (.iconst 1, 1) := by decide +kernel
theorem dX9_behind_68 : decode cX9_behind 68 = .ok (.iand, 1) := by decide +kernel
theorem dX9_behind_69 : decode cX9_behind 69 = .ok (.ireturn, 1) := by decide +kernel
theorem dX9_then_0 : decode cX9_then 0 = .ok (.iload_n 1, 1) := by decide +kernel
theorem dX9_then_1 : decode cX9_then 1 = .ok (.iconst 0, 1) := by decide +kernel
theorem dX9_then_2 : decode cX9_then 2 = .ok (.bipush 6, 2) := by decide +kernel
theorem dX9_then_4 : decode cX9_then 4 = .ok (.invokestatic 54, 3) := by decide +kernel
theorem dX9_then_7 : decode cX9_then 7 = .ok (.ifCond .ne 6, 3) := by decide +kernel
theorem dX9_then_10 : decode cX9_then 10 = .ok (.bipush (-2), 2) := by decide +kernel
theorem dX9_then_12 : decode cX9_then 12 = .ok (.ireturn, 1) := by decide +kernel
theorem dX9_then_13 : decode cX9_then 13 = .ok (.aload_n 0, 1) := by decide +kernel
theorem dX9_then_14 : decode cX9_then 14 = .ok (.invokevirtual 136, 3) := by decide +kernel
theorem dX9_then_17 : decode cX9_then 17 = .ok (.ifCond .ge 6, 3) := by decide +kernel
theorem dX9_then_20 : decode cX9_then 20 = .ok (.bipush (-5), 2) := by decide +kernel
theorem dX9_then_22 : decode cX9_then 22 = .ok (.ireturn, 1) := by decide +kernel
theorem dX9_then_23 : decode cX9_then 23 = .ok (.aload_n 0, 1) := by decide +kernel
theorem dX9_then_24 : decode cX9_then 24 = .ok (.invokevirtual 117, 3) := by decide +kernel
theorem dX9_then_27 : decode cX9_then 27 = .ok (.istore_n 2, 1) := by decide +kernel
theorem dX9_then_28 : decode cX9_then 28 = .ok (.iload_n 1, 1) := by decide +kernel
theorem dX9_then_29 : decode cX9_then 29 = .ok (.tableswitch 85 0 4 #[35, 37, 60, 75, 75], 35) := by decide +kernel
theorem dX9_then_64 : decode cX9_then 64 = .ok (.iload_n 2, 1) := by decide +kernel
theorem dX9_then_65 : decode cX9_then 65 = .ok (.ireturn, 1) := by decide +kernel
theorem dX9_then_66 : decode cX9_then 66 = .ok (.aload_n 0, 1) := by decide +kernel
theorem dX9_then_67 : decode cX9_then 67 = .ok (.getfield 13, 3) := by decide +kernel
theorem dX9_then_70 : decode cX9_then 70 = .ok (.bipush 8, 2) := by decide +kernel
theorem dX9_then_72 : decode cX9_then 72 = .ok (.iaload, 1) := by decide +kernel
theorem dX9_then_73 : decode cX9_then 73 = .ok (.aload_n 0, 1) := by decide +kernel
theorem dX9_then_74 : decode cX9_then 74 = .ok (.getfield 13, 3) := by decide +kernel
theorem dX9_then_77 : decode cX9_then 77 = .ok (.bipush 9, 2) := by decide +kernel
theorem dX9_then_79 : decode cX9_then 79 = .ok (.iaload, 1) := by decide +kernel
theorem dX9_then_80 : decode cX9_then 80 = .ok (.iand, 1) := by decide +kernel
theorem dX9_then_81 : decode cX9_then 81 = .ok (.iload_n 2, 1) := by decide +kernel
theorem dX9_then_82 : decode cX9_then 82 = .ok (.iconst (-1), 1) := by decide +kernel
theorem dX9_then_83 : decode cX9_then 83 = .ok (.ixor, 1) := by decide +kernel
theorem dX9_then_84 : decode cX9_then 84 = .ok (.iand, 1) := by decide +kernel
theorem dX9_then_85 : decode cX9_then 85 = .ok (.invokestatic 62, 3) := by decide +kernel
theorem dX9_then_88 : decode cX9_then 88 = .ok (.ireturn, 1) := by decide +kernel
theorem dX9_then_89 : decode cX9_then 89 = .ok (.iload_n 2, 1) := by decide +kernel
theorem dX9_then_90 : decode cX9_then 90 = .ok (.aload_n 0, 1) := by decide +kernel
theorem dX9_then_91 : decode cX9_then 91 = .ok (.getfield 13, 3) := by decide +kernel
theorem dX9_then_94 : decode cX9_then 94 = .ok (.bipush 9, 2) := by decide +kernel
theorem dX9_then_96 : decode cX9_then 96 = .ok (.iaload, 1) := by decide +kernel
theorem dX9_then_97 : decode cX9_then 97 = .ok (.iconst (-1), 1) := by decide +kernel
theorem dX9_then_98 : decode cX9_then 98 = .ok (.ixor, 1) := by decide +kernel
theorem dX9_then_99 : decode cX9_then 99 = .ok (.iand, 1) := by decide +kernel
theorem dX9_then_100 : decode cX9_then 100 = .ok (.invokestatic 62, 3) := by decide +kernel
theorem dX9_then_103 : decode cX9_then 103 = .ok (.ireturn, 1) := by decide +kernel
theorem dX9_then_104 : decode cX9_then 104 = .ok (.aload_n 0, 1) := by decide +kernel
theorem dX9_then_105 : decode cX9_then 105 = .ok (.getfield 13, 3) := by decide +kernel
theorem dX9_then_108 : decode cX9_then 108 = .ok (.bipush 7, 2) := by decide +kernel
theorem dX9_then_110 : decode cX9_then 110 = .ok (.iload_n 1, 1) := by decide +kernel
theorem dX9_then_111 : decode cX9_then 111 = .ok (.iadd, 1) := by decide +kernel
theorem dX9_then_112 : decode cX9_then 112 = .ok (.iaload, 1) := by decide +kernel
theorem dX9_then_113 : decode cX9_then 113 = .ok (.ireturn, 1) := by decide +kernel
theorem dX9_then_114 : decode cX9_then 114 = .ok (.iload_n 1, 1) := by decide +kernel
theorem dX9_then_115 : decode cX9_then 115 = .ok (.iconst 5, 1) := by decide +kernel
theorem dX9_then_116 : decode cX9_then 116 = .ok (.if_icmp .ne 10, 3) := by decide +kernel
theorem dX9_then_119 : decode cX9_then 119 = .ok (.aload_n 0, 1) := by decide +kernel
theorem dX9_then_120 : decode cX9_then 120 = .ok (.getfield 80, 3) := by decide +kernel
theorem dX9_then_123 : decode cX9_then 123 = .ok (.goto 7, 3) := by decide +kernel
theorem dX9_then_126 : decode cX9_then 126 = .ok (.aload_n 0, 1) := by decide +kernel
theorem dX9_then_127 : decode cX9_then 127 = .ok (.getfield 83, 3) := by decide +kernel
theorem dX9_then_130 : decode cX9_then 130 = .ok (.ireturn, 1) := by decide +kernel
theorem dX9_lasts_0 : decode cX9_lasts 0 = .ok (.aload_n 0, 1) := by decide +kernel
theorem dX9_lasts_1 : decode cX9_lasts 1 = .ok (.iload_n 1, 1) := by decide +kernel
theorem dX9_lasts_2 : decode cX9_lasts 2 = .ok (.invokevirtual 139, 3) := by decide +kernel
theorem dX9_lasts_5 : decode cX9_lasts 5 = .ok (.ifCond .ne 5, 3) := by decide +kernel
theorem dX9_lasts_8 : decode cX9_lasts 8 = .ok (.iconst (-1), 1) := by decide +kernel
theorem dX9_lasts_9 : decode cX9_lasts 9 = .ok (.ireturn, 1) := by decide +kernel
theorem dX9_lasts_10 : decode cX9_lasts 10 = .ok (.aload_n 0, 1) := by decide +kernel
theorem dX9_lasts_11 : decode cX9_lasts 11 = .ok (.invokevirtual 111, 3) := by decide +kernel
theorem dX9_lasts_14 : decode cX9_lasts 14 = .ok (.aload_n 0, 1) := by decide +kernel
theorem dX9_lasts_15 : decode cX9_lasts 15 = .ok (.iload_n 1, 1) := by decide +kernel
theorem dX9_lasts_16 : decode cX9_lasts 16 = .ok (.invokevirtual 96, 3) := by decide +kernel
theorem dX9_lasts_19 : decode cX9_lasts 19 = .ok (.istore_n 2, 1) := by decide +kernel
theorem dX9_lasts_20 : decode cX9_lasts 20 = .ok (.aload_n 0, 1) := by decide +kernel
theorem dX9_lasts_21 : decode cX9_lasts 21 = .ok (.getfield 13, 3) := by decide +kernel
theorem dX9_lasts_24 : decode cX9_lasts 24 = .ok (.iload_n 1, 1) := by decide +kernel
theorem dX9_lasts_25 : decode cX9_lasts 25 = .ok (.iaload, 1) := by decide +kernel
theorem dX9_lasts_26 : decode cX9_lasts 26 = .ok (.ifCond .ne 7, 3) := by decide +kernel
theorem dX9_lasts_29 : decode cX9_lasts 29 = .ok (.iconst 0, 1) := by decide +kernel
theorem dX9_lasts_30 : decode cX9_lasts 30 = .ok (.goto 24, 3) := by decide +kernel
theorem dX9_lasts_33 : decode cX9_lasts 33 = .ok (.iload_n 2, 1) := by decide +kernel
theorem dX9_lasts_34 : decode cX9_lasts 34 = .ok (.ifCond .ne 8, 3) := by decide +kernel
theorem dX9_lasts_37 : decode cX9_lasts 37 = .ok (.bipush (-6), 2) := by decide +kernel
theorem dX9_lasts_39 : decode cX9_lasts 39 = .ok (.goto 15, 3) := by decide +kernel
theorem dX9_lasts_42 : decode cX9_lasts 42 = .ok (.aload_n 0, 1) := by decide +kernel
theorem dX9_lasts_43 : decode cX9_lasts 43 = .ok (.getfield 13, 3) := by decide +kernel
theorem dX9_lasts_46 : decode cX9_lasts 46 = .ok (.iload_n 1, 1) := by decide +kernel
theorem dX9_lasts_47 : decode cX9_lasts 47 = .ok (.iaload, 1) := by decide +kernel
theorem dX9_lasts_48 : decode cX9_lasts 48 = .ok (.iload_n 2, 1) := by decide +kernel
theorem dX9_lasts_49 : decode cX9_lasts 49 = .ok (.iadd, 1) := by decide +kernel
theorem dX9_lasts_50 : decode cX9_lasts 50 = .ok (.iconst 1, 1) := by decide +kernel
theorem dX9_lasts_51 : decode cX9_lasts 51 = .ok (.isub, 1) := by decide +kernel
theorem dX9_lasts_52 : decode cX9_lasts 52 = .ok (.iload_n 2, 1) := by decide +kernel
theorem dX9_lasts_53 : decode cX9_lasts 53 = .ok (.idiv, 1) := by decide +kernel
theorem dX9_lasts_54 : decode cX9_lasts 54 = .ok (.ireturn, 1) := by decide +kernel
theorem dX9_trials_0 : decode cX9_trials 0 = .ok (.iload_n 1, 1) := by decide +kernel
theorem dX9_trials_1 : decode cX9_trials 1 = .ok (.iconst 1, 1) := by decide +kernel
theorem dX9_trials_2 : decode cX9_trials 2 = .ok (.bipush 99, 2) := by decide +kernel
theorem dX9_trials_4 : decode cX9_trials 4 = .ok (.invokestatic 54, 3) := by decide +kernel
theorem dX9_trials_7 : decode cX9_trials 7 = .ok (.ifCond .eq 22, 3) := by decide +kernel
theorem dX9_trials_10 : decode cX9_trials 10 = .ok (.iload_n 2, 1) := by decide +kernel
theorem dX9_trials_11 : decode cX9_trials 11 = .ok (.iconst 1, 1) := by decide +kernel
theorem dX9_trials_12 : decode cX9_trials 12 = .ok (.bipush 20, 2) := by decide +kernel
theorem dX9_trials_14 : decode cX9_trials 14 = .ok (.invokestatic 54, 3) := by decide +kernel
theorem dX9_trials_17 : decode cX9_trials 17 = .ok (.ifCond .eq 12, 3) := by decide +kernel
theorem dX9_trials_20 : decode cX9_trials 20 = .ok (.iload_n 3, 1) := by decide +kernel
theorem dX9_trials_21 : decode cX9_trials 21 = .ok (.iconst 0, 1) := by decide +kernel
theorem dX9_trials_22 : decode cX9_trials 22 = .ok (.iconst 1, 1) := by decide +kernel
theorem dX9_trials_23 : decode cX9_trials 23 = .ok (.invokestatic 54, 3) := by decide +kernel
theorem dX9_trials_26 : decode cX9_trials 26 = .ok (.ifCond .ne 6, 3) := by decide +kernel
theorem dX9_trials_29 : decode cX9_trials 29 = .ok (.bipush (-2), 2) := by decide +kernel
theorem dX9_trials_31 : decode cX9_trials 31 = .ok (.ireturn, 1) := by decide +kernel
theorem dX9_trials_32 : decode cX9_trials 32 = .ok (.bipush (-6), 2) := by decide +kernel
theorem dX9_trials_34 : decode cX9_trials 34 = .ok (.istore 4, 2) := by decide +kernel
theorem dX9_trials_36 : decode cX9_trials 36 = .ok (.iconst 1, 1) := by decide +kernel
theorem dX9_trials_37 : decode cX9_trials 37 = .ok (.istore 5, 2) := by decide +kernel
theorem dX9_trials_39 : decode cX9_trials 39 = .ok (.iload 5, 2) := by decide +kernel
theorem dX9_trials_41 : decode cX9_trials 41 = .ok (.iload_n 1, 1) := by decide +kernel
theorem dX9_trials_42 : decode cX9_trials 42 = .ok (.if_icmp .gt 134, 3) := by decide +kernel
theorem dX9_trials_45 : decode cX9_trials 45 = .ok (.iload 5, 2) := by decide +kernel
theorem dX9_trials_47 : decode cX9_trials 47 = .ok (.iconst 1, 1) := by decide +kernel
theorem dX9_trials_48 : decode cX9_trials 48 = .ok (.if_icmp .ne 7, 3) := by decide +kernel
theorem dX9_trials_51 : decode cX9_trials 51 = .ok (.iconst 0, 1) := by decide +kernel
theorem dX9_trials_52 : decode cX9_trials 52 = .ok (.goto 5, 3) := by decide +kernel
theorem dX9_trials_55 : decode cX9_trials 55 = .ok (.ldc 142, 2) := by decide +kernel
theorem dX9_trials_57 : decode cX9_trials 57 = .ok (.istore 6, 2) := by decide +kernel
theorem dX9_trials_59 : decode cX9_trials 59 = .ok (.bipush (-6), 2) := by decide +kernel
theorem dX9_trials_61 : decode cX9_trials 61 = .ok (.istore 4, 2) := by decide +kernel
theorem dX9_trials_63 : decode cX9_trials 63 = .ok (.iconst 1, 1) := by decide +kernel
theorem dX9_trials_64 : decode cX9_trials 64 = .ok (.istore 7, 2) := by decide +kernel
theorem dX9_trials_66 : decode cX9_trials 66 = .ok (.iload 7, 2) := by decide +kernel
theorem dX9_trials_68 : decode cX9_trials 68 = .ok (.iload_n 2, 1) := by decide +kernel
theorem dX9_trials_69 : decode cX9_trials 69 = .ok (.if_icmp .gt 92, 3) := by decide +kernel
theorem dX9_trials_72 : decode cX9_trials 72 = .ok (.iload 7, 2) := by decide +kernel
theorem dX9_trials_74 : decode cX9_trials 74 = .ok (.iload 5, 2) := by decide +kernel
theorem dX9_trials_76 : decode cX9_trials 76 = .ok (.if_icmp .ge 85, 3) := by decide +kernel
theorem dX9_trials_79 : decode cX9_trials 79 = .ok (.iconst 1, 1) := by decide +kernel
theorem dX9_trials_80 : decode cX9_trials 80 = .ok (.aload_n 0, 1) := by decide +kernel
theorem dX9_trials_81 : decode cX9_trials 81 = .ok (.getfield 35, 3) := by decide +kernel
theorem dX9_trials_84 : decode cX9_trials 84 = .ok (.iload 7, 2) := by decide +kernel
theorem dX9_trials_86 : decode cX9_trials 86 = .ok (.iaload, 1) := by decide +kernel
theorem dX9_trials_87 : decode cX9_trials 87 = .ok (.aload_n 0, 1) := by decide +kernel
theorem dX9_trials_88 : decode cX9_trials 88 = .ok (.getfield 35, 3) := by decide +kernel
theorem dX9_trials_91 : decode cX9_trials 91 = .ok (.iload 5, 2) := by decide +kernel
theorem dX9_trials_93 : decode cX9_trials 93 = .ok (.iload 7, 2) := by decide +kernel
theorem dX9_trials_95 : decode cX9_trials 95 = .ok (.isub, 1) := by decide +kernel
theorem dX9_trials_96 : decode cX9_trials 96 = .ok (.iaload, 1) := by decide +kernel
theorem dX9_trials_97 : decode cX9_trials 97 = .ok (.if_icmp .le 13, 3) := by decide +kernel
theorem dX9_trials_100 : decode cX9_trials 100 = .ok (.aload_n 0, 1) := by decide +kernel
theorem dX9_trials_101 : decode cX9_trials 101 = .ok (.getfield 35, 3) := by decide +kernel
theorem dX9_trials_104 : decode cX9_trials 104 = .ok (.iload 7, 2) := by decide +kernel
theorem dX9_trials_106 : decode cX9_trials 106 = .ok (.iaload, 1) := by decide +kernel
theorem dX9_trials_107 : decode cX9_trials 107 = .ok (.goto 13, 3) := by decide +kernel
theorem dX9_trials_110 : decode cX9_trials 110 = .ok (.aload_n 0, 1) := by decide +kernel
theorem dX9_trials_111 : decode cX9_trials 111 = .ok (.getfield 35, 3) := by decide +kernel
theorem dX9_trials_114 : decode cX9_trials 114 = .ok (.iload 5, 2) := by decide +kernel
theorem dX9_trials_116 : decode cX9_trials 116 = .ok (.iload 7, 2) := by decide +kernel
theorem dX9_trials_118 : decode cX9_trials 118 = .ok (.isub, 1) := by decide +kernel
theorem dX9_trials_119 : decode cX9_trials 119 = .ok (.iaload, 1) := by decide +kernel
theorem dX9_trials_120 : decode cX9_trials 120 = .ok (.iadd, 1) := by decide +kernel
theorem dX9_trials_121 : decode cX9_trials 121 = .ok (.istore 8, 2) := by decide +kernel
theorem dX9_trials_123 : decode cX9_trials 123 = .ok (.iload 8, 2) := by decide +kernel
theorem dX9_trials_125 : decode cX9_trials 125 = .ok (.iload 6, 2) := by decide +kernel
theorem dX9_trials_127 : decode cX9_trials 127 = .ok (.if_icmp .ge 8, 3) := by decide +kernel
theorem dX9_trials_130 : decode cX9_trials 130 = .ok (.iload 7, 2) := by decide +kernel
theorem dX9_trials_132 : decode cX9_trials 132 = .ok (.goto 5, 3) := by decide +kernel
theorem dX9_trials_135 : decode cX9_trials 135 = .ok (.iload 4, 2) := by decide +kernel
theorem dX9_trials_137 : decode cX9_trials 137 = .ok (.istore 4, 2) := by decide +kernel
theorem dX9_trials_139 : decode cX9_trials 139 = .ok (.iload 8, 2) := by decide +kernel
theorem dX9_trials_141 : decode cX9_trials 141 = .ok (.iload 6, 2) := by decide +kernel
theorem dX9_trials_143 : decode cX9_trials 143 = .ok (.if_icmp .ge 8, 3) := by decide +kernel
theorem dX9_trials_146 : decode cX9_trials 146 = .ok (.iload 8, 2) := by decide +kernel
theorem dX9_trials_148 : decode cX9_trials 148 = .ok (.goto 5, 3) := by decide +kernel
theorem dX9_trials_151 : decode cX9_trials 151 = .ok (.iload 6, 2) := by decide +kernel
theorem dX9_trials_153 : decode cX9_trials 153 = .ok (.istore 6, 2) := by decide +kernel
theorem dX9_trials_155 : decode cX9_trials 155 = .ok (.iinc 7 1, 3) := by decide +kernel
theorem dX9_trials_158 : decode cX9_trials 158 = .ok (.goto (-92), 3) := by decide +kernel
theorem dX9_trials_161 : decode cX9_trials 161 = .ok (.aload_n 0, 1) := by decide +kernel
theorem dX9_trials_162 : decode cX9_trials 162 = .ok (.getfield 35, 3) := by decide +kernel
theorem dX9_trials_165 : decode cX9_trials 165 = .ok (.iload 5, 2) := by decide +kernel
theorem dX9_trials_167 : decode cX9_trials 167 = .ok (.iload 6, 2) := by decide +kernel
theorem dX9_trials_169 : decode cX9_trials 169 = .ok (.iastore, 1) := by decide +kernel
theorem dX9_trials_170 : decode cX9_trials 170 = .ok (.iinc 5 1, 3) := by decide +kernel
theorem dX9_trials_173 : decode cX9_trials 173 = .ok (.goto (-134), 3) := by decide +kernel
theorem dX9_trials_176 : decode cX9_trials 176 = .ok (.iload_n 3, 1) := by decide +kernel
theorem dX9_trials_177 : decode cX9_trials 177 = .ok (.ifCond .ne 12, 3) := by decide +kernel
theorem dX9_trials_180 : decode cX9_trials 180 = .ok (.aload_n 0, 1) := by decide +kernel
theorem dX9_trials_181 : decode cX9_trials 181 = .ok (.getfield 35, 3) := by decide +kernel
theorem dX9_trials_184 : decode cX9_trials 184 = .ok (.iload_n 1, 1) := by decide +kernel
theorem dX9_trials_185 : decode cX9_trials 185 = .ok (.iaload, 1) := by decide +kernel
theorem dX9_trials_186 : decode cX9_trials 186 = .ok (.goto 5, 3) := by decide +kernel
theorem dX9_trials_189 : decode cX9_trials 189 = .ok (.iload 4, 2) := by decide +kernel
theorem dX9_trials_191 : decode cX9_trials 191 = .ok (.ireturn, 1) := by decide +kernel
theorem dX9_freeCells_0 : decode cX9_freeCells 0 = .ok (.iconst 0, 1) := by decide +kernel
theorem dX9_freeCells_1 : decode cX9_freeCells 1 = .ok (.istore_n 2, 1) := by decide +kernel
theorem dX9_freeCells_2 : decode cX9_freeCells 2 = .ok (.iconst 0, 1) := by decide +kernel
theorem dX9_freeCells_3 : decode cX9_freeCells 3 = .ok (.istore_n 3, 1) := by decide +kernel
theorem dX9_freeCells_4 : decode cX9_freeCells 4 = .ok (.iload_n 3, 1) := by decide +kernel
theorem dX9_freeCells_5 : decode cX9_freeCells 5 = .ok (.bipush 12, 2) := by decide +kernel
theorem dX9_freeCells_7 : decode cX9_freeCells 7 = .ok (.if_icmp .ge 38, 3) := by decide +kernel
theorem dX9_freeCells_10 : decode cX9_freeCells 10 = .ok (.iload_n 2, 1) := by decide +kernel
theorem dX9_freeCells_11 : decode cX9_freeCells 11 = .ok (.iload_n 1, 1) := by decide +kernel
theorem dX9_freeCells_12 : decode cX9_freeCells 12 = .ok (.iload_n 3, 1) := by decide +kernel
theorem dX9_freeCells_13 : decode cX9_freeCells 13 = .ok (.invokestatic 58, 3) := by decide +kernel
theorem dX9_freeCells_16 : decode cX9_freeCells 16 = .ok (.ifCond .ne 14, 3) := by decide +kernel
theorem dX9_freeCells_19 : decode cX9_freeCells 19 = .ok (.aload_n 0, 1) := by decide +kernel
theorem dX9_freeCells_20 : decode cX9_freeCells 20 = .ok (.getfield 26, 3) := by decide +kernel
theorem dX9_freeCells_23 : decode cX9_freeCells 23 = .ok (.iload_n 3, 1) := by decide +kernel
theorem dX9_freeCells_24 : decode cX9_freeCells 24 = .ok (.iaload, 1) := by decide +kernel
theorem dX9_freeCells_25 : decode cX9_freeCells 25 = .ok (.iload_n 1, 1) := by decide +kernel
theorem dX9_freeCells_26 : decode cX9_freeCells 26 = .ok (.iand, 1) := by decide +kernel
theorem dX9_freeCells_27 : decode cX9_freeCells 27 = .ok (.ifCond .eq 7, 3) := by decide +kernel
theorem dX9_freeCells_30 : decode cX9_freeCells 30 = .ok (.iconst 0, 1) := by decide +kernel
theorem dX9_freeCells_31 : decode cX9_freeCells 31 = .ok (.goto 6, 3) := by decide +kernel
theorem dX9_freeCells_34 : decode cX9_freeCells 34 = .ok (.iconst 1, 1) := by decide +kernel
theorem dX9_freeCells_35 : decode cX9_freeCells 35 = .ok (.iload_n 3, 1) := by decide +kernel
theorem dX9_freeCells_36 : decode cX9_freeCells 36 = .ok (.ishl, 1) := by decide +kernel
theorem dX9_freeCells_37 : decode cX9_freeCells 37 = .ok (.ior, 1) := by decide +kernel
theorem dX9_freeCells_38 : decode cX9_freeCells 38 = .ok (.istore_n 2, 1) := by decide +kernel
theorem dX9_freeCells_39 : decode cX9_freeCells 39 = .ok (.iinc 3 1, 3) := by decide +kernel
theorem dX9_freeCells_42 : decode cX9_freeCells 42 = .ok (.goto (-38), 3) := by decide +kernel
theorem dX9_freeCells_45 : decode cX9_freeCells 45 = .ok (.iload_n 2, 1) := by decide +kernel
theorem dX9_freeCells_46 : decode cX9_freeCells 46 = .ok (.ireturn, 1) := by decide +kernel
theorem dX9_stepsBy_0 : decode cX9_stepsBy 0 = .ok (.iload_n 3, 1) := by decide +kernel
theorem dX9_stepsBy_1 : decode cX9_stepsBy 1 = .ok (.iconst 1, 1) := by decide +kernel
theorem dX9_stepsBy_2 : decode cX9_stepsBy 2 = .ok (.iload_n 1, 1) := by decide +kernel
theorem dX9_stepsBy_3 : decode cX9_stepsBy 3 = .ok (.ishl, 1) := by decide +kernel
theorem dX9_stepsBy_4 : decode cX9_stepsBy 4 = .ok (.iand, 1) := by decide +kernel
theorem dX9_stepsBy_5 : decode cX9_stepsBy 5 = .ok (.istore 4, 2) := by decide +kernel
theorem dX9_stepsBy_7 : decode cX9_stepsBy 7 = .ok (.iconst 0, 1) := by decide +kernel
theorem dX9_stepsBy_8 : decode cX9_stepsBy 8 = .ok (.istore 5, 2) := by decide +kernel
theorem dX9_stepsBy_10 : decode cX9_stepsBy 10 = .ok (.iload 5, 2) := by decide +kernel
theorem dX9_stepsBy_12 : decode cX9_stepsBy 12 = .ok (.bipush 12, 2) := by decide +kernel
theorem dX9_stepsBy_14 : decode cX9_stepsBy 14 = .ok (.if_icmp .ge 69, 3) := by decide +kernel
theorem dX9_stepsBy_17 : decode cX9_stepsBy 17 = .ok (.iload 4, 2) := by decide +kernel
theorem dX9_stepsBy_19 : decode cX9_stepsBy 19 = .ok (.iload_n 2, 1) := by decide +kernel
theorem dX9_stepsBy_20 : decode cX9_stepsBy 20 = .ok (.invokestatic 58, 3) := by decide +kernel
theorem dX9_stepsBy_23 : decode cX9_stepsBy 23 = .ok (.ifCond .eq 6, 3) := by decide +kernel
theorem dX9_stepsBy_26 : decode cX9_stepsBy 26 = .ok (.iload 5, 2) := by decide +kernel
theorem dX9_stepsBy_28 : decode cX9_stepsBy 28 = .ok (.ireturn, 1) := by decide +kernel
theorem dX9_stepsBy_29 : decode cX9_stepsBy 29 = .ok (.iload 4, 2) := by decide +kernel
theorem dX9_stepsBy_31 : decode cX9_stepsBy 31 = .ok (.istore 6, 2) := by decide +kernel
theorem dX9_stepsBy_33 : decode cX9_stepsBy 33 = .ok (.iconst 0, 1) := by decide +kernel
theorem dX9_stepsBy_34 : decode cX9_stepsBy 34 = .ok (.istore 7, 2) := by decide +kernel
theorem dX9_stepsBy_36 : decode cX9_stepsBy 36 = .ok (.iload 7, 2) := by decide +kernel
theorem dX9_stepsBy_38 : decode cX9_stepsBy 38 = .ok (.bipush 12, 2) := by decide +kernel
theorem dX9_stepsBy_40 : decode cX9_stepsBy 40 = .ok (.if_icmp .ge 37, 3) := by decide +kernel
theorem dX9_stepsBy_43 : decode cX9_stepsBy 43 = .ok (.iload 4, 2) := by decide +kernel
theorem dX9_stepsBy_45 : decode cX9_stepsBy 45 = .ok (.iload 6, 2) := by decide +kernel
theorem dX9_stepsBy_47 : decode cX9_stepsBy 47 = .ok (.iload 7, 2) := by decide +kernel
theorem dX9_stepsBy_49 : decode cX9_stepsBy 49 = .ok (.invokestatic 58, 3) := by decide +kernel
theorem dX9_stepsBy_52 : decode cX9_stepsBy 52 = .ok (.ifCond .eq 15, 3) := by decide +kernel
theorem dX9_stepsBy_55 : decode cX9_stepsBy 55 = .ok (.aload_n 0, 1) := by decide +kernel
theorem dX9_stepsBy_56 : decode cX9_stepsBy 56 = .ok (.getfield 26, 3) := by decide +kernel
theorem dX9_stepsBy_59 : decode cX9_stepsBy 59 = .ok (.iload 7, 2) := by decide +kernel
theorem dX9_stepsBy_61 : decode cX9_stepsBy 61 = .ok (.iaload, 1) := by decide +kernel
theorem dX9_stepsBy_62 : decode cX9_stepsBy 62 = .ok (.iload_n 3, 1) := by decide +kernel
theorem dX9_stepsBy_63 : decode cX9_stepsBy 63 = .ok (.iand, 1) := by decide +kernel
theorem dX9_stepsBy_64 : decode cX9_stepsBy 64 = .ok (.goto 4, 3) := by decide +kernel
theorem dX9_stepsBy_67 : decode cX9_stepsBy 67 = .ok (.iconst 0, 1) := by decide +kernel
theorem dX9_stepsBy_68 : decode cX9_stepsBy 68 = .ok (.ior, 1) := by decide +kernel
theorem dX9_stepsBy_69 : decode cX9_stepsBy 69 = .ok (.istore 4, 2) := by decide +kernel
theorem dX9_stepsBy_71 : decode cX9_stepsBy 71 = .ok (.iinc 7 1, 3) := by decide +kernel
theorem dX9_stepsBy_74 : decode cX9_stepsBy 74 = .ok (.goto (-38), 3) := by decide +kernel
theorem dX9_stepsBy_77 : decode cX9_stepsBy 77 = .ok (.iinc 5 1, 3) := by decide +kernel
theorem dX9_stepsBy_80 : decode cX9_stepsBy 80 = .ok (.goto (-70), 3) := by decide +kernel
theorem dX9_stepsBy_83 : decode cX9_stepsBy 83 = .ok (.bipush (-6), 2) := by decide +kernel
theorem dX9_stepsBy_85 : decode cX9_stepsBy 85 = .ok (.ireturn, 1) := by decide +kernel
theorem dX9_round_0 : decode cX9_round 0 = .ok (.iload_n 1, 1) := by decide +kernel
theorem dX9_round_1 : decode cX9_round 1 = .ok (.invokestatic 66, 3) := by decide +kernel
theorem dX9_round_4 : decode cX9_round 4 = .ok (.ifCond .eq 10, 3) := by decide +kernel
theorem dX9_round_7 : decode cX9_round 7 = .ok (.iload_n 2, 1) := by decide +kernel
theorem dX9_round_8 : decode cX9_round 8 = .ok (.invokestatic 66, 3) := by decide +kernel
theorem dX9_round_11 : decode cX9_round 11 = .ok (.ifCond .ne 5, 3) := by decide +kernel
theorem dX9_round_14 : decode cX9_round 14 = .ok (.iconst (-1), 1) := by decide +kernel
theorem dX9_round_15 : decode cX9_round 15 = .ok (.ireturn, 1) := by decide +kernel
theorem dX9_round_16 : decode cX9_round 16 = .ok (.iload_n 3, 1) := by decide +kernel
theorem dX9_round_17 : decode cX9_round 17 = .ok (.iconst 0, 1) := by decide +kernel
theorem dX9_round_18 : decode cX9_round 18 = .ok (.iconst 1, 1) := by decide +kernel
theorem dX9_round_19 : decode cX9_round 19 = .ok (.invokestatic 54, 3) := by decide +kernel
theorem dX9_round_22 : decode cX9_round 22 = .ok (.ifCond .ne 6, 3) := by decide +kernel
theorem dX9_round_25 : decode cX9_round 25 = .ok (.bipush (-2), 2) := by decide +kernel
theorem dX9_round_27 : decode cX9_round 27 = .ok (.ireturn, 1) := by decide +kernel
theorem dX9_round_28 : decode cX9_round 28 = .ok (.aload_n 0, 1) := by decide +kernel
theorem dX9_round_29 : decode cX9_round 29 = .ok (.aload_n 0, 1) := by decide +kernel
theorem dX9_round_30 : decode cX9_round 30 = .ok (.getfield 70, 3) := by decide +kernel
theorem dX9_round_33 : decode cX9_round 33 = .ok (.invokevirtual 143, 3) := by decide +kernel
theorem dX9_round_36 : decode cX9_round 36 = .ok (.istore 4, 2) := by decide +kernel
theorem dX9_round_38 : decode cX9_round 38 = .ok (.aload_n 0, 1) := by decide +kernel
theorem dX9_round_39 : decode cX9_round 39 = .ok (.iload_n 1, 1) := by decide +kernel
theorem dX9_round_40 : decode cX9_round 40 = .ok (.iload_n 2, 1) := by decide +kernel
theorem dX9_round_41 : decode cX9_round 41 = .ok (.iload 4, 2) := by decide +kernel
theorem dX9_round_43 : decode cX9_round 43 = .ok (.invokevirtual 146, 3) := by decide +kernel
theorem dX9_round_46 : decode cX9_round 46 = .ok (.istore 5, 2) := by decide +kernel
theorem dX9_round_48 : decode cX9_round 48 = .ok (.iload_n 3, 1) := by decide +kernel
theorem dX9_round_49 : decode cX9_round 49 = .ok (.ifCond .eq 8, 3) := by decide +kernel
theorem dX9_round_52 : decode cX9_round 52 = .ok (.iload 5, 2) := by decide +kernel
theorem dX9_round_54 : decode cX9_round 54 = .ok (.ifCond .gt 15, 3) := by decide +kernel
theorem dX9_round_57 : decode cX9_round 57 = .ok (.iload_n 3, 1) := by decide +kernel
theorem dX9_round_58 : decode cX9_round 58 = .ok (.ifCond .ne 8, 3) := by decide +kernel
theorem dX9_round_61 : decode cX9_round 61 = .ok (.iload 5, 2) := by decide +kernel
theorem dX9_round_63 : decode cX9_round 63 = .ok (.goto 5, 3) := by decide +kernel
theorem dX9_round_66 : decode cX9_round 66 = .ok (.bipush (-6), 2) := by decide +kernel
theorem dX9_round_68 : decode cX9_round 68 = .ok (.ireturn, 1) := by decide +kernel
theorem dX9_round_69 : decode cX9_round 69 = .ok (.iconst 0, 1) := by decide +kernel
theorem dX9_round_70 : decode cX9_round 70 = .ok (.istore 6, 2) := by decide +kernel
theorem dX9_round_72 : decode cX9_round 72 = .ok (.aload_n 0, 1) := by decide +kernel
theorem dX9_round_73 : decode cX9_round 73 = .ok (.getfield 26, 3) := by decide +kernel
theorem dX9_round_76 : decode cX9_round 76 = .ok (.iload_n 1, 1) := by decide +kernel
theorem dX9_round_77 : decode cX9_round 77 = .ok (.iaload, 1) := by decide +kernel
theorem dX9_round_78 : decode cX9_round 78 = .ok (.iload 4, 2) := by decide +kernel
theorem dX9_round_80 : decode cX9_round 80 = .ok (.iand, 1) := by decide +kernel
theorem dX9_round_81 : decode cX9_round 81 = .ok (.iload 6, 2) := by decide +kernel
theorem dX9_round_83 : decode cX9_round 83 = .ok (.invokestatic 58, 3) := by decide +kernel
theorem dX9_round_86 : decode cX9_round 86 = .ok (.ifCond .eq 19, 3) := by decide +kernel
theorem dX9_round_89 : decode cX9_round 89 = .ok (.aload_n 0, 1) := by decide +kernel
theorem dX9_round_90 : decode cX9_round 90 = .ok (.iload 6, 2) := by decide +kernel
theorem dX9_round_92 : decode cX9_round 92 = .ok (.iload_n 2, 1) := by decide +kernel
theorem dX9_round_93 : decode cX9_round 93 = .ok (.iload 4, 2) := by decide +kernel
theorem dX9_round_95 : decode cX9_round 95 = .ok (.invokevirtual 146, 3) := by decide +kernel
theorem dX9_round_98 : decode cX9_round 98 = .ok (.iload 5, 2) := by decide +kernel
theorem dX9_round_100 : decode cX9_round 100 = .ok (.iconst 1, 1) := by decide +kernel
theorem dX9_round_101 : decode cX9_round 101 = .ok (.isub, 1) := by decide +kernel
theorem dX9_round_102 : decode cX9_round 102 = .ok (.if_icmp .eq 9, 3) := by decide +kernel
theorem dX9_round_105 : decode cX9_round 105 = .ok (.iinc 6 1, 3) := by decide +kernel
theorem dX9_round_108 : decode cX9_round 108 = .ok (.goto (-36), 3) := by decide +kernel
theorem dX9_round_111 : decode cX9_round 111 = .ok (.iload 6, 2) := by decide +kernel
theorem dX9_round_113 : decode cX9_round 113 = .ok (.ireturn, 1) := by decide +kernel
theorem dX9_shun_0 : decode cX9_shun 0 = .ok (.iload_n 1, 1) := by decide +kernel
theorem dX9_shun_1 : decode cX9_shun 1 = .ok (.invokestatic 66, 3) := by decide +kernel
theorem dX9_shun_4 : decode cX9_shun 4 = .ok (.ifCond .eq 10, 3) := by decide +kernel
theorem dX9_shun_7 : decode cX9_shun 7 = .ok (.iload_n 2, 1) := by decide +kernel
theorem dX9_shun_8 : decode cX9_shun 8 = .ok (.invokestatic 66, 3) := by decide +kernel
theorem dX9_shun_11 : decode cX9_shun 11 = .ok (.ifCond .ne 5, 3) := by decide +kernel
theorem dX9_shun_14 : decode cX9_shun 14 = .ok (.iconst (-1), 1) := by decide +kernel
theorem dX9_shun_15 : decode cX9_shun 15 = .ok (.ireturn, 1) := by decide +kernel
theorem dX9_shun_16 : decode cX9_shun 16 = .ok (.iload_n 3, 1) := by decide +kernel
theorem dX9_shun_17 : decode cX9_shun 17 = .ok (.iconst 0, 1) := by decide +kernel
theorem dX9_shun_18 : decode cX9_shun 18 = .ok (.iconst 1, 1) := by decide +kernel
theorem dX9_shun_19 : decode cX9_shun 19 = .ok (.invokestatic 54, 3) := by decide +kernel
theorem dX9_shun_22 : decode cX9_shun 22 = .ok (.ifCond .ne 6, 3) := by decide +kernel
theorem dX9_shun_25 : decode cX9_shun 25 = .ok (.bipush (-2), 2) := by decide +kernel
theorem dX9_shun_27 : decode cX9_shun 27 = .ok (.ireturn, 1) := by decide +kernel
theorem dX9_shun_28 : decode cX9_shun 28 = .ok (.bipush (-6), 2) := by decide +kernel
theorem dX9_shun_30 : decode cX9_shun 30 = .ok (.istore 4, 2) := by decide +kernel
theorem dX9_shun_32 : decode cX9_shun 32 = .ok (.iconst 0, 1) := by decide +kernel
theorem dX9_shun_33 : decode cX9_shun 33 = .ok (.istore 5, 2) := by decide +kernel
theorem dX9_shun_35 : decode cX9_shun 35 = .ok (.iload 5, 2) := by decide +kernel
theorem dX9_shun_37 : decode cX9_shun 37 = .ok (.sipush 4096, 3) := by decide +kernel
theorem dX9_shun_40 : decode cX9_shun 40 = .ok (.if_icmp .ge 77, 3) := by decide +kernel
theorem dX9_shun_43 : decode cX9_shun 43 = .ok (.iload 5, 2) := by decide +kernel
theorem dX9_shun_45 : decode cX9_shun 45 = .ok (.aload_n 0, 1) := by decide +kernel
theorem dX9_shun_46 : decode cX9_shun 46 = .ok (.getfield 70, 3) := by decide +kernel
theorem dX9_shun_49 : decode cX9_shun 49 = .ok (.iconst (-1), 1) := by decide +kernel
theorem dX9_shun_50 : decode cX9_shun 50 = .ok (.ixor, 1) := by decide +kernel
theorem dX9_shun_51 : decode cX9_shun 51 = .ok (.iand, 1) := by decide +kernel
theorem dX9_shun_52 : decode cX9_shun 52 = .ok (.ifCond .ne 25, 3) := by decide +kernel
theorem dX9_shun_55 : decode cX9_shun 55 = .ok (.iload 4, 2) := by decide +kernel
theorem dX9_shun_57 : decode cX9_shun 57 = .ok (.ifCond .lt 16, 3) := by decide +kernel
theorem dX9_shun_60 : decode cX9_shun 60 = .ok (.iload 5, 2) := by decide +kernel
theorem dX9_shun_62 : decode cX9_shun 62 = .ok (.invokestatic 62, 3) := by decide +kernel
theorem dX9_shun_65 : decode cX9_shun 65 = .ok (.iload 4, 2) := by decide +kernel
theorem dX9_shun_67 : decode cX9_shun 67 = .ok (.invokestatic 62, 3) := by decide +kernel
theorem dX9_shun_70 : decode cX9_shun 70 = .ok (.if_icmp .ge 7, 3) := by decide +kernel
theorem dX9_shun_73 : decode cX9_shun 73 = .ok (.iconst 1, 1) := by decide +kernel
theorem dX9_shun_74 : decode cX9_shun 74 = .ok (.goto 4, 3) := by decide +kernel
theorem dX9_shun_77 : decode cX9_shun 77 = .ok (.iconst 0, 1) := by decide +kernel
theorem dX9_shun_78 : decode cX9_shun 78 = .ok (.istore 6, 2) := by decide +kernel
theorem dX9_shun_80 : decode cX9_shun 80 = .ok (.iload 6, 2) := by decide +kernel
theorem dX9_shun_82 : decode cX9_shun 82 = .ok (.ifCond .eq 29, 3) := by decide +kernel
theorem dX9_shun_85 : decode cX9_shun 85 = .ok (.aload_n 0, 1) := by decide +kernel
theorem dX9_shun_86 : decode cX9_shun 86 = .ok (.iload_n 1, 1) := by decide +kernel
theorem dX9_shun_87 : decode cX9_shun 87 = .ok (.iload_n 2, 1) := by decide +kernel
theorem dX9_shun_88 : decode cX9_shun 88 = .ok (.aload_n 0, 1) := by decide +kernel
theorem dX9_shun_89 : decode cX9_shun 89 = .ok (.aload_n 0, 1) := by decide +kernel
theorem dX9_shun_90 : decode cX9_shun 90 = .ok (.getfield 70, 3) := by decide +kernel
theorem dX9_shun_93 : decode cX9_shun 93 = .ok (.iload 5, 2) := by decide +kernel
theorem dX9_shun_95 : decode cX9_shun 95 = .ok (.iconst (-1), 1) := by decide +kernel
theorem dX9_shun_96 : decode cX9_shun 96 = .ok (.ixor, 1) := by decide +kernel
theorem dX9_shun_97 : decode cX9_shun 97 = .ok (.iand, 1) := by decide +kernel
theorem dX9_shun_98 : decode cX9_shun 98 = .ok (.invokevirtual 143, 3) := by decide +kernel
theorem dX9_shun_101 : decode cX9_shun 101 = .ok (.invokevirtual 146, 3) := by decide +kernel
theorem dX9_shun_104 : decode cX9_shun 104 = .ok (.ifCond .lt 7, 3) := by decide +kernel
theorem dX9_shun_107 : decode cX9_shun 107 = .ok (.iload 5, 2) := by decide +kernel
theorem dX9_shun_109 : decode cX9_shun 109 = .ok (.istore 4, 2) := by decide +kernel
theorem dX9_shun_111 : decode cX9_shun 111 = .ok (.iinc 5 1, 3) := by decide +kernel
theorem dX9_shun_114 : decode cX9_shun 114 = .ok (.goto (-79), 3) := by decide +kernel
theorem dX9_shun_117 : decode cX9_shun 117 = .ok (.iload 4, 2) := by decide +kernel
theorem dX9_shun_119 : decode cX9_shun 119 = .ok (.ifCond .lt 8, 3) := by decide +kernel
theorem dX9_shun_122 : decode cX9_shun 122 = .ok (.iload_n 3, 1) := by decide +kernel
theorem dX9_shun_123 : decode cX9_shun 123 = .ok (.iconst 1, 1) := by decide +kernel
theorem dX9_shun_124 : decode cX9_shun 124 = .ok (.if_icmp .ne 8, 3) := by decide +kernel
theorem dX9_shun_127 : decode cX9_shun 127 = .ok (.iload 4, 2) := by decide +kernel
theorem dX9_shun_129 : decode cX9_shun 129 = .ok (.goto 8, 3) := by decide +kernel
theorem dX9_shun_132 : decode cX9_shun 132 = .ok (.iload 4, 2) := by decide +kernel
theorem dX9_shun_134 : decode cX9_shun 134 = .ok (.invokestatic 62, 3) := by decide +kernel
theorem dX9_shun_137 : decode cX9_shun 137 = .ok (.ireturn, 1) := by decide +kernel
theorem dX9_layRows_0 : decode cX9_layRows 0 = .ok (.iconst 0, 1) := by decide +kernel
theorem dX9_layRows_1 : decode cX9_layRows 1 = .ok (.istore_n 2, 1) := by decide +kernel
theorem dX9_layRows_2 : decode cX9_layRows 2 = .ok (.iload_n 2, 1) := by decide +kernel
theorem dX9_layRows_3 : decode cX9_layRows 3 = .ok (.iload_n 1, 1) := by decide +kernel
theorem dX9_layRows_4 : decode cX9_layRows 4 = .ok (.if_icmp .gt 107, 3) := by decide +kernel
theorem dX9_layRows_7 : decode cX9_layRows 7 = .ok (.iconst 0, 1) := by decide +kernel
theorem dX9_layRows_8 : decode cX9_layRows 8 = .ok (.istore_n 3, 1) := by decide +kernel
theorem dX9_layRows_9 : decode cX9_layRows 9 = .ok (.iload_n 3, 1) := by decide +kernel
theorem dX9_layRows_10 : decode cX9_layRows 10 = .ok (.bipush 41, 2) := by decide +kernel
theorem dX9_layRows_12 : decode cX9_layRows 12 = .ok (.if_icmp .ge 93, 3) := by decide +kernel
theorem dX9_layRows_15 : decode cX9_layRows 15 = .ok (.iload_n 3, 1) := by decide +kernel
theorem dX9_layRows_16 : decode cX9_layRows 16 = .ok (.ifCond .ne 7, 3) := by decide +kernel
theorem dX9_layRows_19 : decode cX9_layRows 19 = .ok (.iconst 1, 1) := by decide +kernel
theorem dX9_layRows_20 : decode cX9_layRows 20 = .ok (.goto 4, 3) := by decide +kernel
theorem dX9_layRows_23 : decode cX9_layRows 23 = .ok (.iconst 0, 1) := by decide +kernel
theorem dX9_layRows_24 : decode cX9_layRows 24 = .ok (.istore 4, 2) := by decide +kernel
theorem dX9_layRows_26 : decode cX9_layRows 26 = .ok (.iload_n 2, 1) := by decide +kernel
theorem dX9_layRows_27 : decode cX9_layRows 27 = .ok (.ifCond .le 56, 3) := by decide +kernel
theorem dX9_layRows_30 : decode cX9_layRows 30 = .ok (.iload_n 3, 1) := by decide +kernel
theorem dX9_layRows_31 : decode cX9_layRows 31 = .ok (.ifCond .le 52, 3) := by decide +kernel
theorem dX9_layRows_34 : decode cX9_layRows 34 = .ok (.iload_n 2, 1) := by decide +kernel
theorem dX9_layRows_35 : decode cX9_layRows 35 = .ok (.iconst 1, 1) := by decide +kernel
theorem dX9_layRows_36 : decode cX9_layRows 36 = .ok (.if_icmp .ne 16, 3) := by decide +kernel
theorem dX9_layRows_39 : decode cX9_layRows 39 = .ok (.iload_n 3, 1) := by decide +kernel
theorem dX9_layRows_40 : decode cX9_layRows 40 = .ok (.iconst 1, 1) := by decide +kernel
theorem dX9_layRows_41 : decode cX9_layRows 41 = .ok (.if_icmp .ne 7, 3) := by decide +kernel
theorem dX9_layRows_44 : decode cX9_layRows 44 = .ok (.iconst 1, 1) := by decide +kernel
theorem dX9_layRows_45 : decode cX9_layRows 45 = .ok (.goto 36, 3) := by decide +kernel
theorem dX9_layRows_48 : decode cX9_layRows 48 = .ok (.iconst 0, 1) := by decide +kernel
theorem dX9_layRows_49 : decode cX9_layRows 49 = .ok (.goto 32, 3) := by decide +kernel
theorem dX9_layRows_52 : decode cX9_layRows 52 = .ok (.aload_n 0, 1) := by decide +kernel
theorem dX9_layRows_53 : decode cX9_layRows 53 = .ok (.getfield 38, 3) := by decide +kernel
theorem dX9_layRows_56 : decode cX9_layRows 56 = .ok (.bipush 41, 2) := by decide +kernel
theorem dX9_layRows_58 : decode cX9_layRows 58 = .ok (.iload_n 2, 1) := by decide +kernel
theorem dX9_layRows_59 : decode cX9_layRows 59 = .ok (.iconst 1, 1) := by decide +kernel
theorem dX9_layRows_60 : decode cX9_layRows 60 = .ok (.isub, 1) := by decide +kernel
theorem dX9_layRows_61 : decode cX9_layRows 61 = .ok (.imul, 1) := by decide +kernel
theorem dX9_layRows_62 : decode cX9_layRows 62 = .ok (.iload_n 3, 1) := by decide +kernel
theorem dX9_layRows_63 : decode cX9_layRows 63 = .ok (.iadd, 1) := by decide +kernel
theorem dX9_layRows_64 : decode cX9_layRows 64 = .ok (.iaload, 1) := by decide +kernel
theorem dX9_layRows_65 : decode cX9_layRows 65 = .ok (.aload_n 0, 1) := by decide +kernel
theorem dX9_layRows_66 : decode cX9_layRows 66 = .ok (.getfield 38, 3) := by decide +kernel
theorem dX9_layRows_69 : decode cX9_layRows 69 = .ok (.bipush 41, 2) := by decide +kernel
theorem dX9_layRows_71 : decode cX9_layRows 71 = .ok (.iload_n 2, 1) := by decide +kernel
theorem dX9_layRows_72 : decode cX9_layRows 72 = .ok (.iconst 2, 1) := by decide +kernel
theorem dX9_layRows_73 : decode cX9_layRows 73 = .ok (.isub, 1) := by decide +kernel
theorem dX9_layRows_74 : decode cX9_layRows 74 = .ok (.imul, 1) := by decide +kernel
theorem dX9_layRows_75 : decode cX9_layRows 75 = .ok (.iload_n 3, 1) := by decide +kernel
theorem dX9_layRows_76 : decode cX9_layRows 76 = .ok (.iadd, 1) := by decide +kernel
theorem dX9_layRows_77 : decode cX9_layRows 77 = .ok (.iconst 1, 1) := by decide +kernel
theorem dX9_layRows_78 : decode cX9_layRows 78 = .ok (.isub, 1) := by decide +kernel
theorem dX9_layRows_79 : decode cX9_layRows 79 = .ok (.iaload, 1) := by decide +kernel
theorem dX9_layRows_80 : decode cX9_layRows 80 = .ok (.iadd, 1) := by decide +kernel
theorem dX9_layRows_81 : decode cX9_layRows 81 = .ok (.istore 4, 2) := by decide +kernel
theorem dX9_layRows_83 : decode cX9_layRows 83 = .ok (.aload_n 0, 1) := by decide +kernel
theorem dX9_layRows_84 : decode cX9_layRows 84 = .ok (.getfield 38, 3) := by decide +kernel
theorem dX9_layRows_87 : decode cX9_layRows 87 = .ok (.bipush 41, 2) := by decide +kernel
theorem dX9_layRows_89 : decode cX9_layRows 89 = .ok (.iload_n 2, 1) := by decide +kernel
theorem dX9_layRows_90 : decode cX9_layRows 90 = .ok (.imul, 1) := by decide +kernel
theorem dX9_layRows_91 : decode cX9_layRows 91 = .ok (.iload_n 3, 1) := by decide +kernel
theorem dX9_layRows_92 : decode cX9_layRows 92 = .ok (.iadd, 1) := by decide +kernel
theorem dX9_layRows_93 : decode cX9_layRows 93 = .ok (.iload 4, 2) := by decide +kernel
theorem dX9_layRows_95 : decode cX9_layRows 95 = .ok (.ldc 150, 2) := by decide +kernel
theorem dX9_layRows_97 : decode cX9_layRows 97 = .ok (.irem, 1) := by decide +kernel
theorem dX9_layRows_98 : decode cX9_layRows 98 = .ok (.iastore, 1) := by decide +kernel
theorem dX9_layRows_99 : decode cX9_layRows 99 = .ok (.iinc 3 1, 3) := by decide +kernel
theorem dX9_layRows_102 : decode cX9_layRows 102 = .ok (.goto (-93), 3) := by decide +kernel
theorem dX9_layRows_105 : decode cX9_layRows 105 = .ok (.iinc 2 1, 3) := by decide +kernel
theorem dX9_layRows_108 : decode cX9_layRows 108 = .ok (.goto (-106), 3) := by decide +kernel
theorem dX9_layRows_111 : decode cX9_layRows 111 = .ok (.return_, 1) := by decide +kernel
theorem dX9_apart_0 : decode cX9_apart 0 = .ok (.iload_n 1, 1) := by decide +kernel
theorem dX9_apart_1 : decode cX9_apart 1 = .ok (.iconst 0, 1) := by decide +kernel
theorem dX9_apart_2 : decode cX9_apart 2 = .ok (.bipush 40, 2) := by decide +kernel
theorem dX9_apart_4 : decode cX9_apart 4 = .ok (.invokestatic 54, 3) := by decide +kernel
theorem dX9_apart_7 : decode cX9_apart 7 = .ok (.ifCond .eq 12, 3) := by decide +kernel
theorem dX9_apart_10 : decode cX9_apart 10 = .ok (.iload_n 2, 1) := by decide +kernel
theorem dX9_apart_11 : decode cX9_apart 11 = .ok (.iconst 0, 1) := by decide +kernel
theorem dX9_apart_12 : decode cX9_apart 12 = .ok (.iload_n 1, 1) := by decide +kernel
theorem dX9_apart_13 : decode cX9_apart 13 = .ok (.invokestatic 54, 3) := by decide +kernel
theorem dX9_apart_16 : decode cX9_apart 16 = .ok (.ifCond .ne 6, 3) := by decide +kernel
theorem dX9_apart_19 : decode cX9_apart 19 = .ok (.bipush (-2), 2) := by decide +kernel
theorem dX9_apart_21 : decode cX9_apart 21 = .ok (.ireturn, 1) := by decide +kernel
theorem dX9_apart_22 : decode cX9_apart 22 = .ok (.aload_n 0, 1) := by decide +kernel
theorem dX9_apart_23 : decode cX9_apart 23 = .ok (.iload_n 1, 1) := by decide +kernel
theorem dX9_apart_24 : decode cX9_apart 24 = .ok (.invokevirtual 151, 3) := by decide +kernel
theorem dX9_apart_27 : decode cX9_apart 27 = .ok (.aload_n 0, 1) := by decide +kernel
theorem dX9_apart_28 : decode cX9_apart 28 = .ok (.getfield 38, 3) := by decide +kernel
theorem dX9_apart_31 : decode cX9_apart 31 = .ok (.bipush 41, 2) := by decide +kernel
theorem dX9_apart_33 : decode cX9_apart 33 = .ok (.iload_n 1, 1) := by decide +kernel
theorem dX9_apart_34 : decode cX9_apart 34 = .ok (.imul, 1) := by decide +kernel
theorem dX9_apart_35 : decode cX9_apart 35 = .ok (.iload_n 2, 1) := by decide +kernel
theorem dX9_apart_36 : decode cX9_apart 36 = .ok (.iadd, 1) := by decide +kernel
theorem dX9_apart_37 : decode cX9_apart 37 = .ok (.iaload, 1) := by decide +kernel
theorem dX9_apart_38 : decode cX9_apart 38 = .ok (.ireturn, 1) := by decide +kernel
theorem dX9_row_0 : decode cX9_row 0 = .ok (.iload_n 1, 1) := by decide +kernel
theorem dX9_row_1 : decode cX9_row 1 = .ok (.iconst 0, 1) := by decide +kernel
theorem dX9_row_2 : decode cX9_row 2 = .ok (.bipush 25, 2) := by decide +kernel
theorem dX9_row_4 : decode cX9_row 4 = .ok (.invokestatic 54, 3) := by decide +kernel
theorem dX9_row_7 : decode cX9_row 7 = .ok (.ifCond .eq 22, 3) := by decide +kernel
theorem dX9_row_10 : decode cX9_row 10 = .ok (.iload_n 2, 1) := by decide +kernel
theorem dX9_row_11 : decode cX9_row 11 = .ok (.iconst 0, 1) := by decide +kernel
theorem dX9_row_12 : decode cX9_row 12 = .ok (.iload_n 1, 1) := by decide +kernel
theorem dX9_row_13 : decode cX9_row 13 = .ok (.invokestatic 54, 3) := by decide +kernel
theorem dX9_row_16 : decode cX9_row 16 = .ok (.ifCond .eq 13, 3) := by decide +kernel
theorem dX9_row_19 : decode cX9_row 19 = .ok (.iload_n 3, 1) := by decide +kernel
theorem dX9_row_20 : decode cX9_row 20 = .ok (.iconst 0, 1) := by decide +kernel
theorem dX9_row_21 : decode cX9_row 21 = .ok (.ldc 155, 2) := by decide +kernel
theorem dX9_row_23 : decode cX9_row 23 = .ok (.invokestatic 54, 3) := by decide +kernel
theorem dX9_row_26 : decode cX9_row 26 = .ok (.ifCond .ne 6, 3) := by decide +kernel
theorem dX9_row_29 : decode cX9_row 29 = .ok (.bipush (-2), 2) := by decide +kernel
theorem dX9_row_31 : decode cX9_row 31 = .ok (.ireturn, 1) := by decide +kernel
theorem dX9_row_32 : decode cX9_row 32 = .ok (.aload_n 0, 1) := by decide +kernel
theorem dX9_row_33 : decode cX9_row 33 = .ok (.iload_n 1, 1) := by decide +kernel
theorem dX9_row_34 : decode cX9_row 34 = .ok (.invokevirtual 151, 3) := by decide +kernel
theorem dX9_row_37 : decode cX9_row 37 = .ok (.iload_n 3, 1) := by decide +kernel
theorem dX9_row_38 : decode cX9_row 38 = .ok (.aload_n 0, 1) := by decide +kernel
theorem dX9_row_39 : decode cX9_row 39 = .ok (.getfield 38, 3) := by decide +kernel
theorem dX9_row_42 : decode cX9_row 42 = .ok (.bipush 41, 2) := by decide +kernel
theorem dX9_row_44 : decode cX9_row 44 = .ok (.iload_n 1, 1) := by decide +kernel
theorem dX9_row_45 : decode cX9_row 45 = .ok (.imul, 1) := by decide +kernel
theorem dX9_row_46 : decode cX9_row 46 = .ok (.iload_n 2, 1) := by decide +kernel
theorem dX9_row_47 : decode cX9_row 47 = .ok (.iadd, 1) := by decide +kernel
theorem dX9_row_48 : decode cX9_row 48 = .ok (.iaload, 1) := by decide +kernel
theorem dX9_row_49 : decode cX9_row 49 = .ok (.if_icmp .lt 6, 3) := by decide +kernel
theorem dX9_row_52 : decode cX9_row 52 = .ok (.bipush (-6), 2) := by decide +kernel
theorem dX9_row_54 : decode cX9_row 54 = .ok (.ireturn, 1) := by decide +kernel
theorem dX9_row_55 : decode cX9_row 55 = .ok (.iconst 0, 1) := by decide +kernel
theorem dX9_row_56 : decode cX9_row 56 = .ok (.istore 4, 2) := by decide +kernel
theorem dX9_row_58 : decode cX9_row 58 = .ok (.iload_n 3, 1) := by decide +kernel
theorem dX9_row_59 : decode cX9_row 59 = .ok (.istore 5, 2) := by decide +kernel
theorem dX9_row_61 : decode cX9_row 61 = .ok (.iload_n 2, 1) := by decide +kernel
theorem dX9_row_62 : decode cX9_row 62 = .ok (.istore 6, 2) := by decide +kernel
theorem dX9_row_64 : decode cX9_row 64 = .ok (.iload_n 1, 1) := by decide +kernel
theorem dX9_row_65 : decode cX9_row 65 = .ok (.istore 7, 2) := by decide +kernel
theorem dX9_row_67 : decode cX9_row 67 = .ok (.iload 7, 2) := by decide +kernel
theorem dX9_row_69 : decode cX9_row 69 = .ok (.ifCond .le 57, 3) := by decide +kernel
theorem dX9_row_72 : decode cX9_row 72 = .ok (.aload_n 0, 1) := by decide +kernel
theorem dX9_row_73 : decode cX9_row 73 = .ok (.getfield 38, 3) := by decide +kernel
theorem dX9_row_76 : decode cX9_row 76 = .ok (.bipush 41, 2) := by decide +kernel
theorem dX9_row_78 : decode cX9_row 78 = .ok (.iload 7, 2) := by decide +kernel
theorem dX9_row_80 : decode cX9_row 80 = .ok (.iconst 1, 1) := by decide +kernel
theorem dX9_row_81 : decode cX9_row 81 = .ok (.isub, 1) := by decide +kernel
theorem dX9_row_82 : decode cX9_row 82 = .ok (.imul, 1) := by decide +kernel
theorem dX9_row_83 : decode cX9_row 83 = .ok (.iload 6, 2) := by decide +kernel
theorem dX9_row_85 : decode cX9_row 85 = .ok (.iadd, 1) := by decide +kernel
theorem dX9_row_86 : decode cX9_row 86 = .ok (.iaload, 1) := by decide +kernel
theorem dX9_row_87 : decode cX9_row 87 = .ok (.istore 8, 2) := by decide +kernel
theorem dX9_row_89 : decode cX9_row 89 = .ok (.iload 5, 2) := by decide +kernel
theorem dX9_row_91 : decode cX9_row 91 = .ok (.iload 8, 2) := by decide +kernel
theorem dX9_row_93 : decode cX9_row 93 = .ok (.if_icmp .lt 27, 3) := by decide +kernel
theorem dX9_row_96 : decode cX9_row 96 = .ok (.iload 5, 2) := by decide +kernel
theorem dX9_row_98 : decode cX9_row 98 = .ok (.iload 8, 2) := by decide +kernel
theorem dX9_row_100 : decode cX9_row 100 = .ok (.isub, 1) := by decide +kernel
theorem dX9_row_101 : decode cX9_row 101 = .ok (.istore 5, 2) := by decide +kernel
theorem dX9_row_103 : decode cX9_row 103 = .ok (.iinc 6 (-1), 3) := by decide +kernel
theorem dX9_row_106 : decode cX9_row 106 = .ok (.iload 4, 2) := by decide +kernel
theorem dX9_row_108 : decode cX9_row 108 = .ok (.iconst 1, 1) := by decide +kernel
theorem dX9_row_109 : decode cX9_row 109 = .ok (.iload 7, 2) := by decide +kernel
theorem dX9_row_111 : decode cX9_row 111 = .ok (.iconst 1, 1) := by decide +kernel
theorem dX9_row_112 : decode cX9_row 112 = .ok (.isub, 1) := by decide +kernel
theorem dX9_row_113 : decode cX9_row 113 = .ok (.ishl, 1) := by decide +kernel
theorem dX9_row_114 : decode cX9_row 114 = .ok (.ior, 1) := by decide +kernel
theorem dX9_row_115 : decode cX9_row 115 = .ok (.istore 4, 2) := by decide +kernel
theorem dX9_row_117 : decode cX9_row 117 = .ok (.iinc 7 (-1), 3) := by decide +kernel
theorem dX9_row_120 : decode cX9_row 120 = .ok (.iinc 7 (-1), 3) := by decide +kernel
theorem dX9_row_123 : decode cX9_row 123 = .ok (.goto (-56), 3) := by decide +kernel
theorem dX9_row_126 : decode cX9_row 126 = .ok (.iload 4, 2) := by decide +kernel
theorem dX9_row_128 : decode cX9_row 128 = .ok (.ireturn, 1) := by decide +kernel
theorem dX9_seen_0 : decode cX9_seen 0 = .ok (.iload_n 1, 1) := by decide +kernel
theorem dX9_seen_1 : decode cX9_seen 1 = .ok (.iconst 0, 1) := by decide +kernel
theorem dX9_seen_2 : decode cX9_seen 2 = .ok (.iconst 3, 1) := by decide +kernel
theorem dX9_seen_3 : decode cX9_seen 3 = .ok (.invokestatic 54, 3) := by decide +kernel
theorem dX9_seen_6 : decode cX9_seen 6 = .ok (.ifCond .eq 13, 3) := by decide +kernel
theorem dX9_seen_9 : decode cX9_seen 9 = .ok (.iload_n 3, 1) := by decide +kernel
theorem dX9_seen_10 : decode cX9_seen 10 = .ok (.iconst 0, 1) := by decide +kernel
theorem dX9_seen_11 : decode cX9_seen 11 = .ok (.bipush 99, 2) := by decide +kernel
theorem dX9_seen_13 : decode cX9_seen 13 = .ok (.invokestatic 54, 3) := by decide +kernel
theorem dX9_seen_16 : decode cX9_seen 16 = .ok (.ifCond .ne 6, 3) := by decide +kernel
theorem dX9_seen_19 : decode cX9_seen 19 = .ok (.bipush (-2), 2) := by decide +kernel
theorem dX9_seen_21 : decode cX9_seen 21 = .ok (.ireturn, 1) := by decide +kernel
theorem dX9_seen_22 : decode cX9_seen 22 = .ok (.aload_n 0, 1) := by decide +kernel
theorem dX9_seen_23 : decode cX9_seen 23 = .ok (.getfield 156, 3) := by decide +kernel
theorem dX9_seen_26 : decode cX9_seen 26 = .ok (.bipush 8, 2) := by decide +kernel
theorem dX9_seen_28 : decode cX9_seen 28 = .ok (.if_icmp .ne 6, 3) := by decide +kernel
theorem dX9_seen_31 : decode cX9_seen 31 = .ok (.bipush (-4), 2) := by decide +kernel
theorem dX9_seen_33 : decode cX9_seen 33 = .ok (.ireturn, 1) := by decide +kernel
theorem dX9_seen_34 : decode cX9_seen 34 = .ok (.aload_n 0, 1) := by decide +kernel
theorem dX9_seen_35 : decode cX9_seen 35 = .ok (.getfield 29, 3) := by decide +kernel
theorem dX9_seen_38 : decode cX9_seen 38 = .ok (.iconst 3, 1) := by decide +kernel
theorem dX9_seen_39 : decode cX9_seen 39 = .ok (.aload_n 0, 1) := by decide +kernel
theorem dX9_seen_40 : decode cX9_seen 40 = .ok (.getfield 156, 3) := by decide +kernel
theorem dX9_seen_43 : decode cX9_seen 43 = .ok (.imul, 1) := by decide +kernel
theorem dX9_seen_44 : decode cX9_seen 44 = .ok (.iload_n 1, 1) := by decide +kernel
theorem dX9_seen_45 : decode cX9_seen 45 = .ok (.iastore, 1) := by decide +kernel
theorem dX9_seen_46 : decode cX9_seen 46 = .ok (.aload_n 0, 1) := by decide +kernel
theorem dX9_seen_47 : decode cX9_seen 47 = .ok (.getfield 29, 3) := by decide +kernel
theorem dX9_seen_50 : decode cX9_seen 50 = .ok (.iconst 3, 1) := by decide +kernel
theorem dX9_seen_51 : decode cX9_seen 51 = .ok (.aload_n 0, 1) := by decide +kernel
theorem dX9_seen_52 : decode cX9_seen 52 = .ok (.getfield 156, 3) := by decide +kernel
theorem dX9_seen_55 : decode cX9_seen 55 = .ok (.imul, 1) := by decide +kernel
theorem dX9_seen_56 : decode cX9_seen 56 = .ok (.iconst 1, 1) := by decide +kernel
theorem dX9_seen_57 : decode cX9_seen 57 = .ok (.iadd, 1) := by decide +kernel
theorem dX9_seen_58 : decode cX9_seen 58 = .ok (.iload_n 2, 1) := by decide +kernel
theorem dX9_seen_59 : decode cX9_seen 59 = .ok (.ifCond .eq 7, 3) := by decide +kernel
theorem dX9_seen_62 : decode cX9_seen 62 = .ok (.iconst 1, 1) := by decide +kernel
theorem dX9_seen_63 : decode cX9_seen 63 = .ok (.goto 4, 3) := by decide +kernel
theorem dX9_seen_66 : decode cX9_seen 66 = .ok (.iconst 0, 1) := by decide +kernel
theorem dX9_seen_67 : decode cX9_seen 67 = .ok (.iastore, 1) := by decide +kernel
theorem dX9_seen_68 : decode cX9_seen 68 = .ok (.aload_n 0, 1) := by decide +kernel
theorem dX9_seen_69 : decode cX9_seen 69 = .ok (.getfield 29, 3) := by decide +kernel
theorem dX9_seen_72 : decode cX9_seen 72 = .ok (.iconst 3, 1) := by decide +kernel
theorem dX9_seen_73 : decode cX9_seen 73 = .ok (.aload_n 0, 1) := by decide +kernel
theorem dX9_seen_74 : decode cX9_seen 74 = .ok (.getfield 156, 3) := by decide +kernel
theorem dX9_seen_77 : decode cX9_seen 77 = .ok (.imul, 1) := by decide +kernel
theorem dX9_seen_78 : decode cX9_seen 78 = .ok (.iconst 2, 1) := by decide +kernel
theorem dX9_seen_79 : decode cX9_seen 79 = .ok (.iadd, 1) := by decide +kernel
theorem dX9_seen_80 : decode cX9_seen 80 = .ok (.iload_n 3, 1) := by decide +kernel
theorem dX9_seen_81 : decode cX9_seen 81 = .ok (.iastore, 1) := by decide +kernel
theorem dX9_seen_82 : decode cX9_seen 82 = .ok (.aload_n 0, 1) := by decide +kernel
theorem dX9_seen_83 : decode cX9_seen 83 = .ok (.dup, 1) := by decide +kernel
theorem dX9_seen_84 : decode cX9_seen 84 = .ok (.getfield 156, 3) := by decide +kernel
theorem dX9_seen_87 : decode cX9_seen 87 = .ok (.iconst 1, 1) := by decide +kernel
theorem dX9_seen_88 : decode cX9_seen 88 = .ok (.iadd, 1) := by decide +kernel
theorem dX9_seen_89 : decode cX9_seen 89 = .ok (.putfield 156, 3) := by decide +kernel
theorem dX9_seen_92 : decode cX9_seen 92 = .ok (.aload_n 0, 1) := by decide +kernel
theorem dX9_seen_93 : decode cX9_seen 93 = .ok (.getfield 156, 3) := by decide +kernel
theorem dX9_seen_96 : decode cX9_seen 96 = .ok (.ireturn, 1) := by decide +kernel
theorem dX9_forget_0 : decode cX9_forget 0 = .ok (.aload_n 0, 1) := by decide +kernel
theorem dX9_forget_1 : decode cX9_forget 1 = .ok (.getfield 156, 3) := by decide +kernel
theorem dX9_forget_4 : decode cX9_forget 4 = .ok (.istore_n 1, 1) := by decide +kernel
theorem dX9_forget_5 : decode cX9_forget 5 = .ok (.aload_n 0, 1) := by decide +kernel
theorem dX9_forget_6 : decode cX9_forget 6 = .ok (.iconst 0, 1) := by decide +kernel
theorem dX9_forget_7 : decode cX9_forget 7 = .ok (.putfield 156, 3) := by decide +kernel
theorem dX9_forget_10 : decode cX9_forget 10 = .ok (.iload_n 1, 1) := by decide +kernel
theorem dX9_forget_11 : decode cX9_forget 11 = .ok (.ireturn, 1) := by decide +kernel
theorem dX9_lossOf_0 : decode cX9_lossOf 0 = .ok (.iload_n 0, 1) := by decide +kernel
theorem dX9_lossOf_1 : decode cX9_lossOf 1 = .ok (.bipush 10, 2) := by decide +kernel
theorem dX9_lossOf_3 : decode cX9_lossOf 3 = .ok (.idiv, 1) := by decide +kernel
theorem dX9_lossOf_4 : decode cX9_lossOf 4 = .ok (.iconst 4, 1) := by decide +kernel
theorem dX9_lossOf_5 : decode cX9_lossOf 5 = .ok (.iload_n 1, 1) := by decide +kernel
theorem dX9_lossOf_6 : decode cX9_lossOf 6 = .ok (.isub, 1) := by decide +kernel
theorem dX9_lossOf_7 : decode cX9_lossOf 7 = .ok (.imul, 1) := by decide +kernel
theorem dX9_lossOf_8 : decode cX9_lossOf 8 = .ok (.iload_n 0, 1) := by decide +kernel
theorem dX9_lossOf_9 : decode cX9_lossOf 9 = .ok (.bipush 10, 2) := by decide +kernel
theorem dX9_lossOf_11 : decode cX9_lossOf 11 = .ok (.irem, 1) := by decide +kernel
theorem dX9_lossOf_12 : decode cX9_lossOf 12 = .ok (.iload_n 2, 1) := by decide +kernel
theorem dX9_lossOf_13 : decode cX9_lossOf 13 = .ok (.imul, 1) := by decide +kernel
theorem dX9_lossOf_14 : decode cX9_lossOf 14 = .ok (.iadd, 1) := by decide +kernel
theorem dX9_lossOf_15 : decode cX9_lossOf 15 = .ok (.ireturn, 1) := by decide +kernel
theorem dX9_isFit_0 : decode cX9_isFit 0 = .ok (.iconst 1, 1) := by decide +kernel
theorem dX9_isFit_1 : decode cX9_isFit 1 = .ok (.istore_n 2, 1) := by decide +kernel
theorem dX9_isFit_2 : decode cX9_isFit 2 = .ok (.iconst 0, 1) := by decide +kernel
theorem dX9_isFit_3 : decode cX9_isFit 3 = .ok (.istore_n 3, 1) := by decide +kernel
theorem dX9_isFit_4 : decode cX9_isFit 4 = .ok (.iload_n 3, 1) := by decide +kernel
theorem dX9_isFit_5 : decode cX9_isFit 5 = .ok (.aload_n 0, 1) := by decide +kernel
theorem dX9_isFit_6 : decode cX9_isFit 6 = .ok (.getfield 156, 3) := by decide +kernel
theorem dX9_isFit_9 : decode cX9_isFit 9 = .ok (.if_icmp .ge 54, 3) := by decide +kernel
theorem dX9_isFit_12 : decode cX9_isFit 12 = .ok (.iload_n 2, 1) := by decide +kernel
theorem dX9_isFit_13 : decode cX9_isFit 13 = .ok (.ifCond .eq 50, 3) := by decide +kernel
theorem dX9_isFit_16 : decode cX9_isFit 16 = .ok (.iload_n 1, 1) := by decide +kernel
theorem dX9_isFit_17 : decode cX9_isFit 17 = .ok (.aload_n 0, 1) := by decide +kernel
theorem dX9_isFit_18 : decode cX9_isFit 18 = .ok (.getfield 29, 3) := by decide +kernel
theorem dX9_isFit_21 : decode cX9_isFit 21 = .ok (.iconst 3, 1) := by decide +kernel
theorem dX9_isFit_22 : decode cX9_isFit 22 = .ok (.iload_n 3, 1) := by decide +kernel
theorem dX9_isFit_23 : decode cX9_isFit 23 = .ok (.imul, 1) := by decide +kernel
theorem dX9_isFit_24 : decode cX9_isFit 24 = .ok (.iaload, 1) := by decide +kernel
theorem dX9_isFit_25 : decode cX9_isFit 25 = .ok (.aload_n 0, 1) := by decide +kernel
theorem dX9_isFit_26 : decode cX9_isFit 26 = .ok (.getfield 29, 3) := by decide +kernel
theorem dX9_isFit_29 : decode cX9_isFit 29 = .ok (.iconst 3, 1) := by decide +kernel
theorem dX9_isFit_30 : decode cX9_isFit 30 = .ok (.iload_n 3, 1) := by decide +kernel
theorem dX9_isFit_31 : decode cX9_isFit 31 = .ok (.imul, 1) := by decide +kernel
theorem dX9_isFit_32 : decode cX9_isFit 32 = .ok (.iconst 1, 1) := by decide +kernel
theorem dX9_isFit_33 : decode cX9_isFit 33 = .ok (.iadd, 1) := by decide +kernel
theorem dX9_isFit_34 : decode cX9_isFit 34 = .ok (.iaload, 1) := by decide +kernel
theorem dX9_isFit_35 : decode cX9_isFit 35 = .ok (.invokestatic 159, 3) := by decide +kernel
theorem dX9_isFit_38 : decode cX9_isFit 38 = .ok (.aload_n 0, 1) := by decide +kernel
theorem dX9_isFit_39 : decode cX9_isFit 39 = .ok (.getfield 29, 3) := by decide +kernel
theorem dX9_isFit_42 : decode cX9_isFit 42 = .ok (.iconst 3, 1) := by decide +kernel
theorem dX9_isFit_43 : decode cX9_isFit 43 = .ok (.iload_n 3, 1) := by decide +kernel
theorem dX9_isFit_44 : decode cX9_isFit 44 = .ok (.imul, 1) := by decide +kernel
theorem dX9_isFit_45 : decode cX9_isFit 45 = .ok (.iconst 2, 1) := by decide +kernel
theorem dX9_isFit_46 : decode cX9_isFit 46 = .ok (.iadd, 1) := by decide +kernel
theorem dX9_isFit_47 : decode cX9_isFit 47 = .ok (.iaload, 1) := by decide +kernel
theorem dX9_isFit_48 : decode cX9_isFit 48 = .ok (.if_icmp .ne 7, 3) := by decide +kernel
theorem dX9_isFit_51 : decode cX9_isFit 51 = .ok (.iconst 1, 1) := by decide +kernel
theorem dX9_isFit_52 : decode cX9_isFit 52 = .ok (.goto 4, 3) := by decide +kernel
theorem dX9_isFit_55 : decode cX9_isFit 55 = .ok (.iconst 0, 1) := by decide +kernel
theorem dX9_isFit_56 : decode cX9_isFit 56 = .ok (.istore_n 2, 1) := by decide +kernel
theorem dX9_isFit_57 : decode cX9_isFit 57 = .ok (.iinc 3 1, 3) := by decide +kernel
theorem dX9_isFit_60 : decode cX9_isFit 60 = .ok (.goto (-56), 3) := by decide +kernel
theorem dX9_isFit_63 : decode cX9_isFit 63 = .ok (.iload_n 2, 1) := by decide +kernel
theorem dX9_isFit_64 : decode cX9_isFit 64 = .ok (.ireturn, 1) := by decide +kernel
theorem dX9_so_0 : decode cX9_so 0 = .ok (.iconst 0, 1) := by decide +kernel
theorem dX9_so_1 : decode cX9_so 1 = .ok (.istore_n 2, 1) := by decide +kernel
theorem dX9_so_2 : decode cX9_so 2 = .ok (.iconst 0, 1) := by decide +kernel
theorem dX9_so_3 : decode cX9_so 3 = .ok (.istore_n 3, 1) := by decide +kernel
theorem dX9_so_4 : decode cX9_so 4 = .ok (.iload_n 3, 1) := by decide +kernel
theorem dX9_so_5 : decode cX9_so 5 = .ok (.bipush 100, 2) := by decide +kernel
theorem dX9_so_7 : decode cX9_so 7 = .ok (.if_icmp .ge 27, 3) := by decide +kernel
theorem dX9_so_10 : decode cX9_so 10 = .ok (.aload_n 0, 1) := by decide +kernel
theorem dX9_so_11 : decode cX9_so 11 = .ok (.iload_n 3, 1) := by decide +kernel
theorem dX9_so_12 : decode cX9_so 12 = .ok (.invokevirtual 162, 3) := by decide +kernel
theorem dX9_so_15 : decode cX9_so 15 = .ok (.ifCond .eq 13, 3) := by decide +kernel
theorem dX9_so_18 : decode cX9_so 18 = .ok (.iload_n 2, 1) := by decide +kernel
theorem dX9_so_19 : decode cX9_so 19 = .ok (.iload_n 1, 1) := by decide +kernel
theorem dX9_so_20 : decode cX9_so 20 = .ok (.if_icmp .ne 5, 3) := by decide +kernel
theorem dX9_so_23 : decode cX9_so 23 = .ok (.iload_n 3, 1) := by decide +kernel
theorem dX9_so_24 : decode cX9_so 24 = .ok (.ireturn, 1) := by decide +kernel
theorem dX9_so_25 : decode cX9_so 25 = .ok (.iinc 2 1, 3) := by decide +kernel
theorem dX9_so_28 : decode cX9_so 28 = .ok (.iinc 3 1, 3) := by decide +kernel
theorem dX9_so_31 : decode cX9_so 31 = .ok (.goto (-27), 3) := by decide +kernel
theorem dX9_so_34 : decode cX9_so 34 = .ok (.iload_n 1, 1) := by decide +kernel
theorem dX9_so_35 : decode cX9_so 35 = .ok (.iconst (-1), 1) := by decide +kernel
theorem dX9_so_36 : decode cX9_so 36 = .ok (.if_icmp .ne 7, 3) := by decide +kernel
theorem dX9_so_39 : decode cX9_so 39 = .ok (.iload_n 2, 1) := by decide +kernel
theorem dX9_so_40 : decode cX9_so 40 = .ok (.goto 5, 3) := by decide +kernel
theorem dX9_so_43 : decode cX9_so 43 = .ok (.bipush (-6), 2) := by decide +kernel
theorem dX9_so_45 : decode cX9_so 45 = .ok (.ireturn, 1) := by decide +kernel
theorem dX9_ask_0 : decode cX9_ask 0 = .ok (.iload_n 1, 1) := by decide +kernel
theorem dX9_ask_1 : decode cX9_ask 1 = .ok (.iconst 0, 1) := by decide +kernel
theorem dX9_ask_2 : decode cX9_ask 2 = .ok (.iconst 1, 1) := by decide +kernel
theorem dX9_ask_3 : decode cX9_ask 3 = .ok (.invokestatic 54, 3) := by decide +kernel
theorem dX9_ask_6 : decode cX9_ask 6 = .ok (.ifCond .ne 6, 3) := by decide +kernel
theorem dX9_ask_9 : decode cX9_ask 9 = .ok (.bipush (-2), 2) := by decide +kernel
theorem dX9_ask_11 : decode cX9_ask 11 = .ok (.ireturn, 1) := by decide +kernel
theorem dX9_ask_12 : decode cX9_ask 12 = .ok (.bipush (-6), 2) := by decide +kernel
theorem dX9_ask_14 : decode cX9_ask 14 = .ok (.istore_n 2, 1) := by decide +kernel
theorem dX9_ask_15 : decode cX9_ask 15 = .ok (.ldc 142, 2) := by decide +kernel
theorem dX9_ask_17 : decode cX9_ask 17 = .ok (.istore_n 3, 1) := by decide +kernel
theorem dX9_ask_18 : decode cX9_ask 18 = .ok (.iconst 0, 1) := by decide +kernel
theorem dX9_ask_19 : decode cX9_ask 19 = .ok (.istore 4, 2) := by decide +kernel
theorem dX9_ask_21 : decode cX9_ask 21 = .ok (.iload 4, 2) := by decide +kernel
theorem dX9_ask_23 : decode cX9_ask 23 = .ok (.iconst 4, 1) := by decide +kernel
theorem dX9_ask_24 : decode cX9_ask 24 = .ok (.if_icmp .ge 172, 3) := by decide +kernel
theorem dX9_ask_27 : decode cX9_ask 27 = .ok (.iconst 0, 1) := by decide +kernel
theorem dX9_ask_28 : decode cX9_ask 28 = .ok (.istore 5, 2) := by decide +kernel
theorem dX9_ask_30 : decode cX9_ask 30 = .ok (.iload 5, 2) := by decide +kernel
theorem dX9_ask_32 : decode cX9_ask 32 = .ok (.iconst 2, 1) := by decide +kernel
theorem dX9_ask_33 : decode cX9_ask 33 = .ok (.if_icmp .ge 157, 3) := by decide +kernel
theorem dX9_ask_36 : decode cX9_ask 36 = .ok (.iconst 0, 1) := by decide +kernel
theorem dX9_ask_37 : decode cX9_ask 37 = .ok (.istore 6, 2) := by decide +kernel
theorem dX9_ask_39 : decode cX9_ask 39 = .ok (.iconst 0, 1) := by decide +kernel
theorem dX9_ask_40 : decode cX9_ask 40 = .ok (.istore 7, 2) := by decide +kernel
theorem dX9_ask_42 : decode cX9_ask 42 = .ok (.iload 7, 2) := by decide +kernel
theorem dX9_ask_44 : decode cX9_ask 44 = .ok (.bipush 100, 2) := by decide +kernel
theorem dX9_ask_46 : decode cX9_ask 46 = .ok (.if_icmp .ge 17, 3) := by decide +kernel
theorem dX9_ask_49 : decode cX9_ask 49 = .ok (.aload_n 0, 1) := by decide +kernel
theorem dX9_ask_50 : decode cX9_ask 50 = .ok (.getfield 41, 3) := by decide +kernel
theorem dX9_ask_53 : decode cX9_ask 53 = .ok (.iload 7, 2) := by decide +kernel
theorem dX9_ask_55 : decode cX9_ask 55 = .ok (.iconst 0, 1) := by decide +kernel
theorem dX9_ask_56 : decode cX9_ask 56 = .ok (.iastore, 1) := by decide +kernel
theorem dX9_ask_57 : decode cX9_ask 57 = .ok (.iinc 7 1, 3) := by decide +kernel
theorem dX9_ask_60 : decode cX9_ask 60 = .ok (.goto (-18), 3) := by decide +kernel
theorem dX9_ask_63 : decode cX9_ask 63 = .ok (.iconst 0, 1) := by decide +kernel
theorem dX9_ask_64 : decode cX9_ask 64 = .ok (.istore 7, 2) := by decide +kernel
theorem dX9_ask_66 : decode cX9_ask 66 = .ok (.iload 7, 2) := by decide +kernel
theorem dX9_ask_68 : decode cX9_ask 68 = .ok (.bipush 100, 2) := by decide +kernel
theorem dX9_ask_70 : decode cX9_ask 70 = .ok (.if_icmp .ge 66, 3) := by decide +kernel
theorem dX9_ask_73 : decode cX9_ask 73 = .ok (.aload_n 0, 1) := by decide +kernel
theorem dX9_ask_74 : decode cX9_ask 74 = .ok (.iload 7, 2) := by decide +kernel
theorem dX9_ask_76 : decode cX9_ask 76 = .ok (.invokevirtual 162, 3) := by decide +kernel
theorem dX9_ask_79 : decode cX9_ask 79 = .ok (.ifCond .eq 51, 3) := by decide +kernel
theorem dX9_ask_82 : decode cX9_ask 82 = .ok (.iload 7, 2) := by decide +kernel
theorem dX9_ask_84 : decode cX9_ask 84 = .ok (.iload 4, 2) := by decide +kernel
theorem dX9_ask_86 : decode cX9_ask 86 = .ok (.iload 5, 2) := by decide +kernel
theorem dX9_ask_88 : decode cX9_ask 88 = .ok (.invokestatic 159, 3) := by decide +kernel
theorem dX9_ask_91 : decode cX9_ask 91 = .ok (.istore 8, 2) := by decide +kernel
theorem dX9_ask_93 : decode cX9_ask 93 = .ok (.aload_n 0, 1) := by decide +kernel
theorem dX9_ask_94 : decode cX9_ask 94 = .ok (.getfield 41, 3) := by decide +kernel
theorem dX9_ask_97 : decode cX9_ask 97 = .ok (.iload 8, 2) := by decide +kernel
theorem dX9_ask_99 : decode cX9_ask 99 = .ok (.dup2, 1) := by decide +kernel
theorem dX9_ask_100 : decode cX9_ask 100 = .ok (.iaload, 1) := by decide +kernel
theorem dX9_ask_101 : decode cX9_ask 101 = .ok (.iconst 1, 1) := by decide +kernel
theorem dX9_ask_102 : decode cX9_ask 102 = .ok (.iadd, 1) := by decide +kernel
theorem dX9_ask_103 : decode cX9_ask 103 = .ok (.iastore, 1) := by decide +kernel
theorem dX9_ask_104 : decode cX9_ask 104 = .ok (.aload_n 0, 1) := by decide +kernel
theorem dX9_ask_105 : decode cX9_ask 105 = .ok (.getfield 41, 3) := by decide +kernel
theorem dX9_ask_108 : decode cX9_ask 108 = .ok (.iload 8, 2) := by decide +kernel
theorem dX9_ask_110 : decode cX9_ask 110 = .ok (.iaload, 1) := by decide +kernel
theorem dX9_ask_111 : decode cX9_ask 111 = .ok (.iload 6, 2) := by decide +kernel
theorem dX9_ask_113 : decode cX9_ask 113 = .ok (.if_icmp .le 13, 3) := by decide +kernel
theorem dX9_ask_116 : decode cX9_ask 116 = .ok (.aload_n 0, 1) := by decide +kernel
theorem dX9_ask_117 : decode cX9_ask 117 = .ok (.getfield 41, 3) := by decide +kernel
theorem dX9_ask_120 : decode cX9_ask 120 = .ok (.iload 8, 2) := by decide +kernel
theorem dX9_ask_122 : decode cX9_ask 122 = .ok (.iaload, 1) := by decide +kernel
theorem dX9_ask_123 : decode cX9_ask 123 = .ok (.goto 5, 3) := by decide +kernel
theorem dX9_ask_126 : decode cX9_ask 126 = .ok (.iload 6, 2) := by decide +kernel
theorem dX9_ask_128 : decode cX9_ask 128 = .ok (.istore 6, 2) := by decide +kernel
theorem dX9_ask_130 : decode cX9_ask 130 = .ok (.iinc 7 1, 3) := by decide +kernel
theorem dX9_ask_133 : decode cX9_ask 133 = .ok (.goto (-67), 3) := by decide +kernel
theorem dX9_ask_136 : decode cX9_ask 136 = .ok (.iload 6, 2) := by decide +kernel
theorem dX9_ask_138 : decode cX9_ask 138 = .ok (.ifCond .le 13, 3) := by decide +kernel
theorem dX9_ask_141 : decode cX9_ask 141 = .ok (.iload 6, 2) := by decide +kernel
theorem dX9_ask_143 : decode cX9_ask 143 = .ok (.iload_n 3, 1) := by decide +kernel
theorem dX9_ask_144 : decode cX9_ask 144 = .ok (.if_icmp .ge 7, 3) := by decide +kernel
theorem dX9_ask_147 : decode cX9_ask 147 = .ok (.iconst 1, 1) := by decide +kernel
theorem dX9_ask_148 : decode cX9_ask 148 = .ok (.goto 4, 3) := by decide +kernel
theorem dX9_ask_151 : decode cX9_ask 151 = .ok (.iconst 0, 1) := by decide +kernel
theorem dX9_ask_152 : decode cX9_ask 152 = .ok (.istore 7, 2) := by decide +kernel
theorem dX9_ask_154 : decode cX9_ask 154 = .ok (.iload 7, 2) := by decide +kernel
theorem dX9_ask_156 : decode cX9_ask 156 = .ok (.ifCond .eq 14, 3) := by decide +kernel
theorem dX9_ask_159 : decode cX9_ask 159 = .ok (.bipush 10, 2) := by decide +kernel
theorem dX9_ask_161 : decode cX9_ask 161 = .ok (.iload 4, 2) := by decide +kernel
theorem dX9_ask_163 : decode cX9_ask 163 = .ok (.imul, 1) := by decide +kernel
theorem dX9_ask_164 : decode cX9_ask 164 = .ok (.iload 5, 2) := by decide +kernel
theorem dX9_ask_166 : decode cX9_ask 166 = .ok (.iadd, 1) := by decide +kernel
theorem dX9_ask_167 : decode cX9_ask 167 = .ok (.goto 4, 3) := by decide +kernel
theorem dX9_ask_170 : decode cX9_ask 170 = .ok (.iload_n 2, 1) := by decide +kernel
theorem dX9_ask_171 : decode cX9_ask 171 = .ok (.istore_n 2, 1) := by decide +kernel
theorem dX9_ask_172 : decode cX9_ask 172 = .ok (.iload 7, 2) := by decide +kernel
theorem dX9_ask_174 : decode cX9_ask 174 = .ok (.ifCond .eq 8, 3) := by decide +kernel
theorem dX9_ask_177 : decode cX9_ask 177 = .ok (.iload 6, 2) := by decide +kernel
theorem dX9_ask_179 : decode cX9_ask 179 = .ok (.goto 4, 3) := by decide +kernel
theorem dX9_ask_182 : decode cX9_ask 182 = .ok (.iload_n 3, 1) := by decide +kernel
theorem dX9_ask_183 : decode cX9_ask 183 = .ok (.istore_n 3, 1) := by decide +kernel
theorem dX9_ask_184 : decode cX9_ask 184 = .ok (.iinc 5 1, 3) := by decide +kernel
theorem dX9_ask_187 : decode cX9_ask 187 = .ok (.goto (-157), 3) := by decide +kernel
theorem dX9_ask_190 : decode cX9_ask 190 = .ok (.iinc 4 1, 3) := by decide +kernel
theorem dX9_ask_193 : decode cX9_ask 193 = .ok (.goto (-172), 3) := by decide +kernel
theorem dX9_ask_196 : decode cX9_ask 196 = .ok (.iload_n 2, 1) := by decide +kernel
theorem dX9_ask_197 : decode cX9_ask 197 = .ok (.ifCond .lt 7, 3) := by decide +kernel
theorem dX9_ask_200 : decode cX9_ask 200 = .ok (.iload_n 1, 1) := by decide +kernel
theorem dX9_ask_201 : decode cX9_ask 201 = .ok (.ifCond .ne 7, 3) := by decide +kernel
theorem dX9_ask_204 : decode cX9_ask 204 = .ok (.iload_n 2, 1) := by decide +kernel
theorem dX9_ask_205 : decode cX9_ask 205 = .ok (.goto 4, 3) := by decide +kernel
theorem dX9_ask_208 : decode cX9_ask 208 = .ok (.iload_n 3, 1) := by decide +kernel
theorem dX9_ask_209 : decode cX9_ask 209 = .ok (.ireturn, 1) := by decide +kernel
theorem dX9_jugs_0 : decode cX9_jugs 0 = .ok (.iload_n 1, 1) := by decide +kernel
theorem dX9_jugs_1 : decode cX9_jugs 1 = .ok (.iconst 0, 1) := by decide +kernel
theorem dX9_jugs_2 : decode cX9_jugs 2 = .ok (.bipush 99, 2) := by decide +kernel
theorem dX9_jugs_4 : decode cX9_jugs 4 = .ok (.invokestatic 54, 3) := by decide +kernel
theorem dX9_jugs_7 : decode cX9_jugs 7 = .ok (.ifCond .eq 22, 3) := by decide +kernel
theorem dX9_jugs_10 : decode cX9_jugs 10 = .ok (.iload_n 2, 1) := by decide +kernel
theorem dX9_jugs_11 : decode cX9_jugs 11 = .ok (.iconst 0, 1) := by decide +kernel
theorem dX9_jugs_12 : decode cX9_jugs 12 = .ok (.bipush 99, 2) := by decide +kernel
theorem dX9_jugs_14 : decode cX9_jugs 14 = .ok (.invokestatic 54, 3) := by decide +kernel
theorem dX9_jugs_17 : decode cX9_jugs 17 = .ok (.ifCond .eq 12, 3) := by decide +kernel
theorem dX9_jugs_20 : decode cX9_jugs 20 = .ok (.iload_n 3, 1) := by decide +kernel
theorem dX9_jugs_21 : decode cX9_jugs 21 = .ok (.iconst 0, 1) := by decide +kernel
theorem dX9_jugs_22 : decode cX9_jugs 22 = .ok (.iconst 1, 1) := by decide +kernel
theorem dX9_jugs_23 : decode cX9_jugs 23 = .ok (.invokestatic 54, 3) := by decide +kernel
theorem dX9_jugs_26 : decode cX9_jugs 26 = .ok (.ifCond .ne 6, 3) := by decide +kernel
theorem dX9_jugs_29 : decode cX9_jugs 29 = .ok (.bipush (-2), 2) := by decide +kernel
theorem dX9_jugs_31 : decode cX9_jugs 31 = .ok (.ireturn, 1) := by decide +kernel
theorem dX9_jugs_32 : decode cX9_jugs 32 = .ok (.iload_n 1, 1) := by decide +kernel
theorem dX9_jugs_33 : decode cX9_jugs 33 = .ok (.iload_n 2, 1) := by decide +kernel
theorem dX9_jugs_34 : decode cX9_jugs 34 = .ok (.if_icmp .le 7, 3) := by decide +kernel
theorem dX9_jugs_37 : decode cX9_jugs 37 = .ok (.iload_n 1, 1) := by decide +kernel
theorem dX9_jugs_38 : decode cX9_jugs 38 = .ok (.goto 4, 3) := by decide +kernel
theorem dX9_jugs_41 : decode cX9_jugs 41 = .ok (.iload_n 2, 1) := by decide +kernel
theorem dX9_jugs_42 : decode cX9_jugs 42 = .ok (.istore 4, 2) := by decide +kernel
theorem dX9_jugs_44 : decode cX9_jugs 44 = .ok (.iload_n 1, 1) := by decide +kernel
theorem dX9_jugs_45 : decode cX9_jugs 45 = .ok (.iload_n 2, 1) := by decide +kernel
theorem dX9_jugs_46 : decode cX9_jugs 46 = .ok (.if_icmp .le 7, 3) := by decide +kernel
theorem dX9_jugs_49 : decode cX9_jugs 49 = .ok (.iload_n 2, 1) := by decide +kernel
theorem dX9_jugs_50 : decode cX9_jugs 50 = .ok (.goto 4, 3) := by decide +kernel
theorem dX9_jugs_53 : decode cX9_jugs 53 = .ok (.iload_n 1, 1) := by decide +kernel
theorem dX9_jugs_54 : decode cX9_jugs 54 = .ok (.istore 5, 2) := by decide +kernel
theorem dX9_jugs_56 : decode cX9_jugs 56 = .ok (.iconst 0, 1) := by decide +kernel
theorem dX9_jugs_57 : decode cX9_jugs 57 = .ok (.istore 6, 2) := by decide +kernel
theorem dX9_jugs_59 : decode cX9_jugs 59 = .ok (.iload 6, 2) := by decide +kernel
theorem dX9_jugs_61 : decode cX9_jugs 61 = .ok (.iload 4, 2) := by decide +kernel
theorem dX9_jugs_63 : decode cX9_jugs 63 = .ok (.if_icmp .gt 135, 3) := by decide +kernel
theorem dX9_jugs_66 : decode cX9_jugs 66 = .ok (.iconst 0, 1) := by decide +kernel
theorem dX9_jugs_67 : decode cX9_jugs 67 = .ok (.istore 7, 2) := by decide +kernel
theorem dX9_jugs_69 : decode cX9_jugs 69 = .ok (.iload 7, 2) := by decide +kernel
theorem dX9_jugs_71 : decode cX9_jugs 71 = .ok (.iload 6, 2) := by decide +kernel
theorem dX9_jugs_73 : decode cX9_jugs 73 = .ok (.if_icmp .gt 119, 3) := by decide +kernel
theorem dX9_jugs_76 : decode cX9_jugs 76 = .ok (.bipush (-6), 2) := by decide +kernel
theorem dX9_jugs_78 : decode cX9_jugs 78 = .ok (.istore 8, 2) := by decide +kernel
theorem dX9_jugs_80 : decode cX9_jugs 80 = .ok (.iconst 1, 1) := by decide +kernel
theorem dX9_jugs_81 : decode cX9_jugs 81 = .ok (.istore 9, 2) := by decide +kernel
theorem dX9_jugs_83 : decode cX9_jugs 83 = .ok (.iload 7, 2) := by decide +kernel
theorem dX9_jugs_85 : decode cX9_jugs 85 = .ok (.ifCond .le 86, 3) := by decide +kernel
theorem dX9_jugs_88 : decode cX9_jugs 88 = .ok (.iload 9, 2) := by decide +kernel
theorem dX9_jugs_90 : decode cX9_jugs 90 = .ok (.iload 7, 2) := by decide +kernel
theorem dX9_jugs_92 : decode cX9_jugs 92 = .ok (.imul, 1) := by decide +kernel
theorem dX9_jugs_93 : decode cX9_jugs 93 = .ok (.iload 6, 2) := by decide +kernel
theorem dX9_jugs_95 : decode cX9_jugs 95 = .ok (.if_icmp .gt 76, 3) := by decide +kernel
theorem dX9_jugs_98 : decode cX9_jugs 98 = .ok (.iload 8, 2) := by decide +kernel
theorem dX9_jugs_100 : decode cX9_jugs 100 = .ok (.ifCond .ge 71, 3) := by decide +kernel
theorem dX9_jugs_103 : decode cX9_jugs 103 = .ok (.iload 6, 2) := by decide +kernel
theorem dX9_jugs_105 : decode cX9_jugs 105 = .ok (.iload 9, 2) := by decide +kernel
theorem dX9_jugs_107 : decode cX9_jugs 107 = .ok (.iload 7, 2) := by decide +kernel
theorem dX9_jugs_109 : decode cX9_jugs 109 = .ok (.imul, 1) := by decide +kernel
theorem dX9_jugs_110 : decode cX9_jugs 110 = .ok (.isub, 1) := by decide +kernel
theorem dX9_jugs_111 : decode cX9_jugs 111 = .ok (.istore 10, 2) := by decide +kernel
theorem dX9_jugs_113 : decode cX9_jugs 113 = .ok (.iload 10, 2) := by decide +kernel
theorem dX9_jugs_115 : decode cX9_jugs 115 = .ok (.iload 7, 2) := by decide +kernel
theorem dX9_jugs_117 : decode cX9_jugs 117 = .ok (.if_icmp .le 19, 3) := by decide +kernel
theorem dX9_jugs_120 : decode cX9_jugs 120 = .ok (.aload_n 0, 1) := by decide +kernel
theorem dX9_jugs_121 : decode cX9_jugs 121 = .ok (.getfield 44, 3) := by decide +kernel
theorem dX9_jugs_124 : decode cX9_jugs 124 = .ok (.bipush 100, 2) := by decide +kernel
theorem dX9_jugs_126 : decode cX9_jugs 126 = .ok (.iload 10, 2) := by decide +kernel
theorem dX9_jugs_128 : decode cX9_jugs 128 = .ok (.imul, 1) := by decide +kernel
theorem dX9_jugs_129 : decode cX9_jugs 129 = .ok (.iload 7, 2) := by decide +kernel
theorem dX9_jugs_131 : decode cX9_jugs 131 = .ok (.iadd, 1) := by decide +kernel
theorem dX9_jugs_132 : decode cX9_jugs 132 = .ok (.iaload, 1) := by decide +kernel
theorem dX9_jugs_133 : decode cX9_jugs 133 = .ok (.goto 16, 3) := by decide +kernel
theorem dX9_jugs_136 : decode cX9_jugs 136 = .ok (.aload_n 0, 1) := by decide +kernel
theorem dX9_jugs_137 : decode cX9_jugs 137 = .ok (.getfield 44, 3) := by decide +kernel
theorem dX9_jugs_140 : decode cX9_jugs 140 = .ok (.bipush 100, 2) := by decide +kernel
theorem dX9_jugs_142 : decode cX9_jugs 142 = .ok (.iload 7, 2) := by decide +kernel
theorem dX9_jugs_144 : decode cX9_jugs 144 = .ok (.imul, 1) := by decide +kernel
theorem dX9_jugs_145 : decode cX9_jugs 145 = .ok (.iload 10, 2) := by decide +kernel
theorem dX9_jugs_147 : decode cX9_jugs 147 = .ok (.iadd, 1) := by decide +kernel
theorem dX9_jugs_148 : decode cX9_jugs 148 = .ok (.iaload, 1) := by decide +kernel
theorem dX9_jugs_149 : decode cX9_jugs 149 = .ok (.istore 11, 2) := by decide +kernel
theorem dX9_jugs_151 : decode cX9_jugs 151 = .ok (.iload 11, 2) := by decide +kernel
theorem dX9_jugs_153 : decode cX9_jugs 153 = .ok (.ifCond .ge 8, 3) := by decide +kernel
theorem dX9_jugs_156 : decode cX9_jugs 156 = .ok (.iload 9, 2) := by decide +kernel
theorem dX9_jugs_158 : decode cX9_jugs 158 = .ok (.goto 5, 3) := by decide +kernel
theorem dX9_jugs_161 : decode cX9_jugs 161 = .ok (.bipush (-6), 2) := by decide +kernel
theorem dX9_jugs_163 : decode cX9_jugs 163 = .ok (.istore 8, 2) := by decide +kernel
theorem dX9_jugs_165 : decode cX9_jugs 165 = .ok (.iinc 9 1, 3) := by decide +kernel
theorem dX9_jugs_168 : decode cX9_jugs 168 = .ok (.goto (-85), 3) := by decide +kernel
theorem dX9_jugs_171 : decode cX9_jugs 171 = .ok (.aload_n 0, 1) := by decide +kernel
theorem dX9_jugs_172 : decode cX9_jugs 172 = .ok (.getfield 44, 3) := by decide +kernel
theorem dX9_jugs_175 : decode cX9_jugs 175 = .ok (.bipush 100, 2) := by decide +kernel
theorem dX9_jugs_177 : decode cX9_jugs 177 = .ok (.iload 6, 2) := by decide +kernel
theorem dX9_jugs_179 : decode cX9_jugs 179 = .ok (.imul, 1) := by decide +kernel
theorem dX9_jugs_180 : decode cX9_jugs 180 = .ok (.iload 7, 2) := by decide +kernel
theorem dX9_jugs_182 : decode cX9_jugs 182 = .ok (.iadd, 1) := by decide +kernel
theorem dX9_jugs_183 : decode cX9_jugs 183 = .ok (.iload 8, 2) := by decide +kernel
theorem dX9_jugs_185 : decode cX9_jugs 185 = .ok (.iastore, 1) := by decide +kernel
theorem dX9_jugs_186 : decode cX9_jugs 186 = .ok (.iinc 7 1, 3) := by decide +kernel
theorem dX9_jugs_189 : decode cX9_jugs 189 = .ok (.goto (-120), 3) := by decide +kernel
theorem dX9_jugs_192 : decode cX9_jugs 192 = .ok (.iinc 6 1, 3) := by decide +kernel
theorem dX9_jugs_195 : decode cX9_jugs 195 = .ok (.goto (-136), 3) := by decide +kernel
theorem dX9_jugs_198 : decode cX9_jugs 198 = .ok (.aload_n 0, 1) := by decide +kernel
theorem dX9_jugs_199 : decode cX9_jugs 199 = .ok (.getfield 44, 3) := by decide +kernel
theorem dX9_jugs_202 : decode cX9_jugs 202 = .ok (.bipush 100, 2) := by decide +kernel
theorem dX9_jugs_204 : decode cX9_jugs 204 = .ok (.iload 4, 2) := by decide +kernel
theorem dX9_jugs_206 : decode cX9_jugs 206 = .ok (.imul, 1) := by decide +kernel
theorem dX9_jugs_207 : decode cX9_jugs 207 = .ok (.iload 5, 2) := by decide +kernel
theorem dX9_jugs_209 : decode cX9_jugs 209 = .ok (.iadd, 1) := by decide +kernel
theorem dX9_jugs_210 : decode cX9_jugs 210 = .ok (.iaload, 1) := by decide +kernel
theorem dX9_jugs_211 : decode cX9_jugs 211 = .ok (.istore 6, 2) := by decide +kernel
theorem dX9_jugs_213 : decode cX9_jugs 213 = .ok (.iload_n 3, 1) := by decide +kernel
theorem dX9_jugs_214 : decode cX9_jugs 214 = .ok (.iconst 1, 1) := by decide +kernel
theorem dX9_jugs_215 : decode cX9_jugs 215 = .ok (.if_icmp .ne 8, 3) := by decide +kernel
theorem dX9_jugs_218 : decode cX9_jugs 218 = .ok (.iload 6, 2) := by decide +kernel
theorem dX9_jugs_220 : decode cX9_jugs 220 = .ok (.goto 13, 3) := by decide +kernel
theorem dX9_jugs_223 : decode cX9_jugs 223 = .ok (.iload 6, 2) := by decide +kernel
theorem dX9_jugs_225 : decode cX9_jugs 225 = .ok (.ifCond .ge 7, 3) := by decide +kernel
theorem dX9_jugs_228 : decode cX9_jugs 228 = .ok (.iconst 0, 1) := by decide +kernel
theorem dX9_jugs_229 : decode cX9_jugs 229 = .ok (.goto 4, 3) := by decide +kernel
theorem dX9_jugs_232 : decode cX9_jugs 232 = .ok (.iconst 1, 1) := by decide +kernel
theorem dX9_jugs_233 : decode cX9_jugs 233 = .ok (.ireturn, 1) := by decide +kernel
theorem dX9_odds_0 : decode cX9_odds 0 = .ok (.iload_n 1, 1) := by decide +kernel
theorem dX9_odds_1 : decode cX9_odds 1 = .ok (.iconst 1, 1) := by decide +kernel
theorem dX9_odds_2 : decode cX9_odds 2 = .ok (.bipush 9, 2) := by decide +kernel
theorem dX9_odds_4 : decode cX9_odds 4 = .ok (.invokestatic 54, 3) := by decide +kernel
theorem dX9_odds_7 : decode cX9_odds 7 = .ok (.ifCond .eq 43, 3) := by decide +kernel
theorem dX9_odds_10 : decode cX9_odds 10 = .ok (.iload_n 2, 1) := by decide +kernel
theorem dX9_odds_11 : decode cX9_odds 11 = .ok (.iconst 1, 1) := by decide +kernel
theorem dX9_odds_12 : decode cX9_odds 12 = .ok (.bipush 9, 2) := by decide +kernel
theorem dX9_odds_14 : decode cX9_odds 14 = .ok (.invokestatic 54, 3) := by decide +kernel
theorem dX9_odds_17 : decode cX9_odds 17 = .ok (.ifCond .eq 33, 3) := by decide +kernel
theorem dX9_odds_20 : decode cX9_odds 20 = .ok (.iload_n 3, 1) := by decide +kernel
theorem dX9_odds_21 : decode cX9_odds 21 = .ok (.iconst 0, 1) := by decide +kernel
theorem dX9_odds_22 : decode cX9_odds 22 = .ok (.bipush 15, 2) := by decide +kernel
theorem dX9_odds_24 : decode cX9_odds 24 = .ok (.invokestatic 54, 3) := by decide +kernel
theorem dX9_odds_27 : decode cX9_odds 27 = .ok (.ifCond .eq 23, 3) := by decide +kernel
theorem dX9_odds_30 : decode cX9_odds 30 = .ok (.iload 4, 2) := by decide +kernel
theorem dX9_odds_32 : decode cX9_odds 32 = .ok (.iconst 0, 1) := by decide +kernel
theorem dX9_odds_33 : decode cX9_odds 33 = .ok (.iload_n 3, 1) := by decide +kernel
theorem dX9_odds_34 : decode cX9_odds 34 = .ok (.invokestatic 54, 3) := by decide +kernel
theorem dX9_odds_37 : decode cX9_odds 37 = .ok (.ifCond .eq 13, 3) := by decide +kernel
theorem dX9_odds_40 : decode cX9_odds 40 = .ok (.iload 5, 2) := by decide +kernel
theorem dX9_odds_42 : decode cX9_odds 42 = .ok (.iconst 0, 1) := by decide +kernel
theorem dX9_odds_43 : decode cX9_odds 43 = .ok (.iconst 1, 1) := by decide +kernel
theorem dX9_odds_44 : decode cX9_odds 44 = .ok (.invokestatic 54, 3) := by decide +kernel
theorem dX9_odds_47 : decode cX9_odds 47 = .ok (.ifCond .ne 7, 3) := by decide +kernel
theorem dX9_odds_50 : decode cX9_odds 50 = .ok (.ldc2_w 165, 3) := by decide +kernel
theorem dX9_odds_53 : decode cX9_odds 53 = .ok (.lreturn, 1) := by decide +kernel
theorem dX9_odds_54 : decode cX9_odds 54 = .ok (.iload_n 1, 1) := by decide +kernel
theorem dX9_odds_55 : decode cX9_odds 55 = .ok (.i2l, 1) := by decide +kernel
theorem dX9_odds_56 : decode cX9_odds 56 = .ok (.lstore 6, 2) := by decide +kernel
theorem dX9_odds_58 : decode cX9_odds 58 = .ok (.ldc2_w 167, 3) := by decide +kernel
theorem dX9_odds_61 : decode cX9_odds 61 = .ok (.iload_n 1, 1) := by decide +kernel
theorem dX9_odds_62 : decode cX9_odds 62 = .ok (.i2l, 1) := by decide +kernel
theorem dX9_odds_63 : decode cX9_odds 63 = .ok (.lsub, 1) := by decide +kernel
theorem dX9_odds_64 : decode cX9_odds 64 = .ok (.lstore 8, 2) := by decide +kernel
theorem dX9_odds_66 : decode cX9_odds 66 = .ok (.iconst 0, 1) := by decide +kernel
theorem dX9_odds_67 : decode cX9_odds 67 = .ok (.istore 10, 2) := by decide +kernel
theorem dX9_odds_69 : decode cX9_odds 69 = .ok (.iload 10, 2) := by decide +kernel
theorem dX9_odds_71 : decode cX9_odds 71 = .ok (.iload_n 3, 1) := by decide +kernel
theorem dX9_odds_72 : decode cX9_odds 72 = .ok (.if_icmp .ge 53, 3) := by decide +kernel
theorem dX9_odds_75 : decode cX9_odds 75 = .ok (.lload 6, 2) := by decide +kernel
theorem dX9_odds_77 : decode cX9_odds 77 = .ok (.iload 10, 2) := by decide +kernel
theorem dX9_odds_79 : decode cX9_odds 79 = .ok (.iload 4, 2) := by decide +kernel
theorem dX9_odds_81 : decode cX9_odds 81 = .ok (.if_icmp .ge 8, 3) := by decide +kernel
theorem dX9_odds_84 : decode cX9_odds 84 = .ok (.iload_n 2, 1) := by decide +kernel
theorem dX9_odds_85 : decode cX9_odds 85 = .ok (.i2l, 1) := by decide +kernel
theorem dX9_odds_86 : decode cX9_odds 86 = .ok (.goto 8, 3) := by decide +kernel
theorem dX9_odds_89 : decode cX9_odds 89 = .ok (.bipush 10, 2) := by decide +kernel
theorem dX9_odds_91 : decode cX9_odds 91 = .ok (.iload_n 2, 1) := by decide +kernel
theorem dX9_odds_92 : decode cX9_odds 92 = .ok (.isub, 1) := by decide +kernel
theorem dX9_odds_93 : decode cX9_odds 93 = .ok (.i2l, 1) := by decide +kernel
theorem dX9_odds_94 : decode cX9_odds 94 = .ok (.lmul, 1) := by decide +kernel
theorem dX9_odds_95 : decode cX9_odds 95 = .ok (.lstore 6, 2) := by decide +kernel
theorem dX9_odds_97 : decode cX9_odds 97 = .ok (.lload 8, 2) := by decide +kernel
theorem dX9_odds_99 : decode cX9_odds 99 = .ok (.iload 10, 2) := by decide +kernel
theorem dX9_odds_101 : decode cX9_odds 101 = .ok (.iload 4, 2) := by decide +kernel
theorem dX9_odds_103 : decode cX9_odds 103 = .ok (.if_icmp .ge 11, 3) := by decide +kernel
theorem dX9_odds_106 : decode cX9_odds 106 = .ok (.bipush 10, 2) := by decide +kernel
theorem dX9_odds_108 : decode cX9_odds 108 = .ok (.iload_n 2, 1) := by decide +kernel
theorem dX9_odds_109 : decode cX9_odds 109 = .ok (.isub, 1) := by decide +kernel
theorem dX9_odds_110 : decode cX9_odds 110 = .ok (.i2l, 1) := by decide +kernel
theorem dX9_odds_111 : decode cX9_odds 111 = .ok (.goto 5, 3) := by decide +kernel
theorem dX9_odds_114 : decode cX9_odds 114 = .ok (.iload_n 2, 1) := by decide +kernel
theorem dX9_odds_115 : decode cX9_odds 115 = .ok (.i2l, 1) := by decide +kernel
theorem dX9_odds_116 : decode cX9_odds 116 = .ok (.lmul, 1) := by decide +kernel
theorem dX9_odds_117 : decode cX9_odds 117 = .ok (.lstore 8, 2) := by decide +kernel
theorem dX9_odds_119 : decode cX9_odds 119 = .ok (.iinc 10 1, 3) := by decide +kernel
theorem dX9_odds_122 : decode cX9_odds 122 = .ok (.goto (-53), 3) := by decide +kernel
theorem dX9_odds_125 : decode cX9_odds 125 = .ok (.lload 6, 2) := by decide +kernel
theorem dX9_odds_127 : decode cX9_odds 127 = .ok (.lload 8, 2) := by decide +kernel
theorem dX9_odds_129 : decode cX9_odds 129 = .ok (.ladd, 1) := by decide +kernel
theorem dX9_odds_130 : decode cX9_odds 130 = .ok (.lstore 10, 2) := by decide +kernel
theorem dX9_odds_132 : decode cX9_odds 132 = .ok (.lload 6, 2) := by decide +kernel
theorem dX9_odds_134 : decode cX9_odds 134 = .ok (.lstore 12, 2) := by decide +kernel
theorem dX9_odds_136 : decode cX9_odds 136 = .ok (.lload 10, 2) := by decide +kernel
theorem dX9_odds_138 : decode cX9_odds 138 = .ok (.lstore 14, 2) := by decide +kernel
theorem dX9_odds_140 : decode cX9_odds 140 = .ok (.lload 14, 2) := by decide +kernel
theorem dX9_odds_142 : decode cX9_odds 142 = .ok (.lconst 0, 1) := by decide +kernel
theorem dX9_odds_143 : decode cX9_odds 143 = .ok (.lcmp, 1) := by decide +kernel
theorem dX9_odds_144 : decode cX9_odds 144 = .ok (.ifCond .eq 21, 3) := by decide +kernel
theorem dX9_odds_147 : decode cX9_odds 147 = .ok (.lload 12, 2) := by decide +kernel
theorem dX9_odds_149 : decode cX9_odds 149 = .ok (.lload 14, 2) := by decide +kernel
theorem dX9_odds_151 : decode cX9_odds 151 = .ok (.lrem, 1) := by decide +kernel
theorem dX9_odds_152 : decode cX9_odds 152 = .ok (.lstore 16, 2) := by decide +kernel
theorem dX9_odds_154 : decode cX9_odds 154 = .ok (.lload 14, 2) := by decide +kernel
theorem dX9_odds_156 : decode cX9_odds 156 = .ok (.lstore 12, 2) := by decide +kernel
theorem dX9_odds_158 : decode cX9_odds 158 = .ok (.lload 16, 2) := by decide +kernel
theorem dX9_odds_160 : decode cX9_odds 160 = .ok (.lstore 14, 2) := by decide +kernel
theorem dX9_odds_162 : decode cX9_odds 162 = .ok (.goto (-22), 3) := by decide +kernel
theorem dX9_odds_165 : decode cX9_odds 165 = .ok (.iload 5, 2) := by decide +kernel
theorem dX9_odds_167 : decode cX9_odds 167 = .ok (.ifCond .ne 11, 3) := by decide +kernel
theorem dX9_odds_170 : decode cX9_odds 170 = .ok (.lload 6, 2) := by decide +kernel
theorem dX9_odds_172 : decode cX9_odds 172 = .ok (.lload 12, 2) := by decide +kernel
theorem dX9_odds_174 : decode cX9_odds 174 = .ok (.ldiv, 1) := by decide +kernel
theorem dX9_odds_175 : decode cX9_odds 175 = .ok (.goto 8, 3) := by decide +kernel
theorem dX9_odds_178 : decode cX9_odds 178 = .ok (.lload 10, 2) := by decide +kernel
theorem dX9_odds_180 : decode cX9_odds 180 = .ok (.lload 12, 2) := by decide +kernel
theorem dX9_odds_182 : decode cX9_odds 182 = .ok (.ldiv, 1) := by decide +kernel
theorem dX9_odds_183 : decode cX9_odds 183 = .ok (.lreturn, 1) := by decide +kernel
theorem dX9_year_0 : decode cX9_year 0 = .ok (.iload_n 1, 1) := by decide +kernel
theorem dX9_year_1 : decode cX9_year 1 = .ok (.iconst 0, 1) := by decide +kernel
theorem dX9_year_2 : decode cX9_year 2 = .ok (.sipush 9999, 3) := by decide +kernel
theorem dX9_year_5 : decode cX9_year 5 = .ok (.invokestatic 54, 3) := by decide +kernel
theorem dX9_year_8 : decode cX9_year 8 = .ok (.ifCond .eq 22, 3) := by decide +kernel
theorem dX9_year_11 : decode cX9_year 11 = .ok (.iload_n 2, 1) := by decide +kernel
theorem dX9_year_12 : decode cX9_year 12 = .ok (.iconst 1, 1) := by decide +kernel
theorem dX9_year_13 : decode cX9_year 13 = .ok (.bipush 99, 2) := by decide +kernel
theorem dX9_year_15 : decode cX9_year 15 = .ok (.invokestatic 54, 3) := by decide +kernel
theorem dX9_year_18 : decode cX9_year 18 = .ok (.ifCond .eq 12, 3) := by decide +kernel
theorem dX9_year_21 : decode cX9_year 21 = .ok (.iload_n 3, 1) := by decide +kernel
theorem dX9_year_22 : decode cX9_year 22 = .ok (.iconst 0, 1) := by decide +kernel
theorem dX9_year_23 : decode cX9_year 23 = .ok (.iconst 2, 1) := by decide +kernel
theorem dX9_year_24 : decode cX9_year 24 = .ok (.invokestatic 54, 3) := by decide +kernel
theorem dX9_year_27 : decode cX9_year 27 = .ok (.ifCond .ne 6, 3) := by decide +kernel
theorem dX9_year_30 : decode cX9_year 30 = .ok (.bipush (-2), 2) := by decide +kernel
theorem dX9_year_32 : decode cX9_year 32 = .ok (.ireturn, 1) := by decide +kernel
theorem dX9_year_33 : decode cX9_year 33 = .ok (.aload_n 0, 1) := by decide +kernel
theorem dX9_year_34 : decode cX9_year 34 = .ok (.invokevirtual 111, 3) := by decide +kernel
theorem dX9_year_37 : decode cX9_year 37 = .ok (.iload_n 1, 1) := by decide +kernel
theorem dX9_year_38 : decode cX9_year 38 = .ok (.istore 4, 2) := by decide +kernel
theorem dX9_year_40 : decode cX9_year 40 = .ok (.iconst 0, 1) := by decide +kernel
theorem dX9_year_41 : decode cX9_year 41 = .ok (.istore 5, 2) := by decide +kernel
theorem dX9_year_43 : decode cX9_year 43 = .ok (.iload 5, 2) := by decide +kernel
theorem dX9_year_45 : decode cX9_year 45 = .ok (.iload_n 2, 1) := by decide +kernel
theorem dX9_year_46 : decode cX9_year 46 = .ok (.if_icmp .ge 160, 3) := by decide +kernel
theorem dX9_year_49 : decode cX9_year 49 = .ok (.bipush 75, 2) := by decide +kernel
theorem dX9_year_51 : decode cX9_year 51 = .ok (.iload 4, 2) := by decide +kernel
theorem dX9_year_53 : decode cX9_year 53 = .ok (.imul, 1) := by decide +kernel
theorem dX9_year_54 : decode cX9_year 54 = .ok (.bipush 74, 2) := by decide +kernel
theorem dX9_year_56 : decode cX9_year 56 = .ok (.iadd, 1) := by decide +kernel
theorem dX9_year_57 : decode cX9_year 57 = .ok (.ldc 169, 2) := by decide +kernel
theorem dX9_year_59 : decode cX9_year 59 = .ok (.irem, 1) := by decide +kernel
theorem dX9_year_60 : decode cX9_year 60 = .ok (.istore 4, 2) := by decide +kernel
theorem dX9_year_62 : decode cX9_year 62 = .ok (.iload 4, 2) := by decide +kernel
theorem dX9_year_64 : decode cX9_year 64 = .ok (.bipush 8, 2) := by decide +kernel
theorem dX9_year_66 : decode cX9_year 66 = .ok (.idiv, 1) := by decide +kernel
theorem dX9_year_67 : decode cX9_year 67 = .ok (.istore 6, 2) := by decide +kernel
theorem dX9_year_69 : decode cX9_year 69 = .ok (.iload 4, 2) := by decide +kernel
theorem dX9_year_71 : decode cX9_year 71 = .ok (.bipush 8, 2) := by decide +kernel
theorem dX9_year_73 : decode cX9_year 73 = .ok (.irem, 1) := by decide +kernel
theorem dX9_year_74 : decode cX9_year 74 = .ok (.tableswitch 118 0 4 #[34, 52, 70, 86, 102], 34) := by decide +kernel
theorem dX9_year_108 : decode cX9_year 108 = .ok (.aload_n 0, 1) := by decide +kernel
theorem dX9_year_109 : decode cX9_year 109 = .ok (.aload_n 0, 1) := by decide +kernel
theorem dX9_year_110 : decode cX9_year 110 = .ok (.iconst 1, 1) := by decide +kernel
theorem dX9_year_111 : decode cX9_year 111 = .ok (.iload 6, 2) := by decide +kernel
theorem dX9_year_113 : decode cX9_year 113 = .ok (.bipush 9, 2) := by decide +kernel
theorem dX9_year_115 : decode cX9_year 115 = .ok (.irem, 1) := by decide +kernel
theorem dX9_year_116 : decode cX9_year 116 = .ok (.iadd, 1) := by decide +kernel
theorem dX9_year_117 : decode cX9_year 117 = .ok (.invokevirtual 126, 3) := by decide +kernel
theorem dX9_year_120 : decode cX9_year 120 = .ok (.putfield 123, 3) := by decide +kernel
theorem dX9_year_123 : decode cX9_year 123 = .ok (.goto 77, 3) := by decide +kernel
theorem dX9_year_126 : decode cX9_year 126 = .ok (.aload_n 0, 1) := by decide +kernel
theorem dX9_year_127 : decode cX9_year 127 = .ok (.aload_n 0, 1) := by decide +kernel
theorem dX9_year_128 : decode cX9_year 128 = .ok (.iconst (-1), 1) := by decide +kernel
theorem dX9_year_129 : decode cX9_year 129 = .ok (.iload 6, 2) := by decide +kernel
theorem dX9_year_131 : decode cX9_year 131 = .ok (.bipush 9, 2) := by decide +kernel
theorem dX9_year_133 : decode cX9_year 133 = .ok (.irem, 1) := by decide +kernel
theorem dX9_year_134 : decode cX9_year 134 = .ok (.isub, 1) := by decide +kernel
theorem dX9_year_135 : decode cX9_year 135 = .ok (.invokevirtual 126, 3) := by decide +kernel
theorem dX9_year_138 : decode cX9_year 138 = .ok (.putfield 123, 3) := by decide +kernel
theorem dX9_year_141 : decode cX9_year 141 = .ok (.goto 59, 3) := by decide +kernel
theorem dX9_year_144 : decode cX9_year 144 = .ok (.aload_n 0, 1) := by decide +kernel
theorem dX9_year_145 : decode cX9_year 145 = .ok (.aload_n 0, 1) := by decide +kernel
theorem dX9_year_146 : decode cX9_year 146 = .ok (.iload 6, 2) := by decide +kernel
theorem dX9_year_148 : decode cX9_year 148 = .ok (.bipush 8, 2) := by decide +kernel
theorem dX9_year_150 : decode cX9_year 150 = .ok (.irem, 1) := by decide +kernel
theorem dX9_year_151 : decode cX9_year 151 = .ok (.invokevirtual 99, 3) := by decide +kernel
theorem dX9_year_154 : decode cX9_year 154 = .ok (.putfield 123, 3) := by decide +kernel
theorem dX9_year_157 : decode cX9_year 157 = .ok (.goto 43, 3) := by decide +kernel
theorem dX9_year_160 : decode cX9_year 160 = .ok (.aload_n 0, 1) := by decide +kernel
theorem dX9_year_161 : decode cX9_year 161 = .ok (.aload_n 0, 1) := by decide +kernel
theorem dX9_year_162 : decode cX9_year 162 = .ok (.iload 6, 2) := by decide +kernel
theorem dX9_year_164 : decode cX9_year 164 = .ok (.bipush 8, 2) := by decide +kernel
theorem dX9_year_166 : decode cX9_year 166 = .ok (.irem, 1) := by decide +kernel
theorem dX9_year_167 : decode cX9_year 167 = .ok (.invokevirtual 102, 3) := by decide +kernel
theorem dX9_year_170 : decode cX9_year 170 = .ok (.putfield 123, 3) := by decide +kernel
theorem dX9_year_173 : decode cX9_year 173 = .ok (.goto 27, 3) := by decide +kernel
theorem dX9_year_176 : decode cX9_year 176 = .ok (.aload_n 0, 1) := by decide +kernel
theorem dX9_year_177 : decode cX9_year 177 = .ok (.aload_n 0, 1) := by decide +kernel
theorem dX9_year_178 : decode cX9_year 178 = .ok (.iload 6, 2) := by decide +kernel
theorem dX9_year_180 : decode cX9_year 180 = .ok (.bipush 8, 2) := by decide +kernel
theorem dX9_year_182 : decode cX9_year 182 = .ok (.irem, 1) := by decide +kernel
theorem dX9_year_183 : decode cX9_year 183 = .ok (.invokevirtual 105, 3) := by decide +kernel
theorem dX9_year_186 : decode cX9_year 186 = .ok (.putfield 123, 3) := by decide +kernel
theorem dX9_year_189 : decode cX9_year 189 = .ok (.goto 11, 3) := by decide +kernel
theorem dX9_year_192 : decode cX9_year 192 = .ok (.aload_n 0, 1) := by decide +kernel
theorem dX9_year_193 : decode cX9_year 193 = .ok (.aload_n 0, 1) := by decide +kernel
theorem dX9_year_194 : decode cX9_year 194 = .ok (.invokevirtual 120, 3) := by decide +kernel
theorem dX9_year_197 : decode cX9_year 197 = .ok (.putfield 123, 3) := by decide +kernel
theorem dX9_year_200 : decode cX9_year 200 = .ok (.iinc 5 1, 3) := by decide +kernel
theorem dX9_year_203 : decode cX9_year 203 = .ok (.goto (-160), 3) := by decide +kernel
theorem dX9_year_206 : decode cX9_year 206 = .ok (.iconst 0, 1) := by decide +kernel
theorem dX9_year_207 : decode cX9_year 207 = .ok (.istore 5, 2) := by decide +kernel
theorem dX9_year_209 : decode cX9_year 209 = .ok (.iconst 0, 1) := by decide +kernel
theorem dX9_year_210 : decode cX9_year 210 = .ok (.istore 6, 2) := by decide +kernel
theorem dX9_year_212 : decode cX9_year 212 = .ok (.iload 6, 2) := by decide +kernel
theorem dX9_year_214 : decode cX9_year 214 = .ok (.bipush 8, 2) := by decide +kernel
theorem dX9_year_216 : decode cX9_year 216 = .ok (.if_icmp .ge 34, 3) := by decide +kernel
theorem dX9_year_219 : decode cX9_year 219 = .ok (.iload 5, 2) := by decide +kernel
theorem dX9_year_221 : decode cX9_year 221 = .ok (.aload_n 0, 1) := by decide +kernel
theorem dX9_year_222 : decode cX9_year 222 = .ok (.iload 6, 2) := by decide +kernel
theorem dX9_year_224 : decode cX9_year 224 = .ok (.invokevirtual 86, 3) := by decide +kernel
theorem dX9_year_227 : decode cX9_year 227 = .ok (.ifCond .eq 13, 3) := by decide +kernel
theorem dX9_year_230 : decode cX9_year 230 = .ok (.aload_n 0, 1) := by decide +kernel
theorem dX9_year_231 : decode cX9_year 231 = .ok (.getfield 13, 3) := by decide +kernel
theorem dX9_year_234 : decode cX9_year 234 = .ok (.iload 6, 2) := by decide +kernel
theorem dX9_year_236 : decode cX9_year 236 = .ok (.iaload, 1) := by decide +kernel
theorem dX9_year_237 : decode cX9_year 237 = .ok (.goto 4, 3) := by decide +kernel
theorem dX9_year_240 : decode cX9_year 240 = .ok (.iconst 0, 1) := by decide +kernel
theorem dX9_year_241 : decode cX9_year 241 = .ok (.iadd, 1) := by decide +kernel
theorem dX9_year_242 : decode cX9_year 242 = .ok (.istore 5, 2) := by decide +kernel
theorem dX9_year_244 : decode cX9_year 244 = .ok (.iinc 6 1, 3) := by decide +kernel
theorem dX9_year_247 : decode cX9_year 247 = .ok (.goto (-35), 3) := by decide +kernel
theorem dX9_year_250 : decode cX9_year 250 = .ok (.iload_n 3, 1) := by decide +kernel
theorem dX9_year_251 : decode cX9_year 251 = .ok (.ifCond .ne 13, 3) := by decide +kernel
theorem dX9_year_254 : decode cX9_year 254 = .ok (.aload_n 0, 1) := by decide +kernel
theorem dX9_year_255 : decode cX9_year 255 = .ok (.invokevirtual 117, 3) := by decide +kernel
theorem dX9_year_258 : decode cX9_year 258 = .ok (.invokestatic 62, 3) := by decide +kernel
theorem dX9_year_261 : decode cX9_year 261 = .ok (.goto 20, 3) := by decide +kernel
theorem dX9_year_264 : decode cX9_year 264 = .ok (.iload_n 3, 1) := by decide +kernel
theorem dX9_year_265 : decode cX9_year 265 = .ok (.iconst 1, 1) := by decide +kernel
theorem dX9_year_266 : decode cX9_year 266 = .ok (.if_icmp .ne 8, 3) := by decide +kernel
theorem dX9_year_269 : decode cX9_year 269 = .ok (.iload 5, 2) := by decide +kernel
theorem dX9_year_271 : decode cX9_year 271 = .ok (.goto 10, 3) := by decide +kernel
theorem dX9_year_274 : decode cX9_year 274 = .ok (.aload_n 0, 1) := by decide +kernel
theorem dX9_year_275 : decode cX9_year 275 = .ok (.getfield 13, 3) := by decide +kernel
theorem dX9_year_278 : decode cX9_year 278 = .ok (.bipush 10, 2) := by decide +kernel
theorem dX9_year_280 : decode cX9_year 280 = .ok (.iaload, 1) := by decide +kernel
theorem dX9_year_281 : decode cX9_year 281 = .ok (.ireturn, 1) := by decide +kernel
theorem dX9_image_0 : decode cX9_image 0 = .ok (.iload_n 1, 1) := by decide +kernel
theorem dX9_image_1 : decode cX9_image 1 = .ok (.iconst 0, 1) := by decide +kernel
theorem dX9_image_2 : decode cX9_image 2 = .ok (.iconst 1, 1) := by decide +kernel
theorem dX9_image_3 : decode cX9_image 3 = .ok (.invokestatic 54, 3) := by decide +kernel
theorem dX9_image_6 : decode cX9_image 6 = .ok (.ifCond .ne 6, 3) := by decide +kernel
theorem dX9_image_9 : decode cX9_image 9 = .ok (.bipush (-2), 2) := by decide +kernel
theorem dX9_image_11 : decode cX9_image 11 = .ok (.ireturn, 1) := by decide +kernel
theorem dX9_image_12 : decode cX9_image 12 = .ok (.bipush 70, 2) := by decide +kernel
theorem dX9_image_14 : decode cX9_image 14 = .ok (.iload_n 1, 1) := by decide +kernel
theorem dX9_image_15 : decode cX9_image 15 = .ok (.imul, 1) := by decide +kernel
theorem dX9_image_16 : decode cX9_image 16 = .ok (.istore_n 2, 1) := by decide +kernel
theorem dX9_image_17 : decode cX9_image 17 = .ok (.iconst 0, 1) := by decide +kernel
theorem dX9_image_18 : decode cX9_image 18 = .ok (.istore_n 3, 1) := by decide +kernel
theorem dX9_image_19 : decode cX9_image 19 = .ok (.iload_n 3, 1) := by decide +kernel
theorem dX9_image_20 : decode cX9_image 20 = .ok (.bipush 12, 2) := by decide +kernel
theorem dX9_image_22 : decode cX9_image 22 = .ok (.if_icmp .ge 40, 3) := by decide +kernel
theorem dX9_image_25 : decode cX9_image 25 = .ok (.aload_n 0, 1) := by decide +kernel
theorem dX9_image_26 : decode cX9_image 26 = .ok (.getfield 47, 3) := by decide +kernel
theorem dX9_image_29 : decode cX9_image 29 = .ok (.iload_n 2, 1) := by decide +kernel
theorem dX9_image_30 : decode cX9_image 30 = .ok (.iload_n 3, 1) := by decide +kernel
theorem dX9_image_31 : decode cX9_image 31 = .ok (.iadd, 1) := by decide +kernel
theorem dX9_image_32 : decode cX9_image 32 = .ok (.aload_n 0, 1) := by decide +kernel
theorem dX9_image_33 : decode cX9_image 33 = .ok (.getfield 7, 3) := by decide +kernel
theorem dX9_image_36 : decode cX9_image 36 = .ok (.iload_n 3, 1) := by decide +kernel
theorem dX9_image_37 : decode cX9_image 37 = .ok (.iaload, 1) := by decide +kernel
theorem dX9_image_38 : decode cX9_image 38 = .ok (.iastore, 1) := by decide +kernel
theorem dX9_image_39 : decode cX9_image 39 = .ok (.aload_n 0, 1) := by decide +kernel
theorem dX9_image_40 : decode cX9_image 40 = .ok (.getfield 47, 3) := by decide +kernel
theorem dX9_image_43 : decode cX9_image 43 = .ok (.iload_n 2, 1) := by decide +kernel
theorem dX9_image_44 : decode cX9_image 44 = .ok (.bipush 12, 2) := by decide +kernel
theorem dX9_image_46 : decode cX9_image 46 = .ok (.iadd, 1) := by decide +kernel
theorem dX9_image_47 : decode cX9_image 47 = .ok (.iload_n 3, 1) := by decide +kernel
theorem dX9_image_48 : decode cX9_image 48 = .ok (.iadd, 1) := by decide +kernel
theorem dX9_image_49 : decode cX9_image 49 = .ok (.aload_n 0, 1) := by decide +kernel
theorem dX9_image_50 : decode cX9_image 50 = .ok (.getfield 26, 3) := by decide +kernel
theorem dX9_image_53 : decode cX9_image 53 = .ok (.iload_n 3, 1) := by decide +kernel
theorem dX9_image_54 : decode cX9_image 54 = .ok (.iaload, 1) := by decide +kernel
theorem dX9_image_55 : decode cX9_image 55 = .ok (.iastore, 1) := by decide +kernel
theorem dX9_image_56 : decode cX9_image 56 = .ok (.iinc 3 1, 3) := by decide +kernel
theorem dX9_image_59 : decode cX9_image 59 = .ok (.goto (-40), 3) := by decide +kernel
theorem dX9_image_62 : decode cX9_image 62 = .ok (.iconst 0, 1) := by decide +kernel
theorem dX9_image_63 : decode cX9_image 63 = .ok (.istore_n 3, 1) := by decide +kernel
theorem dX9_image_64 : decode cX9_image 64 = .ok (.iload_n 3, 1) := by decide +kernel
theorem dX9_image_65 : decode cX9_image 65 = .ok (.bipush 8, 2) := by decide +kernel
theorem dX9_image_67 : decode cX9_image 67 = .ok (.if_icmp .ge 26, 3) := by decide +kernel
theorem dX9_image_70 : decode cX9_image 70 = .ok (.aload_n 0, 1) := by decide +kernel
theorem dX9_image_71 : decode cX9_image 71 = .ok (.getfield 47, 3) := by decide +kernel
theorem dX9_image_74 : decode cX9_image 74 = .ok (.iload_n 2, 1) := by decide +kernel
theorem dX9_image_75 : decode cX9_image 75 = .ok (.bipush 24, 2) := by decide +kernel
theorem dX9_image_77 : decode cX9_image 77 = .ok (.iadd, 1) := by decide +kernel
theorem dX9_image_78 : decode cX9_image 78 = .ok (.iload_n 3, 1) := by decide +kernel
theorem dX9_image_79 : decode cX9_image 79 = .ok (.iadd, 1) := by decide +kernel
theorem dX9_image_80 : decode cX9_image 80 = .ok (.aload_n 0, 1) := by decide +kernel
theorem dX9_image_81 : decode cX9_image 81 = .ok (.getfield 16, 3) := by decide +kernel
theorem dX9_image_84 : decode cX9_image 84 = .ok (.iload_n 3, 1) := by decide +kernel
theorem dX9_image_85 : decode cX9_image 85 = .ok (.iaload, 1) := by decide +kernel
theorem dX9_image_86 : decode cX9_image 86 = .ok (.iastore, 1) := by decide +kernel
theorem dX9_image_87 : decode cX9_image 87 = .ok (.iinc 3 1, 3) := by decide +kernel
theorem dX9_image_90 : decode cX9_image 90 = .ok (.goto (-26), 3) := by decide +kernel
theorem dX9_image_93 : decode cX9_image 93 = .ok (.iconst 0, 1) := by decide +kernel
theorem dX9_image_94 : decode cX9_image 94 = .ok (.istore_n 3, 1) := by decide +kernel
theorem dX9_image_95 : decode cX9_image 95 = .ok (.iload_n 3, 1) := by decide +kernel
theorem dX9_image_96 : decode cX9_image 96 = .ok (.bipush 24, 2) := by decide +kernel
theorem dX9_image_98 : decode cX9_image 98 = .ok (.if_icmp .ge 26, 3) := by decide +kernel
theorem dX9_image_101 : decode cX9_image 101 = .ok (.aload_n 0, 1) := by decide +kernel
theorem dX9_image_102 : decode cX9_image 102 = .ok (.getfield 47, 3) := by decide +kernel
theorem dX9_image_105 : decode cX9_image 105 = .ok (.iload_n 2, 1) := by decide +kernel
theorem dX9_image_106 : decode cX9_image 106 = .ok (.bipush 32, 2) := by decide +kernel
theorem dX9_image_108 : decode cX9_image 108 = .ok (.iadd, 1) := by decide +kernel
theorem dX9_image_109 : decode cX9_image 109 = .ok (.iload_n 3, 1) := by decide +kernel
theorem dX9_image_110 : decode cX9_image 110 = .ok (.iadd, 1) := by decide +kernel
theorem dX9_image_111 : decode cX9_image 111 = .ok (.aload_n 0, 1) := by decide +kernel
theorem dX9_image_112 : decode cX9_image 112 = .ok (.getfield 29, 3) := by decide +kernel
theorem dX9_image_115 : decode cX9_image 115 = .ok (.iload_n 3, 1) := by decide +kernel
theorem dX9_image_116 : decode cX9_image 116 = .ok (.iaload, 1) := by decide +kernel
theorem dX9_image_117 : decode cX9_image 117 = .ok (.iastore, 1) := by decide +kernel
theorem dX9_image_118 : decode cX9_image 118 = .ok (.iinc 3 1, 3) := by decide +kernel
theorem dX9_image_121 : decode cX9_image 121 = .ok (.goto (-26), 3) := by decide +kernel
theorem dX9_image_124 : decode cX9_image 124 = .ok (.aload_n 0, 1) := by decide +kernel
theorem dX9_image_125 : decode cX9_image 125 = .ok (.getfield 47, 3) := by decide +kernel
theorem dX9_image_128 : decode cX9_image 128 = .ok (.iload_n 2, 1) := by decide +kernel
theorem dX9_image_129 : decode cX9_image 129 = .ok (.bipush 60, 2) := by decide +kernel
theorem dX9_image_131 : decode cX9_image 131 = .ok (.iadd, 1) := by decide +kernel
theorem dX9_image_132 : decode cX9_image 132 = .ok (.aload_n 0, 1) := by decide +kernel
theorem dX9_image_133 : decode cX9_image 133 = .ok (.getfield 19, 3) := by decide +kernel
theorem dX9_image_136 : decode cX9_image 136 = .ok (.iastore, 1) := by decide +kernel
theorem dX9_image_137 : decode cX9_image 137 = .ok (.aload_n 0, 1) := by decide +kernel
theorem dX9_image_138 : decode cX9_image 138 = .ok (.getfield 47, 3) := by decide +kernel
theorem dX9_image_141 : decode cX9_image 141 = .ok (.iload_n 2, 1) := by decide +kernel
theorem dX9_image_142 : decode cX9_image 142 = .ok (.bipush 61, 2) := by decide +kernel
theorem dX9_image_144 : decode cX9_image 144 = .ok (.iadd, 1) := by decide +kernel
theorem dX9_image_145 : decode cX9_image 145 = .ok (.aload_n 0, 1) := by decide +kernel
theorem dX9_image_146 : decode cX9_image 146 = .ok (.getfield 23, 3) := by decide +kernel
theorem dX9_image_149 : decode cX9_image 149 = .ok (.iastore, 1) := by decide +kernel
theorem dX9_image_150 : decode cX9_image 150 = .ok (.aload_n 0, 1) := by decide +kernel
theorem dX9_image_151 : decode cX9_image 151 = .ok (.getfield 47, 3) := by decide +kernel
theorem dX9_image_154 : decode cX9_image 154 = .ok (.iload_n 2, 1) := by decide +kernel
theorem dX9_image_155 : decode cX9_image 155 = .ok (.bipush 62, 2) := by decide +kernel
theorem dX9_image_157 : decode cX9_image 157 = .ok (.iadd, 1) := by decide +kernel
theorem dX9_image_158 : decode cX9_image 158 = .ok (.aload_n 0, 1) := by decide +kernel
theorem dX9_image_159 : decode cX9_image 159 = .ok (.getfield 70, 3) := by decide +kernel
theorem dX9_image_162 : decode cX9_image 162 = .ok (.iastore, 1) := by decide +kernel
theorem dX9_image_163 : decode cX9_image 163 = .ok (.aload_n 0, 1) := by decide +kernel
theorem dX9_image_164 : decode cX9_image 164 = .ok (.getfield 47, 3) := by decide +kernel
theorem dX9_image_167 : decode cX9_image 167 = .ok (.iload_n 2, 1) := by decide +kernel
theorem dX9_image_168 : decode cX9_image 168 = .ok (.bipush 63, 2) := by decide +kernel
theorem dX9_image_170 : decode cX9_image 170 = .ok (.iadd, 1) := by decide +kernel
theorem dX9_image_171 : decode cX9_image 171 = .ok (.aload_n 0, 1) := by decide +kernel
theorem dX9_image_172 : decode cX9_image 172 = .ok (.getfield 156, 3) := by decide +kernel
theorem dX9_image_175 : decode cX9_image 175 = .ok (.iastore, 1) := by decide +kernel
theorem dX9_image_176 : decode cX9_image 176 = .ok (.aload_n 0, 1) := by decide +kernel
theorem dX9_image_177 : decode cX9_image 177 = .ok (.getfield 50, 3) := by decide +kernel
theorem dX9_image_180 : decode cX9_image 180 = .ok (.iload_n 1, 1) := by decide +kernel
theorem dX9_image_181 : decode cX9_image 181 = .ok (.iconst 1, 1) := by decide +kernel
theorem dX9_image_182 : decode cX9_image 182 = .ok (.bastore, 1) := by decide +kernel
theorem dX9_image_183 : decode cX9_image 183 = .ok (.iconst 1, 1) := by decide +kernel
theorem dX9_image_184 : decode cX9_image 184 = .ok (.ireturn, 1) := by decide +kernel
theorem dX9_restore_0 : decode cX9_restore 0 = .ok (.iload_n 1, 1) := by decide +kernel
theorem dX9_restore_1 : decode cX9_restore 1 = .ok (.iconst 0, 1) := by decide +kernel
theorem dX9_restore_2 : decode cX9_restore 2 = .ok (.iconst 1, 1) := by decide +kernel
theorem dX9_restore_3 : decode cX9_restore 3 = .ok (.invokestatic 54, 3) := by decide +kernel
theorem dX9_restore_6 : decode cX9_restore 6 = .ok (.ifCond .ne 6, 3) := by decide +kernel
theorem dX9_restore_9 : decode cX9_restore 9 = .ok (.bipush (-2), 2) := by decide +kernel
theorem dX9_restore_11 : decode cX9_restore 11 = .ok (.ireturn, 1) := by decide +kernel
theorem dX9_restore_12 : decode cX9_restore 12 = .ok (.aload_n 0, 1) := by decide +kernel
theorem dX9_restore_13 : decode cX9_restore 13 = .ok (.getfield 50, 3) := by decide +kernel
theorem dX9_restore_16 : decode cX9_restore 16 = .ok (.iload_n 1, 1) := by decide +kernel
theorem dX9_restore_17 : decode cX9_restore 17 = .ok (.baload, 1) := by decide +kernel
theorem dX9_restore_18 : decode cX9_restore 18 = .ok (.ifCond .ne 6, 3) := by decide +kernel
theorem dX9_restore_21 : decode cX9_restore 21 = .ok (.bipush (-3), 2) := by decide +kernel
theorem dX9_restore_23 : decode cX9_restore 23 = .ok (.ireturn, 1) := by decide +kernel
theorem dX9_restore_24 : decode cX9_restore 24 = .ok (.bipush 70, 2) := by decide +kernel
theorem dX9_restore_26 : decode cX9_restore 26 = .ok (.iload_n 1, 1) := by decide +kernel
theorem dX9_restore_27 : decode cX9_restore 27 = .ok (.imul, 1) := by decide +kernel
theorem dX9_restore_28 : decode cX9_restore 28 = .ok (.istore_n 2, 1) := by decide +kernel
theorem dX9_restore_29 : decode cX9_restore 29 = .ok (.iconst 0, 1) := by decide +kernel
theorem dX9_restore_30 : decode cX9_restore 30 = .ok (.istore_n 3, 1) := by decide +kernel
theorem dX9_restore_31 : decode cX9_restore 31 = .ok (.iload_n 3, 1) := by decide +kernel
theorem dX9_restore_32 : decode cX9_restore 32 = .ok (.bipush 12, 2) := by decide +kernel
theorem dX9_restore_34 : decode cX9_restore 34 = .ok (.if_icmp .ge 40, 3) := by decide +kernel
theorem dX9_restore_37 : decode cX9_restore 37 = .ok (.aload_n 0, 1) := by decide +kernel
theorem dX9_restore_38 : decode cX9_restore 38 = .ok (.getfield 7, 3) := by decide +kernel
theorem dX9_restore_41 : decode cX9_restore 41 = .ok (.iload_n 3, 1) := by decide +kernel
theorem dX9_restore_42 : decode cX9_restore 42 = .ok (.aload_n 0, 1) := by decide +kernel
theorem dX9_restore_43 : decode cX9_restore 43 = .ok (.getfield 47, 3) := by decide +kernel
theorem dX9_restore_46 : decode cX9_restore 46 = .ok (.iload_n 2, 1) := by decide +kernel
theorem dX9_restore_47 : decode cX9_restore 47 = .ok (.iload_n 3, 1) := by decide +kernel
theorem dX9_restore_48 : decode cX9_restore 48 = .ok (.iadd, 1) := by decide +kernel
theorem dX9_restore_49 : decode cX9_restore 49 = .ok (.iaload, 1) := by decide +kernel
theorem dX9_restore_50 : decode cX9_restore 50 = .ok (.iastore, 1) := by decide +kernel
theorem dX9_restore_51 : decode cX9_restore 51 = .ok (.aload_n 0, 1) := by decide +kernel
theorem dX9_restore_52 : decode cX9_restore 52 = .ok (.getfield 26, 3) := by decide +kernel
theorem dX9_restore_55 : decode cX9_restore 55 = .ok (.iload_n 3, 1) := by decide +kernel
theorem dX9_restore_56 : decode cX9_restore 56 = .ok (.aload_n 0, 1) := by decide +kernel
theorem dX9_restore_57 : decode cX9_restore 57 = .ok (.getfield 47, 3) := by decide +kernel
theorem dX9_restore_60 : decode cX9_restore 60 = .ok (.iload_n 2, 1) := by decide +kernel
theorem dX9_restore_61 : decode cX9_restore 61 = .ok (.bipush 12, 2) := by decide +kernel
theorem dX9_restore_63 : decode cX9_restore 63 = .ok (.iadd, 1) := by decide +kernel
theorem dX9_restore_64 : decode cX9_restore 64 = .ok (.iload_n 3, 1) := by decide +kernel
theorem dX9_restore_65 : decode cX9_restore 65 = .ok (.iadd, 1) := by decide +kernel
theorem dX9_restore_66 : decode cX9_restore 66 = .ok (.iaload, 1) := by decide +kernel
theorem dX9_restore_67 : decode cX9_restore 67 = .ok (.iastore, 1) := by decide +kernel
theorem dX9_restore_68 : decode cX9_restore 68 = .ok (.iinc 3 1, 3) := by decide +kernel
theorem dX9_restore_71 : decode cX9_restore 71 = .ok (.goto (-40), 3) := by decide +kernel
theorem dX9_restore_74 : decode cX9_restore 74 = .ok (.iconst 0, 1) := by decide +kernel
theorem dX9_restore_75 : decode cX9_restore 75 = .ok (.istore_n 3, 1) := by decide +kernel
theorem dX9_restore_76 : decode cX9_restore 76 = .ok (.iload_n 3, 1) := by decide +kernel
theorem dX9_restore_77 : decode cX9_restore 77 = .ok (.bipush 8, 2) := by decide +kernel
theorem dX9_restore_79 : decode cX9_restore 79 = .ok (.if_icmp .ge 26, 3) := by decide +kernel
theorem dX9_restore_82 : decode cX9_restore 82 = .ok (.aload_n 0, 1) := by decide +kernel
theorem dX9_restore_83 : decode cX9_restore 83 = .ok (.getfield 16, 3) := by decide +kernel
theorem dX9_restore_86 : decode cX9_restore 86 = .ok (.iload_n 3, 1) := by decide +kernel
theorem dX9_restore_87 : decode cX9_restore 87 = .ok (.aload_n 0, 1) := by decide +kernel
theorem dX9_restore_88 : decode cX9_restore 88 = .ok (.getfield 47, 3) := by decide +kernel
theorem dX9_restore_91 : decode cX9_restore 91 = .ok (.iload_n 2, 1) := by decide +kernel
theorem dX9_restore_92 : decode cX9_restore 92 = .ok (.bipush 24, 2) := by decide +kernel
theorem dX9_restore_94 : decode cX9_restore 94 = .ok (.iadd, 1) := by decide +kernel
theorem dX9_restore_95 : decode cX9_restore 95 = .ok (.iload_n 3, 1) := by decide +kernel
theorem dX9_restore_96 : decode cX9_restore 96 = .ok (.iadd, 1) := by decide +kernel
theorem dX9_restore_97 : decode cX9_restore 97 = .ok (.iaload, 1) := by decide +kernel
theorem dX9_restore_98 : decode cX9_restore 98 = .ok (.iastore, 1) := by decide +kernel
theorem dX9_restore_99 : decode cX9_restore 99 = .ok (.iinc 3 1, 3) := by decide +kernel
theorem dX9_restore_102 : decode cX9_restore 102 = .ok (.goto (-26), 3) := by decide +kernel
theorem dX9_restore_105 : decode cX9_restore 105 = .ok (.iconst 0, 1) := by decide +kernel
theorem dX9_restore_106 : decode cX9_restore 106 = .ok (.istore_n 3, 1) := by decide +kernel
theorem dX9_restore_107 : decode cX9_restore 107 = .ok (.iload_n 3, 1) := by decide +kernel
theorem dX9_restore_108 : decode cX9_restore 108 = .ok (.bipush 24, 2) := by decide +kernel
theorem dX9_restore_110 : decode cX9_restore 110 = .ok (.if_icmp .ge 26, 3) := by decide +kernel
theorem dX9_restore_113 : decode cX9_restore 113 = .ok (.aload_n 0, 1) := by decide +kernel
theorem dX9_restore_114 : decode cX9_restore 114 = .ok (.getfield 29, 3) := by decide +kernel
theorem dX9_restore_117 : decode cX9_restore 117 = .ok (.iload_n 3, 1) := by decide +kernel
theorem dX9_restore_118 : decode cX9_restore 118 = .ok (.aload_n 0, 1) := by decide +kernel
theorem dX9_restore_119 : decode cX9_restore 119 = .ok (.getfield 47, 3) := by decide +kernel
theorem dX9_restore_122 : decode cX9_restore 122 = .ok (.iload_n 2, 1) := by decide +kernel
theorem dX9_restore_123 : decode cX9_restore 123 = .ok (.bipush 32, 2) := by decide +kernel
theorem dX9_restore_125 : decode cX9_restore 125 = .ok (.iadd, 1) := by decide +kernel
theorem dX9_restore_126 : decode cX9_restore 126 = .ok (.iload_n 3, 1) := by decide +kernel
theorem dX9_restore_127 : decode cX9_restore 127 = .ok (.iadd, 1) := by decide +kernel
theorem dX9_restore_128 : decode cX9_restore 128 = .ok (.iaload, 1) := by decide +kernel
theorem dX9_restore_129 : decode cX9_restore 129 = .ok (.iastore, 1) := by decide +kernel
theorem dX9_restore_130 : decode cX9_restore 130 = .ok (.iinc 3 1, 3) := by decide +kernel
theorem dX9_restore_133 : decode cX9_restore 133 = .ok (.goto (-26), 3) := by decide +kernel
theorem dX9_restore_136 : decode cX9_restore 136 = .ok (.aload_n 0, 1) := by decide +kernel
theorem dX9_restore_137 : decode cX9_restore 137 = .ok (.aload_n 0, 1) := by decide +kernel
theorem dX9_restore_138 : decode cX9_restore 138 = .ok (.getfield 47, 3) := by decide +kernel
theorem dX9_restore_141 : decode cX9_restore 141 = .ok (.iload_n 2, 1) := by decide +kernel
theorem dX9_restore_142 : decode cX9_restore 142 = .ok (.bipush 60, 2) := by decide +kernel
theorem dX9_restore_144 : decode cX9_restore 144 = .ok (.iadd, 1) := by decide +kernel
theorem dX9_restore_145 : decode cX9_restore 145 = .ok (.iaload, 1) := by decide +kernel
theorem dX9_restore_146 : decode cX9_restore 146 = .ok (.putfield 19, 3) := by decide +kernel
theorem dX9_restore_149 : decode cX9_restore 149 = .ok (.aload_n 0, 1) := by decide +kernel
theorem dX9_restore_150 : decode cX9_restore 150 = .ok (.aload_n 0, 1) := by decide +kernel
theorem dX9_restore_151 : decode cX9_restore 151 = .ok (.getfield 47, 3) := by decide +kernel
theorem dX9_restore_154 : decode cX9_restore 154 = .ok (.iload_n 2, 1) := by decide +kernel
theorem dX9_restore_155 : decode cX9_restore 155 = .ok (.bipush 61, 2) := by decide +kernel
theorem dX9_restore_157 : decode cX9_restore 157 = .ok (.iadd, 1) := by decide +kernel
theorem dX9_restore_158 : decode cX9_restore 158 = .ok (.iaload, 1) := by decide +kernel
theorem dX9_restore_159 : decode cX9_restore 159 = .ok (.putfield 23, 3) := by decide +kernel
theorem dX9_restore_162 : decode cX9_restore 162 = .ok (.aload_n 0, 1) := by decide +kernel
theorem dX9_restore_163 : decode cX9_restore 163 = .ok (.aload_n 0, 1) := by decide +kernel
theorem dX9_restore_164 : decode cX9_restore 164 = .ok (.getfield 47, 3) := by decide +kernel
theorem dX9_restore_167 : decode cX9_restore 167 = .ok (.iload_n 2, 1) := by decide +kernel
theorem dX9_restore_168 : decode cX9_restore 168 = .ok (.bipush 62, 2) := by decide +kernel
theorem dX9_restore_170 : decode cX9_restore 170 = .ok (.iadd, 1) := by decide +kernel
theorem dX9_restore_171 : decode cX9_restore 171 = .ok (.iaload, 1) := by decide +kernel
theorem dX9_restore_172 : decode cX9_restore 172 = .ok (.putfield 70, 3) := by decide +kernel
theorem dX9_restore_175 : decode cX9_restore 175 = .ok (.aload_n 0, 1) := by decide +kernel
theorem dX9_restore_176 : decode cX9_restore 176 = .ok (.aload_n 0, 1) := by decide +kernel
theorem dX9_restore_177 : decode cX9_restore 177 = .ok (.getfield 47, 3) := by decide +kernel
theorem dX9_restore_180 : decode cX9_restore 180 = .ok (.iload_n 2, 1) := by decide +kernel
theorem dX9_restore_181 : decode cX9_restore 181 = .ok (.bipush 63, 2) := by decide +kernel
theorem dX9_restore_183 : decode cX9_restore 183 = .ok (.iadd, 1) := by decide +kernel
theorem dX9_restore_184 : decode cX9_restore 184 = .ok (.iaload, 1) := by decide +kernel
theorem dX9_restore_185 : decode cX9_restore 185 = .ok (.putfield 156, 3) := by decide +kernel
theorem dX9_restore_188 : decode cX9_restore 188 = .ok (.iconst 1, 1) := by decide +kernel
theorem dX9_restore_189 : decode cX9_restore 189 = .ok (.ireturn, 1) := by decide +kernel
theorem dX9_told_0 : decode cX9_told 0 = .ok (.iload_n 1, 1) := by decide +kernel
theorem dX9_told_1 : decode cX9_told 1 = .ok (.bipush 100, 2) := by decide +kernel
theorem dX9_told_3 : decode cX9_told 3 = .ok (.if_icmp .lt 73, 3) := by decide +kernel
theorem dX9_told_6 : decode cX9_told 6 = .ok (.iload_n 1, 1) := by decide +kernel
theorem dX9_told_7 : decode cX9_told 7 = .ok (.bipush 10, 2) := by decide +kernel
theorem dX9_told_9 : decode cX9_told 9 = .ok (.idiv, 1) := by decide +kernel
theorem dX9_told_10 : decode cX9_told 10 = .ok (.bipush 10, 2) := by decide +kernel
theorem dX9_told_12 : decode cX9_told 12 = .ok (.isub, 1) := by decide +kernel
theorem dX9_told_13 : decode cX9_told 13 = .ok (.istore_n 2, 1) := by decide +kernel
theorem dX9_told_14 : decode cX9_told 14 = .ok (.iload_n 1, 1) := by decide +kernel
theorem dX9_told_15 : decode cX9_told 15 = .ok (.bipush 10, 2) := by decide +kernel
theorem dX9_told_17 : decode cX9_told 17 = .ok (.irem, 1) := by decide +kernel
theorem dX9_told_18 : decode cX9_told 18 = .ok (.istore_n 3, 1) := by decide +kernel
theorem dX9_told_19 : decode cX9_told 19 = .ok (.aload_n 0, 1) := by decide +kernel
theorem dX9_told_20 : decode cX9_told 20 = .ok (.iload_n 2, 1) := by decide +kernel
theorem dX9_told_21 : decode cX9_told 21 = .ok (.invokevirtual 139, 3) := by decide +kernel
theorem dX9_told_24 : decode cX9_told 24 = .ok (.ifCond .eq 8, 3) := by decide +kernel
theorem dX9_told_27 : decode cX9_told 27 = .ok (.iload_n 3, 1) := by decide +kernel
theorem dX9_told_28 : decode cX9_told 28 = .ok (.iconst 2, 1) := by decide +kernel
theorem dX9_told_29 : decode cX9_told 29 = .ok (.if_icmp .le 8, 3) := by decide +kernel
theorem dX9_told_32 : decode cX9_told 32 = .ok (.bipush (-2), 2) := by decide +kernel
theorem dX9_told_34 : decode cX9_told 34 = .ok (.goto 41, 3) := by decide +kernel
theorem dX9_told_37 : decode cX9_told 37 = .ok (.iload_n 3, 1) := by decide +kernel
theorem dX9_told_38 : decode cX9_told 38 = .ok (.ifCond .ne 12, 3) := by decide +kernel
theorem dX9_told_41 : decode cX9_told 41 = .ok (.aload_n 0, 1) := by decide +kernel
theorem dX9_told_42 : decode cX9_told 42 = .ok (.getfield 16, 3) := by decide +kernel
theorem dX9_told_45 : decode cX9_told 45 = .ok (.iload_n 2, 1) := by decide +kernel
theorem dX9_told_46 : decode cX9_told 46 = .ok (.iaload, 1) := by decide +kernel
theorem dX9_told_47 : decode cX9_told 47 = .ok (.goto 28, 3) := by decide +kernel
theorem dX9_told_50 : decode cX9_told 50 = .ok (.iload_n 3, 1) := by decide +kernel
theorem dX9_told_51 : decode cX9_told 51 = .ok (.iconst 1, 1) := by decide +kernel
theorem dX9_told_52 : decode cX9_told 52 = .ok (.if_icmp .ne 17, 3) := by decide +kernel
theorem dX9_told_55 : decode cX9_told 55 = .ok (.aload_n 0, 1) := by decide +kernel
theorem dX9_told_56 : decode cX9_told 56 = .ok (.getfield 7, 3) := by decide +kernel
theorem dX9_told_59 : decode cX9_told 59 = .ok (.bipush 9, 2) := by decide +kernel
theorem dX9_told_61 : decode cX9_told 61 = .ok (.iaload, 1) := by decide +kernel
theorem dX9_told_62 : decode cX9_told 62 = .ok (.iload_n 2, 1) := by decide +kernel
theorem dX9_told_63 : decode cX9_told 63 = .ok (.ishr, 1) := by decide +kernel
theorem dX9_told_64 : decode cX9_told 64 = .ok (.iconst 1, 1) := by decide +kernel
theorem dX9_told_65 : decode cX9_told 65 = .ok (.iand, 1) := by decide +kernel
theorem dX9_told_66 : decode cX9_told 66 = .ok (.goto 9, 3) := by decide +kernel
theorem dX9_told_69 : decode cX9_told 69 = .ok (.aload_n 0, 1) := by decide +kernel
theorem dX9_told_70 : decode cX9_told 70 = .ok (.getfield 7, 3) := by decide +kernel
theorem dX9_told_73 : decode cX9_told 73 = .ok (.iload_n 2, 1) := by decide +kernel
theorem dX9_told_74 : decode cX9_told 74 = .ok (.iaload, 1) := by decide +kernel
theorem dX9_told_75 : decode cX9_told 75 = .ok (.ireturn, 1) := by decide +kernel
theorem dX9_told_76 : decode cX9_told 76 = .ok (.iload_n 1, 1) := by decide +kernel
theorem dX9_told_77 : decode cX9_told 77 = .ok (.bipush 10, 2) := by decide +kernel
theorem dX9_told_79 : decode cX9_told 79 = .ok (.if_icmp .lt 28, 3) := by decide +kernel
theorem dX9_told_82 : decode cX9_told 82 = .ok (.iload_n 1, 1) := by decide +kernel
theorem dX9_told_83 : decode cX9_told 83 = .ok (.bipush 10, 2) := by decide +kernel
theorem dX9_told_85 : decode cX9_told 85 = .ok (.isub, 1) := by decide +kernel
theorem dX9_told_86 : decode cX9_told 86 = .ok (.invokestatic 66, 3) := by decide +kernel
theorem dX9_told_89 : decode cX9_told 89 = .ok (.ifCond .eq 15, 3) := by decide +kernel
theorem dX9_told_92 : decode cX9_told 92 = .ok (.aload_n 0, 1) := by decide +kernel
theorem dX9_told_93 : decode cX9_told 93 = .ok (.getfield 26, 3) := by decide +kernel
theorem dX9_told_96 : decode cX9_told 96 = .ok (.iload_n 1, 1) := by decide +kernel
theorem dX9_told_97 : decode cX9_told 97 = .ok (.bipush 10, 2) := by decide +kernel
theorem dX9_told_99 : decode cX9_told 99 = .ok (.isub, 1) := by decide +kernel
theorem dX9_told_100 : decode cX9_told 100 = .ok (.iaload, 1) := by decide +kernel
theorem dX9_told_101 : decode cX9_told 101 = .ok (.goto 5, 3) := by decide +kernel
theorem dX9_told_104 : decode cX9_told 104 = .ok (.bipush (-2), 2) := by decide +kernel
theorem dX9_told_106 : decode cX9_told 106 = .ok (.ireturn, 1) := by decide +kernel
theorem dX9_told_107 : decode cX9_told 107 = .ok (.aload_n 0, 1) := by decide +kernel
theorem dX9_told_108 : decode cX9_told 108 = .ok (.invokevirtual 111, 3) := by decide +kernel
theorem dX9_told_111 : decode cX9_told 111 = .ok (.iload_n 1, 1) := by decide +kernel
theorem dX9_told_112 : decode cX9_told 112 = .ok (.tableswitch 97 0 7 #[48, 53, 61, 66, 74, 79, 84, 92], 48) := by decide +kernel
theorem dX9_told_160 : decode cX9_told 160 = .ok (.aload_n 0, 1) := by decide +kernel
theorem dX9_told_161 : decode cX9_told 161 = .ok (.getfield 73, 3) := by decide +kernel
theorem dX9_told_164 : decode cX9_told 164 = .ok (.ireturn, 1) := by decide +kernel
theorem dX9_told_165 : decode cX9_told 165 = .ok (.aload_n 0, 1) := by decide +kernel
theorem dX9_told_166 : decode cX9_told 166 = .ok (.getfield 7, 3) := by decide +kernel
theorem dX9_told_169 : decode cX9_told 169 = .ok (.bipush 8, 2) := by decide +kernel
theorem dX9_told_171 : decode cX9_told 171 = .ok (.iaload, 1) := by decide +kernel
theorem dX9_told_172 : decode cX9_told 172 = .ok (.ireturn, 1) := by decide +kernel
theorem dX9_told_173 : decode cX9_told 173 = .ok (.aload_n 0, 1) := by decide +kernel
theorem dX9_told_174 : decode cX9_told 174 = .ok (.invokevirtual 117, 3) := by decide +kernel
theorem dX9_told_177 : decode cX9_told 177 = .ok (.ireturn, 1) := by decide +kernel
theorem dX9_told_178 : decode cX9_told 178 = .ok (.aload_n 0, 1) := by decide +kernel
theorem dX9_told_179 : decode cX9_told 179 = .ok (.getfield 7, 3) := by decide +kernel
theorem dX9_told_182 : decode cX9_told 182 = .ok (.bipush 10, 2) := by decide +kernel
theorem dX9_told_184 : decode cX9_told 184 = .ok (.iaload, 1) := by decide +kernel
theorem dX9_told_185 : decode cX9_told 185 = .ok (.ireturn, 1) := by decide +kernel
theorem dX9_told_186 : decode cX9_told 186 = .ok (.aload_n 0, 1) := by decide +kernel
theorem dX9_told_187 : decode cX9_told 187 = .ok (.getfield 19, 3) := by decide +kernel
theorem dX9_told_190 : decode cX9_told 190 = .ok (.ireturn, 1) := by decide +kernel
theorem dX9_told_191 : decode cX9_told 191 = .ok (.aload_n 0, 1) := by decide +kernel
theorem dX9_told_192 : decode cX9_told 192 = .ok (.getfield 23, 3) := by decide +kernel
theorem dX9_told_195 : decode cX9_told 195 = .ok (.ireturn, 1) := by decide +kernel
theorem dX9_told_196 : decode cX9_told 196 = .ok (.aload_n 0, 1) := by decide +kernel
theorem dX9_told_197 : decode cX9_told 197 = .ok (.getfield 7, 3) := by decide +kernel
theorem dX9_told_200 : decode cX9_told 200 = .ok (.bipush 11, 2) := by decide +kernel
theorem dX9_told_202 : decode cX9_told 202 = .ok (.iaload, 1) := by decide +kernel
theorem dX9_told_203 : decode cX9_told 203 = .ok (.ireturn, 1) := by decide +kernel
theorem dX9_told_204 : decode cX9_told 204 = .ok (.aload_n 0, 1) := by decide +kernel
theorem dX9_told_205 : decode cX9_told 205 = .ok (.getfield 70, 3) := by decide +kernel
theorem dX9_told_208 : decode cX9_told 208 = .ok (.ireturn, 1) := by decide +kernel
theorem dX9_told_209 : decode cX9_told 209 = .ok (.iload_n 1, 1) := by decide +kernel
theorem dX9_told_210 : decode cX9_told 210 = .ok (.bipush 8, 2) := by decide +kernel
theorem dX9_told_212 : decode cX9_told 212 = .ok (.if_icmp .ne 10, 3) := by decide +kernel
theorem dX9_told_215 : decode cX9_told 215 = .ok (.aload_n 0, 1) := by decide +kernel
theorem dX9_told_216 : decode cX9_told 216 = .ok (.getfield 156, 3) := by decide +kernel
theorem dX9_told_219 : decode cX9_told 219 = .ok (.goto 5, 3) := by decide +kernel
theorem dX9_told_222 : decode cX9_told 222 = .ok (.bipush (-2), 2) := by decide +kernel
theorem dX9_told_224 : decode cX9_told 224 = .ok (.ireturn, 1) := by decide +kernel
