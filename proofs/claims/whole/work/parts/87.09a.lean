theorem dX7_readProgram_19 : decode cX7_readProgram 19 = .ok (.aload_n 0, 1) := by decide +kernel
theorem dX7_readProgram_20 : decode cX7_readProgram 20 = .ok (.invokevirtual 61, 3) := by decide +kernel
theorem dX7_readProgram_23 : decode cX7_readProgram 23 = .ok (.aload_n 0, 1) := by decide +kernel
theorem dX7_readProgram_24 : decode cX7_readProgram 24 = .ok (.dup, 1) := by decide +kernel
theorem dX7_readProgram_25 : decode cX7_readProgram 25 = .ok (.getfield 54, 3) := by decide +kernel
theorem dX7_readProgram_28 : decode cX7_readProgram 28 = .ok (.iconst 1, 1) := by decide +kernel
theorem dX7_readProgram_29 : decode cX7_readProgram 29 = .ok (.iadd, 1) := by decide +kernel
theorem dX7_readProgram_30 : decode cX7_readProgram 30 = .ok (.putfield 54, 3) := by decide +kernel
theorem dX7_readProgram_33 : decode cX7_readProgram 33 = .ok (.goto (-33), 3) := by decide +kernel
theorem dX7_readProgram_55 : decode cX7_readProgram 55 = .ok (.aload_n 0, 1) := by decide +kernel
theorem dX7_readProgram_56 : decode cX7_readProgram 56 = .ok (.invokevirtual 67, 3) := by decide +kernel
theorem dX7_readProgram_59 : decode cX7_readProgram 59 = .ok (.aload_n 0, 1) := by decide +kernel
theorem dX7_readProgram_60 : decode cX7_readProgram 60 = .ok (.dup, 1) := by decide +kernel
theorem dX7_readProgram_61 : decode cX7_readProgram 61 = .ok (.getfield 64, 3) := by decide +kernel
theorem dX7_readProgram_64 : decode cX7_readProgram 64 = .ok (.iconst 1, 1) := by decide +kernel
theorem dX7_readProgram_65 : decode cX7_readProgram 65 = .ok (.iadd, 1) := by decide +kernel
theorem dX7_readProgram_66 : decode cX7_readProgram 66 = .ok (.putfield 64, 3) := by decide +kernel
theorem dX7_readProgram_69 : decode cX7_readProgram 69 = .ok (.goto (-33), 3) := by decide +kernel
theorem dX7_readProgram_88 : decode cX7_readProgram 88 = .ok (.aload_n 0, 1) := by decide +kernel
theorem dX7_readProgram_89 : decode cX7_readProgram 89 = .ok (.invokevirtual 78, 3) := by decide +kernel
theorem dX7_readRec_0 : decode cX7_readRec 0 = .ok (.aload_n 1, 1) := by decide +kernel
theorem dX7_readRec_1 : decode cX7_readRec 1 = .ok (.sipush 219, 3) := by decide +kernel
theorem dX7_readRec_4 : decode cX7_readRec 4 = .ok (.putfield 226, 3) := by decide +kernel
theorem dX7_readRec_7 : decode cX7_readRec 7 = .ok (.aload_n 0, 1) := by decide +kernel
theorem dX7_readRec_8 : decode cX7_readRec 8 = .ok (.invokevirtual 98, 3) := by decide +kernel
theorem dX7_readRec_11 : decode cX7_readRec 11 = .ok (.aload_n 0, 1) := by decide +kernel
theorem dX7_readRec_12 : decode cX7_readRec 12 = .ok (.aload_n 1, 1) := by decide +kernel
theorem dX7_readRec_13 : decode cX7_readRec 13 = .ok (.invokevirtual 228, 3) := by decide +kernel
theorem dX7_readRec_16 : decode cX7_readRec 16 = .ok (.aload_n 1, 1) := by decide +kernel
theorem dX7_readRec_17 : decode cX7_readRec 17 = .ok (.aload_n 0, 1) := by decide +kernel
theorem dX7_readRec_18 : decode cX7_readRec 18 = .ok (.invokevirtual 124, 3) := by decide +kernel
theorem dX7_readRec_21 : decode cX7_readRec 21 = .ok (.putfield 221, 3) := by decide +kernel
theorem dX7_readRec_24 : decode cX7_readRec 24 = .ok (.aload_n 0, 1) := by decide +kernel
theorem dX7_readRec_25 : decode cX7_readRec 25 = .ok (.aload_n 1, 1) := by decide +kernel
theorem dX7_readRec_26 : decode cX7_readRec 26 = .ok (.getfield 221, 3) := by decide +kernel
theorem dX7_readRec_29 : decode cX7_readRec 29 = .ok (.invokevirtual 131, 3) := by decide +kernel
theorem dX7_readRec_32 : decode cX7_readRec 32 = .ok (.iconst 0, 1) := by decide +kernel
theorem dX7_readRec_33 : decode cX7_readRec 33 = .ok (.istore_n 3, 1) := by decide +kernel
theorem dX7_readRec_34 : decode cX7_readRec 34 = .ok (.iload_n 3, 1) := by decide +kernel
theorem dX7_readRec_35 : decode cX7_readRec 35 = .ok (.iconst 4, 1) := by decide +kernel
theorem dX7_readRec_36 : decode cX7_readRec 36 = .ok (.if_icmp .ge 26, 3) := by decide +kernel
theorem dX7_readRec_39 : decode cX7_readRec 39 = .ok (.iload_n 3, 1) := by decide +kernel
theorem dX7_readRec_40 : decode cX7_readRec 40 = .ok (.ifCond .eq 11, 3) := by decide +kernel
theorem dX7_readRec_43 : decode cX7_readRec 43 = .ok (.aload_n 0, 1) := by decide +kernel
theorem dX7_readRec_44 : decode cX7_readRec 44 = .ok (.invokevirtual 57, 3) := by decide +kernel
theorem dX7_readRec_47 : decode cX7_readRec 47 = .ok (.iconst 1, 1) := by decide +kernel
theorem dX7_readRec_48 : decode cX7_readRec 48 = .ok (.if_icmp .ne 14, 3) := by decide +kernel
theorem dX7_readRec_51 : decode cX7_readRec 51 = .ok (.aload_n 0, 1) := by decide +kernel
theorem dX7_readRec_52 : decode cX7_readRec 52 = .ok (.aload_n 1, 1) := by decide +kernel
theorem dX7_readRec_53 : decode cX7_readRec 53 = .ok (.invokevirtual 232, 3) := by decide +kernel
theorem dX7_readRec_56 : decode cX7_readRec 56 = .ok (.iinc 3 1, 3) := by decide +kernel
theorem dX7_readRec_59 : decode cX7_readRec 59 = .ok (.goto (-25), 3) := by decide +kernel
theorem dX7_readRec_62 : decode cX7_readRec 62 = .ok (.aload_n 0, 1) := by decide +kernel
theorem dX7_readRec_63 : decode cX7_readRec 63 = .ok (.bipush 61, 2) := by decide +kernel
theorem dX7_readRec_65 : decode cX7_readRec 65 = .ok (.invokevirtual 109, 3) := by decide +kernel
theorem dX7_readRec_68 : decode cX7_readRec 68 = .ok (.aload_n 1, 1) := by decide +kernel
theorem dX7_readRec_69 : decode cX7_readRec 69 = .ok (.aload_n 0, 1) := by decide +kernel
theorem dX7_readRec_70 : decode cX7_readRec 70 = .ok (.iload_n 2, 1) := by decide +kernel
theorem dX7_readRec_71 : decode cX7_readRec 71 = .ok (.iconst 1, 1) := by decide +kernel
theorem dX7_readRec_72 : decode cX7_readRec 72 = .ok (.iadd, 1) := by decide +kernel
theorem dX7_readRec_73 : decode cX7_readRec 73 = .ok (.invokevirtual 70, 3) := by decide +kernel
theorem dX7_readRec_76 : decode cX7_readRec 76 = .ok (.putfield 212, 3) := by decide +kernel
theorem dX7_readRec_79 : decode cX7_readRec 79 = .ok (.aload_n 0, 1) := by decide +kernel
theorem dX7_readRec_80 : decode cX7_readRec 80 = .ok (.sipush 208, 3) := by decide +kernel
theorem dX7_readRec_83 : decode cX7_readRec 83 = .ok (.invokevirtual 109, 3) := by decide +kernel
theorem dX7_readRec_86 : decode cX7_readRec 86 = .ok (.aload_n 0, 1) := by decide +kernel
theorem dX7_readRec_87 : decode cX7_readRec 87 = .ok (.dup, 1) := by decide +kernel
theorem dX7_readRec_88 : decode cX7_readRec 88 = .ok (.getfield 103, 3) := by decide +kernel
theorem dX7_readRec_91 : decode cX7_readRec 91 = .ok (.aload_n 1, 1) := by decide +kernel
theorem dX7_readRec_92 : decode cX7_readRec 92 = .ok (.getfield 235, 3) := by decide +kernel
theorem dX7_readRec_95 : decode cX7_readRec 95 = .ok (.invokevirtual 238, 3) := by decide +kernel
theorem dX7_readRec_98 : decode cX7_readRec 98 = .ok (.isub, 1) := by decide +kernel
theorem dX7_readRec_99 : decode cX7_readRec 99 = .ok (.putfield 103, 3) := by decide +kernel
theorem dX7_readRec_102 : decode cX7_readRec 102 = .ok (.aload_n 1, 1) := by decide +kernel
theorem dX7_readRec_103 : decode cX7_readRec 103 = .ok (.aload_n 0, 1) := by decide +kernel
theorem dX7_readRec_104 : decode cX7_readRec 104 = .ok (.iload_n 2, 1) := by decide +kernel
theorem dX7_readRec_105 : decode cX7_readRec 105 = .ok (.iconst 1, 1) := by decide +kernel
theorem dX7_readRec_106 : decode cX7_readRec 106 = .ok (.iadd, 1) := by decide +kernel
theorem dX7_readRec_107 : decode cX7_readRec 107 = .ok (.invokevirtual 70, 3) := by decide +kernel
theorem dX7_readRec_110 : decode cX7_readRec 110 = .ok (.putfield 223, 3) := by decide +kernel
theorem dX7_readRec_113 : decode cX7_readRec 113 = .ok (.aload_n 0, 1) := by decide +kernel
theorem dX7_readRec_114 : decode cX7_readRec 114 = .ok (.dup, 1) := by decide +kernel
theorem dX7_readRec_115 : decode cX7_readRec 115 = .ok (.getfield 103, 3) := by decide +kernel
theorem dX7_readRec_118 : decode cX7_readRec 118 = .ok (.iconst 1, 1) := by decide +kernel
theorem dX7_readRec_119 : decode cX7_readRec 119 = .ok (.isub, 1) := by decide +kernel
theorem dX7_readRec_120 : decode cX7_readRec 120 = .ok (.putfield 103, 3) := by decide +kernel
theorem dX7_readRec_123 : decode cX7_readRec 123 = .ok (.return_, 1) := by decide +kernel
theorem dX7_readSet_0 : decode cX7_readSet 0 = .ok (.aload_n 0, 1) := by decide +kernel
theorem dX7_readSet_1 : decode cX7_readSet 1 = .ok (.invokevirtual 98, 3) := by decide +kernel
theorem dX7_readSet_4 : decode cX7_readSet 4 = .ok (.aload_n 0, 1) := by decide +kernel
theorem dX7_readSet_5 : decode cX7_readSet 5 = .ok (.aload_n 1, 1) := by decide +kernel
theorem dX7_readSet_6 : decode cX7_readSet 6 = .ok (.invokevirtual 252, 3) := by decide +kernel
theorem dX7_readSet_9 : decode cX7_readSet 9 = .ok (.aload_n 0, 1) := by decide +kernel
theorem dX7_readSet_10 : decode cX7_readSet 10 = .ok (.bipush 61, 2) := by decide +kernel
theorem dX7_readSet_12 : decode cX7_readSet 12 = .ok (.invokevirtual 109, 3) := by decide +kernel
theorem dX7_readSet_15 : decode cX7_readSet 15 = .ok (.aload_n 1, 1) := by decide +kernel
theorem dX7_readSet_16 : decode cX7_readSet 16 = .ok (.aload_n 0, 1) := by decide +kernel
theorem dX7_readSet_17 : decode cX7_readSet 17 = .ok (.invokevirtual 185, 3) := by decide +kernel
theorem dX7_readSet_20 : decode cX7_readSet 20 = .ok (.putfield 255, 3) := by decide +kernel
theorem dX7_readSet_23 : decode cX7_readSet 23 = .ok (.aload_n 0, 1) := by decide +kernel
theorem dX7_readSet_24 : decode cX7_readSet 24 = .ok (.bipush 59, 2) := by decide +kernel
theorem dX7_readSet_26 : decode cX7_readSet 26 = .ok (.invokevirtual 109, 3) := by decide +kernel
theorem dX7_readSet_29 : decode cX7_readSet 29 = .ok (.aload_n 1, 1) := by decide +kernel
theorem dX7_readSet_30 : decode cX7_readSet 30 = .ok (.aload_n 0, 1) := by decide +kernel
theorem dX7_readSet_31 : decode cX7_readSet 31 = .ok (.iload_n 2, 1) := by decide +kernel
theorem dX7_readSet_32 : decode cX7_readSet 32 = .ok (.iconst 1, 1) := by decide +kernel
theorem dX7_readSet_33 : decode cX7_readSet 33 = .ok (.iadd, 1) := by decide +kernel
theorem dX7_readSet_34 : decode cX7_readSet 34 = .ok (.invokevirtual 70, 3) := by decide +kernel
theorem dX7_readSet_37 : decode cX7_readSet 37 = .ok (.putfield 212, 3) := by decide +kernel
theorem dX7_readSet_40 : decode cX7_readSet 40 = .ok (.return_, 1) := by decide +kernel
theorem dX10_init_0 : decode cX10_init 0 = .ok (.aload_n 0, 1) := by decide +kernel
theorem dX10_init_1 : decode cX10_init 1 = .ok (.invokespecial 3, 3) := by decide +kernel
theorem dX10_init_4 : decode cX10_init 4 = .ok (.aload_n 0, 1) := by decide +kernel
theorem dX10_init_5 : decode cX10_init 5 = .ok (.iconst (-1), 1) := by decide +kernel
theorem dX10_init_6 : decode cX10_init 6 = .ok (.putfield 9, 3) := by decide +kernel
theorem dX10_init_9 : decode cX10_init 9 = .ok (.aload_n 0, 1) := by decide +kernel
theorem dX10_init_10 : decode cX10_init 10 = .ok (.iconst (-1), 1) := by decide +kernel
theorem dX10_init_11 : decode cX10_init 11 = .ok (.putfield 15, 3) := by decide +kernel
theorem dX10_init_14 : decode cX10_init 14 = .ok (.iconst 4, 1) := by decide +kernel
theorem dX10_init_15 : decode cX10_init 15 = .ok (.iload_n 1, 1) := by decide +kernel
theorem dX10_init_16 : decode cX10_init 16 = .ok (.imul, 1) := by decide +kernel
theorem dX10_init_17 : decode cX10_init 17 = .ok (.bipush 8, 2) := by decide +kernel
theorem dX10_init_19 : decode cX10_init 19 = .ok (.iadd, 1) := by decide +kernel
theorem dX10_init_20 : decode cX10_init 20 = .ok (.istore_n 2, 1) := by decide +kernel
theorem dX10_init_21 : decode cX10_init 21 = .ok (.aload_n 0, 1) := by decide +kernel
theorem dX10_init_22 : decode cX10_init 22 = .ok (.iload_n 2, 1) := by decide +kernel
theorem dX10_init_23 : decode cX10_init 23 = .ok (.newarray .int, 2) := by decide +kernel
theorem dX10_init_25 : decode cX10_init 25 = .ok (.putfield 18, 3) := by decide +kernel
theorem dX10_init_28 : decode cX10_init 28 = .ok (.aload_n 0, 1) := by decide +kernel
theorem dX10_init_29 : decode cX10_init 29 = .ok (.iload_n 2, 1) := by decide +kernel
theorem dX10_init_30 : decode cX10_init 30 = .ok (.newarray .int, 2) := by decide +kernel
theorem dX10_init_32 : decode cX10_init 32 = .ok (.putfield 22, 3) := by decide +kernel
theorem dX10_init_35 : decode cX10_init 35 = .ok (.aload_n 0, 1) := by decide +kernel
theorem dX10_init_36 : decode cX10_init 36 = .ok (.iload_n 2, 1) := by decide +kernel
theorem dX10_init_37 : decode cX10_init 37 = .ok (.newarray .int, 2) := by decide +kernel
theorem dX10_init_39 : decode cX10_init 39 = .ok (.putfield 25, 3) := by decide +kernel
theorem dX10_init_42 : decode cX10_init 42 = .ok (.aload_n 0, 1) := by decide +kernel
theorem dX10_init_43 : decode cX10_init 43 = .ok (.iload_n 2, 1) := by decide +kernel
theorem dX10_init_44 : decode cX10_init 44 = .ok (.newarray .int, 2) := by decide +kernel
theorem dX10_init_46 : decode cX10_init 46 = .ok (.putfield 28, 3) := by decide +kernel
theorem dX10_init_49 : decode cX10_init 49 = .ok (.aload_n 0, 1) := by decide +kernel
theorem dX10_init_50 : decode cX10_init 50 = .ok (.iload_n 2, 1) := by decide +kernel
theorem dX10_init_51 : decode cX10_init 51 = .ok (.newarray .int, 2) := by decide +kernel
theorem dX10_init_53 : decode cX10_init 53 = .ok (.putfield 31, 3) := by decide +kernel
theorem dX10_init_56 : decode cX10_init 56 = .ok (.aload_n 0, 1) := by decide +kernel
theorem dX10_init_57 : decode cX10_init 57 = .ok (.iconst 3, 1) := by decide +kernel
theorem dX10_init_58 : decode cX10_init 58 = .ok (.iload_n 2, 1) := by decide +kernel
theorem dX10_init_59 : decode cX10_init 59 = .ok (.imul, 1) := by decide +kernel
theorem dX10_init_60 : decode cX10_init 60 = .ok (.newarray .int, 2) := by decide +kernel
theorem dX10_init_62 : decode cX10_init 62 = .ok (.putfield 34, 3) := by decide +kernel
theorem dX10_init_65 : decode cX10_init 65 = .ok (.aload_n 0, 1) := by decide +kernel
theorem dX10_init_66 : decode cX10_init 66 = .ok (.sipush 210, 3) := by decide +kernel
theorem dX10_init_69 : decode cX10_init 69 = .ok (.invokevirtual 37, 3) := by decide +kernel
theorem dX10_init_72 : decode cX10_init 72 = .ok (.pop, 1) := by decide +kernel
theorem dX10_init_73 : decode cX10_init 73 = .ok (.aload_n 0, 1) := by decide +kernel
theorem dX10_init_74 : decode cX10_init 74 = .ok (.sipush 202, 3) := by decide +kernel
theorem dX10_init_77 : decode cX10_init 77 = .ok (.invokevirtual 37, 3) := by decide +kernel
theorem dX10_init_80 : decode cX10_init 80 = .ok (.pop, 1) := by decide +kernel
theorem dX10_init_81 : decode cX10_init 81 = .ok (.aload_n 0, 1) := by decide +kernel
theorem dX10_init_82 : decode cX10_init 82 = .ok (.sipush 200, 3) := by decide +kernel
theorem dX10_init_85 : decode cX10_init 85 = .ok (.invokevirtual 37, 3) := by decide +kernel
theorem dX10_init_88 : decode cX10_init 88 = .ok (.pop, 1) := by decide +kernel
theorem dX10_init_89 : decode cX10_init 89 = .ok (.aload_n 0, 1) := by decide +kernel
theorem dX10_init_90 : decode cX10_init 90 = .ok (.sipush 213, 3) := by decide +kernel
theorem dX10_init_93 : decode cX10_init 93 = .ok (.invokevirtual 37, 3) := by decide +kernel
theorem dX10_init_96 : decode cX10_init 96 = .ok (.pop, 1) := by decide +kernel
theorem dX10_init_97 : decode cX10_init 97 = .ok (.return_, 1) := by decide +kernel
theorem dX10_must_0 : decode cX10_must 0 = .ok (.aload_n 0, 1) := by decide +kernel
theorem dX10_must_1 : decode cX10_must 1 = .ok (.getfield 9, 3) := by decide +kernel
theorem dX10_must_4 : decode cX10_must 4 = .ok (.ifCond .ge 25, 3) := by decide +kernel
theorem dX10_must_7 : decode cX10_must 7 = .ok (.aload_n 0, 1) := by decide +kernel
theorem dX10_must_8 : decode cX10_must 8 = .ok (.iload_n 1, 1) := by decide +kernel
theorem dX10_must_9 : decode cX10_must 9 = .ok (.iload_n 2, 1) := by decide +kernel
theorem dX10_must_10 : decode cX10_must 10 = .ok (.invokevirtual 91, 3) := by decide +kernel
theorem dX10_must_13 : decode cX10_must 13 = .ok (.ifCond .eq 11, 3) := by decide +kernel
theorem dX10_must_16 : decode cX10_must 16 = .ok (.aload_n 0, 1) := by decide +kernel
theorem dX10_must_17 : decode cX10_must 17 = .ok (.iload_n 1, 1) := by decide +kernel
theorem dX10_must_18 : decode cX10_must 18 = .ok (.invokevirtual 95, 3) := by decide +kernel
theorem dX10_must_21 : decode cX10_must 21 = .ok (.ifCond .ne 8, 3) := by decide +kernel
theorem dX10_must_24 : decode cX10_must 24 = .ok (.aload_n 0, 1) := by decide +kernel
theorem dX10_must_25 : decode cX10_must 25 = .ok (.iload_n 3, 1) := by decide +kernel
theorem dX10_must_26 : decode cX10_must 26 = .ok (.putfield 9, 3) := by decide +kernel
theorem dX10_must_29 : decode cX10_must 29 = .ok (.return_, 1) := by decide +kernel
theorem dX10_unify_0 : decode cX10_unify 0 = .ok (.iconst 0, 1) := by decide +kernel
theorem dX10_unify_1 : decode cX10_unify 1 = .ok (.istore_n 3, 1) := by decide +kernel
theorem dX10_unify_2 : decode cX10_unify 2 = .ok (.aload_n 0, 1) := by decide +kernel
theorem dX10_unify_3 : decode cX10_unify 3 = .ok (.getfield 34, 3) := by decide +kernel
theorem dX10_unify_6 : decode cX10_unify 6 = .ok (.iload_n 3, 1) := by decide +kernel
theorem dX10_unify_7 : decode cX10_unify 7 = .ok (.iinc 3 1, 3) := by decide +kernel
theorem dX10_unify_10 : decode cX10_unify 10 = .ok (.iload_n 1, 1) := by decide +kernel
theorem dX10_unify_11 : decode cX10_unify 11 = .ok (.iastore, 1) := by decide +kernel
theorem dX10_unify_12 : decode cX10_unify 12 = .ok (.aload_n 0, 1) := by decide +kernel
theorem dX10_unify_13 : decode cX10_unify 13 = .ok (.getfield 34, 3) := by decide +kernel
theorem dX10_unify_16 : decode cX10_unify 16 = .ok (.iload_n 3, 1) := by decide +kernel
theorem dX10_unify_17 : decode cX10_unify 17 = .ok (.iinc 3 1, 3) := by decide +kernel
theorem dX10_unify_20 : decode cX10_unify 20 = .ok (.iload_n 2, 1) := by decide +kernel
theorem dX10_unify_21 : decode cX10_unify 21 = .ok (.iastore, 1) := by decide +kernel
theorem dX10_unify_22 : decode cX10_unify 22 = .ok (.iconst 0, 1) := by decide +kernel
theorem dX10_unify_23 : decode cX10_unify 23 = .ok (.istore 4, 2) := by decide +kernel
theorem dX10_unify_25 : decode cX10_unify 25 = .ok (.iload 4, 2) := by decide +kernel
theorem dX10_unify_27 : decode cX10_unify 27 = .ok (.ldc 99, 2) := by decide +kernel
theorem dX10_unify_29 : decode cX10_unify 29 = .ok (.if_icmp .ge 199, 3) := by decide +kernel
theorem dX10_unify_32 : decode cX10_unify 32 = .ok (.iload_n 3, 1) := by decide +kernel
theorem dX10_unify_33 : decode cX10_unify 33 = .ok (.iconst 2, 1) := by decide +kernel
theorem dX10_unify_34 : decode cX10_unify 34 = .ok (.if_icmp .lt 194, 3) := by decide +kernel
theorem dX10_unify_37 : decode cX10_unify 37 = .ok (.aload_n 0, 1) := by decide +kernel
theorem dX10_unify_38 : decode cX10_unify 38 = .ok (.aload_n 0, 1) := by decide +kernel
theorem dX10_unify_39 : decode cX10_unify 39 = .ok (.getfield 34, 3) := by decide +kernel
theorem dX10_unify_42 : decode cX10_unify 42 = .ok (.iinc 3 (-1), 3) := by decide +kernel
theorem dX10_unify_45 : decode cX10_unify 45 = .ok (.iload_n 3, 1) := by decide +kernel
theorem dX10_unify_46 : decode cX10_unify 46 = .ok (.iaload, 1) := by decide +kernel
theorem dX10_unify_47 : decode cX10_unify 47 = .ok (.invokevirtual 89, 3) := by decide +kernel
theorem dX10_unify_50 : decode cX10_unify 50 = .ok (.istore 5, 2) := by decide +kernel
theorem dX10_unify_52 : decode cX10_unify 52 = .ok (.aload_n 0, 1) := by decide +kernel
theorem dX10_unify_53 : decode cX10_unify 53 = .ok (.aload_n 0, 1) := by decide +kernel
theorem dX10_unify_54 : decode cX10_unify 54 = .ok (.getfield 34, 3) := by decide +kernel
theorem dX10_unify_57 : decode cX10_unify 57 = .ok (.iinc 3 (-1), 3) := by decide +kernel
theorem dX10_unify_60 : decode cX10_unify 60 = .ok (.iload_n 3, 1) := by decide +kernel
theorem dX10_unify_61 : decode cX10_unify 61 = .ok (.iaload, 1) := by decide +kernel
theorem dX10_unify_62 : decode cX10_unify 62 = .ok (.invokevirtual 89, 3) := by decide +kernel
theorem dX10_unify_65 : decode cX10_unify 65 = .ok (.istore 6, 2) := by decide +kernel
theorem dX10_unify_67 : decode cX10_unify 67 = .ok (.iload 5, 2) := by decide +kernel
theorem dX10_unify_69 : decode cX10_unify 69 = .ok (.iload 6, 2) := by decide +kernel
theorem dX10_unify_71 : decode cX10_unify 71 = .ok (.if_icmp .ne 6, 3) := by decide +kernel
theorem dX10_unify_74 : decode cX10_unify 74 = .ok (.goto 148, 3) := by decide +kernel
theorem dX10_unify_77 : decode cX10_unify 77 = .ok (.aload_n 0, 1) := by decide +kernel
theorem dX10_unify_78 : decode cX10_unify 78 = .ok (.getfield 18, 3) := by decide +kernel
theorem dX10_unify_81 : decode cX10_unify 81 = .ok (.iload 5, 2) := by decide +kernel
theorem dX10_unify_83 : decode cX10_unify 83 = .ok (.iaload, 1) := by decide +kernel
theorem dX10_unify_84 : decode cX10_unify 84 = .ok (.ifCond .ne 15, 3) := by decide +kernel
theorem dX10_unify_87 : decode cX10_unify 87 = .ok (.aload_n 0, 1) := by decide +kernel
theorem dX10_unify_88 : decode cX10_unify 88 = .ok (.getfield 28, 3) := by decide +kernel
theorem dX10_unify_91 : decode cX10_unify 91 = .ok (.iload 5, 2) := by decide +kernel
theorem dX10_unify_93 : decode cX10_unify 93 = .ok (.iload 6, 2) := by decide +kernel
theorem dX10_unify_95 : decode cX10_unify 95 = .ok (.iastore, 1) := by decide +kernel
theorem dX10_unify_96 : decode cX10_unify 96 = .ok (.goto 126, 3) := by decide +kernel
theorem dX10_unify_99 : decode cX10_unify 99 = .ok (.aload_n 0, 1) := by decide +kernel
theorem dX10_unify_100 : decode cX10_unify 100 = .ok (.getfield 18, 3) := by decide +kernel
theorem dX10_unify_103 : decode cX10_unify 103 = .ok (.iload 6, 2) := by decide +kernel
theorem dX10_unify_105 : decode cX10_unify 105 = .ok (.iaload, 1) := by decide +kernel
theorem dX10_unify_106 : decode cX10_unify 106 = .ok (.ifCond .ne 15, 3) := by decide +kernel
theorem dX10_unify_109 : decode cX10_unify 109 = .ok (.aload_n 0, 1) := by decide +kernel
theorem dX10_unify_110 : decode cX10_unify 110 = .ok (.getfield 28, 3) := by decide +kernel
theorem dX10_unify_113 : decode cX10_unify 113 = .ok (.iload 6, 2) := by decide +kernel
theorem dX10_unify_115 : decode cX10_unify 115 = .ok (.iload 5, 2) := by decide +kernel
theorem dX10_unify_117 : decode cX10_unify 117 = .ok (.iastore, 1) := by decide +kernel
theorem dX10_unify_118 : decode cX10_unify 118 = .ok (.goto 104, 3) := by decide +kernel
theorem dX10_unify_121 : decode cX10_unify 121 = .ok (.aload_n 0, 1) := by decide +kernel
theorem dX10_unify_122 : decode cX10_unify 122 = .ok (.getfield 18, 3) := by decide +kernel
theorem dX10_unify_125 : decode cX10_unify 125 = .ok (.iload 5, 2) := by decide +kernel
theorem dX10_unify_127 : decode cX10_unify 127 = .ok (.iaload, 1) := by decide +kernel
theorem dX10_unify_128 : decode cX10_unify 128 = .ok (.sipush 206, 3) := by decide +kernel
theorem dX10_unify_131 : decode cX10_unify 131 = .ok (.if_icmp .ne 16, 3) := by decide +kernel
theorem dX10_unify_134 : decode cX10_unify 134 = .ok (.aload_n 0, 1) := by decide +kernel
theorem dX10_unify_135 : decode cX10_unify 135 = .ok (.getfield 18, 3) := by decide +kernel
theorem dX10_unify_138 : decode cX10_unify 138 = .ok (.iload 6, 2) := by decide +kernel
theorem dX10_unify_140 : decode cX10_unify 140 = .ok (.iaload, 1) := by decide +kernel
theorem dX10_unify_141 : decode cX10_unify 141 = .ok (.sipush 206, 3) := by decide +kernel
theorem dX10_unify_144 : decode cX10_unify 144 = .ok (.if_icmp .eq 5, 3) := by decide +kernel
theorem dX10_unify_147 : decode cX10_unify 147 = .ok (.iconst 0, 1) := by decide +kernel
theorem dX10_unify_148 : decode cX10_unify 148 = .ok (.ireturn, 1) := by decide +kernel
theorem dX10_unify_149 : decode cX10_unify 149 = .ok (.aload_n 0, 1) := by decide +kernel
theorem dX10_unify_150 : decode cX10_unify 150 = .ok (.getfield 28, 3) := by decide +kernel
theorem dX10_unify_153 : decode cX10_unify 153 = .ok (.iload 5, 2) := by decide +kernel
theorem dX10_unify_155 : decode cX10_unify 155 = .ok (.iload 6, 2) := by decide +kernel
theorem dX10_unify_157 : decode cX10_unify 157 = .ok (.iastore, 1) := by decide +kernel
theorem dX10_unify_158 : decode cX10_unify 158 = .ok (.aload_n 0, 1) := by decide +kernel
theorem dX10_unify_159 : decode cX10_unify 159 = .ok (.getfield 34, 3) := by decide +kernel
theorem dX10_unify_162 : decode cX10_unify 162 = .ok (.iload_n 3, 1) := by decide +kernel
theorem dX10_unify_163 : decode cX10_unify 163 = .ok (.iinc 3 1, 3) := by decide +kernel
theorem dX10_unify_166 : decode cX10_unify 166 = .ok (.aload_n 0, 1) := by decide +kernel
theorem dX10_unify_167 : decode cX10_unify 167 = .ok (.getfield 25, 3) := by decide +kernel
theorem dX10_unify_170 : decode cX10_unify 170 = .ok (.iload 5, 2) := by decide +kernel
theorem dX10_unify_172 : decode cX10_unify 172 = .ok (.iaload, 1) := by decide +kernel
theorem dX10_unify_173 : decode cX10_unify 173 = .ok (.iastore, 1) := by decide +kernel
theorem dX10_unify_174 : decode cX10_unify 174 = .ok (.aload_n 0, 1) := by decide +kernel
theorem dX10_unify_175 : decode cX10_unify 175 = .ok (.getfield 34, 3) := by decide +kernel
theorem dX10_unify_178 : decode cX10_unify 178 = .ok (.iload_n 3, 1) := by decide +kernel
theorem dX10_unify_179 : decode cX10_unify 179 = .ok (.iinc 3 1, 3) := by decide +kernel
theorem dX10_unify_182 : decode cX10_unify 182 = .ok (.aload_n 0, 1) := by decide +kernel
theorem dX10_unify_183 : decode cX10_unify 183 = .ok (.getfield 25, 3) := by decide +kernel
theorem dX10_unify_186 : decode cX10_unify 186 = .ok (.iload 6, 2) := by decide +kernel
theorem dX10_unify_188 : decode cX10_unify 188 = .ok (.iaload, 1) := by decide +kernel
theorem dX10_unify_189 : decode cX10_unify 189 = .ok (.iastore, 1) := by decide +kernel
theorem dX10_unify_190 : decode cX10_unify 190 = .ok (.aload_n 0, 1) := by decide +kernel
theorem dX10_unify_191 : decode cX10_unify 191 = .ok (.getfield 34, 3) := by decide +kernel
theorem dX10_unify_194 : decode cX10_unify 194 = .ok (.iload_n 3, 1) := by decide +kernel
theorem dX10_unify_195 : decode cX10_unify 195 = .ok (.iinc 3 1, 3) := by decide +kernel
theorem dX10_unify_198 : decode cX10_unify 198 = .ok (.aload_n 0, 1) := by decide +kernel
theorem dX10_unify_199 : decode cX10_unify 199 = .ok (.getfield 22, 3) := by decide +kernel
theorem dX10_unify_202 : decode cX10_unify 202 = .ok (.iload 5, 2) := by decide +kernel
theorem dX10_unify_204 : decode cX10_unify 204 = .ok (.iaload, 1) := by decide +kernel
theorem dX10_unify_205 : decode cX10_unify 205 = .ok (.iastore, 1) := by decide +kernel
theorem dX10_unify_206 : decode cX10_unify 206 = .ok (.aload_n 0, 1) := by decide +kernel
theorem dX10_unify_207 : decode cX10_unify 207 = .ok (.getfield 34, 3) := by decide +kernel
theorem dX10_unify_210 : decode cX10_unify 210 = .ok (.iload_n 3, 1) := by decide +kernel
theorem dX10_unify_211 : decode cX10_unify 211 = .ok (.iinc 3 1, 3) := by decide +kernel
theorem dX10_unify_214 : decode cX10_unify 214 = .ok (.aload_n 0, 1) := by decide +kernel
theorem dX10_unify_215 : decode cX10_unify 215 = .ok (.getfield 22, 3) := by decide +kernel
theorem dX10_unify_218 : decode cX10_unify 218 = .ok (.iload 6, 2) := by decide +kernel
theorem dX10_unify_220 : decode cX10_unify 220 = .ok (.iaload, 1) := by decide +kernel
theorem dX10_unify_221 : decode cX10_unify 221 = .ok (.iastore, 1) := by decide +kernel
theorem dX10_unify_222 : decode cX10_unify 222 = .ok (.iinc 4 1, 3) := by decide +kernel
theorem dX10_unify_225 : decode cX10_unify 225 = .ok (.goto (-200), 3) := by decide +kernel
theorem dX10_unify_228 : decode cX10_unify 228 = .ok (.iconst 1, 1) := by decide +kernel
theorem dX10_unify_229 : decode cX10_unify 229 = .ok (.ireturn, 1) := by decide +kernel
theorem dX10_isFinite_0 : decode cX10_isFinite 0 = .ok (.aload_n 0, 1) := by decide +kernel
theorem dX10_isFinite_1 : decode cX10_isFinite 1 = .ok (.getfield 31, 3) := by decide +kernel
theorem dX10_isFinite_4 : decode cX10_isFinite 4 = .ok (.iconst 0, 1) := by decide +kernel
theorem dX10_isFinite_5 : decode cX10_isFinite 5 = .ok (.invokestatic 100, 3) := by decide +kernel
theorem dX10_isFinite_8 : decode cX10_isFinite 8 = .ok (.iconst 0, 1) := by decide +kernel
theorem dX10_isFinite_9 : decode cX10_isFinite 9 = .ok (.istore_n 2, 1) := by decide +kernel
theorem dX10_isFinite_10 : decode cX10_isFinite 10 = .ok (.aload_n 0, 1) := by decide +kernel
theorem dX10_isFinite_11 : decode cX10_isFinite 11 = .ok (.getfield 34, 3) := by decide +kernel
theorem dX10_isFinite_14 : decode cX10_isFinite 14 = .ok (.iload_n 2, 1) := by decide +kernel
theorem dX10_isFinite_15 : decode cX10_isFinite 15 = .ok (.iinc 2 1, 3) := by decide +kernel
theorem dX10_isFinite_18 : decode cX10_isFinite 18 = .ok (.iload_n 1, 1) := by decide +kernel
theorem dX10_isFinite_19 : decode cX10_isFinite 19 = .ok (.iastore, 1) := by decide +kernel
theorem dX10_isFinite_20 : decode cX10_isFinite 20 = .ok (.iconst 0, 1) := by decide +kernel
theorem dX10_isFinite_21 : decode cX10_isFinite 21 = .ok (.istore_n 3, 1) := by decide +kernel
theorem dX10_isFinite_22 : decode cX10_isFinite 22 = .ok (.iload_n 3, 1) := by decide +kernel
theorem dX10_isFinite_23 : decode cX10_isFinite 23 = .ok (.ldc 99, 2) := by decide +kernel
theorem dX10_isFinite_25 : decode cX10_isFinite 25 = .ok (.if_icmp .ge 144, 3) := by decide +kernel
theorem dX10_isFinite_28 : decode cX10_isFinite 28 = .ok (.iload_n 2, 1) := by decide +kernel
theorem dX10_isFinite_29 : decode cX10_isFinite 29 = .ok (.ifCond .le 140, 3) := by decide +kernel
theorem dX10_isFinite_32 : decode cX10_isFinite 32 = .ok (.aload_n 0, 1) := by decide +kernel
theorem dX10_isFinite_33 : decode cX10_isFinite 33 = .ok (.aload_n 0, 1) := by decide +kernel
theorem dX10_isFinite_34 : decode cX10_isFinite 34 = .ok (.getfield 34, 3) := by decide +kernel
theorem dX10_isFinite_37 : decode cX10_isFinite 37 = .ok (.iload_n 2, 1) := by decide +kernel
theorem dX10_isFinite_38 : decode cX10_isFinite 38 = .ok (.iconst 1, 1) := by decide +kernel
theorem dX10_isFinite_39 : decode cX10_isFinite 39 = .ok (.isub, 1) := by decide +kernel
theorem dX10_isFinite_40 : decode cX10_isFinite 40 = .ok (.iaload, 1) := by decide +kernel
theorem dX10_isFinite_41 : decode cX10_isFinite 41 = .ok (.invokevirtual 89, 3) := by decide +kernel
theorem dX10_isFinite_44 : decode cX10_isFinite 44 = .ok (.istore 4, 2) := by decide +kernel
theorem dX10_isFinite_46 : decode cX10_isFinite 46 = .ok (.aload_n 0, 1) := by decide +kernel
theorem dX10_isFinite_47 : decode cX10_isFinite 47 = .ok (.getfield 31, 3) := by decide +kernel
theorem dX10_isFinite_50 : decode cX10_isFinite 50 = .ok (.iload 4, 2) := by decide +kernel
theorem dX10_isFinite_52 : decode cX10_isFinite 52 = .ok (.iaload, 1) := by decide +kernel
theorem dX10_isFinite_53 : decode cX10_isFinite 53 = .ok (.ifCond .ne 16, 3) := by decide +kernel
theorem dX10_isFinite_56 : decode cX10_isFinite 56 = .ok (.aload_n 0, 1) := by decide +kernel
theorem dX10_isFinite_57 : decode cX10_isFinite 57 = .ok (.getfield 18, 3) := by decide +kernel
theorem dX10_isFinite_60 : decode cX10_isFinite 60 = .ok (.iload 4, 2) := by decide +kernel
theorem dX10_isFinite_62 : decode cX10_isFinite 62 = .ok (.iaload, 1) := by decide +kernel
theorem dX10_isFinite_63 : decode cX10_isFinite 63 = .ok (.sipush 206, 3) := by decide +kernel
theorem dX10_isFinite_66 : decode cX10_isFinite 66 = .ok (.if_icmp .eq 17, 3) := by decide +kernel
theorem dX10_isFinite_69 : decode cX10_isFinite 69 = .ok (.aload_n 0, 1) := by decide +kernel
theorem dX10_isFinite_70 : decode cX10_isFinite 70 = .ok (.getfield 31, 3) := by decide +kernel
theorem dX10_isFinite_73 : decode cX10_isFinite 73 = .ok (.iload 4, 2) := by decide +kernel
theorem dX10_isFinite_75 : decode cX10_isFinite 75 = .ok (.iconst 2, 1) := by decide +kernel
theorem dX10_isFinite_76 : decode cX10_isFinite 76 = .ok (.iastore, 1) := by decide +kernel
theorem dX10_isFinite_77 : decode cX10_isFinite 77 = .ok (.iinc 2 (-1), 3) := by decide +kernel
theorem dX10_isFinite_80 : decode cX10_isFinite 80 = .ok (.goto 83, 3) := by decide +kernel
theorem dX10_isFinite_83 : decode cX10_isFinite 83 = .ok (.aload_n 0, 1) := by decide +kernel
theorem dX10_isFinite_84 : decode cX10_isFinite 84 = .ok (.getfield 31, 3) := by decide +kernel
theorem dX10_isFinite_87 : decode cX10_isFinite 87 = .ok (.iload 4, 2) := by decide +kernel
theorem dX10_isFinite_89 : decode cX10_isFinite 89 = .ok (.iconst 1, 1) := by decide +kernel
theorem dX10_isFinite_90 : decode cX10_isFinite 90 = .ok (.iastore, 1) := by decide +kernel
theorem dX10_isFinite_91 : decode cX10_isFinite 91 = .ok (.aload_n 0, 1) := by decide +kernel
theorem dX10_isFinite_92 : decode cX10_isFinite 92 = .ok (.aload_n 0, 1) := by decide +kernel
theorem dX10_isFinite_93 : decode cX10_isFinite 93 = .ok (.getfield 22, 3) := by decide +kernel
theorem dX10_isFinite_96 : decode cX10_isFinite 96 = .ok (.iload 4, 2) := by decide +kernel
theorem dX10_isFinite_98 : decode cX10_isFinite 98 = .ok (.iaload, 1) := by decide +kernel
theorem dX10_isFinite_99 : decode cX10_isFinite 99 = .ok (.invokevirtual 89, 3) := by decide +kernel
theorem dX10_isFinite_102 : decode cX10_isFinite 102 = .ok (.istore 5, 2) := by decide +kernel
theorem dX10_isFinite_104 : decode cX10_isFinite 104 = .ok (.aload_n 0, 1) := by decide +kernel
theorem dX10_isFinite_105 : decode cX10_isFinite 105 = .ok (.aload_n 0, 1) := by decide +kernel
theorem dX10_isFinite_106 : decode cX10_isFinite 106 = .ok (.getfield 25, 3) := by decide +kernel
theorem dX10_isFinite_109 : decode cX10_isFinite 109 = .ok (.iload 4, 2) := by decide +kernel
theorem dX10_isFinite_111 : decode cX10_isFinite 111 = .ok (.iaload, 1) := by decide +kernel
theorem dX10_isFinite_112 : decode cX10_isFinite 112 = .ok (.invokevirtual 89, 3) := by decide +kernel
theorem dX10_isFinite_115 : decode cX10_isFinite 115 = .ok (.istore 6, 2) := by decide +kernel
theorem dX10_isFinite_117 : decode cX10_isFinite 117 = .ok (.aload_n 0, 1) := by decide +kernel
theorem dX10_isFinite_118 : decode cX10_isFinite 118 = .ok (.getfield 31, 3) := by decide +kernel
theorem dX10_isFinite_121 : decode cX10_isFinite 121 = .ok (.iload 5, 2) := by decide +kernel
theorem dX10_isFinite_123 : decode cX10_isFinite 123 = .ok (.iaload, 1) := by decide +kernel
theorem dX10_isFinite_124 : decode cX10_isFinite 124 = .ok (.iconst 1, 1) := by decide +kernel
theorem dX10_isFinite_125 : decode cX10_isFinite 125 = .ok (.if_icmp .eq 14, 3) := by decide +kernel
theorem dX10_isFinite_128 : decode cX10_isFinite 128 = .ok (.aload_n 0, 1) := by decide +kernel
theorem dX10_isFinite_129 : decode cX10_isFinite 129 = .ok (.getfield 31, 3) := by decide +kernel
theorem dX10_isFinite_132 : decode cX10_isFinite 132 = .ok (.iload 6, 2) := by decide +kernel
theorem dX10_isFinite_134 : decode cX10_isFinite 134 = .ok (.iaload, 1) := by decide +kernel
theorem dX10_isFinite_135 : decode cX10_isFinite 135 = .ok (.iconst 1, 1) := by decide +kernel
theorem dX10_isFinite_136 : decode cX10_isFinite 136 = .ok (.if_icmp .ne 5, 3) := by decide +kernel
theorem dX10_isFinite_139 : decode cX10_isFinite 139 = .ok (.iconst 0, 1) := by decide +kernel
theorem dX10_isFinite_140 : decode cX10_isFinite 140 = .ok (.ireturn, 1) := by decide +kernel
theorem dX10_isFinite_141 : decode cX10_isFinite 141 = .ok (.aload_n 0, 1) := by decide +kernel
theorem dX10_isFinite_142 : decode cX10_isFinite 142 = .ok (.getfield 34, 3) := by decide +kernel
theorem dX10_isFinite_145 : decode cX10_isFinite 145 = .ok (.iload_n 2, 1) := by decide +kernel
theorem dX10_isFinite_146 : decode cX10_isFinite 146 = .ok (.iinc 2 1, 3) := by decide +kernel
theorem dX10_isFinite_149 : decode cX10_isFinite 149 = .ok (.iload 6, 2) := by decide +kernel
theorem dX10_isFinite_151 : decode cX10_isFinite 151 = .ok (.iastore, 1) := by decide +kernel
theorem dX10_isFinite_152 : decode cX10_isFinite 152 = .ok (.aload_n 0, 1) := by decide +kernel
theorem dX10_isFinite_153 : decode cX10_isFinite 153 = .ok (.getfield 34, 3) := by decide +kernel
theorem dX10_isFinite_156 : decode cX10_isFinite 156 = .ok (.iload_n 2, 1) := by decide +kernel
theorem dX10_isFinite_157 : decode cX10_isFinite 157 = .ok (.iinc 2 1, 3) := by decide +kernel
theorem dX10_isFinite_160 : decode cX10_isFinite 160 = .ok (.iload 5, 2) := by decide +kernel
theorem dX10_isFinite_162 : decode cX10_isFinite 162 = .ok (.iastore, 1) := by decide +kernel
theorem dX10_isFinite_163 : decode cX10_isFinite 163 = .ok (.iinc 3 1, 3) := by decide +kernel
theorem dX10_isFinite_166 : decode cX10_isFinite 166 = .ok (.goto (-144), 3) := by decide +kernel
theorem dX10_isFinite_169 : decode cX10_isFinite 169 = .ok (.iconst 1, 1) := by decide +kernel
theorem dX10_isFinite_170 : decode cX10_isFinite 170 = .ok (.ireturn, 1) := by decide +kernel
theorem dX10_inferPlain_0 : decode cX10_inferPlain 0 = .ok (.aload_n 1, 1) := by decide +kernel
theorem dX10_inferPlain_1 : decode cX10_inferPlain 1 = .ok (.getfield 106, 3) := by decide +kernel
theorem dX10_inferPlain_4 : decode cX10_inferPlain 4 = .ok (.lookupswitch 197 #[(91, 133), (203, 97), (205, 68), (215, 82), (216, 75), (223, 68), (400, 169)], 68) := by decide +kernel
theorem dX10_inferPlain_72 : decode cX10_inferPlain 72 = .ok (.sipush 202, 3) := by decide +kernel
theorem dX10_inferPlain_75 : decode cX10_inferPlain 75 = .ok (.invokestatic 65, 3) := by decide +kernel
theorem dX10_inferPlain_78 : decode cX10_inferPlain 78 = .ok (.ireturn, 1) := by decide +kernel
theorem dX10_inferPlain_79 : decode cX10_inferPlain 79 = .ok (.sipush 213, 3) := by decide +kernel
theorem dX10_inferPlain_82 : decode cX10_inferPlain 82 = .ok (.invokestatic 65, 3) := by decide +kernel
theorem dX10_inferPlain_85 : decode cX10_inferPlain 85 = .ok (.ireturn, 1) := by decide +kernel
theorem dX10_inferPlain_86 : decode cX10_inferPlain 86 = .ok (.aload_n 0, 1) := by decide +kernel
theorem dX10_inferPlain_87 : decode cX10_inferPlain 87 = .ok (.aload_n 1, 1) := by decide +kernel
theorem dX10_inferPlain_88 : decode cX10_inferPlain 88 = .ok (.getfield 153, 3) := by decide +kernel
theorem dX10_inferPlain_91 : decode cX10_inferPlain 91 = .ok (.invokevirtual 156, 3) := by decide +kernel
theorem dX10_inferPlain_94 : decode cX10_inferPlain 94 = .ok (.sipush 200, 3) := by decide +kernel
theorem dX10_inferPlain_97 : decode cX10_inferPlain 97 = .ok (.invokestatic 65, 3) := by decide +kernel
theorem dX10_inferPlain_100 : decode cX10_inferPlain 100 = .ok (.ireturn, 1) := by decide +kernel
theorem dX10_inferPlain_101 : decode cX10_inferPlain 101 = .ok (.aload_n 0, 1) := by decide +kernel
theorem dX10_inferPlain_102 : decode cX10_inferPlain 102 = .ok (.aload_n 1, 1) := by decide +kernel
theorem dX10_inferPlain_103 : decode cX10_inferPlain 103 = .ok (.getfield 153, 3) := by decide +kernel
theorem dX10_inferPlain_106 : decode cX10_inferPlain 106 = .ok (.invokevirtual 156, 3) := by decide +kernel
theorem dX10_inferPlain_109 : decode cX10_inferPlain 109 = .ok (.aload_n 0, 1) := by decide +kernel
theorem dX10_inferPlain_110 : decode cX10_inferPlain 110 = .ok (.aload_n 1, 1) := by decide +kernel
theorem dX10_inferPlain_111 : decode cX10_inferPlain 111 = .ok (.getfield 147, 3) := by decide +kernel
theorem dX10_inferPlain_114 : decode cX10_inferPlain 114 = .ok (.getfield 68, 3) := by decide +kernel
theorem dX10_inferPlain_117 : decode cX10_inferPlain 117 = .ok (.sipush 213, 3) := by decide +kernel
theorem dX10_inferPlain_120 : decode cX10_inferPlain 120 = .ok (.invokestatic 65, 3) := by decide +kernel
theorem dX10_inferPlain_123 : decode cX10_inferPlain 123 = .ok (.aload_n 1, 1) := by decide +kernel
theorem dX10_inferPlain_124 : decode cX10_inferPlain 124 = .ok (.getfield 150, 3) := by decide +kernel
theorem dX10_inferPlain_127 : decode cX10_inferPlain 127 = .ok (.invokevirtual 140, 3) := by decide +kernel
theorem dX10_inferPlain_130 : decode cX10_inferPlain 130 = .ok (.sipush 213, 3) := by decide +kernel
theorem dX10_inferPlain_133 : decode cX10_inferPlain 133 = .ok (.invokestatic 65, 3) := by decide +kernel
theorem dX10_inferPlain_136 : decode cX10_inferPlain 136 = .ok (.ireturn, 1) := by decide +kernel
theorem dX10_inferPlain_137 : decode cX10_inferPlain 137 = .ok (.aload_n 0, 1) := by decide +kernel
theorem dX10_inferPlain_138 : decode cX10_inferPlain 138 = .ok (.aload_n 1, 1) := by decide +kernel
theorem dX10_inferPlain_139 : decode cX10_inferPlain 139 = .ok (.getfield 147, 3) := by decide +kernel
theorem dX10_inferPlain_142 : decode cX10_inferPlain 142 = .ok (.getfield 68, 3) := by decide +kernel
theorem dX10_inferPlain_145 : decode cX10_inferPlain 145 = .ok (.sipush 200, 3) := by decide +kernel
theorem dX10_inferPlain_148 : decode cX10_inferPlain 148 = .ok (.invokestatic 65, 3) := by decide +kernel
theorem dX10_inferPlain_151 : decode cX10_inferPlain 151 = .ok (.aload_n 1, 1) := by decide +kernel
theorem dX10_inferPlain_152 : decode cX10_inferPlain 152 = .ok (.getfield 150, 3) := by decide +kernel
theorem dX10_inferPlain_155 : decode cX10_inferPlain 155 = .ok (.invokevirtual 140, 3) := by decide +kernel
theorem dX10_inferPlain_158 : decode cX10_inferPlain 158 = .ok (.aload_n 0, 1) := by decide +kernel
theorem dX10_inferPlain_159 : decode cX10_inferPlain 159 = .ok (.aload_n 1, 1) := by decide +kernel
theorem dX10_inferPlain_160 : decode cX10_inferPlain 160 = .ok (.getfield 153, 3) := by decide +kernel
theorem dX10_inferPlain_163 : decode cX10_inferPlain 163 = .ok (.invokevirtual 156, 3) := by decide +kernel
theorem dX10_inferPlain_166 : decode cX10_inferPlain 166 = .ok (.sipush 210, 3) := by decide +kernel
theorem dX10_inferPlain_169 : decode cX10_inferPlain 169 = .ok (.invokestatic 65, 3) := by decide +kernel
theorem dX10_inferPlain_172 : decode cX10_inferPlain 172 = .ok (.ireturn, 1) := by decide +kernel
theorem dX10_inferPlain_173 : decode cX10_inferPlain 173 = .ok (.aload_n 1, 1) := by decide +kernel
theorem dX10_inferPlain_174 : decode cX10_inferPlain 174 = .ok (.getfield 168, 3) := by decide +kernel
theorem dX10_inferPlain_177 : decode cX10_inferPlain 177 = .ok (.iconst 1, 1) := by decide +kernel
theorem dX10_inferPlain_178 : decode cX10_inferPlain 178 = .ok (.if_icmp .ne 11, 3) := by decide +kernel
theorem dX10_inferPlain_181 : decode cX10_inferPlain 181 = .ok (.aload_n 1, 1) := by decide +kernel
theorem dX10_inferPlain_182 : decode cX10_inferPlain 182 = .ok (.getfield 147, 3) := by decide +kernel
theorem dX10_inferPlain_185 : decode cX10_inferPlain 185 = .ok (.getfield 68, 3) := by decide +kernel
theorem dX10_inferPlain_188 : decode cX10_inferPlain 188 = .ok (.ireturn, 1) := by decide +kernel
theorem dX10_inferPlain_189 : decode cX10_inferPlain 189 = .ok (.aload_n 0, 1) := by decide +kernel
theorem dX10_inferPlain_190 : decode cX10_inferPlain 190 = .ok (.aload_n 1, 1) := by decide +kernel
theorem dX10_inferPlain_191 : decode cX10_inferPlain 191 = .ok (.invokevirtual 156, 3) := by decide +kernel
theorem dX10_inferPlain_194 : decode cX10_inferPlain 194 = .ok (.sipush 210, 3) := by decide +kernel
theorem dX10_inferPlain_197 : decode cX10_inferPlain 197 = .ok (.invokestatic 65, 3) := by decide +kernel
theorem dX10_inferPlain_200 : decode cX10_inferPlain 200 = .ok (.ireturn, 1) := by decide +kernel
theorem dX10_inferPlain_201 : decode cX10_inferPlain 201 = .ok (.aload_n 0, 1) := by decide +kernel
theorem dX10_inferPlain_202 : decode cX10_inferPlain 202 = .ok (.aload_n 1, 1) := by decide +kernel
theorem dX10_inferPlain_203 : decode cX10_inferPlain 203 = .ok (.getfield 153, 3) := by decide +kernel
theorem dX10_inferPlain_206 : decode cX10_inferPlain 206 = .ok (.invokevirtual 156, 3) := by decide +kernel
theorem dX10_inferPlain_209 : decode cX10_inferPlain 209 = .ok (.aload_n 0, 1) := by decide +kernel
theorem dX10_inferPlain_210 : decode cX10_inferPlain 210 = .ok (.aload_n 1, 1) := by decide +kernel
theorem dX10_inferPlain_211 : decode cX10_inferPlain 211 = .ok (.getfield 159, 3) := by decide +kernel
theorem dX10_inferPlain_214 : decode cX10_inferPlain 214 = .ok (.invokevirtual 156, 3) := by decide +kernel
theorem dX10_inferPlain_217 : decode cX10_inferPlain 217 = .ok (.sipush 210, 3) := by decide +kernel
theorem dX10_inferPlain_220 : decode cX10_inferPlain 220 = .ok (.invokestatic 65, 3) := by decide +kernel
theorem dX10_inferPlain_223 : decode cX10_inferPlain 223 = .ok (.ireturn, 1) := by decide +kernel
theorem dX10_checkSum_0 : decode cX10_checkSum 0 = .ok (.iconst 0, 1) := by decide +kernel
theorem dX10_checkSum_1 : decode cX10_checkSum 1 = .ok (.istore_n 2, 1) := by decide +kernel
theorem dX10_checkSum_2 : decode cX10_checkSum 2 = .ok (.iload_n 2, 1) := by decide +kernel
theorem dX10_checkSum_3 : decode cX10_checkSum 3 = .ok (.aload_n 1, 1) := by decide +kernel
theorem dX10_checkSum_4 : decode cX10_checkSum 4 = .ok (.getfield 171, 3) := by decide +kernel
theorem dX10_checkSum_7 : decode cX10_checkSum 7 = .ok (.invokevirtual 50, 3) := by decide +kernel
theorem dX10_checkSum_10 : decode cX10_checkSum 10 = .ok (.if_icmp .ge 43, 3) := by decide +kernel
theorem dX10_checkSum_13 : decode cX10_checkSum 13 = .ok (.aload_n 1, 1) := by decide +kernel
theorem dX10_checkSum_14 : decode cX10_checkSum 14 = .ok (.getfield 171, 3) := by decide +kernel
theorem dX10_checkSum_17 : decode cX10_checkSum 17 = .ok (.iload_n 2, 1) := by decide +kernel
theorem dX10_checkSum_18 : decode cX10_checkSum 18 = .ok (.invokevirtual 56, 3) := by decide +kernel
theorem dX10_checkSum_21 : decode cX10_checkSum 21 = .ok (.checkcast 107, 3) := by decide +kernel
theorem dX10_checkSum_24 : decode cX10_checkSum 24 = .ok (.astore_n 3, 1) := by decide +kernel
theorem dX10_checkSum_25 : decode cX10_checkSum 25 = .ok (.aload_n 0, 1) := by decide +kernel
theorem dX10_checkSum_26 : decode cX10_checkSum 26 = .ok (.aload_n 3, 1) := by decide +kernel
theorem dX10_checkSum_27 : decode cX10_checkSum 27 = .ok (.getfield 147, 3) := by decide +kernel
theorem dX10_checkSum_30 : decode cX10_checkSum 30 = .ok (.getfield 68, 3) := by decide +kernel
theorem dX10_checkSum_33 : decode cX10_checkSum 33 = .ok (.aload_n 3, 1) := by decide +kernel
theorem dX10_checkSum_34 : decode cX10_checkSum 34 = .ok (.getfield 106, 3) := by decide +kernel
theorem dX10_checkSum_37 : decode cX10_checkSum 37 = .ok (.invokestatic 65, 3) := by decide +kernel
theorem dX10_checkSum_40 : decode cX10_checkSum 40 = .ok (.aload_n 3, 1) := by decide +kernel
theorem dX10_checkSum_41 : decode cX10_checkSum 41 = .ok (.getfield 137, 3) := by decide +kernel
theorem dX10_checkSum_44 : decode cX10_checkSum 44 = .ok (.invokevirtual 140, 3) := by decide +kernel
theorem dX10_checkSum_47 : decode cX10_checkSum 47 = .ok (.iinc 2 1, 3) := by decide +kernel
theorem dX10_checkSum_50 : decode cX10_checkSum 50 = .ok (.goto (-48), 3) := by decide +kernel
theorem dX10_checkSum_53 : decode cX10_checkSum 53 = .ok (.return_, 1) := by decide +kernel
theorem dX10_checkTest_0 : decode cX10_checkTest 0 = .ok (.aload_n 1, 1) := by decide +kernel
theorem dX10_checkTest_1 : decode cX10_checkTest 1 = .ok (.getfield 106, 3) := by decide +kernel
theorem dX10_checkTest_4 : decode cX10_checkTest 4 = .ok (.lookupswitch 143 #[(217, 52), (302, 63), (303, 63), (402, 100), (403, 124)], 52) := by decide +kernel
theorem dX10_checkTest_56 : decode cX10_checkTest 56 = .ok (.aload_n 0, 1) := by decide +kernel
theorem dX10_checkTest_57 : decode cX10_checkTest 57 = .ok (.aload_n 1, 1) := by decide +kernel
theorem dX10_checkTest_58 : decode cX10_checkTest 58 = .ok (.getfield 114, 3) := by decide +kernel
theorem dX10_checkTest_61 : decode cX10_checkTest 61 = .ok (.invokevirtual 134, 3) := by decide +kernel
theorem dX10_checkTest_64 : decode cX10_checkTest 64 = .ok (.goto 83, 3) := by decide +kernel
theorem dX10_checkTest_67 : decode cX10_checkTest 67 = .ok (.iconst 0, 1) := by decide +kernel
theorem dX10_checkTest_68 : decode cX10_checkTest 68 = .ok (.istore_n 2, 1) := by decide +kernel
theorem dX10_checkTest_69 : decode cX10_checkTest 69 = .ok (.iload_n 2, 1) := by decide +kernel
theorem dX10_checkTest_70 : decode cX10_checkTest 70 = .ok (.aload_n 1, 1) := by decide +kernel
theorem dX10_checkTest_71 : decode cX10_checkTest 71 = .ok (.getfield 171, 3) := by decide +kernel
theorem dX10_checkTest_74 : decode cX10_checkTest 74 = .ok (.invokevirtual 50, 3) := by decide +kernel
theorem dX10_checkTest_77 : decode cX10_checkTest 77 = .ok (.if_icmp .ge 24, 3) := by decide +kernel
theorem dX10_checkTest_80 : decode cX10_checkTest 80 = .ok (.aload_n 0, 1) := by decide +kernel
theorem dX10_checkTest_81 : decode cX10_checkTest 81 = .ok (.aload_n 1, 1) := by decide +kernel
theorem dX10_checkTest_82 : decode cX10_checkTest 82 = .ok (.getfield 171, 3) := by decide +kernel
theorem dX10_checkTest_85 : decode cX10_checkTest 85 = .ok (.iload_n 2, 1) := by decide +kernel
theorem dX10_checkTest_86 : decode cX10_checkTest 86 = .ok (.invokevirtual 56, 3) := by decide +kernel
theorem dX10_checkTest_89 : decode cX10_checkTest 89 = .ok (.checkcast 107, 3) := by decide +kernel
theorem dX10_checkTest_92 : decode cX10_checkTest 92 = .ok (.invokevirtual 134, 3) := by decide +kernel
theorem dX10_checkTest_95 : decode cX10_checkTest 95 = .ok (.iinc 2 1, 3) := by decide +kernel
theorem dX10_checkTest_98 : decode cX10_checkTest 98 = .ok (.goto (-29), 3) := by decide +kernel
theorem dX10_checkTest_101 : decode cX10_checkTest 101 = .ok (.goto 46, 3) := by decide +kernel
theorem dX10_checkTest_104 : decode cX10_checkTest 104 = .ok (.aload_n 0, 1) := by decide +kernel
theorem dX10_checkTest_105 : decode cX10_checkTest 105 = .ok (.aload_n 1, 1) := by decide +kernel
theorem dX10_checkTest_106 : decode cX10_checkTest 106 = .ok (.getfield 147, 3) := by decide +kernel
theorem dX10_checkTest_109 : decode cX10_checkTest 109 = .ok (.getfield 68, 3) := by decide +kernel
theorem dX10_checkTest_112 : decode cX10_checkTest 112 = .ok (.sipush 202, 3) := by decide +kernel
theorem dX10_checkTest_115 : decode cX10_checkTest 115 = .ok (.invokestatic 65, 3) := by decide +kernel
theorem dX10_checkTest_118 : decode cX10_checkTest 118 = .ok (.aload_n 1, 1) := by decide +kernel
theorem dX10_checkTest_119 : decode cX10_checkTest 119 = .ok (.getfield 137, 3) := by decide +kernel
theorem dX10_checkTest_122 : decode cX10_checkTest 122 = .ok (.invokevirtual 140, 3) := by decide +kernel
theorem dX10_checkTest_125 : decode cX10_checkTest 125 = .ok (.goto 22, 3) := by decide +kernel
theorem dX10_checkTest_128 : decode cX10_checkTest 128 = .ok (.aload_n 0, 1) := by decide +kernel
theorem dX10_checkTest_129 : decode cX10_checkTest 129 = .ok (.aload_n 1, 1) := by decide +kernel
theorem dX10_checkTest_130 : decode cX10_checkTest 130 = .ok (.getfield 153, 3) := by decide +kernel
theorem dX10_checkTest_133 : decode cX10_checkTest 133 = .ok (.invokevirtual 156, 3) := by decide +kernel
theorem dX10_checkTest_136 : decode cX10_checkTest 136 = .ok (.aload_n 0, 1) := by decide +kernel
theorem dX10_checkTest_137 : decode cX10_checkTest 137 = .ok (.aload_n 1, 1) := by decide +kernel
theorem dX10_checkTest_138 : decode cX10_checkTest 138 = .ok (.getfield 159, 3) := by decide +kernel
theorem dX10_checkTest_141 : decode cX10_checkTest 141 = .ok (.invokevirtual 156, 3) := by decide +kernel
theorem dX10_checkTest_144 : decode cX10_checkTest 144 = .ok (.goto 3, 3) := by decide +kernel
theorem dX10_checkTest_147 : decode cX10_checkTest 147 = .ok (.return_, 1) := by decide +kernel
