theorem dX0_gather_0 : decode cX0_gather 0 = .ok (.aconst_null, 1) := by decide +kernel
theorem dX0_gather_1 : decode cX0_gather 1 = .ok (.astore_n 1, 1) := by decide +kernel
theorem dX0_gather_2 : decode cX0_gather 2 = .ok (.iconst 0, 1) := by decide +kernel
theorem dX0_gather_3 : decode cX0_gather 3 = .ok (.istore_n 2, 1) := by decide +kernel
theorem dX0_gather_4 : decode cX0_gather 4 = .ok (.iload_n 2, 1) := by decide +kernel
theorem dX0_gather_5 : decode cX0_gather 5 = .ok (.aload_n 0, 1) := by decide +kernel
theorem dX0_gather_6 : decode cX0_gather 6 = .ok (.getfield 37, 3) := by decide +kernel
theorem dX0_gather_9 : decode cX0_gather 9 = .ok (.getfield 49, 3) := by decide +kernel
theorem dX0_gather_12 : decode cX0_gather 12 = .ok (.if_icmp .ge 49, 3) := by decide +kernel
theorem dX0_gather_15 : decode cX0_gather 15 = .ok (.aload_n 0, 1) := by decide +kernel
theorem dX0_gather_16 : decode cX0_gather 16 = .ok (.getfield 37, 3) := by decide +kernel
theorem dX0_gather_19 : decode cX0_gather 19 = .ok (.getfield 54, 3) := by decide +kernel
theorem dX0_gather_22 : decode cX0_gather 22 = .ok (.iload_n 2, 1) := by decide +kernel
theorem dX0_gather_23 : decode cX0_gather 23 = .ok (.invokevirtual 57, 3) := by decide +kernel
theorem dX0_gather_26 : decode cX0_gather 26 = .ok (.checkcast 27, 3) := by decide +kernel
theorem dX0_gather_29 : decode cX0_gather 29 = .ok (.astore_n 3, 1) := by decide +kernel
theorem dX0_gather_30 : decode cX0_gather 30 = .ok (.aload_n 3, 1) := by decide +kernel
theorem dX0_gather_31 : decode cX0_gather 31 = .ok (.new 61, 3) := by decide +kernel
theorem dX0_gather_34 : decode cX0_gather 34 = .ok (.dup, 1) := by decide +kernel
theorem dX0_gather_35 : decode cX0_gather 35 = .ok (.aload_n 3, 1) := by decide +kernel
theorem dX0_gather_36 : decode cX0_gather 36 = .ok (.getfield 63, 3) := by decide +kernel
theorem dX0_gather_39 : decode cX0_gather 39 = .ok (.invokespecial 66, 3) := by decide +kernel
theorem dX0_gather_42 : decode cX0_gather 42 = .ok (.putfield 69, 3) := by decide +kernel
theorem dX0_gather_45 : decode cX0_gather 45 = .ok (.new 73, 3) := by decide +kernel
theorem dX0_gather_48 : decode cX0_gather 48 = .ok (.dup, 1) := by decide +kernel
theorem dX0_gather_49 : decode cX0_gather 49 = .ok (.aload_n 3, 1) := by decide +kernel
theorem dX0_gather_50 : decode cX0_gather 50 = .ok (.aload_n 1, 1) := by decide +kernel
theorem dX0_gather_51 : decode cX0_gather 51 = .ok (.invokespecial 75, 3) := by decide +kernel
theorem dX0_gather_54 : decode cX0_gather 54 = .ok (.astore_n 1, 1) := by decide +kernel
theorem dX0_gather_55 : decode cX0_gather 55 = .ok (.iinc 2 1, 3) := by decide +kernel
theorem dX0_gather_58 : decode cX0_gather 58 = .ok (.goto (-54), 3) := by decide +kernel
theorem dX0_gather_61 : decode cX0_gather 61 = .ok (.aload_n 0, 1) := by decide +kernel
theorem dX0_gather_62 : decode cX0_gather 62 = .ok (.aload_n 0, 1) := by decide +kernel
theorem dX0_gather_63 : decode cX0_gather 63 = .ok (.getfield 37, 3) := by decide +kernel
theorem dX0_gather_66 : decode cX0_gather 66 = .ok (.getfield 78, 3) := by decide +kernel
theorem dX0_gather_69 : decode cX0_gather 69 = .ok (.aload_n 1, 1) := by decide +kernel
theorem dX0_gather_70 : decode cX0_gather 70 = .ok (.invokevirtual 82, 3) := by decide +kernel
theorem dX0_gather_73 : decode cX0_gather 73 = .ok (.pop, 1) := by decide +kernel
theorem dX0_gather_74 : decode cX0_gather 74 = .ok (.return_, 1) := by decide +kernel
theorem dX0_walkRec_0 : decode cX0_walkRec 0 = .ok (.aload_n 0, 1) := by decide +kernel
theorem dX0_walkRec_1 : decode cX0_walkRec 1 = .ok (.aload_n 1, 1) := by decide +kernel
theorem dX0_walkRec_2 : decode cX0_walkRec 2 = .ok (.getfield 224, 3) := by decide +kernel
theorem dX0_walkRec_5 : decode cX0_walkRec 5 = .ok (.getfield 240, 3) := by decide +kernel
theorem dX0_walkRec_8 : decode cX0_walkRec 8 = .ok (.aload_n 1, 1) := by decide +kernel
theorem dX0_walkRec_9 : decode cX0_walkRec 9 = .ok (.getfield 241, 3) := by decide +kernel
theorem dX0_walkRec_12 : decode cX0_walkRec 12 = .ok (.aload_n 2, 1) := by decide +kernel
theorem dX0_walkRec_13 : decode cX0_walkRec 13 = .ok (.invokevirtual 229, 3) := by decide +kernel
theorem dX0_walkRec_16 : decode cX0_walkRec 16 = .ok (.astore_n 3, 1) := by decide +kernel
theorem dX0_walkRec_17 : decode cX0_walkRec 17 = .ok (.aload_n 1, 1) := by decide +kernel
theorem dX0_walkRec_18 : decode cX0_walkRec 18 = .ok (.getfield 224, 3) := by decide +kernel
theorem dX0_walkRec_21 : decode cX0_walkRec 21 = .ok (.aload_n 3, 1) := by decide +kernel
theorem dX0_walkRec_22 : decode cX0_walkRec 22 = .ok (.putfield 69, 3) := by decide +kernel
theorem dX0_walkRec_25 : decode cX0_walkRec 25 = .ok (.new 73, 3) := by decide +kernel
theorem dX0_walkRec_28 : decode cX0_walkRec 28 = .ok (.dup, 1) := by decide +kernel
theorem dX0_walkRec_29 : decode cX0_walkRec 29 = .ok (.aload_n 1, 1) := by decide +kernel
theorem dX0_walkRec_30 : decode cX0_walkRec 30 = .ok (.getfield 224, 3) := by decide +kernel
theorem dX0_walkRec_33 : decode cX0_walkRec 33 = .ok (.aload_n 2, 1) := by decide +kernel
theorem dX0_walkRec_34 : decode cX0_walkRec 34 = .ok (.invokespecial 75, 3) := by decide +kernel
theorem dX0_walkRec_37 : decode cX0_walkRec 37 = .ok (.astore 4, 2) := by decide +kernel
theorem dX0_walkRec_39 : decode cX0_walkRec 39 = .ok (.aload_n 0, 1) := by decide +kernel
theorem dX0_walkRec_40 : decode cX0_walkRec 40 = .ok (.aload_n 1, 1) := by decide +kernel
theorem dX0_walkRec_41 : decode cX0_walkRec 41 = .ok (.aload_n 3, 1) := by decide +kernel
theorem dX0_walkRec_42 : decode cX0_walkRec 42 = .ok (.aload 4, 2) := by decide +kernel
theorem dX0_walkRec_44 : decode cX0_walkRec 44 = .ok (.invokevirtual 244, 3) := by decide +kernel
theorem dX0_walkRec_47 : decode cX0_walkRec 47 = .ok (.aload_n 0, 1) := by decide +kernel
theorem dX0_walkRec_48 : decode cX0_walkRec 48 = .ok (.aload_n 1, 1) := by decide +kernel
theorem dX0_walkRec_49 : decode cX0_walkRec 49 = .ok (.getfield 226, 3) := by decide +kernel
theorem dX0_walkRec_52 : decode cX0_walkRec 52 = .ok (.aconst_null, 1) := by decide +kernel
theorem dX0_walkRec_53 : decode cX0_walkRec 53 = .ok (.aload_n 2, 1) := by decide +kernel
theorem dX0_walkRec_54 : decode cX0_walkRec 54 = .ok (.invokevirtual 229, 3) := by decide +kernel
theorem dX0_walkRec_57 : decode cX0_walkRec 57 = .ok (.astore 5, 2) := by decide +kernel
theorem dX0_walkRec_59 : decode cX0_walkRec 59 = .ok (.aload_n 0, 1) := by decide +kernel
theorem dX0_walkRec_60 : decode cX0_walkRec 60 = .ok (.aload_n 0, 1) := by decide +kernel
theorem dX0_walkRec_61 : decode cX0_walkRec 61 = .ok (.aload_n 1, 1) := by decide +kernel
theorem dX0_walkRec_62 : decode cX0_walkRec 62 = .ok (.getfield 233, 3) := by decide +kernel
theorem dX0_walkRec_65 : decode cX0_walkRec 65 = .ok (.aload 4, 2) := by decide +kernel
theorem dX0_walkRec_67 : decode cX0_walkRec 67 = .ok (.invokevirtual 82, 3) := by decide +kernel
theorem dX0_walkRec_70 : decode cX0_walkRec 70 = .ok (.aload 5, 2) := by decide +kernel
theorem dX0_walkRec_72 : decode cX0_walkRec 72 = .ok (.aload 4, 2) := by decide +kernel
theorem dX0_walkRec_74 : decode cX0_walkRec 74 = .ok (.invokevirtual 236, 3) := by decide +kernel
theorem dX0_walkRec_77 : decode cX0_walkRec 77 = .ok (.aload 5, 2) := by decide +kernel
theorem dX0_walkRec_79 : decode cX0_walkRec 79 = .ok (.areturn, 1) := by decide +kernel
theorem dX1_isFormed_0 : decode cX1_isFormed 0 = .ok (.aload_n 0, 1) := by decide +kernel
theorem dX1_isFormed_1 : decode cX1_isFormed 1 = .ok (.getfield 73, 3) := by decide +kernel
theorem dX1_isFormed_4 : decode cX1_isFormed 4 = .ok (.sipush 403, 3) := by decide +kernel
theorem dX1_isFormed_7 : decode cX1_isFormed 7 = .ok (.if_icmp .ne 13, 3) := by decide +kernel
theorem dX1_isFormed_10 : decode cX1_isFormed 10 = .ok (.aload_n 0, 1) := by decide +kernel
theorem dX1_isFormed_11 : decode cX1_isFormed 11 = .ok (.getfield 76, 3) := by decide +kernel
theorem dX1_isFormed_14 : decode cX1_isFormed 14 = .ok (.invokevirtual 80, 3) := by decide +kernel
theorem dX1_isFormed_17 : decode cX1_isFormed 17 = .ok (.ifCond .eq 7, 3) := by decide +kernel
theorem dX1_isFormed_20 : decode cX1_isFormed 20 = .ok (.iconst 1, 1) := by decide +kernel
theorem dX1_isFormed_21 : decode cX1_isFormed 21 = .ok (.goto 4, 3) := by decide +kernel
theorem dX1_isFormed_24 : decode cX1_isFormed 24 = .ok (.iconst 0, 1) := by decide +kernel
theorem dX1_isFormed_25 : decode cX1_isFormed 25 = .ok (.istore_n 1, 1) := by decide +kernel
theorem dX1_isFormed_26 : decode cX1_isFormed 26 = .ok (.iconst 0, 1) := by decide +kernel
theorem dX1_isFormed_27 : decode cX1_isFormed 27 = .ok (.istore_n 2, 1) := by decide +kernel
theorem dX1_isFormed_28 : decode cX1_isFormed 28 = .ok (.aload_n 0, 1) := by decide +kernel
theorem dX1_isFormed_29 : decode cX1_isFormed 29 = .ok (.getfield 73, 3) := by decide +kernel
theorem dX1_isFormed_32 : decode cX1_isFormed 32 = .ok (.sipush 302, 3) := by decide +kernel
theorem dX1_isFormed_35 : decode cX1_isFormed 35 = .ok (.if_icmp .ne 62, 3) := by decide +kernel
theorem dX1_isFormed_38 : decode cX1_isFormed 38 = .ok (.iload_n 2, 1) := by decide +kernel
theorem dX1_isFormed_39 : decode cX1_isFormed 39 = .ok (.aload_n 0, 1) := by decide +kernel
theorem dX1_isFormed_40 : decode cX1_isFormed 40 = .ok (.getfield 86, 3) := by decide +kernel
theorem dX1_isFormed_43 : decode cX1_isFormed 43 = .ok (.invokevirtual 90, 3) := by decide +kernel
theorem dX1_isFormed_46 : decode cX1_isFormed 46 = .ok (.if_icmp .ge 51, 3) := by decide +kernel
theorem dX1_isFormed_49 : decode cX1_isFormed 49 = .ok (.aload_n 0, 1) := by decide +kernel
theorem dX1_isFormed_50 : decode cX1_isFormed 50 = .ok (.getfield 86, 3) := by decide +kernel
theorem dX1_isFormed_53 : decode cX1_isFormed 53 = .ok (.iload_n 2, 1) := by decide +kernel
theorem dX1_isFormed_54 : decode cX1_isFormed 54 = .ok (.invokevirtual 96, 3) := by decide +kernel
theorem dX1_isFormed_57 : decode cX1_isFormed 57 = .ok (.checkcast 18, 3) := by decide +kernel
theorem dX1_isFormed_60 : decode cX1_isFormed 60 = .ok (.astore_n 3, 1) := by decide +kernel
theorem dX1_isFormed_61 : decode cX1_isFormed 61 = .ok (.iload_n 1, 1) := by decide +kernel
theorem dX1_isFormed_62 : decode cX1_isFormed 62 = .ok (.ifCond .eq 27, 3) := by decide +kernel
theorem dX1_isFormed_65 : decode cX1_isFormed 65 = .ok (.aload_n 3, 1) := by decide +kernel
theorem dX1_isFormed_66 : decode cX1_isFormed 66 = .ok (.getfield 73, 3) := by decide +kernel
theorem dX1_isFormed_69 : decode cX1_isFormed 69 = .ok (.sipush 403, 3) := by decide +kernel
theorem dX1_isFormed_72 : decode cX1_isFormed 72 = .ok (.if_icmp .ne 13, 3) := by decide +kernel
theorem dX1_isFormed_75 : decode cX1_isFormed 75 = .ok (.aload_n 3, 1) := by decide +kernel
theorem dX1_isFormed_76 : decode cX1_isFormed 76 = .ok (.getfield 76, 3) := by decide +kernel
theorem dX1_isFormed_79 : decode cX1_isFormed 79 = .ok (.invokevirtual 80, 3) := by decide +kernel
theorem dX1_isFormed_82 : decode cX1_isFormed 82 = .ok (.ifCond .eq 7, 3) := by decide +kernel
theorem dX1_isFormed_85 : decode cX1_isFormed 85 = .ok (.iconst 1, 1) := by decide +kernel
theorem dX1_isFormed_86 : decode cX1_isFormed 86 = .ok (.goto 4, 3) := by decide +kernel
theorem dX1_isFormed_89 : decode cX1_isFormed 89 = .ok (.iconst 0, 1) := by decide +kernel
theorem dX1_isFormed_90 : decode cX1_isFormed 90 = .ok (.istore_n 1, 1) := by decide +kernel
theorem dX1_isFormed_91 : decode cX1_isFormed 91 = .ok (.iinc 2 1, 3) := by decide +kernel
theorem dX1_isFormed_94 : decode cX1_isFormed 94 = .ok (.goto (-66), 3) := by decide +kernel
theorem dX1_isFormed_97 : decode cX1_isFormed 97 = .ok (.iload_n 1, 1) := by decide +kernel
theorem dX1_isFormed_98 : decode cX1_isFormed 98 = .ok (.ireturn, 1) := by decide +kernel
theorem dX2_recall_0 : decode cX2_recall 0 = .ok (.iload_n 1, 1) := by decide +kernel
theorem dX2_recall_1 : decode cX2_recall 1 = .ok (.ifCond .lt 14, 3) := by decide +kernel
theorem dX2_recall_4 : decode cX2_recall 4 = .ok (.iload_n 1, 1) := by decide +kernel
theorem dX2_recall_5 : decode cX2_recall 5 = .ok (.aload_n 0, 1) := by decide +kernel
theorem dX2_recall_6 : decode cX2_recall 6 = .ok (.getfield 13, 3) := by decide +kernel
theorem dX2_recall_9 : decode cX2_recall 9 = .ok (.getfield 48, 3) := by decide +kernel
theorem dX2_recall_12 : decode cX2_recall 12 = .ok (.if_icmp .lt 4, 3) := by decide +kernel
theorem dX2_recall_15 : decode cX2_recall 15 = .ok (.return_, 1) := by decide +kernel
theorem dX2_recall_16 : decode cX2_recall 16 = .ok (.aload_n 0, 1) := by decide +kernel
theorem dX2_recall_17 : decode cX2_recall 17 = .ok (.getfield 13, 3) := by decide +kernel
theorem dX2_recall_20 : decode cX2_recall 20 = .ok (.getfield 45, 3) := by decide +kernel
theorem dX2_recall_23 : decode cX2_recall 23 = .ok (.iload_n 1, 1) := by decide +kernel
theorem dX2_recall_24 : decode cX2_recall 24 = .ok (.aaload, 1) := by decide +kernel
theorem dX2_recall_25 : decode cX2_recall 25 = .ok (.astore_n 2, 1) := by decide +kernel
theorem dX2_recall_26 : decode cX2_recall 26 = .ok (.aload_n 0, 1) := by decide +kernel
theorem dX2_recall_27 : decode cX2_recall 27 = .ok (.aload_n 0, 1) := by decide +kernel
theorem dX2_recall_28 : decode cX2_recall 28 = .ok (.getfield 13, 3) := by decide +kernel
theorem dX2_recall_31 : decode cX2_recall 31 = .ok (.getfield 41, 3) := by decide +kernel
theorem dX2_recall_34 : decode cX2_recall 34 = .ok (.iload_n 1, 1) := by decide +kernel
theorem dX2_recall_35 : decode cX2_recall 35 = .ok (.iaload, 1) := by decide +kernel
theorem dX2_recall_36 : decode cX2_recall 36 = .ok (.putfield 51, 3) := by decide +kernel
theorem dX2_recall_39 : decode cX2_recall 39 = .ok (.aload_n 0, 1) := by decide +kernel
theorem dX2_recall_40 : decode cX2_recall 40 = .ok (.aload_n 2, 1) := by decide +kernel
theorem dX2_recall_41 : decode cX2_recall 41 = .ok (.getfield 54, 3) := by decide +kernel
theorem dX2_recall_44 : decode cX2_recall 44 = .ok (.putfield 58, 3) := by decide +kernel
theorem dX2_recall_47 : decode cX2_recall 47 = .ok (.aload_n 0, 1) := by decide +kernel
theorem dX2_recall_48 : decode cX2_recall 48 = .ok (.aload_n 2, 1) := by decide +kernel
theorem dX2_recall_49 : decode cX2_recall 49 = .ok (.getfield 59, 3) := by decide +kernel
theorem dX2_recall_52 : decode cX2_recall 52 = .ok (.ifCond .ne 7, 3) := by decide +kernel
theorem dX2_recall_55 : decode cX2_recall 55 = .ok (.aconst_null, 1) := by decide +kernel
theorem dX2_recall_56 : decode cX2_recall 56 = .ok (.goto 9, 3) := by decide +kernel
theorem dX2_recall_59 : decode cX2_recall 59 = .ok (.aload_n 2, 1) := by decide +kernel
theorem dX2_recall_60 : decode cX2_recall 60 = .ok (.getfield 60, 3) := by decide +kernel
theorem dX2_recall_63 : decode cX2_recall 63 = .ok (.iconst 0, 1) := by decide +kernel
theorem dX2_recall_64 : decode cX2_recall 64 = .ok (.aaload, 1) := by decide +kernel
theorem dX2_recall_65 : decode cX2_recall 65 = .ok (.putfield 63, 3) := by decide +kernel
theorem dX2_recall_68 : decode cX2_recall 68 = .ok (.aload_n 0, 1) := by decide +kernel
theorem dX2_recall_69 : decode cX2_recall 69 = .ok (.aload_n 2, 1) := by decide +kernel
theorem dX2_recall_70 : decode cX2_recall 70 = .ok (.getfield 67, 3) := by decide +kernel
theorem dX2_recall_73 : decode cX2_recall 73 = .ok (.iconst 0, 1) := by decide +kernel
theorem dX2_recall_74 : decode cX2_recall 74 = .ok (.iaload, 1) := by decide +kernel
theorem dX2_recall_75 : decode cX2_recall 75 = .ok (.putfield 70, 3) := by decide +kernel
theorem dX2_recall_78 : decode cX2_recall 78 = .ok (.aload_n 0, 1) := by decide +kernel
theorem dX2_recall_79 : decode cX2_recall 79 = .ok (.aload_n 0, 1) := by decide +kernel
theorem dX2_recall_80 : decode cX2_recall 80 = .ok (.getfield 63, 3) := by decide +kernel
theorem dX2_recall_83 : decode cX2_recall 83 = .ok (.invokevirtual 72, 3) := by decide +kernel
theorem dX2_recall_86 : decode cX2_recall 86 = .ok (.astore_n 3, 1) := by decide +kernel
theorem dX2_recall_87 : decode cX2_recall 87 = .ok (.aload_n 3, 1) := by decide +kernel
theorem dX2_recall_88 : decode cX2_recall 88 = .ok (.ifnull 58, 3) := by decide +kernel
theorem dX2_recall_91 : decode cX2_recall 91 = .ok (.aload_n 0, 1) := by decide +kernel
theorem dX2_recall_92 : decode cX2_recall 92 = .ok (.dup, 1) := by decide +kernel
theorem dX2_recall_93 : decode cX2_recall 93 = .ok (.getfield 58, 3) := by decide +kernel
theorem dX2_recall_96 : decode cX2_recall 96 = .ok (.aload_n 0, 1) := by decide +kernel
theorem dX2_recall_97 : decode cX2_recall 97 = .ok (.getfield 70, 3) := by decide +kernel
theorem dX2_recall_100 : decode cX2_recall 100 = .ok (.i2l, 1) := by decide +kernel
theorem dX2_recall_101 : decode cX2_recall 101 = .ok (.aload_n 3, 1) := by decide +kernel
theorem dX2_recall_102 : decode cX2_recall 102 = .ok (.getfield 54, 3) := by decide +kernel
theorem dX2_recall_105 : decode cX2_recall 105 = .ok (.lmul, 1) := by decide +kernel
theorem dX2_recall_106 : decode cX2_recall 106 = .ok (.ladd, 1) := by decide +kernel
theorem dX2_recall_107 : decode cX2_recall 107 = .ok (.putfield 58, 3) := by decide +kernel
theorem dX2_recall_110 : decode cX2_recall 110 = .ok (.aload_n 0, 1) := by decide +kernel
theorem dX2_recall_111 : decode cX2_recall 111 = .ok (.aload_n 3, 1) := by decide +kernel
theorem dX2_recall_112 : decode cX2_recall 112 = .ok (.getfield 59, 3) := by decide +kernel
theorem dX2_recall_115 : decode cX2_recall 115 = .ok (.ifCond .ne 7, 3) := by decide +kernel
theorem dX2_recall_118 : decode cX2_recall 118 = .ok (.aconst_null, 1) := by decide +kernel
theorem dX2_recall_119 : decode cX2_recall 119 = .ok (.goto 9, 3) := by decide +kernel
theorem dX2_recall_122 : decode cX2_recall 122 = .ok (.aload_n 3, 1) := by decide +kernel
theorem dX2_recall_123 : decode cX2_recall 123 = .ok (.getfield 60, 3) := by decide +kernel
theorem dX2_recall_126 : decode cX2_recall 126 = .ok (.iconst 0, 1) := by decide +kernel
theorem dX2_recall_127 : decode cX2_recall 127 = .ok (.aaload, 1) := by decide +kernel
theorem dX2_recall_128 : decode cX2_recall 128 = .ok (.putfield 63, 3) := by decide +kernel
theorem dX2_recall_131 : decode cX2_recall 131 = .ok (.aload_n 0, 1) := by decide +kernel
theorem dX2_recall_132 : decode cX2_recall 132 = .ok (.dup, 1) := by decide +kernel
theorem dX2_recall_133 : decode cX2_recall 133 = .ok (.getfield 70, 3) := by decide +kernel
theorem dX2_recall_136 : decode cX2_recall 136 = .ok (.aload_n 3, 1) := by decide +kernel
theorem dX2_recall_137 : decode cX2_recall 137 = .ok (.getfield 67, 3) := by decide +kernel
theorem dX2_recall_140 : decode cX2_recall 140 = .ok (.iconst 0, 1) := by decide +kernel
theorem dX2_recall_141 : decode cX2_recall 141 = .ok (.iaload, 1) := by decide +kernel
theorem dX2_recall_142 : decode cX2_recall 142 = .ok (.imul, 1) := by decide +kernel
theorem dX2_recall_143 : decode cX2_recall 143 = .ok (.putfield 70, 3) := by decide +kernel
theorem dX2_recall_146 : decode cX2_recall 146 = .ok (.return_, 1) := by decide +kernel
theorem dX2_insteadOf_0 : decode cX2_insteadOf 0 = .ok (.iconst 0, 1) := by decide +kernel
theorem dX2_insteadOf_1 : decode cX2_insteadOf 1 = .ok (.istore_n 2, 1) := by decide +kernel
theorem dX2_insteadOf_2 : decode cX2_insteadOf 2 = .ok (.aload_n 0, 1) := by decide +kernel
theorem dX2_insteadOf_3 : decode cX2_insteadOf 3 = .ok (.getfield 17, 3) := by decide +kernel
theorem dX2_insteadOf_6 : decode cX2_insteadOf 6 = .ok (.ifnull 39, 3) := by decide +kernel
theorem dX2_insteadOf_9 : decode cX2_insteadOf 9 = .ok (.aload_n 1, 1) := by decide +kernel
theorem dX2_insteadOf_10 : decode cX2_insteadOf 10 = .ok (.ifnull 35, 3) := by decide +kernel
theorem dX2_insteadOf_13 : decode cX2_insteadOf 13 = .ok (.iload_n 2, 1) := by decide +kernel
theorem dX2_insteadOf_14 : decode cX2_insteadOf 14 = .ok (.aload_n 0, 1) := by decide +kernel
theorem dX2_insteadOf_15 : decode cX2_insteadOf 15 = .ok (.getfield 17, 3) := by decide +kernel
theorem dX2_insteadOf_18 : decode cX2_insteadOf 18 = .ok (.arraylength, 1) := by decide +kernel
theorem dX2_insteadOf_19 : decode cX2_insteadOf 19 = .ok (.if_icmp .ge 26, 3) := by decide +kernel
theorem dX2_insteadOf_22 : decode cX2_insteadOf 22 = .ok (.aload_n 0, 1) := by decide +kernel
theorem dX2_insteadOf_23 : decode cX2_insteadOf 23 = .ok (.getfield 17, 3) := by decide +kernel
theorem dX2_insteadOf_26 : decode cX2_insteadOf 26 = .ok (.iload_n 2, 1) := by decide +kernel
theorem dX2_insteadOf_27 : decode cX2_insteadOf 27 = .ok (.aaload, 1) := by decide +kernel
theorem dX2_insteadOf_28 : decode cX2_insteadOf 28 = .ok (.aload_n 1, 1) := by decide +kernel
theorem dX2_insteadOf_29 : decode cX2_insteadOf 29 = .ok (.if_acmp .ne 10, 3) := by decide +kernel
theorem dX2_insteadOf_32 : decode cX2_insteadOf 32 = .ok (.aload_n 0, 1) := by decide +kernel
theorem dX2_insteadOf_33 : decode cX2_insteadOf 33 = .ok (.getfield 21, 3) := by decide +kernel
theorem dX2_insteadOf_36 : decode cX2_insteadOf 36 = .ok (.iload_n 2, 1) := by decide +kernel
theorem dX2_insteadOf_37 : decode cX2_insteadOf 37 = .ok (.aaload, 1) := by decide +kernel
theorem dX2_insteadOf_38 : decode cX2_insteadOf 38 = .ok (.areturn, 1) := by decide +kernel
theorem dX2_insteadOf_39 : decode cX2_insteadOf 39 = .ok (.iinc 2 1, 3) := by decide +kernel
theorem dX2_insteadOf_42 : decode cX2_insteadOf 42 = .ok (.goto (-40), 3) := by decide +kernel
theorem dX2_insteadOf_45 : decode cX2_insteadOf 45 = .ok (.aconst_null, 1) := by decide +kernel
theorem dX2_insteadOf_46 : decode cX2_insteadOf 46 = .ok (.areturn, 1) := by decide +kernel
theorem dX6_reset_0 : decode cX6_reset 0 = .ok (.aload_n 0, 1) := by decide +kernel
theorem dX6_reset_1 : decode cX6_reset 1 = .ok (.iconst 2, 1) := by decide +kernel
theorem dX6_reset_2 : decode cX6_reset 2 = .ok (.iload_n 1, 1) := by decide +kernel
theorem dX6_reset_3 : decode cX6_reset 3 = .ok (.imul, 1) := by decide +kernel
theorem dX6_reset_4 : decode cX6_reset 4 = .ok (.putfield 13, 3) := by decide +kernel
theorem dX6_reset_7 : decode cX6_reset 7 = .ok (.aload_n 0, 1) := by decide +kernel
theorem dX6_reset_8 : decode cX6_reset 8 = .ok (.iconst 0, 1) := by decide +kernel
theorem dX6_reset_9 : decode cX6_reset 9 = .ok (.putfield 17, 3) := by decide +kernel
theorem dX6_reset_12 : decode cX6_reset 12 = .ok (.aload_n 0, 1) := by decide +kernel
theorem dX6_reset_13 : decode cX6_reset 13 = .ok (.iconst 0, 1) := by decide +kernel
theorem dX6_reset_14 : decode cX6_reset 14 = .ok (.putfield 20, 3) := by decide +kernel
theorem dX6_reset_17 : decode cX6_reset 17 = .ok (.aload_n 0, 1) := by decide +kernel
theorem dX6_reset_18 : decode cX6_reset 18 = .ok (.iconst 0, 1) := by decide +kernel
theorem dX6_reset_19 : decode cX6_reset 19 = .ok (.putfield 24, 3) := by decide +kernel
theorem dX6_reset_22 : decode cX6_reset 22 = .ok (.aload_n 0, 1) := by decide +kernel
theorem dX6_reset_23 : decode cX6_reset 23 = .ok (.aload_n 0, 1) := by decide +kernel
theorem dX6_reset_24 : decode cX6_reset 24 = .ok (.getfield 13, 3) := by decide +kernel
theorem dX6_reset_27 : decode cX6_reset 27 = .ok (.aload_n 0, 1) := by decide +kernel
theorem dX6_reset_28 : decode cX6_reset 28 = .ok (.getfield 13, 3) := by decide +kernel
theorem dX6_reset_31 : decode cX6_reset 31 = .ok (.imul, 1) := by decide +kernel
theorem dX6_reset_32 : decode cX6_reset 32 = .ok (.invokevirtual 27, 3) := by decide +kernel
theorem dX6_reset_35 : decode cX6_reset 35 = .ok (.iconst 0, 1) := by decide +kernel
theorem dX6_reset_36 : decode cX6_reset 36 = .ok (.istore_n 2, 1) := by decide +kernel
theorem dX6_reset_37 : decode cX6_reset 37 = .ok (.iload_n 2, 1) := by decide +kernel
theorem dX6_reset_38 : decode cX6_reset 38 = .ok (.aload_n 0, 1) := by decide +kernel
theorem dX6_reset_39 : decode cX6_reset 39 = .ok (.getfield 13, 3) := by decide +kernel
theorem dX6_reset_42 : decode cX6_reset 42 = .ok (.aload_n 0, 1) := by decide +kernel
theorem dX6_reset_43 : decode cX6_reset 43 = .ok (.getfield 13, 3) := by decide +kernel
theorem dX6_reset_46 : decode cX6_reset 46 = .ok (.imul, 1) := by decide +kernel
theorem dX6_reset_47 : decode cX6_reset 47 = .ok (.if_icmp .ge 18, 3) := by decide +kernel
theorem dX6_reset_50 : decode cX6_reset 50 = .ok (.aload_n 0, 1) := by decide +kernel
theorem dX6_reset_51 : decode cX6_reset 51 = .ok (.getfield 7, 3) := by decide +kernel
theorem dX6_reset_54 : decode cX6_reset 54 = .ok (.iload_n 2, 1) := by decide +kernel
theorem dX6_reset_55 : decode cX6_reset 55 = .ok (.ldc2_w 31, 3) := by decide +kernel
theorem dX6_reset_58 : decode cX6_reset 58 = .ok (.lastore, 1) := by decide +kernel
theorem dX6_reset_59 : decode cX6_reset 59 = .ok (.iinc 2 1, 3) := by decide +kernel
theorem dX6_reset_62 : decode cX6_reset 62 = .ok (.goto (-25), 3) := by decide +kernel
theorem dX6_reset_65 : decode cX6_reset 65 = .ok (.iconst 0, 1) := by decide +kernel
theorem dX6_reset_66 : decode cX6_reset 66 = .ok (.istore_n 2, 1) := by decide +kernel
theorem dX6_reset_67 : decode cX6_reset 67 = .ok (.iload_n 2, 1) := by decide +kernel
theorem dX6_reset_68 : decode cX6_reset 68 = .ok (.aload_n 0, 1) := by decide +kernel
theorem dX6_reset_69 : decode cX6_reset 69 = .ok (.getfield 13, 3) := by decide +kernel
theorem dX6_reset_72 : decode cX6_reset 72 = .ok (.if_icmp .ge 23, 3) := by decide +kernel
theorem dX6_reset_75 : decode cX6_reset 75 = .ok (.aload_n 0, 1) := by decide +kernel
theorem dX6_reset_76 : decode cX6_reset 76 = .ok (.getfield 7, 3) := by decide +kernel
theorem dX6_reset_79 : decode cX6_reset 79 = .ok (.iload_n 2, 1) := by decide +kernel
theorem dX6_reset_80 : decode cX6_reset 80 = .ok (.aload_n 0, 1) := by decide +kernel
theorem dX6_reset_81 : decode cX6_reset 81 = .ok (.getfield 13, 3) := by decide +kernel
theorem dX6_reset_84 : decode cX6_reset 84 = .ok (.imul, 1) := by decide +kernel
theorem dX6_reset_85 : decode cX6_reset 85 = .ok (.iload_n 2, 1) := by decide +kernel
theorem dX6_reset_86 : decode cX6_reset 86 = .ok (.iadd, 1) := by decide +kernel
theorem dX6_reset_87 : decode cX6_reset 87 = .ok (.lconst 0, 1) := by decide +kernel
theorem dX6_reset_88 : decode cX6_reset 88 = .ok (.lastore, 1) := by decide +kernel
theorem dX6_reset_89 : decode cX6_reset 89 = .ok (.iinc 2 1, 3) := by decide +kernel
theorem dX6_reset_92 : decode cX6_reset 92 = .ok (.goto (-25), 3) := by decide +kernel
theorem dX6_reset_95 : decode cX6_reset 95 = .ok (.return_, 1) := by decide +kernel
theorem dX6_makeRoom_0 : decode cX6_makeRoom 0 = .ok (.aload_n 0, 1) := by decide +kernel
theorem dX6_makeRoom_1 : decode cX6_makeRoom 1 = .ok (.getfield 7, 3) := by decide +kernel
theorem dX6_makeRoom_4 : decode cX6_makeRoom 4 = .ok (.arraylength, 1) := by decide +kernel
theorem dX6_makeRoom_5 : decode cX6_makeRoom 5 = .ok (.iload_n 1, 1) := by decide +kernel
theorem dX6_makeRoom_6 : decode cX6_makeRoom 6 = .ok (.if_icmp .ge 17, 3) := by decide +kernel
theorem dX6_makeRoom_9 : decode cX6_makeRoom 9 = .ok (.aload_n 0, 1) := by decide +kernel
theorem dX6_makeRoom_10 : decode cX6_makeRoom 10 = .ok (.aload_n 0, 1) := by decide +kernel
theorem dX6_makeRoom_11 : decode cX6_makeRoom 11 = .ok (.getfield 7, 3) := by decide +kernel
theorem dX6_makeRoom_14 : decode cX6_makeRoom 14 = .ok (.iconst 2, 1) := by decide +kernel
theorem dX6_makeRoom_15 : decode cX6_makeRoom 15 = .ok (.iload_n 1, 1) := by decide +kernel
theorem dX6_makeRoom_16 : decode cX6_makeRoom 16 = .ok (.imul, 1) := by decide +kernel
theorem dX6_makeRoom_17 : decode cX6_makeRoom 17 = .ok (.invokestatic 33, 3) := by decide +kernel
theorem dX6_makeRoom_20 : decode cX6_makeRoom 20 = .ok (.putfield 7, 3) := by decide +kernel
theorem dX6_makeRoom_23 : decode cX6_makeRoom 23 = .ok (.return_, 1) := by decide +kernel
theorem dX6_limit_0 : decode cX6_limit 0 = .ok (.iload_n 1, 1) := by decide +kernel
theorem dX6_limit_1 : decode cX6_limit 1 = .ok (.iload_n 2, 1) := by decide +kernel
theorem dX6_limit_2 : decode cX6_limit 2 = .ok (.iconst 1, 1) := by decide +kernel
theorem dX6_limit_3 : decode cX6_limit 3 = .ok (.ixor, 1) := by decide +kernel
theorem dX6_limit_4 : decode cX6_limit 4 = .ok (.if_icmp .ne 26, 3) := by decide +kernel
theorem dX6_limit_7 : decode cX6_limit 7 = .ok (.aload_n 0, 1) := by decide +kernel
theorem dX6_limit_8 : decode cX6_limit 8 = .ok (.aload_n 0, 1) := by decide +kernel
theorem dX6_limit_9 : decode cX6_limit 9 = .ok (.getfield 24, 3) := by decide +kernel
theorem dX6_limit_12 : decode cX6_limit 12 = .ok (.ifCond .ne 9, 3) := by decide +kernel
theorem dX6_limit_15 : decode cX6_limit 15 = .ok (.lload_n 3, 1) := by decide +kernel
theorem dX6_limit_16 : decode cX6_limit 16 = .ok (.lconst 0, 1) := by decide +kernel
theorem dX6_limit_17 : decode cX6_limit 17 = .ok (.lcmp, 1) := by decide +kernel
theorem dX6_limit_18 : decode cX6_limit 18 = .ok (.ifCond .ge 7, 3) := by decide +kernel
theorem dX6_limit_21 : decode cX6_limit 21 = .ok (.iconst 1, 1) := by decide +kernel
theorem dX6_limit_22 : decode cX6_limit 22 = .ok (.goto 4, 3) := by decide +kernel
theorem dX6_limit_25 : decode cX6_limit 25 = .ok (.iconst 0, 1) := by decide +kernel
theorem dX6_limit_26 : decode cX6_limit 26 = .ok (.putfield 24, 3) := by decide +kernel
theorem dX6_limit_29 : decode cX6_limit 29 = .ok (.return_, 1) := by decide +kernel
theorem dX6_limit_30 : decode cX6_limit 30 = .ok (.aload_n 0, 1) := by decide +kernel
theorem dX6_limit_31 : decode cX6_limit 31 = .ok (.getfield 17, 3) := by decide +kernel
theorem dX6_limit_34 : decode cX6_limit 34 = .ok (.iload_n 2, 1) := by decide +kernel
theorem dX6_limit_35 : decode cX6_limit 35 = .ok (.iconst 1, 1) := by decide +kernel
theorem dX6_limit_36 : decode cX6_limit 36 = .ok (.ixor, 1) := by decide +kernel
theorem dX6_limit_37 : decode cX6_limit 37 = .ok (.aload_n 0, 1) := by decide +kernel
theorem dX6_limit_38 : decode cX6_limit 38 = .ok (.getfield 13, 3) := by decide +kernel
theorem dX6_limit_41 : decode cX6_limit 41 = .ok (.imul, 1) := by decide +kernel
theorem dX6_limit_42 : decode cX6_limit 42 = .ok (.iadd, 1) := by decide +kernel
theorem dX6_limit_43 : decode cX6_limit 43 = .ok (.iload_n 1, 1) := by decide +kernel
theorem dX6_limit_44 : decode cX6_limit 44 = .ok (.iadd, 1) := by decide +kernel
theorem dX6_limit_45 : decode cX6_limit 45 = .ok (.istore 5, 2) := by decide +kernel
theorem dX6_limit_47 : decode cX6_limit 47 = .ok (.aload_n 0, 1) := by decide +kernel
theorem dX6_limit_48 : decode cX6_limit 48 = .ok (.getfield 17, 3) := by decide +kernel
theorem dX6_limit_51 : decode cX6_limit 51 = .ok (.iload_n 1, 1) := by decide +kernel
theorem dX6_limit_52 : decode cX6_limit 52 = .ok (.iconst 1, 1) := by decide +kernel
theorem dX6_limit_53 : decode cX6_limit 53 = .ok (.ixor, 1) := by decide +kernel
theorem dX6_limit_54 : decode cX6_limit 54 = .ok (.aload_n 0, 1) := by decide +kernel
theorem dX6_limit_55 : decode cX6_limit 55 = .ok (.getfield 13, 3) := by decide +kernel
theorem dX6_limit_58 : decode cX6_limit 58 = .ok (.imul, 1) := by decide +kernel
theorem dX6_limit_59 : decode cX6_limit 59 = .ok (.iadd, 1) := by decide +kernel
theorem dX6_limit_60 : decode cX6_limit 60 = .ok (.iload_n 2, 1) := by decide +kernel
theorem dX6_limit_61 : decode cX6_limit 61 = .ok (.iadd, 1) := by decide +kernel
theorem dX6_limit_62 : decode cX6_limit 62 = .ok (.istore 6, 2) := by decide +kernel
theorem dX6_limit_64 : decode cX6_limit 64 = .ok (.aload_n 0, 1) := by decide +kernel
theorem dX6_limit_65 : decode cX6_limit 65 = .ok (.getfield 24, 3) := by decide +kernel
theorem dX6_limit_68 : decode cX6_limit 68 = .ok (.ifCond .ne 15, 3) := by decide +kernel
theorem dX6_limit_71 : decode cX6_limit 71 = .ok (.aload_n 0, 1) := by decide +kernel
theorem dX6_limit_72 : decode cX6_limit 72 = .ok (.getfield 7, 3) := by decide +kernel
theorem dX6_limit_75 : decode cX6_limit 75 = .ok (.iload 5, 2) := by decide +kernel
theorem dX6_limit_77 : decode cX6_limit 77 = .ok (.laload, 1) := by decide +kernel
theorem dX6_limit_78 : decode cX6_limit 78 = .ok (.lload_n 3, 1) := by decide +kernel
theorem dX6_limit_79 : decode cX6_limit 79 = .ok (.lcmp, 1) := by decide +kernel
theorem dX6_limit_80 : decode cX6_limit 80 = .ok (.ifCond .gt 4, 3) := by decide +kernel
theorem dX6_limit_83 : decode cX6_limit 83 = .ok (.return_, 1) := by decide +kernel
theorem dX6_limit_84 : decode cX6_limit 84 = .ok (.aload_n 0, 1) := by decide +kernel
theorem dX6_limit_85 : decode cX6_limit 85 = .ok (.getfield 20, 3) := by decide +kernel
theorem dX6_limit_88 : decode cX6_limit 88 = .ok (.ifCond .eq 28, 3) := by decide +kernel
theorem dX6_limit_91 : decode cX6_limit 91 = .ok (.aload_n 0, 1) := by decide +kernel
theorem dX6_limit_92 : decode cX6_limit 92 = .ok (.iload_n 2, 1) := by decide +kernel
theorem dX6_limit_93 : decode cX6_limit 93 = .ok (.iconst 1, 1) := by decide +kernel
theorem dX6_limit_94 : decode cX6_limit 94 = .ok (.ixor, 1) := by decide +kernel
theorem dX6_limit_95 : decode cX6_limit 95 = .ok (.iload_n 1, 1) := by decide +kernel
theorem dX6_limit_96 : decode cX6_limit 96 = .ok (.lload_n 3, 1) := by decide +kernel
theorem dX6_limit_97 : decode cX6_limit 97 = .ok (.invokevirtual 51, 3) := by decide +kernel
theorem dX6_limit_100 : decode cX6_limit 100 = .ok (.aload_n 0, 1) := by decide +kernel
theorem dX6_limit_101 : decode cX6_limit 101 = .ok (.iload_n 1, 1) := by decide +kernel
theorem dX6_limit_102 : decode cX6_limit 102 = .ok (.iconst 1, 1) := by decide +kernel
theorem dX6_limit_103 : decode cX6_limit 103 = .ok (.ixor, 1) := by decide +kernel
theorem dX6_limit_104 : decode cX6_limit 104 = .ok (.iload_n 2, 1) := by decide +kernel
theorem dX6_limit_105 : decode cX6_limit 105 = .ok (.lload_n 3, 1) := by decide +kernel
theorem dX6_limit_106 : decode cX6_limit 106 = .ok (.invokevirtual 51, 3) := by decide +kernel
theorem dX6_limit_109 : decode cX6_limit 109 = .ok (.aload_n 0, 1) := by decide +kernel
theorem dX6_limit_110 : decode cX6_limit 110 = .ok (.invokevirtual 55, 3) := by decide +kernel
theorem dX6_limit_113 : decode cX6_limit 113 = .ok (.goto 19, 3) := by decide +kernel
theorem dX6_limit_116 : decode cX6_limit 116 = .ok (.aload_n 0, 1) := by decide +kernel
theorem dX6_limit_117 : decode cX6_limit 117 = .ok (.getfield 7, 3) := by decide +kernel
theorem dX6_limit_120 : decode cX6_limit 120 = .ok (.iload 5, 2) := by decide +kernel
theorem dX6_limit_122 : decode cX6_limit 122 = .ok (.lload_n 3, 1) := by decide +kernel
theorem dX6_limit_123 : decode cX6_limit 123 = .ok (.lastore, 1) := by decide +kernel
theorem dX6_limit_124 : decode cX6_limit 124 = .ok (.aload_n 0, 1) := by decide +kernel
theorem dX6_limit_125 : decode cX6_limit 125 = .ok (.getfield 7, 3) := by decide +kernel
theorem dX6_limit_128 : decode cX6_limit 128 = .ok (.iload 6, 2) := by decide +kernel
theorem dX6_limit_130 : decode cX6_limit 130 = .ok (.lload_n 3, 1) := by decide +kernel
theorem dX6_limit_131 : decode cX6_limit 131 = .ok (.lastore, 1) := by decide +kernel
theorem dX6_limit_132 : decode cX6_limit 132 = .ok (.return_, 1) := by decide +kernel
theorem dX6_lead_0 : decode cX6_lead 0 = .ok (.aload_n 0, 1) := by decide +kernel
theorem dX6_lead_1 : decode cX6_lead 1 = .ok (.getfield 17, 3) := by decide +kernel
theorem dX6_lead_4 : decode cX6_lead 4 = .ok (.iload_n 2, 1) := by decide +kernel
theorem dX6_lead_5 : decode cX6_lead 5 = .ok (.aload_n 0, 1) := by decide +kernel
theorem dX6_lead_6 : decode cX6_lead 6 = .ok (.getfield 13, 3) := by decide +kernel
theorem dX6_lead_9 : decode cX6_lead 9 = .ok (.imul, 1) := by decide +kernel
theorem dX6_lead_10 : decode cX6_lead 10 = .ok (.iadd, 1) := by decide +kernel
theorem dX6_lead_11 : decode cX6_lead 11 = .ok (.istore 5, 2) := by decide +kernel
theorem dX6_lead_13 : decode cX6_lead 13 = .ok (.iconst 0, 1) := by decide +kernel
theorem dX6_lead_14 : decode cX6_lead 14 = .ok (.istore 6, 2) := by decide +kernel
theorem dX6_lead_16 : decode cX6_lead 16 = .ok (.iload 6, 2) := by decide +kernel
theorem dX6_lead_18 : decode cX6_lead 18 = .ok (.aload_n 0, 1) := by decide +kernel
theorem dX6_lead_19 : decode cX6_lead 19 = .ok (.getfield 13, 3) := by decide +kernel
theorem dX6_lead_22 : decode cX6_lead 22 = .ok (.if_icmp .ge 132, 3) := by decide +kernel
theorem dX6_lead_25 : decode cX6_lead 25 = .ok (.aload_n 0, 1) := by decide +kernel
theorem dX6_lead_26 : decode cX6_lead 26 = .ok (.getfield 17, 3) := by decide +kernel
theorem dX6_lead_29 : decode cX6_lead 29 = .ok (.iload 6, 2) := by decide +kernel
theorem dX6_lead_31 : decode cX6_lead 31 = .ok (.aload_n 0, 1) := by decide +kernel
theorem dX6_lead_32 : decode cX6_lead 32 = .ok (.getfield 13, 3) := by decide +kernel
theorem dX6_lead_35 : decode cX6_lead 35 = .ok (.imul, 1) := by decide +kernel
theorem dX6_lead_36 : decode cX6_lead 36 = .ok (.iadd, 1) := by decide +kernel
theorem dX6_lead_37 : decode cX6_lead 37 = .ok (.istore 7, 2) := by decide +kernel
theorem dX6_lead_39 : decode cX6_lead 39 = .ok (.aload_n 0, 1) := by decide +kernel
theorem dX6_lead_40 : decode cX6_lead 40 = .ok (.getfield 7, 3) := by decide +kernel
theorem dX6_lead_43 : decode cX6_lead 43 = .ok (.iload 7, 2) := by decide +kernel
theorem dX6_lead_45 : decode cX6_lead 45 = .ok (.iload_n 1, 1) := by decide +kernel
theorem dX6_lead_46 : decode cX6_lead 46 = .ok (.iadd, 1) := by decide +kernel
theorem dX6_lead_47 : decode cX6_lead 47 = .ok (.laload, 1) := by decide +kernel
theorem dX6_lead_48 : decode cX6_lead 48 = .ok (.lstore 8, 2) := by decide +kernel
theorem dX6_lead_50 : decode cX6_lead 50 = .ok (.iconst 0, 1) := by decide +kernel
theorem dX6_lead_51 : decode cX6_lead 51 = .ok (.istore 10, 2) := by decide +kernel
theorem dX6_lead_53 : decode cX6_lead 53 = .ok (.lload 8, 2) := by decide +kernel
theorem dX6_lead_55 : decode cX6_lead 55 = .ok (.ldc2_w 31, 3) := by decide +kernel
theorem dX6_lead_58 : decode cX6_lead 58 = .ok (.lcmp, 1) := by decide +kernel
theorem dX6_lead_59 : decode cX6_lead 59 = .ok (.ifCond .ge 89, 3) := by decide +kernel
theorem dX6_lead_62 : decode cX6_lead 62 = .ok (.iload 10, 2) := by decide +kernel
theorem dX6_lead_64 : decode cX6_lead 64 = .ok (.aload_n 0, 1) := by decide +kernel
theorem dX6_lead_65 : decode cX6_lead 65 = .ok (.getfield 13, 3) := by decide +kernel
theorem dX6_lead_68 : decode cX6_lead 68 = .ok (.if_icmp .ge 80, 3) := by decide +kernel
theorem dX6_lead_71 : decode cX6_lead 71 = .ok (.aload_n 0, 1) := by decide +kernel
theorem dX6_lead_72 : decode cX6_lead 72 = .ok (.getfield 7, 3) := by decide +kernel
theorem dX6_lead_75 : decode cX6_lead 75 = .ok (.iload 5, 2) := by decide +kernel
theorem dX6_lead_77 : decode cX6_lead 77 = .ok (.iload 10, 2) := by decide +kernel
theorem dX6_lead_79 : decode cX6_lead 79 = .ok (.iadd, 1) := by decide +kernel
theorem dX6_lead_80 : decode cX6_lead 80 = .ok (.laload, 1) := by decide +kernel
theorem dX6_lead_81 : decode cX6_lead 81 = .ok (.ldc2_w 31, 3) := by decide +kernel
theorem dX6_lead_84 : decode cX6_lead 84 = .ok (.lcmp, 1) := by decide +kernel
theorem dX6_lead_85 : decode cX6_lead 85 = .ok (.ifCond .ge 57, 3) := by decide +kernel
theorem dX6_lead_88 : decode cX6_lead 88 = .ok (.lload 8, 2) := by decide +kernel
theorem dX6_lead_90 : decode cX6_lead 90 = .ok (.lload_n 3, 1) := by decide +kernel
theorem dX6_lead_91 : decode cX6_lead 91 = .ok (.ladd, 1) := by decide +kernel
theorem dX6_lead_92 : decode cX6_lead 92 = .ok (.aload_n 0, 1) := by decide +kernel
theorem dX6_lead_93 : decode cX6_lead 93 = .ok (.getfield 7, 3) := by decide +kernel
theorem dX6_lead_96 : decode cX6_lead 96 = .ok (.iload 5, 2) := by decide +kernel
theorem dX6_lead_98 : decode cX6_lead 98 = .ok (.iload 10, 2) := by decide +kernel
theorem dX6_lead_100 : decode cX6_lead 100 = .ok (.iadd, 1) := by decide +kernel
theorem dX6_lead_101 : decode cX6_lead 101 = .ok (.laload, 1) := by decide +kernel
theorem dX6_lead_102 : decode cX6_lead 102 = .ok (.ladd, 1) := by decide +kernel
theorem dX6_lead_103 : decode cX6_lead 103 = .ok (.aload_n 0, 1) := by decide +kernel
theorem dX6_lead_104 : decode cX6_lead 104 = .ok (.getfield 7, 3) := by decide +kernel
theorem dX6_lead_107 : decode cX6_lead 107 = .ok (.iload 7, 2) := by decide +kernel
theorem dX6_lead_109 : decode cX6_lead 109 = .ok (.iload 10, 2) := by decide +kernel
theorem dX6_lead_111 : decode cX6_lead 111 = .ok (.iadd, 1) := by decide +kernel
theorem dX6_lead_112 : decode cX6_lead 112 = .ok (.laload, 1) := by decide +kernel
theorem dX6_lead_113 : decode cX6_lead 113 = .ok (.lcmp, 1) := by decide +kernel
theorem dX6_lead_114 : decode cX6_lead 114 = .ok (.ifCond .ge 28, 3) := by decide +kernel
theorem dX6_lead_117 : decode cX6_lead 117 = .ok (.aload_n 0, 1) := by decide +kernel
theorem dX6_lead_118 : decode cX6_lead 118 = .ok (.getfield 7, 3) := by decide +kernel
theorem dX6_lead_121 : decode cX6_lead 121 = .ok (.iload 7, 2) := by decide +kernel
theorem dX6_lead_123 : decode cX6_lead 123 = .ok (.iload 10, 2) := by decide +kernel
theorem dX6_lead_125 : decode cX6_lead 125 = .ok (.iadd, 1) := by decide +kernel
theorem dX6_lead_126 : decode cX6_lead 126 = .ok (.lload 8, 2) := by decide +kernel
theorem dX6_lead_128 : decode cX6_lead 128 = .ok (.lload_n 3, 1) := by decide +kernel
theorem dX6_lead_129 : decode cX6_lead 129 = .ok (.ladd, 1) := by decide +kernel
theorem dX6_lead_130 : decode cX6_lead 130 = .ok (.aload_n 0, 1) := by decide +kernel
theorem dX6_lead_131 : decode cX6_lead 131 = .ok (.getfield 7, 3) := by decide +kernel
theorem dX6_lead_134 : decode cX6_lead 134 = .ok (.iload 5, 2) := by decide +kernel
theorem dX6_lead_136 : decode cX6_lead 136 = .ok (.iload 10, 2) := by decide +kernel
theorem dX6_lead_138 : decode cX6_lead 138 = .ok (.iadd, 1) := by decide +kernel
theorem dX6_lead_139 : decode cX6_lead 139 = .ok (.laload, 1) := by decide +kernel
theorem dX6_lead_140 : decode cX6_lead 140 = .ok (.ladd, 1) := by decide +kernel
theorem dX6_lead_141 : decode cX6_lead 141 = .ok (.lastore, 1) := by decide +kernel
theorem dX6_lead_142 : decode cX6_lead 142 = .ok (.iinc 10 1, 3) := by decide +kernel
theorem dX6_lead_145 : decode cX6_lead 145 = .ok (.goto (-92), 3) := by decide +kernel
theorem dX6_lead_148 : decode cX6_lead 148 = .ok (.iinc 6 1, 3) := by decide +kernel
theorem dX6_lead_151 : decode cX6_lead 151 = .ok (.goto (-135), 3) := by decide +kernel
theorem dX6_lead_154 : decode cX6_lead 154 = .ok (.return_, 1) := by decide +kernel
theorem dX6_tighten_0 : decode cX6_tighten 0 = .ok (.iconst 0, 1) := by decide +kernel
theorem dX6_tighten_1 : decode cX6_tighten 1 = .ok (.istore_n 1, 1) := by decide +kernel
theorem dX6_tighten_2 : decode cX6_tighten 2 = .ok (.iload_n 1, 1) := by decide +kernel
theorem dX6_tighten_3 : decode cX6_tighten 3 = .ok (.aload_n 0, 1) := by decide +kernel
theorem dX6_tighten_4 : decode cX6_tighten 4 = .ok (.getfield 13, 3) := by decide +kernel
theorem dX6_tighten_7 : decode cX6_tighten 7 = .ok (.if_icmp .ge 89, 3) := by decide +kernel
theorem dX6_tighten_10 : decode cX6_tighten 10 = .ok (.aload_n 0, 1) := by decide +kernel
theorem dX6_tighten_11 : decode cX6_tighten 11 = .ok (.getfield 24, 3) := by decide +kernel
theorem dX6_tighten_14 : decode cX6_tighten 14 = .ok (.ifCond .ne 82, 3) := by decide +kernel
theorem dX6_tighten_17 : decode cX6_tighten 17 = .ok (.aload_n 0, 1) := by decide +kernel
theorem dX6_tighten_18 : decode cX6_tighten 18 = .ok (.getfield 17, 3) := by decide +kernel
theorem dX6_tighten_21 : decode cX6_tighten 21 = .ok (.iload_n 1, 1) := by decide +kernel
theorem dX6_tighten_22 : decode cX6_tighten 22 = .ok (.aload_n 0, 1) := by decide +kernel
theorem dX6_tighten_23 : decode cX6_tighten 23 = .ok (.getfield 13, 3) := by decide +kernel
theorem dX6_tighten_26 : decode cX6_tighten 26 = .ok (.imul, 1) := by decide +kernel
theorem dX6_tighten_27 : decode cX6_tighten 27 = .ok (.iadd, 1) := by decide +kernel
theorem dX6_tighten_28 : decode cX6_tighten 28 = .ok (.iload_n 1, 1) := by decide +kernel
theorem dX6_tighten_29 : decode cX6_tighten 29 = .ok (.iconst 1, 1) := by decide +kernel
theorem dX6_tighten_30 : decode cX6_tighten 30 = .ok (.ixor, 1) := by decide +kernel
theorem dX6_tighten_31 : decode cX6_tighten 31 = .ok (.iadd, 1) := by decide +kernel
theorem dX6_tighten_32 : decode cX6_tighten 32 = .ok (.istore_n 2, 1) := by decide +kernel
theorem dX6_tighten_33 : decode cX6_tighten 33 = .ok (.aload_n 0, 1) := by decide +kernel
theorem dX6_tighten_34 : decode cX6_tighten 34 = .ok (.getfield 7, 3) := by decide +kernel
theorem dX6_tighten_37 : decode cX6_tighten 37 = .ok (.iload_n 2, 1) := by decide +kernel
theorem dX6_tighten_38 : decode cX6_tighten 38 = .ok (.laload, 1) := by decide +kernel
theorem dX6_tighten_39 : decode cX6_tighten 39 = .ok (.ldc2_w 31, 3) := by decide +kernel
theorem dX6_tighten_42 : decode cX6_tighten 42 = .ok (.lcmp, 1) := by decide +kernel
theorem dX6_tighten_43 : decode cX6_tighten 43 = .ok (.ifCond .ge 15, 3) := by decide +kernel
theorem dX6_tighten_46 : decode cX6_tighten 46 = .ok (.aload_n 0, 1) := by decide +kernel
theorem dX6_tighten_47 : decode cX6_tighten 47 = .ok (.getfield 7, 3) := by decide +kernel
theorem dX6_tighten_50 : decode cX6_tighten 50 = .ok (.iload_n 2, 1) := by decide +kernel
theorem dX6_tighten_51 : decode cX6_tighten 51 = .ok (.dup2, 1) := by decide +kernel
theorem dX6_tighten_52 : decode cX6_tighten 52 = .ok (.laload, 1) := by decide +kernel
theorem dX6_tighten_53 : decode cX6_tighten 53 = .ok (.ldc2_w 58, 3) := by decide +kernel
theorem dX6_tighten_56 : decode cX6_tighten 56 = .ok (.land, 1) := by decide +kernel
theorem dX6_tighten_57 : decode cX6_tighten 57 = .ok (.lastore, 1) := by decide +kernel
theorem dX6_tighten_58 : decode cX6_tighten 58 = .ok (.aload_n 0, 1) := by decide +kernel
theorem dX6_tighten_59 : decode cX6_tighten 59 = .ok (.aload_n 0, 1) := by decide +kernel
theorem dX6_tighten_60 : decode cX6_tighten 60 = .ok (.getfield 7, 3) := by decide +kernel
theorem dX6_tighten_63 : decode cX6_tighten 63 = .ok (.aload_n 0, 1) := by decide +kernel
theorem dX6_tighten_64 : decode cX6_tighten 64 = .ok (.getfield 17, 3) := by decide +kernel
theorem dX6_tighten_67 : decode cX6_tighten 67 = .ok (.iload_n 1, 1) := by decide +kernel
theorem dX6_tighten_68 : decode cX6_tighten 68 = .ok (.aload_n 0, 1) := by decide +kernel
theorem dX6_tighten_69 : decode cX6_tighten 69 = .ok (.getfield 13, 3) := by decide +kernel
theorem dX6_tighten_72 : decode cX6_tighten 72 = .ok (.imul, 1) := by decide +kernel
theorem dX6_tighten_73 : decode cX6_tighten 73 = .ok (.iadd, 1) := by decide +kernel
theorem dX6_tighten_74 : decode cX6_tighten 74 = .ok (.iload_n 1, 1) := by decide +kernel
theorem dX6_tighten_75 : decode cX6_tighten 75 = .ok (.iadd, 1) := by decide +kernel
theorem dX6_tighten_76 : decode cX6_tighten 76 = .ok (.laload, 1) := by decide +kernel
theorem dX6_tighten_77 : decode cX6_tighten 77 = .ok (.lconst 0, 1) := by decide +kernel
theorem dX6_tighten_78 : decode cX6_tighten 78 = .ok (.lcmp, 1) := by decide +kernel
theorem dX6_tighten_79 : decode cX6_tighten 79 = .ok (.ifCond .ge 7, 3) := by decide +kernel
theorem dX6_tighten_82 : decode cX6_tighten 82 = .ok (.iconst 1, 1) := by decide +kernel
theorem dX6_tighten_83 : decode cX6_tighten 83 = .ok (.goto 4, 3) := by decide +kernel
theorem dX6_tighten_86 : decode cX6_tighten 86 = .ok (.iconst 0, 1) := by decide +kernel
theorem dX6_tighten_87 : decode cX6_tighten 87 = .ok (.putfield 24, 3) := by decide +kernel
theorem dX6_tighten_90 : decode cX6_tighten 90 = .ok (.iinc 1 1, 3) := by decide +kernel
theorem dX6_tighten_93 : decode cX6_tighten 93 = .ok (.goto (-91), 3) := by decide +kernel
theorem dX6_tighten_96 : decode cX6_tighten 96 = .ok (.iconst 0, 1) := by decide +kernel
theorem dX6_tighten_97 : decode cX6_tighten 97 = .ok (.istore_n 1, 1) := by decide +kernel
theorem dX6_tighten_98 : decode cX6_tighten 98 = .ok (.iload_n 1, 1) := by decide +kernel
theorem dX6_tighten_99 : decode cX6_tighten 99 = .ok (.aload_n 0, 1) := by decide +kernel
theorem dX6_tighten_100 : decode cX6_tighten 100 = .ok (.getfield 13, 3) := by decide +kernel
theorem dX6_tighten_103 : decode cX6_tighten 103 = .ok (.if_icmp .ge 181, 3) := by decide +kernel
theorem dX6_tighten_106 : decode cX6_tighten 106 = .ok (.aload_n 0, 1) := by decide +kernel
theorem dX6_tighten_107 : decode cX6_tighten 107 = .ok (.getfield 24, 3) := by decide +kernel
theorem dX6_tighten_110 : decode cX6_tighten 110 = .ok (.ifCond .ne 174, 3) := by decide +kernel
theorem dX6_tighten_113 : decode cX6_tighten 113 = .ok (.aload_n 0, 1) := by decide +kernel
theorem dX6_tighten_114 : decode cX6_tighten 114 = .ok (.getfield 7, 3) := by decide +kernel
theorem dX6_tighten_117 : decode cX6_tighten 117 = .ok (.aload_n 0, 1) := by decide +kernel
theorem dX6_tighten_118 : decode cX6_tighten 118 = .ok (.getfield 17, 3) := by decide +kernel
theorem dX6_tighten_121 : decode cX6_tighten 121 = .ok (.iload_n 1, 1) := by decide +kernel
theorem dX6_tighten_122 : decode cX6_tighten 122 = .ok (.aload_n 0, 1) := by decide +kernel
theorem dX6_tighten_123 : decode cX6_tighten 123 = .ok (.getfield 13, 3) := by decide +kernel
theorem dX6_tighten_126 : decode cX6_tighten 126 = .ok (.imul, 1) := by decide +kernel
theorem dX6_tighten_127 : decode cX6_tighten 127 = .ok (.iadd, 1) := by decide +kernel
theorem dX6_tighten_128 : decode cX6_tighten 128 = .ok (.iload_n 1, 1) := by decide +kernel
theorem dX6_tighten_129 : decode cX6_tighten 129 = .ok (.iconst 1, 1) := by decide +kernel
theorem dX6_tighten_130 : decode cX6_tighten 130 = .ok (.ixor, 1) := by decide +kernel
theorem dX6_tighten_131 : decode cX6_tighten 131 = .ok (.iadd, 1) := by decide +kernel
theorem dX6_tighten_132 : decode cX6_tighten 132 = .ok (.laload, 1) := by decide +kernel
theorem dX6_tighten_133 : decode cX6_tighten 133 = .ok (.lstore_n 2, 1) := by decide +kernel
theorem dX6_tighten_134 : decode cX6_tighten 134 = .ok (.aload_n 0, 1) := by decide +kernel
theorem dX6_tighten_135 : decode cX6_tighten 135 = .ok (.lload_n 2, 1) := by decide +kernel
theorem dX6_tighten_136 : decode cX6_tighten 136 = .ok (.ldc2_w 31, 3) := by decide +kernel
theorem dX6_tighten_139 : decode cX6_tighten 139 = .ok (.lcmp, 1) := by decide +kernel
theorem dX6_tighten_140 : decode cX6_tighten 140 = .ok (.ifCond .ge 34, 3) := by decide +kernel
theorem dX6_tighten_143 : decode cX6_tighten 143 = .ok (.lload_n 2, 1) := by decide +kernel
theorem dX6_tighten_144 : decode cX6_tighten 144 = .ok (.aload_n 0, 1) := by decide +kernel
theorem dX6_tighten_145 : decode cX6_tighten 145 = .ok (.getfield 7, 3) := by decide +kernel
theorem dX6_tighten_148 : decode cX6_tighten 148 = .ok (.aload_n 0, 1) := by decide +kernel
theorem dX6_tighten_149 : decode cX6_tighten 149 = .ok (.getfield 17, 3) := by decide +kernel
theorem dX6_tighten_152 : decode cX6_tighten 152 = .ok (.iload_n 1, 1) := by decide +kernel
theorem dX6_tighten_153 : decode cX6_tighten 153 = .ok (.iconst 1, 1) := by decide +kernel
theorem dX6_tighten_154 : decode cX6_tighten 154 = .ok (.ixor, 1) := by decide +kernel
theorem dX6_tighten_155 : decode cX6_tighten 155 = .ok (.aload_n 0, 1) := by decide +kernel
theorem dX6_tighten_156 : decode cX6_tighten 156 = .ok (.getfield 13, 3) := by decide +kernel
theorem dX6_tighten_159 : decode cX6_tighten 159 = .ok (.imul, 1) := by decide +kernel
theorem dX6_tighten_160 : decode cX6_tighten 160 = .ok (.iadd, 1) := by decide +kernel
theorem dX6_tighten_161 : decode cX6_tighten 161 = .ok (.iload_n 1, 1) := by decide +kernel
theorem dX6_tighten_162 : decode cX6_tighten 162 = .ok (.iadd, 1) := by decide +kernel
theorem dX6_tighten_163 : decode cX6_tighten 163 = .ok (.laload, 1) := by decide +kernel
theorem dX6_tighten_164 : decode cX6_tighten 164 = .ok (.ladd, 1) := by decide +kernel
theorem dX6_tighten_165 : decode cX6_tighten 165 = .ok (.lconst 0, 1) := by decide +kernel
theorem dX6_tighten_166 : decode cX6_tighten 166 = .ok (.lcmp, 1) := by decide +kernel
theorem dX6_tighten_167 : decode cX6_tighten 167 = .ok (.ifCond .ge 7, 3) := by decide +kernel
theorem dX6_tighten_170 : decode cX6_tighten 170 = .ok (.iconst 1, 1) := by decide +kernel
theorem dX6_tighten_171 : decode cX6_tighten 171 = .ok (.goto 4, 3) := by decide +kernel
theorem dX6_tighten_174 : decode cX6_tighten 174 = .ok (.iconst 0, 1) := by decide +kernel
theorem dX6_tighten_175 : decode cX6_tighten 175 = .ok (.putfield 24, 3) := by decide +kernel
theorem dX6_tighten_178 : decode cX6_tighten 178 = .ok (.iconst 0, 1) := by decide +kernel
theorem dX6_tighten_179 : decode cX6_tighten 179 = .ok (.istore 4, 2) := by decide +kernel
theorem dX6_tighten_181 : decode cX6_tighten 181 = .ok (.lload_n 2, 1) := by decide +kernel
theorem dX6_tighten_182 : decode cX6_tighten 182 = .ok (.ldc2_w 31, 3) := by decide +kernel
theorem dX6_tighten_185 : decode cX6_tighten 185 = .ok (.lcmp, 1) := by decide +kernel
theorem dX6_tighten_186 : decode cX6_tighten 186 = .ok (.ifCond .ge 92, 3) := by decide +kernel
theorem dX6_tighten_189 : decode cX6_tighten 189 = .ok (.iload 4, 2) := by decide +kernel
theorem dX6_tighten_191 : decode cX6_tighten 191 = .ok (.aload_n 0, 1) := by decide +kernel
theorem dX6_tighten_192 : decode cX6_tighten 192 = .ok (.getfield 13, 3) := by decide +kernel
theorem dX6_tighten_195 : decode cX6_tighten 195 = .ok (.if_icmp .ge 83, 3) := by decide +kernel
theorem dX6_tighten_198 : decode cX6_tighten 198 = .ok (.aload_n 0, 1) := by decide +kernel
theorem dX6_tighten_199 : decode cX6_tighten 199 = .ok (.getfield 7, 3) := by decide +kernel
theorem dX6_tighten_202 : decode cX6_tighten 202 = .ok (.aload_n 0, 1) := by decide +kernel
theorem dX6_tighten_203 : decode cX6_tighten 203 = .ok (.getfield 17, 3) := by decide +kernel
theorem dX6_tighten_206 : decode cX6_tighten 206 = .ok (.iload 4, 2) := by decide +kernel
theorem dX6_tighten_208 : decode cX6_tighten 208 = .ok (.iconst 1, 1) := by decide +kernel
theorem dX6_tighten_209 : decode cX6_tighten 209 = .ok (.ixor, 1) := by decide +kernel
theorem dX6_tighten_210 : decode cX6_tighten 210 = .ok (.aload_n 0, 1) := by decide +kernel
theorem dX6_tighten_211 : decode cX6_tighten 211 = .ok (.getfield 13, 3) := by decide +kernel
theorem dX6_tighten_214 : decode cX6_tighten 214 = .ok (.imul, 1) := by decide +kernel
theorem dX6_tighten_215 : decode cX6_tighten 215 = .ok (.iadd, 1) := by decide +kernel
theorem dX6_tighten_216 : decode cX6_tighten 216 = .ok (.iload 4, 2) := by decide +kernel
theorem dX6_tighten_218 : decode cX6_tighten 218 = .ok (.iadd, 1) := by decide +kernel
theorem dX6_tighten_219 : decode cX6_tighten 219 = .ok (.laload, 1) := by decide +kernel
theorem dX6_tighten_220 : decode cX6_tighten 220 = .ok (.lstore 5, 2) := by decide +kernel
theorem dX6_tighten_222 : decode cX6_tighten 222 = .ok (.lload 5, 2) := by decide +kernel
theorem dX6_tighten_224 : decode cX6_tighten 224 = .ok (.ldc2_w 31, 3) := by decide +kernel
theorem dX6_tighten_227 : decode cX6_tighten 227 = .ok (.lcmp, 1) := by decide +kernel
theorem dX6_tighten_228 : decode cX6_tighten 228 = .ok (.ifCond .ge 44, 3) := by decide +kernel
theorem dX6_tighten_231 : decode cX6_tighten 231 = .ok (.aload_n 0, 1) := by decide +kernel
theorem dX6_tighten_232 : decode cX6_tighten 232 = .ok (.getfield 17, 3) := by decide +kernel
theorem dX6_tighten_235 : decode cX6_tighten 235 = .ok (.iload_n 1, 1) := by decide +kernel
theorem dX6_tighten_236 : decode cX6_tighten 236 = .ok (.aload_n 0, 1) := by decide +kernel
theorem dX6_tighten_237 : decode cX6_tighten 237 = .ok (.getfield 13, 3) := by decide +kernel
theorem dX6_tighten_240 : decode cX6_tighten 240 = .ok (.imul, 1) := by decide +kernel
theorem dX6_tighten_241 : decode cX6_tighten 241 = .ok (.iadd, 1) := by decide +kernel
theorem dX6_tighten_242 : decode cX6_tighten 242 = .ok (.iload 4, 2) := by decide +kernel
theorem dX6_tighten_244 : decode cX6_tighten 244 = .ok (.iadd, 1) := by decide +kernel
theorem dX6_tighten_245 : decode cX6_tighten 245 = .ok (.istore 7, 2) := by decide +kernel
theorem dX6_tighten_247 : decode cX6_tighten 247 = .ok (.aload_n 0, 1) := by decide +kernel
theorem dX6_tighten_248 : decode cX6_tighten 248 = .ok (.getfield 7, 3) := by decide +kernel
theorem dX6_tighten_251 : decode cX6_tighten 251 = .ok (.iload 7, 2) := by decide +kernel
theorem dX6_tighten_253 : decode cX6_tighten 253 = .ok (.aload_n 0, 1) := by decide +kernel
theorem dX6_tighten_254 : decode cX6_tighten 254 = .ok (.getfield 7, 3) := by decide +kernel
theorem dX6_tighten_257 : decode cX6_tighten 257 = .ok (.iload 7, 2) := by decide +kernel
theorem dX6_tighten_259 : decode cX6_tighten 259 = .ok (.laload, 1) := by decide +kernel
theorem dX6_tighten_260 : decode cX6_tighten 260 = .ok (.lload_n 2, 1) := by decide +kernel
theorem dX6_tighten_261 : decode cX6_tighten 261 = .ok (.lload 5, 2) := by decide +kernel
theorem dX6_tighten_263 : decode cX6_tighten 263 = .ok (.ladd, 1) := by decide +kernel
theorem dX6_tighten_264 : decode cX6_tighten 264 = .ok (.ldc2_w 60, 3) := by decide +kernel
theorem dX6_tighten_267 : decode cX6_tighten 267 = .ok (.ldiv, 1) := by decide +kernel
theorem dX6_tighten_268 : decode cX6_tighten 268 = .ok (.invokestatic 62, 3) := by decide +kernel
theorem dX6_tighten_271 : decode cX6_tighten 271 = .ok (.lastore, 1) := by decide +kernel
theorem dX6_tighten_272 : decode cX6_tighten 272 = .ok (.iinc 4 1, 3) := by decide +kernel
theorem dX6_tighten_275 : decode cX6_tighten 275 = .ok (.goto (-94), 3) := by decide +kernel
theorem dX6_tighten_278 : decode cX6_tighten 278 = .ok (.iinc 1 1, 3) := by decide +kernel
theorem dX6_tighten_281 : decode cX6_tighten 281 = .ok (.goto (-183), 3) := by decide +kernel
theorem dX6_tighten_284 : decode cX6_tighten 284 = .ok (.return_, 1) := by decide +kernel
theorem dX9_isFact_0 : decode cX9_isFact 0 = .ok (.aload_n 0, 1) := by decide +kernel
theorem dX9_isFact_1 : decode cX9_isFact 1 = .ok (.getfield 19, 3) := by decide +kernel
theorem dX9_isFact_4 : decode cX9_isFact 4 = .ok (.iconst 2, 1) := by decide +kernel
theorem dX9_isFact_5 : decode cX9_isFact 5 = .ok (.if_icmp .ne 35, 3) := by decide +kernel
theorem dX9_isFact_8 : decode cX9_isFact 8 = .ok (.aload_n 0, 1) := by decide +kernel
theorem dX9_isFact_9 : decode cX9_isFact 9 = .ok (.getfield 15, 3) := by decide +kernel
theorem dX9_isFact_12 : decode cX9_isFact 12 = .ok (.iconst 0, 1) := by decide +kernel
theorem dX9_isFact_13 : decode cX9_isFact 13 = .ok (.iaload, 1) := by decide +kernel
theorem dX9_isFact_14 : decode cX9_isFact 14 = .ok (.invokestatic 48, 3) := by decide +kernel
theorem dX9_isFact_17 : decode cX9_isFact 17 = .ok (.iconst 1, 1) := by decide +kernel
theorem dX9_isFact_18 : decode cX9_isFact 18 = .ok (.if_icmp .ne 20, 3) := by decide +kernel
theorem dX9_isFact_21 : decode cX9_isFact 21 = .ok (.aload_n 0, 1) := by decide +kernel
theorem dX9_isFact_22 : decode cX9_isFact 22 = .ok (.getfield 15, 3) := by decide +kernel
theorem dX9_isFact_25 : decode cX9_isFact 25 = .ok (.iconst 1, 1) := by decide +kernel
theorem dX9_isFact_26 : decode cX9_isFact 26 = .ok (.iaload, 1) := by decide +kernel
theorem dX9_isFact_27 : decode cX9_isFact 27 = .ok (.invokestatic 48, 3) := by decide +kernel
theorem dX9_isFact_30 : decode cX9_isFact 30 = .ok (.iconst 1, 1) := by decide +kernel
theorem dX9_isFact_31 : decode cX9_isFact 31 = .ok (.if_icmp .ne 7, 3) := by decide +kernel
theorem dX9_isFact_34 : decode cX9_isFact 34 = .ok (.iconst 1, 1) := by decide +kernel
theorem dX9_isFact_35 : decode cX9_isFact 35 = .ok (.goto 4, 3) := by decide +kernel
theorem dX9_isFact_38 : decode cX9_isFact 38 = .ok (.iconst 0, 1) := by decide +kernel
theorem dX9_isFact_39 : decode cX9_isFact 39 = .ok (.ireturn, 1) := by decide +kernel
theorem dX9_isFact_40 : decode cX9_isFact 40 = .ok (.aload_n 0, 1) := by decide +kernel
theorem dX9_isFact_41 : decode cX9_isFact 41 = .ok (.getfield 19, 3) := by decide +kernel
theorem dX9_isFact_44 : decode cX9_isFact 44 = .ok (.ifCond .eq 24, 3) := by decide +kernel
theorem dX9_isFact_47 : decode cX9_isFact 47 = .ok (.aload_n 0, 1) := by decide +kernel
theorem dX9_isFact_48 : decode cX9_isFact 48 = .ok (.getfield 19, 3) := by decide +kernel
theorem dX9_isFact_51 : decode cX9_isFact 51 = .ok (.iconst 1, 1) := by decide +kernel
theorem dX9_isFact_52 : decode cX9_isFact 52 = .ok (.if_icmp .ne 20, 3) := by decide +kernel
theorem dX9_isFact_55 : decode cX9_isFact 55 = .ok (.aload_n 0, 1) := by decide +kernel
theorem dX9_isFact_56 : decode cX9_isFact 56 = .ok (.getfield 15, 3) := by decide +kernel
theorem dX9_isFact_59 : decode cX9_isFact 59 = .ok (.iconst 0, 1) := by decide +kernel
theorem dX9_isFact_60 : decode cX9_isFact 60 = .ok (.iaload, 1) := by decide +kernel
theorem dX9_isFact_61 : decode cX9_isFact 61 = .ok (.invokestatic 48, 3) := by decide +kernel
theorem dX9_isFact_64 : decode cX9_isFact 64 = .ok (.iconst 2, 1) := by decide +kernel
theorem dX9_isFact_65 : decode cX9_isFact 65 = .ok (.if_icmp .gt 7, 3) := by decide +kernel
theorem dX9_isFact_68 : decode cX9_isFact 68 = .ok (.iconst 1, 1) := by decide +kernel
theorem dX9_isFact_69 : decode cX9_isFact 69 = .ok (.goto 4, 3) := by decide +kernel
theorem dX9_isFact_72 : decode cX9_isFact 72 = .ok (.iconst 0, 1) := by decide +kernel
theorem dX9_isFact_73 : decode cX9_isFact 73 = .ok (.ireturn, 1) := by decide +kernel
