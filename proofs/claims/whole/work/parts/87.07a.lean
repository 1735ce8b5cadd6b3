theorem dX7_readQual_0 : decode cX7_readQual 0 = .ok (.aload_n 0, 1) := by decide +kernel
theorem dX7_readQual_1 : decode cX7_readQual 1 = .ok (.invokevirtual 98, 3) := by decide +kernel
theorem dX7_readQual_4 : decode cX7_readQual 4 = .ok (.aload_n 0, 1) := by decide +kernel
theorem dX7_readQual_5 : decode cX7_readQual 5 = .ok (.invokevirtual 57, 3) := by decide +kernel
theorem dX7_readQual_8 : decode cX7_readQual 8 = .ok (.istore_n 1, 1) := by decide +kernel
theorem dX7_readQual_9 : decode cX7_readQual 9 = .ok (.iload_n 1, 1) := by decide +kernel
theorem dX7_readQual_10 : decode cX7_readQual 10 = .ok (.sipush 210, 3) := by decide +kernel
theorem dX7_readQual_13 : decode cX7_readQual 13 = .ok (.if_icmp .eq 17, 3) := by decide +kernel
theorem dX7_readQual_16 : decode cX7_readQual 16 = .ok (.iload_n 1, 1) := by decide +kernel
theorem dX7_readQual_17 : decode cX7_readQual 17 = .ok (.sipush 200, 3) := by decide +kernel
theorem dX7_readQual_20 : decode cX7_readQual 20 = .ok (.if_icmp .eq 10, 3) := by decide +kernel
theorem dX7_readQual_23 : decode cX7_readQual 23 = .ok (.iload_n 1, 1) := by decide +kernel
theorem dX7_readQual_24 : decode cX7_readQual 24 = .ok (.sipush 213, 3) := by decide +kernel
theorem dX7_readQual_27 : decode cX7_readQual 27 = .ok (.if_icmp .ne 20, 3) := by decide +kernel
theorem dX7_readQual_30 : decode cX7_readQual 30 = .ok (.aload_n 0, 1) := by decide +kernel
theorem dX7_readQual_31 : decode cX7_readQual 31 = .ok (.getfield 27, 3) := by decide +kernel
theorem dX7_readQual_34 : decode cX7_readQual 34 = .ok (.aload_n 0, 1) := by decide +kernel
theorem dX7_readQual_35 : decode cX7_readQual 35 = .ok (.getfield 54, 3) := by decide +kernel
theorem dX7_readQual_38 : decode cX7_readQual 38 = .ok (.iload_n 1, 1) := by decide +kernel
theorem dX7_readQual_39 : decode cX7_readQual 39 = .ok (.iastore, 1) := by decide +kernel
theorem dX7_readQual_40 : decode cX7_readQual 40 = .ok (.aload_n 0, 1) := by decide +kernel
theorem dX7_readQual_41 : decode cX7_readQual 41 = .ok (.invokevirtual 98, 3) := by decide +kernel
theorem dX7_readQual_44 : decode cX7_readQual 44 = .ok (.goto 7, 3) := by decide +kernel
theorem dX7_readQual_47 : decode cX7_readQual 47 = .ok (.aload_n 0, 1) := by decide +kernel
theorem dX7_readQual_48 : decode cX7_readQual 48 = .ok (.invokevirtual 78, 3) := by decide +kernel
theorem dX7_readQual_51 : decode cX7_readQual 51 = .ok (.aload_n 0, 1) := by decide +kernel
theorem dX7_readQual_52 : decode cX7_readQual 52 = .ok (.bipush 58, 2) := by decide +kernel
theorem dX7_readQual_54 : decode cX7_readQual 54 = .ok (.invokevirtual 109, 3) := by decide +kernel
theorem dX7_readQual_57 : decode cX7_readQual 57 = .ok (.aload_n 0, 1) := by decide +kernel
theorem dX7_readQual_58 : decode cX7_readQual 58 = .ok (.sipush 224, 3) := by decide +kernel
theorem dX7_readQual_61 : decode cX7_readQual 61 = .ok (.invokevirtual 109, 3) := by decide +kernel
theorem dX7_readQual_64 : decode cX7_readQual 64 = .ok (.aload_n 0, 1) := by decide +kernel
theorem dX7_readQual_65 : decode cX7_readQual 65 = .ok (.getfield 31, 3) := by decide +kernel
theorem dX7_readQual_68 : decode cX7_readQual 68 = .ok (.aload_n 0, 1) := by decide +kernel
theorem dX7_readQual_69 : decode cX7_readQual 69 = .ok (.getfield 54, 3) := by decide +kernel
theorem dX7_readQual_72 : decode cX7_readQual 72 = .ok (.aload_n 0, 1) := by decide +kernel
theorem dX7_readQual_73 : decode cX7_readQual 73 = .ok (.invokevirtual 57, 3) := by decide +kernel
theorem dX7_readQual_76 : decode cX7_readQual 76 = .ok (.iastore, 1) := by decide +kernel
theorem dX7_readQual_77 : decode cX7_readQual 77 = .ok (.aload_n 0, 1) := by decide +kernel
theorem dX7_readQual_78 : decode cX7_readQual 78 = .ok (.invokevirtual 57, 3) := by decide +kernel
theorem dX7_readQual_81 : decode cX7_readQual 81 = .ok (.invokestatic 113, 3) := by decide +kernel
theorem dX7_readQual_84 : decode cX7_readQual 84 = .ok (.ifCond .eq 10, 3) := by decide +kernel
theorem dX7_readQual_87 : decode cX7_readQual 87 = .ok (.aload_n 0, 1) := by decide +kernel
theorem dX7_readQual_88 : decode cX7_readQual 88 = .ok (.invokevirtual 98, 3) := by decide +kernel
theorem dX7_readQual_91 : decode cX7_readQual 91 = .ok (.goto 7, 3) := by decide +kernel
theorem dX7_readQual_94 : decode cX7_readQual 94 = .ok (.aload_n 0, 1) := by decide +kernel
theorem dX7_readQual_95 : decode cX7_readQual 95 = .ok (.invokevirtual 78, 3) := by decide +kernel
theorem dX7_readQual_98 : decode cX7_readQual 98 = .ok (.aload_n 0, 1) := by decide +kernel
theorem dX7_readQual_99 : decode cX7_readQual 99 = .ok (.invokevirtual 117, 3) := by decide +kernel
theorem dX7_readQual_102 : decode cX7_readQual 102 = .ok (.aload_n 0, 1) := by decide +kernel
theorem dX7_readQual_103 : decode cX7_readQual 103 = .ok (.bipush 59, 2) := by decide +kernel
theorem dX7_readQual_105 : decode cX7_readQual 105 = .ok (.invokevirtual 109, 3) := by decide +kernel
theorem dX7_readQual_108 : decode cX7_readQual 108 = .ok (.return_, 1) := by decide +kernel
theorem dX7_readQualTerm_0 : decode cX7_readQualTerm 0 = .ok (.iconst 1, 1) := by decide +kernel
theorem dX7_readQualTerm_1 : decode cX7_readQualTerm 1 = .ok (.istore_n 1, 1) := by decide +kernel
theorem dX7_readQualTerm_2 : decode cX7_readQualTerm 2 = .ok (.aload_n 0, 1) := by decide +kernel
theorem dX7_readQualTerm_3 : decode cX7_readQualTerm 3 = .ok (.invokevirtual 57, 3) := by decide +kernel
theorem dX7_readQualTerm_6 : decode cX7_readQualTerm 6 = .ok (.bipush 45, 2) := by decide +kernel
theorem dX7_readQualTerm_8 : decode cX7_readQualTerm 8 = .ok (.if_icmp .ne 9, 3) := by decide +kernel
theorem dX7_readQualTerm_11 : decode cX7_readQualTerm 11 = .ok (.iconst (-1), 1) := by decide +kernel
theorem dX7_readQualTerm_12 : decode cX7_readQualTerm 12 = .ok (.istore_n 1, 1) := by decide +kernel
theorem dX7_readQualTerm_13 : decode cX7_readQualTerm 13 = .ok (.aload_n 0, 1) := by decide +kernel
theorem dX7_readQualTerm_14 : decode cX7_readQualTerm 14 = .ok (.invokevirtual 98, 3) := by decide +kernel
theorem dX7_readQualTerm_17 : decode cX7_readQualTerm 17 = .ok (.aload_n 0, 1) := by decide +kernel
theorem dX7_readQualTerm_18 : decode cX7_readQualTerm 18 = .ok (.invokevirtual 57, 3) := by decide +kernel
theorem dX7_readQualTerm_21 : decode cX7_readQualTerm 21 = .ok (.bipush 42, 2) := by decide +kernel
theorem dX7_readQualTerm_23 : decode cX7_readQualTerm 23 = .ok (.if_icmp .ne 55, 3) := by decide +kernel
theorem dX7_readQualTerm_26 : decode cX7_readQualTerm 26 = .ok (.aload_n 0, 1) := by decide +kernel
theorem dX7_readQualTerm_27 : decode cX7_readQualTerm 27 = .ok (.getfield 34, 3) := by decide +kernel
theorem dX7_readQualTerm_30 : decode cX7_readQualTerm 30 = .ok (.aload_n 0, 1) := by decide +kernel
theorem dX7_readQualTerm_31 : decode cX7_readQualTerm 31 = .ok (.getfield 54, 3) := by decide +kernel
theorem dX7_readQualTerm_34 : decode cX7_readQualTerm 34 = .ok (.iload_n 1, 1) := by decide +kernel
theorem dX7_readQualTerm_35 : decode cX7_readQualTerm 35 = .ok (.iastore, 1) := by decide +kernel
theorem dX7_readQualTerm_36 : decode cX7_readQualTerm 36 = .ok (.aload_n 0, 1) := by decide +kernel
theorem dX7_readQualTerm_37 : decode cX7_readQualTerm 37 = .ok (.invokevirtual 98, 3) := by decide +kernel
theorem dX7_readQualTerm_40 : decode cX7_readQualTerm 40 = .ok (.aload_n 0, 1) := by decide +kernel
theorem dX7_readQualTerm_41 : decode cX7_readQualTerm 41 = .ok (.invokevirtual 57, 3) := by decide +kernel
theorem dX7_readQualTerm_44 : decode cX7_readQualTerm 44 = .ok (.bipush 43, 2) := by decide +kernel
theorem dX7_readQualTerm_46 : decode cX7_readQualTerm 46 = .ok (.if_icmp .eq 13, 3) := by decide +kernel
theorem dX7_readQualTerm_49 : decode cX7_readQualTerm 49 = .ok (.aload_n 0, 1) := by decide +kernel
theorem dX7_readQualTerm_50 : decode cX7_readQualTerm 50 = .ok (.invokevirtual 57, 3) := by decide +kernel
theorem dX7_readQualTerm_53 : decode cX7_readQualTerm 53 = .ok (.bipush 45, 2) := by decide +kernel
theorem dX7_readQualTerm_55 : decode cX7_readQualTerm 55 = .ok (.if_icmp .eq 4, 3) := by decide +kernel
theorem dX7_readQualTerm_58 : decode cX7_readQualTerm 58 = .ok (.return_, 1) := by decide +kernel
theorem dX7_readQualTerm_59 : decode cX7_readQualTerm 59 = .ok (.aload_n 0, 1) := by decide +kernel
theorem dX7_readQualTerm_60 : decode cX7_readQualTerm 60 = .ok (.invokevirtual 57, 3) := by decide +kernel
theorem dX7_readQualTerm_63 : decode cX7_readQualTerm 63 = .ok (.bipush 43, 2) := by decide +kernel
theorem dX7_readQualTerm_65 : decode cX7_readQualTerm 65 = .ok (.if_icmp .ne 7, 3) := by decide +kernel
theorem dX7_readQualTerm_68 : decode cX7_readQualTerm 68 = .ok (.iconst 1, 1) := by decide +kernel
theorem dX7_readQualTerm_69 : decode cX7_readQualTerm 69 = .ok (.goto 4, 3) := by decide +kernel
theorem dX7_readQualTerm_72 : decode cX7_readQualTerm 72 = .ok (.iconst (-1), 1) := by decide +kernel
theorem dX7_readQualTerm_73 : decode cX7_readQualTerm 73 = .ok (.istore_n 1, 1) := by decide +kernel
theorem dX7_readQualTerm_74 : decode cX7_readQualTerm 74 = .ok (.aload_n 0, 1) := by decide +kernel
theorem dX7_readQualTerm_75 : decode cX7_readQualTerm 75 = .ok (.invokevirtual 98, 3) := by decide +kernel
theorem dX7_readQualTerm_78 : decode cX7_readQualTerm 78 = .ok (.aload_n 0, 1) := by decide +kernel
theorem dX7_readQualTerm_79 : decode cX7_readQualTerm 79 = .ok (.invokevirtual 57, 3) := by decide +kernel
theorem dX7_readQualTerm_82 : decode cX7_readQualTerm 82 = .ok (.iconst 2, 1) := by decide +kernel
theorem dX7_readQualTerm_83 : decode cX7_readQualTerm 83 = .ok (.if_icmp .ne 25, 3) := by decide +kernel
theorem dX7_readQualTerm_86 : decode cX7_readQualTerm 86 = .ok (.aload_n 0, 1) := by decide +kernel
theorem dX7_readQualTerm_87 : decode cX7_readQualTerm 87 = .ok (.getfield 37, 3) := by decide +kernel
theorem dX7_readQualTerm_90 : decode cX7_readQualTerm 90 = .ok (.aload_n 0, 1) := by decide +kernel
theorem dX7_readQualTerm_91 : decode cX7_readQualTerm 91 = .ok (.getfield 54, 3) := by decide +kernel
theorem dX7_readQualTerm_94 : decode cX7_readQualTerm 94 = .ok (.iload_n 1, 1) := by decide +kernel
theorem dX7_readQualTerm_95 : decode cX7_readQualTerm 95 = .ok (.aload_n 0, 1) := by decide +kernel
theorem dX7_readQualTerm_96 : decode cX7_readQualTerm 96 = .ok (.getfield 50, 3) := by decide +kernel
theorem dX7_readQualTerm_99 : decode cX7_readQualTerm 99 = .ok (.aload_n 0, 1) := by decide +kernel
theorem dX7_readQualTerm_100 : decode cX7_readQualTerm 100 = .ok (.getfield 86, 3) := by decide +kernel
theorem dX7_readQualTerm_103 : decode cX7_readQualTerm 103 = .ok (.invokevirtual 120, 3) := by decide +kernel
theorem dX7_readQualTerm_106 : decode cX7_readQualTerm 106 = .ok (.imul, 1) := by decide +kernel
theorem dX7_readQualTerm_107 : decode cX7_readQualTerm 107 = .ok (.iastore, 1) := by decide +kernel
theorem dX7_readQualTerm_108 : decode cX7_readQualTerm 108 = .ok (.aload_n 0, 1) := by decide +kernel
theorem dX7_readQualTerm_109 : decode cX7_readQualTerm 109 = .ok (.iconst 2, 1) := by decide +kernel
theorem dX7_readQualTerm_110 : decode cX7_readQualTerm 110 = .ok (.invokevirtual 109, 3) := by decide +kernel
theorem dX7_readQualTerm_113 : decode cX7_readQualTerm 113 = .ok (.return_, 1) := by decide +kernel
theorem dX7_readInput_0 : decode cX7_readInput 0 = .ok (.aload_n 0, 1) := by decide +kernel
theorem dX7_readInput_1 : decode cX7_readInput 1 = .ok (.invokevirtual 98, 3) := by decide +kernel
theorem dX7_readInput_4 : decode cX7_readInput 4 = .ok (.aload_n 0, 1) := by decide +kernel
theorem dX7_readInput_5 : decode cX7_readInput 5 = .ok (.invokevirtual 124, 3) := by decide +kernel
theorem dX7_readInput_8 : decode cX7_readInput 8 = .ok (.astore_n 1, 1) := by decide +kernel
theorem dX7_readInput_9 : decode cX7_readInput 9 = .ok (.aload_n 0, 1) := by decide +kernel
theorem dX7_readInput_10 : decode cX7_readInput 10 = .ok (.bipush 58, 2) := by decide +kernel
theorem dX7_readInput_12 : decode cX7_readInput 12 = .ok (.invokevirtual 109, 3) := by decide +kernel
theorem dX7_readInput_15 : decode cX7_readInput 15 = .ok (.aload_n 0, 1) := by decide +kernel
theorem dX7_readInput_16 : decode cX7_readInput 16 = .ok (.invokevirtual 57, 3) := by decide +kernel
theorem dX7_readInput_19 : decode cX7_readInput 19 = .ok (.istore_n 2, 1) := by decide +kernel
theorem dX7_readInput_20 : decode cX7_readInput 20 = .ok (.iload_n 2, 1) := by decide +kernel
theorem dX7_readInput_21 : decode cX7_readInput 21 = .ok (.sipush 210, 3) := by decide +kernel
theorem dX7_readInput_24 : decode cX7_readInput 24 = .ok (.if_icmp .eq 17, 3) := by decide +kernel
theorem dX7_readInput_27 : decode cX7_readInput 27 = .ok (.iload_n 2, 1) := by decide +kernel
theorem dX7_readInput_28 : decode cX7_readInput 28 = .ok (.sipush 202, 3) := by decide +kernel
theorem dX7_readInput_31 : decode cX7_readInput 31 = .ok (.if_icmp .eq 10, 3) := by decide +kernel
theorem dX7_readInput_34 : decode cX7_readInput 34 = .ok (.iload_n 2, 1) := by decide +kernel
theorem dX7_readInput_35 : decode cX7_readInput 35 = .ok (.sipush 200, 3) := by decide +kernel
theorem dX7_readInput_38 : decode cX7_readInput 38 = .ok (.if_icmp .ne 15, 3) := by decide +kernel
theorem dX7_readInput_41 : decode cX7_readInput 41 = .ok (.aload_n 1, 1) := by decide +kernel
theorem dX7_readInput_42 : decode cX7_readInput 42 = .ok (.iload_n 2, 1) := by decide +kernel
theorem dX7_readInput_43 : decode cX7_readInput 43 = .ok (.putfield 128, 3) := by decide +kernel
theorem dX7_readInput_46 : decode cX7_readInput 46 = .ok (.aload_n 0, 1) := by decide +kernel
theorem dX7_readInput_47 : decode cX7_readInput 47 = .ok (.invokevirtual 98, 3) := by decide +kernel
theorem dX7_readInput_50 : decode cX7_readInput 50 = .ok (.goto 7, 3) := by decide +kernel
theorem dX7_readInput_53 : decode cX7_readInput 53 = .ok (.aload_n 0, 1) := by decide +kernel
theorem dX7_readInput_54 : decode cX7_readInput 54 = .ok (.invokevirtual 78, 3) := by decide +kernel
theorem dX7_readInput_57 : decode cX7_readInput 57 = .ok (.aload_n 0, 1) := by decide +kernel
theorem dX7_readInput_58 : decode cX7_readInput 58 = .ok (.bipush 59, 2) := by decide +kernel
theorem dX7_readInput_60 : decode cX7_readInput 60 = .ok (.invokevirtual 109, 3) := by decide +kernel
theorem dX7_readInput_63 : decode cX7_readInput 63 = .ok (.aload_n 0, 1) := by decide +kernel
theorem dX7_readInput_64 : decode cX7_readInput 64 = .ok (.aload_n 1, 1) := by decide +kernel
theorem dX7_readInput_65 : decode cX7_readInput 65 = .ok (.invokevirtual 131, 3) := by decide +kernel
theorem dX7_readInput_68 : decode cX7_readInput 68 = .ok (.return_, 1) := by decide +kernel
theorem dX7_tell_0 : decode cX7_tell 0 = .ok (.aload_n 0, 1) := by decide +kernel
theorem dX7_tell_1 : decode cX7_tell 1 = .ok (.invokevirtual 57, 3) := by decide +kernel
theorem dX7_tell_4 : decode cX7_tell 4 = .ok (.iconst 1, 1) := by decide +kernel
theorem dX7_tell_5 : decode cX7_tell 5 = .ok (.if_icmp .eq 20, 3) := by decide +kernel
theorem dX7_tell_8 : decode cX7_tell 8 = .ok (.aload_n 0, 1) := by decide +kernel
theorem dX7_tell_9 : decode cX7_tell 9 = .ok (.invokevirtual 78, 3) := by decide +kernel
theorem dX7_tell_12 : decode cX7_tell 12 = .ok (.new 9, 3) := by decide +kernel
theorem dX7_tell_15 : decode cX7_tell 15 = .ok (.dup, 1) := by decide +kernel
theorem dX7_tell_16 : decode cX7_tell 16 = .ok (.ldc 134, 2) := by decide +kernel
theorem dX7_tell_18 : decode cX7_tell 18 = .ok (.sipush 210, 3) := by decide +kernel
theorem dX7_tell_21 : decode cX7_tell 21 = .ok (.invokespecial 136, 3) := by decide +kernel
theorem dX7_tell_24 : decode cX7_tell 24 = .ok (.areturn, 1) := by decide +kernel
theorem dX7_tell_25 : decode cX7_tell 25 = .ok (.new 9, 3) := by decide +kernel
theorem dX7_tell_28 : decode cX7_tell 28 = .ok (.dup, 1) := by decide +kernel
theorem dX7_tell_29 : decode cX7_tell 29 = .ok (.aload_n 0, 1) := by decide +kernel
theorem dX7_tell_30 : decode cX7_tell 30 = .ok (.getfield 50, 3) := by decide +kernel
theorem dX7_tell_33 : decode cX7_tell 33 = .ok (.aload_n 0, 1) := by decide +kernel
theorem dX7_tell_34 : decode cX7_tell 34 = .ok (.getfield 86, 3) := by decide +kernel
theorem dX7_tell_37 : decode cX7_tell 37 = .ok (.invokevirtual 139, 3) := by decide +kernel
theorem dX7_tell_40 : decode cX7_tell 40 = .ok (.sipush 210, 3) := by decide +kernel
theorem dX7_tell_43 : decode cX7_tell 43 = .ok (.invokespecial 136, 3) := by decide +kernel
theorem dX7_tell_46 : decode cX7_tell 46 = .ok (.astore_n 1, 1) := by decide +kernel
theorem dX7_tell_47 : decode cX7_tell 47 = .ok (.aload_n 0, 1) := by decide +kernel
theorem dX7_tell_48 : decode cX7_tell 48 = .ok (.getfield 44, 3) := by decide +kernel
theorem dX7_tell_51 : decode cX7_tell 51 = .ok (.ifCond .ge 31, 3) := by decide +kernel
theorem dX7_tell_54 : decode cX7_tell 54 = .ok (.aload_n 0, 1) := by decide +kernel
theorem dX7_tell_55 : decode cX7_tell 55 = .ok (.getfield 103, 3) := by decide +kernel
theorem dX7_tell_58 : decode cX7_tell 58 = .ok (.bipush 12, 2) := by decide +kernel
theorem dX7_tell_60 : decode cX7_tell 60 = .ok (.if_icmp .ge 14, 3) := by decide +kernel
theorem dX7_tell_63 : decode cX7_tell 63 = .ok (.aload_n 0, 1) := by decide +kernel
theorem dX7_tell_64 : decode cX7_tell 64 = .ok (.aload_n 1, 1) := by decide +kernel
theorem dX7_tell_65 : decode cX7_tell 65 = .ok (.getfield 143, 3) := by decide +kernel
theorem dX7_tell_68 : decode cX7_tell 68 = .ok (.invokevirtual 147, 3) := by decide +kernel
theorem dX7_tell_71 : decode cX7_tell 71 = .ok (.ifnull 11, 3) := by decide +kernel
theorem dX7_tell_74 : decode cX7_tell 74 = .ok (.aload_n 0, 1) := by decide +kernel
theorem dX7_tell_75 : decode cX7_tell 75 = .ok (.aload_n 0, 1) := by decide +kernel
theorem dX7_tell_76 : decode cX7_tell 76 = .ok (.invokevirtual 95, 3) := by decide +kernel
theorem dX7_tell_79 : decode cX7_tell 79 = .ok (.putfield 44, 3) := by decide +kernel
theorem dX7_tell_82 : decode cX7_tell 82 = .ok (.aload_n 0, 1) := by decide +kernel
theorem dX7_tell_83 : decode cX7_tell 83 = .ok (.getfield 20, 3) := by decide +kernel
theorem dX7_tell_86 : decode cX7_tell 86 = .ok (.aload_n 1, 1) := by decide +kernel
theorem dX7_tell_87 : decode cX7_tell 87 = .ok (.invokevirtual 151, 3) := by decide +kernel
theorem dX7_tell_90 : decode cX7_tell 90 = .ok (.pop, 1) := by decide +kernel
theorem dX7_tell_91 : decode cX7_tell 91 = .ok (.aload_n 0, 1) := by decide +kernel
theorem dX7_tell_92 : decode cX7_tell 92 = .ok (.invokevirtual 98, 3) := by decide +kernel
theorem dX7_tell_95 : decode cX7_tell 95 = .ok (.aload_n 1, 1) := by decide +kernel
theorem dX7_tell_96 : decode cX7_tell 96 = .ok (.areturn, 1) := by decide +kernel
theorem dX7_count_0 : decode cX7_count 0 = .ok (.aload_n 1, 1) := by decide +kernel
theorem dX7_count_1 : decode cX7_count 1 = .ok (.aload_n 0, 1) := by decide +kernel
theorem dX7_count_2 : decode cX7_count 2 = .ok (.getfield 103, 3) := by decide +kernel
theorem dX7_count_5 : decode cX7_count 5 = .ok (.putfield 155, 3) := by decide +kernel
theorem dX7_count_8 : decode cX7_count 8 = .ok (.aload_n 0, 1) := by decide +kernel
theorem dX7_count_9 : decode cX7_count 9 = .ok (.getfield 103, 3) := by decide +kernel
theorem dX7_count_12 : decode cX7_count 12 = .ok (.bipush 12, 2) := by decide +kernel
theorem dX7_count_14 : decode cX7_count 14 = .ok (.if_icmp .ge 13, 3) := by decide +kernel
theorem dX7_count_17 : decode cX7_count 17 = .ok (.aload_n 0, 1) := by decide +kernel
theorem dX7_count_18 : decode cX7_count 18 = .ok (.getfield 11, 3) := by decide +kernel
theorem dX7_count_21 : decode cX7_count 21 = .ok (.aload_n 0, 1) := by decide +kernel
theorem dX7_count_22 : decode cX7_count 22 = .ok (.getfield 103, 3) := by decide +kernel
theorem dX7_count_25 : decode cX7_count 25 = .ok (.aload_n 1, 1) := by decide +kernel
theorem dX7_count_26 : decode cX7_count 26 = .ok (.aastore, 1) := by decide +kernel
theorem dX7_count_27 : decode cX7_count 27 = .ok (.aload_n 0, 1) := by decide +kernel
theorem dX7_count_28 : decode cX7_count 28 = .ok (.dup, 1) := by decide +kernel
theorem dX7_count_29 : decode cX7_count 29 = .ok (.getfield 103, 3) := by decide +kernel
theorem dX7_count_32 : decode cX7_count 32 = .ok (.iconst 1, 1) := by decide +kernel
theorem dX7_count_33 : decode cX7_count 33 = .ok (.iadd, 1) := by decide +kernel
theorem dX7_count_34 : decode cX7_count 34 = .ok (.putfield 103, 3) := by decide +kernel
theorem dX7_count_37 : decode cX7_count 37 = .ok (.return_, 1) := by decide +kernel
theorem dX7_counts_0 : decode cX7_counts 0 = .ok (.iconst 0, 1) := by decide +kernel
theorem dX7_counts_1 : decode cX7_counts 1 = .ok (.istore_n 2, 1) := by decide +kernel
theorem dX7_counts_2 : decode cX7_counts 2 = .ok (.iload_n 2, 1) := by decide +kernel
theorem dX7_counts_3 : decode cX7_counts 3 = .ok (.aload_n 0, 1) := by decide +kernel
theorem dX7_counts_4 : decode cX7_counts 4 = .ok (.getfield 103, 3) := by decide +kernel
theorem dX7_counts_7 : decode cX7_counts 7 = .ok (.if_icmp .ge 38, 3) := by decide +kernel
theorem dX7_counts_10 : decode cX7_counts 10 = .ok (.iload_n 2, 1) := by decide +kernel
theorem dX7_counts_11 : decode cX7_counts 11 = .ok (.bipush 12, 2) := by decide +kernel
theorem dX7_counts_13 : decode cX7_counts 13 = .ok (.if_icmp .ge 32, 3) := by decide +kernel
theorem dX7_counts_16 : decode cX7_counts 16 = .ok (.aload_n 0, 1) := by decide +kernel
theorem dX7_counts_17 : decode cX7_counts 17 = .ok (.getfield 11, 3) := by decide +kernel
theorem dX7_counts_20 : decode cX7_counts 20 = .ok (.iload_n 2, 1) := by decide +kernel
theorem dX7_counts_21 : decode cX7_counts 21 = .ok (.aaload, 1) := by decide +kernel
theorem dX7_counts_22 : decode cX7_counts 22 = .ok (.getfield 143, 3) := by decide +kernel
theorem dX7_counts_25 : decode cX7_counts 25 = .ok (.aload_n 1, 1) := by decide +kernel
theorem dX7_counts_26 : decode cX7_counts 26 = .ok (.invokevirtual 158, 3) := by decide +kernel
theorem dX7_counts_29 : decode cX7_counts 29 = .ok (.ifCond .eq 10, 3) := by decide +kernel
theorem dX7_counts_32 : decode cX7_counts 32 = .ok (.aload_n 0, 1) := by decide +kernel
theorem dX7_counts_33 : decode cX7_counts 33 = .ok (.getfield 11, 3) := by decide +kernel
theorem dX7_counts_36 : decode cX7_counts 36 = .ok (.iload_n 2, 1) := by decide +kernel
theorem dX7_counts_37 : decode cX7_counts 37 = .ok (.aaload, 1) := by decide +kernel
theorem dX7_counts_38 : decode cX7_counts 38 = .ok (.areturn, 1) := by decide +kernel
theorem dX7_counts_39 : decode cX7_counts 39 = .ok (.iinc 2 1, 3) := by decide +kernel
theorem dX7_counts_42 : decode cX7_counts 42 = .ok (.goto (-40), 3) := by decide +kernel
theorem dX7_counts_45 : decode cX7_counts 45 = .ok (.aconst_null, 1) := by decide +kernel
theorem dX7_counts_46 : decode cX7_counts 46 = .ok (.areturn, 1) := by decide +kernel
theorem dX7_use_14 : decode cX7_use 14 = .ok (.aload_n 0, 1) := by decide +kernel
theorem dX7_use_15 : decode cX7_use 15 = .ok (.aload_n 0, 1) := by decide +kernel
theorem dX7_use_16 : decode cX7_use 16 = .ok (.getfield 50, 3) := by decide +kernel
theorem dX7_use_19 : decode cX7_use 19 = .ok (.aload_n 0, 1) := by decide +kernel
theorem dX7_use_20 : decode cX7_use 20 = .ok (.getfield 86, 3) := by decide +kernel
theorem dX7_use_23 : decode cX7_use 23 = .ok (.invokevirtual 139, 3) := by decide +kernel
theorem dX7_use_26 : decode cX7_use 26 = .ok (.invokevirtual 147, 3) := by decide +kernel
theorem dX7_use_29 : decode cX7_use 29 = .ok (.astore_n 1, 1) := by decide +kernel
theorem dX7_use_30 : decode cX7_use 30 = .ok (.aload_n 1, 1) := by decide +kernel
theorem dX7_use_31 : decode cX7_use 31 = .ok (.ifnonnull 18, 3) := by decide +kernel
theorem dX7_use_34 : decode cX7_use 34 = .ok (.aload_n 0, 1) := by decide +kernel
theorem dX7_use_35 : decode cX7_use 35 = .ok (.getfield 44, 3) := by decide +kernel
theorem dX7_use_38 : decode cX7_use 38 = .ok (.ifCond .ge 11, 3) := by decide +kernel
theorem dX7_use_41 : decode cX7_use 41 = .ok (.aload_n 0, 1) := by decide +kernel
theorem dX7_use_42 : decode cX7_use 42 = .ok (.aload_n 0, 1) := by decide +kernel
theorem dX7_use_43 : decode cX7_use 43 = .ok (.invokevirtual 95, 3) := by decide +kernel
theorem dX7_use_46 : decode cX7_use 46 = .ok (.putfield 44, 3) := by decide +kernel
theorem dX7_use_49 : decode cX7_use 49 = .ok (.aload_n 0, 1) := by decide +kernel
theorem dX7_use_50 : decode cX7_use 50 = .ok (.invokevirtual 98, 3) := by decide +kernel
theorem dX7_use_53 : decode cX7_use 53 = .ok (.aload_n 1, 1) := by decide +kernel
theorem dX7_use_54 : decode cX7_use 54 = .ok (.areturn, 1) := by decide +kernel
theorem dX7_sum__62 : decode cX7_sum_ 62 = .ok (.iconst (-1), 1) := by decide +kernel
theorem dX7_sum__63 : decode cX7_sum_ 63 = .ok (.goto 4, 3) := by decide +kernel
theorem dX7_sum__83 : decode cX7_sum_ 83 = .ok (.aload_n 2, 1) := by decide +kernel
theorem dX7_sum__84 : decode cX7_sum_ 84 = .ok (.iconst 0, 1) := by decide +kernel
theorem dX7_sum__85 : decode cX7_sum_ 85 = .ok (.putfield 292, 3) := by decide +kernel
theorem dX7_sum__88 : decode cX7_sum_ 88 = .ok (.aload_n 0, 1) := by decide +kernel
theorem dX7_sum__89 : decode cX7_sum_ 89 = .ok (.invokevirtual 98, 3) := by decide +kernel
theorem dX7_sum__104 : decode cX7_sum_ 104 = .ok (.aload_n 2, 1) := by decide +kernel
theorem dX7_sum__105 : decode cX7_sum_ 105 = .ok (.getfield 192, 3) := by decide +kernel
theorem dX7_sum__108 : decode cX7_sum_ 108 = .ok (.dup, 1) := by decide +kernel
theorem dX7_sum__109 : decode cX7_sum_ 109 = .ok (.getfield 303, 3) := by decide +kernel
theorem dX7_sum__112 : decode cX7_sum_ 112 = .ok (.iload 5, 2) := by decide +kernel
theorem dX7_sum__114 : decode cX7_sum_ 114 = .ok (.aload_n 0, 1) := by decide +kernel
theorem dX7_sum__115 : decode cX7_sum_ 115 = .ok (.getfield 50, 3) := by decide +kernel
theorem dX7_sum__118 : decode cX7_sum_ 118 = .ok (.aload_n 0, 1) := by decide +kernel
theorem dX7_sum__119 : decode cX7_sum_ 119 = .ok (.getfield 86, 3) := by decide +kernel
theorem dX7_sum__122 : decode cX7_sum_ 122 = .ok (.invokevirtual 120, 3) := by decide +kernel
theorem dX7_sum__125 : decode cX7_sum_ 125 = .ok (.imul, 1) := by decide +kernel
theorem dX7_sum__126 : decode cX7_sum_ 126 = .ok (.i2l, 1) := by decide +kernel
theorem dX7_sum__127 : decode cX7_sum_ 127 = .ok (.ladd, 1) := by decide +kernel
theorem dX7_sum__128 : decode cX7_sum_ 128 = .ok (.putfield 303, 3) := by decide +kernel
theorem dX7_sum__131 : decode cX7_sum_ 131 = .ok (.aload_n 0, 1) := by decide +kernel
theorem dX7_sum__132 : decode cX7_sum_ 132 = .ok (.invokevirtual 98, 3) := by decide +kernel
theorem dX7_sum__135 : decode cX7_sum_ 135 = .ok (.goto 102, 3) := by decide +kernel
theorem dX7_sum__154 : decode cX7_sum_ 154 = .ok (.aload_n 0, 1) := by decide +kernel
theorem dX7_sum__155 : decode cX7_sum_ 155 = .ok (.invokevirtual 98, 3) := by decide +kernel
theorem dX7_sum__167 : decode cX7_sum_ 167 = .ok (.sipush 200, 3) := by decide +kernel
theorem dX7_sum__170 : decode cX7_sum_ 170 = .ok (.goto 20, 3) := by decide +kernel
theorem dX7_sum__181 : decode cX7_sum_ 181 = .ok (.sipush 213, 3) := by decide +kernel
theorem dX7_sum__184 : decode cX7_sum_ 184 = .ok (.goto 6, 3) := by decide +kernel
theorem dX7_sum__255 : decode cX7_sum_ 255 = .ok (.iconst 1, 1) := by decide +kernel
theorem dX7_sum__256 : decode cX7_sum_ 256 = .ok (.goto 4, 3) := by decide +kernel
theorem dX7_compare_0 : decode cX7_compare 0 = .ok (.aload_n 0, 1) := by decide +kernel
theorem dX7_compare_1 : decode cX7_compare 1 = .ok (.sipush 403, 3) := by decide +kernel
theorem dX7_compare_4 : decode cX7_compare 4 = .ok (.invokevirtual 163, 3) := by decide +kernel
theorem dX7_compare_7 : decode cX7_compare 7 = .ok (.astore_n 3, 1) := by decide +kernel
theorem dX7_compare_8 : decode cX7_compare 8 = .ok (.aload_n 3, 1) := by decide +kernel
theorem dX7_compare_9 : decode cX7_compare 9 = .ok (.aload_n 1, 1) := by decide +kernel
theorem dX7_compare_10 : decode cX7_compare 10 = .ok (.putfield 192, 3) := by decide +kernel
theorem dX7_compare_13 : decode cX7_compare 13 = .ok (.aload_n 3, 1) := by decide +kernel
theorem dX7_compare_14 : decode cX7_compare 14 = .ok (.iload_n 2, 1) := by decide +kernel
theorem dX7_compare_15 : decode cX7_compare 15 = .ok (.putfield 307, 3) := by decide +kernel
theorem dX7_compare_18 : decode cX7_compare 18 = .ok (.aload_n 3, 1) := by decide +kernel
theorem dX7_compare_19 : decode cX7_compare 19 = .ok (.areturn, 1) := by decide +kernel
theorem dX7_either_0 : decode cX7_either 0 = .ok (.aload_n 0, 1) := by decide +kernel
theorem dX7_either_1 : decode cX7_either 1 = .ok (.iload_n 1, 1) := by decide +kernel
theorem dX7_either_2 : decode cX7_either 2 = .ok (.invokevirtual 316, 3) := by decide +kernel
theorem dX7_either_5 : decode cX7_either 5 = .ok (.astore_n 2, 1) := by decide +kernel
theorem dX7_either_6 : decode cX7_either 6 = .ok (.aload_n 0, 1) := by decide +kernel
theorem dX7_either_7 : decode cX7_either 7 = .ok (.invokevirtual 57, 3) := by decide +kernel
theorem dX7_either_10 : decode cX7_either 10 = .ok (.sipush 303, 3) := by decide +kernel
theorem dX7_either_13 : decode cX7_either 13 = .ok (.if_icmp .eq 5, 3) := by decide +kernel
theorem dX7_either_16 : decode cX7_either 16 = .ok (.aload_n 2, 1) := by decide +kernel
theorem dX7_either_17 : decode cX7_either 17 = .ok (.areturn, 1) := by decide +kernel
theorem dX7_either_18 : decode cX7_either 18 = .ok (.new 101, 3) := by decide +kernel
theorem dX7_either_21 : decode cX7_either 21 = .ok (.dup, 1) := by decide +kernel
theorem dX7_either_22 : decode cX7_either 22 = .ok (.sipush 303, 3) := by decide +kernel
theorem dX7_either_25 : decode cX7_either 25 = .ok (.aload_n 2, 1) := by decide +kernel
theorem dX7_either_26 : decode cX7_either 26 = .ok (.getfield 284, 3) := by decide +kernel
theorem dX7_either_29 : decode cX7_either 29 = .ok (.aload_n 0, 1) := by decide +kernel
theorem dX7_either_30 : decode cX7_either 30 = .ok (.getfield 103, 3) := by decide +kernel
theorem dX7_either_33 : decode cX7_either 33 = .ok (.invokespecial 106, 3) := by decide +kernel
theorem dX7_either_36 : decode cX7_either 36 = .ok (.astore_n 3, 1) := by decide +kernel
theorem dX7_either_37 : decode cX7_either 37 = .ok (.aload_n 3, 1) := by decide +kernel
theorem dX7_either_38 : decode cX7_either 38 = .ok (.new 17, 3) := by decide +kernel
theorem dX7_either_41 : decode cX7_either 41 = .ok (.dup, 1) := by decide +kernel
theorem dX7_either_42 : decode cX7_either 42 = .ok (.invokespecial 19, 3) := by decide +kernel
theorem dX7_either_45 : decode cX7_either 45 = .ok (.putfield 271, 3) := by decide +kernel
theorem dX7_either_48 : decode cX7_either 48 = .ok (.aload_n 3, 1) := by decide +kernel
theorem dX7_either_49 : decode cX7_either 49 = .ok (.getfield 271, 3) := by decide +kernel
theorem dX7_either_52 : decode cX7_either 52 = .ok (.aload_n 2, 1) := by decide +kernel
theorem dX7_either_53 : decode cX7_either 53 = .ok (.invokevirtual 151, 3) := by decide +kernel
theorem dX7_either_56 : decode cX7_either 56 = .ok (.pop, 1) := by decide +kernel
theorem dX7_either_57 : decode cX7_either 57 = .ok (.iconst 0, 1) := by decide +kernel
theorem dX7_either_58 : decode cX7_either 58 = .ok (.istore 4, 2) := by decide +kernel
theorem dX7_either_60 : decode cX7_either 60 = .ok (.iload 4, 2) := by decide +kernel
theorem dX7_either_62 : decode cX7_either 62 = .ok (.aload_n 0, 1) := by decide +kernel
theorem dX7_either_63 : decode cX7_either 63 = .ok (.getfield 50, 3) := by decide +kernel
theorem dX7_either_66 : decode cX7_either 66 = .ok (.getfield 92, 3) := by decide +kernel
theorem dX7_either_69 : decode cX7_either 69 = .ok (.if_icmp .ge 36, 3) := by decide +kernel
theorem dX7_either_72 : decode cX7_either 72 = .ok (.aload_n 0, 1) := by decide +kernel
theorem dX7_either_73 : decode cX7_either 73 = .ok (.invokevirtual 57, 3) := by decide +kernel
theorem dX7_either_76 : decode cX7_either 76 = .ok (.sipush 303, 3) := by decide +kernel
theorem dX7_either_79 : decode cX7_either 79 = .ok (.if_icmp .ne 26, 3) := by decide +kernel
theorem dX7_either_82 : decode cX7_either 82 = .ok (.aload_n 0, 1) := by decide +kernel
theorem dX7_either_83 : decode cX7_either 83 = .ok (.invokevirtual 98, 3) := by decide +kernel
theorem dX7_either_86 : decode cX7_either 86 = .ok (.aload_n 3, 1) := by decide +kernel
theorem dX7_either_87 : decode cX7_either 87 = .ok (.getfield 271, 3) := by decide +kernel
theorem dX7_either_90 : decode cX7_either 90 = .ok (.aload_n 0, 1) := by decide +kernel
theorem dX7_either_91 : decode cX7_either 91 = .ok (.iload_n 1, 1) := by decide +kernel
theorem dX7_either_92 : decode cX7_either 92 = .ok (.invokevirtual 316, 3) := by decide +kernel
theorem dX7_either_95 : decode cX7_either 95 = .ok (.invokevirtual 151, 3) := by decide +kernel
theorem dX7_either_98 : decode cX7_either 98 = .ok (.pop, 1) := by decide +kernel
theorem dX7_either_99 : decode cX7_either 99 = .ok (.iinc 4 1, 3) := by decide +kernel
theorem dX7_either_102 : decode cX7_either 102 = .ok (.goto (-42), 3) := by decide +kernel
theorem dX7_either_105 : decode cX7_either 105 = .ok (.aload_n 3, 1) := by decide +kernel
theorem dX7_either_106 : decode cX7_either 106 = .ok (.areturn, 1) := by decide +kernel
theorem dX7_both_0 : decode cX7_both 0 = .ok (.aload_n 0, 1) := by decide +kernel
theorem dX7_both_1 : decode cX7_both 1 = .ok (.iload_n 1, 1) := by decide +kernel
theorem dX7_both_2 : decode cX7_both 2 = .ok (.invokevirtual 319, 3) := by decide +kernel
theorem dX7_both_5 : decode cX7_both 5 = .ok (.astore_n 2, 1) := by decide +kernel
theorem dX7_both_6 : decode cX7_both 6 = .ok (.aload_n 0, 1) := by decide +kernel
theorem dX7_both_7 : decode cX7_both 7 = .ok (.invokevirtual 57, 3) := by decide +kernel
theorem dX7_both_10 : decode cX7_both 10 = .ok (.sipush 302, 3) := by decide +kernel
theorem dX7_both_13 : decode cX7_both 13 = .ok (.if_icmp .eq 5, 3) := by decide +kernel
theorem dX7_both_16 : decode cX7_both 16 = .ok (.aload_n 2, 1) := by decide +kernel
theorem dX7_both_17 : decode cX7_both 17 = .ok (.areturn, 1) := by decide +kernel
theorem dX7_both_18 : decode cX7_both 18 = .ok (.new 101, 3) := by decide +kernel
theorem dX7_both_21 : decode cX7_both 21 = .ok (.dup, 1) := by decide +kernel
theorem dX7_both_22 : decode cX7_both 22 = .ok (.sipush 302, 3) := by decide +kernel
theorem dX7_both_25 : decode cX7_both 25 = .ok (.aload_n 2, 1) := by decide +kernel
theorem dX7_both_26 : decode cX7_both 26 = .ok (.getfield 284, 3) := by decide +kernel
theorem dX7_both_29 : decode cX7_both 29 = .ok (.aload_n 0, 1) := by decide +kernel
theorem dX7_both_30 : decode cX7_both 30 = .ok (.getfield 103, 3) := by decide +kernel
theorem dX7_both_33 : decode cX7_both 33 = .ok (.invokespecial 106, 3) := by decide +kernel
theorem dX7_both_36 : decode cX7_both 36 = .ok (.astore_n 3, 1) := by decide +kernel
theorem dX7_both_37 : decode cX7_both 37 = .ok (.aload_n 3, 1) := by decide +kernel
theorem dX7_both_38 : decode cX7_both 38 = .ok (.new 17, 3) := by decide +kernel
theorem dX7_both_41 : decode cX7_both 41 = .ok (.dup, 1) := by decide +kernel
theorem dX7_both_42 : decode cX7_both 42 = .ok (.invokespecial 19, 3) := by decide +kernel
theorem dX7_both_45 : decode cX7_both 45 = .ok (.putfield 271, 3) := by decide +kernel
theorem dX7_both_48 : decode cX7_both 48 = .ok (.aload_n 3, 1) := by decide +kernel
theorem dX7_both_49 : decode cX7_both 49 = .ok (.getfield 271, 3) := by decide +kernel
theorem dX7_both_52 : decode cX7_both 52 = .ok (.aload_n 2, 1) := by decide +kernel
theorem dX7_both_53 : decode cX7_both 53 = .ok (.invokevirtual 151, 3) := by decide +kernel
theorem dX7_both_56 : decode cX7_both 56 = .ok (.pop, 1) := by decide +kernel
theorem dX7_both_57 : decode cX7_both 57 = .ok (.iconst 0, 1) := by decide +kernel
theorem dX7_both_58 : decode cX7_both 58 = .ok (.istore 4, 2) := by decide +kernel
theorem dX7_both_60 : decode cX7_both 60 = .ok (.iload 4, 2) := by decide +kernel
theorem dX7_both_62 : decode cX7_both 62 = .ok (.aload_n 0, 1) := by decide +kernel
theorem dX7_both_63 : decode cX7_both 63 = .ok (.getfield 50, 3) := by decide +kernel
theorem dX7_both_66 : decode cX7_both 66 = .ok (.getfield 92, 3) := by decide +kernel
theorem dX7_both_69 : decode cX7_both 69 = .ok (.if_icmp .ge 36, 3) := by decide +kernel
theorem dX7_both_72 : decode cX7_both 72 = .ok (.aload_n 0, 1) := by decide +kernel
theorem dX7_both_73 : decode cX7_both 73 = .ok (.invokevirtual 57, 3) := by decide +kernel
theorem dX7_both_76 : decode cX7_both 76 = .ok (.sipush 302, 3) := by decide +kernel
theorem dX7_both_79 : decode cX7_both 79 = .ok (.if_icmp .ne 26, 3) := by decide +kernel
theorem dX7_both_82 : decode cX7_both 82 = .ok (.aload_n 0, 1) := by decide +kernel
theorem dX7_both_83 : decode cX7_both 83 = .ok (.invokevirtual 98, 3) := by decide +kernel
theorem dX7_both_86 : decode cX7_both 86 = .ok (.aload_n 3, 1) := by decide +kernel
theorem dX7_both_87 : decode cX7_both 87 = .ok (.getfield 271, 3) := by decide +kernel
theorem dX7_both_90 : decode cX7_both 90 = .ok (.aload_n 0, 1) := by decide +kernel
theorem dX7_both_91 : decode cX7_both 91 = .ok (.iload_n 1, 1) := by decide +kernel
theorem dX7_both_92 : decode cX7_both 92 = .ok (.invokevirtual 319, 3) := by decide +kernel
theorem dX7_both_95 : decode cX7_both 95 = .ok (.invokevirtual 151, 3) := by decide +kernel
theorem dX7_both_98 : decode cX7_both 98 = .ok (.pop, 1) := by decide +kernel
theorem dX7_both_99 : decode cX7_both 99 = .ok (.iinc 4 1, 3) := by decide +kernel
theorem dX7_both_102 : decode cX7_both 102 = .ok (.goto (-42), 3) := by decide +kernel
theorem dX7_both_105 : decode cX7_both 105 = .ok (.aload_n 3, 1) := by decide +kernel
theorem dX7_both_106 : decode cX7_both 106 = .ok (.areturn, 1) := by decide +kernel
theorem dX7_comparison_0 : decode cX7_comparison 0 = .ok (.aload_n 1, 1) := by decide +kernel
theorem dX7_comparison_1 : decode cX7_comparison 1 = .ok (.aload_n 0, 1) := by decide +kernel
theorem dX7_comparison_2 : decode cX7_comparison 2 = .ok (.invokevirtual 185, 3) := by decide +kernel
theorem dX7_comparison_5 : decode cX7_comparison 5 = .ok (.putfield 189, 3) := by decide +kernel
theorem dX7_comparison_8 : decode cX7_comparison 8 = .ok (.aload_n 0, 1) := by decide +kernel
theorem dX7_comparison_9 : decode cX7_comparison 9 = .ok (.dup, 1) := by decide +kernel
theorem dX7_comparison_10 : decode cX7_comparison 10 = .ok (.getfield 310, 3) := by decide +kernel
theorem dX7_comparison_13 : decode cX7_comparison 13 = .ok (.iconst 1, 1) := by decide +kernel
theorem dX7_comparison_14 : decode cX7_comparison 14 = .ok (.iadd, 1) := by decide +kernel
theorem dX7_comparison_15 : decode cX7_comparison 15 = .ok (.putfield 310, 3) := by decide +kernel
theorem dX7_comparison_18 : decode cX7_comparison 18 = .ok (.aload_n 0, 1) := by decide +kernel
theorem dX7_comparison_19 : decode cX7_comparison 19 = .ok (.invokevirtual 57, 3) := by decide +kernel
theorem dX7_comparison_22 : decode cX7_comparison 22 = .ok (.invokestatic 113, 3) := by decide +kernel
theorem dX7_comparison_25 : decode cX7_comparison 25 = .ok (.ifCond .ne 47, 3) := by decide +kernel
theorem dX7_comparison_28 : decode cX7_comparison 28 = .ok (.aload_n 0, 1) := by decide +kernel
theorem dX7_comparison_29 : decode cX7_comparison 29 = .ok (.invokevirtual 57, 3) := by decide +kernel
theorem dX7_comparison_32 : decode cX7_comparison 32 = .ok (.bipush 35, 2) := by decide +kernel
theorem dX7_comparison_34 : decode cX7_comparison 34 = .ok (.if_icmp .eq 38, 3) := by decide +kernel
theorem dX7_comparison_37 : decode cX7_comparison 37 = .ok (.aload_n 1, 1) := by decide +kernel
theorem dX7_comparison_38 : decode cX7_comparison 38 = .ok (.sipush 402, 3) := by decide +kernel
theorem dX7_comparison_41 : decode cX7_comparison 41 = .ok (.putfield 226, 3) := by decide +kernel
theorem dX7_comparison_44 : decode cX7_comparison 44 = .ok (.aload_n 1, 1) := by decide +kernel
theorem dX7_comparison_45 : decode cX7_comparison 45 = .ok (.aload_n 1, 1) := by decide +kernel
theorem dX7_comparison_46 : decode cX7_comparison 46 = .ok (.getfield 189, 3) := by decide +kernel
theorem dX7_comparison_49 : decode cX7_comparison 49 = .ok (.getfield 208, 3) := by decide +kernel
theorem dX7_comparison_52 : decode cX7_comparison 52 = .ok (.putfield 208, 3) := by decide +kernel
theorem dX7_comparison_55 : decode cX7_comparison 55 = .ok (.aload_n 1, 1) := by decide +kernel
theorem dX7_comparison_56 : decode cX7_comparison 56 = .ok (.getfield 189, 3) := by decide +kernel
theorem dX7_comparison_59 : decode cX7_comparison 59 = .ok (.getfield 292, 3) := by decide +kernel
theorem dX7_comparison_62 : decode cX7_comparison 62 = .ok (.iconst 1, 1) := by decide +kernel
theorem dX7_comparison_63 : decode cX7_comparison 63 = .ok (.if_icmp .eq 7, 3) := by decide +kernel
theorem dX7_comparison_66 : decode cX7_comparison 66 = .ok (.aload_n 0, 1) := by decide +kernel
theorem dX7_comparison_67 : decode cX7_comparison 67 = .ok (.invokevirtual 78, 3) := by decide +kernel
theorem dX7_comparison_70 : decode cX7_comparison 70 = .ok (.aload_n 1, 1) := by decide +kernel
theorem dX7_comparison_71 : decode cX7_comparison 71 = .ok (.areturn, 1) := by decide +kernel
theorem dX7_comparison_72 : decode cX7_comparison 72 = .ok (.aload_n 1, 1) := by decide +kernel
theorem dX7_comparison_73 : decode cX7_comparison 73 = .ok (.sipush 403, 3) := by decide +kernel
theorem dX7_comparison_76 : decode cX7_comparison 76 = .ok (.putfield 226, 3) := by decide +kernel
theorem dX7_comparison_79 : decode cX7_comparison 79 = .ok (.aload_n 1, 1) := by decide +kernel
theorem dX7_comparison_80 : decode cX7_comparison 80 = .ok (.aload_n 0, 1) := by decide +kernel
theorem dX7_comparison_81 : decode cX7_comparison 81 = .ok (.invokevirtual 57, 3) := by decide +kernel
theorem dX7_comparison_84 : decode cX7_comparison 84 = .ok (.putfield 307, 3) := by decide +kernel
theorem dX7_comparison_87 : decode cX7_comparison 87 = .ok (.aload_n 1, 1) := by decide +kernel
theorem dX7_comparison_88 : decode cX7_comparison 88 = .ok (.aload_n 0, 1) := by decide +kernel
theorem dX7_comparison_89 : decode cX7_comparison 89 = .ok (.invokevirtual 95, 3) := by decide +kernel
theorem dX7_comparison_92 : decode cX7_comparison 92 = .ok (.putfield 258, 3) := by decide +kernel
theorem dX7_comparison_95 : decode cX7_comparison 95 = .ok (.aload_n 0, 1) := by decide +kernel
theorem dX7_comparison_96 : decode cX7_comparison 96 = .ok (.invokevirtual 98, 3) := by decide +kernel
theorem dX7_comparison_99 : decode cX7_comparison 99 = .ok (.aload_n 1, 1) := by decide +kernel
theorem dX7_comparison_100 : decode cX7_comparison 100 = .ok (.aload_n 0, 1) := by decide +kernel
theorem dX7_comparison_101 : decode cX7_comparison 101 = .ok (.invokevirtual 185, 3) := by decide +kernel
theorem dX7_comparison_104 : decode cX7_comparison 104 = .ok (.putfield 255, 3) := by decide +kernel
theorem dX7_comparison_107 : decode cX7_comparison 107 = .ok (.aload_n 1, 1) := by decide +kernel
theorem dX7_comparison_108 : decode cX7_comparison 108 = .ok (.new 261, 3) := by decide +kernel
theorem dX7_comparison_111 : decode cX7_comparison 111 = .ok (.dup, 1) := by decide +kernel
theorem dX7_comparison_112 : decode cX7_comparison 112 = .ok (.invokespecial 263, 3) := by decide +kernel
theorem dX7_comparison_115 : decode cX7_comparison 115 = .ok (.putfield 192, 3) := by decide +kernel
theorem dX7_comparison_118 : decode cX7_comparison 118 = .ok (.aload_n 1, 1) := by decide +kernel
theorem dX7_comparison_119 : decode cX7_comparison 119 = .ok (.getfield 192, 3) := by decide +kernel
theorem dX7_comparison_122 : decode cX7_comparison 122 = .ok (.aload_n 1, 1) := by decide +kernel
theorem dX7_comparison_123 : decode cX7_comparison 123 = .ok (.getfield 189, 3) := by decide +kernel
theorem dX7_comparison_126 : decode cX7_comparison 126 = .ok (.getfield 192, 3) := by decide +kernel
theorem dX7_comparison_129 : decode cX7_comparison 129 = .ok (.iconst 1, 1) := by decide +kernel
theorem dX7_comparison_130 : decode cX7_comparison 130 = .ok (.invokevirtual 264, 3) := by decide +kernel
theorem dX7_comparison_133 : decode cX7_comparison 133 = .ok (.aload_n 1, 1) := by decide +kernel
theorem dX7_comparison_134 : decode cX7_comparison 134 = .ok (.getfield 192, 3) := by decide +kernel
theorem dX7_comparison_137 : decode cX7_comparison 137 = .ok (.aload_n 1, 1) := by decide +kernel
theorem dX7_comparison_138 : decode cX7_comparison 138 = .ok (.getfield 255, 3) := by decide +kernel
theorem dX7_comparison_141 : decode cX7_comparison 141 = .ok (.getfield 192, 3) := by decide +kernel
theorem dX7_comparison_144 : decode cX7_comparison 144 = .ok (.iconst (-1), 1) := by decide +kernel
theorem dX7_comparison_145 : decode cX7_comparison 145 = .ok (.invokevirtual 264, 3) := by decide +kernel
theorem dX7_comparison_148 : decode cX7_comparison 148 = .ok (.aload_n 1, 1) := by decide +kernel
theorem dX7_comparison_149 : decode cX7_comparison 149 = .ok (.getfield 192, 3) := by decide +kernel
theorem dX7_comparison_152 : decode cX7_comparison 152 = .ok (.invokevirtual 326, 3) := by decide +kernel
theorem dX7_comparison_155 : decode cX7_comparison 155 = .ok (.ifCond .ne 11, 3) := by decide +kernel
theorem dX7_comparison_158 : decode cX7_comparison 158 = .ok (.aload_n 0, 1) := by decide +kernel
theorem dX7_comparison_159 : decode cX7_comparison 159 = .ok (.aload_n 1, 1) := by decide +kernel
theorem dX7_comparison_160 : decode cX7_comparison 160 = .ok (.getfield 258, 3) := by decide +kernel
theorem dX7_comparison_163 : decode cX7_comparison 163 = .ok (.invokevirtual 299, 3) := by decide +kernel
theorem dX7_comparison_166 : decode cX7_comparison 166 = .ok (.aload_n 1, 1) := by decide +kernel
theorem dX7_comparison_167 : decode cX7_comparison 167 = .ok (.areturn, 1) := by decide +kernel
theorem dX9_addAll_0 : decode cX9_addAll 0 = .ok (.iconst 0, 1) := by decide +kernel
theorem dX9_addAll_1 : decode cX9_addAll 1 = .ok (.istore_n 3, 1) := by decide +kernel
theorem dX9_addAll_2 : decode cX9_addAll 2 = .ok (.iload_n 3, 1) := by decide +kernel
theorem dX9_addAll_3 : decode cX9_addAll 3 = .ok (.aload_n 1, 1) := by decide +kernel
theorem dX9_addAll_4 : decode cX9_addAll 4 = .ok (.getfield 19, 3) := by decide +kernel
theorem dX9_addAll_7 : decode cX9_addAll 7 = .ok (.if_icmp .ge 27, 3) := by decide +kernel
theorem dX9_addAll_10 : decode cX9_addAll 10 = .ok (.aload_n 0, 1) := by decide +kernel
theorem dX9_addAll_11 : decode cX9_addAll 11 = .ok (.aload_n 1, 1) := by decide +kernel
theorem dX9_addAll_12 : decode cX9_addAll 12 = .ok (.getfield 9, 3) := by decide +kernel
theorem dX9_addAll_15 : decode cX9_addAll 15 = .ok (.iload_n 3, 1) := by decide +kernel
theorem dX9_addAll_16 : decode cX9_addAll 16 = .ok (.aaload, 1) := by decide +kernel
theorem dX9_addAll_17 : decode cX9_addAll 17 = .ok (.iload_n 2, 1) := by decide +kernel
theorem dX9_addAll_18 : decode cX9_addAll 18 = .ok (.aload_n 1, 1) := by decide +kernel
theorem dX9_addAll_19 : decode cX9_addAll 19 = .ok (.getfield 15, 3) := by decide +kernel
theorem dX9_addAll_22 : decode cX9_addAll 22 = .ok (.iload_n 3, 1) := by decide +kernel
theorem dX9_addAll_23 : decode cX9_addAll 23 = .ok (.iaload, 1) := by decide +kernel
theorem dX9_addAll_24 : decode cX9_addAll 24 = .ok (.imul, 1) := by decide +kernel
theorem dX9_addAll_25 : decode cX9_addAll 25 = .ok (.invokevirtual 39, 3) := by decide +kernel
theorem dX9_addAll_28 : decode cX9_addAll 28 = .ok (.iinc 3 1, 3) := by decide +kernel
theorem dX9_addAll_31 : decode cX9_addAll 31 = .ok (.goto (-29), 3) := by decide +kernel
theorem dX9_addAll_34 : decode cX9_addAll 34 = .ok (.aload_n 0, 1) := by decide +kernel
theorem dX9_addAll_35 : decode cX9_addAll 35 = .ok (.dup, 1) := by decide +kernel
theorem dX9_addAll_36 : decode cX9_addAll 36 = .ok (.getfield 43, 3) := by decide +kernel
theorem dX9_addAll_39 : decode cX9_addAll 39 = .ok (.iload_n 2, 1) := by decide +kernel
theorem dX9_addAll_40 : decode cX9_addAll 40 = .ok (.i2l, 1) := by decide +kernel
theorem dX9_addAll_41 : decode cX9_addAll 41 = .ok (.aload_n 1, 1) := by decide +kernel
theorem dX9_addAll_42 : decode cX9_addAll 42 = .ok (.getfield 43, 3) := by decide +kernel
theorem dX9_addAll_45 : decode cX9_addAll 45 = .ok (.lmul, 1) := by decide +kernel
theorem dX9_addAll_46 : decode cX9_addAll 46 = .ok (.ladd, 1) := by decide +kernel
theorem dX9_addAll_47 : decode cX9_addAll 47 = .ok (.putfield 43, 3) := by decide +kernel
theorem dX9_addAll_50 : decode cX9_addAll 50 = .ok (.return_, 1) := by decide +kernel
theorem dX11_textOf_0 : decode cX11_textOf 0 = .ok (.aload_n 0, 1) := by decide +kernel
theorem dX11_textOf_1 : decode cX11_textOf 1 = .ok (.getfield 15, 3) := by decide +kernel
theorem dX11_textOf_4 : decode cX11_textOf 4 = .ok (.aload_n 0, 1) := by decide +kernel
theorem dX11_textOf_5 : decode cX11_textOf 5 = .ok (.getfield 29, 3) := by decide +kernel
theorem dX11_textOf_8 : decode cX11_textOf 8 = .ok (.iload_n 1, 1) := by decide +kernel
theorem dX11_textOf_9 : decode cX11_textOf 9 = .ok (.iaload, 1) := by decide +kernel
theorem dX11_textOf_10 : decode cX11_textOf 10 = .ok (.aload_n 0, 1) := by decide +kernel
theorem dX11_textOf_11 : decode cX11_textOf 11 = .ok (.getfield 32, 3) := by decide +kernel
theorem dX11_textOf_14 : decode cX11_textOf 14 = .ok (.iload_n 1, 1) := by decide +kernel
theorem dX11_textOf_15 : decode cX11_textOf 15 = .ok (.iaload, 1) := by decide +kernel
theorem dX11_textOf_16 : decode cX11_textOf 16 = .ok (.invokevirtual 82, 3) := by decide +kernel
theorem dX11_textOf_19 : decode cX11_textOf 19 = .ok (.areturn, 1) := by decide +kernel
