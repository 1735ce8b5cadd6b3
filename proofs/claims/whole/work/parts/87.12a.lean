theorem dX12_type_7 : decode cX12_type 7 = .ok (.aload_n 0, 1) := by decide +kernel
theorem dX12_type_8 : decode cX12_type 8 = .ok (.getfield 59, 3) := by decide +kernel
theorem dX12_type_11 : decode cX12_type 11 = .ok (.ifnull 21, 3) := by decide +kernel
theorem dX12_type_14 : decode cX12_type 14 = .ok (.iload_n 1, 1) := by decide +kernel
theorem dX12_type_15 : decode cX12_type 15 = .ok (.ifCond .lt 17, 3) := by decide +kernel
theorem dX12_type_18 : decode cX12_type 18 = .ok (.iload_n 1, 1) := by decide +kernel
theorem dX12_type_19 : decode cX12_type 19 = .ok (.aload_n 0, 1) := by decide +kernel
theorem dX12_type_20 : decode cX12_type 20 = .ok (.getfield 51, 3) := by decide +kernel
theorem dX12_type_23 : decode cX12_type 23 = .ok (.getfield 151, 3) := by decide +kernel
theorem dX12_type_26 : decode cX12_type 26 = .ok (.invokevirtual 154, 3) := by decide +kernel
theorem dX12_type_29 : decode cX12_type 29 = .ok (.if_icmp .lt 5, 3) := by decide +kernel
theorem dX12_type_34 : decode cX12_type 34 = .ok (.aload_n 0, 1) := by decide +kernel
theorem dX12_type_35 : decode cX12_type 35 = .ok (.iconst 0, 1) := by decide +kernel
theorem dX12_type_36 : decode cX12_type 36 = .ok (.putfield 158, 3) := by decide +kernel
theorem dX12_type_39 : decode cX12_type 39 = .ok (.aload_n 0, 1) := by decide +kernel
theorem dX12_type_40 : decode cX12_type 40 = .ok (.getfield 26, 3) := by decide +kernel
theorem dX12_type_43 : decode cX12_type 43 = .ok (.invokevirtual 161, 3) := by decide +kernel
theorem dX12_type_46 : decode cX12_type 46 = .ok (.aload_n 0, 1) := by decide +kernel
theorem dX12_type_47 : decode cX12_type 47 = .ok (.aload_n 0, 1) := by decide +kernel
theorem dX12_type_48 : decode cX12_type 48 = .ok (.getfield 51, 3) := by decide +kernel
theorem dX12_type_51 : decode cX12_type 51 = .ok (.getfield 151, 3) := by decide +kernel
theorem dX12_type_54 : decode cX12_type 54 = .ok (.iload_n 1, 1) := by decide +kernel
theorem dX12_type_55 : decode cX12_type 55 = .ok (.invokevirtual 164, 3) := by decide +kernel
theorem dX12_type_58 : decode cX12_type 58 = .ok (.checkcast 168, 3) := by decide +kernel
theorem dX12_type_61 : decode cX12_type 61 = .ok (.getfield 170, 3) := by decide +kernel
theorem dX12_type_64 : decode cX12_type 64 = .ok (.iconst 0, 1) := by decide +kernel
theorem dX12_type_65 : decode cX12_type 65 = .ok (.invokevirtual 174, 3) := by decide +kernel
theorem dX12_type_68 : decode cX12_type 68 = .ok (.aload_n 0, 1) := by decide +kernel
theorem dX12_type_69 : decode cX12_type 69 = .ok (.getfield 158, 3) := by decide +kernel
theorem dX12_type_72 : decode cX12_type 72 = .ok (.sipush 16000, 3) := by decide +kernel
theorem dX12_type_75 : decode cX12_type 75 = .ok (.if_icmp .le 5, 3) := by decide +kernel
theorem dX12_type_78 : decode cX12_type 78 = .ok (.iconst (-1), 1) := by decide +kernel
theorem dX12_type_79 : decode cX12_type 79 = .ok (.ireturn, 1) := by decide +kernel
theorem dX12_type_80 : decode cX12_type 80 = .ok (.aload_n 0, 1) := by decide +kernel
theorem dX12_type_81 : decode cX12_type 81 = .ok (.getfield 17, 3) := by decide +kernel
theorem dX12_type_84 : decode cX12_type 84 = .ok (.astore_n 2, 1) := by decide +kernel
theorem dX12_type_85 : decode cX12_type 85 = .ok (.aload_n 0, 1) := by decide +kernel
theorem dX12_type_86 : decode cX12_type 86 = .ok (.aload_n 0, 1) := by decide +kernel
theorem dX12_type_87 : decode cX12_type 87 = .ok (.getfield 20, 3) := by decide +kernel
theorem dX12_type_90 : decode cX12_type 90 = .ok (.putfield 17, 3) := by decide +kernel
theorem dX12_type_93 : decode cX12_type 93 = .ok (.aload_n 0, 1) := by decide +kernel
theorem dX12_type_94 : decode cX12_type 94 = .ok (.aload_n 2, 1) := by decide +kernel
theorem dX12_type_95 : decode cX12_type 95 = .ok (.putfield 20, 3) := by decide +kernel
theorem dX12_type_98 : decode cX12_type 98 = .ok (.aload_n 0, 1) := by decide +kernel
theorem dX12_type_99 : decode cX12_type 99 = .ok (.aload_n 0, 1) := by decide +kernel
theorem dX12_type_100 : decode cX12_type 100 = .ok (.getfield 158, 3) := by decide +kernel
theorem dX12_type_103 : decode cX12_type 103 = .ok (.putfield 178, 3) := by decide +kernel
theorem dX12_type_106 : decode cX12_type 106 = .ok (.aload_n 0, 1) := by decide +kernel
theorem dX12_type_107 : decode cX12_type 107 = .ok (.getfield 178, 3) := by decide +kernel
theorem dX12_type_110 : decode cX12_type 110 = .ok (.ireturn, 1) := by decide +kernel
theorem dX12_tell_0 : decode cX12_tell 0 = .ok (.aload_n 1, 1) := by decide +kernel
theorem dX12_tell_1 : decode cX12_tell 1 = .ok (.astore_n 3, 1) := by decide +kernel
theorem dX12_tell_2 : decode cX12_tell 2 = .ok (.iconst 0, 1) := by decide +kernel
theorem dX12_tell_3 : decode cX12_tell 3 = .ok (.istore 4, 2) := by decide +kernel
theorem dX12_tell_5 : decode cX12_tell 5 = .ok (.iload 4, 2) := by decide +kernel
theorem dX12_tell_7 : decode cX12_tell 7 = .ok (.bipush 60, 2) := by decide +kernel
theorem dX12_tell_9 : decode cX12_tell 9 = .ok (.if_icmp .gt 105, 3) := by decide +kernel
theorem dX12_tell_12 : decode cX12_tell 12 = .ok (.aload_n 3, 1) := by decide +kernel
theorem dX12_tell_13 : decode cX12_tell 13 = .ok (.ifnull 101, 3) := by decide +kernel
theorem dX12_tell_16 : decode cX12_tell 16 = .ok (.aload_n 3, 1) := by decide +kernel
theorem dX12_tell_17 : decode cX12_tell 17 = .ok (.getfield 181, 3) := by decide +kernel
theorem dX12_tell_20 : decode cX12_tell 20 = .ok (.sipush 206, 3) := by decide +kernel
theorem dX12_tell_23 : decode cX12_tell 23 = .ok (.if_icmp .ne 91, 3) := by decide +kernel
theorem dX12_tell_26 : decode cX12_tell 26 = .ok (.aload_n 3, 1) := by decide +kernel
theorem dX12_tell_27 : decode cX12_tell 27 = .ok (.invokevirtual 186, 3) := by decide +kernel
theorem dX12_tell_30 : decode cX12_tell 30 = .ok (.astore 5, 2) := by decide +kernel
theorem dX12_tell_32 : decode cX12_tell 32 = .ok (.aload_n 0, 1) := by decide +kernel
theorem dX12_tell_33 : decode cX12_tell 33 = .ok (.aload_n 3, 1) := by decide +kernel
theorem dX12_tell_34 : decode cX12_tell 34 = .ok (.getfield 190, 3) := by decide +kernel
theorem dX12_tell_37 : decode cX12_tell 37 = .ok (.getfield 193, 3) := by decide +kernel
theorem dX12_tell_40 : decode cX12_tell 40 = .ok (.invokevirtual 197, 3) := by decide +kernel
theorem dX12_tell_43 : decode cX12_tell 43 = .ok (.aload_n 0, 1) := by decide +kernel
theorem dX12_tell_44 : decode cX12_tell 44 = .ok (.bipush 58, 2) := by decide +kernel
theorem dX12_tell_46 : decode cX12_tell 46 = .ok (.invokevirtual 201, 3) := by decide +kernel
theorem dX12_tell_49 : decode cX12_tell 49 = .ok (.aload 5, 2) := by decide +kernel
theorem dX12_tell_51 : decode cX12_tell 51 = .ok (.getfield 181, 3) := by decide +kernel
theorem dX12_tell_54 : decode cX12_tell 54 = .ok (.sipush 206, 3) := by decide +kernel
theorem dX12_tell_57 : decode cX12_tell 57 = .ok (.if_icmp .ne 33, 3) := by decide +kernel
theorem dX12_tell_60 : decode cX12_tell 60 = .ok (.iload_n 2, 1) := by decide +kernel
theorem dX12_tell_61 : decode cX12_tell 61 = .ok (.bipush 60, 2) := by decide +kernel
theorem dX12_tell_63 : decode cX12_tell 63 = .ok (.if_icmp .gt 27, 3) := by decide +kernel
theorem dX12_tell_66 : decode cX12_tell 66 = .ok (.aload_n 0, 1) := by decide +kernel
theorem dX12_tell_67 : decode cX12_tell 67 = .ok (.bipush 40, 2) := by decide +kernel
theorem dX12_tell_69 : decode cX12_tell 69 = .ok (.invokevirtual 201, 3) := by decide +kernel
theorem dX12_tell_72 : decode cX12_tell 72 = .ok (.aload_n 0, 1) := by decide +kernel
theorem dX12_tell_73 : decode cX12_tell 73 = .ok (.aload 5, 2) := by decide +kernel
theorem dX12_tell_75 : decode cX12_tell 75 = .ok (.iload_n 2, 1) := by decide +kernel
theorem dX12_tell_76 : decode cX12_tell 76 = .ok (.iconst 1, 1) := by decide +kernel
theorem dX12_tell_77 : decode cX12_tell 77 = .ok (.iadd, 1) := by decide +kernel
theorem dX12_tell_78 : decode cX12_tell 78 = .ok (.invokevirtual 174, 3) := by decide +kernel
theorem dX12_tell_81 : decode cX12_tell 81 = .ok (.aload_n 0, 1) := by decide +kernel
theorem dX12_tell_82 : decode cX12_tell 82 = .ok (.bipush 41, 2) := by decide +kernel
theorem dX12_tell_84 : decode cX12_tell 84 = .ok (.invokevirtual 201, 3) := by decide +kernel
theorem dX12_tell_87 : decode cX12_tell 87 = .ok (.goto 9, 3) := by decide +kernel
theorem dX12_tell_90 : decode cX12_tell 90 = .ok (.aload_n 0, 1) := by decide +kernel
theorem dX12_tell_91 : decode cX12_tell 91 = .ok (.aload 5, 2) := by decide +kernel
theorem dX12_tell_93 : decode cX12_tell 93 = .ok (.invokevirtual 205, 3) := by decide +kernel
theorem dX12_tell_96 : decode cX12_tell 96 = .ok (.aload_n 0, 1) := by decide +kernel
theorem dX12_tell_97 : decode cX12_tell 97 = .ok (.ldc 209, 2) := by decide +kernel
theorem dX12_tell_99 : decode cX12_tell 99 = .ok (.invokevirtual 211, 3) := by decide +kernel
theorem dX12_tell_102 : decode cX12_tell 102 = .ok (.aload_n 3, 1) := by decide +kernel
theorem dX12_tell_103 : decode cX12_tell 103 = .ok (.aconst_null, 1) := by decide +kernel
theorem dX12_tell_104 : decode cX12_tell 104 = .ok (.invokevirtual 213, 3) := by decide +kernel
theorem dX12_tell_107 : decode cX12_tell 107 = .ok (.astore_n 3, 1) := by decide +kernel
theorem dX12_tell_108 : decode cX12_tell 108 = .ok (.iinc 4 1, 3) := by decide +kernel
theorem dX12_tell_111 : decode cX12_tell 111 = .ok (.goto (-106), 3) := by decide +kernel
theorem dX12_tell_114 : decode cX12_tell 114 = .ok (.aload_n 3, 1) := by decide +kernel
theorem dX12_tell_115 : decode cX12_tell 115 = .ok (.ifnull 8, 3) := by decide +kernel
theorem dX12_tell_118 : decode cX12_tell 118 = .ok (.aload_n 0, 1) := by decide +kernel
theorem dX12_tell_119 : decode cX12_tell 119 = .ok (.aload_n 3, 1) := by decide +kernel
theorem dX12_tell_120 : decode cX12_tell 120 = .ok (.invokevirtual 205, 3) := by decide +kernel
theorem dX12_tell_123 : decode cX12_tell 123 = .ok (.return_, 1) := by decide +kernel
theorem dX12_tellLeaf_0 : decode cX12_tellLeaf 0 = .ok (.iconst 0, 1) := by decide +kernel
theorem dX12_tellLeaf_1 : decode cX12_tellLeaf 1 = .ok (.istore_n 2, 1) := by decide +kernel
theorem dX12_tellLeaf_2 : decode cX12_tellLeaf 2 = .ok (.iload_n 2, 1) := by decide +kernel
theorem dX12_tellLeaf_3 : decode cX12_tellLeaf 3 = .ok (.aload_n 1, 1) := by decide +kernel
theorem dX12_tellLeaf_4 : decode cX12_tellLeaf 4 = .ok (.getfield 190, 3) := by decide +kernel
theorem dX12_tellLeaf_7 : decode cX12_tellLeaf 7 = .ok (.getfield 217, 3) := by decide +kernel
theorem dX12_tellLeaf_10 : decode cX12_tellLeaf 10 = .ok (.if_icmp .ge 42, 3) := by decide +kernel
theorem dX12_tellLeaf_13 : decode cX12_tellLeaf 13 = .ok (.aload_n 1, 1) := by decide +kernel
theorem dX12_tellLeaf_14 : decode cX12_tellLeaf 14 = .ok (.iload_n 2, 1) := by decide +kernel
theorem dX12_tellLeaf_15 : decode cX12_tellLeaf 15 = .ok (.invokevirtual 218, 3) := by decide +kernel
theorem dX12_tellLeaf_18 : decode cX12_tellLeaf 18 = .ok (.aload_n 0, 1) := by decide +kernel
theorem dX12_tellLeaf_19 : decode cX12_tellLeaf 19 = .ok (.iload_n 2, 1) := by decide +kernel
theorem dX12_tellLeaf_20 : decode cX12_tellLeaf 20 = .ok (.ifCond .ne 8, 3) := by decide +kernel
theorem dX12_tellLeaf_23 : decode cX12_tellLeaf 23 = .ok (.ldc 221, 2) := by decide +kernel
theorem dX12_tellLeaf_25 : decode cX12_tellLeaf 25 = .ok (.goto 5, 3) := by decide +kernel
theorem dX12_tellLeaf_28 : decode cX12_tellLeaf 28 = .ok (.ldc 223, 2) := by decide +kernel
theorem dX12_tellLeaf_30 : decode cX12_tellLeaf 30 = .ok (.invokevirtual 211, 3) := by decide +kernel
theorem dX12_tellLeaf_33 : decode cX12_tellLeaf 33 = .ok (.aload_n 0, 1) := by decide +kernel
theorem dX12_tellLeaf_34 : decode cX12_tellLeaf 34 = .ok (.aload_n 1, 1) := by decide +kernel
theorem dX12_tellLeaf_35 : decode cX12_tellLeaf 35 = .ok (.getfield 225, 3) := by decide +kernel
theorem dX12_tellLeaf_38 : decode cX12_tellLeaf 38 = .ok (.invokevirtual 228, 3) := by decide +kernel
theorem dX12_tellLeaf_41 : decode cX12_tellLeaf 41 = .ok (.aload_n 0, 1) := by decide +kernel
theorem dX12_tellLeaf_42 : decode cX12_tellLeaf 42 = .ok (.aload_n 1, 1) := by decide +kernel
theorem dX12_tellLeaf_43 : decode cX12_tellLeaf 43 = .ok (.invokevirtual 231, 3) := by decide +kernel
theorem dX12_tellLeaf_46 : decode cX12_tellLeaf 46 = .ok (.iinc 2 1, 3) := by decide +kernel
theorem dX12_tellLeaf_49 : decode cX12_tellLeaf 49 = .ok (.goto (-47), 3) := by decide +kernel
theorem dX12_tellLeaf_52 : decode cX12_tellLeaf 52 = .ok (.aload_n 1, 1) := by decide +kernel
theorem dX12_tellLeaf_53 : decode cX12_tellLeaf 53 = .ok (.getfield 190, 3) := by decide +kernel
theorem dX12_tellLeaf_56 : decode cX12_tellLeaf 56 = .ok (.getfield 217, 3) := by decide +kernel
theorem dX12_tellLeaf_59 : decode cX12_tellLeaf 59 = .ok (.ifCond .le 9, 3) := by decide +kernel
theorem dX12_tellLeaf_62 : decode cX12_tellLeaf 62 = .ok (.aload_n 0, 1) := by decide +kernel
theorem dX12_tellLeaf_63 : decode cX12_tellLeaf 63 = .ok (.bipush 125, 2) := by decide +kernel
theorem dX12_tellLeaf_65 : decode cX12_tellLeaf 65 = .ok (.invokevirtual 201, 3) := by decide +kernel
theorem dX12_tellLeaf_68 : decode cX12_tellLeaf 68 = .ok (.aload_n 0, 1) := by decide +kernel
theorem dX12_tellLeaf_69 : decode cX12_tellLeaf 69 = .ok (.aload_n 1, 1) := by decide +kernel
theorem dX12_tellLeaf_70 : decode cX12_tellLeaf 70 = .ok (.getfield 181, 3) := by decide +kernel
theorem dX12_tellLeaf_73 : decode cX12_tellLeaf 73 = .ok (.sipush 202, 3) := by decide +kernel
theorem dX12_tellLeaf_76 : decode cX12_tellLeaf 76 = .ok (.if_icmp .ne 8, 3) := by decide +kernel
theorem dX12_tellLeaf_79 : decode cX12_tellLeaf 79 = .ok (.ldc 234, 2) := by decide +kernel
theorem dX12_tellLeaf_81 : decode cX12_tellLeaf 81 = .ok (.goto 35, 3) := by decide +kernel
theorem dX12_tellLeaf_84 : decode cX12_tellLeaf 84 = .ok (.aload_n 1, 1) := by decide +kernel
theorem dX12_tellLeaf_85 : decode cX12_tellLeaf 85 = .ok (.getfield 181, 3) := by decide +kernel
theorem dX12_tellLeaf_88 : decode cX12_tellLeaf 88 = .ok (.sipush 200, 3) := by decide +kernel
theorem dX12_tellLeaf_91 : decode cX12_tellLeaf 91 = .ok (.if_icmp .ne 8, 3) := by decide +kernel
theorem dX12_tellLeaf_94 : decode cX12_tellLeaf 94 = .ok (.ldc 236, 2) := by decide +kernel
theorem dX12_tellLeaf_96 : decode cX12_tellLeaf 96 = .ok (.goto 20, 3) := by decide +kernel
theorem dX12_tellLeaf_99 : decode cX12_tellLeaf 99 = .ok (.aload_n 1, 1) := by decide +kernel
theorem dX12_tellLeaf_100 : decode cX12_tellLeaf 100 = .ok (.getfield 181, 3) := by decide +kernel
theorem dX12_tellLeaf_103 : decode cX12_tellLeaf 103 = .ok (.sipush 213, 3) := by decide +kernel
theorem dX12_tellLeaf_106 : decode cX12_tellLeaf 106 = .ok (.if_icmp .ne 8, 3) := by decide +kernel
theorem dX12_tellLeaf_109 : decode cX12_tellLeaf 109 = .ok (.ldc 238, 2) := by decide +kernel
theorem dX12_tellLeaf_111 : decode cX12_tellLeaf 111 = .ok (.goto 5, 3) := by decide +kernel
theorem dX12_tellLeaf_114 : decode cX12_tellLeaf 114 = .ok (.ldc 240, 2) := by decide +kernel
theorem dX12_tellLeaf_116 : decode cX12_tellLeaf 116 = .ok (.invokevirtual 211, 3) := by decide +kernel
theorem dX12_tellLeaf_119 : decode cX12_tellLeaf 119 = .ok (.return_, 1) := by decide +kernel
theorem dX12_tellRelation_0 : decode cX12_tellRelation 0 = .ok (.iload_n 1, 1) := by decide +kernel
theorem dX12_tellRelation_1 : decode cX12_tellRelation 1 = .ok (.sipush 300, 3) := by decide +kernel
theorem dX12_tellRelation_4 : decode cX12_tellRelation 4 = .ok (.if_icmp .eq 10, 3) := by decide +kernel
theorem dX12_tellRelation_7 : decode cX12_tellRelation 7 = .ok (.iload_n 1, 1) := by decide +kernel
theorem dX12_tellRelation_8 : decode cX12_tellRelation 8 = .ok (.sipush 301, 3) := by decide +kernel
theorem dX12_tellRelation_11 : decode cX12_tellRelation 11 = .ok (.if_icmp .ne 24, 3) := by decide +kernel
theorem dX12_tellRelation_14 : decode cX12_tellRelation 14 = .ok (.aload_n 0, 1) := by decide +kernel
theorem dX12_tellRelation_15 : decode cX12_tellRelation 15 = .ok (.iload_n 1, 1) := by decide +kernel
theorem dX12_tellRelation_16 : decode cX12_tellRelation 16 = .ok (.sipush 300, 3) := by decide +kernel
theorem dX12_tellRelation_19 : decode cX12_tellRelation 19 = .ok (.if_icmp .ne 8, 3) := by decide +kernel
theorem dX12_tellRelation_22 : decode cX12_tellRelation 22 = .ok (.ldc 242, 2) := by decide +kernel
theorem dX12_tellRelation_24 : decode cX12_tellRelation 24 = .ok (.goto 5, 3) := by decide +kernel
theorem dX12_tellRelation_27 : decode cX12_tellRelation 27 = .ok (.ldc 244, 2) := by decide +kernel
theorem dX12_tellRelation_29 : decode cX12_tellRelation 29 = .ok (.invokevirtual 211, 3) := by decide +kernel
theorem dX12_tellRelation_32 : decode cX12_tellRelation 32 = .ok (.goto 9, 3) := by decide +kernel
theorem dX12_tellRelation_35 : decode cX12_tellRelation 35 = .ok (.aload_n 0, 1) := by decide +kernel
theorem dX12_tellRelation_36 : decode cX12_tellRelation 36 = .ok (.iload_n 1, 1) := by decide +kernel
theorem dX12_tellRelation_37 : decode cX12_tellRelation 37 = .ok (.i2c, 1) := by decide +kernel
theorem dX12_tellRelation_38 : decode cX12_tellRelation 38 = .ok (.invokevirtual 201, 3) := by decide +kernel
theorem dX12_tellRelation_41 : decode cX12_tellRelation 41 = .ok (.return_, 1) := by decide +kernel
theorem dX12_tellTerm_0 : decode cX12_tellTerm 0 = .ok (.aload_n 1, 1) := by decide +kernel
theorem dX12_tellTerm_1 : decode cX12_tellTerm 1 = .ok (.getfield 246, 3) := by decide +kernel
theorem dX12_tellTerm_4 : decode cX12_tellTerm 4 = .ok (.ifnonnull 12, 3) := by decide +kernel
theorem dX12_tellTerm_7 : decode cX12_tellTerm 7 = .ok (.aload_n 0, 1) := by decide +kernel
theorem dX12_tellTerm_8 : decode cX12_tellTerm 8 = .ok (.aload_n 1, 1) := by decide +kernel
theorem dX12_tellTerm_9 : decode cX12_tellTerm 9 = .ok (.getfield 249, 3) := by decide +kernel
theorem dX12_tellTerm_12 : decode cX12_tellTerm 12 = .ok (.invokevirtual 253, 3) := by decide +kernel
theorem dX12_tellTerm_15 : decode cX12_tellTerm 15 = .ok (.return_, 1) := by decide +kernel
theorem dX12_tellTerm_16 : decode cX12_tellTerm 16 = .ok (.aload_n 1, 1) := by decide +kernel
theorem dX12_tellTerm_17 : decode cX12_tellTerm 17 = .ok (.getfield 257, 3) := by decide +kernel
theorem dX12_tellTerm_20 : decode cX12_tellTerm 20 = .ok (.ifCond .ge 9, 3) := by decide +kernel
theorem dX12_tellTerm_23 : decode cX12_tellTerm 23 = .ok (.aload_n 0, 1) := by decide +kernel
theorem dX12_tellTerm_24 : decode cX12_tellTerm 24 = .ok (.bipush 45, 2) := by decide +kernel
theorem dX12_tellTerm_26 : decode cX12_tellTerm 26 = .ok (.invokevirtual 201, 3) := by decide +kernel
theorem dX12_tellTerm_29 : decode cX12_tellTerm 29 = .ok (.aload_n 0, 1) := by decide +kernel
theorem dX12_tellTerm_30 : decode cX12_tellTerm 30 = .ok (.aload_n 1, 1) := by decide +kernel
theorem dX12_tellTerm_31 : decode cX12_tellTerm 31 = .ok (.getfield 246, 3) := by decide +kernel
theorem dX12_tellTerm_34 : decode cX12_tellTerm 34 = .ok (.getfield 260, 3) := by decide +kernel
theorem dX12_tellTerm_37 : decode cX12_tellTerm 37 = .ok (.sipush 200, 3) := by decide +kernel
theorem dX12_tellTerm_40 : decode cX12_tellTerm 40 = .ok (.if_icmp .ne 9, 3) := by decide +kernel
theorem dX12_tellTerm_43 : decode cX12_tellTerm 43 = .ok (.ldc_w 263, 3) := by decide +kernel
theorem dX12_tellTerm_46 : decode cX12_tellTerm 46 = .ok (.goto 25, 3) := by decide +kernel
theorem dX12_tellTerm_49 : decode cX12_tellTerm 49 = .ok (.aload_n 1, 1) := by decide +kernel
theorem dX12_tellTerm_50 : decode cX12_tellTerm 50 = .ok (.getfield 246, 3) := by decide +kernel
theorem dX12_tellTerm_53 : decode cX12_tellTerm 53 = .ok (.getfield 260, 3) := by decide +kernel
theorem dX12_tellTerm_56 : decode cX12_tellTerm 56 = .ok (.sipush 213, 3) := by decide +kernel
theorem dX12_tellTerm_59 : decode cX12_tellTerm 59 = .ok (.if_icmp .ne 9, 3) := by decide +kernel
theorem dX12_tellTerm_62 : decode cX12_tellTerm 62 = .ok (.ldc_w 265, 3) := by decide +kernel
theorem dX12_tellTerm_65 : decode cX12_tellTerm 65 = .ok (.goto 6, 3) := by decide +kernel
theorem dX12_tellTerm_68 : decode cX12_tellTerm 68 = .ok (.ldc_w 267, 3) := by decide +kernel
theorem dX12_tellTerm_71 : decode cX12_tellTerm 71 = .ok (.invokevirtual 211, 3) := by decide +kernel
theorem dX12_tellTerm_74 : decode cX12_tellTerm 74 = .ok (.aload_n 0, 1) := by decide +kernel
theorem dX12_tellTerm_75 : decode cX12_tellTerm 75 = .ok (.aload_n 1, 1) := by decide +kernel
theorem dX12_tellTerm_76 : decode cX12_tellTerm 76 = .ok (.getfield 246, 3) := by decide +kernel
theorem dX12_tellTerm_79 : decode cX12_tellTerm 79 = .ok (.invokevirtual 197, 3) := by decide +kernel
theorem dX12_tellTerm_82 : decode cX12_tellTerm 82 = .ok (.aload_n 1, 1) := by decide +kernel
theorem dX12_tellTerm_83 : decode cX12_tellTerm 83 = .ok (.getfield 249, 3) := by decide +kernel
theorem dX12_tellTerm_86 : decode cX12_tellTerm 86 = .ok (.lconst 0, 1) := by decide +kernel
theorem dX12_tellTerm_87 : decode cX12_tellTerm 87 = .ok (.lcmp, 1) := by decide +kernel
theorem dX12_tellTerm_88 : decode cX12_tellTerm 88 = .ok (.ifCond .le 9, 3) := by decide +kernel
theorem dX12_tellTerm_91 : decode cX12_tellTerm 91 = .ok (.aload_n 0, 1) := by decide +kernel
theorem dX12_tellTerm_92 : decode cX12_tellTerm 92 = .ok (.bipush 43, 2) := by decide +kernel
theorem dX12_tellTerm_94 : decode cX12_tellTerm 94 = .ok (.invokevirtual 201, 3) := by decide +kernel
theorem dX12_tellTerm_97 : decode cX12_tellTerm 97 = .ok (.aload_n 1, 1) := by decide +kernel
theorem dX12_tellTerm_98 : decode cX12_tellTerm 98 = .ok (.getfield 249, 3) := by decide +kernel
theorem dX12_tellTerm_101 : decode cX12_tellTerm 101 = .ok (.lconst 0, 1) := by decide +kernel
theorem dX12_tellTerm_102 : decode cX12_tellTerm 102 = .ok (.lcmp, 1) := by decide +kernel
theorem dX12_tellTerm_103 : decode cX12_tellTerm 103 = .ok (.ifCond .eq 11, 3) := by decide +kernel
theorem dX12_tellTerm_106 : decode cX12_tellTerm 106 = .ok (.aload_n 0, 1) := by decide +kernel
theorem dX12_tellTerm_107 : decode cX12_tellTerm 107 = .ok (.aload_n 1, 1) := by decide +kernel
theorem dX12_tellTerm_108 : decode cX12_tellTerm 108 = .ok (.getfield 249, 3) := by decide +kernel
theorem dX12_tellTerm_111 : decode cX12_tellTerm 111 = .ok (.invokevirtual 253, 3) := by decide +kernel
theorem dX12_tellTerm_114 : decode cX12_tellTerm 114 = .ok (.return_, 1) := by decide +kernel
theorem dX12_tellName_0 : decode cX12_tellName 0 = .ok (.aload_n 1, 1) := by decide +kernel
theorem dX12_tellName_1 : decode cX12_tellName 1 = .ok (.getfield 269, 3) := by decide +kernel
theorem dX12_tellName_4 : decode cX12_tellName 4 = .ok (.ifnull 12, 3) := by decide +kernel
theorem dX12_tellName_7 : decode cX12_tellName 7 = .ok (.aload_n 0, 1) := by decide +kernel
theorem dX12_tellName_8 : decode cX12_tellName 8 = .ok (.aload_n 1, 1) := by decide +kernel
theorem dX12_tellName_9 : decode cX12_tellName 9 = .ok (.getfield 269, 3) := by decide +kernel
theorem dX12_tellName_12 : decode cX12_tellName 12 = .ok (.invokevirtual 211, 3) := by decide +kernel
theorem dX12_tellName_15 : decode cX12_tellName 15 = .ok (.return_, 1) := by decide +kernel
theorem dX12_tellName_16 : decode cX12_tellName 16 = .ok (.iconst 0, 1) := by decide +kernel
theorem dX12_tellName_17 : decode cX12_tellName 17 = .ok (.istore_n 2, 1) := by decide +kernel
theorem dX12_tellName_18 : decode cX12_tellName 18 = .ok (.iload_n 2, 1) := by decide +kernel
theorem dX12_tellName_19 : decode cX12_tellName 19 = .ok (.aload_n 0, 1) := by decide +kernel
theorem dX12_tellName_20 : decode cX12_tellName 20 = .ok (.getfield 26, 3) := by decide +kernel
theorem dX12_tellName_23 : decode cX12_tellName 23 = .ok (.invokevirtual 154, 3) := by decide +kernel
theorem dX12_tellName_26 : decode cX12_tellName 26 = .ok (.if_icmp .ge 21, 3) := by decide +kernel
theorem dX12_tellName_29 : decode cX12_tellName 29 = .ok (.aload_n 0, 1) := by decide +kernel
theorem dX12_tellName_30 : decode cX12_tellName 30 = .ok (.getfield 26, 3) := by decide +kernel
theorem dX12_tellName_33 : decode cX12_tellName 33 = .ok (.iload_n 2, 1) := by decide +kernel
theorem dX12_tellName_34 : decode cX12_tellName 34 = .ok (.invokevirtual 164, 3) := by decide +kernel
theorem dX12_tellName_37 : decode cX12_tellName 37 = .ok (.aload_n 1, 1) := by decide +kernel
theorem dX12_tellName_38 : decode cX12_tellName 38 = .ok (.if_acmp .eq 9, 3) := by decide +kernel
theorem dX12_tellName_41 : decode cX12_tellName 41 = .ok (.iinc 2 1, 3) := by decide +kernel
theorem dX12_tellName_44 : decode cX12_tellName 44 = .ok (.goto (-26), 3) := by decide +kernel
theorem dX12_tellName_47 : decode cX12_tellName 47 = .ok (.iload_n 2, 1) := by decide +kernel
theorem dX12_tellName_48 : decode cX12_tellName 48 = .ok (.aload_n 0, 1) := by decide +kernel
theorem dX12_tellName_49 : decode cX12_tellName 49 = .ok (.getfield 26, 3) := by decide +kernel
theorem dX12_tellName_52 : decode cX12_tellName 52 = .ok (.invokevirtual 154, 3) := by decide +kernel
theorem dX12_tellName_55 : decode cX12_tellName 55 = .ok (.if_icmp .ne 12, 3) := by decide +kernel
theorem dX12_tellName_58 : decode cX12_tellName 58 = .ok (.aload_n 0, 1) := by decide +kernel
theorem dX12_tellName_59 : decode cX12_tellName 59 = .ok (.getfield 26, 3) := by decide +kernel
theorem dX12_tellName_62 : decode cX12_tellName 62 = .ok (.aload_n 1, 1) := by decide +kernel
theorem dX12_tellName_63 : decode cX12_tellName 63 = .ok (.invokevirtual 273, 3) := by decide +kernel
theorem dX12_tellName_66 : decode cX12_tellName 66 = .ok (.pop, 1) := by decide +kernel
theorem dX12_tellName_67 : decode cX12_tellName 67 = .ok (.aload_n 0, 1) := by decide +kernel
theorem dX12_tellName_68 : decode cX12_tellName 68 = .ok (.bipush 36, 2) := by decide +kernel
theorem dX12_tellName_70 : decode cX12_tellName 70 = .ok (.invokevirtual 201, 3) := by decide +kernel
theorem dX12_tellName_73 : decode cX12_tellName 73 = .ok (.aload_n 0, 1) := by decide +kernel
theorem dX12_tellName_74 : decode cX12_tellName 74 = .ok (.iload_n 2, 1) := by decide +kernel
theorem dX12_tellName_75 : decode cX12_tellName 75 = .ok (.i2l, 1) := by decide +kernel
theorem dX12_tellName_76 : decode cX12_tellName 76 = .ok (.invokevirtual 253, 3) := by decide +kernel
theorem dX12_tellName_79 : decode cX12_tellName 79 = .ok (.return_, 1) := by decide +kernel
theorem dX12_give_7 : decode cX12_give 7 = .ok (.iload_n 1, 1) := by decide +kernel
theorem dX12_give_8 : decode cX12_give 8 = .ok (.ifCond .lt 47, 3) := by decide +kernel
theorem dX12_give_11 : decode cX12_give 11 = .ok (.iload_n 1, 1) := by decide +kernel
theorem dX12_give_12 : decode cX12_give 12 = .ok (.aload_n 0, 1) := by decide +kernel
theorem dX12_give_13 : decode cX12_give 13 = .ok (.getfield 51, 3) := by decide +kernel
theorem dX12_give_16 : decode cX12_give 16 = .ok (.getfield 303, 3) := by decide +kernel
theorem dX12_give_19 : decode cX12_give 19 = .ok (.if_icmp .ge 36, 3) := by decide +kernel
theorem dX12_give_22 : decode cX12_give 22 = .ok (.aload_n 0, 1) := by decide +kernel
theorem dX12_give_23 : decode cX12_give 23 = .ok (.getfield 40, 3) := by decide +kernel
theorem dX12_give_26 : decode cX12_give 26 = .ok (.iload_n 1, 1) := by decide +kernel
theorem dX12_give_27 : decode cX12_give 27 = .ok (.aload_n 0, 1) := by decide +kernel
theorem dX12_give_28 : decode cX12_give 28 = .ok (.getfield 51, 3) := by decide +kernel
theorem dX12_give_31 : decode cX12_give 31 = .ok (.getfield 151, 3) := by decide +kernel
theorem dX12_give_34 : decode cX12_give 34 = .ok (.iload_n 1, 1) := by decide +kernel
theorem dX12_give_35 : decode cX12_give 35 = .ok (.invokevirtual 164, 3) := by decide +kernel
theorem dX12_give_38 : decode cX12_give 38 = .ok (.checkcast 168, 3) := by decide +kernel
theorem dX12_give_41 : decode cX12_give 41 = .ok (.getfield 260, 3) := by decide +kernel
theorem dX12_give_44 : decode cX12_give 44 = .ok (.iload_n 2, 1) := by decide +kernel
theorem dX12_give_45 : decode cX12_give 45 = .ok (.invokevirtual 306, 3) := by decide +kernel
theorem dX12_give_48 : decode cX12_give 48 = .ok (.ifCond .eq 7, 3) := by decide +kernel
theorem dX12_give_51 : decode cX12_give 51 = .ok (.iconst 1, 1) := by decide +kernel
theorem dX12_give_52 : decode cX12_give 52 = .ok (.goto 4, 3) := by decide +kernel
theorem dX12_element_7 : decode cX12_element 7 = .ok (.iload_n 1, 1) := by decide +kernel
theorem dX12_element_8 : decode cX12_element 8 = .ok (.ifCond .lt 54, 3) := by decide +kernel
theorem dX12_element_11 : decode cX12_element 11 = .ok (.iload_n 1, 1) := by decide +kernel
theorem dX12_element_12 : decode cX12_element 12 = .ok (.aload_n 0, 1) := by decide +kernel
theorem dX12_element_13 : decode cX12_element 13 = .ok (.getfield 51, 3) := by decide +kernel
theorem dX12_element_16 : decode cX12_element 16 = .ok (.getfield 303, 3) := by decide +kernel
theorem dX12_element_19 : decode cX12_element 19 = .ok (.if_icmp .ge 43, 3) := by decide +kernel
theorem dX12_element_22 : decode cX12_element 22 = .ok (.aload_n 0, 1) := by decide +kernel
theorem dX12_element_23 : decode cX12_element 23 = .ok (.getfield 51, 3) := by decide +kernel
theorem dX12_element_26 : decode cX12_element 26 = .ok (.getfield 151, 3) := by decide +kernel
theorem dX12_element_29 : decode cX12_element 29 = .ok (.iload_n 1, 1) := by decide +kernel
theorem dX12_element_30 : decode cX12_element 30 = .ok (.invokevirtual 164, 3) := by decide +kernel
theorem dX12_element_33 : decode cX12_element 33 = .ok (.checkcast 168, 3) := by decide +kernel
theorem dX12_element_36 : decode cX12_element 36 = .ok (.getfield 260, 3) := by decide +kernel
theorem dX12_element_39 : decode cX12_element 39 = .ok (.sipush 200, 3) := by decide +kernel
theorem dX12_element_42 : decode cX12_element 42 = .ok (.if_icmp .ne 20, 3) := by decide +kernel
theorem dX12_element_45 : decode cX12_element 45 = .ok (.aload_n 0, 1) := by decide +kernel
theorem dX12_element_46 : decode cX12_element 46 = .ok (.getfield 40, 3) := by decide +kernel
theorem dX12_element_49 : decode cX12_element 49 = .ok (.iload_n 1, 1) := by decide +kernel
theorem dX12_element_50 : decode cX12_element 50 = .ok (.iload_n 2, 1) := by decide +kernel
theorem dX12_element_51 : decode cX12_element 51 = .ok (.iload_n 3, 1) := by decide +kernel
theorem dX12_element_52 : decode cX12_element 52 = .ok (.invokevirtual 310, 3) := by decide +kernel
theorem dX12_element_55 : decode cX12_element 55 = .ok (.ifCond .eq 7, 3) := by decide +kernel
theorem dX12_element_58 : decode cX12_element 58 = .ok (.iconst 1, 1) := by decide +kernel
theorem dX12_element_59 : decode cX12_element 59 = .ok (.goto 4, 3) := by decide +kernel
theorem dX12_run_7 : decode cX12_run 7 = .ok (.iload_n 1, 1) := by decide +kernel
theorem dX12_run_8 : decode cX12_run 8 = .ok (.ifCond .lt 10, 3) := by decide +kernel
theorem dX12_run_11 : decode cX12_run 11 = .ok (.iload_n 1, 1) := by decide +kernel
theorem dX12_run_12 : decode cX12_run 12 = .ok (.sipush 20000, 3) := by decide +kernel
theorem dX12_run_15 : decode cX12_run 15 = .ok (.if_icmp .le 5, 3) := by decide +kernel
theorem dX12_run_20 : decode cX12_run 20 = .ok (.aload_n 0, 1) := by decide +kernel
theorem dX12_run_21 : decode cX12_run 21 = .ok (.getfield 40, 3) := by decide +kernel
theorem dX12_run_24 : decode cX12_run 24 = .ok (.iload_n 1, 1) := by decide +kernel
theorem dX12_run_25 : decode cX12_run 25 = .ok (.invokevirtual 313, 3) := by decide +kernel
theorem dX12_run_28 : decode cX12_run 28 = .ok (.ireturn, 1) := by decide +kernel
theorem dJ0_charAt_5068e_16 : decode cJ0_charAt_5068e 16 = .ok (.aload_n 0, 1) := by decide +kernel
theorem dJ0_charAt_5068e_17 : decode cJ0_charAt_5068e 17 = .ok (.getfield 9, 3) := by decide +kernel
theorem dJ0_charAt_5068e_20 : decode cJ0_charAt_5068e 20 = .ok (.iload_n 1, 1) := by decide +kernel
theorem dJ0_substring_37a41_0 : decode cJ0_substring_37a41 0 = .ok (.aload_n 0, 1) := by decide +kernel
theorem dJ0_substring_37a41_1 : decode cJ0_substring_37a41 1 = .ok (.invokevirtual 505, 3) := by decide +kernel
theorem dJ0_substring_37a41_4 : decode cJ0_substring_37a41 4 = .ok (.istore_n 3, 1) := by decide +kernel
theorem dJ0_substring_37a41_5 : decode cJ0_substring_37a41 5 = .ok (.iload_n 1, 1) := by decide +kernel
theorem dJ0_substring_37a41_6 : decode cJ0_substring_37a41 6 = .ok (.iload_n 2, 1) := by decide +kernel
theorem dJ0_substring_37a41_7 : decode cJ0_substring_37a41 7 = .ok (.iload_n 3, 1) := by decide +kernel
theorem dJ0_substring_37a41_8 : decode cJ0_substring_37a41 8 = .ok (.invokestatic 521, 3) := by decide +kernel
theorem dJ0_substring_37a41_11 : decode cJ0_substring_37a41 11 = .ok (.iload_n 1, 1) := by decide +kernel
theorem dJ0_substring_37a41_12 : decode cJ0_substring_37a41 12 = .ok (.ifCond .ne 10, 3) := by decide +kernel
theorem dJ0_substring_37a41_15 : decode cJ0_substring_37a41 15 = .ok (.iload_n 2, 1) := by decide +kernel
theorem dJ0_substring_37a41_16 : decode cJ0_substring_37a41 16 = .ok (.iload_n 3, 1) := by decide +kernel
theorem dJ0_substring_37a41_17 : decode cJ0_substring_37a41 17 = .ok (.if_icmp .ne 5, 3) := by decide +kernel
theorem dJ0_substring_37a41_20 : decode cJ0_substring_37a41 20 = .ok (.aload_n 0, 1) := by decide +kernel
theorem dJ0_substring_37a41_21 : decode cJ0_substring_37a41 21 = .ok (.areturn, 1) := by decide +kernel
theorem dJ0_substring_37a41_22 : decode cJ0_substring_37a41 22 = .ok (.iload_n 2, 1) := by decide +kernel
theorem dJ0_substring_37a41_23 : decode cJ0_substring_37a41 23 = .ok (.iload_n 1, 1) := by decide +kernel
theorem dJ0_substring_37a41_24 : decode cJ0_substring_37a41 24 = .ok (.isub, 1) := by decide +kernel
theorem dJ0_substring_37a41_25 : decode cJ0_substring_37a41 25 = .ok (.istore 4, 2) := by decide +kernel
theorem dJ0_substring_37a41_27 : decode cJ0_substring_37a41 27 = .ok (.aload_n 0, 1) := by decide +kernel
theorem dJ0_substring_37a41_28 : decode cJ0_substring_37a41 28 = .ok (.invokevirtual 492, 3) := by decide +kernel
theorem dJ0_substring_37a41_31 : decode cJ0_substring_37a41 31 = .ok (.ifCond .eq 16, 3) := by decide +kernel
theorem dJ0_substring_37a41_34 : decode cJ0_substring_37a41 34 = .ok (.aload_n 0, 1) := by decide +kernel
theorem dJ0_substring_37a41_35 : decode cJ0_substring_37a41 35 = .ok (.getfield 9, 3) := by decide +kernel
theorem dJ0_substring_37a41_38 : decode cJ0_substring_37a41 38 = .ok (.iload_n 1, 1) := by decide +kernel
theorem dJ0_substring_37a41_39 : decode cJ0_substring_37a41 39 = .ok (.iload 4, 2) := by decide +kernel
theorem dJ0_substring_37a41_41 : decode cJ0_substring_37a41 41 = .ok (.invokestatic 685, 3) := by decide +kernel
theorem dJ0_substring_37a41_44 : decode cJ0_substring_37a41 44 = .ok (.goto 13, 3) := by decide +kernel
theorem dJ0_substring_37a41_47 : decode cJ0_substring_37a41 47 = .ok (.aload_n 0, 1) := by decide +kernel
theorem dJ0_substring_37a41_48 : decode cJ0_substring_37a41 48 = .ok (.getfield 9, 3) := by decide +kernel
theorem dJ0_substring_37a41_51 : decode cJ0_substring_37a41 51 = .ok (.iload_n 1, 1) := by decide +kernel
theorem dJ0_substring_37a41_52 : decode cJ0_substring_37a41 52 = .ok (.iload 4, 2) := by decide +kernel
theorem dJ0_substring_37a41_57 : decode cJ0_substring_37a41 57 = .ok (.areturn, 1) := by decide +kernel
theorem dJ0_init_bb550_27 : decode cJ0_init_bb550 27 = .ok (.getstatic 38, 3) := by decide +kernel
theorem dJ0_init_bb550_30 : decode cJ0_init_bb550 30 = .ok (.ifCond .eq 28, 3) := by decide +kernel
theorem dJ0_init_bb550_33 : decode cJ0_init_bb550 33 = .ok (.aload_n 1, 1) := by decide +kernel
theorem dJ0_init_bb550_34 : decode cJ0_init_bb550 34 = .ok (.iload_n 2, 1) := by decide +kernel
theorem dJ0_init_bb550_35 : decode cJ0_init_bb550 35 = .ok (.iload_n 3, 1) := by decide +kernel
theorem dJ0_init_bb550_36 : decode cJ0_init_bb550 36 = .ok (.invokestatic 177, 3) := by decide +kernel
theorem dJ0_init_bb550_39 : decode cJ0_init_bb550 39 = .ok (.astore 5, 2) := by decide +kernel
theorem dJ0_init_bb550_41 : decode cJ0_init_bb550 41 = .ok (.aload_n 0, 1) := by decide +kernel
theorem dJ0_init_bb550_42 : decode cJ0_init_bb550 42 = .ok (.aload 5, 2) := by decide +kernel
theorem dJ0_init_bb550_44 : decode cJ0_init_bb550 44 = .ok (.iload_n 3, 1) := by decide +kernel
theorem dJ0_init_bb550_45 : decode cJ0_init_bb550 45 = .ok (.invokestatic 47, 3) := by decide +kernel
theorem dJ0_init_bb550_48 : decode cJ0_init_bb550 48 = .ok (.putfield 15, 3) := by decide +kernel
theorem dJ0_init_bb550_51 : decode cJ0_init_bb550 51 = .ok (.aload_n 0, 1) := by decide +kernel
theorem dJ0_init_bb550_52 : decode cJ0_init_bb550 52 = .ok (.aload 5, 2) := by decide +kernel
theorem dJ0_init_bb550_54 : decode cJ0_init_bb550 54 = .ok (.putfield 9, 3) := by decide +kernel
theorem dJ0_init_bb550_57 : decode cJ0_init_bb550 57 = .ok (.return_, 1) := by decide +kernel
theorem dJ0_init_bb550_58 : decode cJ0_init_bb550 58 = .ok (.aload_n 0, 1) := by decide +kernel
theorem dJ0_init_bb550_59 : decode cJ0_init_bb550 59 = .ok (.iconst 1, 1) := by decide +kernel
theorem dJ0_init_bb550_60 : decode cJ0_init_bb550 60 = .ok (.putfield 15, 3) := by decide +kernel
theorem dJ0_init_bb550_63 : decode cJ0_init_bb550 63 = .ok (.aload_n 0, 1) := by decide +kernel
theorem dJ0_init_bb550_64 : decode cJ0_init_bb550 64 = .ok (.aload_n 1, 1) := by decide +kernel
theorem dJ0_init_bb550_65 : decode cJ0_init_bb550 65 = .ok (.iload_n 2, 1) := by decide +kernel
theorem dJ0_init_bb550_66 : decode cJ0_init_bb550 66 = .ok (.iload_n 3, 1) := by decide +kernel
theorem dJ0_coder_7d493_13 : decode cJ0_coder_7d493 13 = .ok (.iconst 1, 1) := by decide +kernel
theorem dJ0_isLatin1_aae02_17 : decode cJ0_isLatin1_aae02 17 = .ok (.iconst 0, 1) := by decide +kernel
theorem dJ0_checkBoundsBeginEnd_23922_0 : decode cJ0_checkBoundsBeginEnd_23922 0 = .ok (.iload_n 0, 1) := by decide +kernel
theorem dJ0_checkBoundsBeginEnd_23922_1 : decode cJ0_checkBoundsBeginEnd_23922 1 = .ok (.iload_n 1, 1) := by decide +kernel
theorem dJ0_checkBoundsBeginEnd_23922_2 : decode cJ0_checkBoundsBeginEnd_23922 2 = .ok (.iload_n 2, 1) := by decide +kernel
theorem dJ0_checkBoundsBeginEnd_23922_3 : decode cJ0_checkBoundsBeginEnd_23922 3 = .ok (.getstatic 1053, 3) := by decide +kernel
theorem dJ0_checkBoundsBeginEnd_23922_6 : decode cJ0_checkBoundsBeginEnd_23922 6 = .ok (.invokestatic 1062, 3) := by decide +kernel
theorem dJ0_checkBoundsBeginEnd_23922_9 : decode cJ0_checkBoundsBeginEnd_23922 9 = .ok (.pop, 1) := by decide +kernel
theorem dJ0_checkBoundsBeginEnd_23922_10 : decode cJ0_checkBoundsBeginEnd_23922 10 = .ok (.return_, 1) := by decide +kernel
theorem dJ2_coderFromArrayLen_85cad_0 : decode cJ2_coderFromArrayLen_85cad 0 = .ok (.iload_n 1, 1) := by decide +kernel
theorem dJ2_coderFromArrayLen_85cad_1 : decode cJ2_coderFromArrayLen_85cad 1 = .ok (.aload_n 0, 1) := by decide +kernel
theorem dJ2_coderFromArrayLen_85cad_2 : decode cJ2_coderFromArrayLen_85cad 2 = .ok (.arraylength, 1) := by decide +kernel
theorem dJ2_coderFromArrayLen_85cad_3 : decode cJ2_coderFromArrayLen_85cad 3 = .ok (.isub, 1) := by decide +kernel
theorem dJ2_coderFromArrayLen_85cad_4 : decode cJ2_coderFromArrayLen_85cad 4 = .ok (.bipush 31, 2) := by decide +kernel
theorem dJ2_coderFromArrayLen_85cad_6 : decode cJ2_coderFromArrayLen_85cad 6 = .ok (.iushr, 1) := by decide +kernel
theorem dJ2_coderFromArrayLen_85cad_7 : decode cJ2_coderFromArrayLen_85cad 7 = .ok (.i2b, 1) := by decide +kernel
theorem dJ2_coderFromArrayLen_85cad_8 : decode cJ2_coderFromArrayLen_85cad 8 = .ok (.ireturn, 1) := by decide +kernel
theorem dJ2_compress_dfd3c_0 : decode cJ2_compress_dfd3c 0 = .ok (.iload_n 2, 1) := by decide +kernel
theorem dJ2_compress_dfd3c_1 : decode cJ2_compress_dfd3c 1 = .ok (.newarray .byte, 2) := by decide +kernel
theorem dJ2_compress_dfd3c_3 : decode cJ2_compress_dfd3c 3 = .ok (.astore_n 3, 1) := by decide +kernel
theorem dJ2_compress_dfd3c_4 : decode cJ2_compress_dfd3c 4 = .ok (.aload_n 0, 1) := by decide +kernel
theorem dJ2_compress_dfd3c_5 : decode cJ2_compress_dfd3c 5 = .ok (.iload_n 1, 1) := by decide +kernel
theorem dJ2_compress_dfd3c_6 : decode cJ2_compress_dfd3c 6 = .ok (.aload_n 3, 1) := by decide +kernel
theorem dJ2_compress_dfd3c_7 : decode cJ2_compress_dfd3c 7 = .ok (.iconst 0, 1) := by decide +kernel
theorem dJ2_compress_dfd3c_8 : decode cJ2_compress_dfd3c 8 = .ok (.iload_n 2, 1) := by decide +kernel
theorem dJ2_compress_dfd3c_9 : decode cJ2_compress_dfd3c 9 = .ok (.invokestatic 115, 3) := by decide +kernel
theorem dJ2_compress_dfd3c_12 : decode cJ2_compress_dfd3c 12 = .ok (.istore 4, 2) := by decide +kernel
theorem dJ2_compress_dfd3c_14 : decode cJ2_compress_dfd3c 14 = .ok (.iload 4, 2) := by decide +kernel
theorem dJ2_compress_dfd3c_16 : decode cJ2_compress_dfd3c 16 = .ok (.iload_n 2, 1) := by decide +kernel
theorem dJ2_compress_dfd3c_17 : decode cJ2_compress_dfd3c 17 = .ok (.if_icmp .eq 40, 3) := by decide +kernel
theorem dJ2_compress_dfd3c_20 : decode cJ2_compress_dfd3c 20 = .ok (.aload_n 0, 1) := by decide +kernel
theorem dJ2_compress_dfd3c_21 : decode cJ2_compress_dfd3c 21 = .ok (.iload_n 1, 1) := by decide +kernel
theorem dJ2_compress_dfd3c_22 : decode cJ2_compress_dfd3c 22 = .ok (.iload_n 2, 1) := by decide +kernel
theorem dJ2_compress_dfd3c_57 : decode cJ2_compress_dfd3c 57 = .ok (.aload_n 3, 1) := by decide +kernel
theorem dJ2_compress_dfd3c_58 : decode cJ2_compress_dfd3c 58 = .ok (.areturn, 1) := by decide +kernel
theorem dJ2_compress_fe38e_0 : decode cJ2_compress_fe38e 0 = .ok (.iconst 0, 1) := by decide +kernel
theorem dJ2_compress_fe38e_1 : decode cJ2_compress_fe38e 1 = .ok (.istore 5, 2) := by decide +kernel
theorem dJ2_compress_fe38e_3 : decode cJ2_compress_fe38e 3 = .ok (.iload 5, 2) := by decide +kernel
theorem dJ2_compress_fe38e_5 : decode cJ2_compress_fe38e 5 = .ok (.iload 4, 2) := by decide +kernel
theorem dJ2_compress_fe38e_7 : decode cJ2_compress_fe38e 7 = .ok (.if_icmp .ge 37, 3) := by decide +kernel
theorem dJ2_compress_fe38e_10 : decode cJ2_compress_fe38e 10 = .ok (.aload_n 0, 1) := by decide +kernel
theorem dJ2_compress_fe38e_11 : decode cJ2_compress_fe38e 11 = .ok (.iload_n 1, 1) := by decide +kernel
theorem dJ2_compress_fe38e_12 : decode cJ2_compress_fe38e 12 = .ok (.caload, 1) := by decide +kernel
theorem dJ2_compress_fe38e_13 : decode cJ2_compress_fe38e 13 = .ok (.istore 6, 2) := by decide +kernel
theorem dJ2_compress_fe38e_15 : decode cJ2_compress_fe38e 15 = .ok (.iload 6, 2) := by decide +kernel
theorem dJ2_compress_fe38e_17 : decode cJ2_compress_fe38e 17 = .ok (.sipush 255, 3) := by decide +kernel
theorem dJ2_compress_fe38e_20 : decode cJ2_compress_fe38e 20 = .ok (.if_icmp .le 6, 3) := by decide +kernel
theorem dJ2_compress_fe38e_23 : decode cJ2_compress_fe38e 23 = .ok (.iload 5, 2) := by decide +kernel
theorem dJ2_compress_fe38e_25 : decode cJ2_compress_fe38e 25 = .ok (.ireturn, 1) := by decide +kernel
theorem dJ2_compress_fe38e_26 : decode cJ2_compress_fe38e 26 = .ok (.aload_n 2, 1) := by decide +kernel
theorem dJ2_compress_fe38e_27 : decode cJ2_compress_fe38e 27 = .ok (.iload_n 3, 1) := by decide +kernel
theorem dJ2_compress_fe38e_28 : decode cJ2_compress_fe38e 28 = .ok (.iload 6, 2) := by decide +kernel
theorem dJ2_compress_fe38e_30 : decode cJ2_compress_fe38e 30 = .ok (.i2b, 1) := by decide +kernel
theorem dJ2_compress_fe38e_31 : decode cJ2_compress_fe38e 31 = .ok (.bastore, 1) := by decide +kernel
theorem dJ2_compress_fe38e_32 : decode cJ2_compress_fe38e 32 = .ok (.iinc 1 1, 3) := by decide +kernel
theorem dJ2_compress_fe38e_35 : decode cJ2_compress_fe38e 35 = .ok (.iinc 3 1, 3) := by decide +kernel
theorem dJ2_compress_fe38e_38 : decode cJ2_compress_fe38e 38 = .ok (.iinc 5 1, 3) := by decide +kernel
theorem dJ2_compress_fe38e_41 : decode cJ2_compress_fe38e 41 = .ok (.goto (-38), 3) := by decide +kernel
theorem dJ2_compress_fe38e_44 : decode cJ2_compress_fe38e 44 = .ok (.iload 4, 2) := by decide +kernel
theorem dJ2_compress_fe38e_46 : decode cJ2_compress_fe38e 46 = .ok (.ireturn, 1) := by decide +kernel
theorem dJ15_checkIndex_7cf53_0 : decode cJ15_checkIndex_7cf53 0 = .ok (.iload_n 0, 1) := by decide +kernel
theorem dJ15_checkIndex_7cf53_1 : decode cJ15_checkIndex_7cf53 1 = .ok (.iload_n 1, 1) := by decide +kernel
theorem dJ15_checkIndex_7cf53_2 : decode cJ15_checkIndex_7cf53 2 = .ok (.aconst_null, 1) := by decide +kernel
theorem dJ15_checkIndex_7cf53_3 : decode cJ15_checkIndex_7cf53 3 = .ok (.invokestatic 105, 3) := by decide +kernel
theorem dJ15_checkIndex_7cf53_6 : decode cJ15_checkIndex_7cf53 6 = .ok (.ireturn, 1) := by decide +kernel
theorem dJ3_checkIndex_8e157_9 : decode cJ3_checkIndex_8e157 9 = .ok (.aload_n 2, 1) := by decide +kernel
theorem dJ3_checkIndex_8e157_10 : decode cJ3_checkIndex_8e157 10 = .ok (.iload_n 0, 1) := by decide +kernel
theorem dJ3_checkIndex_8e157_11 : decode cJ3_checkIndex_8e157 11 = .ok (.iload_n 1, 1) := by decide +kernel
theorem dJ3_checkFromToIndex_8c36e_0 : decode cJ3_checkFromToIndex_8c36e 0 = .ok (.iload_n 0, 1) := by decide +kernel
theorem dJ3_checkFromToIndex_8c36e_1 : decode cJ3_checkFromToIndex_8c36e 1 = .ok (.ifCond .lt 13, 3) := by decide +kernel
theorem dJ3_checkFromToIndex_8c36e_4 : decode cJ3_checkFromToIndex_8c36e 4 = .ok (.iload_n 0, 1) := by decide +kernel
theorem dJ3_checkFromToIndex_8c36e_5 : decode cJ3_checkFromToIndex_8c36e 5 = .ok (.iload_n 1, 1) := by decide +kernel
theorem dJ3_checkFromToIndex_8c36e_6 : decode cJ3_checkFromToIndex_8c36e 6 = .ok (.if_icmp .gt 8, 3) := by decide +kernel
theorem dJ3_checkFromToIndex_8c36e_9 : decode cJ3_checkFromToIndex_8c36e 9 = .ok (.iload_n 1, 1) := by decide +kernel
theorem dJ3_checkFromToIndex_8c36e_10 : decode cJ3_checkFromToIndex_8c36e 10 = .ok (.iload_n 2, 1) := by decide +kernel
theorem dJ3_checkFromToIndex_8c36e_11 : decode cJ3_checkFromToIndex_8c36e 11 = .ok (.if_icmp .le 11, 3) := by decide +kernel
theorem dJ3_checkFromToIndex_8c36e_14 : decode cJ3_checkFromToIndex_8c36e 14 = .ok (.aload_n 3, 1) := by decide +kernel
theorem dJ3_checkFromToIndex_8c36e_15 : decode cJ3_checkFromToIndex_8c36e 15 = .ok (.iload_n 0, 1) := by decide +kernel
theorem dJ3_checkFromToIndex_8c36e_16 : decode cJ3_checkFromToIndex_8c36e 16 = .ok (.iload_n 1, 1) := by decide +kernel
theorem dJ3_checkFromToIndex_8c36e_17 : decode cJ3_checkFromToIndex_8c36e 17 = .ok (.iload_n 2, 1) := by decide +kernel
theorem dJ3_checkFromToIndex_8c36e_22 : decode cJ3_checkFromToIndex_8c36e 22 = .ok (.iload_n 0, 1) := by decide +kernel
theorem dJ3_checkFromToIndex_8c36e_23 : decode cJ3_checkFromToIndex_8c36e 23 = .ok (.ireturn, 1) := by decide +kernel
