theorem dX0_findDoubt_0 : decode cX0_findDoubt 0 = .ok (.iconst 0, 1) := by decide +kernel
theorem dX0_findDoubt_1 : decode cX0_findDoubt 1 = .ok (.istore_n 1, 1) := by decide +kernel
theorem dX0_findDoubt_2 : decode cX0_findDoubt 2 = .ok (.iload_n 1, 1) := by decide +kernel
theorem dX0_findDoubt_3 : decode cX0_findDoubt 3 = .ok (.aload_n 0, 1) := by decide +kernel
theorem dX0_findDoubt_4 : decode cX0_findDoubt 4 = .ok (.getfield 24, 3) := by decide +kernel
theorem dX0_findDoubt_7 : decode cX0_findDoubt 7 = .ok (.invokevirtual 86, 3) := by decide +kernel
theorem dX0_findDoubt_10 : decode cX0_findDoubt 10 = .ok (.if_icmp .ge 65, 3) := by decide +kernel
theorem dX0_findDoubt_13 : decode cX0_findDoubt 13 = .ok (.aload_n 0, 1) := by decide +kernel
theorem dX0_findDoubt_14 : decode cX0_findDoubt 14 = .ok (.getfield 24, 3) := by decide +kernel
theorem dX0_findDoubt_17 : decode cX0_findDoubt 17 = .ok (.iload_n 1, 1) := by decide +kernel
theorem dX0_findDoubt_18 : decode cX0_findDoubt 18 = .ok (.invokevirtual 57, 3) := by decide +kernel
theorem dX0_findDoubt_21 : decode cX0_findDoubt 21 = .ok (.checkcast 90, 3) := by decide +kernel
theorem dX0_findDoubt_24 : decode cX0_findDoubt 24 = .ok (.astore_n 2, 1) := by decide +kernel
theorem dX0_findDoubt_25 : decode cX0_findDoubt 25 = .ok (.aload_n 0, 1) := by decide +kernel
theorem dX0_findDoubt_26 : decode cX0_findDoubt 26 = .ok (.getfield 33, 3) := by decide +kernel
theorem dX0_findDoubt_29 : decode cX0_findDoubt 29 = .ok (.ifCond .lt 14, 3) := by decide +kernel
theorem dX0_findDoubt_32 : decode cX0_findDoubt 32 = .ok (.aload_n 2, 1) := by decide +kernel
theorem dX0_findDoubt_33 : decode cX0_findDoubt 33 = .ok (.getfield 92, 3) := by decide +kernel
theorem dX0_findDoubt_36 : decode cX0_findDoubt 36 = .ok (.aload_n 0, 1) := by decide +kernel
theorem dX0_findDoubt_37 : decode cX0_findDoubt 37 = .ok (.getfield 33, 3) := by decide +kernel
theorem dX0_findDoubt_40 : decode cX0_findDoubt 40 = .ok (.if_icmp .ge 29, 3) := by decide +kernel
theorem dX0_findDoubt_43 : decode cX0_findDoubt 43 = .ok (.aload_n 0, 1) := by decide +kernel
theorem dX0_findDoubt_44 : decode cX0_findDoubt 44 = .ok (.getfield 45, 3) := by decide +kernel
theorem dX0_findDoubt_47 : decode cX0_findDoubt 47 = .ok (.aload_n 2, 1) := by decide +kernel
theorem dX0_findDoubt_48 : decode cX0_findDoubt 48 = .ok (.getfield 95, 3) := by decide +kernel
theorem dX0_findDoubt_51 : decode cX0_findDoubt 51 = .ok (.aload_n 2, 1) := by decide +kernel
theorem dX0_findDoubt_52 : decode cX0_findDoubt 52 = .ok (.getfield 99, 3) := by decide +kernel
theorem dX0_findDoubt_55 : decode cX0_findDoubt 55 = .ok (.invokevirtual 102, 3) := by decide +kernel
theorem dX0_findDoubt_58 : decode cX0_findDoubt 58 = .ok (.ifCond .ne 11, 3) := by decide +kernel
theorem dX0_findDoubt_61 : decode cX0_findDoubt 61 = .ok (.aload_n 0, 1) := by decide +kernel
theorem dX0_findDoubt_62 : decode cX0_findDoubt 62 = .ok (.aload_n 2, 1) := by decide +kernel
theorem dX0_findDoubt_63 : decode cX0_findDoubt 63 = .ok (.getfield 92, 3) := by decide +kernel
theorem dX0_findDoubt_66 : decode cX0_findDoubt 66 = .ok (.putfield 33, 3) := by decide +kernel
theorem dX0_findDoubt_69 : decode cX0_findDoubt 69 = .ok (.iinc 1 1, 3) := by decide +kernel
theorem dX0_findDoubt_72 : decode cX0_findDoubt 72 = .ok (.goto (-70), 3) := by decide +kernel
theorem dX0_findDoubt_75 : decode cX0_findDoubt 75 = .ok (.return_, 1) := by decide +kernel
theorem dX0_weakenAll_0 : decode cX0_weakenAll 0 = .ok (.aload_n 0, 1) := by decide +kernel
theorem dX0_weakenAll_1 : decode cX0_weakenAll 1 = .ok (.getfield 21, 3) := by decide +kernel
theorem dX0_weakenAll_4 : decode cX0_weakenAll 4 = .ok (.invokevirtual 86, 3) := by decide +kernel
theorem dX0_weakenAll_7 : decode cX0_weakenAll 7 = .ok (.newarray .int, 2) := by decide +kernel
theorem dX0_weakenAll_9 : decode cX0_weakenAll 9 = .ok (.astore_n 1, 1) := by decide +kernel
theorem dX0_weakenAll_10 : decode cX0_weakenAll 10 = .ok (.iconst 0, 1) := by decide +kernel
theorem dX0_weakenAll_11 : decode cX0_weakenAll 11 = .ok (.istore_n 2, 1) := by decide +kernel
theorem dX0_weakenAll_12 : decode cX0_weakenAll 12 = .ok (.iconst 1, 1) := by decide +kernel
theorem dX0_weakenAll_13 : decode cX0_weakenAll 13 = .ok (.istore_n 3, 1) := by decide +kernel
theorem dX0_weakenAll_14 : decode cX0_weakenAll 14 = .ok (.iconst 0, 1) := by decide +kernel
theorem dX0_weakenAll_15 : decode cX0_weakenAll 15 = .ok (.istore 4, 2) := by decide +kernel
theorem dX0_weakenAll_17 : decode cX0_weakenAll 17 = .ok (.iload 4, 2) := by decide +kernel
theorem dX0_weakenAll_19 : decode cX0_weakenAll 19 = .ok (.ldc 108, 2) := by decide +kernel
theorem dX0_weakenAll_21 : decode cX0_weakenAll 21 = .ok (.if_icmp .ge 131, 3) := by decide +kernel
theorem dX0_weakenAll_24 : decode cX0_weakenAll 24 = .ok (.iload_n 3, 1) := by decide +kernel
theorem dX0_weakenAll_25 : decode cX0_weakenAll 25 = .ok (.ifCond .eq 127, 3) := by decide +kernel
theorem dX0_weakenAll_28 : decode cX0_weakenAll 28 = .ok (.iconst 0, 1) := by decide +kernel
theorem dX0_weakenAll_29 : decode cX0_weakenAll 29 = .ok (.istore_n 3, 1) := by decide +kernel
theorem dX0_weakenAll_30 : decode cX0_weakenAll 30 = .ok (.iconst 0, 1) := by decide +kernel
theorem dX0_weakenAll_31 : decode cX0_weakenAll 31 = .ok (.istore 5, 2) := by decide +kernel
theorem dX0_weakenAll_33 : decode cX0_weakenAll 33 = .ok (.iload 5, 2) := by decide +kernel
theorem dX0_weakenAll_35 : decode cX0_weakenAll 35 = .ok (.aload_n 1, 1) := by decide +kernel
theorem dX0_weakenAll_36 : decode cX0_weakenAll 36 = .ok (.arraylength, 1) := by decide +kernel
theorem dX0_weakenAll_37 : decode cX0_weakenAll 37 = .ok (.if_icmp .ge 109, 3) := by decide +kernel
theorem dX0_weakenAll_40 : decode cX0_weakenAll 40 = .ok (.aload_n 0, 1) := by decide +kernel
theorem dX0_weakenAll_41 : decode cX0_weakenAll 41 = .ok (.getfield 21, 3) := by decide +kernel
theorem dX0_weakenAll_44 : decode cX0_weakenAll 44 = .ok (.iload 5, 2) := by decide +kernel
theorem dX0_weakenAll_46 : decode cX0_weakenAll 46 = .ok (.invokevirtual 57, 3) := by decide +kernel
theorem dX0_weakenAll_49 : decode cX0_weakenAll 49 = .ok (.checkcast 61, 3) := by decide +kernel
theorem dX0_weakenAll_52 : decode cX0_weakenAll 52 = .ok (.getfield 109, 3) := by decide +kernel
theorem dX0_weakenAll_55 : decode cX0_weakenAll 55 = .ok (.astore 6, 2) := by decide +kernel
theorem dX0_weakenAll_57 : decode cX0_weakenAll 57 = .ok (.aload 6, 2) := by decide +kernel
theorem dX0_weakenAll_59 : decode cX0_weakenAll 59 = .ok (.getfield 112, 3) := by decide +kernel
theorem dX0_weakenAll_62 : decode cX0_weakenAll 62 = .ok (.ifCond .le 78, 3) := by decide +kernel
theorem dX0_weakenAll_65 : decode cX0_weakenAll 65 = .ok (.aload_n 0, 1) := by decide +kernel
theorem dX0_weakenAll_66 : decode cX0_weakenAll 66 = .ok (.iload 5, 2) := by decide +kernel
theorem dX0_weakenAll_68 : decode cX0_weakenAll 68 = .ok (.invokevirtual 115, 3) := by decide +kernel
theorem dX0_weakenAll_71 : decode cX0_weakenAll 71 = .ok (.aload_n 1, 1) := by decide +kernel
theorem dX0_weakenAll_72 : decode cX0_weakenAll 72 = .ok (.iload 5, 2) := by decide +kernel
theorem dX0_weakenAll_74 : decode cX0_weakenAll 74 = .ok (.iaload, 1) := by decide +kernel
theorem dX0_weakenAll_75 : decode cX0_weakenAll 75 = .ok (.if_icmp .lt 65, 3) := by decide +kernel
theorem dX0_weakenAll_78 : decode cX0_weakenAll 78 = .ok (.iinc 2 1, 3) := by decide +kernel
theorem dX0_weakenAll_81 : decode cX0_weakenAll 81 = .ok (.aload_n 1, 1) := by decide +kernel
theorem dX0_weakenAll_82 : decode cX0_weakenAll 82 = .ok (.iload 5, 2) := by decide +kernel
theorem dX0_weakenAll_84 : decode cX0_weakenAll 84 = .ok (.iload_n 2, 1) := by decide +kernel
theorem dX0_weakenAll_85 : decode cX0_weakenAll 85 = .ok (.iastore, 1) := by decide +kernel
theorem dX0_weakenAll_86 : decode cX0_weakenAll 86 = .ok (.aload_n 0, 1) := by decide +kernel
theorem dX0_weakenAll_87 : decode cX0_weakenAll 87 = .ok (.getfield 45, 3) := by decide +kernel
theorem dX0_weakenAll_90 : decode cX0_weakenAll 90 = .ok (.aload_n 0, 1) := by decide +kernel
theorem dX0_weakenAll_91 : decode cX0_weakenAll 91 = .ok (.getfield 12, 3) := by decide +kernel
theorem dX0_weakenAll_94 : decode cX0_weakenAll 94 = .ok (.iload 5, 2) := by decide +kernel
theorem dX0_weakenAll_96 : decode cX0_weakenAll 96 = .ok (.invokevirtual 57, 3) := by decide +kernel
theorem dX0_weakenAll_99 : decode cX0_weakenAll 99 = .ok (.checkcast 73, 3) := by decide +kernel
theorem dX0_weakenAll_102 : decode cX0_weakenAll 102 = .ok (.aload_n 0, 1) := by decide +kernel
theorem dX0_weakenAll_103 : decode cX0_weakenAll 103 = .ok (.getfield 18, 3) := by decide +kernel
theorem dX0_weakenAll_106 : decode cX0_weakenAll 106 = .ok (.iload 5, 2) := by decide +kernel
theorem dX0_weakenAll_108 : decode cX0_weakenAll 108 = .ok (.invokevirtual 57, 3) := by decide +kernel
theorem dX0_weakenAll_111 : decode cX0_weakenAll 111 = .ok (.checkcast 61, 3) := by decide +kernel
theorem dX0_weakenAll_114 : decode cX0_weakenAll 114 = .ok (.aload_n 0, 1) := by decide +kernel
theorem dX0_weakenAll_115 : decode cX0_weakenAll 115 = .ok (.getfield 21, 3) := by decide +kernel
theorem dX0_weakenAll_118 : decode cX0_weakenAll 118 = .ok (.iload 5, 2) := by decide +kernel
theorem dX0_weakenAll_120 : decode cX0_weakenAll 120 = .ok (.invokevirtual 57, 3) := by decide +kernel
theorem dX0_weakenAll_123 : decode cX0_weakenAll 123 = .ok (.checkcast 61, 3) := by decide +kernel
theorem dX0_weakenAll_126 : decode cX0_weakenAll 126 = .ok (.invokevirtual 119, 3) := by decide +kernel
theorem dX0_weakenAll_129 : decode cX0_weakenAll 129 = .ok (.ifCond .eq 11, 3) := by decide +kernel
theorem dX0_weakenAll_132 : decode cX0_weakenAll 132 = .ok (.aload 6, 2) := by decide +kernel
theorem dX0_weakenAll_134 : decode cX0_weakenAll 134 = .ok (.iload_n 2, 1) := by decide +kernel
theorem dX0_weakenAll_135 : decode cX0_weakenAll 135 = .ok (.putfield 123, 3) := by decide +kernel
theorem dX0_weakenAll_138 : decode cX0_weakenAll 138 = .ok (.iconst 1, 1) := by decide +kernel
theorem dX0_weakenAll_139 : decode cX0_weakenAll 139 = .ok (.istore_n 3, 1) := by decide +kernel
theorem dX0_weakenAll_140 : decode cX0_weakenAll 140 = .ok (.iinc 5 1, 3) := by decide +kernel
theorem dX0_weakenAll_143 : decode cX0_weakenAll 143 = .ok (.goto (-110), 3) := by decide +kernel
theorem dX0_weakenAll_146 : decode cX0_weakenAll 146 = .ok (.iinc 4 1, 3) := by decide +kernel
theorem dX0_weakenAll_149 : decode cX0_weakenAll 149 = .ok (.goto (-132), 3) := by decide +kernel
theorem dX0_weakenAll_152 : decode cX0_weakenAll 152 = .ok (.return_, 1) := by decide +kernel
theorem dX0_lastChange_0 : decode cX0_lastChange 0 = .ok (.aload_n 0, 1) := by decide +kernel
theorem dX0_lastChange_1 : decode cX0_lastChange 1 = .ok (.getfield 18, 3) := by decide +kernel
theorem dX0_lastChange_4 : decode cX0_lastChange 4 = .ok (.iload_n 1, 1) := by decide +kernel
theorem dX0_lastChange_5 : decode cX0_lastChange 5 = .ok (.invokevirtual 57, 3) := by decide +kernel
theorem dX0_lastChange_8 : decode cX0_lastChange 8 = .ok (.checkcast 61, 3) := by decide +kernel
theorem dX0_lastChange_11 : decode cX0_lastChange 11 = .ok (.getfield 109, 3) := by decide +kernel
theorem dX0_lastChange_14 : decode cX0_lastChange 14 = .ok (.getfield 123, 3) := by decide +kernel
theorem dX0_lastChange_17 : decode cX0_lastChange 17 = .ok (.istore_n 2, 1) := by decide +kernel
theorem dX0_lastChange_18 : decode cX0_lastChange 18 = .ok (.aload_n 0, 1) := by decide +kernel
theorem dX0_lastChange_19 : decode cX0_lastChange 19 = .ok (.getfield 12, 3) := by decide +kernel
theorem dX0_lastChange_22 : decode cX0_lastChange 22 = .ok (.iload_n 1, 1) := by decide +kernel
theorem dX0_lastChange_23 : decode cX0_lastChange 23 = .ok (.invokevirtual 57, 3) := by decide +kernel
theorem dX0_lastChange_26 : decode cX0_lastChange 26 = .ok (.checkcast 73, 3) := by decide +kernel
theorem dX0_lastChange_29 : decode cX0_lastChange 29 = .ok (.astore_n 3, 1) := by decide +kernel
theorem dX0_lastChange_30 : decode cX0_lastChange 30 = .ok (.aload_n 3, 1) := by decide +kernel
theorem dX0_lastChange_31 : decode cX0_lastChange 31 = .ok (.ifnull 46, 3) := by decide +kernel
theorem dX0_lastChange_34 : decode cX0_lastChange 34 = .ok (.aload_n 3, 1) := by decide +kernel
theorem dX0_lastChange_35 : decode cX0_lastChange 35 = .ok (.getfield 126, 3) := by decide +kernel
theorem dX0_lastChange_38 : decode cX0_lastChange 38 = .ok (.ifnull 31, 3) := by decide +kernel
theorem dX0_lastChange_41 : decode cX0_lastChange 41 = .ok (.aload_n 3, 1) := by decide +kernel
theorem dX0_lastChange_42 : decode cX0_lastChange 42 = .ok (.getfield 126, 3) := by decide +kernel
theorem dX0_lastChange_45 : decode cX0_lastChange 45 = .ok (.getfield 69, 3) := by decide +kernel
theorem dX0_lastChange_48 : decode cX0_lastChange 48 = .ok (.ifnull 21, 3) := by decide +kernel
theorem dX0_lastChange_51 : decode cX0_lastChange 51 = .ok (.iload_n 2, 1) := by decide +kernel
theorem dX0_lastChange_52 : decode cX0_lastChange 52 = .ok (.aload_n 3, 1) := by decide +kernel
theorem dX0_lastChange_53 : decode cX0_lastChange 53 = .ok (.getfield 126, 3) := by decide +kernel
theorem dX0_lastChange_56 : decode cX0_lastChange 56 = .ok (.getfield 69, 3) := by decide +kernel
theorem dX0_lastChange_59 : decode cX0_lastChange 59 = .ok (.getfield 109, 3) := by decide +kernel
theorem dX0_lastChange_62 : decode cX0_lastChange 62 = .ok (.getfield 123, 3) := by decide +kernel
theorem dX0_lastChange_65 : decode cX0_lastChange 65 = .ok (.invokestatic 130, 3) := by decide +kernel
theorem dX0_lastChange_68 : decode cX0_lastChange 68 = .ok (.istore_n 2, 1) := by decide +kernel
theorem dX0_lastChange_69 : decode cX0_lastChange 69 = .ok (.aload_n 3, 1) := by decide +kernel
theorem dX0_lastChange_70 : decode cX0_lastChange 70 = .ok (.getfield 136, 3) := by decide +kernel
theorem dX0_lastChange_73 : decode cX0_lastChange 73 = .ok (.astore_n 3, 1) := by decide +kernel
theorem dX0_lastChange_74 : decode cX0_lastChange 74 = .ok (.goto (-44), 3) := by decide +kernel
theorem dX0_lastChange_77 : decode cX0_lastChange 77 = .ok (.iload_n 2, 1) := by decide +kernel
theorem dX0_lastChange_78 : decode cX0_lastChange 78 = .ok (.ireturn, 1) := by decide +kernel
theorem dX1_weaken_0 : decode cX1_weaken 0 = .ok (.aload_n 3, 1) := by decide +kernel
theorem dX1_weaken_1 : decode cX1_weaken 1 = .ok (.getfield 37, 3) := by decide +kernel
theorem dX1_weaken_4 : decode cX1_weaken 4 = .ok (.getfield 43, 3) := by decide +kernel
theorem dX1_weaken_7 : decode cX1_weaken 7 = .ok (.istore 4, 2) := by decide +kernel
theorem dX1_weaken_9 : decode cX1_weaken 9 = .ok (.aload_n 0, 1) := by decide +kernel
theorem dX1_weaken_10 : decode cX1_weaken 10 = .ok (.aload_n 3, 1) := by decide +kernel
theorem dX1_weaken_11 : decode cX1_weaken 11 = .ok (.putfield 47, 3) := by decide +kernel
theorem dX1_weaken_14 : decode cX1_weaken 14 = .ok (.aload_n 0, 1) := by decide +kernel
theorem dX1_weaken_15 : decode cX1_weaken 15 = .ok (.aload_n 1, 1) := by decide +kernel
theorem dX1_weaken_16 : decode cX1_weaken 16 = .ok (.aload_n 2, 1) := by decide +kernel
theorem dX1_weaken_17 : decode cX1_weaken 17 = .ok (.invokevirtual 50, 3) := by decide +kernel
theorem dX1_weaken_20 : decode cX1_weaken 20 = .ok (.aload_n 0, 1) := by decide +kernel
theorem dX1_weaken_21 : decode cX1_weaken 21 = .ok (.getfield 12, 3) := by decide +kernel
theorem dX1_weaken_24 : decode cX1_weaken 24 = .ok (.invokevirtual 54, 3) := by decide +kernel
theorem dX1_weaken_27 : decode cX1_weaken 27 = .ok (.aload_n 0, 1) := by decide +kernel
theorem dX1_weaken_28 : decode cX1_weaken 28 = .ok (.iconst 0, 1) := by decide +kernel
theorem dX1_weaken_29 : decode cX1_weaken 29 = .ok (.invokevirtual 57, 3) := by decide +kernel
theorem dX1_weaken_32 : decode cX1_weaken 32 = .ok (.aload_n 3, 1) := by decide +kernel
theorem dX1_weaken_33 : decode cX1_weaken 33 = .ok (.getfield 37, 3) := by decide +kernel
theorem dX1_weaken_36 : decode cX1_weaken 36 = .ok (.getfield 43, 3) := by decide +kernel
theorem dX1_weaken_39 : decode cX1_weaken 39 = .ok (.iload 4, 2) := by decide +kernel
theorem dX1_weaken_41 : decode cX1_weaken 41 = .ok (.if_icmp .ge 7, 3) := by decide +kernel
theorem dX1_weaken_44 : decode cX1_weaken 44 = .ok (.iconst 1, 1) := by decide +kernel
theorem dX1_weaken_45 : decode cX1_weaken 45 = .ok (.goto 4, 3) := by decide +kernel
theorem dX1_weaken_48 : decode cX1_weaken 48 = .ok (.iconst 0, 1) := by decide +kernel
theorem dX1_weaken_49 : decode cX1_weaken 49 = .ok (.ireturn, 1) := by decide +kernel
theorem dX1_isSure_0 : decode cX1_isSure 0 = .ok (.aload_n 0, 1) := by decide +kernel
theorem dX1_isSure_1 : decode cX1_isSure 1 = .ok (.aconst_null, 1) := by decide +kernel
theorem dX1_isSure_2 : decode cX1_isSure 2 = .ok (.putfield 47, 3) := by decide +kernel
theorem dX1_isSure_5 : decode cX1_isSure 5 = .ok (.aload_n 0, 1) := by decide +kernel
theorem dX1_isSure_6 : decode cX1_isSure 6 = .ok (.aload_n 2, 1) := by decide +kernel
theorem dX1_isSure_7 : decode cX1_isSure 7 = .ok (.invokestatic 61, 3) := by decide +kernel
theorem dX1_isSure_10 : decode cX1_isSure 10 = .ok (.ifCond .ne 7, 3) := by decide +kernel
theorem dX1_isSure_13 : decode cX1_isSure 13 = .ok (.iconst 1, 1) := by decide +kernel
theorem dX1_isSure_14 : decode cX1_isSure 14 = .ok (.goto 4, 3) := by decide +kernel
theorem dX1_isSure_17 : decode cX1_isSure 17 = .ok (.iconst 0, 1) := by decide +kernel
theorem dX1_isSure_18 : decode cX1_isSure 18 = .ok (.putfield 65, 3) := by decide +kernel
theorem dX1_isSure_21 : decode cX1_isSure 21 = .ok (.aload_n 0, 1) := by decide +kernel
theorem dX1_isSure_22 : decode cX1_isSure 22 = .ok (.aload_n 1, 1) := by decide +kernel
theorem dX1_isSure_23 : decode cX1_isSure 23 = .ok (.aconst_null, 1) := by decide +kernel
theorem dX1_isSure_24 : decode cX1_isSure 24 = .ok (.invokevirtual 50, 3) := by decide +kernel
theorem dX1_isSure_27 : decode cX1_isSure 27 = .ok (.aload_n 0, 1) := by decide +kernel
theorem dX1_isSure_28 : decode cX1_isSure 28 = .ok (.aload_n 2, 1) := by decide +kernel
theorem dX1_isSure_29 : decode cX1_isSure 29 = .ok (.iconst 0, 1) := by decide +kernel
theorem dX1_isSure_30 : decode cX1_isSure 30 = .ok (.invokevirtual 69, 3) := by decide +kernel
theorem dX1_isSure_33 : decode cX1_isSure 33 = .ok (.aload_n 0, 1) := by decide +kernel
theorem dX1_isSure_34 : decode cX1_isSure 34 = .ok (.getfield 12, 3) := by decide +kernel
theorem dX1_isSure_37 : decode cX1_isSure 37 = .ok (.invokevirtual 54, 3) := by decide +kernel
theorem dX1_isSure_40 : decode cX1_isSure 40 = .ok (.aload_n 0, 1) := by decide +kernel
theorem dX1_isSure_41 : decode cX1_isSure 41 = .ok (.iconst 0, 1) := by decide +kernel
theorem dX1_isSure_42 : decode cX1_isSure 42 = .ok (.invokevirtual 57, 3) := by decide +kernel
theorem dX1_isSure_45 : decode cX1_isSure 45 = .ok (.aload_n 0, 1) := by decide +kernel
theorem dX1_isSure_46 : decode cX1_isSure 46 = .ok (.getfield 65, 3) := by decide +kernel
theorem dX1_isSure_49 : decode cX1_isSure 49 = .ok (.ifCond .ne 7, 3) := by decide +kernel
theorem dX1_isSure_52 : decode cX1_isSure 52 = .ok (.iconst 1, 1) := by decide +kernel
theorem dX1_isSure_53 : decode cX1_isSure 53 = .ok (.goto 4, 3) := by decide +kernel
theorem dX1_isSure_56 : decode cX1_isSure 56 = .ok (.iconst 0, 1) := by decide +kernel
theorem dX1_isSure_57 : decode cX1_isSure 57 = .ok (.ireturn, 1) := by decide +kernel
theorem dX1_explore_0 : decode cX1_explore 0 = .ok (.aload_n 0, 1) := by decide +kernel
theorem dX1_explore_1 : decode cX1_explore 1 = .ok (.getfield 12, 3) := by decide +kernel
theorem dX1_explore_4 : decode cX1_explore 4 = .ok (.getfield 190, 3) := by decide +kernel
theorem dX1_explore_7 : decode cX1_explore 7 = .ok (.ifCond .eq 4, 3) := by decide +kernel
theorem dX1_explore_10 : decode cX1_explore 10 = .ok (.return_, 1) := by decide +kernel
theorem dX1_explore_11 : decode cX1_explore 11 = .ok (.iload_n 1, 1) := by decide +kernel
theorem dX1_explore_12 : decode cX1_explore 12 = .ok (.aload_n 0, 1) := by decide +kernel
theorem dX1_explore_13 : decode cX1_explore 13 = .ok (.getfield 103, 3) := by decide +kernel
theorem dX1_explore_16 : decode cX1_explore 16 = .ok (.if_icmp .lt 8, 3) := by decide +kernel
theorem dX1_explore_19 : decode cX1_explore 19 = .ok (.aload_n 0, 1) := by decide +kernel
theorem dX1_explore_20 : decode cX1_explore 20 = .ok (.invokevirtual 214, 3) := by decide +kernel
theorem dX1_explore_23 : decode cX1_explore 23 = .ok (.return_, 1) := by decide +kernel
theorem dX1_explore_24 : decode cX1_explore 24 = .ok (.aload_n 0, 1) := by decide +kernel
theorem dX1_explore_25 : decode cX1_explore 25 = .ok (.getfield 20, 3) := by decide +kernel
theorem dX1_explore_28 : decode cX1_explore 28 = .ok (.iload_n 1, 1) := by decide +kernel
theorem dX1_explore_29 : decode cX1_explore 29 = .ok (.aaload, 1) := by decide +kernel
theorem dX1_explore_30 : decode cX1_explore 30 = .ok (.astore_n 2, 1) := by decide +kernel
theorem dX1_explore_31 : decode cX1_explore 31 = .ok (.aload_n 0, 1) := by decide +kernel
theorem dX1_explore_32 : decode cX1_explore 32 = .ok (.getfield 24, 3) := by decide +kernel
theorem dX1_explore_35 : decode cX1_explore 35 = .ok (.iload_n 1, 1) := by decide +kernel
theorem dX1_explore_36 : decode cX1_explore 36 = .ok (.baload, 1) := by decide +kernel
theorem dX1_explore_37 : decode cX1_explore 37 = .ok (.istore_n 3, 1) := by decide +kernel
theorem dX1_explore_38 : decode cX1_explore 38 = .ok (.aload_n 0, 1) := by decide +kernel
theorem dX1_explore_39 : decode cX1_explore 39 = .ok (.getfield 103, 3) := by decide +kernel
theorem dX1_explore_42 : decode cX1_explore 42 = .ok (.istore 4, 2) := by decide +kernel
theorem dX1_explore_44 : decode cX1_explore 44 = .ok (.aload_n 0, 1) := by decide +kernel
theorem dX1_explore_45 : decode cX1_explore 45 = .ok (.getfield 106, 3) := by decide +kernel
theorem dX1_explore_48 : decode cX1_explore 48 = .ok (.istore 5, 2) := by decide +kernel
theorem dX1_explore_50 : decode cX1_explore 50 = .ok (.aload_n 2, 1) := by decide +kernel
theorem dX1_explore_51 : decode cX1_explore 51 = .ok (.getfield 73, 3) := by decide +kernel
theorem dX1_explore_54 : decode cX1_explore 54 = .ok (.sipush 403, 3) := by decide +kernel
theorem dX1_explore_57 : decode cX1_explore 57 = .ok (.if_icmp .ne 7, 3) := by decide +kernel
theorem dX1_explore_60 : decode cX1_explore 60 = .ok (.iconst 2, 1) := by decide +kernel
theorem dX1_explore_61 : decode cX1_explore 61 = .ok (.goto 10, 3) := by decide +kernel
theorem dX1_explore_64 : decode cX1_explore 64 = .ok (.aload_n 2, 1) := by decide +kernel
theorem dX1_explore_65 : decode cX1_explore 65 = .ok (.getfield 86, 3) := by decide +kernel
theorem dX1_explore_68 : decode cX1_explore 68 = .ok (.invokevirtual 90, 3) := by decide +kernel
theorem dX1_explore_71 : decode cX1_explore 71 = .ok (.istore 6, 2) := by decide +kernel
theorem dX1_explore_73 : decode cX1_explore 73 = .ok (.iconst 0, 1) := by decide +kernel
theorem dX1_explore_74 : decode cX1_explore 74 = .ok (.istore 7, 2) := by decide +kernel
theorem dX1_explore_76 : decode cX1_explore 76 = .ok (.iload 7, 2) := by decide +kernel
theorem dX1_explore_78 : decode cX1_explore 78 = .ok (.iload 6, 2) := by decide +kernel
theorem dX1_explore_80 : decode cX1_explore 80 = .ok (.if_icmp .ge 98, 3) := by decide +kernel
theorem dX1_explore_83 : decode cX1_explore 83 = .ok (.aload_n 0, 1) := by decide +kernel
theorem dX1_explore_84 : decode cX1_explore 84 = .ok (.invokevirtual 217, 3) := by decide +kernel
theorem dX1_explore_87 : decode cX1_explore 87 = .ok (.ifCond .ne 91, 3) := by decide +kernel
theorem dX1_explore_90 : decode cX1_explore 90 = .ok (.aload_n 0, 1) := by decide +kernel
theorem dX1_explore_91 : decode cX1_explore 91 = .ok (.getfield 12, 3) := by decide +kernel
theorem dX1_explore_94 : decode cX1_explore 94 = .ok (.invokevirtual 220, 3) := by decide +kernel
theorem dX1_explore_97 : decode cX1_explore 97 = .ok (.aload_n 2, 1) := by decide +kernel
theorem dX1_explore_98 : decode cX1_explore 98 = .ok (.getfield 73, 3) := by decide +kernel
theorem dX1_explore_101 : decode cX1_explore 101 = .ok (.sipush 403, 3) := by decide +kernel
theorem dX1_explore_104 : decode cX1_explore 104 = .ok (.if_icmp .ne 25, 3) := by decide +kernel
theorem dX1_explore_107 : decode cX1_explore 107 = .ok (.aload_n 0, 1) := by decide +kernel
theorem dX1_explore_108 : decode cX1_explore 108 = .ok (.aload_n 2, 1) := by decide +kernel
theorem dX1_explore_109 : decode cX1_explore 109 = .ok (.getfield 76, 3) := by decide +kernel
theorem dX1_explore_112 : decode cX1_explore 112 = .ok (.iload 7, 2) := by decide +kernel
theorem dX1_explore_114 : decode cX1_explore 114 = .ok (.ifCond .ne 7, 3) := by decide +kernel
theorem dX1_explore_117 : decode cX1_explore 117 = .ok (.iconst 1, 1) := by decide +kernel
theorem dX1_explore_118 : decode cX1_explore 118 = .ok (.goto 4, 3) := by decide +kernel
theorem dX1_explore_121 : decode cX1_explore 121 = .ok (.iconst (-1), 1) := by decide +kernel
theorem dX1_explore_122 : decode cX1_explore 122 = .ok (.iconst 1, 1) := by decide +kernel
theorem dX1_explore_123 : decode cX1_explore 123 = .ok (.invokevirtual 198, 3) := by decide +kernel
theorem dX1_explore_126 : decode cX1_explore 126 = .ok (.goto 20, 3) := by decide +kernel
theorem dX1_explore_129 : decode cX1_explore 129 = .ok (.aload_n 0, 1) := by decide +kernel
theorem dX1_explore_130 : decode cX1_explore 130 = .ok (.aload_n 2, 1) := by decide +kernel
theorem dX1_explore_131 : decode cX1_explore 131 = .ok (.getfield 86, 3) := by decide +kernel
theorem dX1_explore_134 : decode cX1_explore 134 = .ok (.iload 7, 2) := by decide +kernel
theorem dX1_explore_136 : decode cX1_explore 136 = .ok (.invokevirtual 96, 3) := by decide +kernel
theorem dX1_explore_139 : decode cX1_explore 139 = .ok (.checkcast 18, 3) := by decide +kernel
theorem dX1_explore_142 : decode cX1_explore 142 = .ok (.iload_n 3, 1) := by decide +kernel
theorem dX1_explore_143 : decode cX1_explore 143 = .ok (.invokevirtual 69, 3) := by decide +kernel
theorem dX1_explore_146 : decode cX1_explore 146 = .ok (.aload_n 0, 1) := by decide +kernel
theorem dX1_explore_147 : decode cX1_explore 147 = .ok (.iload_n 1, 1) := by decide +kernel
theorem dX1_explore_148 : decode cX1_explore 148 = .ok (.iconst 1, 1) := by decide +kernel
theorem dX1_explore_149 : decode cX1_explore 149 = .ok (.iadd, 1) := by decide +kernel
theorem dX1_explore_150 : decode cX1_explore 150 = .ok (.invokevirtual 57, 3) := by decide +kernel
theorem dX1_explore_153 : decode cX1_explore 153 = .ok (.aload_n 0, 1) := by decide +kernel
theorem dX1_explore_154 : decode cX1_explore 154 = .ok (.getfield 12, 3) := by decide +kernel
theorem dX1_explore_157 : decode cX1_explore 157 = .ok (.invokevirtual 223, 3) := by decide +kernel
theorem dX1_explore_160 : decode cX1_explore 160 = .ok (.aload_n 0, 1) := by decide +kernel
theorem dX1_explore_161 : decode cX1_explore 161 = .ok (.iload 4, 2) := by decide +kernel
theorem dX1_explore_163 : decode cX1_explore 163 = .ok (.putfield 103, 3) := by decide +kernel
theorem dX1_explore_166 : decode cX1_explore 166 = .ok (.aload_n 0, 1) := by decide +kernel
theorem dX1_explore_167 : decode cX1_explore 167 = .ok (.iload 5, 2) := by decide +kernel
theorem dX1_explore_169 : decode cX1_explore 169 = .ok (.putfield 106, 3) := by decide +kernel
theorem dX1_explore_172 : decode cX1_explore 172 = .ok (.iinc 7 1, 3) := by decide +kernel
theorem dX1_explore_175 : decode cX1_explore 175 = .ok (.goto (-99), 3) := by decide +kernel
theorem dX1_explore_178 : decode cX1_explore 178 = .ok (.return_, 1) := by decide +kernel
theorem dX1_isDecided_7 : decode cX1_isDecided 7 = .ok (.aload_n 0, 1) := by decide +kernel
theorem dX1_isDecided_8 : decode cX1_isDecided 8 = .ok (.getfield 65, 3) := by decide +kernel
theorem dX1_isDecided_11 : decode cX1_isDecided 11 = .ok (.goto 21, 3) := by decide +kernel
theorem dX1_conclude_0 : decode cX1_conclude 0 = .ok (.aload_n 0, 1) := by decide +kernel
theorem dX1_conclude_1 : decode cX1_conclude 1 = .ok (.getfield 47, 3) := by decide +kernel
theorem dX1_conclude_4 : decode cX1_conclude 4 = .ok (.ifnonnull 9, 3) := by decide +kernel
theorem dX1_conclude_7 : decode cX1_conclude 7 = .ok (.aload_n 0, 1) := by decide +kernel
theorem dX1_conclude_8 : decode cX1_conclude 8 = .ok (.iconst 1, 1) := by decide +kernel
theorem dX1_conclude_9 : decode cX1_conclude 9 = .ok (.putfield 65, 3) := by decide +kernel
theorem dX1_conclude_12 : decode cX1_conclude 12 = .ok (.return_, 1) := by decide +kernel
theorem dX1_conclude_13 : decode cX1_conclude 13 = .ok (.aload_n 0, 1) := by decide +kernel
theorem dX1_conclude_14 : decode cX1_conclude 14 = .ok (.getfield 47, 3) := by decide +kernel
theorem dX1_conclude_17 : decode cX1_conclude 17 = .ok (.getfield 37, 3) := by decide +kernel
theorem dX1_conclude_20 : decode cX1_conclude 20 = .ok (.astore_n 1, 1) := by decide +kernel
theorem dX1_conclude_21 : decode cX1_conclude 21 = .ok (.iconst 0, 1) := by decide +kernel
theorem dX1_conclude_22 : decode cX1_conclude 22 = .ok (.istore_n 2, 1) := by decide +kernel
theorem dX1_conclude_23 : decode cX1_conclude 23 = .ok (.iconst 0, 1) := by decide +kernel
theorem dX1_conclude_24 : decode cX1_conclude 24 = .ok (.istore_n 3, 1) := by decide +kernel
theorem dX1_conclude_25 : decode cX1_conclude 25 = .ok (.iload_n 3, 1) := by decide +kernel
theorem dX1_conclude_26 : decode cX1_conclude 26 = .ok (.aload_n 1, 1) := by decide +kernel
theorem dX1_conclude_27 : decode cX1_conclude 27 = .ok (.getfield 43, 3) := by decide +kernel
theorem dX1_conclude_30 : decode cX1_conclude 30 = .ok (.if_icmp .ge 57, 3) := by decide +kernel
theorem dX1_conclude_33 : decode cX1_conclude 33 = .ok (.aload_n 0, 1) := by decide +kernel
theorem dX1_conclude_34 : decode cX1_conclude 34 = .ok (.getfield 47, 3) := by decide +kernel
theorem dX1_conclude_37 : decode cX1_conclude 37 = .ok (.iload_n 3, 1) := by decide +kernel
theorem dX1_conclude_38 : decode cX1_conclude 38 = .ok (.invokevirtual 148, 3) := by decide +kernel
theorem dX1_conclude_41 : decode cX1_conclude 41 = .ok (.aload_n 0, 1) := by decide +kernel
theorem dX1_conclude_42 : decode cX1_conclude 42 = .ok (.aload_n 0, 1) := by decide +kernel
theorem dX1_conclude_43 : decode cX1_conclude 43 = .ok (.getfield 47, 3) := by decide +kernel
theorem dX1_conclude_46 : decode cX1_conclude 46 = .ok (.iconst 0, 1) := by decide +kernel
theorem dX1_conclude_47 : decode cX1_conclude 47 = .ok (.iconst 1, 1) := by decide +kernel
theorem dX1_conclude_48 : decode cX1_conclude 48 = .ok (.invokevirtual 151, 3) := by decide +kernel
theorem dX1_conclude_51 : decode cX1_conclude 51 = .ok (.ifCond .eq 30, 3) := by decide +kernel
theorem dX1_conclude_54 : decode cX1_conclude 54 = .ok (.aload_n 1, 1) := by decide +kernel
theorem dX1_conclude_55 : decode cX1_conclude 55 = .ok (.getfield 226, 3) := by decide +kernel
theorem dX1_conclude_58 : decode cX1_conclude 58 = .ok (.iload_n 2, 1) := by decide +kernel
theorem dX1_conclude_59 : decode cX1_conclude 59 = .ok (.aload_n 1, 1) := by decide +kernel
theorem dX1_conclude_60 : decode cX1_conclude 60 = .ok (.getfield 226, 3) := by decide +kernel
theorem dX1_conclude_63 : decode cX1_conclude 63 = .ok (.iload_n 3, 1) := by decide +kernel
theorem dX1_conclude_64 : decode cX1_conclude 64 = .ok (.iaload, 1) := by decide +kernel
theorem dX1_conclude_65 : decode cX1_conclude 65 = .ok (.iastore, 1) := by decide +kernel
theorem dX1_conclude_66 : decode cX1_conclude 66 = .ok (.aload_n 1, 1) := by decide +kernel
theorem dX1_conclude_67 : decode cX1_conclude 67 = .ok (.getfield 229, 3) := by decide +kernel
theorem dX1_conclude_70 : decode cX1_conclude 70 = .ok (.iload_n 2, 1) := by decide +kernel
theorem dX1_conclude_71 : decode cX1_conclude 71 = .ok (.aload_n 1, 1) := by decide +kernel
theorem dX1_conclude_72 : decode cX1_conclude 72 = .ok (.getfield 229, 3) := by decide +kernel
theorem dX1_conclude_75 : decode cX1_conclude 75 = .ok (.iload_n 3, 1) := by decide +kernel
theorem dX1_conclude_76 : decode cX1_conclude 76 = .ok (.aaload, 1) := by decide +kernel
theorem dX1_conclude_77 : decode cX1_conclude 77 = .ok (.aastore, 1) := by decide +kernel
theorem dX1_conclude_78 : decode cX1_conclude 78 = .ok (.iinc 2 1, 3) := by decide +kernel
theorem dX1_conclude_81 : decode cX1_conclude 81 = .ok (.iinc 3 1, 3) := by decide +kernel
theorem dX1_conclude_84 : decode cX1_conclude 84 = .ok (.goto (-59), 3) := by decide +kernel
theorem dX1_conclude_87 : decode cX1_conclude 87 = .ok (.aload_n 1, 1) := by decide +kernel
theorem dX1_conclude_88 : decode cX1_conclude 88 = .ok (.iload_n 2, 1) := by decide +kernel
theorem dX1_conclude_89 : decode cX1_conclude 89 = .ok (.putfield 43, 3) := by decide +kernel
theorem dX1_conclude_92 : decode cX1_conclude 92 = .ok (.return_, 1) := by decide +kernel
theorem dX3_take_0 : decode cX3_take 0 = .ok (.aload_n 0, 1) := by decide +kernel
theorem dX3_take_1 : decode cX3_take 1 = .ok (.aload_n 1, 1) := by decide +kernel
theorem dX3_take_2 : decode cX3_take 2 = .ok (.putfield 36, 3) := by decide +kernel
theorem dX3_take_5 : decode cX3_take 5 = .ok (.aload_n 0, 1) := by decide +kernel
theorem dX3_take_6 : decode cX3_take 6 = .ok (.iload_n 2, 1) := by decide +kernel
theorem dX3_take_7 : decode cX3_take 7 = .ok (.putfield 44, 3) := by decide +kernel
theorem dX3_take_10 : decode cX3_take 10 = .ok (.aload_n 0, 1) := by decide +kernel
theorem dX3_take_11 : decode cX3_take 11 = .ok (.getfield 11, 3) := by decide +kernel
theorem dX3_take_14 : decode cX3_take 14 = .ok (.lconst 0, 1) := by decide +kernel
theorem dX3_take_15 : decode cX3_take 15 = .ok (.invokestatic 48, 3) := by decide +kernel
theorem dX3_take_18 : decode cX3_take 18 = .ok (.return_, 1) := by decide +kernel
theorem dX3_set_0 : decode cX3_set 0 = .ok (.iload_n 2, 1) := by decide +kernel
theorem dX3_set_1 : decode cX3_set 1 = .ok (.sipush 200, 3) := by decide +kernel
theorem dX3_set_4 : decode cX3_set 4 = .ok (.if_icmp .ne 46, 3) := by decide +kernel
theorem dX3_set_7 : decode cX3_set 7 = .ok (.iload_n 3, 1) := by decide +kernel
theorem dX3_set_8 : decode cX3_set 8 = .ok (.ifCond .lt 10, 3) := by decide +kernel
theorem dX3_set_11 : decode cX3_set 11 = .ok (.iload_n 3, 1) := by decide +kernel
theorem dX3_set_12 : decode cX3_set 12 = .ok (.sipush 1000, 3) := by decide +kernel
theorem dX3_set_15 : decode cX3_set 15 = .ok (.if_icmp .le 5, 3) := by decide +kernel
theorem dX3_set_18 : decode cX3_set 18 = .ok (.iconst 0, 1) := by decide +kernel
theorem dX3_set_19 : decode cX3_set 19 = .ok (.ireturn, 1) := by decide +kernel
theorem dX3_set_20 : decode cX3_set 20 = .ok (.aload_n 0, 1) := by decide +kernel
theorem dX3_set_21 : decode cX3_set 21 = .ok (.getfield 17, 3) := by decide +kernel
theorem dX3_set_24 : decode cX3_set 24 = .ok (.iload_n 1, 1) := by decide +kernel
theorem dX3_set_25 : decode cX3_set 25 = .ok (.aaload, 1) := by decide +kernel
theorem dX3_set_26 : decode cX3_set 26 = .ok (.ifnonnull 14, 3) := by decide +kernel
theorem dX3_set_29 : decode cX3_set 29 = .ok (.aload_n 0, 1) := by decide +kernel
theorem dX3_set_30 : decode cX3_set 30 = .ok (.getfield 17, 3) := by decide +kernel
theorem dX3_set_33 : decode cX3_set 33 = .ok (.iload_n 1, 1) := by decide +kernel
theorem dX3_set_34 : decode cX3_set 34 = .ok (.sipush 1000, 3) := by decide +kernel
theorem dX3_set_37 : decode cX3_set 37 = .ok (.newarray .int, 2) := by decide +kernel
theorem dX3_set_39 : decode cX3_set 39 = .ok (.aastore, 1) := by decide +kernel
theorem dX3_set_40 : decode cX3_set 40 = .ok (.aload_n 0, 1) := by decide +kernel
theorem dX3_set_41 : decode cX3_set 41 = .ok (.getfield 17, 3) := by decide +kernel
theorem dX3_set_44 : decode cX3_set 44 = .ok (.iload_n 1, 1) := by decide +kernel
theorem dX3_set_45 : decode cX3_set 45 = .ok (.aaload, 1) := by decide +kernel
theorem dX3_set_46 : decode cX3_set 46 = .ok (.iconst 0, 1) := by decide +kernel
theorem dX3_set_47 : decode cX3_set 47 = .ok (.invokestatic 54, 3) := by decide +kernel
theorem dX3_set_50 : decode cX3_set 50 = .ok (.aload_n 0, 1) := by decide +kernel
theorem dX3_set_51 : decode cX3_set 51 = .ok (.getfield 11, 3) := by decide +kernel
theorem dX3_set_54 : decode cX3_set 54 = .ok (.iload_n 1, 1) := by decide +kernel
theorem dX3_set_55 : decode cX3_set 55 = .ok (.iload_n 2, 1) := by decide +kernel
theorem dX3_set_56 : decode cX3_set 56 = .ok (.sipush 202, 3) := by decide +kernel
theorem dX3_set_59 : decode cX3_set 59 = .ok (.if_icmp .ne 11, 3) := by decide +kernel
theorem dX3_set_62 : decode cX3_set 62 = .ok (.iload_n 3, 1) := by decide +kernel
theorem dX3_set_63 : decode cX3_set 63 = .ok (.ifCond .eq 7, 3) := by decide +kernel
theorem dX3_set_66 : decode cX3_set 66 = .ok (.lconst 1, 1) := by decide +kernel
theorem dX3_set_67 : decode cX3_set 67 = .ok (.goto 5, 3) := by decide +kernel
theorem dX3_set_70 : decode cX3_set 70 = .ok (.iload_n 3, 1) := by decide +kernel
theorem dX3_set_71 : decode cX3_set 71 = .ok (.i2l, 1) := by decide +kernel
theorem dX3_set_72 : decode cX3_set 72 = .ok (.lastore, 1) := by decide +kernel
theorem dX3_set_73 : decode cX3_set 73 = .ok (.iconst 1, 1) := by decide +kernel
theorem dX3_set_74 : decode cX3_set 74 = .ok (.ireturn, 1) := by decide +kernel
theorem dX3_setElement_0 : decode cX3_setElement 0 = .ok (.iload_n 2, 1) := by decide +kernel
theorem dX3_setElement_1 : decode cX3_setElement 1 = .ok (.ifCond .lt 24, 3) := by decide +kernel
theorem dX3_setElement_4 : decode cX3_setElement 4 = .ok (.iload_n 2, 1) := by decide +kernel
theorem dX3_setElement_5 : decode cX3_setElement 5 = .ok (.i2l, 1) := by decide +kernel
theorem dX3_setElement_6 : decode cX3_setElement 6 = .ok (.aload_n 0, 1) := by decide +kernel
theorem dX3_setElement_7 : decode cX3_setElement 7 = .ok (.getfield 11, 3) := by decide +kernel
theorem dX3_setElement_10 : decode cX3_setElement 10 = .ok (.iload_n 1, 1) := by decide +kernel
theorem dX3_setElement_11 : decode cX3_setElement 11 = .ok (.laload, 1) := by decide +kernel
theorem dX3_setElement_12 : decode cX3_setElement 12 = .ok (.lcmp, 1) := by decide +kernel
theorem dX3_setElement_13 : decode cX3_setElement 13 = .ok (.ifCond .ge 12, 3) := by decide +kernel
theorem dX3_setElement_16 : decode cX3_setElement 16 = .ok (.aload_n 0, 1) := by decide +kernel
theorem dX3_setElement_17 : decode cX3_setElement 17 = .ok (.getfield 17, 3) := by decide +kernel
theorem dX3_setElement_20 : decode cX3_setElement 20 = .ok (.iload_n 1, 1) := by decide +kernel
theorem dX3_setElement_21 : decode cX3_setElement 21 = .ok (.aaload, 1) := by decide +kernel
theorem dX3_setElement_22 : decode cX3_setElement 22 = .ok (.ifnonnull 5, 3) := by decide +kernel
theorem dX3_setElement_25 : decode cX3_setElement 25 = .ok (.iconst 0, 1) := by decide +kernel
theorem dX3_setElement_26 : decode cX3_setElement 26 = .ok (.ireturn, 1) := by decide +kernel
theorem dX3_setElement_27 : decode cX3_setElement 27 = .ok (.aload_n 0, 1) := by decide +kernel
theorem dX3_setElement_28 : decode cX3_setElement 28 = .ok (.getfield 17, 3) := by decide +kernel
theorem dX3_setElement_31 : decode cX3_setElement 31 = .ok (.iload_n 1, 1) := by decide +kernel
theorem dX3_setElement_32 : decode cX3_setElement 32 = .ok (.aaload, 1) := by decide +kernel
theorem dX3_setElement_33 : decode cX3_setElement 33 = .ok (.iload_n 2, 1) := by decide +kernel
theorem dX3_setElement_34 : decode cX3_setElement 34 = .ok (.iload_n 3, 1) := by decide +kernel
theorem dX3_setElement_35 : decode cX3_setElement 35 = .ok (.iastore, 1) := by decide +kernel
theorem dX3_setElement_36 : decode cX3_setElement 36 = .ok (.iconst 1, 1) := by decide +kernel
theorem dX3_setElement_37 : decode cX3_setElement 37 = .ok (.ireturn, 1) := by decide +kernel
theorem dX3_givenArray_0 : decode cX3_givenArray 0 = .ok (.aload_n 0, 1) := by decide +kernel
theorem dX3_givenArray_1 : decode cX3_givenArray 1 = .ok (.aload_n 0, 1) := by decide +kernel
theorem dX3_givenArray_2 : decode cX3_givenArray 2 = .ok (.getfield 11, 3) := by decide +kernel
theorem dX3_givenArray_5 : decode cX3_givenArray 5 = .ok (.iload_n 1, 1) := by decide +kernel
theorem dX3_givenArray_6 : decode cX3_givenArray 6 = .ok (.laload, 1) := by decide +kernel
theorem dX3_givenArray_7 : decode cX3_givenArray 7 = .ok (.l2i, 1) := by decide +kernel
theorem dX3_givenArray_8 : decode cX3_givenArray 8 = .ok (.invokevirtual 132, 3) := by decide +kernel
theorem dX3_givenArray_11 : decode cX3_givenArray 11 = .ok (.istore_n 2, 1) := by decide +kernel
theorem dX3_givenArray_12 : decode cX3_givenArray 12 = .ok (.iconst 0, 1) := by decide +kernel
theorem dX3_givenArray_13 : decode cX3_givenArray 13 = .ok (.istore_n 3, 1) := by decide +kernel
theorem dX3_givenArray_14 : decode cX3_givenArray 14 = .ok (.iload_n 3, 1) := by decide +kernel
theorem dX3_givenArray_15 : decode cX3_givenArray 15 = .ok (.i2l, 1) := by decide +kernel
theorem dX3_givenArray_16 : decode cX3_givenArray 16 = .ok (.aload_n 0, 1) := by decide +kernel
theorem dX3_givenArray_17 : decode cX3_givenArray 17 = .ok (.getfield 11, 3) := by decide +kernel
theorem dX3_givenArray_20 : decode cX3_givenArray 20 = .ok (.iload_n 1, 1) := by decide +kernel
theorem dX3_givenArray_21 : decode cX3_givenArray 21 = .ok (.laload, 1) := by decide +kernel
theorem dX3_givenArray_22 : decode cX3_givenArray 22 = .ok (.lcmp, 1) := by decide +kernel
theorem dX3_givenArray_23 : decode cX3_givenArray 23 = .ok (.ifCond .ge 37, 3) := by decide +kernel
theorem dX3_givenArray_26 : decode cX3_givenArray 26 = .ok (.aload_n 0, 1) := by decide +kernel
theorem dX3_givenArray_27 : decode cX3_givenArray 27 = .ok (.getfield 17, 3) := by decide +kernel
theorem dX3_givenArray_30 : decode cX3_givenArray 30 = .ok (.iload_n 1, 1) := by decide +kernel
theorem dX3_givenArray_31 : decode cX3_givenArray 31 = .ok (.aaload, 1) := by decide +kernel
theorem dX3_givenArray_32 : decode cX3_givenArray 32 = .ok (.ifnull 28, 3) := by decide +kernel
theorem dX3_givenArray_35 : decode cX3_givenArray 35 = .ok (.aload_n 0, 1) := by decide +kernel
theorem dX3_givenArray_36 : decode cX3_givenArray 36 = .ok (.getfield 21, 3) := by decide +kernel
theorem dX3_givenArray_39 : decode cX3_givenArray 39 = .ok (.iload_n 2, 1) := by decide +kernel
theorem dX3_givenArray_40 : decode cX3_givenArray 40 = .ok (.iconst 1, 1) := by decide +kernel
theorem dX3_givenArray_41 : decode cX3_givenArray 41 = .ok (.iadd, 1) := by decide +kernel
theorem dX3_givenArray_42 : decode cX3_givenArray 42 = .ok (.iload_n 3, 1) := by decide +kernel
theorem dX3_givenArray_43 : decode cX3_givenArray 43 = .ok (.iadd, 1) := by decide +kernel
theorem dX3_givenArray_44 : decode cX3_givenArray 44 = .ok (.aload_n 0, 1) := by decide +kernel
theorem dX3_givenArray_45 : decode cX3_givenArray 45 = .ok (.getfield 17, 3) := by decide +kernel
theorem dX3_givenArray_48 : decode cX3_givenArray 48 = .ok (.iload_n 1, 1) := by decide +kernel
theorem dX3_givenArray_49 : decode cX3_givenArray 49 = .ok (.aaload, 1) := by decide +kernel
theorem dX3_givenArray_50 : decode cX3_givenArray 50 = .ok (.iload_n 3, 1) := by decide +kernel
theorem dX3_givenArray_51 : decode cX3_givenArray 51 = .ok (.iaload, 1) := by decide +kernel
theorem dX3_givenArray_52 : decode cX3_givenArray 52 = .ok (.i2l, 1) := by decide +kernel
theorem dX3_givenArray_53 : decode cX3_givenArray 53 = .ok (.lastore, 1) := by decide +kernel
theorem dX3_givenArray_54 : decode cX3_givenArray 54 = .ok (.iinc 3 1, 3) := by decide +kernel
theorem dX3_givenArray_57 : decode cX3_givenArray 57 = .ok (.goto (-43), 3) := by decide +kernel
theorem dX3_givenArray_60 : decode cX3_givenArray 60 = .ok (.iload_n 2, 1) := by decide +kernel
theorem dX3_givenArray_61 : decode cX3_givenArray 61 = .ok (.i2l, 1) := by decide +kernel
theorem dX3_givenArray_62 : decode cX3_givenArray 62 = .ok (.lreturn, 1) := by decide +kernel
theorem dX3_room_0 : decode cX3_room 0 = .ok (.aload_n 0, 1) := by decide +kernel
theorem dX3_room_1 : decode cX3_room 1 = .ok (.getfield 94, 3) := by decide +kernel
theorem dX3_room_4 : decode cX3_room 4 = .ok (.iload_n 1, 1) := by decide +kernel
theorem dX3_room_5 : decode cX3_room 5 = .ok (.iadd, 1) := by decide +kernel
theorem dX3_room_6 : decode cX3_room 6 = .ok (.aload_n 0, 1) := by decide +kernel
theorem dX3_room_7 : decode cX3_room 7 = .ok (.getfield 21, 3) := by decide +kernel
theorem dX3_room_10 : decode cX3_room 10 = .ok (.arraylength, 1) := by decide +kernel
theorem dX3_room_11 : decode cX3_room 11 = .ok (.if_icmp .le 22, 3) := by decide +kernel
theorem dX3_room_14 : decode cX3_room 14 = .ok (.aload_n 0, 1) := by decide +kernel
theorem dX3_room_15 : decode cX3_room 15 = .ok (.aload_n 0, 1) := by decide +kernel
theorem dX3_room_16 : decode cX3_room 16 = .ok (.getfield 21, 3) := by decide +kernel
theorem dX3_room_19 : decode cX3_room 19 = .ok (.iconst 2, 1) := by decide +kernel
theorem dX3_room_20 : decode cX3_room 20 = .ok (.aload_n 0, 1) := by decide +kernel
theorem dX3_room_21 : decode cX3_room 21 = .ok (.getfield 94, 3) := by decide +kernel
theorem dX3_room_24 : decode cX3_room 24 = .ok (.iload_n 1, 1) := by decide +kernel
theorem dX3_room_25 : decode cX3_room 25 = .ok (.iadd, 1) := by decide +kernel
theorem dX3_room_26 : decode cX3_room 26 = .ok (.imul, 1) := by decide +kernel
theorem dX3_room_27 : decode cX3_room 27 = .ok (.invokestatic 136, 3) := by decide +kernel
theorem dX3_room_30 : decode cX3_room 30 = .ok (.putfield 21, 3) := by decide +kernel
theorem dX3_room_33 : decode cX3_room 33 = .ok (.aload_n 0, 1) := by decide +kernel
theorem dX3_room_34 : decode cX3_room 34 = .ok (.dup, 1) := by decide +kernel
theorem dX3_room_35 : decode cX3_room 35 = .ok (.getfield 94, 3) := by decide +kernel
theorem dX3_room_38 : decode cX3_room 38 = .ok (.iload_n 1, 1) := by decide +kernel
theorem dX3_room_39 : decode cX3_room 39 = .ok (.iadd, 1) := by decide +kernel
theorem dX3_room_40 : decode cX3_room 40 = .ok (.putfield 94, 3) := by decide +kernel
theorem dX3_room_43 : decode cX3_room 43 = .ok (.aload_n 0, 1) := by decide +kernel
theorem dX3_room_44 : decode cX3_room 44 = .ok (.getfield 94, 3) := by decide +kernel
theorem dX3_room_47 : decode cX3_room 47 = .ok (.iload_n 1, 1) := by decide +kernel
theorem dX3_room_48 : decode cX3_room 48 = .ok (.isub, 1) := by decide +kernel
theorem dX3_room_49 : decode cX3_room 49 = .ok (.ireturn, 1) := by decide +kernel
theorem dX3_array_0 : decode cX3_array 0 = .ok (.aload_n 0, 1) := by decide +kernel
theorem dX3_array_1 : decode cX3_array 1 = .ok (.iload_n 1, 1) := by decide +kernel
theorem dX3_array_2 : decode cX3_array 2 = .ok (.iconst 1, 1) := by decide +kernel
theorem dX3_array_3 : decode cX3_array 3 = .ok (.iadd, 1) := by decide +kernel
theorem dX3_array_4 : decode cX3_array 4 = .ok (.invokevirtual 140, 3) := by decide +kernel
theorem dX3_array_7 : decode cX3_array 7 = .ok (.istore_n 2, 1) := by decide +kernel
theorem dX3_array_8 : decode cX3_array 8 = .ok (.aload_n 0, 1) := by decide +kernel
theorem dX3_array_9 : decode cX3_array 9 = .ok (.getfield 21, 3) := by decide +kernel
theorem dX3_array_12 : decode cX3_array 12 = .ok (.iload_n 2, 1) := by decide +kernel
theorem dX3_array_13 : decode cX3_array 13 = .ok (.iload_n 1, 1) := by decide +kernel
theorem dX3_array_14 : decode cX3_array 14 = .ok (.i2l, 1) := by decide +kernel
theorem dX3_array_15 : decode cX3_array 15 = .ok (.lastore, 1) := by decide +kernel
theorem dX3_array_16 : decode cX3_array 16 = .ok (.iconst 1, 1) := by decide +kernel
theorem dX3_array_17 : decode cX3_array 17 = .ok (.istore_n 3, 1) := by decide +kernel
theorem dX3_array_18 : decode cX3_array 18 = .ok (.iload_n 3, 1) := by decide +kernel
theorem dX3_array_19 : decode cX3_array 19 = .ok (.iload_n 1, 1) := by decide +kernel
theorem dX3_array_20 : decode cX3_array 20 = .ok (.if_icmp .gt 18, 3) := by decide +kernel
theorem dX3_array_23 : decode cX3_array 23 = .ok (.aload_n 0, 1) := by decide +kernel
theorem dX3_array_24 : decode cX3_array 24 = .ok (.getfield 21, 3) := by decide +kernel
theorem dX3_array_27 : decode cX3_array 27 = .ok (.iload_n 2, 1) := by decide +kernel
theorem dX3_array_28 : decode cX3_array 28 = .ok (.iload_n 3, 1) := by decide +kernel
theorem dX3_array_29 : decode cX3_array 29 = .ok (.iadd, 1) := by decide +kernel
theorem dX3_array_30 : decode cX3_array 30 = .ok (.lconst 0, 1) := by decide +kernel
theorem dX3_array_31 : decode cX3_array 31 = .ok (.lastore, 1) := by decide +kernel
theorem dX3_array_32 : decode cX3_array 32 = .ok (.iinc 3 1, 3) := by decide +kernel
theorem dX3_array_35 : decode cX3_array 35 = .ok (.goto (-17), 3) := by decide +kernel
theorem dX3_array_38 : decode cX3_array 38 = .ok (.aload_n 0, 1) := by decide +kernel
theorem dX3_array_39 : decode cX3_array 39 = .ok (.dup, 1) := by decide +kernel
theorem dX3_array_40 : decode cX3_array 40 = .ok (.getfield 103, 3) := by decide +kernel
theorem dX3_array_43 : decode cX3_array 43 = .ok (.iload_n 1, 1) := by decide +kernel
theorem dX3_array_44 : decode cX3_array 44 = .ok (.iadd, 1) := by decide +kernel
theorem dX3_array_45 : decode cX3_array 45 = .ok (.putfield 103, 3) := by decide +kernel
theorem dX3_array_48 : decode cX3_array 48 = .ok (.iload_n 2, 1) := by decide +kernel
theorem dX3_array_49 : decode cX3_array 49 = .ok (.ireturn, 1) := by decide +kernel
theorem dX6_rise_0 : decode cX6_rise 0 = .ok (.aload_n 0, 1) := by decide +kernel
theorem dX6_rise_1 : decode cX6_rise 1 = .ok (.getfield 13, 3) := by decide +kernel
theorem dX6_rise_4 : decode cX6_rise 4 = .ok (.aload_n 0, 1) := by decide +kernel
theorem dX6_rise_5 : decode cX6_rise 5 = .ok (.getfield 13, 3) := by decide +kernel
theorem dX6_rise_8 : decode cX6_rise 8 = .ok (.imul, 1) := by decide +kernel
theorem dX6_rise_9 : decode cX6_rise 9 = .ok (.istore_n 1, 1) := by decide +kernel
theorem dX6_rise_10 : decode cX6_rise 10 = .ok (.aload_n 0, 1) := by decide +kernel
theorem dX6_rise_11 : decode cX6_rise 11 = .ok (.aload_n 0, 1) := by decide +kernel
theorem dX6_rise_12 : decode cX6_rise 12 = .ok (.getfield 17, 3) := by decide +kernel
theorem dX6_rise_15 : decode cX6_rise 15 = .ok (.iconst 2, 1) := by decide +kernel
theorem dX6_rise_16 : decode cX6_rise 16 = .ok (.iload_n 1, 1) := by decide +kernel
theorem dX6_rise_17 : decode cX6_rise 17 = .ok (.imul, 1) := by decide +kernel
theorem dX6_rise_18 : decode cX6_rise 18 = .ok (.iadd, 1) := by decide +kernel
theorem dX6_rise_19 : decode cX6_rise 19 = .ok (.invokevirtual 27, 3) := by decide +kernel
theorem dX6_rise_22 : decode cX6_rise 22 = .ok (.aload_n 0, 1) := by decide +kernel
theorem dX6_rise_23 : decode cX6_rise 23 = .ok (.getfield 7, 3) := by decide +kernel
theorem dX6_rise_26 : decode cX6_rise 26 = .ok (.aload_n 0, 1) := by decide +kernel
theorem dX6_rise_27 : decode cX6_rise 27 = .ok (.getfield 17, 3) := by decide +kernel
theorem dX6_rise_30 : decode cX6_rise 30 = .ok (.aload_n 0, 1) := by decide +kernel
theorem dX6_rise_31 : decode cX6_rise 31 = .ok (.getfield 7, 3) := by decide +kernel
theorem dX6_rise_34 : decode cX6_rise 34 = .ok (.aload_n 0, 1) := by decide +kernel
theorem dX6_rise_35 : decode cX6_rise 35 = .ok (.getfield 17, 3) := by decide +kernel
theorem dX6_rise_38 : decode cX6_rise 38 = .ok (.iload_n 1, 1) := by decide +kernel
theorem dX6_rise_39 : decode cX6_rise 39 = .ok (.iadd, 1) := by decide +kernel
theorem dX6_rise_40 : decode cX6_rise 40 = .ok (.iload_n 1, 1) := by decide +kernel
theorem dX6_rise_41 : decode cX6_rise 41 = .ok (.invokestatic 39, 3) := by decide +kernel
theorem dX6_rise_44 : decode cX6_rise 44 = .ok (.aload_n 0, 1) := by decide +kernel
theorem dX6_rise_45 : decode cX6_rise 45 = .ok (.dup, 1) := by decide +kernel
theorem dX6_rise_46 : decode cX6_rise 46 = .ok (.getfield 17, 3) := by decide +kernel
theorem dX6_rise_49 : decode cX6_rise 49 = .ok (.iload_n 1, 1) := by decide +kernel
theorem dX6_rise_50 : decode cX6_rise 50 = .ok (.iadd, 1) := by decide +kernel
theorem dX6_rise_51 : decode cX6_rise 51 = .ok (.putfield 17, 3) := by decide +kernel
theorem dX6_rise_54 : decode cX6_rise 54 = .ok (.return_, 1) := by decide +kernel
theorem dX6_sink_0 : decode cX6_sink 0 = .ok (.aload_n 0, 1) := by decide +kernel
theorem dX6_sink_1 : decode cX6_sink 1 = .ok (.iconst 0, 1) := by decide +kernel
theorem dX6_sink_2 : decode cX6_sink 2 = .ok (.aload_n 0, 1) := by decide +kernel
theorem dX6_sink_3 : decode cX6_sink 3 = .ok (.getfield 17, 3) := by decide +kernel
theorem dX6_sink_6 : decode cX6_sink 6 = .ok (.aload_n 0, 1) := by decide +kernel
theorem dX6_sink_7 : decode cX6_sink 7 = .ok (.getfield 13, 3) := by decide +kernel
theorem dX6_sink_10 : decode cX6_sink 10 = .ok (.aload_n 0, 1) := by decide +kernel
theorem dX6_sink_11 : decode cX6_sink 11 = .ok (.getfield 13, 3) := by decide +kernel
theorem dX6_sink_14 : decode cX6_sink 14 = .ok (.imul, 1) := by decide +kernel
theorem dX6_sink_15 : decode cX6_sink 15 = .ok (.isub, 1) := by decide +kernel
theorem dX6_sink_16 : decode cX6_sink 16 = .ok (.invokestatic 45, 3) := by decide +kernel
theorem dX6_sink_19 : decode cX6_sink 19 = .ok (.putfield 17, 3) := by decide +kernel
theorem dX6_sink_22 : decode cX6_sink 22 = .ok (.aload_n 0, 1) := by decide +kernel
theorem dX6_sink_23 : decode cX6_sink 23 = .ok (.iconst 0, 1) := by decide +kernel
theorem dX6_sink_24 : decode cX6_sink 24 = .ok (.putfield 24, 3) := by decide +kernel
theorem dX6_sink_27 : decode cX6_sink 27 = .ok (.return_, 1) := by decide +kernel
