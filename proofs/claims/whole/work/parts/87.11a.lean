theorem dX11_split_13 : decode cX11_split 13 = .ok (.aload_n 0, 1) := by decide +kernel
theorem dX11_split_14 : decode cX11_split 14 = .ok (.getfield 9, 3) := by decide +kernel
theorem dX11_split_17 : decode cX11_split 17 = .ok (.ifCond .ge 59, 3) := by decide +kernel
theorem dX11_split_20 : decode cX11_split 20 = .ok (.aload_n 0, 1) := by decide +kernel
theorem dX11_split_21 : decode cX11_split 21 = .ok (.getfield 15, 3) := by decide +kernel
theorem dX11_split_24 : decode cX11_split 24 = .ok (.iload_n 1, 1) := by decide +kernel
theorem dX11_split_25 : decode cX11_split 25 = .ok (.invokevirtual 38, 3) := by decide +kernel
theorem dX11_split_28 : decode cX11_split 28 = .ok (.istore_n 2, 1) := by decide +kernel
theorem dX11_split_29 : decode cX11_split 29 = .ok (.iload_n 2, 1) := by decide +kernel
theorem dX11_split_30 : decode cX11_split 30 = .ok (.bipush 32, 2) := by decide +kernel
theorem dX11_split_32 : decode cX11_split 32 = .ok (.if_icmp .eq 38, 3) := by decide +kernel
theorem dX11_split_35 : decode cX11_split 35 = .ok (.iload_n 2, 1) := by decide +kernel
theorem dX11_split_36 : decode cX11_split 36 = .ok (.bipush 10, 2) := by decide +kernel
theorem dX11_split_38 : decode cX11_split 38 = .ok (.if_icmp .eq 32, 3) := by decide +kernel
theorem dX11_split_41 : decode cX11_split 41 = .ok (.aload_n 0, 1) := by decide +kernel
theorem dX11_split_42 : decode cX11_split 42 = .ok (.iload_n 1, 1) := by decide +kernel
theorem dX11_split_43 : decode cX11_split 43 = .ok (.invokevirtual 42, 3) := by decide +kernel
theorem dX11_split_46 : decode cX11_split 46 = .ok (.istore_n 3, 1) := by decide +kernel
theorem dX11_split_47 : decode cX11_split 47 = .ok (.iload_n 3, 1) := by decide +kernel
theorem dX11_split_48 : decode cX11_split 48 = .ok (.iload_n 1, 1) := by decide +kernel
theorem dX11_split_49 : decode cX11_split 49 = .ok (.if_icmp .le 16, 3) := by decide +kernel
theorem dX11_split_52 : decode cX11_split 52 = .ok (.aload_n 0, 1) := by decide +kernel
theorem dX11_split_53 : decode cX11_split 53 = .ok (.iload_n 1, 1) := by decide +kernel
theorem dX11_split_54 : decode cX11_split 54 = .ok (.iload_n 3, 1) := by decide +kernel
theorem dX11_split_55 : decode cX11_split 55 = .ok (.invokevirtual 46, 3) := by decide +kernel
theorem dX11_split_58 : decode cX11_split 58 = .ok (.iload_n 3, 1) := by decide +kernel
theorem dX11_split_59 : decode cX11_split 59 = .ok (.iconst 1, 1) := by decide +kernel
theorem dX11_split_60 : decode cX11_split 60 = .ok (.isub, 1) := by decide +kernel
theorem dX11_split_61 : decode cX11_split 61 = .ok (.istore_n 1, 1) := by decide +kernel
theorem dX11_split_62 : decode cX11_split 62 = .ok (.goto 8, 3) := by decide +kernel
theorem dX11_split_65 : decode cX11_split 65 = .ok (.aload_n 0, 1) := by decide +kernel
theorem dX11_split_66 : decode cX11_split 66 = .ok (.iload_n 1, 1) := by decide +kernel
theorem dX11_split_67 : decode cX11_split 67 = .ok (.putfield 9, 3) := by decide +kernel
theorem dX11_split_70 : decode cX11_split 70 = .ok (.iinc 1 1, 3) := by decide +kernel
theorem dX11_split_73 : decode cX11_split 73 = .ok (.goto (-71), 3) := by decide +kernel
theorem dX11_add_0 : decode cX11_add 0 = .ok (.aload_n 0, 1) := by decide +kernel
theorem dX11_add_1 : decode cX11_add 1 = .ok (.getfield 15, 3) := by decide +kernel
theorem dX11_add_4 : decode cX11_add 4 = .ok (.iload_n 1, 1) := by decide +kernel
theorem dX11_add_5 : decode cX11_add 5 = .ok (.invokevirtual 38, 3) := by decide +kernel
theorem dX11_add_8 : decode cX11_add 8 = .ok (.istore_n 3, 1) := by decide +kernel
theorem dX11_add_9 : decode cX11_add 9 = .ok (.aload_n 0, 1) := by decide +kernel
theorem dX11_add_10 : decode cX11_add 10 = .ok (.getfield 29, 3) := by decide +kernel
theorem dX11_add_13 : decode cX11_add 13 = .ok (.aload_n 0, 1) := by decide +kernel
theorem dX11_add_14 : decode cX11_add 14 = .ok (.getfield 50, 3) := by decide +kernel
theorem dX11_add_17 : decode cX11_add 17 = .ok (.iload_n 1, 1) := by decide +kernel
theorem dX11_add_18 : decode cX11_add 18 = .ok (.iastore, 1) := by decide +kernel
theorem dX11_add_19 : decode cX11_add 19 = .ok (.aload_n 0, 1) := by decide +kernel
theorem dX11_add_20 : decode cX11_add 20 = .ok (.getfield 32, 3) := by decide +kernel
theorem dX11_add_23 : decode cX11_add 23 = .ok (.aload_n 0, 1) := by decide +kernel
theorem dX11_add_24 : decode cX11_add 24 = .ok (.getfield 50, 3) := by decide +kernel
theorem dX11_add_27 : decode cX11_add 27 = .ok (.iload_n 2, 1) := by decide +kernel
theorem dX11_add_28 : decode cX11_add 28 = .ok (.iastore, 1) := by decide +kernel
theorem dX11_add_29 : decode cX11_add 29 = .ok (.iload_n 3, 1) := by decide +kernel
theorem dX11_add_30 : decode cX11_add 30 = .ok (.invokestatic 53, 3) := by decide +kernel
theorem dX11_add_33 : decode cX11_add 33 = .ok (.ifCond .eq 21, 3) := by decide +kernel
theorem dX11_add_36 : decode cX11_add 36 = .ok (.aload_n 0, 1) := by decide +kernel
theorem dX11_add_37 : decode cX11_add 37 = .ok (.getfield 25, 3) := by decide +kernel
theorem dX11_add_40 : decode cX11_add 40 = .ok (.aload_n 0, 1) := by decide +kernel
theorem dX11_add_41 : decode cX11_add 41 = .ok (.getfield 50, 3) := by decide +kernel
theorem dX11_add_44 : decode cX11_add 44 = .ok (.aload_n 0, 1) := by decide +kernel
theorem dX11_add_45 : decode cX11_add 45 = .ok (.iload_n 1, 1) := by decide +kernel
theorem dX11_add_46 : decode cX11_add 46 = .ok (.iload_n 2, 1) := by decide +kernel
theorem dX11_add_47 : decode cX11_add 47 = .ok (.invokevirtual 57, 3) := by decide +kernel
theorem dX11_add_50 : decode cX11_add 50 = .ok (.iastore, 1) := by decide +kernel
theorem dX11_add_51 : decode cX11_add 51 = .ok (.goto 48, 3) := by decide +kernel
theorem dX11_add_54 : decode cX11_add 54 = .ok (.iload_n 3, 1) := by decide +kernel
theorem dX11_add_55 : decode cX11_add 55 = .ok (.invokestatic 61, 3) := by decide +kernel
theorem dX11_add_58 : decode cX11_add 58 = .ok (.ifCond .eq 16, 3) := by decide +kernel
theorem dX11_add_61 : decode cX11_add 61 = .ok (.aload_n 0, 1) := by decide +kernel
theorem dX11_add_62 : decode cX11_add 62 = .ok (.getfield 25, 3) := by decide +kernel
theorem dX11_add_65 : decode cX11_add 65 = .ok (.aload_n 0, 1) := by decide +kernel
theorem dX11_add_66 : decode cX11_add 66 = .ok (.getfield 50, 3) := by decide +kernel
theorem dX11_add_69 : decode cX11_add 69 = .ok (.iconst 2, 1) := by decide +kernel
theorem dX11_add_70 : decode cX11_add 70 = .ok (.iastore, 1) := by decide +kernel
theorem dX11_add_71 : decode cX11_add 71 = .ok (.goto 28, 3) := by decide +kernel
theorem dX11_add_74 : decode cX11_add 74 = .ok (.aload_n 0, 1) := by decide +kernel
theorem dX11_add_75 : decode cX11_add 75 = .ok (.getfield 25, 3) := by decide +kernel
theorem dX11_add_78 : decode cX11_add 78 = .ok (.aload_n 0, 1) := by decide +kernel
theorem dX11_add_79 : decode cX11_add 79 = .ok (.getfield 50, 3) := by decide +kernel
theorem dX11_add_82 : decode cX11_add 82 = .ok (.iload_n 2, 1) := by decide +kernel
theorem dX11_add_83 : decode cX11_add 83 = .ok (.iload_n 1, 1) := by decide +kernel
theorem dX11_add_84 : decode cX11_add 84 = .ok (.isub, 1) := by decide +kernel
theorem dX11_add_85 : decode cX11_add 85 = .ok (.iconst 2, 1) := by decide +kernel
theorem dX11_add_86 : decode cX11_add 86 = .ok (.if_icmp .ne 11, 3) := by decide +kernel
theorem dX11_add_89 : decode cX11_add 89 = .ok (.aload_n 0, 1) := by decide +kernel
theorem dX11_add_90 : decode cX11_add 90 = .ok (.iload_n 1, 1) := by decide +kernel
theorem dX11_add_91 : decode cX11_add 91 = .ok (.invokevirtual 64, 3) := by decide +kernel
theorem dX11_add_94 : decode cX11_add 94 = .ok (.goto 4, 3) := by decide +kernel
theorem dX11_add_97 : decode cX11_add 97 = .ok (.iload_n 3, 1) := by decide +kernel
theorem dX11_add_98 : decode cX11_add 98 = .ok (.iastore, 1) := by decide +kernel
theorem dX11_add_99 : decode cX11_add 99 = .ok (.aload_n 0, 1) := by decide +kernel
theorem dX11_add_100 : decode cX11_add 100 = .ok (.dup, 1) := by decide +kernel
theorem dX11_add_101 : decode cX11_add 101 = .ok (.getfield 50, 3) := by decide +kernel
theorem dX11_add_104 : decode cX11_add 104 = .ok (.iconst 1, 1) := by decide +kernel
theorem dX11_add_105 : decode cX11_add 105 = .ok (.iadd, 1) := by decide +kernel
theorem dX11_add_106 : decode cX11_add 106 = .ok (.putfield 50, 3) := by decide +kernel
theorem dX11_add_109 : decode cX11_add 109 = .ok (.return_, 1) := by decide +kernel
theorem dX11_endOfWord_0 : decode cX11_endOfWord 0 = .ok (.aload_n 0, 1) := by decide +kernel
theorem dX11_endOfWord_1 : decode cX11_endOfWord 1 = .ok (.getfield 15, 3) := by decide +kernel
theorem dX11_endOfWord_4 : decode cX11_endOfWord 4 = .ok (.iload_n 1, 1) := by decide +kernel
theorem dX11_endOfWord_5 : decode cX11_endOfWord 5 = .ok (.invokevirtual 38, 3) := by decide +kernel
theorem dX11_endOfWord_8 : decode cX11_endOfWord 8 = .ok (.istore_n 2, 1) := by decide +kernel
theorem dX11_endOfWord_9 : decode cX11_endOfWord 9 = .ok (.iload_n 2, 1) := by decide +kernel
theorem dX11_endOfWord_10 : decode cX11_endOfWord 10 = .ok (.invokestatic 53, 3) := by decide +kernel
theorem dX11_endOfWord_13 : decode cX11_endOfWord 13 = .ok (.istore_n 3, 1) := by decide +kernel
theorem dX11_endOfWord_14 : decode cX11_endOfWord 14 = .ok (.iload_n 3, 1) := by decide +kernel
theorem dX11_endOfWord_15 : decode cX11_endOfWord 15 = .ok (.ifCond .ne 10, 3) := by decide +kernel
theorem dX11_endOfWord_18 : decode cX11_endOfWord 18 = .ok (.iload_n 2, 1) := by decide +kernel
theorem dX11_endOfWord_19 : decode cX11_endOfWord 19 = .ok (.invokestatic 61, 3) := by decide +kernel
theorem dX11_endOfWord_22 : decode cX11_endOfWord 22 = .ok (.ifCond .eq 66, 3) := by decide +kernel
theorem dX11_endOfWord_25 : decode cX11_endOfWord 25 = .ok (.iload_n 1, 1) := by decide +kernel
theorem dX11_endOfWord_26 : decode cX11_endOfWord 26 = .ok (.iconst 1, 1) := by decide +kernel
theorem dX11_endOfWord_27 : decode cX11_endOfWord 27 = .ok (.iadd, 1) := by decide +kernel
theorem dX11_endOfWord_28 : decode cX11_endOfWord 28 = .ok (.istore 4, 2) := by decide +kernel
theorem dX11_endOfWord_30 : decode cX11_endOfWord 30 = .ok (.iload 4, 2) := by decide +kernel
theorem dX11_endOfWord_32 : decode cX11_endOfWord 32 = .ok (.aload_n 0, 1) := by decide +kernel
theorem dX11_endOfWord_33 : decode cX11_endOfWord 33 = .ok (.getfield 15, 3) := by decide +kernel
theorem dX11_endOfWord_36 : decode cX11_endOfWord 36 = .ok (.invokevirtual 19, 3) := by decide +kernel
theorem dX11_endOfWord_39 : decode cX11_endOfWord 39 = .ok (.if_icmp .ge 25, 3) := by decide +kernel
theorem dX11_endOfWord_42 : decode cX11_endOfWord 42 = .ok (.aload_n 0, 1) := by decide +kernel
theorem dX11_endOfWord_43 : decode cX11_endOfWord 43 = .ok (.getfield 15, 3) := by decide +kernel
theorem dX11_endOfWord_46 : decode cX11_endOfWord 46 = .ok (.iload 4, 2) := by decide +kernel
theorem dX11_endOfWord_48 : decode cX11_endOfWord 48 = .ok (.invokevirtual 38, 3) := by decide +kernel
theorem dX11_endOfWord_51 : decode cX11_endOfWord 51 = .ok (.iload_n 3, 1) := by decide +kernel
theorem dX11_endOfWord_52 : decode cX11_endOfWord 52 = .ok (.invokestatic 67, 3) := by decide +kernel
theorem dX11_endOfWord_55 : decode cX11_endOfWord 55 = .ok (.ifCond .eq 9, 3) := by decide +kernel
theorem dX11_endOfWord_58 : decode cX11_endOfWord 58 = .ok (.iinc 4 1, 3) := by decide +kernel
theorem dX11_endOfWord_61 : decode cX11_endOfWord 61 = .ok (.goto (-31), 3) := by decide +kernel
theorem dX11_endOfWord_64 : decode cX11_endOfWord 64 = .ok (.iload 4, 2) := by decide +kernel
theorem dX11_endOfWord_66 : decode cX11_endOfWord 66 = .ok (.iload_n 1, 1) := by decide +kernel
theorem dX11_endOfWord_67 : decode cX11_endOfWord 67 = .ok (.isub, 1) := by decide +kernel
theorem dX11_endOfWord_68 : decode cX11_endOfWord 68 = .ok (.iload_n 3, 1) := by decide +kernel
theorem dX11_endOfWord_69 : decode cX11_endOfWord 69 = .ok (.ifCond .eq 8, 3) := by decide +kernel
theorem dX11_endOfWord_72 : decode cX11_endOfWord 72 = .ok (.bipush 10, 2) := by decide +kernel
theorem dX11_endOfWord_74 : decode cX11_endOfWord 74 = .ok (.goto 4, 3) := by decide +kernel
theorem dX11_endOfWord_77 : decode cX11_endOfWord 77 = .ok (.iconst 4, 1) := by decide +kernel
theorem dX11_endOfWord_78 : decode cX11_endOfWord 78 = .ok (.if_icmp .gt 8, 3) := by decide +kernel
theorem dX11_endOfWord_81 : decode cX11_endOfWord 81 = .ok (.iload 4, 2) := by decide +kernel
theorem dX11_endOfWord_83 : decode cX11_endOfWord 83 = .ok (.goto 4, 3) := by decide +kernel
theorem dX11_endOfWord_86 : decode cX11_endOfWord 86 = .ok (.iload_n 1, 1) := by decide +kernel
theorem dX11_endOfWord_87 : decode cX11_endOfWord 87 = .ok (.ireturn, 1) := by decide +kernel
theorem dX11_endOfWord_88 : decode cX11_endOfWord 88 = .ok (.aload_n 0, 1) := by decide +kernel
theorem dX11_endOfWord_89 : decode cX11_endOfWord 89 = .ok (.iload_n 1, 1) := by decide +kernel
theorem dX11_endOfWord_90 : decode cX11_endOfWord 90 = .ok (.invokevirtual 64, 3) := by decide +kernel
theorem dX11_endOfWord_93 : decode cX11_endOfWord 93 = .ok (.ifCond .eq 7, 3) := by decide +kernel
theorem dX11_endOfWord_96 : decode cX11_endOfWord 96 = .ok (.iload_n 1, 1) := by decide +kernel
theorem dX11_endOfWord_97 : decode cX11_endOfWord 97 = .ok (.iconst 2, 1) := by decide +kernel
theorem dX11_endOfWord_98 : decode cX11_endOfWord 98 = .ok (.iadd, 1) := by decide +kernel
theorem dX11_endOfWord_99 : decode cX11_endOfWord 99 = .ok (.ireturn, 1) := by decide +kernel
theorem dX11_endOfWord_100 : decode cX11_endOfWord 100 = .ok (.ldc 71, 2) := by decide +kernel
theorem dX11_endOfWord_102 : decode cX11_endOfWord 102 = .ok (.iload_n 2, 1) := by decide +kernel
theorem dX11_endOfWord_103 : decode cX11_endOfWord 103 = .ok (.invokevirtual 73, 3) := by decide +kernel
theorem dX11_endOfWord_106 : decode cX11_endOfWord 106 = .ok (.ifCond .lt 9, 3) := by decide +kernel
theorem dX11_endOfWord_109 : decode cX11_endOfWord 109 = .ok (.iload_n 1, 1) := by decide +kernel
theorem dX11_endOfWord_110 : decode cX11_endOfWord 110 = .ok (.iconst 1, 1) := by decide +kernel
theorem dX11_endOfWord_111 : decode cX11_endOfWord 111 = .ok (.iadd, 1) := by decide +kernel
theorem dX11_endOfWord_112 : decode cX11_endOfWord 112 = .ok (.goto 4, 3) := by decide +kernel
theorem dX11_endOfWord_115 : decode cX11_endOfWord 115 = .ok (.iload_n 1, 1) := by decide +kernel
theorem dX11_endOfWord_116 : decode cX11_endOfWord 116 = .ok (.ireturn, 1) := by decide +kernel
theorem dX11_keyword_0 : decode cX11_keyword 0 = .ok (.sipush 200, 3) := by decide +kernel
theorem dX11_keyword_3 : decode cX11_keyword 3 = .ok (.istore_n 3, 1) := by decide +kernel
theorem dX11_keyword_4 : decode cX11_keyword 4 = .ok (.iconst 0, 1) := by decide +kernel
theorem dX11_keyword_5 : decode cX11_keyword 5 = .ok (.istore 4, 2) := by decide +kernel
theorem dX11_keyword_7 : decode cX11_keyword 7 = .ok (.iconst 0, 1) := by decide +kernel
theorem dX11_keyword_8 : decode cX11_keyword 8 = .ok (.istore 5, 2) := by decide +kernel
theorem dX11_keyword_10 : decode cX11_keyword 10 = .ok (.iload 5, 2) := by decide +kernel
theorem dX11_keyword_12 : decode cX11_keyword 12 = .ok (.ldc 76, 2) := by decide +kernel
theorem dX11_keyword_14 : decode cX11_keyword 14 = .ok (.invokevirtual 19, 3) := by decide +kernel
theorem dX11_keyword_17 : decode cX11_keyword 17 = .ok (.if_icmp .ge 56, 3) := by decide +kernel
theorem dX11_keyword_20 : decode cX11_keyword 20 = .ok (.ldc 76, 2) := by decide +kernel
theorem dX11_keyword_22 : decode cX11_keyword 22 = .ok (.iload 5, 2) := by decide +kernel
theorem dX11_keyword_24 : decode cX11_keyword 24 = .ok (.invokevirtual 38, 3) := by decide +kernel
theorem dX11_keyword_27 : decode cX11_keyword 27 = .ok (.bipush 32, 2) := by decide +kernel
theorem dX11_keyword_29 : decode cX11_keyword 29 = .ok (.if_icmp .ne 38, 3) := by decide +kernel
theorem dX11_keyword_32 : decode cX11_keyword 32 = .ok (.iload 5, 2) := by decide +kernel
theorem dX11_keyword_34 : decode cX11_keyword 34 = .ok (.iload 4, 2) := by decide +kernel
theorem dX11_keyword_36 : decode cX11_keyword 36 = .ok (.isub, 1) := by decide +kernel
theorem dX11_keyword_37 : decode cX11_keyword 37 = .ok (.iload_n 2, 1) := by decide +kernel
theorem dX11_keyword_38 : decode cX11_keyword 38 = .ok (.iload_n 1, 1) := by decide +kernel
theorem dX11_keyword_39 : decode cX11_keyword 39 = .ok (.isub, 1) := by decide +kernel
theorem dX11_keyword_40 : decode cX11_keyword 40 = .ok (.if_icmp .ne 18, 3) := by decide +kernel
theorem dX11_keyword_43 : decode cX11_keyword 43 = .ok (.aload_n 0, 1) := by decide +kernel
theorem dX11_keyword_44 : decode cX11_keyword 44 = .ok (.iload 4, 2) := by decide +kernel
theorem dX11_keyword_46 : decode cX11_keyword 46 = .ok (.iload_n 1, 1) := by decide +kernel
theorem dX11_keyword_47 : decode cX11_keyword 47 = .ok (.iload_n 2, 1) := by decide +kernel
theorem dX11_keyword_48 : decode cX11_keyword 48 = .ok (.iload_n 1, 1) := by decide +kernel
theorem dX11_keyword_49 : decode cX11_keyword 49 = .ok (.isub, 1) := by decide +kernel
theorem dX11_keyword_50 : decode cX11_keyword 50 = .ok (.invokevirtual 78, 3) := by decide +kernel
theorem dX11_keyword_53 : decode cX11_keyword 53 = .ok (.ifCond .eq 5, 3) := by decide +kernel
theorem dX11_keyword_56 : decode cX11_keyword 56 = .ok (.iload_n 3, 1) := by decide +kernel
theorem dX11_keyword_57 : decode cX11_keyword 57 = .ok (.ireturn, 1) := by decide +kernel
theorem dX11_keyword_58 : decode cX11_keyword 58 = .ok (.iinc 3 1, 3) := by decide +kernel
theorem dX11_keyword_61 : decode cX11_keyword 61 = .ok (.iload 5, 2) := by decide +kernel
theorem dX11_keyword_63 : decode cX11_keyword 63 = .ok (.iconst 1, 1) := by decide +kernel
theorem dX11_keyword_64 : decode cX11_keyword 64 = .ok (.iadd, 1) := by decide +kernel
theorem dX11_keyword_65 : decode cX11_keyword 65 = .ok (.istore 4, 2) := by decide +kernel
theorem dX11_keyword_67 : decode cX11_keyword 67 = .ok (.iinc 5 1, 3) := by decide +kernel
theorem dX11_keyword_70 : decode cX11_keyword 70 = .ok (.goto (-60), 3) := by decide +kernel
theorem dX11_keyword_73 : decode cX11_keyword 73 = .ok (.iconst 1, 1) := by decide +kernel
theorem dX11_keyword_74 : decode cX11_keyword 74 = .ok (.ireturn, 1) := by decide +kernel
theorem dX11_sameLetters_0 : decode cX11_sameLetters 0 = .ok (.iconst 0, 1) := by decide +kernel
theorem dX11_sameLetters_1 : decode cX11_sameLetters 1 = .ok (.istore 4, 2) := by decide +kernel
theorem dX11_sameLetters_3 : decode cX11_sameLetters 3 = .ok (.iload 4, 2) := by decide +kernel
theorem dX11_sameLetters_5 : decode cX11_sameLetters 5 = .ok (.iload_n 3, 1) := by decide +kernel
theorem dX11_sameLetters_6 : decode cX11_sameLetters 6 = .ok (.if_icmp .ge 34, 3) := by decide +kernel
theorem dX11_sameLetters_9 : decode cX11_sameLetters 9 = .ok (.ldc 76, 2) := by decide +kernel
theorem dX11_sameLetters_11 : decode cX11_sameLetters 11 = .ok (.iload_n 1, 1) := by decide +kernel
theorem dX11_sameLetters_12 : decode cX11_sameLetters 12 = .ok (.iload 4, 2) := by decide +kernel
theorem dX11_sameLetters_14 : decode cX11_sameLetters 14 = .ok (.iadd, 1) := by decide +kernel
theorem dX11_sameLetters_15 : decode cX11_sameLetters 15 = .ok (.invokevirtual 38, 3) := by decide +kernel
theorem dX11_sameLetters_18 : decode cX11_sameLetters 18 = .ok (.aload_n 0, 1) := by decide +kernel
theorem dX11_sameLetters_19 : decode cX11_sameLetters 19 = .ok (.getfield 15, 3) := by decide +kernel
theorem dX11_sameLetters_22 : decode cX11_sameLetters 22 = .ok (.iload_n 2, 1) := by decide +kernel
theorem dX11_sameLetters_23 : decode cX11_sameLetters 23 = .ok (.iload 4, 2) := by decide +kernel
theorem dX11_sameLetters_25 : decode cX11_sameLetters 25 = .ok (.iadd, 1) := by decide +kernel
theorem dX11_sameLetters_26 : decode cX11_sameLetters 26 = .ok (.invokevirtual 38, 3) := by decide +kernel
theorem dX11_sameLetters_29 : decode cX11_sameLetters 29 = .ok (.if_icmp .eq 5, 3) := by decide +kernel
theorem dX11_sameLetters_32 : decode cX11_sameLetters 32 = .ok (.iconst 0, 1) := by decide +kernel
theorem dX11_sameLetters_33 : decode cX11_sameLetters 33 = .ok (.ireturn, 1) := by decide +kernel
theorem dX11_sameLetters_34 : decode cX11_sameLetters 34 = .ok (.iinc 4 1, 3) := by decide +kernel
theorem dX11_sameLetters_37 : decode cX11_sameLetters 37 = .ok (.goto (-34), 3) := by decide +kernel
theorem dX11_sameLetters_40 : decode cX11_sameLetters 40 = .ok (.iconst 1, 1) := by decide +kernel
theorem dX11_sameLetters_41 : decode cX11_sameLetters 41 = .ok (.ireturn, 1) := by decide +kernel
theorem dX12_compile_17 : decode cX12_compile 17 = .ok (.aload_n 1, 1) := by decide +kernel
theorem dX12_compile_18 : decode cX12_compile 18 = .ok (.iload_n 2, 1) := by decide +kernel
theorem dX12_compile_19 : decode cX12_compile 19 = .ok (.aload_n 0, 1) := by decide +kernel
theorem dX12_compile_20 : decode cX12_compile 20 = .ok (.getfield 9, 3) := by decide +kernel
theorem dX12_compile_23 : decode cX12_compile 23 = .ok (.iload_n 2, 1) := by decide +kernel
theorem dX12_compile_24 : decode cX12_compile 24 = .ok (.baload, 1) := by decide +kernel
theorem dX12_compile_25 : decode cX12_compile 25 = .ok (.sipush 255, 3) := by decide +kernel
theorem dX12_compile_28 : decode cX12_compile 28 = .ok (.iand, 1) := by decide +kernel
theorem dX12_compile_29 : decode cX12_compile 29 = .ok (.i2c, 1) := by decide +kernel
theorem dX12_compile_30 : decode cX12_compile 30 = .ok (.castore, 1) := by decide +kernel
theorem dX12_compile_31 : decode cX12_compile 31 = .ok (.iinc 2 1, 3) := by decide +kernel
theorem dX12_compile_34 : decode cX12_compile 34 = .ok (.goto (-25), 3) := by decide +kernel
theorem dX12_compile_92 : decode cX12_compile 92 = .ok (.aload_n 0, 1) := by decide +kernel
theorem dX12_compile_93 : decode cX12_compile 93 = .ok (.iconst 1, 1) := by decide +kernel
theorem dX12_compile_94 : decode cX12_compile 94 = .ok (.aload_n 2, 1) := by decide +kernel
theorem dX12_compile_95 : decode cX12_compile 95 = .ok (.getfield 76, 3) := by decide +kernel
theorem dX12_compile_98 : decode cX12_compile 98 = .ok (.invokevirtual 79, 3) := by decide +kernel
theorem dX12_compile_101 : decode cX12_compile 101 = .ok (.ireturn, 1) := by decide +kernel
theorem dX12_compile_132 : decode cX12_compile 132 = .ok (.aload_n 3, 1) := by decide +kernel
theorem dX12_compile_133 : decode cX12_compile 133 = .ok (.getfield 93, 3) := by decide +kernel
theorem dX12_compile_136 : decode cX12_compile 136 = .ok (.ifCond .lt 13, 3) := by decide +kernel
theorem dX12_compile_139 : decode cX12_compile 139 = .ok (.aload_n 0, 1) := by decide +kernel
theorem dX12_compile_140 : decode cX12_compile 140 = .ok (.iconst 3, 1) := by decide +kernel
theorem dX12_compile_141 : decode cX12_compile 141 = .ok (.aload_n 3, 1) := by decide +kernel
theorem dX12_compile_142 : decode cX12_compile 142 = .ok (.getfield 93, 3) := by decide +kernel
theorem dX12_compile_145 : decode cX12_compile 145 = .ok (.invokevirtual 79, 3) := by decide +kernel
theorem dX12_compile_148 : decode cX12_compile 148 = .ok (.ireturn, 1) := by decide +kernel
theorem dX12_compile_149 : decode cX12_compile 149 = .ok (.new 96, 3) := by decide +kernel
theorem dX12_compile_152 : decode cX12_compile 152 = .ok (.dup, 1) := by decide +kernel
theorem dX12_compile_153 : decode cX12_compile 153 = .ok (.aload_n 2, 1) := by decide +kernel
theorem dX12_compile_154 : decode cX12_compile 154 = .ok (.getfield 98, 3) := by decide +kernel
theorem dX12_compile_157 : decode cX12_compile 157 = .ok (.invokespecial 101, 3) := by decide +kernel
theorem dX12_compile_160 : decode cX12_compile 160 = .ok (.astore 4, 2) := by decide +kernel
theorem dX12_compile_162 : decode cX12_compile 162 = .ok (.aload 4, 2) := by decide +kernel
theorem dX12_compile_164 : decode cX12_compile 164 = .ok (.aload_n 3, 1) := by decide +kernel
theorem dX12_compile_165 : decode cX12_compile 165 = .ok (.invokevirtual 103, 3) := by decide +kernel
theorem dX12_compile_168 : decode cX12_compile 168 = .ok (.aload 4, 2) := by decide +kernel
theorem dX12_compile_170 : decode cX12_compile 170 = .ok (.getfield 107, 3) := by decide +kernel
theorem dX12_compile_173 : decode cX12_compile 173 = .ok (.ifCond .lt 14, 3) := by decide +kernel
theorem dX12_compile_176 : decode cX12_compile 176 = .ok (.aload_n 0, 1) := by decide +kernel
theorem dX12_compile_177 : decode cX12_compile 177 = .ok (.iconst 4, 1) := by decide +kernel
theorem dX12_compile_178 : decode cX12_compile 178 = .ok (.aload 4, 2) := by decide +kernel
theorem dX12_compile_180 : decode cX12_compile 180 = .ok (.getfield 107, 3) := by decide +kernel
theorem dX12_compile_183 : decode cX12_compile 183 = .ok (.invokevirtual 79, 3) := by decide +kernel
theorem dX12_compile_186 : decode cX12_compile 186 = .ok (.ireturn, 1) := by decide +kernel
theorem dX12_compile_187 : decode cX12_compile 187 = .ok (.aload_n 3, 1) := by decide +kernel
theorem dX12_compile_188 : decode cX12_compile 188 = .ok (.aload 4, 2) := by decide +kernel
theorem dX12_compile_190 : decode cX12_compile 190 = .ok (.getfield 108, 3) := by decide +kernel
theorem dX12_compile_193 : decode cX12_compile 193 = .ok (.invokevirtual 111, 3) := by decide +kernel
theorem dX12_compile_196 : decode cX12_compile 196 = .ok (.aload_n 3, 1) := by decide +kernel
theorem dX12_compile_197 : decode cX12_compile 197 = .ok (.getfield 114, 3) := by decide +kernel
theorem dX12_compile_200 : decode cX12_compile 200 = .ok (.ifCond .lt 13, 3) := by decide +kernel
theorem dX12_compile_203 : decode cX12_compile 203 = .ok (.aload_n 0, 1) := by decide +kernel
theorem dX12_compile_204 : decode cX12_compile 204 = .ok (.iconst 5, 1) := by decide +kernel
theorem dX12_compile_205 : decode cX12_compile 205 = .ok (.aload_n 3, 1) := by decide +kernel
theorem dX12_compile_206 : decode cX12_compile 206 = .ok (.getfield 114, 3) := by decide +kernel
theorem dX12_compile_209 : decode cX12_compile 209 = .ok (.invokevirtual 79, 3) := by decide +kernel
theorem dX12_compile_212 : decode cX12_compile 212 = .ok (.ireturn, 1) := by decide +kernel
theorem dX12_compile_213 : decode cX12_compile 213 = .ok (.aload_n 0, 1) := by decide +kernel
theorem dX12_compile_214 : decode cX12_compile 214 = .ok (.aload_n 3, 1) := by decide +kernel
theorem dX12_compile_215 : decode cX12_compile 215 = .ok (.putfield 51, 3) := by decide +kernel
theorem dX12_compile_218 : decode cX12_compile 218 = .ok (.aload_n 0, 1) := by decide +kernel
theorem dX12_compile_219 : decode cX12_compile 219 = .ok (.aload 4, 2) := by decide +kernel
theorem dX12_compile_221 : decode cX12_compile 221 = .ok (.putfield 55, 3) := by decide +kernel
theorem dX12_compile_224 : decode cX12_compile 224 = .ok (.aload_n 0, 1) := by decide +kernel
theorem dX12_compile_225 : decode cX12_compile 225 = .ok (.getfield 40, 3) := by decide +kernel
theorem dX12_compile_228 : decode cX12_compile 228 = .ok (.aload_n 3, 1) := by decide +kernel
theorem dX12_compile_229 : decode cX12_compile 229 = .ok (.aload 4, 2) := by decide +kernel
theorem dX12_compile_231 : decode cX12_compile 231 = .ok (.aload_n 3, 1) := by decide +kernel
theorem dX12_compile_232 : decode cX12_compile 232 = .ok (.getfield 117, 3) := by decide +kernel
theorem dX12_compile_235 : decode cX12_compile 235 = .ok (.getfield 121, 3) := by decide +kernel
theorem dX12_compile_238 : decode cX12_compile 238 = .ok (.invokevirtual 126, 3) := by decide +kernel
theorem dX12_compile_241 : decode cX12_compile 241 = .ok (.invokevirtual 130, 3) := by decide +kernel
theorem dX12_compile_244 : decode cX12_compile 244 = .ok (.iconst 0, 1) := by decide +kernel
theorem dX12_compile_245 : decode cX12_compile 245 = .ok (.ireturn, 1) := by decide +kernel
theorem dX12_accepted_9 : decode cX12_accepted 9 = .ok (.aload_n 0, 1) := by decide +kernel
theorem dX12_accepted_10 : decode cX12_accepted 10 = .ok (.getfield 59, 3) := by decide +kernel
theorem dX12_accepted_13 : decode cX12_accepted 13 = .ok (.ifnonnull 47, 3) := by decide +kernel
theorem dX12_accepted_16 : decode cX12_accepted 16 = .ok (.aload_n 0, 1) := by decide +kernel
theorem dX12_accepted_17 : decode cX12_accepted 17 = .ok (.new 134, 3) := by decide +kernel
theorem dX12_accepted_20 : decode cX12_accepted 20 = .ok (.dup, 1) := by decide +kernel
theorem dX12_accepted_21 : decode cX12_accepted 21 = .ok (.aload_n 0, 1) := by decide +kernel
theorem dX12_accepted_22 : decode cX12_accepted 22 = .ok (.getfield 51, 3) := by decide +kernel
theorem dX12_accepted_25 : decode cX12_accepted 25 = .ok (.aload_n 0, 1) := by decide +kernel
theorem dX12_accepted_26 : decode cX12_accepted 26 = .ok (.getfield 55, 3) := by decide +kernel
theorem dX12_accepted_29 : decode cX12_accepted 29 = .ok (.aload_n 0, 1) := by decide +kernel
theorem dX12_accepted_30 : decode cX12_accepted 30 = .ok (.getfield 33, 3) := by decide +kernel
theorem dX12_accepted_33 : decode cX12_accepted 33 = .ok (.invokespecial 136, 3) := by decide +kernel
theorem dX12_accepted_36 : decode cX12_accepted 36 = .ok (.putfield 59, 3) := by decide +kernel
theorem dX12_accepted_39 : decode cX12_accepted 39 = .ok (.aload_n 0, 1) := by decide +kernel
theorem dX12_accepted_40 : decode cX12_accepted 40 = .ok (.getfield 59, 3) := by decide +kernel
theorem dX12_accepted_43 : decode cX12_accepted 43 = .ok (.invokevirtual 139, 3) := by decide +kernel
theorem dX12_accepted_46 : decode cX12_accepted 46 = .ok (.aload_n 0, 1) := by decide +kernel
theorem dX12_accepted_47 : decode cX12_accepted 47 = .ok (.getfield 59, 3) := by decide +kernel
theorem dX12_accepted_50 : decode cX12_accepted 50 = .ok (.invokevirtual 142, 3) := by decide +kernel
theorem dX12_accepted_53 : decode cX12_accepted 53 = .ok (.aload_n 0, 1) := by decide +kernel
theorem dX12_accepted_54 : decode cX12_accepted 54 = .ok (.getfield 59, 3) := by decide +kernel
theorem dX12_accepted_57 : decode cX12_accepted 57 = .ok (.invokevirtual 145, 3) := by decide +kernel
theorem dX12_accepted_60 : decode cX12_accepted 60 = .ok (.aload_n 0, 1) := by decide +kernel
theorem dX12_accepted_61 : decode cX12_accepted 61 = .ok (.aload_n 0, 1) := by decide +kernel
theorem dX12_accepted_62 : decode cX12_accepted 62 = .ok (.getfield 59, 3) := by decide +kernel
theorem dX12_accepted_65 : decode cX12_accepted 65 = .ok (.getfield 148, 3) := by decide +kernel
theorem dX12_accepted_68 : decode cX12_accepted 68 = .ok (.putfield 13, 3) := by decide +kernel
theorem dX12_accepted_71 : decode cX12_accepted 71 = .ok (.aload_n 0, 1) := by decide +kernel
theorem dX12_accepted_72 : decode cX12_accepted 72 = .ok (.getfield 13, 3) := by decide +kernel
theorem dX12_accepted_75 : decode cX12_accepted 75 = .ok (.ifCond .ge 7, 3) := by decide +kernel
theorem dX12_accepted_78 : decode cX12_accepted 78 = .ok (.iconst 1, 1) := by decide +kernel
theorem dX12_accepted_79 : decode cX12_accepted 79 = .ok (.goto 4, 3) := by decide +kernel
theorem dX12_accepted_82 : decode cX12_accepted 82 = .ok (.iconst 0, 1) := by decide +kernel
theorem dX12_accepted_83 : decode cX12_accepted 83 = .ok (.ireturn, 1) := by decide +kernel
theorem dX12_tellNumber_0 : decode cX12_tellNumber 0 = .ok (.lload_n 1, 1) := by decide +kernel
theorem dX12_tellNumber_1 : decode cX12_tellNumber 1 = .ok (.lconst 0, 1) := by decide +kernel
theorem dX12_tellNumber_2 : decode cX12_tellNumber 2 = .ok (.lcmp, 1) := by decide +kernel
theorem dX12_tellNumber_3 : decode cX12_tellNumber 3 = .ok (.ifCond .ge 9, 3) := by decide +kernel
theorem dX12_tellNumber_6 : decode cX12_tellNumber 6 = .ok (.aload_n 0, 1) := by decide +kernel
theorem dX12_tellNumber_7 : decode cX12_tellNumber 7 = .ok (.bipush 45, 2) := by decide +kernel
theorem dX12_tellNumber_9 : decode cX12_tellNumber 9 = .ok (.invokevirtual 201, 3) := by decide +kernel
theorem dX12_tellNumber_12 : decode cX12_tellNumber 12 = .ok (.lload_n 1, 1) := by decide +kernel
theorem dX12_tellNumber_13 : decode cX12_tellNumber 13 = .ok (.invokestatic 277, 3) := by decide +kernel
theorem dX12_tellNumber_16 : decode cX12_tellNumber 16 = .ok (.lstore_n 3, 1) := by decide +kernel
theorem dX12_tellNumber_17 : decode cX12_tellNumber 17 = .ok (.lconst 1, 1) := by decide +kernel
theorem dX12_tellNumber_18 : decode cX12_tellNumber 18 = .ok (.lstore 5, 2) := by decide +kernel
theorem dX12_tellNumber_20 : decode cX12_tellNumber 20 = .ok (.iconst 0, 1) := by decide +kernel
theorem dX12_tellNumber_21 : decode cX12_tellNumber 21 = .ok (.istore 7, 2) := by decide +kernel
theorem dX12_tellNumber_23 : decode cX12_tellNumber 23 = .ok (.iload 7, 2) := by decide +kernel
theorem dX12_tellNumber_25 : decode cX12_tellNumber 25 = .ok (.bipush 18, 2) := by decide +kernel
theorem dX12_tellNumber_27 : decode cX12_tellNumber 27 = .ok (.if_icmp .ge 28, 3) := by decide +kernel
theorem dX12_tellNumber_30 : decode cX12_tellNumber 30 = .ok (.lload_n 3, 1) := by decide +kernel
theorem dX12_tellNumber_31 : decode cX12_tellNumber 31 = .ok (.lload 5, 2) := by decide +kernel
theorem dX12_tellNumber_33 : decode cX12_tellNumber 33 = .ok (.ldiv, 1) := by decide +kernel
theorem dX12_tellNumber_34 : decode cX12_tellNumber 34 = .ok (.ldc2_w 283, 3) := by decide +kernel
theorem dX12_tellNumber_37 : decode cX12_tellNumber 37 = .ok (.lcmp, 1) := by decide +kernel
theorem dX12_tellNumber_38 : decode cX12_tellNumber 38 = .ok (.ifCond .lt 17, 3) := by decide +kernel
theorem dX12_tellNumber_41 : decode cX12_tellNumber 41 = .ok (.lload 5, 2) := by decide +kernel
theorem dX12_tellNumber_43 : decode cX12_tellNumber 43 = .ok (.ldc2_w 283, 3) := by decide +kernel
theorem dX12_tellNumber_46 : decode cX12_tellNumber 46 = .ok (.lmul, 1) := by decide +kernel
theorem dX12_tellNumber_47 : decode cX12_tellNumber 47 = .ok (.lstore 5, 2) := by decide +kernel
theorem dX12_tellNumber_49 : decode cX12_tellNumber 49 = .ok (.iinc 7 1, 3) := by decide +kernel
theorem dX12_tellNumber_52 : decode cX12_tellNumber 52 = .ok (.goto (-29), 3) := by decide +kernel
theorem dX12_tellNumber_55 : decode cX12_tellNumber 55 = .ok (.lload 5, 2) := by decide +kernel
theorem dX12_tellNumber_57 : decode cX12_tellNumber 57 = .ok (.lconst 0, 1) := by decide +kernel
theorem dX12_tellNumber_58 : decode cX12_tellNumber 58 = .ok (.lcmp, 1) := by decide +kernel
theorem dX12_tellNumber_59 : decode cX12_tellNumber 59 = .ok (.ifCond .le 32, 3) := by decide +kernel
theorem dX12_tellNumber_62 : decode cX12_tellNumber 62 = .ok (.aload_n 0, 1) := by decide +kernel
theorem dX12_tellNumber_63 : decode cX12_tellNumber 63 = .ok (.ldc2_w 285, 3) := by decide +kernel
theorem dX12_tellNumber_66 : decode cX12_tellNumber 66 = .ok (.lload_n 3, 1) := by decide +kernel
theorem dX12_tellNumber_67 : decode cX12_tellNumber 67 = .ok (.lload 5, 2) := by decide +kernel
theorem dX12_tellNumber_69 : decode cX12_tellNumber 69 = .ok (.ldiv, 1) := by decide +kernel
theorem dX12_tellNumber_70 : decode cX12_tellNumber 70 = .ok (.ldc2_w 283, 3) := by decide +kernel
theorem dX12_tellNumber_73 : decode cX12_tellNumber 73 = .ok (.lrem, 1) := by decide +kernel
theorem dX12_tellNumber_74 : decode cX12_tellNumber 74 = .ok (.ladd, 1) := by decide +kernel
theorem dX12_tellNumber_75 : decode cX12_tellNumber 75 = .ok (.l2i, 1) := by decide +kernel
theorem dX12_tellNumber_76 : decode cX12_tellNumber 76 = .ok (.i2c, 1) := by decide +kernel
theorem dX12_tellNumber_77 : decode cX12_tellNumber 77 = .ok (.invokevirtual 201, 3) := by decide +kernel
theorem dX12_tellNumber_80 : decode cX12_tellNumber 80 = .ok (.lload 5, 2) := by decide +kernel
theorem dX12_tellNumber_82 : decode cX12_tellNumber 82 = .ok (.ldc2_w 283, 3) := by decide +kernel
theorem dX12_tellNumber_85 : decode cX12_tellNumber 85 = .ok (.ldiv, 1) := by decide +kernel
theorem dX12_tellNumber_86 : decode cX12_tellNumber 86 = .ok (.lstore 5, 2) := by decide +kernel
theorem dX12_tellNumber_88 : decode cX12_tellNumber 88 = .ok (.goto (-33), 3) := by decide +kernel
theorem dX12_tellNumber_91 : decode cX12_tellNumber 91 = .ok (.return_, 1) := by decide +kernel
theorem dX12_put_0 : decode cX12_put 0 = .ok (.iconst 0, 1) := by decide +kernel
theorem dX12_put_1 : decode cX12_put 1 = .ok (.istore_n 2, 1) := by decide +kernel
theorem dX12_put_2 : decode cX12_put 2 = .ok (.iload_n 2, 1) := by decide +kernel
theorem dX12_put_3 : decode cX12_put 3 = .ok (.aload_n 1, 1) := by decide +kernel
theorem dX12_put_4 : decode cX12_put 4 = .ok (.invokevirtual 287, 3) := by decide +kernel
theorem dX12_put_7 : decode cX12_put 7 = .ok (.if_icmp .ge 18, 3) := by decide +kernel
theorem dX12_put_10 : decode cX12_put 10 = .ok (.aload_n 0, 1) := by decide +kernel
theorem dX12_put_11 : decode cX12_put 11 = .ok (.aload_n 1, 1) := by decide +kernel
theorem dX12_put_12 : decode cX12_put 12 = .ok (.iload_n 2, 1) := by decide +kernel
theorem dX12_put_13 : decode cX12_put 13 = .ok (.invokevirtual 290, 3) := by decide +kernel
theorem dX12_put_16 : decode cX12_put 16 = .ok (.invokevirtual 201, 3) := by decide +kernel
theorem dX12_put_19 : decode cX12_put 19 = .ok (.iinc 2 1, 3) := by decide +kernel
theorem dX12_put_22 : decode cX12_put 22 = .ok (.goto (-20), 3) := by decide +kernel
theorem dX12_put_25 : decode cX12_put 25 = .ok (.return_, 1) := by decide +kernel
theorem dX12_put__0 : decode cX12_put_ 0 = .ok (.aload_n 0, 1) := by decide +kernel
theorem dX12_put__1 : decode cX12_put_ 1 = .ok (.getfield 158, 3) := by decide +kernel
theorem dX12_put__4 : decode cX12_put_ 4 = .ok (.aload_n 0, 1) := by decide +kernel
theorem dX12_put__5 : decode cX12_put_ 5 = .ok (.getfield 20, 3) := by decide +kernel
theorem dX12_put__8 : decode cX12_put_ 8 = .ok (.arraylength, 1) := by decide +kernel
theorem dX12_put__9 : decode cX12_put_ 9 = .ok (.if_icmp .ne 36, 3) := by decide +kernel
theorem dX12_put__12 : decode cX12_put_ 12 = .ok (.aload_n 0, 1) := by decide +kernel
theorem dX12_put__13 : decode cX12_put_ 13 = .ok (.getfield 158, 3) := by decide +kernel
theorem dX12_put__16 : decode cX12_put_ 16 = .ok (.sipush 16000, 3) := by decide +kernel
theorem dX12_put__19 : decode cX12_put_ 19 = .ok (.if_icmp .ge 26, 3) := by decide +kernel
theorem dX12_put__22 : decode cX12_put_ 22 = .ok (.aload_n 0, 1) := by decide +kernel
theorem dX12_put__23 : decode cX12_put_ 23 = .ok (.aload_n 0, 1) := by decide +kernel
theorem dX12_put__24 : decode cX12_put_ 24 = .ok (.getfield 20, 3) := by decide +kernel
theorem dX12_put__27 : decode cX12_put_ 27 = .ok (.iconst 2, 1) := by decide +kernel
theorem dX12_put__28 : decode cX12_put_ 28 = .ok (.aload_n 0, 1) := by decide +kernel
theorem dX12_put__29 : decode cX12_put_ 29 = .ok (.getfield 158, 3) := by decide +kernel
theorem dX12_put__32 : decode cX12_put_ 32 = .ok (.imul, 1) := by decide +kernel
theorem dX12_put__33 : decode cX12_put_ 33 = .ok (.sipush 16000, 3) := by decide +kernel
theorem dX12_put__36 : decode cX12_put_ 36 = .ok (.invokestatic 294, 3) := by decide +kernel
theorem dX12_put__39 : decode cX12_put_ 39 = .ok (.invokestatic 297, 3) := by decide +kernel
theorem dX12_put__42 : decode cX12_put_ 42 = .ok (.putfield 20, 3) := by decide +kernel
theorem dX12_put__45 : decode cX12_put_ 45 = .ok (.aload_n 0, 1) := by decide +kernel
theorem dX12_put__46 : decode cX12_put_ 46 = .ok (.getfield 158, 3) := by decide +kernel
theorem dX12_put__49 : decode cX12_put_ 49 = .ok (.aload_n 0, 1) := by decide +kernel
theorem dX12_put__50 : decode cX12_put_ 50 = .ok (.getfield 20, 3) := by decide +kernel
theorem dX12_put__53 : decode cX12_put_ 53 = .ok (.arraylength, 1) := by decide +kernel
theorem dX12_put__54 : decode cX12_put_ 54 = .ok (.if_icmp .ge 14, 3) := by decide +kernel
theorem dX12_put__57 : decode cX12_put_ 57 = .ok (.aload_n 0, 1) := by decide +kernel
theorem dX12_put__58 : decode cX12_put_ 58 = .ok (.getfield 20, 3) := by decide +kernel
theorem dX12_put__61 : decode cX12_put_ 61 = .ok (.aload_n 0, 1) := by decide +kernel
theorem dX12_put__62 : decode cX12_put_ 62 = .ok (.getfield 158, 3) := by decide +kernel
theorem dX12_put__65 : decode cX12_put_ 65 = .ok (.iload_n 1, 1) := by decide +kernel
theorem dX12_put__66 : decode cX12_put_ 66 = .ok (.i2b, 1) := by decide +kernel
theorem dX12_put__67 : decode cX12_put_ 67 = .ok (.bastore, 1) := by decide +kernel
theorem dX12_put__68 : decode cX12_put_ 68 = .ok (.aload_n 0, 1) := by decide +kernel
theorem dX12_put__69 : decode cX12_put_ 69 = .ok (.dup, 1) := by decide +kernel
theorem dX12_put__70 : decode cX12_put_ 70 = .ok (.getfield 158, 3) := by decide +kernel
theorem dX12_put__73 : decode cX12_put_ 73 = .ok (.iconst 1, 1) := by decide +kernel
theorem dX12_put__74 : decode cX12_put_ 74 = .ok (.iadd, 1) := by decide +kernel
theorem dX12_put__75 : decode cX12_put_ 75 = .ok (.putfield 158, 3) := by decide +kernel
theorem dX12_put__78 : decode cX12_put_ 78 = .ok (.return_, 1) := by decide +kernel
