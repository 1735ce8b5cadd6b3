theorem dX13_element_7 : decode cX13_element 7 = .ok (.iload_n 1, 1) := by decide +kernel
theorem dX13_element_8 : decode cX13_element 8 = .ok (.ifCond .lt 37, 3) := by decide +kernel
theorem dX13_element_11 : decode cX13_element 11 = .ok (.iload_n 1, 1) := by decide +kernel
theorem dX13_element_12 : decode cX13_element 12 = .ok (.aload_n 0, 1) := by decide +kernel
theorem dX13_element_13 : decode cX13_element 13 = .ok (.getfield 481, 3) := by decide +kernel
theorem dX13_element_16 : decode cX13_element 16 = .ok (.if_icmp .ge 29, 3) := by decide +kernel
theorem dX13_element_19 : decode cX13_element 19 = .ok (.aload_n 0, 1) := by decide +kernel
theorem dX13_element_20 : decode cX13_element 20 = .ok (.getfield 95, 3) := by decide +kernel
theorem dX13_element_23 : decode cX13_element 23 = .ok (.iload_n 1, 1) := by decide +kernel
theorem dX13_element_24 : decode cX13_element 24 = .ok (.iaload, 1) := by decide +kernel
theorem dX13_element_25 : decode cX13_element 25 = .ok (.iconst 2, 1) := by decide +kernel
theorem dX13_element_26 : decode cX13_element 26 = .ok (.if_icmp .ne 19, 3) := by decide +kernel
theorem dX13_element_29 : decode cX13_element 29 = .ok (.iload_n 2, 1) := by decide +kernel
theorem dX13_element_30 : decode cX13_element 30 = .ok (.ifCond .lt 15, 3) := by decide +kernel
theorem dX13_element_33 : decode cX13_element 33 = .ok (.iload_n 2, 1) := by decide +kernel
theorem dX13_element_34 : decode cX13_element 34 = .ok (.i2l, 1) := by decide +kernel
theorem dX13_element_35 : decode cX13_element 35 = .ok (.aload_n 0, 1) := by decide +kernel
theorem dX13_element_36 : decode cX13_element 36 = .ok (.getfield 327, 3) := by decide +kernel
theorem dX13_element_39 : decode cX13_element 39 = .ok (.iload_n 1, 1) := by decide +kernel
theorem dX13_element_40 : decode cX13_element 40 = .ok (.laload, 1) := by decide +kernel
theorem dX13_element_41 : decode cX13_element 41 = .ok (.lcmp, 1) := by decide +kernel
theorem dX13_element_42 : decode cX13_element 42 = .ok (.ifCond .lt 5, 3) := by decide +kernel
theorem dX13_element_47 : decode cX13_element 47 = .ok (.aload_n 0, 1) := by decide +kernel
theorem dX13_element_48 : decode cX13_element 48 = .ok (.getfield 330, 3) := by decide +kernel
theorem dX13_element_51 : decode cX13_element 51 = .ok (.sipush 1000, 3) := by decide +kernel
theorem dX13_element_54 : decode cX13_element 54 = .ok (.iload_n 1, 1) := by decide +kernel
theorem dX13_element_55 : decode cX13_element 55 = .ok (.imul, 1) := by decide +kernel
theorem dX13_element_56 : decode cX13_element 56 = .ok (.iload_n 2, 1) := by decide +kernel
theorem dX13_element_57 : decode cX13_element 57 = .ok (.iadd, 1) := by decide +kernel
theorem dX13_element_58 : decode cX13_element 58 = .ok (.iload_n 3, 1) := by decide +kernel
theorem dX13_element_59 : decode cX13_element 59 = .ok (.i2l, 1) := by decide +kernel
theorem dX13_element_60 : decode cX13_element 60 = .ok (.lastore, 1) := by decide +kernel
theorem dX13_element_61 : decode cX13_element 61 = .ok (.iconst 1, 1) := by decide +kernel
theorem dX13_element_62 : decode cX13_element 62 = .ok (.ireturn, 1) := by decide +kernel
theorem dX13_find_0 : decode cX13_find 0 = .ok (.iload_n 1, 1) := by decide +kernel
theorem dX13_find_1 : decode cX13_find 1 = .ok (.istore_n 3, 1) := by decide +kernel
theorem dX13_find_2 : decode cX13_find 2 = .ok (.aload_n 0, 1) := by decide +kernel
theorem dX13_find_3 : decode cX13_find 3 = .ok (.getfield 334, 3) := by decide +kernel
theorem dX13_find_6 : decode cX13_find 6 = .ok (.iload_n 3, 1) := by decide +kernel
theorem dX13_find_7 : decode cX13_find 7 = .ok (.iaload, 1) := by decide +kernel
theorem dX13_find_8 : decode cX13_find 8 = .ok (.iload_n 2, 1) := by decide +kernel
theorem dX13_find_9 : decode cX13_find 9 = .ok (.if_icmp .eq 13, 3) := by decide +kernel
theorem dX13_find_12 : decode cX13_find 12 = .ok (.aload_n 0, 1) := by decide +kernel
theorem dX13_find_13 : decode cX13_find 13 = .ok (.getfield 340, 3) := by decide +kernel
theorem dX13_find_16 : decode cX13_find 16 = .ok (.iload_n 3, 1) := by decide +kernel
theorem dX13_find_17 : decode cX13_find 17 = .ok (.iaload, 1) := by decide +kernel
theorem dX13_find_18 : decode cX13_find 18 = .ok (.istore_n 3, 1) := by decide +kernel
theorem dX13_find_19 : decode cX13_find 19 = .ok (.goto (-17), 3) := by decide +kernel
theorem dX13_find_22 : decode cX13_find 22 = .ok (.iload_n 3, 1) := by decide +kernel
theorem dX13_find_23 : decode cX13_find 23 = .ok (.ireturn, 1) := by decide +kernel
theorem dX13_valueOf_0 : decode cX13_valueOf 0 = .ok (.lconst 0, 1) := by decide +kernel
theorem dX13_valueOf_1 : decode cX13_valueOf 1 = .ok (.lstore_n 3, 1) := by decide +kernel
theorem dX13_valueOf_2 : decode cX13_valueOf 2 = .ok (.aload_n 0, 1) := by decide +kernel
theorem dX13_valueOf_3 : decode cX13_valueOf 3 = .ok (.getfield 50, 3) := by decide +kernel
theorem dX13_valueOf_6 : decode cX13_valueOf 6 = .ok (.iload_n 1, 1) := by decide +kernel
theorem dX13_valueOf_7 : decode cX13_valueOf 7 = .ok (.iaload, 1) := by decide +kernel
theorem dX13_valueOf_8 : decode cX13_valueOf 8 = .ok (.istore 5, 2) := by decide +kernel
theorem dX13_valueOf_10 : decode cX13_valueOf 10 = .ok (.iload 5, 2) := by decide +kernel
theorem dX13_valueOf_12 : decode cX13_valueOf 12 = .ok (.aload_n 0, 1) := by decide +kernel
theorem dX13_valueOf_13 : decode cX13_valueOf 13 = .ok (.getfield 53, 3) := by decide +kernel
theorem dX13_valueOf_16 : decode cX13_valueOf 16 = .ok (.iload_n 1, 1) := by decide +kernel
theorem dX13_valueOf_17 : decode cX13_valueOf 17 = .ok (.iaload, 1) := by decide +kernel
theorem dX13_valueOf_18 : decode cX13_valueOf 18 = .ok (.if_icmp .ge 133, 3) := by decide +kernel
theorem dX13_valueOf_21 : decode cX13_valueOf 21 = .ok (.aload_n 0, 1) := by decide +kernel
theorem dX13_valueOf_22 : decode cX13_valueOf 22 = .ok (.getfield 59, 3) := by decide +kernel
theorem dX13_valueOf_25 : decode cX13_valueOf 25 = .ok (.iload 5, 2) := by decide +kernel
theorem dX13_valueOf_27 : decode cX13_valueOf 27 = .ok (.iaload, 1) := by decide +kernel
theorem dX13_valueOf_28 : decode cX13_valueOf 28 = .ok (.ifCond .ne 20, 3) := by decide +kernel
theorem dX13_valueOf_31 : decode cX13_valueOf 31 = .ok (.aload_n 0, 1) := by decide +kernel
theorem dX13_valueOf_32 : decode cX13_valueOf 32 = .ok (.aload_n 0, 1) := by decide +kernel
theorem dX13_valueOf_33 : decode cX13_valueOf 33 = .ok (.getfield 65, 3) := by decide +kernel
theorem dX13_valueOf_36 : decode cX13_valueOf 36 = .ok (.iload 5, 2) := by decide +kernel
theorem dX13_valueOf_38 : decode cX13_valueOf 38 = .ok (.iaload, 1) := by decide +kernel
theorem dX13_valueOf_39 : decode cX13_valueOf 39 = .ok (.invokevirtual 453, 3) := by decide +kernel
theorem dX13_valueOf_42 : decode cX13_valueOf 42 = .ok (.i2l, 1) := by decide +kernel
theorem dX13_valueOf_43 : decode cX13_valueOf 43 = .ok (.lstore 6, 2) := by decide +kernel
theorem dX13_valueOf_45 : decode cX13_valueOf 45 = .ok (.goto 86, 3) := by decide +kernel
theorem dX13_valueOf_48 : decode cX13_valueOf 48 = .ok (.aload_n 0, 1) := by decide +kernel
theorem dX13_valueOf_49 : decode cX13_valueOf 49 = .ok (.iload_n 2, 1) := by decide +kernel
theorem dX13_valueOf_50 : decode cX13_valueOf 50 = .ok (.aload_n 0, 1) := by decide +kernel
theorem dX13_valueOf_51 : decode cX13_valueOf 51 = .ok (.getfield 107, 3) := by decide +kernel
theorem dX13_valueOf_54 : decode cX13_valueOf 54 = .ok (.aload_n 0, 1) := by decide +kernel
theorem dX13_valueOf_55 : decode cX13_valueOf 55 = .ok (.getfield 65, 3) := by decide +kernel
theorem dX13_valueOf_58 : decode cX13_valueOf 58 = .ok (.iload 5, 2) := by decide +kernel
theorem dX13_valueOf_60 : decode cX13_valueOf 60 = .ok (.iaload, 1) := by decide +kernel
theorem dX13_valueOf_61 : decode cX13_valueOf 61 = .ok (.iaload, 1) := by decide +kernel
theorem dX13_valueOf_62 : decode cX13_valueOf 62 = .ok (.invokevirtual 1034, 3) := by decide +kernel
theorem dX13_valueOf_65 : decode cX13_valueOf 65 = .ok (.istore 8, 2) := by decide +kernel
theorem dX13_valueOf_67 : decode cX13_valueOf 67 = .ok (.aload_n 0, 1) := by decide +kernel
theorem dX13_valueOf_68 : decode cX13_valueOf 68 = .ok (.getfield 59, 3) := by decide +kernel
theorem dX13_valueOf_71 : decode cX13_valueOf 71 = .ok (.iload 5, 2) := by decide +kernel
theorem dX13_valueOf_73 : decode cX13_valueOf 73 = .ok (.iaload, 1) := by decide +kernel
theorem dX13_valueOf_74 : decode cX13_valueOf 74 = .ok (.iconst 1, 1) := by decide +kernel
theorem dX13_valueOf_75 : decode cX13_valueOf 75 = .ok (.if_icmp .ne 13, 3) := by decide +kernel
theorem dX13_valueOf_78 : decode cX13_valueOf 78 = .ok (.aload_n 0, 1) := by decide +kernel
theorem dX13_valueOf_79 : decode cX13_valueOf 79 = .ok (.getfield 343, 3) := by decide +kernel
theorem dX13_valueOf_82 : decode cX13_valueOf 82 = .ok (.iload 8, 2) := by decide +kernel
theorem dX13_valueOf_84 : decode cX13_valueOf 84 = .ok (.laload, 1) := by decide +kernel
theorem dX13_valueOf_85 : decode cX13_valueOf 85 = .ok (.goto 44, 3) := by decide +kernel
theorem dX13_valueOf_88 : decode cX13_valueOf 88 = .ok (.aload_n 0, 1) := by decide +kernel
theorem dX13_valueOf_89 : decode cX13_valueOf 89 = .ok (.getfield 59, 3) := by decide +kernel
theorem dX13_valueOf_92 : decode cX13_valueOf 92 = .ok (.iload 5, 2) := by decide +kernel
theorem dX13_valueOf_94 : decode cX13_valueOf 94 = .ok (.iaload, 1) := by decide +kernel
theorem dX13_valueOf_95 : decode cX13_valueOf 95 = .ok (.iconst 2, 1) := by decide +kernel
theorem dX13_valueOf_96 : decode cX13_valueOf 96 = .ok (.if_icmp .ne 20, 3) := by decide +kernel
theorem dX13_valueOf_99 : decode cX13_valueOf 99 = .ok (.aload_n 0, 1) := by decide +kernel
theorem dX13_valueOf_100 : decode cX13_valueOf 100 = .ok (.getfield 362, 3) := by decide +kernel
theorem dX13_valueOf_103 : decode cX13_valueOf 103 = .ok (.aload_n 0, 1) := by decide +kernel
theorem dX13_valueOf_104 : decode cX13_valueOf 104 = .ok (.getfield 343, 3) := by decide +kernel
theorem dX13_valueOf_107 : decode cX13_valueOf 107 = .ok (.iload 8, 2) := by decide +kernel
theorem dX13_valueOf_109 : decode cX13_valueOf 109 = .ok (.laload, 1) := by decide +kernel
theorem dX13_valueOf_110 : decode cX13_valueOf 110 = .ok (.l2i, 1) := by decide +kernel
theorem dX13_valueOf_111 : decode cX13_valueOf 111 = .ok (.iaload, 1) := by decide +kernel
theorem dX13_valueOf_112 : decode cX13_valueOf 112 = .ok (.i2l, 1) := by decide +kernel
theorem dX13_valueOf_113 : decode cX13_valueOf 113 = .ok (.goto 16, 3) := by decide +kernel
theorem dX13_valueOf_116 : decode cX13_valueOf 116 = .ok (.aload_n 0, 1) := by decide +kernel
theorem dX13_valueOf_117 : decode cX13_valueOf 117 = .ok (.aload_n 0, 1) := by decide +kernel
theorem dX13_valueOf_118 : decode cX13_valueOf 118 = .ok (.getfield 343, 3) := by decide +kernel
theorem dX13_valueOf_121 : decode cX13_valueOf 121 = .ok (.iload 8, 2) := by decide +kernel
theorem dX13_valueOf_123 : decode cX13_valueOf 123 = .ok (.laload, 1) := by decide +kernel
theorem dX13_valueOf_124 : decode cX13_valueOf 124 = .ok (.l2i, 1) := by decide +kernel
theorem dX13_valueOf_125 : decode cX13_valueOf 125 = .ok (.invokevirtual 1037, 3) := by decide +kernel
theorem dX13_valueOf_128 : decode cX13_valueOf 128 = .ok (.i2l, 1) := by decide +kernel
theorem dX13_valueOf_129 : decode cX13_valueOf 129 = .ok (.lstore 6, 2) := by decide +kernel
theorem dX13_valueOf_131 : decode cX13_valueOf 131 = .ok (.lload_n 3, 1) := by decide +kernel
theorem dX13_valueOf_132 : decode cX13_valueOf 132 = .ok (.aload_n 0, 1) := by decide +kernel
theorem dX13_valueOf_133 : decode cX13_valueOf 133 = .ok (.getfield 62, 3) := by decide +kernel
theorem dX13_valueOf_136 : decode cX13_valueOf 136 = .ok (.iload 5, 2) := by decide +kernel
theorem dX13_valueOf_138 : decode cX13_valueOf 138 = .ok (.iaload, 1) := by decide +kernel
theorem dX13_valueOf_139 : decode cX13_valueOf 139 = .ok (.i2l, 1) := by decide +kernel
theorem dX13_valueOf_140 : decode cX13_valueOf 140 = .ok (.lload 6, 2) := by decide +kernel
theorem dX13_valueOf_142 : decode cX13_valueOf 142 = .ok (.lmul, 1) := by decide +kernel
theorem dX13_valueOf_143 : decode cX13_valueOf 143 = .ok (.ladd, 1) := by decide +kernel
theorem dX13_valueOf_144 : decode cX13_valueOf 144 = .ok (.lstore_n 3, 1) := by decide +kernel
theorem dX13_valueOf_145 : decode cX13_valueOf 145 = .ok (.iinc 5 1, 3) := by decide +kernel
theorem dX13_valueOf_148 : decode cX13_valueOf 148 = .ok (.goto (-138), 3) := by decide +kernel
theorem dX13_valueOf_151 : decode cX13_valueOf 151 = .ok (.aload_n 0, 1) := by decide +kernel
theorem dX13_valueOf_152 : decode cX13_valueOf 152 = .ok (.lload_n 3, 1) := by decide +kernel
theorem dX13_valueOf_153 : decode cX13_valueOf 153 = .ok (.invokevirtual 1040, 3) := by decide +kernel
theorem dX13_valueOf_156 : decode cX13_valueOf 156 = .ok (.lreturn, 1) := by decide +kernel
theorem dX13_holds_0 : decode cX13_holds 0 = .ok (.aload_n 0, 1) := by decide +kernel
theorem dX13_holds_1 : decode cX13_holds 1 = .ok (.getfield 29, 3) := by decide +kernel
theorem dX13_holds_4 : decode cX13_holds 4 = .ok (.iload_n 1, 1) := by decide +kernel
theorem dX13_holds_5 : decode cX13_holds 5 = .ok (.iaload, 1) := by decide +kernel
theorem dX13_holds_6 : decode cX13_holds 6 = .ok (.tableswitch 184 20 24 #[34, 75, 116, 136, 152], 34) := by decide +kernel
theorem dX13_holds_40 : decode cX13_holds 40 = .ok (.aload_n 0, 1) := by decide +kernel
theorem dX13_holds_41 : decode cX13_holds 41 = .ok (.aload_n 0, 1) := by decide +kernel
theorem dX13_holds_42 : decode cX13_holds 42 = .ok (.getfield 38, 3) := by decide +kernel
theorem dX13_holds_45 : decode cX13_holds 45 = .ok (.iload_n 1, 1) := by decide +kernel
theorem dX13_holds_46 : decode cX13_holds 46 = .ok (.iaload, 1) := by decide +kernel
theorem dX13_holds_47 : decode cX13_holds 47 = .ok (.iload_n 2, 1) := by decide +kernel
theorem dX13_holds_48 : decode cX13_holds 48 = .ok (.invokevirtual 1044, 3) := by decide +kernel
theorem dX13_holds_51 : decode cX13_holds 51 = .ok (.ifCond .ne 24, 3) := by decide +kernel
theorem dX13_holds_54 : decode cX13_holds 54 = .ok (.aload_n 0, 1) := by decide +kernel
theorem dX13_holds_55 : decode cX13_holds 55 = .ok (.getfield 1031, 3) := by decide +kernel
theorem dX13_holds_58 : decode cX13_holds 58 = .ok (.ifCond .ne 21, 3) := by decide +kernel
theorem dX13_holds_61 : decode cX13_holds 61 = .ok (.aload_n 0, 1) := by decide +kernel
theorem dX13_holds_62 : decode cX13_holds 62 = .ok (.aload_n 0, 1) := by decide +kernel
theorem dX13_holds_63 : decode cX13_holds 63 = .ok (.getfield 41, 3) := by decide +kernel
theorem dX13_holds_66 : decode cX13_holds 66 = .ok (.iload_n 1, 1) := by decide +kernel
theorem dX13_holds_67 : decode cX13_holds 67 = .ok (.iaload, 1) := by decide +kernel
theorem dX13_holds_68 : decode cX13_holds 68 = .ok (.iload_n 2, 1) := by decide +kernel
theorem dX13_holds_69 : decode cX13_holds 69 = .ok (.invokevirtual 1044, 3) := by decide +kernel
theorem dX13_holds_72 : decode cX13_holds 72 = .ok (.ifCond .eq 7, 3) := by decide +kernel
theorem dX13_holds_75 : decode cX13_holds 75 = .ok (.iconst 1, 1) := by decide +kernel
theorem dX13_holds_76 : decode cX13_holds 76 = .ok (.goto 4, 3) := by decide +kernel
theorem dX13_holds_79 : decode cX13_holds 79 = .ok (.iconst 0, 1) := by decide +kernel
theorem dX13_holds_80 : decode cX13_holds 80 = .ok (.ireturn, 1) := by decide +kernel
theorem dX13_holds_81 : decode cX13_holds 81 = .ok (.aload_n 0, 1) := by decide +kernel
theorem dX13_holds_82 : decode cX13_holds 82 = .ok (.aload_n 0, 1) := by decide +kernel
theorem dX13_holds_83 : decode cX13_holds 83 = .ok (.getfield 38, 3) := by decide +kernel
theorem dX13_holds_86 : decode cX13_holds 86 = .ok (.iload_n 1, 1) := by decide +kernel
theorem dX13_holds_87 : decode cX13_holds 87 = .ok (.iaload, 1) := by decide +kernel
theorem dX13_holds_88 : decode cX13_holds 88 = .ok (.iload_n 2, 1) := by decide +kernel
theorem dX13_holds_89 : decode cX13_holds 89 = .ok (.invokevirtual 1044, 3) := by decide +kernel
theorem dX13_holds_92 : decode cX13_holds 92 = .ok (.ifCond .eq 28, 3) := by decide +kernel
theorem dX13_holds_95 : decode cX13_holds 95 = .ok (.aload_n 0, 1) := by decide +kernel
theorem dX13_holds_96 : decode cX13_holds 96 = .ok (.getfield 1031, 3) := by decide +kernel
theorem dX13_holds_99 : decode cX13_holds 99 = .ok (.ifCond .ne 21, 3) := by decide +kernel
theorem dX13_holds_102 : decode cX13_holds 102 = .ok (.aload_n 0, 1) := by decide +kernel
theorem dX13_holds_103 : decode cX13_holds 103 = .ok (.aload_n 0, 1) := by decide +kernel
theorem dX13_holds_104 : decode cX13_holds 104 = .ok (.getfield 41, 3) := by decide +kernel
theorem dX13_holds_107 : decode cX13_holds 107 = .ok (.iload_n 1, 1) := by decide +kernel
theorem dX13_holds_108 : decode cX13_holds 108 = .ok (.iaload, 1) := by decide +kernel
theorem dX13_holds_109 : decode cX13_holds 109 = .ok (.iload_n 2, 1) := by decide +kernel
theorem dX13_holds_110 : decode cX13_holds 110 = .ok (.invokevirtual 1044, 3) := by decide +kernel
theorem dX13_holds_113 : decode cX13_holds 113 = .ok (.ifCond .eq 7, 3) := by decide +kernel
theorem dX13_holds_116 : decode cX13_holds 116 = .ok (.iconst 1, 1) := by decide +kernel
theorem dX13_holds_117 : decode cX13_holds 117 = .ok (.goto 4, 3) := by decide +kernel
theorem dX13_holds_120 : decode cX13_holds 120 = .ok (.iconst 0, 1) := by decide +kernel
theorem dX13_holds_121 : decode cX13_holds 121 = .ok (.ireturn, 1) := by decide +kernel
theorem dX13_holds_122 : decode cX13_holds 122 = .ok (.aload_n 0, 1) := by decide +kernel
theorem dX13_holds_123 : decode cX13_holds 123 = .ok (.aload_n 0, 1) := by decide +kernel
theorem dX13_holds_124 : decode cX13_holds 124 = .ok (.getfield 38, 3) := by decide +kernel
theorem dX13_holds_127 : decode cX13_holds 127 = .ok (.iload_n 1, 1) := by decide +kernel
theorem dX13_holds_128 : decode cX13_holds 128 = .ok (.iaload, 1) := by decide +kernel
theorem dX13_holds_129 : decode cX13_holds 129 = .ok (.iload_n 2, 1) := by decide +kernel
theorem dX13_holds_130 : decode cX13_holds 130 = .ok (.invokevirtual 1044, 3) := by decide +kernel
theorem dX13_holds_133 : decode cX13_holds 133 = .ok (.ifCond .ne 7, 3) := by decide +kernel
theorem dX13_holds_136 : decode cX13_holds 136 = .ok (.iconst 1, 1) := by decide +kernel
theorem dX13_holds_137 : decode cX13_holds 137 = .ok (.goto 4, 3) := by decide +kernel
theorem dX13_holds_140 : decode cX13_holds 140 = .ok (.iconst 0, 1) := by decide +kernel
theorem dX13_holds_141 : decode cX13_holds 141 = .ok (.ireturn, 1) := by decide +kernel
theorem dX13_holds_142 : decode cX13_holds 142 = .ok (.aload_n 0, 1) := by decide +kernel
theorem dX13_holds_143 : decode cX13_holds 143 = .ok (.getfield 38, 3) := by decide +kernel
theorem dX13_holds_146 : decode cX13_holds 146 = .ok (.iload_n 1, 1) := by decide +kernel
theorem dX13_holds_147 : decode cX13_holds 147 = .ok (.iaload, 1) := by decide +kernel
theorem dX13_holds_148 : decode cX13_holds 148 = .ok (.iconst 1, 1) := by decide +kernel
theorem dX13_holds_149 : decode cX13_holds 149 = .ok (.if_icmp .ne 7, 3) := by decide +kernel
theorem dX13_holds_152 : decode cX13_holds 152 = .ok (.iconst 1, 1) := by decide +kernel
theorem dX13_holds_153 : decode cX13_holds 153 = .ok (.goto 4, 3) := by decide +kernel
theorem dX13_holds_156 : decode cX13_holds 156 = .ok (.iconst 0, 1) := by decide +kernel
theorem dX13_holds_157 : decode cX13_holds 157 = .ok (.ireturn, 1) := by decide +kernel
theorem dX13_holds_158 : decode cX13_holds 158 = .ok (.aload_n 0, 1) := by decide +kernel
theorem dX13_holds_159 : decode cX13_holds 159 = .ok (.getfield 343, 3) := by decide +kernel
theorem dX13_holds_162 : decode cX13_holds 162 = .ok (.aload_n 0, 1) := by decide +kernel
theorem dX13_holds_163 : decode cX13_holds 163 = .ok (.iload_n 2, 1) := by decide +kernel
theorem dX13_holds_164 : decode cX13_holds 164 = .ok (.aload_n 0, 1) := by decide +kernel
theorem dX13_holds_165 : decode cX13_holds 165 = .ok (.getfield 107, 3) := by decide +kernel
theorem dX13_holds_168 : decode cX13_holds 168 = .ok (.aload_n 0, 1) := by decide +kernel
theorem dX13_holds_169 : decode cX13_holds 169 = .ok (.getfield 38, 3) := by decide +kernel
theorem dX13_holds_172 : decode cX13_holds 172 = .ok (.iload_n 1, 1) := by decide +kernel
theorem dX13_holds_173 : decode cX13_holds 173 = .ok (.iaload, 1) := by decide +kernel
theorem dX13_holds_174 : decode cX13_holds 174 = .ok (.iaload, 1) := by decide +kernel
theorem dX13_holds_175 : decode cX13_holds 175 = .ok (.invokevirtual 1034, 3) := by decide +kernel
theorem dX13_holds_178 : decode cX13_holds 178 = .ok (.laload, 1) := by decide +kernel
theorem dX13_holds_179 : decode cX13_holds 179 = .ok (.lconst 0, 1) := by decide +kernel
theorem dX13_holds_180 : decode cX13_holds 180 = .ok (.lcmp, 1) := by decide +kernel
theorem dX13_holds_181 : decode cX13_holds 181 = .ok (.ifCond .eq 7, 3) := by decide +kernel
theorem dX13_holds_184 : decode cX13_holds 184 = .ok (.iconst 1, 1) := by decide +kernel
theorem dX13_holds_185 : decode cX13_holds 185 = .ok (.goto 4, 3) := by decide +kernel
theorem dX13_holds_188 : decode cX13_holds 188 = .ok (.iconst 0, 1) := by decide +kernel
theorem dX13_holds_189 : decode cX13_holds 189 = .ok (.ireturn, 1) := by decide +kernel
theorem dX13_holds_190 : decode cX13_holds 190 = .ok (.aload_n 0, 1) := by decide +kernel
theorem dX13_holds_191 : decode cX13_holds 191 = .ok (.aload_n 0, 1) := by decide +kernel
theorem dX13_holds_192 : decode cX13_holds 192 = .ok (.getfield 38, 3) := by decide +kernel
theorem dX13_holds_195 : decode cX13_holds 195 = .ok (.iload_n 1, 1) := by decide +kernel
theorem dX13_holds_196 : decode cX13_holds 196 = .ok (.iaload, 1) := by decide +kernel
theorem dX13_holds_197 : decode cX13_holds 197 = .ok (.iload_n 2, 1) := by decide +kernel
theorem dX13_holds_198 : decode cX13_holds 198 = .ok (.invokevirtual 1047, 3) := by decide +kernel
theorem dX13_holds_201 : decode cX13_holds 201 = .ok (.lstore_n 3, 1) := by decide +kernel
theorem dX13_holds_202 : decode cX13_holds 202 = .ok (.aload_n 0, 1) := by decide +kernel
theorem dX13_holds_203 : decode cX13_holds 203 = .ok (.getfield 1031, 3) := by decide +kernel
theorem dX13_holds_206 : decode cX13_holds 206 = .ok (.ifCond .eq 5, 3) := by decide +kernel
theorem dX13_holds_209 : decode cX13_holds 209 = .ok (.iconst 0, 1) := by decide +kernel
theorem dX13_holds_210 : decode cX13_holds 210 = .ok (.ireturn, 1) := by decide +kernel
theorem dX13_holds_211 : decode cX13_holds 211 = .ok (.aload_n 0, 1) := by decide +kernel
theorem dX13_holds_212 : decode cX13_holds 212 = .ok (.aload_n 0, 1) := by decide +kernel
theorem dX13_holds_213 : decode cX13_holds 213 = .ok (.getfield 41, 3) := by decide +kernel
theorem dX13_holds_216 : decode cX13_holds 216 = .ok (.iload_n 1, 1) := by decide +kernel
theorem dX13_holds_217 : decode cX13_holds 217 = .ok (.iaload, 1) := by decide +kernel
theorem dX13_holds_218 : decode cX13_holds 218 = .ok (.iload_n 2, 1) := by decide +kernel
theorem dX13_holds_219 : decode cX13_holds 219 = .ok (.invokevirtual 1047, 3) := by decide +kernel
theorem dX13_holds_222 : decode cX13_holds 222 = .ok (.lstore 5, 2) := by decide +kernel
theorem dX13_holds_224 : decode cX13_holds 224 = .ok (.aload_n 0, 1) := by decide +kernel
theorem dX13_holds_225 : decode cX13_holds 225 = .ok (.getfield 44, 3) := by decide +kernel
theorem dX13_holds_228 : decode cX13_holds 228 = .ok (.iload_n 1, 1) := by decide +kernel
theorem dX13_holds_229 : decode cX13_holds 229 = .ok (.iaload, 1) := by decide +kernel
theorem dX13_holds_230 : decode cX13_holds 230 = .ok (.istore 7, 2) := by decide +kernel
theorem dX13_holds_232 : decode cX13_holds 232 = .ok (.iload 7, 2) := by decide +kernel
theorem dX13_holds_234 : decode cX13_holds 234 = .ok (.ifCond .ne 18, 3) := by decide +kernel
theorem dX13_holds_237 : decode cX13_holds 237 = .ok (.lload_n 3, 1) := by decide +kernel
theorem dX13_holds_238 : decode cX13_holds 238 = .ok (.lload 5, 2) := by decide +kernel
theorem dX13_holds_240 : decode cX13_holds 240 = .ok (.lcmp, 1) := by decide +kernel
theorem dX13_holds_241 : decode cX13_holds 241 = .ok (.ifCond .ne 7, 3) := by decide +kernel
theorem dX13_holds_244 : decode cX13_holds 244 = .ok (.iconst 1, 1) := by decide +kernel
theorem dX13_holds_245 : decode cX13_holds 245 = .ok (.goto 103, 3) := by decide +kernel
theorem dX13_holds_248 : decode cX13_holds 248 = .ok (.iconst 0, 1) := by decide +kernel
theorem dX13_holds_249 : decode cX13_holds 249 = .ok (.goto 99, 3) := by decide +kernel
theorem dX13_holds_252 : decode cX13_holds 252 = .ok (.iload 7, 2) := by decide +kernel
theorem dX13_holds_254 : decode cX13_holds 254 = .ok (.iconst 1, 1) := by decide +kernel
theorem dX13_holds_255 : decode cX13_holds 255 = .ok (.if_icmp .ne 18, 3) := by decide +kernel
theorem dX13_holds_258 : decode cX13_holds 258 = .ok (.lload_n 3, 1) := by decide +kernel
theorem dX13_holds_259 : decode cX13_holds 259 = .ok (.lload 5, 2) := by decide +kernel
theorem dX13_holds_261 : decode cX13_holds 261 = .ok (.lcmp, 1) := by decide +kernel
theorem dX13_holds_262 : decode cX13_holds 262 = .ok (.ifCond .ge 7, 3) := by decide +kernel
theorem dX13_holds_265 : decode cX13_holds 265 = .ok (.iconst 1, 1) := by decide +kernel
theorem dX13_holds_266 : decode cX13_holds 266 = .ok (.goto 82, 3) := by decide +kernel
theorem dX13_holds_269 : decode cX13_holds 269 = .ok (.iconst 0, 1) := by decide +kernel
theorem dX13_holds_270 : decode cX13_holds 270 = .ok (.goto 78, 3) := by decide +kernel
theorem dX13_holds_273 : decode cX13_holds 273 = .ok (.iload 7, 2) := by decide +kernel
theorem dX13_holds_275 : decode cX13_holds 275 = .ok (.iconst 2, 1) := by decide +kernel
theorem dX13_holds_276 : decode cX13_holds 276 = .ok (.if_icmp .ne 18, 3) := by decide +kernel
theorem dX13_holds_279 : decode cX13_holds 279 = .ok (.lload_n 3, 1) := by decide +kernel
theorem dX13_holds_280 : decode cX13_holds 280 = .ok (.lload 5, 2) := by decide +kernel
theorem dX13_holds_282 : decode cX13_holds 282 = .ok (.lcmp, 1) := by decide +kernel
theorem dX13_holds_283 : decode cX13_holds 283 = .ok (.ifCond .gt 7, 3) := by decide +kernel
theorem dX13_holds_286 : decode cX13_holds 286 = .ok (.iconst 1, 1) := by decide +kernel
theorem dX13_holds_287 : decode cX13_holds 287 = .ok (.goto 61, 3) := by decide +kernel
theorem dX13_holds_290 : decode cX13_holds 290 = .ok (.iconst 0, 1) := by decide +kernel
theorem dX13_holds_291 : decode cX13_holds 291 = .ok (.goto 57, 3) := by decide +kernel
theorem dX13_holds_294 : decode cX13_holds 294 = .ok (.iload 7, 2) := by decide +kernel
theorem dX13_holds_296 : decode cX13_holds 296 = .ok (.iconst 3, 1) := by decide +kernel
theorem dX13_holds_297 : decode cX13_holds 297 = .ok (.if_icmp .ne 18, 3) := by decide +kernel
theorem dX13_holds_300 : decode cX13_holds 300 = .ok (.lload_n 3, 1) := by decide +kernel
theorem dX13_holds_301 : decode cX13_holds 301 = .ok (.lload 5, 2) := by decide +kernel
theorem dX13_holds_303 : decode cX13_holds 303 = .ok (.lcmp, 1) := by decide +kernel
theorem dX13_holds_304 : decode cX13_holds 304 = .ok (.ifCond .le 7, 3) := by decide +kernel
theorem dX13_holds_307 : decode cX13_holds 307 = .ok (.iconst 1, 1) := by decide +kernel
theorem dX13_holds_308 : decode cX13_holds 308 = .ok (.goto 40, 3) := by decide +kernel
theorem dX13_holds_311 : decode cX13_holds 311 = .ok (.iconst 0, 1) := by decide +kernel
theorem dX13_holds_312 : decode cX13_holds 312 = .ok (.goto 36, 3) := by decide +kernel
theorem dX13_holds_315 : decode cX13_holds 315 = .ok (.iload 7, 2) := by decide +kernel
theorem dX13_holds_317 : decode cX13_holds 317 = .ok (.iconst 4, 1) := by decide +kernel
theorem dX13_holds_318 : decode cX13_holds 318 = .ok (.if_icmp .ne 18, 3) := by decide +kernel
theorem dX13_holds_321 : decode cX13_holds 321 = .ok (.lload_n 3, 1) := by decide +kernel
theorem dX13_holds_322 : decode cX13_holds 322 = .ok (.lload 5, 2) := by decide +kernel
theorem dX13_holds_324 : decode cX13_holds 324 = .ok (.lcmp, 1) := by decide +kernel
theorem dX13_holds_325 : decode cX13_holds 325 = .ok (.ifCond .lt 7, 3) := by decide +kernel
theorem dX13_holds_328 : decode cX13_holds 328 = .ok (.iconst 1, 1) := by decide +kernel
theorem dX13_holds_329 : decode cX13_holds 329 = .ok (.goto 19, 3) := by decide +kernel
theorem dX13_holds_332 : decode cX13_holds 332 = .ok (.iconst 0, 1) := by decide +kernel
theorem dX13_holds_333 : decode cX13_holds 333 = .ok (.goto 15, 3) := by decide +kernel
theorem dX13_holds_336 : decode cX13_holds 336 = .ok (.lload_n 3, 1) := by decide +kernel
theorem dX13_holds_337 : decode cX13_holds 337 = .ok (.lload 5, 2) := by decide +kernel
theorem dX13_holds_339 : decode cX13_holds 339 = .ok (.lcmp, 1) := by decide +kernel
theorem dX13_holds_340 : decode cX13_holds 340 = .ok (.ifCond .eq 7, 3) := by decide +kernel
theorem dX13_holds_343 : decode cX13_holds 343 = .ok (.iconst 1, 1) := by decide +kernel
theorem dX13_holds_344 : decode cX13_holds 344 = .ok (.goto 4, 3) := by decide +kernel
theorem dX13_holds_347 : decode cX13_holds 347 = .ok (.iconst 0, 1) := by decide +kernel
theorem dX13_holds_348 : decode cX13_holds 348 = .ok (.ireturn, 1) := by decide +kernel
theorem dX13_newArray_0 : decode cX13_newArray 0 = .ok (.lload_n 1, 1) := by decide +kernel
theorem dX13_newArray_1 : decode cX13_newArray 1 = .ok (.lconst 0, 1) := by decide +kernel
theorem dX13_newArray_2 : decode cX13_newArray 2 = .ok (.lcmp, 1) := by decide +kernel
theorem dX13_newArray_3 : decode cX13_newArray 3 = .ok (.ifCond .ge 11, 3) := by decide +kernel
theorem dX13_newArray_6 : decode cX13_newArray 6 = .ok (.aload_n 0, 1) := by decide +kernel
theorem dX13_newArray_7 : decode cX13_newArray 7 = .ok (.bipush 6, 2) := by decide +kernel
theorem dX13_newArray_9 : decode cX13_newArray 9 = .ok (.putfield 1031, 3) := by decide +kernel
theorem dX13_newArray_12 : decode cX13_newArray 12 = .ok (.iconst 0, 1) := by decide +kernel
theorem dX13_newArray_13 : decode cX13_newArray 13 = .ok (.ireturn, 1) := by decide +kernel
theorem dX13_newArray_14 : decode cX13_newArray 14 = .ok (.lload_n 1, 1) := by decide +kernel
theorem dX13_newArray_15 : decode cX13_newArray 15 = .ok (.ldc2_w 1051, 3) := by decide +kernel
theorem dX13_newArray_18 : decode cX13_newArray 18 = .ok (.lcmp, 1) := by decide +kernel
theorem dX13_newArray_19 : decode cX13_newArray 19 = .ok (.ifCond .gt 17, 3) := by decide +kernel
theorem dX13_newArray_22 : decode cX13_newArray 22 = .ok (.aload_n 0, 1) := by decide +kernel
theorem dX13_newArray_23 : decode cX13_newArray 23 = .ok (.getfield 1053, 3) := by decide +kernel
theorem dX13_newArray_26 : decode cX13_newArray 26 = .ok (.i2l, 1) := by decide +kernel
theorem dX13_newArray_27 : decode cX13_newArray 27 = .ok (.lload_n 1, 1) := by decide +kernel
theorem dX13_newArray_28 : decode cX13_newArray 28 = .ok (.ladd, 1) := by decide +kernel
theorem dX13_newArray_29 : decode cX13_newArray 29 = .ok (.ldc2_w 1056, 3) := by decide +kernel
theorem dX13_newArray_32 : decode cX13_newArray 32 = .ok (.lcmp, 1) := by decide +kernel
theorem dX13_newArray_33 : decode cX13_newArray 33 = .ok (.ifCond .le 10, 3) := by decide +kernel
theorem dX13_newArray_36 : decode cX13_newArray 36 = .ok (.aload_n 0, 1) := by decide +kernel
theorem dX13_newArray_37 : decode cX13_newArray 37 = .ok (.iconst 2, 1) := by decide +kernel
theorem dX13_newArray_38 : decode cX13_newArray 38 = .ok (.putfield 1031, 3) := by decide +kernel
theorem dX13_newArray_41 : decode cX13_newArray 41 = .ok (.iconst 0, 1) := by decide +kernel
theorem dX13_newArray_42 : decode cX13_newArray 42 = .ok (.ireturn, 1) := by decide +kernel
theorem dX13_newArray_43 : decode cX13_newArray 43 = .ok (.aload_n 0, 1) := by decide +kernel
theorem dX13_newArray_44 : decode cX13_newArray 44 = .ok (.getfield 359, 3) := by decide +kernel
theorem dX13_newArray_47 : decode cX13_newArray 47 = .ok (.aload_n 0, 1) := by decide +kernel
theorem dX13_newArray_48 : decode cX13_newArray 48 = .ok (.getfield 1058, 3) := by decide +kernel
theorem dX13_newArray_51 : decode cX13_newArray 51 = .ok (.aload_n 0, 1) := by decide +kernel
theorem dX13_newArray_52 : decode cX13_newArray 52 = .ok (.getfield 1053, 3) := by decide +kernel
theorem dX13_newArray_55 : decode cX13_newArray 55 = .ok (.iastore, 1) := by decide +kernel
theorem dX13_newArray_56 : decode cX13_newArray 56 = .ok (.aload_n 0, 1) := by decide +kernel
theorem dX13_newArray_57 : decode cX13_newArray 57 = .ok (.getfield 362, 3) := by decide +kernel
theorem dX13_newArray_60 : decode cX13_newArray 60 = .ok (.aload_n 0, 1) := by decide +kernel
theorem dX13_newArray_61 : decode cX13_newArray 61 = .ok (.getfield 1058, 3) := by decide +kernel
theorem dX13_newArray_64 : decode cX13_newArray 64 = .ok (.lload_n 1, 1) := by decide +kernel
theorem dX13_newArray_65 : decode cX13_newArray 65 = .ok (.l2i, 1) := by decide +kernel
theorem dX13_newArray_66 : decode cX13_newArray 66 = .ok (.iastore, 1) := by decide +kernel
theorem dX13_newArray_67 : decode cX13_newArray 67 = .ok (.iconst 0, 1) := by decide +kernel
theorem dX13_newArray_68 : decode cX13_newArray 68 = .ok (.istore_n 3, 1) := by decide +kernel
theorem dX13_newArray_69 : decode cX13_newArray 69 = .ok (.iload_n 3, 1) := by decide +kernel
theorem dX13_newArray_70 : decode cX13_newArray 70 = .ok (.i2l, 1) := by decide +kernel
theorem dX13_newArray_71 : decode cX13_newArray 71 = .ok (.lload_n 1, 1) := by decide +kernel
theorem dX13_newArray_72 : decode cX13_newArray 72 = .ok (.lcmp, 1) := by decide +kernel
theorem dX13_newArray_73 : decode cX13_newArray 73 = .ok (.ifCond .ge 21, 3) := by decide +kernel
theorem dX13_newArray_76 : decode cX13_newArray 76 = .ok (.aload_n 0, 1) := by decide +kernel
theorem dX13_newArray_77 : decode cX13_newArray 77 = .ok (.getfield 365, 3) := by decide +kernel
theorem dX13_newArray_80 : decode cX13_newArray 80 = .ok (.aload_n 0, 1) := by decide +kernel
theorem dX13_newArray_81 : decode cX13_newArray 81 = .ok (.getfield 1053, 3) := by decide +kernel
theorem dX13_newArray_84 : decode cX13_newArray 84 = .ok (.iload_n 3, 1) := by decide +kernel
theorem dX13_newArray_85 : decode cX13_newArray 85 = .ok (.iadd, 1) := by decide +kernel
theorem dX13_newArray_86 : decode cX13_newArray 86 = .ok (.lconst 0, 1) := by decide +kernel
theorem dX13_newArray_87 : decode cX13_newArray 87 = .ok (.lastore, 1) := by decide +kernel
theorem dX13_newArray_88 : decode cX13_newArray 88 = .ok (.iinc 3 1, 3) := by decide +kernel
theorem dX13_newArray_91 : decode cX13_newArray 91 = .ok (.goto (-22), 3) := by decide +kernel
theorem dX13_newArray_94 : decode cX13_newArray 94 = .ok (.aload_n 0, 1) := by decide +kernel
theorem dX13_newArray_95 : decode cX13_newArray 95 = .ok (.dup, 1) := by decide +kernel
theorem dX13_newArray_96 : decode cX13_newArray 96 = .ok (.getfield 1053, 3) := by decide +kernel
theorem dX13_newArray_99 : decode cX13_newArray 99 = .ok (.lload_n 1, 1) := by decide +kernel
theorem dX13_newArray_100 : decode cX13_newArray 100 = .ok (.l2i, 1) := by decide +kernel
theorem dX13_newArray_101 : decode cX13_newArray 101 = .ok (.iadd, 1) := by decide +kernel
theorem dX13_newArray_102 : decode cX13_newArray 102 = .ok (.putfield 1053, 3) := by decide +kernel
theorem dX13_newArray_105 : decode cX13_newArray 105 = .ok (.aload_n 0, 1) := by decide +kernel
theorem dX13_newArray_106 : decode cX13_newArray 106 = .ok (.dup, 1) := by decide +kernel
theorem dX13_newArray_107 : decode cX13_newArray 107 = .ok (.getfield 1058, 3) := by decide +kernel
theorem dX13_newArray_110 : decode cX13_newArray 110 = .ok (.iconst 1, 1) := by decide +kernel
theorem dX13_newArray_111 : decode cX13_newArray 111 = .ok (.iadd, 1) := by decide +kernel
theorem dX13_newArray_112 : decode cX13_newArray 112 = .ok (.putfield 1058, 3) := by decide +kernel
theorem dX13_newArray_115 : decode cX13_newArray 115 = .ok (.aload_n 0, 1) := by decide +kernel
theorem dX13_newArray_116 : decode cX13_newArray 116 = .ok (.getfield 1058, 3) := by decide +kernel
theorem dX13_newArray_119 : decode cX13_newArray 119 = .ok (.iconst 1, 1) := by decide +kernel
theorem dX13_newArray_120 : decode cX13_newArray 120 = .ok (.isub, 1) := by decide +kernel
theorem dX13_newArray_121 : decode cX13_newArray 121 = .ok (.ireturn, 1) := by decide +kernel
theorem dX13_run_7 : decode cX13_run 7 = .ok (.iload_n 1, 1) := by decide +kernel
theorem dX13_run_8 : decode cX13_run 8 = .ok (.ifCond .lt 10, 3) := by decide +kernel
theorem dX13_run_11 : decode cX13_run 11 = .ok (.iload_n 1, 1) := by decide +kernel
theorem dX13_run_12 : decode cX13_run 12 = .ok (.sipush 20000, 3) := by decide +kernel
theorem dX13_run_15 : decode cX13_run 15 = .ok (.if_icmp .le 5, 3) := by decide +kernel
theorem dX13_run_20 : decode cX13_run 20 = .ok (.aload_n 0, 1) := by decide +kernel
theorem dX13_run_21 : decode cX13_run 21 = .ok (.iconst 0, 1) := by decide +kernel
theorem dX13_run_22 : decode cX13_run 22 = .ok (.putfield 1024, 3) := by decide +kernel
theorem dX13_run_25 : decode cX13_run 25 = .ok (.aload_n 0, 1) := by decide +kernel
theorem dX13_run_26 : decode cX13_run 26 = .ok (.iconst 0, 1) := by decide +kernel
theorem dX13_run_27 : decode cX13_run 27 = .ok (.putfield 1067, 3) := by decide +kernel
theorem dX13_run_30 : decode cX13_run 30 = .ok (.aload_n 0, 1) := by decide +kernel
theorem dX13_run_31 : decode cX13_run 31 = .ok (.iconst 0, 1) := by decide +kernel
theorem dX13_run_32 : decode cX13_run 32 = .ok (.putfield 1058, 3) := by decide +kernel
theorem dX13_run_35 : decode cX13_run 35 = .ok (.aload_n 0, 1) := by decide +kernel
theorem dX13_run_36 : decode cX13_run 36 = .ok (.iconst 0, 1) := by decide +kernel
theorem dX13_run_37 : decode cX13_run 37 = .ok (.putfield 1053, 3) := by decide +kernel
theorem dX13_run_40 : decode cX13_run 40 = .ok (.aload_n 0, 1) := by decide +kernel
theorem dX13_run_41 : decode cX13_run 41 = .ok (.iconst 0, 1) := by decide +kernel
theorem dX13_run_42 : decode cX13_run 42 = .ok (.putfield 1073, 3) := by decide +kernel
theorem dX13_run_45 : decode cX13_run 45 = .ok (.aload_n 0, 1) := by decide +kernel
theorem dX13_run_46 : decode cX13_run 46 = .ok (.iconst 0, 1) := by decide +kernel
theorem dX13_run_47 : decode cX13_run 47 = .ok (.putfield 1070, 3) := by decide +kernel
theorem dX13_run_50 : decode cX13_run 50 = .ok (.aload_n 0, 1) := by decide +kernel
theorem dX13_run_51 : decode cX13_run 51 = .ok (.iconst 0, 1) := by decide +kernel
theorem dX13_run_52 : decode cX13_run 52 = .ok (.putfield 1076, 3) := by decide +kernel
theorem dX13_run_55 : decode cX13_run 55 = .ok (.aload_n 0, 1) := by decide +kernel
theorem dX13_run_56 : decode cX13_run 56 = .ok (.iconst 0, 1) := by decide +kernel
theorem dX13_run_57 : decode cX13_run 57 = .ok (.putfield 1031, 3) := by decide +kernel
theorem dX13_run_60 : decode cX13_run 60 = .ok (.aload_n 0, 1) := by decide +kernel
theorem dX13_run_61 : decode cX13_run 61 = .ok (.iload_n 1, 1) := by decide +kernel
theorem dX13_run_62 : decode cX13_run 62 = .ok (.putfield 1079, 3) := by decide +kernel
theorem dX13_run_65 : decode cX13_run 65 = .ok (.iconst (-1), 1) := by decide +kernel
theorem dX13_run_66 : decode cX13_run 66 = .ok (.istore_n 2, 1) := by decide +kernel
theorem dX13_run_67 : decode cX13_run 67 = .ok (.iconst 0, 1) := by decide +kernel
theorem dX13_run_68 : decode cX13_run 68 = .ok (.istore_n 3, 1) := by decide +kernel
theorem dX13_run_69 : decode cX13_run 69 = .ok (.iload_n 3, 1) := by decide +kernel
theorem dX13_run_70 : decode cX13_run 70 = .ok (.aload_n 0, 1) := by decide +kernel
theorem dX13_run_71 : decode cX13_run 71 = .ok (.getfield 481, 3) := by decide +kernel
theorem dX13_run_74 : decode cX13_run 74 = .ok (.if_icmp .ge 156, 3) := by decide +kernel
theorem dX13_run_77 : decode cX13_run 77 = .ok (.aload_n 0, 1) := by decide +kernel
theorem dX13_run_78 : decode cX13_run 78 = .ok (.getfield 95, 3) := by decide +kernel
theorem dX13_run_81 : decode cX13_run 81 = .ok (.iload_n 3, 1) := by decide +kernel
theorem dX13_run_82 : decode cX13_run 82 = .ok (.iaload, 1) := by decide +kernel
theorem dX13_run_83 : decode cX13_run 83 = .ok (.iconst 2, 1) := by decide +kernel
theorem dX13_run_84 : decode cX13_run 84 = .ok (.if_icmp .ne 121, 3) := by decide +kernel
theorem dX13_run_87 : decode cX13_run 87 = .ok (.aload_n 0, 1) := by decide +kernel
theorem dX13_run_88 : decode cX13_run 88 = .ok (.getfield 1058, 3) := by decide +kernel
theorem dX13_run_91 : decode cX13_run 91 = .ok (.istore 4, 2) := by decide +kernel
theorem dX13_run_93 : decode cX13_run 93 = .ok (.aload_n 0, 1) := by decide +kernel
theorem dX13_run_94 : decode cX13_run 94 = .ok (.dup, 1) := by decide +kernel
theorem dX13_run_95 : decode cX13_run 95 = .ok (.getfield 1058, 3) := by decide +kernel
theorem dX13_run_98 : decode cX13_run 98 = .ok (.iconst 1, 1) := by decide +kernel
theorem dX13_run_99 : decode cX13_run 99 = .ok (.iadd, 1) := by decide +kernel
theorem dX13_run_100 : decode cX13_run 100 = .ok (.putfield 1058, 3) := by decide +kernel
theorem dX13_run_103 : decode cX13_run 103 = .ok (.aload_n 0, 1) := by decide +kernel
theorem dX13_run_104 : decode cX13_run 104 = .ok (.getfield 359, 3) := by decide +kernel
theorem dX13_run_107 : decode cX13_run 107 = .ok (.iload 4, 2) := by decide +kernel
theorem dX13_run_109 : decode cX13_run 109 = .ok (.aload_n 0, 1) := by decide +kernel
theorem dX13_run_110 : decode cX13_run 110 = .ok (.getfield 1053, 3) := by decide +kernel
theorem dX13_run_113 : decode cX13_run 113 = .ok (.iastore, 1) := by decide +kernel
theorem dX13_run_114 : decode cX13_run 114 = .ok (.aload_n 0, 1) := by decide +kernel
theorem dX13_run_115 : decode cX13_run 115 = .ok (.getfield 362, 3) := by decide +kernel
theorem dX13_run_118 : decode cX13_run 118 = .ok (.iload 4, 2) := by decide +kernel
theorem dX13_run_120 : decode cX13_run 120 = .ok (.aload_n 0, 1) := by decide +kernel
theorem dX13_run_121 : decode cX13_run 121 = .ok (.getfield 327, 3) := by decide +kernel
theorem dX13_run_124 : decode cX13_run 124 = .ok (.iload_n 3, 1) := by decide +kernel
theorem dX13_run_125 : decode cX13_run 125 = .ok (.laload, 1) := by decide +kernel
theorem dX13_run_126 : decode cX13_run 126 = .ok (.l2i, 1) := by decide +kernel
theorem dX13_run_127 : decode cX13_run 127 = .ok (.iastore, 1) := by decide +kernel
theorem dX13_run_128 : decode cX13_run 128 = .ok (.iconst 0, 1) := by decide +kernel
theorem dX13_run_129 : decode cX13_run 129 = .ok (.istore 5, 2) := by decide +kernel
theorem dX13_run_131 : decode cX13_run 131 = .ok (.iload 5, 2) := by decide +kernel
theorem dX13_run_133 : decode cX13_run 133 = .ok (.i2l, 1) := by decide +kernel
theorem dX13_run_134 : decode cX13_run 134 = .ok (.aload_n 0, 1) := by decide +kernel
theorem dX13_run_135 : decode cX13_run 135 = .ok (.getfield 327, 3) := by decide +kernel
theorem dX13_run_138 : decode cX13_run 138 = .ok (.iload_n 3, 1) := by decide +kernel
theorem dX13_run_139 : decode cX13_run 139 = .ok (.laload, 1) := by decide +kernel
theorem dX13_run_140 : decode cX13_run 140 = .ok (.lcmp, 1) := by decide +kernel
theorem dX13_run_141 : decode cX13_run 141 = .ok (.ifCond .ge 34, 3) := by decide +kernel
theorem dX13_run_144 : decode cX13_run 144 = .ok (.aload_n 0, 1) := by decide +kernel
theorem dX13_run_145 : decode cX13_run 145 = .ok (.getfield 365, 3) := by decide +kernel
theorem dX13_run_148 : decode cX13_run 148 = .ok (.aload_n 0, 1) := by decide +kernel
theorem dX13_run_149 : decode cX13_run 149 = .ok (.getfield 1053, 3) := by decide +kernel
theorem dX13_run_152 : decode cX13_run 152 = .ok (.iload 5, 2) := by decide +kernel
theorem dX13_run_154 : decode cX13_run 154 = .ok (.iadd, 1) := by decide +kernel
theorem dX13_run_155 : decode cX13_run 155 = .ok (.aload_n 0, 1) := by decide +kernel
theorem dX13_run_156 : decode cX13_run 156 = .ok (.getfield 330, 3) := by decide +kernel
theorem dX13_run_159 : decode cX13_run 159 = .ok (.sipush 1000, 3) := by decide +kernel
theorem dX13_run_162 : decode cX13_run 162 = .ok (.iload_n 3, 1) := by decide +kernel
theorem dX13_run_163 : decode cX13_run 163 = .ok (.imul, 1) := by decide +kernel
theorem dX13_run_164 : decode cX13_run 164 = .ok (.iload 5, 2) := by decide +kernel
theorem dX13_run_166 : decode cX13_run 166 = .ok (.iadd, 1) := by decide +kernel
theorem dX13_run_167 : decode cX13_run 167 = .ok (.laload, 1) := by decide +kernel
theorem dX13_run_168 : decode cX13_run 168 = .ok (.lastore, 1) := by decide +kernel
theorem dX13_run_169 : decode cX13_run 169 = .ok (.iinc 5 1, 3) := by decide +kernel
theorem dX13_run_172 : decode cX13_run 172 = .ok (.goto (-41), 3) := by decide +kernel
theorem dX13_run_175 : decode cX13_run 175 = .ok (.aload_n 0, 1) := by decide +kernel
theorem dX13_run_176 : decode cX13_run 176 = .ok (.dup, 1) := by decide +kernel
theorem dX13_run_177 : decode cX13_run 177 = .ok (.getfield 1053, 3) := by decide +kernel
theorem dX13_run_180 : decode cX13_run 180 = .ok (.aload_n 0, 1) := by decide +kernel
theorem dX13_run_181 : decode cX13_run 181 = .ok (.getfield 327, 3) := by decide +kernel
theorem dX13_run_184 : decode cX13_run 184 = .ok (.iload_n 3, 1) := by decide +kernel
theorem dX13_run_185 : decode cX13_run 185 = .ok (.laload, 1) := by decide +kernel
theorem dX13_run_186 : decode cX13_run 186 = .ok (.l2i, 1) := by decide +kernel
theorem dX13_run_187 : decode cX13_run 187 = .ok (.iadd, 1) := by decide +kernel
theorem dX13_run_188 : decode cX13_run 188 = .ok (.putfield 1053, 3) := by decide +kernel
theorem dX13_run_191 : decode cX13_run 191 = .ok (.aload_n 0, 1) := by decide +kernel
theorem dX13_run_192 : decode cX13_run 192 = .ok (.iload_n 2, 1) := by decide +kernel
theorem dX13_run_193 : decode cX13_run 193 = .ok (.iload_n 3, 1) := by decide +kernel
theorem dX13_run_194 : decode cX13_run 194 = .ok (.iconst 2, 1) := by decide +kernel
theorem dX13_run_195 : decode cX13_run 195 = .ok (.iload 4, 2) := by decide +kernel
theorem dX13_run_197 : decode cX13_run 197 = .ok (.i2l, 1) := by decide +kernel
theorem dX13_run_198 : decode cX13_run 198 = .ok (.invokevirtual 1082, 3) := by decide +kernel
theorem dX13_run_201 : decode cX13_run 201 = .ok (.istore_n 2, 1) := by decide +kernel
theorem dX13_run_202 : decode cX13_run 202 = .ok (.goto 22, 3) := by decide +kernel
theorem dX13_run_205 : decode cX13_run 205 = .ok (.aload_n 0, 1) := by decide +kernel
theorem dX13_run_206 : decode cX13_run 206 = .ok (.iload_n 2, 1) := by decide +kernel
theorem dX13_run_207 : decode cX13_run 207 = .ok (.iload_n 3, 1) := by decide +kernel
theorem dX13_run_208 : decode cX13_run 208 = .ok (.aload_n 0, 1) := by decide +kernel
theorem dX13_run_209 : decode cX13_run 209 = .ok (.getfield 95, 3) := by decide +kernel
theorem dX13_run_212 : decode cX13_run 212 = .ok (.iload_n 3, 1) := by decide +kernel
theorem dX13_run_213 : decode cX13_run 213 = .ok (.iaload, 1) := by decide +kernel
theorem dX13_run_214 : decode cX13_run 214 = .ok (.aload_n 0, 1) := by decide +kernel
theorem dX13_run_215 : decode cX13_run 215 = .ok (.getfield 327, 3) := by decide +kernel
theorem dX13_run_218 : decode cX13_run 218 = .ok (.iload_n 3, 1) := by decide +kernel
theorem dX13_run_219 : decode cX13_run 219 = .ok (.laload, 1) := by decide +kernel
theorem dX13_run_220 : decode cX13_run 220 = .ok (.invokevirtual 1082, 3) := by decide +kernel
theorem dX13_run_223 : decode cX13_run 223 = .ok (.istore_n 2, 1) := by decide +kernel
theorem dX13_run_224 : decode cX13_run 224 = .ok (.iinc 3 1, 3) := by decide +kernel
theorem dX13_run_227 : decode cX13_run 227 = .ok (.goto (-158), 3) := by decide +kernel
theorem dX13_run_230 : decode cX13_run 230 = .ok (.aload_n 0, 1) := by decide +kernel
theorem dX13_run_231 : decode cX13_run 231 = .ok (.getfield 527, 3) := by decide +kernel
theorem dX13_run_234 : decode cX13_run 234 = .ok (.istore_n 3, 1) := by decide +kernel
theorem dX13_run_235 : decode cX13_run 235 = .ok (.iconst 1, 1) := by decide +kernel
theorem dX13_run_236 : decode cX13_run 236 = .ok (.istore 4, 2) := by decide +kernel
theorem dX13_run_238 : decode cX13_run 238 = .ok (.aload_n 0, 1) := by decide +kernel
theorem dX13_run_239 : decode cX13_run 239 = .ok (.getfield 1031, 3) := by decide +kernel
theorem dX13_run_242 : decode cX13_run 242 = .ok (.ifCond .ne 90, 3) := by decide +kernel
theorem dX13_run_245 : decode cX13_run 245 = .ok (.iload 4, 2) := by decide +kernel
theorem dX13_run_247 : decode cX13_run 247 = .ok (.ifCond .ne 10, 3) := by decide +kernel
theorem dX13_run_250 : decode cX13_run 250 = .ok (.aload_n 0, 1) := by decide +kernel
theorem dX13_run_251 : decode cX13_run 251 = .ok (.getfield 1070, 3) := by decide +kernel
theorem dX13_run_254 : decode cX13_run 254 = .ok (.ifCond .le 78, 3) := by decide +kernel
theorem dX13_run_257 : decode cX13_run 257 = .ok (.iload 4, 2) := by decide +kernel
theorem dX13_run_259 : decode cX13_run 259 = .ok (.ifCond .eq 54, 3) := by decide +kernel
theorem dX13_run_262 : decode cX13_run 262 = .ok (.aload_n 0, 1) := by decide +kernel
theorem dX13_run_263 : decode cX13_run 263 = .ok (.getfield 1079, 3) := by decide +kernel
theorem dX13_run_266 : decode cX13_run 266 = .ok (.ifCond .ne 11, 3) := by decide +kernel
theorem dX13_run_269 : decode cX13_run 269 = .ok (.aload_n 0, 1) := by decide +kernel
theorem dX13_run_270 : decode cX13_run 270 = .ok (.iconst 1, 1) := by decide +kernel
theorem dX13_run_271 : decode cX13_run 271 = .ok (.putfield 1031, 3) := by decide +kernel
theorem dX13_run_274 : decode cX13_run 274 = .ok (.goto 58, 3) := by decide +kernel
theorem dX13_run_277 : decode cX13_run 277 = .ok (.aload_n 0, 1) := by decide +kernel
theorem dX13_run_278 : decode cX13_run 278 = .ok (.dup, 1) := by decide +kernel
theorem dX13_run_279 : decode cX13_run 279 = .ok (.getfield 1079, 3) := by decide +kernel
theorem dX13_run_282 : decode cX13_run 282 = .ok (.iconst 1, 1) := by decide +kernel
theorem dX13_run_283 : decode cX13_run 283 = .ok (.isub, 1) := by decide +kernel
theorem dX13_run_284 : decode cX13_run 284 = .ok (.putfield 1079, 3) := by decide +kernel
theorem dX13_run_287 : decode cX13_run 287 = .ok (.aload_n 0, 1) := by decide +kernel
theorem dX13_run_288 : decode cX13_run 288 = .ok (.iload_n 3, 1) := by decide +kernel
theorem dX13_run_289 : decode cX13_run 289 = .ok (.iload_n 2, 1) := by decide +kernel
theorem dX13_run_290 : decode cX13_run 290 = .ok (.invokevirtual 1086, 3) := by decide +kernel
theorem dX13_run_293 : decode cX13_run 293 = .ok (.istore 4, 2) := by decide +kernel
theorem dX13_run_295 : decode cX13_run 295 = .ok (.iload 4, 2) := by decide +kernel
theorem dX13_run_297 : decode cX13_run 297 = .ok (.ifCond .eq (-59), 3) := by decide +kernel
theorem dX13_run_300 : decode cX13_run 300 = .ok (.aload_n 0, 1) := by decide +kernel
theorem dX13_run_301 : decode cX13_run 301 = .ok (.getfield 1089, 3) := by decide +kernel
theorem dX13_run_304 : decode cX13_run 304 = .ok (.istore_n 3, 1) := by decide +kernel
theorem dX13_run_305 : decode cX13_run 305 = .ok (.aload_n 0, 1) := by decide +kernel
theorem dX13_run_306 : decode cX13_run 306 = .ok (.getfield 1092, 3) := by decide +kernel
theorem dX13_run_309 : decode cX13_run 309 = .ok (.istore_n 2, 1) := by decide +kernel
theorem dX13_run_310 : decode cX13_run 310 = .ok (.goto (-72), 3) := by decide +kernel
theorem dX13_run_313 : decode cX13_run 313 = .ok (.aload_n 0, 1) := by decide +kernel
theorem dX13_run_314 : decode cX13_run 314 = .ok (.invokevirtual 1095, 3) := by decide +kernel
theorem dX13_run_317 : decode cX13_run 317 = .ok (.istore 4, 2) := by decide +kernel
theorem dX13_run_319 : decode cX13_run 319 = .ok (.aload_n 0, 1) := by decide +kernel
theorem dX13_run_320 : decode cX13_run 320 = .ok (.getfield 1089, 3) := by decide +kernel
theorem dX13_run_323 : decode cX13_run 323 = .ok (.istore_n 3, 1) := by decide +kernel
theorem dX13_run_324 : decode cX13_run 324 = .ok (.aload_n 0, 1) := by decide +kernel
theorem dX13_run_325 : decode cX13_run 325 = .ok (.getfield 1092, 3) := by decide +kernel
theorem dX13_run_328 : decode cX13_run 328 = .ok (.istore_n 2, 1) := by decide +kernel
theorem dX13_run_329 : decode cX13_run 329 = .ok (.goto (-91), 3) := by decide +kernel
theorem dX13_run_332 : decode cX13_run 332 = .ok (.aload_n 0, 1) := by decide +kernel
theorem dX13_run_333 : decode cX13_run 333 = .ok (.iload_n 1, 1) := by decide +kernel
theorem dX13_run_334 : decode cX13_run 334 = .ok (.aload_n 0, 1) := by decide +kernel
theorem dX13_run_335 : decode cX13_run 335 = .ok (.getfield 1079, 3) := by decide +kernel
theorem dX13_run_338 : decode cX13_run 338 = .ok (.isub, 1) := by decide +kernel
theorem dX13_run_339 : decode cX13_run 339 = .ok (.putfield 1098, 3) := by decide +kernel
theorem dX13_run_342 : decode cX13_run 342 = .ok (.aload_n 0, 1) := by decide +kernel
theorem dX13_run_343 : decode cX13_run 343 = .ok (.aload_n 0, 1) := by decide +kernel
theorem dX13_run_344 : decode cX13_run 344 = .ok (.getfield 1031, 3) := by decide +kernel
theorem dX13_run_347 : decode cX13_run 347 = .ok (.ifCond .ne 7, 3) := by decide +kernel
theorem dX13_run_350 : decode cX13_run 350 = .ok (.iconst 1, 1) := by decide +kernel
theorem dX13_run_351 : decode cX13_run 351 = .ok (.goto 4, 3) := by decide +kernel
theorem dX13_run_354 : decode cX13_run 354 = .ok (.iconst 0, 1) := by decide +kernel
theorem dX13_run_355 : decode cX13_run 355 = .ok (.putfield 757, 3) := by decide +kernel
theorem dX13_run_358 : decode cX13_run 358 = .ok (.aload_n 0, 1) := by decide +kernel
theorem dX13_run_359 : decode cX13_run 359 = .ok (.getfield 1031, 3) := by decide +kernel
theorem dX13_run_362 : decode cX13_run 362 = .ok (.ifCond .ne 66, 3) := by decide +kernel
theorem dX13_run_365 : decode cX13_run 365 = .ok (.aload_n 0, 1) := by decide +kernel
theorem dX13_run_366 : decode cX13_run 366 = .ok (.aload_n 0, 1) := by decide +kernel
theorem dX13_run_367 : decode cX13_run 367 = .ok (.getfield 1061, 3) := by decide +kernel
theorem dX13_run_370 : decode cX13_run 370 = .ok (.iconst 3, 1) := by decide +kernel
theorem dX13_run_371 : decode cX13_run 371 = .ok (.if_icmp .ne 7, 3) := by decide +kernel
theorem dX13_run_374 : decode cX13_run 374 = .ok (.lconst 0, 1) := by decide +kernel
theorem dX13_run_375 : decode cX13_run 375 = .ok (.goto 50, 3) := by decide +kernel
theorem dX13_run_378 : decode cX13_run 378 = .ok (.aload_n 0, 1) := by decide +kernel
theorem dX13_run_379 : decode cX13_run 379 = .ok (.getfield 1061, 3) := by decide +kernel
theorem dX13_run_382 : decode cX13_run 382 = .ok (.iconst 2, 1) := by decide +kernel
theorem dX13_run_383 : decode cX13_run 383 = .ok (.if_icmp .ne 17, 3) := by decide +kernel
theorem dX13_run_386 : decode cX13_run 386 = .ok (.aload_n 0, 1) := by decide +kernel
theorem dX13_run_387 : decode cX13_run 387 = .ok (.getfield 362, 3) := by decide +kernel
theorem dX13_run_390 : decode cX13_run 390 = .ok (.aload_n 0, 1) := by decide +kernel
theorem dX13_run_391 : decode cX13_run 391 = .ok (.getfield 1064, 3) := by decide +kernel
theorem dX13_run_394 : decode cX13_run 394 = .ok (.l2i, 1) := by decide +kernel
theorem dX13_run_395 : decode cX13_run 395 = .ok (.iaload, 1) := by decide +kernel
theorem dX13_run_396 : decode cX13_run 396 = .ok (.i2l, 1) := by decide +kernel
theorem dX13_run_397 : decode cX13_run 397 = .ok (.goto 28, 3) := by decide +kernel
theorem dX13_run_400 : decode cX13_run 400 = .ok (.aload_n 0, 1) := by decide +kernel
theorem dX13_run_401 : decode cX13_run 401 = .ok (.getfield 1061, 3) := by decide +kernel
theorem dX13_run_404 : decode cX13_run 404 = .ok (.iconst 4, 1) := by decide +kernel
theorem dX13_run_405 : decode cX13_run 405 = .ok (.if_icmp .ne 16, 3) := by decide +kernel
theorem dX13_run_408 : decode cX13_run 408 = .ok (.aload_n 0, 1) := by decide +kernel
theorem dX13_run_409 : decode cX13_run 409 = .ok (.aload_n 0, 1) := by decide +kernel
theorem dX13_run_410 : decode cX13_run 410 = .ok (.getfield 1064, 3) := by decide +kernel
theorem dX13_run_413 : decode cX13_run 413 = .ok (.l2i, 1) := by decide +kernel
theorem dX13_run_414 : decode cX13_run 414 = .ok (.invokevirtual 1037, 3) := by decide +kernel
theorem dX13_run_417 : decode cX13_run 417 = .ok (.i2l, 1) := by decide +kernel
theorem dX13_run_418 : decode cX13_run 418 = .ok (.goto 7, 3) := by decide +kernel
theorem dX13_run_421 : decode cX13_run 421 = .ok (.aload_n 0, 1) := by decide +kernel
theorem dX13_run_422 : decode cX13_run 422 = .ok (.getfield 1064, 3) := by decide +kernel
theorem dX13_run_425 : decode cX13_run 425 = .ok (.putfield 1101, 3) := by decide +kernel
theorem dX13_run_428 : decode cX13_run 428 = .ok (.aload_n 0, 1) := by decide +kernel
theorem dX13_run_429 : decode cX13_run 429 = .ok (.getfield 1031, 3) := by decide +kernel
theorem dX13_run_432 : decode cX13_run 432 = .ok (.ireturn, 1) := by decide +kernel
theorem dX13_begun_0 : decode cX13_begun 0 = .ok (.aload_n 0, 1) := by decide +kernel
theorem dX13_begun_1 : decode cX13_begun 1 = .ok (.getfield 29, 3) := by decide +kernel
theorem dX13_begun_4 : decode cX13_begun 4 = .ok (.iload_n 1, 1) := by decide +kernel
theorem dX13_begun_5 : decode cX13_begun 5 = .ok (.iaload, 1) := by decide +kernel
theorem dX13_begun_6 : decode cX13_begun 6 = .ok (.tableswitch 930 1 19 #[90, 109, 151, 170, 222, 277, 399, 431, 431, 454, 467, 467, 467, 612, 923, 930, 706, 716, 821], 90) := by decide +kernel
theorem dX13_begun_96 : decode cX13_begun 96 = .ok (.aload_n 0, 1) := by decide +kernel
theorem dX13_begun_97 : decode cX13_begun 97 = .ok (.iconst 0, 1) := by decide +kernel
theorem dX13_begun_98 : decode cX13_begun 98 = .ok (.iload_n 1, 1) := by decide +kernel
theorem dX13_begun_99 : decode cX13_begun 99 = .ok (.iload_n 2, 1) := by decide +kernel
theorem dX13_begun_100 : decode cX13_begun 100 = .ok (.invokevirtual 1104, 3) := by decide +kernel
theorem dX13_begun_103 : decode cX13_begun 103 = .ok (.aload_n 0, 1) := by decide +kernel
theorem dX13_begun_104 : decode cX13_begun 104 = .ok (.aload_n 0, 1) := by decide +kernel
theorem dX13_begun_105 : decode cX13_begun 105 = .ok (.getfield 44, 3) := by decide +kernel
theorem dX13_begun_108 : decode cX13_begun 108 = .ok (.iload_n 1, 1) := by decide +kernel
theorem dX13_begun_109 : decode cX13_begun 109 = .ok (.iaload, 1) := by decide +kernel
theorem dX13_begun_110 : decode cX13_begun 110 = .ok (.iload_n 2, 1) := by decide +kernel
theorem dX13_begun_111 : decode cX13_begun 111 = .ok (.invokevirtual 1107, 3) := by decide +kernel
theorem dX13_begun_114 : decode cX13_begun 114 = .ok (.ireturn, 1) := by decide +kernel
theorem dX13_begun_115 : decode cX13_begun 115 = .ok (.aload_n 0, 1) := by decide +kernel
theorem dX13_begun_116 : decode cX13_begun 116 = .ok (.iload_n 2, 1) := by decide +kernel
theorem dX13_begun_117 : decode cX13_begun 117 = .ok (.aload_n 0, 1) := by decide +kernel
theorem dX13_begun_118 : decode cX13_begun 118 = .ok (.getfield 107, 3) := by decide +kernel
theorem dX13_begun_121 : decode cX13_begun 121 = .ok (.aload_n 0, 1) := by decide +kernel
theorem dX13_begun_122 : decode cX13_begun 122 = .ok (.getfield 38, 3) := by decide +kernel
theorem dX13_begun_125 : decode cX13_begun 125 = .ok (.iload_n 1, 1) := by decide +kernel
theorem dX13_begun_126 : decode cX13_begun 126 = .ok (.iaload, 1) := by decide +kernel
theorem dX13_begun_127 : decode cX13_begun 127 = .ok (.iaload, 1) := by decide +kernel
theorem dX13_begun_128 : decode cX13_begun 128 = .ok (.iconst 3, 1) := by decide +kernel
theorem dX13_begun_129 : decode cX13_begun 129 = .ok (.aload_n 0, 1) := by decide +kernel
theorem dX13_begun_130 : decode cX13_begun 130 = .ok (.getfield 1067, 3) := by decide +kernel
theorem dX13_begun_133 : decode cX13_begun 133 = .ok (.i2l, 1) := by decide +kernel
theorem dX13_begun_134 : decode cX13_begun 134 = .ok (.invokevirtual 1082, 3) := by decide +kernel
theorem dX13_begun_137 : decode cX13_begun 137 = .ok (.istore_n 3, 1) := by decide +kernel
theorem dX13_begun_138 : decode cX13_begun 138 = .ok (.aload_n 0, 1) := by decide +kernel
theorem dX13_begun_139 : decode cX13_begun 139 = .ok (.iload_n 1, 1) := by decide +kernel
theorem dX13_begun_140 : decode cX13_begun 140 = .ok (.iload_n 3, 1) := by decide +kernel
theorem dX13_begun_141 : decode cX13_begun 141 = .ok (.invokevirtual 1109, 3) := by decide +kernel
theorem dX13_begun_144 : decode cX13_begun 144 = .ok (.pop, 1) := by decide +kernel
theorem dX13_begun_145 : decode cX13_begun 145 = .ok (.aload_n 0, 1) := by decide +kernel
theorem dX13_begun_146 : decode cX13_begun 146 = .ok (.aload_n 0, 1) := by decide +kernel
theorem dX13_begun_147 : decode cX13_begun 147 = .ok (.getfield 47, 3) := by decide +kernel
theorem dX13_begun_150 : decode cX13_begun 150 = .ok (.iload_n 1, 1) := by decide +kernel
theorem dX13_begun_151 : decode cX13_begun 151 = .ok (.iaload, 1) := by decide +kernel
theorem dX13_begun_152 : decode cX13_begun 152 = .ok (.iload_n 3, 1) := by decide +kernel
theorem dX13_begun_153 : decode cX13_begun 153 = .ok (.invokevirtual 1107, 3) := by decide +kernel
theorem dX13_begun_156 : decode cX13_begun 156 = .ok (.ireturn, 1) := by decide +kernel
theorem dX13_begun_157 : decode cX13_begun 157 = .ok (.aload_n 0, 1) := by decide +kernel
theorem dX13_begun_158 : decode cX13_begun 158 = .ok (.iconst 3, 1) := by decide +kernel
theorem dX13_begun_159 : decode cX13_begun 159 = .ok (.aload_n 0, 1) := by decide +kernel
theorem dX13_begun_160 : decode cX13_begun 160 = .ok (.getfield 1067, 3) := by decide +kernel
theorem dX13_begun_163 : decode cX13_begun 163 = .ok (.i2l, 1) := by decide +kernel
theorem dX13_begun_164 : decode cX13_begun 164 = .ok (.invokevirtual 1112, 3) := by decide +kernel
theorem dX13_begun_167 : decode cX13_begun 167 = .ok (.aload_n 0, 1) := by decide +kernel
theorem dX13_begun_168 : decode cX13_begun 168 = .ok (.iload_n 1, 1) := by decide +kernel
theorem dX13_begun_169 : decode cX13_begun 169 = .ok (.iload_n 2, 1) := by decide +kernel
theorem dX13_begun_170 : decode cX13_begun 170 = .ok (.invokevirtual 1109, 3) := by decide +kernel
theorem dX13_begun_173 : decode cX13_begun 173 = .ok (.pop, 1) := by decide +kernel
theorem dX13_begun_174 : decode cX13_begun 174 = .ok (.iconst 0, 1) := by decide +kernel
theorem dX13_begun_175 : decode cX13_begun 175 = .ok (.ireturn, 1) := by decide +kernel
theorem dX13_begun_176 : decode cX13_begun 176 = .ok (.aload_n 0, 1) := by decide +kernel
theorem dX13_begun_177 : decode cX13_begun 177 = .ok (.aload_n 0, 1) := by decide +kernel
theorem dX13_begun_178 : decode cX13_begun 178 = .ok (.getfield 38, 3) := by decide +kernel
theorem dX13_begun_181 : decode cX13_begun 181 = .ok (.iload_n 1, 1) := by decide +kernel
theorem dX13_begun_182 : decode cX13_begun 182 = .ok (.iaload, 1) := by decide +kernel
theorem dX13_begun_183 : decode cX13_begun 183 = .ok (.iload_n 2, 1) := by decide +kernel
theorem dX13_begun_184 : decode cX13_begun 184 = .ok (.invokevirtual 1044, 3) := by decide +kernel
theorem dX13_begun_187 : decode cX13_begun 187 = .ok (.istore_n 3, 1) := by decide +kernel
theorem dX13_begun_188 : decode cX13_begun 188 = .ok (.aload_n 0, 1) := by decide +kernel
theorem dX13_begun_189 : decode cX13_begun 189 = .ok (.getfield 1031, 3) := by decide +kernel
theorem dX13_begun_192 : decode cX13_begun 192 = .ok (.ifCond .ne 34, 3) := by decide +kernel
theorem dX13_begun_195 : decode cX13_begun 195 = .ok (.aload_n 0, 1) := by decide +kernel
theorem dX13_begun_196 : decode cX13_begun 196 = .ok (.iload_n 3, 1) := by decide +kernel
theorem dX13_begun_197 : decode cX13_begun 197 = .ok (.ifCond .eq 12, 3) := by decide +kernel
theorem dX13_begun_200 : decode cX13_begun 200 = .ok (.aload_n 0, 1) := by decide +kernel
theorem dX13_begun_201 : decode cX13_begun 201 = .ok (.getfield 44, 3) := by decide +kernel
theorem dX13_begun_204 : decode cX13_begun 204 = .ok (.iload_n 1, 1) := by decide +kernel
theorem dX13_begun_205 : decode cX13_begun 205 = .ok (.iaload, 1) := by decide +kernel
theorem dX13_begun_206 : decode cX13_begun 206 = .ok (.goto 9, 3) := by decide +kernel
theorem dX13_begun_209 : decode cX13_begun 209 = .ok (.aload_n 0, 1) := by decide +kernel
theorem dX13_begun_210 : decode cX13_begun 210 = .ok (.getfield 47, 3) := by decide +kernel
theorem dX13_begun_213 : decode cX13_begun 213 = .ok (.iload_n 1, 1) := by decide +kernel
theorem dX13_begun_214 : decode cX13_begun 214 = .ok (.iaload, 1) := by decide +kernel
theorem dX13_begun_215 : decode cX13_begun 215 = .ok (.iload_n 2, 1) := by decide +kernel
theorem dX13_begun_216 : decode cX13_begun 216 = .ok (.invokevirtual 1107, 3) := by decide +kernel
theorem dX13_begun_219 : decode cX13_begun 219 = .ok (.ifCond .eq 7, 3) := by decide +kernel
theorem dX13_begun_222 : decode cX13_begun 222 = .ok (.iconst 1, 1) := by decide +kernel
theorem dX13_begun_223 : decode cX13_begun 223 = .ok (.goto 4, 3) := by decide +kernel
theorem dX13_begun_226 : decode cX13_begun 226 = .ok (.iconst 0, 1) := by decide +kernel
theorem dX13_begun_227 : decode cX13_begun 227 = .ok (.ireturn, 1) := by decide +kernel
theorem dX13_begun_228 : decode cX13_begun 228 = .ok (.aload_n 0, 1) := by decide +kernel
theorem dX13_begun_229 : decode cX13_begun 229 = .ok (.aload_n 0, 1) := by decide +kernel
theorem dX13_begun_230 : decode cX13_begun 230 = .ok (.getfield 38, 3) := by decide +kernel
theorem dX13_begun_233 : decode cX13_begun 233 = .ok (.iload_n 1, 1) := by decide +kernel
theorem dX13_begun_234 : decode cX13_begun 234 = .ok (.iaload, 1) := by decide +kernel
theorem dX13_begun_235 : decode cX13_begun 235 = .ok (.iload_n 2, 1) := by decide +kernel
theorem dX13_begun_236 : decode cX13_begun 236 = .ok (.invokevirtual 1044, 3) := by decide +kernel
theorem dX13_begun_239 : decode cX13_begun 239 = .ok (.istore_n 3, 1) := by decide +kernel
theorem dX13_begun_240 : decode cX13_begun 240 = .ok (.aload_n 0, 1) := by decide +kernel
theorem dX13_begun_241 : decode cX13_begun 241 = .ok (.getfield 1031, 3) := by decide +kernel
theorem dX13_begun_244 : decode cX13_begun 244 = .ok (.ifCond .ne 12, 3) := by decide +kernel
theorem dX13_begun_247 : decode cX13_begun 247 = .ok (.iload_n 3, 1) := by decide +kernel
theorem dX13_begun_248 : decode cX13_begun 248 = .ok (.ifCond .ne 8, 3) := by decide +kernel
theorem dX13_begun_251 : decode cX13_begun 251 = .ok (.aload_n 0, 1) := by decide +kernel
theorem dX13_begun_252 : decode cX13_begun 252 = .ok (.iconst 3, 1) := by decide +kernel
theorem dX13_begun_253 : decode cX13_begun 253 = .ok (.putfield 1031, 3) := by decide +kernel
theorem dX13_begun_256 : decode cX13_begun 256 = .ok (.aload_n 0, 1) := by decide +kernel
theorem dX13_begun_257 : decode cX13_begun 257 = .ok (.getfield 1031, 3) := by decide +kernel
theorem dX13_begun_260 : decode cX13_begun 260 = .ok (.ifCond .ne 21, 3) := by decide +kernel
theorem dX13_begun_263 : decode cX13_begun 263 = .ok (.aload_n 0, 1) := by decide +kernel
theorem dX13_begun_264 : decode cX13_begun 264 = .ok (.aload_n 0, 1) := by decide +kernel
theorem dX13_begun_265 : decode cX13_begun 265 = .ok (.getfield 44, 3) := by decide +kernel
theorem dX13_begun_268 : decode cX13_begun 268 = .ok (.iload_n 1, 1) := by decide +kernel
theorem dX13_begun_269 : decode cX13_begun 269 = .ok (.iaload, 1) := by decide +kernel
theorem dX13_begun_270 : decode cX13_begun 270 = .ok (.iload_n 2, 1) := by decide +kernel
theorem dX13_begun_271 : decode cX13_begun 271 = .ok (.invokevirtual 1107, 3) := by decide +kernel
theorem dX13_begun_274 : decode cX13_begun 274 = .ok (.ifCond .eq 7, 3) := by decide +kernel
theorem dX13_begun_277 : decode cX13_begun 277 = .ok (.iconst 1, 1) := by decide +kernel
theorem dX13_begun_278 : decode cX13_begun 278 = .ok (.goto 4, 3) := by decide +kernel
theorem dX13_begun_281 : decode cX13_begun 281 = .ok (.iconst 0, 1) := by decide +kernel
theorem dX13_begun_282 : decode cX13_begun 282 = .ok (.ireturn, 1) := by decide +kernel
theorem dX13_begun_283 : decode cX13_begun 283 = .ok (.aload_n 0, 1) := by decide +kernel
theorem dX13_begun_284 : decode cX13_begun 284 = .ok (.aload_n 0, 1) := by decide +kernel
theorem dX13_begun_285 : decode cX13_begun 285 = .ok (.getfield 41, 3) := by decide +kernel
theorem dX13_begun_288 : decode cX13_begun 288 = .ok (.iload_n 1, 1) := by decide +kernel
theorem dX13_begun_289 : decode cX13_begun 289 = .ok (.iaload, 1) := by decide +kernel
theorem dX13_begun_290 : decode cX13_begun 290 = .ok (.iload_n 2, 1) := by decide +kernel
theorem dX13_begun_291 : decode cX13_begun 291 = .ok (.invokevirtual 1047, 3) := by decide +kernel
theorem dX13_begun_294 : decode cX13_begun 294 = .ok (.lstore_n 3, 1) := by decide +kernel
theorem dX13_begun_295 : decode cX13_begun 295 = .ok (.aload_n 0, 1) := by decide +kernel
theorem dX13_begun_296 : decode cX13_begun 296 = .ok (.getfield 1031, 3) := by decide +kernel
theorem dX13_begun_299 : decode cX13_begun 299 = .ok (.ifCond .eq 5, 3) := by decide +kernel
theorem dX13_begun_302 : decode cX13_begun 302 = .ok (.iconst 0, 1) := by decide +kernel
theorem dX13_begun_303 : decode cX13_begun 303 = .ok (.ireturn, 1) := by decide +kernel
theorem dX13_begun_304 : decode cX13_begun 304 = .ok (.aload_n 0, 1) := by decide +kernel
theorem dX13_begun_305 : decode cX13_begun 305 = .ok (.getfield 343, 3) := by decide +kernel
theorem dX13_begun_308 : decode cX13_begun 308 = .ok (.aload_n 0, 1) := by decide +kernel
theorem dX13_begun_309 : decode cX13_begun 309 = .ok (.iload_n 2, 1) := by decide +kernel
theorem dX13_begun_310 : decode cX13_begun 310 = .ok (.aload_n 0, 1) := by decide +kernel
theorem dX13_begun_311 : decode cX13_begun 311 = .ok (.getfield 107, 3) := by decide +kernel
theorem dX13_begun_314 : decode cX13_begun 314 = .ok (.aload_n 0, 1) := by decide +kernel
theorem dX13_begun_315 : decode cX13_begun 315 = .ok (.getfield 38, 3) := by decide +kernel
theorem dX13_begun_318 : decode cX13_begun 318 = .ok (.iload_n 1, 1) := by decide +kernel
theorem dX13_begun_319 : decode cX13_begun 319 = .ok (.iaload, 1) := by decide +kernel
theorem dX13_begun_320 : decode cX13_begun 320 = .ok (.iaload, 1) := by decide +kernel
theorem dX13_begun_321 : decode cX13_begun 321 = .ok (.invokevirtual 1034, 3) := by decide +kernel
theorem dX13_begun_324 : decode cX13_begun 324 = .ok (.laload, 1) := by decide +kernel
theorem dX13_begun_325 : decode cX13_begun 325 = .ok (.l2i, 1) := by decide +kernel
theorem dX13_begun_326 : decode cX13_begun 326 = .ok (.istore 5, 2) := by decide +kernel
theorem dX13_begun_328 : decode cX13_begun 328 = .ok (.lload_n 3, 1) := by decide +kernel
theorem dX13_begun_329 : decode cX13_begun 329 = .ok (.lconst 0, 1) := by decide +kernel
theorem dX13_begun_330 : decode cX13_begun 330 = .ok (.lcmp, 1) := by decide +kernel
theorem dX13_begun_331 : decode cX13_begun 331 = .ok (.ifCond .lt 16, 3) := by decide +kernel
theorem dX13_begun_334 : decode cX13_begun 334 = .ok (.lload_n 3, 1) := by decide +kernel
theorem dX13_begun_335 : decode cX13_begun 335 = .ok (.aload_n 0, 1) := by decide +kernel
theorem dX13_begun_336 : decode cX13_begun 336 = .ok (.getfield 362, 3) := by decide +kernel
theorem dX13_begun_339 : decode cX13_begun 339 = .ok (.iload 5, 2) := by decide +kernel
theorem dX13_begun_341 : decode cX13_begun 341 = .ok (.iaload, 1) := by decide +kernel
theorem dX13_begun_342 : decode cX13_begun 342 = .ok (.i2l, 1) := by decide +kernel
theorem dX13_begun_343 : decode cX13_begun 343 = .ok (.lcmp, 1) := by decide +kernel
theorem dX13_begun_344 : decode cX13_begun 344 = .ok (.ifCond .lt 10, 3) := by decide +kernel
theorem dX13_begun_347 : decode cX13_begun 347 = .ok (.aload_n 0, 1) := by decide +kernel
theorem dX13_begun_348 : decode cX13_begun 348 = .ok (.iconst 5, 1) := by decide +kernel
theorem dX13_begun_349 : decode cX13_begun 349 = .ok (.putfield 1031, 3) := by decide +kernel
theorem dX13_begun_352 : decode cX13_begun 352 = .ok (.iconst 0, 1) := by decide +kernel
theorem dX13_begun_353 : decode cX13_begun 353 = .ok (.ireturn, 1) := by decide +kernel
theorem dX13_begun_354 : decode cX13_begun 354 = .ok (.aload_n 0, 1) := by decide +kernel
theorem dX13_begun_355 : decode cX13_begun 355 = .ok (.aload_n 0, 1) := by decide +kernel
theorem dX13_begun_356 : decode cX13_begun 356 = .ok (.getfield 44, 3) := by decide +kernel
theorem dX13_begun_359 : decode cX13_begun 359 = .ok (.iload_n 1, 1) := by decide +kernel
theorem dX13_begun_360 : decode cX13_begun 360 = .ok (.iaload, 1) := by decide +kernel
theorem dX13_begun_361 : decode cX13_begun 361 = .ok (.iload_n 2, 1) := by decide +kernel
theorem dX13_begun_362 : decode cX13_begun 362 = .ok (.invokevirtual 1047, 3) := by decide +kernel
theorem dX13_begun_365 : decode cX13_begun 365 = .ok (.lstore 6, 2) := by decide +kernel
theorem dX13_begun_367 : decode cX13_begun 367 = .ok (.aload_n 0, 1) := by decide +kernel
theorem dX13_begun_368 : decode cX13_begun 368 = .ok (.getfield 1031, 3) := by decide +kernel
theorem dX13_begun_371 : decode cX13_begun 371 = .ok (.ifCond .eq 5, 3) := by decide +kernel
theorem dX13_begun_374 : decode cX13_begun 374 = .ok (.iconst 0, 1) := by decide +kernel
theorem dX13_begun_375 : decode cX13_begun 375 = .ok (.ireturn, 1) := by decide +kernel
theorem dX13_begun_376 : decode cX13_begun 376 = .ok (.aload_n 0, 1) := by decide +kernel
theorem dX13_begun_377 : decode cX13_begun 377 = .ok (.getfield 365, 3) := by decide +kernel
theorem dX13_begun_380 : decode cX13_begun 380 = .ok (.aload_n 0, 1) := by decide +kernel
theorem dX13_begun_381 : decode cX13_begun 381 = .ok (.getfield 359, 3) := by decide +kernel
theorem dX13_begun_384 : decode cX13_begun 384 = .ok (.iload 5, 2) := by decide +kernel
theorem dX13_begun_386 : decode cX13_begun 386 = .ok (.iaload, 1) := by decide +kernel
theorem dX13_begun_387 : decode cX13_begun 387 = .ok (.lload_n 3, 1) := by decide +kernel
theorem dX13_begun_388 : decode cX13_begun 388 = .ok (.l2i, 1) := by decide +kernel
theorem dX13_begun_389 : decode cX13_begun 389 = .ok (.iadd, 1) := by decide +kernel
theorem dX13_begun_390 : decode cX13_begun 390 = .ok (.lload 6, 2) := by decide +kernel
theorem dX13_begun_392 : decode cX13_begun 392 = .ok (.lastore, 1) := by decide +kernel
theorem dX13_begun_393 : decode cX13_begun 393 = .ok (.aload_n 0, 1) := by decide +kernel
theorem dX13_begun_394 : decode cX13_begun 394 = .ok (.aload_n 0, 1) := by decide +kernel
theorem dX13_begun_395 : decode cX13_begun 395 = .ok (.getfield 47, 3) := by decide +kernel
theorem dX13_begun_398 : decode cX13_begun 398 = .ok (.iload_n 1, 1) := by decide +kernel
theorem dX13_begun_399 : decode cX13_begun 399 = .ok (.iaload, 1) := by decide +kernel
theorem dX13_begun_400 : decode cX13_begun 400 = .ok (.iload_n 2, 1) := by decide +kernel
theorem dX13_begun_401 : decode cX13_begun 401 = .ok (.invokevirtual 1107, 3) := by decide +kernel
theorem dX13_begun_404 : decode cX13_begun 404 = .ok (.ireturn, 1) := by decide +kernel
theorem dX13_begun_405 : decode cX13_begun 405 = .ok (.aload_n 0, 1) := by decide +kernel
theorem dX13_begun_406 : decode cX13_begun 406 = .ok (.aload_n 0, 1) := by decide +kernel
theorem dX13_begun_407 : decode cX13_begun 407 = .ok (.getfield 41, 3) := by decide +kernel
theorem dX13_begun_410 : decode cX13_begun 410 = .ok (.iload_n 1, 1) := by decide +kernel
theorem dX13_begun_411 : decode cX13_begun 411 = .ok (.iaload, 1) := by decide +kernel
theorem dX13_begun_412 : decode cX13_begun 412 = .ok (.iload_n 2, 1) := by decide +kernel
theorem dX13_begun_413 : decode cX13_begun 413 = .ok (.invokevirtual 1047, 3) := by decide +kernel
theorem dX13_begun_416 : decode cX13_begun 416 = .ok (.lstore_n 3, 1) := by decide +kernel
theorem dX13_begun_417 : decode cX13_begun 417 = .ok (.aload_n 0, 1) := by decide +kernel
theorem dX13_begun_418 : decode cX13_begun 418 = .ok (.getfield 1031, 3) := by decide +kernel
theorem dX13_begun_421 : decode cX13_begun 421 = .ok (.ifCond .ne 14, 3) := by decide +kernel
theorem dX13_begun_424 : decode cX13_begun 424 = .ok (.aload_n 0, 1) := by decide +kernel
theorem dX13_begun_425 : decode cX13_begun 425 = .ok (.iconst 2, 1) := by decide +kernel
theorem dX13_begun_426 : decode cX13_begun 426 = .ok (.aload_n 0, 1) := by decide +kernel
theorem dX13_begun_427 : decode cX13_begun 427 = .ok (.lload_n 3, 1) := by decide +kernel
theorem dX13_begun_428 : decode cX13_begun 428 = .ok (.invokevirtual 1115, 3) := by decide +kernel
theorem dX13_begun_431 : decode cX13_begun 431 = .ok (.i2l, 1) := by decide +kernel
theorem dX13_begun_432 : decode cX13_begun 432 = .ok (.invokevirtual 1112, 3) := by decide +kernel
theorem dX13_begun_435 : decode cX13_begun 435 = .ok (.iconst 0, 1) := by decide +kernel
theorem dX13_begun_436 : decode cX13_begun 436 = .ok (.ireturn, 1) := by decide +kernel
theorem dX13_begun_437 : decode cX13_begun 437 = .ok (.aload_n 0, 1) := by decide +kernel
theorem dX13_begun_438 : decode cX13_begun 438 = .ok (.iconst 1, 1) := by decide +kernel
theorem dX13_begun_439 : decode cX13_begun 439 = .ok (.aload_n 0, 1) := by decide +kernel
theorem dX13_begun_440 : decode cX13_begun 440 = .ok (.getfield 29, 3) := by decide +kernel
theorem dX13_begun_443 : decode cX13_begun 443 = .ok (.iload_n 1, 1) := by decide +kernel
theorem dX13_begun_444 : decode cX13_begun 444 = .ok (.iaload, 1) := by decide +kernel
theorem dX13_begun_445 : decode cX13_begun 445 = .ok (.bipush 8, 2) := by decide +kernel
theorem dX13_begun_447 : decode cX13_begun 447 = .ok (.if_icmp .ne 7, 3) := by decide +kernel
theorem dX13_begun_450 : decode cX13_begun 450 = .ok (.lconst 1, 1) := by decide +kernel
theorem dX13_begun_451 : decode cX13_begun 451 = .ok (.goto 4, 3) := by decide +kernel
theorem dX13_begun_454 : decode cX13_begun 454 = .ok (.lconst 0, 1) := by decide +kernel
theorem dX13_begun_455 : decode cX13_begun 455 = .ok (.invokevirtual 1112, 3) := by decide +kernel
theorem dX13_begun_458 : decode cX13_begun 458 = .ok (.iconst 0, 1) := by decide +kernel
theorem dX13_begun_459 : decode cX13_begun 459 = .ok (.ireturn, 1) := by decide +kernel
theorem dX13_begun_460 : decode cX13_begun 460 = .ok (.aload_n 0, 1) := by decide +kernel
theorem dX13_begun_461 : decode cX13_begun 461 = .ok (.aload_n 0, 1) := by decide +kernel
theorem dX13_begun_462 : decode cX13_begun 462 = .ok (.getfield 41, 3) := by decide +kernel
theorem dX13_begun_465 : decode cX13_begun 465 = .ok (.iload_n 1, 1) := by decide +kernel
theorem dX13_begun_466 : decode cX13_begun 466 = .ok (.iaload, 1) := by decide +kernel
theorem dX13_begun_467 : decode cX13_begun 467 = .ok (.iload_n 2, 1) := by decide +kernel
theorem dX13_begun_468 : decode cX13_begun 468 = .ok (.invokevirtual 1119, 3) := by decide +kernel
theorem dX13_begun_471 : decode cX13_begun 471 = .ok (.iconst 0, 1) := by decide +kernel
theorem dX13_begun_472 : decode cX13_begun 472 = .ok (.ireturn, 1) := by decide +kernel
theorem dX13_begun_473 : decode cX13_begun 473 = .ok (.aload_n 0, 1) := by decide +kernel
theorem dX13_begun_474 : decode cX13_begun 474 = .ok (.aload_n 0, 1) := by decide +kernel
theorem dX13_begun_475 : decode cX13_begun 475 = .ok (.getfield 41, 3) := by decide +kernel
theorem dX13_begun_478 : decode cX13_begun 478 = .ok (.iload_n 1, 1) := by decide +kernel
theorem dX13_begun_479 : decode cX13_begun 479 = .ok (.iaload, 1) := by decide +kernel
theorem dX13_begun_480 : decode cX13_begun 480 = .ok (.iload_n 2, 1) := by decide +kernel
theorem dX13_begun_481 : decode cX13_begun 481 = .ok (.invokevirtual 1047, 3) := by decide +kernel
theorem dX13_begun_484 : decode cX13_begun 484 = .ok (.lstore_n 3, 1) := by decide +kernel
theorem dX13_begun_485 : decode cX13_begun 485 = .ok (.aload_n 0, 1) := by decide +kernel
theorem dX13_begun_486 : decode cX13_begun 486 = .ok (.getfield 1031, 3) := by decide +kernel
theorem dX13_begun_489 : decode cX13_begun 489 = .ok (.ifCond .eq 5, 3) := by decide +kernel
theorem dX13_begun_492 : decode cX13_begun 492 = .ok (.iconst 0, 1) := by decide +kernel
theorem dX13_begun_493 : decode cX13_begun 493 = .ok (.ireturn, 1) := by decide +kernel
theorem dX13_begun_494 : decode cX13_begun 494 = .ok (.aload_n 0, 1) := by decide +kernel
theorem dX13_begun_495 : decode cX13_begun 495 = .ok (.aload_n 0, 1) := by decide +kernel
theorem dX13_begun_496 : decode cX13_begun 496 = .ok (.getfield 44, 3) := by decide +kernel
theorem dX13_begun_499 : decode cX13_begun 499 = .ok (.iload_n 1, 1) := by decide +kernel
theorem dX13_begun_500 : decode cX13_begun 500 = .ok (.iaload, 1) := by decide +kernel
theorem dX13_begun_501 : decode cX13_begun 501 = .ok (.iload_n 2, 1) := by decide +kernel
theorem dX13_begun_502 : decode cX13_begun 502 = .ok (.invokevirtual 1047, 3) := by decide +kernel
theorem dX13_begun_505 : decode cX13_begun 505 = .ok (.lstore 5, 2) := by decide +kernel
theorem dX13_begun_507 : decode cX13_begun 507 = .ok (.aload_n 0, 1) := by decide +kernel
theorem dX13_begun_508 : decode cX13_begun 508 = .ok (.getfield 1031, 3) := by decide +kernel
theorem dX13_begun_511 : decode cX13_begun 511 = .ok (.ifCond .eq 5, 3) := by decide +kernel
theorem dX13_begun_514 : decode cX13_begun 514 = .ok (.iconst 0, 1) := by decide +kernel
theorem dX13_begun_515 : decode cX13_begun 515 = .ok (.ireturn, 1) := by decide +kernel
theorem dX13_begun_516 : decode cX13_begun 516 = .ok (.aload_n 0, 1) := by decide +kernel
theorem dX13_begun_517 : decode cX13_begun 517 = .ok (.getfield 29, 3) := by decide +kernel
theorem dX13_begun_520 : decode cX13_begun 520 = .ok (.iload_n 1, 1) := by decide +kernel
theorem dX13_begun_521 : decode cX13_begun 521 = .ok (.iaload, 1) := by decide +kernel
theorem dX13_begun_522 : decode cX13_begun 522 = .ok (.bipush 11, 2) := by decide +kernel
theorem dX13_begun_524 : decode cX13_begun 524 = .ok (.if_icmp .eq 17, 3) := by decide +kernel
theorem dX13_begun_527 : decode cX13_begun 527 = .ok (.lload 5, 2) := by decide +kernel
theorem dX13_begun_529 : decode cX13_begun 529 = .ok (.lconst 0, 1) := by decide +kernel
theorem dX13_begun_530 : decode cX13_begun 530 = .ok (.lcmp, 1) := by decide +kernel
theorem dX13_begun_531 : decode cX13_begun 531 = .ok (.ifCond .ne 10, 3) := by decide +kernel
theorem dX13_begun_534 : decode cX13_begun 534 = .ok (.aload_n 0, 1) := by decide +kernel
theorem dX13_begun_535 : decode cX13_begun 535 = .ok (.iconst 4, 1) := by decide +kernel
theorem dX13_begun_536 : decode cX13_begun 536 = .ok (.putfield 1031, 3) := by decide +kernel
theorem dX13_begun_539 : decode cX13_begun 539 = .ok (.iconst 0, 1) := by decide +kernel
theorem dX13_begun_540 : decode cX13_begun 540 = .ok (.ireturn, 1) := by decide +kernel
theorem dX13_begun_541 : decode cX13_begun 541 = .ok (.aload_n 0, 1) := by decide +kernel
theorem dX13_begun_542 : decode cX13_begun 542 = .ok (.getfield 29, 3) := by decide +kernel
theorem dX13_begun_545 : decode cX13_begun 545 = .ok (.iload_n 1, 1) := by decide +kernel
theorem dX13_begun_546 : decode cX13_begun 546 = .ok (.iaload, 1) := by decide +kernel
theorem dX13_begun_547 : decode cX13_begun 547 = .ok (.bipush 11, 2) := by decide +kernel
theorem dX13_begun_549 : decode cX13_begun 549 = .ok (.if_icmp .ne 7, 3) := by decide +kernel
theorem dX13_begun_552 : decode cX13_begun 552 = .ok (.lconst 0, 1) := by decide +kernel
theorem dX13_begun_553 : decode cX13_begun 553 = .ok (.goto 9, 3) := by decide +kernel
theorem dX13_begun_556 : decode cX13_begun 556 = .ok (.lload_n 3, 1) := by decide +kernel
theorem dX13_begun_557 : decode cX13_begun 557 = .ok (.lload 5, 2) := by decide +kernel
theorem dX13_begun_559 : decode cX13_begun 559 = .ok (.invokestatic 867, 3) := by decide +kernel
theorem dX13_begun_562 : decode cX13_begun 562 = .ok (.lstore 7, 2) := by decide +kernel
theorem dX13_begun_564 : decode cX13_begun 564 = .ok (.aload_n 0, 1) := by decide +kernel
theorem dX13_begun_565 : decode cX13_begun 565 = .ok (.iconst 0, 1) := by decide +kernel
theorem dX13_begun_566 : decode cX13_begun 566 = .ok (.aload_n 0, 1) := by decide +kernel
theorem dX13_begun_567 : decode cX13_begun 567 = .ok (.aload_n 0, 1) := by decide +kernel
theorem dX13_begun_568 : decode cX13_begun 568 = .ok (.getfield 29, 3) := by decide +kernel
theorem dX13_begun_571 : decode cX13_begun 571 = .ok (.iload_n 1, 1) := by decide +kernel
theorem dX13_begun_572 : decode cX13_begun 572 = .ok (.iaload, 1) := by decide +kernel
theorem dX13_begun_573 : decode cX13_begun 573 = .ok (.bipush 11, 2) := by decide +kernel
theorem dX13_begun_575 : decode cX13_begun 575 = .ok (.if_icmp .ne 12, 3) := by decide +kernel
theorem dX13_begun_578 : decode cX13_begun 578 = .ok (.lload_n 3, 1) := by decide +kernel
theorem dX13_begun_579 : decode cX13_begun 579 = .ok (.lload 5, 2) := by decide +kernel
theorem dX13_begun_581 : decode cX13_begun 581 = .ok (.invokestatic 1122, 3) := by decide +kernel
theorem dX13_begun_584 : decode cX13_begun 584 = .ok (.goto 26, 3) := by decide +kernel
theorem dX13_begun_587 : decode cX13_begun 587 = .ok (.aload_n 0, 1) := by decide +kernel
theorem dX13_begun_588 : decode cX13_begun 588 = .ok (.getfield 29, 3) := by decide +kernel
theorem dX13_begun_591 : decode cX13_begun 591 = .ok (.iload_n 1, 1) := by decide +kernel
theorem dX13_begun_592 : decode cX13_begun 592 = .ok (.iaload, 1) := by decide +kernel
theorem dX13_begun_593 : decode cX13_begun 593 = .ok (.bipush 12, 2) := by decide +kernel
theorem dX13_begun_595 : decode cX13_begun 595 = .ok (.if_icmp .ne 8, 3) := by decide +kernel
theorem dX13_begun_598 : decode cX13_begun 598 = .ok (.lload 7, 2) := by decide +kernel
theorem dX13_begun_600 : decode cX13_begun 600 = .ok (.goto 10, 3) := by decide +kernel
theorem dX13_begun_603 : decode cX13_begun 603 = .ok (.lload_n 3, 1) := by decide +kernel
theorem dX13_begun_604 : decode cX13_begun 604 = .ok (.lload 5, 2) := by decide +kernel
theorem dX13_begun_606 : decode cX13_begun 606 = .ok (.lload 7, 2) := by decide +kernel
theorem dX13_begun_608 : decode cX13_begun 608 = .ok (.lmul, 1) := by decide +kernel
theorem dX13_begun_609 : decode cX13_begun 609 = .ok (.lsub, 1) := by decide +kernel
theorem dX13_begun_610 : decode cX13_begun 610 = .ok (.invokevirtual 1040, 3) := by decide +kernel
theorem dX13_begun_613 : decode cX13_begun 613 = .ok (.invokevirtual 1112, 3) := by decide +kernel
theorem dX13_begun_616 : decode cX13_begun 616 = .ok (.iconst 0, 1) := by decide +kernel
theorem dX13_begun_617 : decode cX13_begun 617 = .ok (.ireturn, 1) := by decide +kernel
theorem dX13_begun_618 : decode cX13_begun 618 = .ok (.aload_n 0, 1) := by decide +kernel
theorem dX13_begun_619 : decode cX13_begun 619 = .ok (.aload_n 0, 1) := by decide +kernel
theorem dX13_begun_620 : decode cX13_begun 620 = .ok (.getfield 41, 3) := by decide +kernel
theorem dX13_begun_623 : decode cX13_begun 623 = .ok (.iload_n 1, 1) := by decide +kernel
theorem dX13_begun_624 : decode cX13_begun 624 = .ok (.iaload, 1) := by decide +kernel
theorem dX13_begun_625 : decode cX13_begun 625 = .ok (.iload_n 2, 1) := by decide +kernel
theorem dX13_begun_626 : decode cX13_begun 626 = .ok (.invokevirtual 1047, 3) := by decide +kernel
theorem dX13_begun_629 : decode cX13_begun 629 = .ok (.lstore_n 3, 1) := by decide +kernel
theorem dX13_begun_630 : decode cX13_begun 630 = .ok (.aload_n 0, 1) := by decide +kernel
theorem dX13_begun_631 : decode cX13_begun 631 = .ok (.getfield 1031, 3) := by decide +kernel
theorem dX13_begun_634 : decode cX13_begun 634 = .ok (.ifCond .eq 5, 3) := by decide +kernel
theorem dX13_begun_637 : decode cX13_begun 637 = .ok (.iconst 0, 1) := by decide +kernel
theorem dX13_begun_638 : decode cX13_begun 638 = .ok (.ireturn, 1) := by decide +kernel
theorem dX13_begun_639 : decode cX13_begun 639 = .ok (.aload_n 0, 1) := by decide +kernel
theorem dX13_begun_640 : decode cX13_begun 640 = .ok (.getfield 343, 3) := by decide +kernel
theorem dX13_begun_643 : decode cX13_begun 643 = .ok (.aload_n 0, 1) := by decide +kernel
theorem dX13_begun_644 : decode cX13_begun 644 = .ok (.iload_n 2, 1) := by decide +kernel
theorem dX13_begun_645 : decode cX13_begun 645 = .ok (.aload_n 0, 1) := by decide +kernel
theorem dX13_begun_646 : decode cX13_begun 646 = .ok (.getfield 107, 3) := by decide +kernel
theorem dX13_begun_649 : decode cX13_begun 649 = .ok (.aload_n 0, 1) := by decide +kernel
theorem dX13_begun_650 : decode cX13_begun 650 = .ok (.getfield 38, 3) := by decide +kernel
theorem dX13_begun_653 : decode cX13_begun 653 = .ok (.iload_n 1, 1) := by decide +kernel
theorem dX13_begun_654 : decode cX13_begun 654 = .ok (.iaload, 1) := by decide +kernel
theorem dX13_begun_655 : decode cX13_begun 655 = .ok (.iaload, 1) := by decide +kernel
theorem dX13_begun_656 : decode cX13_begun 656 = .ok (.invokevirtual 1034, 3) := by decide +kernel
theorem dX13_begun_659 : decode cX13_begun 659 = .ok (.laload, 1) := by decide +kernel
theorem dX13_begun_660 : decode cX13_begun 660 = .ok (.l2i, 1) := by decide +kernel
theorem dX13_begun_661 : decode cX13_begun 661 = .ok (.istore 5, 2) := by decide +kernel
theorem dX13_begun_663 : decode cX13_begun 663 = .ok (.lload_n 3, 1) := by decide +kernel
theorem dX13_begun_664 : decode cX13_begun 664 = .ok (.lconst 0, 1) := by decide +kernel
theorem dX13_begun_665 : decode cX13_begun 665 = .ok (.lcmp, 1) := by decide +kernel
theorem dX13_begun_666 : decode cX13_begun 666 = .ok (.ifCond .lt 16, 3) := by decide +kernel
theorem dX13_begun_669 : decode cX13_begun 669 = .ok (.lload_n 3, 1) := by decide +kernel
theorem dX13_begun_670 : decode cX13_begun 670 = .ok (.aload_n 0, 1) := by decide +kernel
theorem dX13_begun_671 : decode cX13_begun 671 = .ok (.getfield 362, 3) := by decide +kernel
theorem dX13_begun_674 : decode cX13_begun 674 = .ok (.iload 5, 2) := by decide +kernel
theorem dX13_begun_676 : decode cX13_begun 676 = .ok (.iaload, 1) := by decide +kernel
theorem dX13_begun_677 : decode cX13_begun 677 = .ok (.i2l, 1) := by decide +kernel
theorem dX13_begun_678 : decode cX13_begun 678 = .ok (.lcmp, 1) := by decide +kernel
theorem dX13_begun_679 : decode cX13_begun 679 = .ok (.ifCond .lt 11, 3) := by decide +kernel
theorem dX13_begun_682 : decode cX13_begun 682 = .ok (.aload_n 0, 1) := by decide +kernel
theorem dX13_begun_683 : decode cX13_begun 683 = .ok (.iconst 5, 1) := by decide +kernel
theorem dX13_begun_684 : decode cX13_begun 684 = .ok (.putfield 1031, 3) := by decide +kernel
theorem dX13_begun_687 : decode cX13_begun 687 = .ok (.goto 23, 3) := by decide +kernel
theorem dX13_begun_690 : decode cX13_begun 690 = .ok (.aload_n 0, 1) := by decide +kernel
theorem dX13_begun_691 : decode cX13_begun 691 = .ok (.iconst 0, 1) := by decide +kernel
theorem dX13_begun_692 : decode cX13_begun 692 = .ok (.aload_n 0, 1) := by decide +kernel
theorem dX13_begun_693 : decode cX13_begun 693 = .ok (.getfield 365, 3) := by decide +kernel
theorem dX13_begun_696 : decode cX13_begun 696 = .ok (.aload_n 0, 1) := by decide +kernel
theorem dX13_begun_697 : decode cX13_begun 697 = .ok (.getfield 359, 3) := by decide +kernel
theorem dX13_begun_700 : decode cX13_begun 700 = .ok (.iload 5, 2) := by decide +kernel
theorem dX13_begun_702 : decode cX13_begun 702 = .ok (.iaload, 1) := by decide +kernel
theorem dX13_begun_703 : decode cX13_begun 703 = .ok (.lload_n 3, 1) := by decide +kernel
theorem dX13_begun_704 : decode cX13_begun 704 = .ok (.l2i, 1) := by decide +kernel
theorem dX13_begun_705 : decode cX13_begun 705 = .ok (.iadd, 1) := by decide +kernel
theorem dX13_begun_706 : decode cX13_begun 706 = .ok (.laload, 1) := by decide +kernel
theorem dX13_begun_707 : decode cX13_begun 707 = .ok (.invokevirtual 1112, 3) := by decide +kernel
theorem dX13_begun_710 : decode cX13_begun 710 = .ok (.iconst 0, 1) := by decide +kernel
theorem dX13_begun_711 : decode cX13_begun 711 = .ok (.ireturn, 1) := by decide +kernel
theorem dX13_begun_712 : decode cX13_begun 712 = .ok (.aload_n 0, 1) := by decide +kernel
theorem dX13_begun_713 : decode cX13_begun 713 = .ok (.iconst 4, 1) := by decide +kernel
theorem dX13_begun_714 : decode cX13_begun 714 = .ok (.ldc2_w 857, 3) := by decide +kernel
theorem dX13_begun_717 : decode cX13_begun 717 = .ok (.invokevirtual 1112, 3) := by decide +kernel
theorem dX13_begun_720 : decode cX13_begun 720 = .ok (.iconst 0, 1) := by decide +kernel
theorem dX13_begun_721 : decode cX13_begun 721 = .ok (.ireturn, 1) := by decide +kernel
theorem dX13_begun_722 : decode cX13_begun 722 = .ok (.aload_n 0, 1) := by decide +kernel
theorem dX13_begun_723 : decode cX13_begun 723 = .ok (.aload_n 0, 1) := by decide +kernel
theorem dX13_begun_724 : decode cX13_begun 724 = .ok (.getfield 41, 3) := by decide +kernel
theorem dX13_begun_727 : decode cX13_begun 727 = .ok (.iload_n 1, 1) := by decide +kernel
theorem dX13_begun_728 : decode cX13_begun 728 = .ok (.iaload, 1) := by decide +kernel
theorem dX13_begun_729 : decode cX13_begun 729 = .ok (.iload_n 2, 1) := by decide +kernel
theorem dX13_begun_730 : decode cX13_begun 730 = .ok (.invokevirtual 1047, 3) := by decide +kernel
theorem dX13_begun_733 : decode cX13_begun 733 = .ok (.lstore_n 3, 1) := by decide +kernel
theorem dX13_begun_734 : decode cX13_begun 734 = .ok (.aload_n 0, 1) := by decide +kernel
theorem dX13_begun_735 : decode cX13_begun 735 = .ok (.getfield 1031, 3) := by decide +kernel
theorem dX13_begun_738 : decode cX13_begun 738 = .ok (.ifCond .eq 5, 3) := by decide +kernel
theorem dX13_begun_741 : decode cX13_begun 741 = .ok (.iconst 0, 1) := by decide +kernel
theorem dX13_begun_742 : decode cX13_begun 742 = .ok (.ireturn, 1) := by decide +kernel
theorem dX13_begun_743 : decode cX13_begun 743 = .ok (.aload_n 0, 1) := by decide +kernel
theorem dX13_begun_744 : decode cX13_begun 744 = .ok (.getfield 343, 3) := by decide +kernel
theorem dX13_begun_747 : decode cX13_begun 747 = .ok (.aload_n 0, 1) := by decide +kernel
theorem dX13_begun_748 : decode cX13_begun 748 = .ok (.iload_n 2, 1) := by decide +kernel
theorem dX13_begun_749 : decode cX13_begun 749 = .ok (.aload_n 0, 1) := by decide +kernel
theorem dX13_begun_750 : decode cX13_begun 750 = .ok (.getfield 107, 3) := by decide +kernel
theorem dX13_begun_753 : decode cX13_begun 753 = .ok (.aload_n 0, 1) := by decide +kernel
theorem dX13_begun_754 : decode cX13_begun 754 = .ok (.getfield 38, 3) := by decide +kernel
theorem dX13_begun_757 : decode cX13_begun 757 = .ok (.iload_n 1, 1) := by decide +kernel
theorem dX13_begun_758 : decode cX13_begun 758 = .ok (.iaload, 1) := by decide +kernel
theorem dX13_begun_759 : decode cX13_begun 759 = .ok (.iaload, 1) := by decide +kernel
theorem dX13_begun_760 : decode cX13_begun 760 = .ok (.invokevirtual 1034, 3) := by decide +kernel
theorem dX13_begun_763 : decode cX13_begun 763 = .ok (.laload, 1) := by decide +kernel
theorem dX13_begun_764 : decode cX13_begun 764 = .ok (.l2i, 1) := by decide +kernel
theorem dX13_begun_765 : decode cX13_begun 765 = .ok (.istore 5, 2) := by decide +kernel
theorem dX13_begun_767 : decode cX13_begun 767 = .ok (.aload_n 0, 1) := by decide +kernel
theorem dX13_begun_768 : decode cX13_begun 768 = .ok (.getfield 377, 3) := by decide +kernel
theorem dX13_begun_771 : decode cX13_begun 771 = .ok (.aload_n 0, 1) := by decide +kernel
theorem dX13_begun_772 : decode cX13_begun 772 = .ok (.getfield 1073, 3) := by decide +kernel
theorem dX13_begun_775 : decode cX13_begun 775 = .ok (.lload_n 3, 1) := by decide +kernel
theorem dX13_begun_776 : decode cX13_begun 776 = .ok (.lastore, 1) := by decide +kernel
theorem dX13_begun_777 : decode cX13_begun 777 = .ok (.aload_n 0, 1) := by decide +kernel
theorem dX13_begun_778 : decode cX13_begun 778 = .ok (.getfield 380, 3) := by decide +kernel
theorem dX13_begun_781 : decode cX13_begun 781 = .ok (.aload_n 0, 1) := by decide +kernel
theorem dX13_begun_782 : decode cX13_begun 782 = .ok (.getfield 1073, 3) := by decide +kernel
theorem dX13_begun_785 : decode cX13_begun 785 = .ok (.iload 5, 2) := by decide +kernel
theorem dX13_begun_787 : decode cX13_begun 787 = .ok (.iastore, 1) := by decide +kernel
theorem dX13_begun_788 : decode cX13_begun 788 = .ok (.aload_n 0, 1) := by decide +kernel
theorem dX13_begun_789 : decode cX13_begun 789 = .ok (.getfield 383, 3) := by decide +kernel
theorem dX13_begun_792 : decode cX13_begun 792 = .ok (.aload_n 0, 1) := by decide +kernel
theorem dX13_begun_793 : decode cX13_begun 793 = .ok (.getfield 1073, 3) := by decide +kernel
theorem dX13_begun_796 : decode cX13_begun 796 = .ok (.aload_n 0, 1) := by decide +kernel
theorem dX13_begun_797 : decode cX13_begun 797 = .ok (.iload 5, 2) := by decide +kernel
theorem dX13_begun_799 : decode cX13_begun 799 = .ok (.invokevirtual 1037, 3) := by decide +kernel
theorem dX13_begun_802 : decode cX13_begun 802 = .ok (.iconst 1, 1) := by decide +kernel
theorem dX13_begun_803 : decode cX13_begun 803 = .ok (.iadd, 1) := by decide +kernel
theorem dX13_begun_804 : decode cX13_begun 804 = .ok (.iastore, 1) := by decide +kernel
theorem dX13_begun_805 : decode cX13_begun 805 = .ok (.aload_n 0, 1) := by decide +kernel
theorem dX13_begun_806 : decode cX13_begun 806 = .ok (.iconst 4, 1) := by decide +kernel
theorem dX13_begun_807 : decode cX13_begun 807 = .ok (.aload_n 0, 1) := by decide +kernel
theorem dX13_begun_808 : decode cX13_begun 808 = .ok (.getfield 1073, 3) := by decide +kernel
theorem dX13_begun_811 : decode cX13_begun 811 = .ok (.i2l, 1) := by decide +kernel
theorem dX13_begun_812 : decode cX13_begun 812 = .ok (.invokevirtual 1112, 3) := by decide +kernel
theorem dX13_begun_815 : decode cX13_begun 815 = .ok (.aload_n 0, 1) := by decide +kernel
theorem dX13_begun_816 : decode cX13_begun 816 = .ok (.dup, 1) := by decide +kernel
theorem dX13_begun_817 : decode cX13_begun 817 = .ok (.getfield 1073, 3) := by decide +kernel
theorem dX13_begun_820 : decode cX13_begun 820 = .ok (.iconst 1, 1) := by decide +kernel
theorem dX13_begun_821 : decode cX13_begun 821 = .ok (.iadd, 1) := by decide +kernel
theorem dX13_begun_822 : decode cX13_begun 822 = .ok (.putfield 1073, 3) := by decide +kernel
theorem dX13_begun_825 : decode cX13_begun 825 = .ok (.iconst 0, 1) := by decide +kernel
theorem dX13_begun_826 : decode cX13_begun 826 = .ok (.ireturn, 1) := by decide +kernel
theorem dX13_begun_827 : decode cX13_begun 827 = .ok (.aload_n 0, 1) := by decide +kernel
theorem dX13_begun_828 : decode cX13_begun 828 = .ok (.getfield 343, 3) := by decide +kernel
theorem dX13_begun_831 : decode cX13_begun 831 = .ok (.aload_n 0, 1) := by decide +kernel
theorem dX13_begun_832 : decode cX13_begun 832 = .ok (.iload_n 2, 1) := by decide +kernel
theorem dX13_begun_833 : decode cX13_begun 833 = .ok (.aload_n 0, 1) := by decide +kernel
theorem dX13_begun_834 : decode cX13_begun 834 = .ok (.getfield 107, 3) := by decide +kernel
theorem dX13_begun_837 : decode cX13_begun 837 = .ok (.aload_n 0, 1) := by decide +kernel
theorem dX13_begun_838 : decode cX13_begun 838 = .ok (.getfield 38, 3) := by decide +kernel
theorem dX13_begun_841 : decode cX13_begun 841 = .ok (.iload_n 1, 1) := by decide +kernel
theorem dX13_begun_842 : decode cX13_begun 842 = .ok (.iaload, 1) := by decide +kernel
theorem dX13_begun_843 : decode cX13_begun 843 = .ok (.iaload, 1) := by decide +kernel
theorem dX13_begun_844 : decode cX13_begun 844 = .ok (.invokevirtual 1034, 3) := by decide +kernel
theorem dX13_begun_847 : decode cX13_begun 847 = .ok (.laload, 1) := by decide +kernel
theorem dX13_begun_848 : decode cX13_begun 848 = .ok (.l2i, 1) := by decide +kernel
theorem dX13_begun_849 : decode cX13_begun 849 = .ok (.istore_n 3, 1) := by decide +kernel
theorem dX13_begun_850 : decode cX13_begun 850 = .ok (.iload_n 3, 1) := by decide +kernel
theorem dX13_begun_851 : decode cX13_begun 851 = .ok (.ifCond .ge 15, 3) := by decide +kernel
theorem dX13_begun_854 : decode cX13_begun 854 = .ok (.aload_n 0, 1) := by decide +kernel
theorem dX13_begun_855 : decode cX13_begun 855 = .ok (.aload_n 0, 1) := by decide +kernel
theorem dX13_begun_856 : decode cX13_begun 856 = .ok (.getfield 44, 3) := by decide +kernel
theorem dX13_begun_859 : decode cX13_begun 859 = .ok (.iload_n 1, 1) := by decide +kernel
theorem dX13_begun_860 : decode cX13_begun 860 = .ok (.iaload, 1) := by decide +kernel
theorem dX13_begun_861 : decode cX13_begun 861 = .ok (.iload_n 2, 1) := by decide +kernel
theorem dX13_begun_862 : decode cX13_begun 862 = .ok (.invokevirtual 1107, 3) := by decide +kernel
theorem dX13_begun_865 : decode cX13_begun 865 = .ok (.ireturn, 1) := by decide +kernel
theorem dX13_begun_866 : decode cX13_begun 866 = .ok (.aload_n 0, 1) := by decide +kernel
theorem dX13_begun_867 : decode cX13_begun 867 = .ok (.iload_n 2, 1) := by decide +kernel
theorem dX13_begun_868 : decode cX13_begun 868 = .ok (.aload_n 0, 1) := by decide +kernel
theorem dX13_begun_869 : decode cX13_begun 869 = .ok (.getfield 107, 3) := by decide +kernel
theorem dX13_begun_872 : decode cX13_begun 872 = .ok (.aload_n 0, 1) := by decide +kernel
theorem dX13_begun_873 : decode cX13_begun 873 = .ok (.getfield 41, 3) := by decide +kernel
theorem dX13_begun_876 : decode cX13_begun 876 = .ok (.iload_n 1, 1) := by decide +kernel
theorem dX13_begun_877 : decode cX13_begun 877 = .ok (.iaload, 1) := by decide +kernel
theorem dX13_begun_878 : decode cX13_begun 878 = .ok (.iaload, 1) := by decide +kernel
theorem dX13_begun_879 : decode cX13_begun 879 = .ok (.iconst 0, 1) := by decide +kernel
theorem dX13_begun_880 : decode cX13_begun 880 = .ok (.aload_n 0, 1) := by decide +kernel
theorem dX13_begun_881 : decode cX13_begun 881 = .ok (.getfield 377, 3) := by decide +kernel
theorem dX13_begun_884 : decode cX13_begun 884 = .ok (.iload_n 3, 1) := by decide +kernel
theorem dX13_begun_885 : decode cX13_begun 885 = .ok (.laload, 1) := by decide +kernel
theorem dX13_begun_886 : decode cX13_begun 886 = .ok (.invokevirtual 1082, 3) := by decide +kernel
theorem dX13_begun_889 : decode cX13_begun 889 = .ok (.istore 4, 2) := by decide +kernel
theorem dX13_begun_891 : decode cX13_begun 891 = .ok (.aload_n 0, 1) := by decide +kernel
theorem dX13_begun_892 : decode cX13_begun 892 = .ok (.aload_n 0, 1) := by decide +kernel
theorem dX13_begun_893 : decode cX13_begun 893 = .ok (.getfield 47, 3) := by decide +kernel
theorem dX13_begun_896 : decode cX13_begun 896 = .ok (.iload_n 1, 1) := by decide +kernel
theorem dX13_begun_897 : decode cX13_begun 897 = .ok (.iaload, 1) := by decide +kernel
theorem dX13_begun_898 : decode cX13_begun 898 = .ok (.aload_n 0, 1) := by decide +kernel
theorem dX13_begun_899 : decode cX13_begun 899 = .ok (.iload 4, 2) := by decide +kernel
theorem dX13_begun_901 : decode cX13_begun 901 = .ok (.aload_n 0, 1) := by decide +kernel
theorem dX13_begun_902 : decode cX13_begun 902 = .ok (.getfield 107, 3) := by decide +kernel
theorem dX13_begun_905 : decode cX13_begun 905 = .ok (.aload_n 0, 1) := by decide +kernel
theorem dX13_begun_906 : decode cX13_begun 906 = .ok (.getfield 41, 3) := by decide +kernel
theorem dX13_begun_909 : decode cX13_begun 909 = .ok (.iload_n 1, 1) := by decide +kernel
theorem dX13_begun_910 : decode cX13_begun 910 = .ok (.iaload, 1) := by decide +kernel
theorem dX13_begun_911 : decode cX13_begun 911 = .ok (.iconst 1, 1) := by decide +kernel
theorem dX13_begun_912 : decode cX13_begun 912 = .ok (.iadd, 1) := by decide +kernel
theorem dX13_begun_913 : decode cX13_begun 913 = .ok (.iaload, 1) := by decide +kernel
theorem dX13_begun_914 : decode cX13_begun 914 = .ok (.iconst 4, 1) := by decide +kernel
theorem dX13_begun_915 : decode cX13_begun 915 = .ok (.aload_n 0, 1) := by decide +kernel
theorem dX13_begun_916 : decode cX13_begun 916 = .ok (.getfield 380, 3) := by decide +kernel
theorem dX13_begun_919 : decode cX13_begun 919 = .ok (.iload_n 3, 1) := by decide +kernel
theorem dX13_begun_920 : decode cX13_begun 920 = .ok (.iaload, 1) := by decide +kernel
theorem dX13_begun_921 : decode cX13_begun 921 = .ok (.i2l, 1) := by decide +kernel
theorem dX13_begun_922 : decode cX13_begun 922 = .ok (.invokevirtual 1082, 3) := by decide +kernel
theorem dX13_begun_925 : decode cX13_begun 925 = .ok (.invokevirtual 1107, 3) := by decide +kernel
theorem dX13_begun_928 : decode cX13_begun 928 = .ok (.ireturn, 1) := by decide +kernel
theorem dX13_begun_929 : decode cX13_begun 929 = .ok (.aload_n 0, 1) := by decide +kernel
theorem dX13_begun_930 : decode cX13_begun 930 = .ok (.iload_n 1, 1) := by decide +kernel
theorem dX13_begun_931 : decode cX13_begun 931 = .ok (.iload_n 2, 1) := by decide +kernel
theorem dX13_begun_932 : decode cX13_begun 932 = .ok (.invokevirtual 1125, 3) := by decide +kernel
theorem dX13_begun_935 : decode cX13_begun 935 = .ok (.ireturn, 1) := by decide +kernel
theorem dX13_begun_936 : decode cX13_begun 936 = .ok (.aload_n 0, 1) := by decide +kernel
theorem dX13_begun_937 : decode cX13_begun 937 = .ok (.aload_n 0, 1) := by decide +kernel
theorem dX13_begun_938 : decode cX13_begun 938 = .ok (.getfield 44, 3) := by decide +kernel
theorem dX13_begun_941 : decode cX13_begun 941 = .ok (.iload_n 1, 1) := by decide +kernel
theorem dX13_begun_942 : decode cX13_begun 942 = .ok (.iaload, 1) := by decide +kernel
theorem dX13_begun_943 : decode cX13_begun 943 = .ok (.iload_n 2, 1) := by decide +kernel
theorem dX13_begun_944 : decode cX13_begun 944 = .ok (.invokevirtual 1107, 3) := by decide +kernel
theorem dX13_begun_947 : decode cX13_begun 947 = .ok (.ireturn, 1) := by decide +kernel
theorem dX13_sumValue_0 : decode cX13_sumValue 0 = .ok (.aload_n 0, 1) := by decide +kernel
theorem dX13_sumValue_1 : decode cX13_sumValue 1 = .ok (.iload_n 1, 1) := by decide +kernel
theorem dX13_sumValue_2 : decode cX13_sumValue 2 = .ok (.invokevirtual 698, 3) := by decide +kernel
theorem dX13_sumValue_5 : decode cX13_sumValue 5 = .ok (.ifCond .eq 42, 3) := by decide +kernel
theorem dX13_sumValue_8 : decode cX13_sumValue 8 = .ok (.aload_n 0, 1) := by decide +kernel
theorem dX13_sumValue_9 : decode cX13_sumValue 9 = .ok (.iload_n 2, 1) := by decide +kernel
theorem dX13_sumValue_10 : decode cX13_sumValue 10 = .ok (.aload_n 0, 1) := by decide +kernel
theorem dX13_sumValue_11 : decode cX13_sumValue 11 = .ok (.getfield 107, 3) := by decide +kernel
theorem dX13_sumValue_14 : decode cX13_sumValue 14 = .ok (.aload_n 0, 1) := by decide +kernel
theorem dX13_sumValue_15 : decode cX13_sumValue 15 = .ok (.getfield 65, 3) := by decide +kernel
theorem dX13_sumValue_18 : decode cX13_sumValue 18 = .ok (.aload_n 0, 1) := by decide +kernel
theorem dX13_sumValue_19 : decode cX13_sumValue 19 = .ok (.getfield 50, 3) := by decide +kernel
theorem dX13_sumValue_22 : decode cX13_sumValue 22 = .ok (.iload_n 1, 1) := by decide +kernel
theorem dX13_sumValue_23 : decode cX13_sumValue 23 = .ok (.iaload, 1) := by decide +kernel
theorem dX13_sumValue_24 : decode cX13_sumValue 24 = .ok (.iaload, 1) := by decide +kernel
theorem dX13_sumValue_25 : decode cX13_sumValue 25 = .ok (.iaload, 1) := by decide +kernel
theorem dX13_sumValue_26 : decode cX13_sumValue 26 = .ok (.invokevirtual 1034, 3) := by decide +kernel
theorem dX13_sumValue_29 : decode cX13_sumValue 29 = .ok (.istore_n 3, 1) := by decide +kernel
theorem dX13_sumValue_30 : decode cX13_sumValue 30 = .ok (.aload_n 0, 1) := by decide +kernel
theorem dX13_sumValue_31 : decode cX13_sumValue 31 = .ok (.aload_n 0, 1) := by decide +kernel
theorem dX13_sumValue_32 : decode cX13_sumValue 32 = .ok (.getfield 337, 3) := by decide +kernel
theorem dX13_sumValue_35 : decode cX13_sumValue 35 = .ok (.iload_n 3, 1) := by decide +kernel
theorem dX13_sumValue_36 : decode cX13_sumValue 36 = .ok (.iaload, 1) := by decide +kernel
theorem dX13_sumValue_37 : decode cX13_sumValue 37 = .ok (.aload_n 0, 1) := by decide +kernel
theorem dX13_sumValue_38 : decode cX13_sumValue 38 = .ok (.getfield 343, 3) := by decide +kernel
theorem dX13_sumValue_41 : decode cX13_sumValue 41 = .ok (.iload_n 3, 1) := by decide +kernel
theorem dX13_sumValue_42 : decode cX13_sumValue 42 = .ok (.laload, 1) := by decide +kernel
theorem dX13_sumValue_43 : decode cX13_sumValue 43 = .ok (.invokevirtual 1112, 3) := by decide +kernel
theorem dX13_sumValue_46 : decode cX13_sumValue 46 = .ok (.return_, 1) := by decide +kernel
theorem dX13_sumValue_47 : decode cX13_sumValue 47 = .ok (.aload_n 0, 1) := by decide +kernel
theorem dX13_sumValue_48 : decode cX13_sumValue 48 = .ok (.iload_n 1, 1) := by decide +kernel
theorem dX13_sumValue_49 : decode cX13_sumValue 49 = .ok (.iload_n 2, 1) := by decide +kernel
theorem dX13_sumValue_50 : decode cX13_sumValue 50 = .ok (.invokevirtual 1047, 3) := by decide +kernel
theorem dX13_sumValue_53 : decode cX13_sumValue 53 = .ok (.lstore_n 3, 1) := by decide +kernel
theorem dX13_sumValue_54 : decode cX13_sumValue 54 = .ok (.aload_n 0, 1) := by decide +kernel
theorem dX13_sumValue_55 : decode cX13_sumValue 55 = .ok (.iconst 0, 1) := by decide +kernel
theorem dX13_sumValue_56 : decode cX13_sumValue 56 = .ok (.lload_n 3, 1) := by decide +kernel
theorem dX13_sumValue_57 : decode cX13_sumValue 57 = .ok (.invokevirtual 1112, 3) := by decide +kernel
theorem dX13_sumValue_60 : decode cX13_sumValue 60 = .ok (.return_, 1) := by decide +kernel
theorem dX13_called_0 : decode cX13_called 0 = .ok (.iconst (-1), 1) := by decide +kernel
theorem dX13_called_1 : decode cX13_called 1 = .ok (.istore_n 3, 1) := by decide +kernel
theorem dX13_called_2 : decode cX13_called 2 = .ok (.iconst (-1), 1) := by decide +kernel
theorem dX13_called_3 : decode cX13_called 3 = .ok (.istore 4, 2) := by decide +kernel
theorem dX13_called_5 : decode cX13_called 5 = .ok (.iconst 0, 1) := by decide +kernel
theorem dX13_called_6 : decode cX13_called 6 = .ok (.istore 5, 2) := by decide +kernel
theorem dX13_called_8 : decode cX13_called 8 = .ok (.iload 5, 2) := by decide +kernel
theorem dX13_called_10 : decode cX13_called 10 = .ok (.aload_n 0, 1) := by decide +kernel
theorem dX13_called_11 : decode cX13_called 11 = .ok (.getfield 44, 3) := by decide +kernel
theorem dX13_called_14 : decode cX13_called 14 = .ok (.iload_n 1, 1) := by decide +kernel
theorem dX13_called_15 : decode cX13_called 15 = .ok (.iaload, 1) := by decide +kernel
theorem dX13_called_16 : decode cX13_called 16 = .ok (.if_icmp .ge 177, 3) := by decide +kernel
theorem dX13_called_19 : decode cX13_called 19 = .ok (.aload_n 0, 1) := by decide +kernel
theorem dX13_called_20 : decode cX13_called 20 = .ok (.getfield 41, 3) := by decide +kernel
theorem dX13_called_23 : decode cX13_called 23 = .ok (.iload_n 1, 1) := by decide +kernel
theorem dX13_called_24 : decode cX13_called 24 = .ok (.iaload, 1) := by decide +kernel
theorem dX13_called_25 : decode cX13_called 25 = .ok (.iload 5, 2) := by decide +kernel
theorem dX13_called_27 : decode cX13_called 27 = .ok (.iadd, 1) := by decide +kernel
theorem dX13_called_28 : decode cX13_called 28 = .ok (.istore 6, 2) := by decide +kernel
theorem dX13_called_30 : decode cX13_called 30 = .ok (.aload_n 0, 1) := by decide +kernel
theorem dX13_called_31 : decode cX13_called 31 = .ok (.getfield 68, 3) := by decide +kernel
theorem dX13_called_34 : decode cX13_called 34 = .ok (.iload 6, 2) := by decide +kernel
theorem dX13_called_36 : decode cX13_called 36 = .ok (.iaload, 1) := by decide +kernel
theorem dX13_called_37 : decode cX13_called 37 = .ok (.iconst 1, 1) := by decide +kernel
theorem dX13_called_38 : decode cX13_called 38 = .ok (.if_icmp .ne 53, 3) := by decide +kernel
theorem dX13_called_41 : decode cX13_called 41 = .ok (.aload_n 0, 1) := by decide +kernel
theorem dX13_called_42 : decode cX13_called 42 = .ok (.getfield 1079, 3) := by decide +kernel
theorem dX13_called_45 : decode cX13_called 45 = .ok (.ifCond .ne 10, 3) := by decide +kernel
theorem dX13_called_48 : decode cX13_called 48 = .ok (.aload_n 0, 1) := by decide +kernel
theorem dX13_called_49 : decode cX13_called 49 = .ok (.iconst 1, 1) := by decide +kernel
theorem dX13_called_50 : decode cX13_called 50 = .ok (.putfield 1031, 3) := by decide +kernel
theorem dX13_called_53 : decode cX13_called 53 = .ok (.iconst 0, 1) := by decide +kernel
theorem dX13_called_54 : decode cX13_called 54 = .ok (.ireturn, 1) := by decide +kernel
theorem dX13_called_55 : decode cX13_called 55 = .ok (.aload_n 0, 1) := by decide +kernel
theorem dX13_called_56 : decode cX13_called 56 = .ok (.dup, 1) := by decide +kernel
theorem dX13_called_57 : decode cX13_called 57 = .ok (.getfield 1079, 3) := by decide +kernel
theorem dX13_called_60 : decode cX13_called 60 = .ok (.iconst 1, 1) := by decide +kernel
theorem dX13_called_61 : decode cX13_called 61 = .ok (.isub, 1) := by decide +kernel
theorem dX13_called_62 : decode cX13_called 62 = .ok (.putfield 1079, 3) := by decide +kernel
theorem dX13_called_65 : decode cX13_called 65 = .ok (.aload_n 0, 1) := by decide +kernel
theorem dX13_called_66 : decode cX13_called 66 = .ok (.iconst 3, 1) := by decide +kernel
theorem dX13_called_67 : decode cX13_called 67 = .ok (.aload_n 0, 1) := by decide +kernel
theorem dX13_called_68 : decode cX13_called 68 = .ok (.getfield 1067, 3) := by decide +kernel
theorem dX13_called_71 : decode cX13_called 71 = .ok (.i2l, 1) := by decide +kernel
theorem dX13_called_72 : decode cX13_called 72 = .ok (.invokevirtual 1112, 3) := by decide +kernel
theorem dX13_called_75 : decode cX13_called 75 = .ok (.aload_n 0, 1) := by decide +kernel
theorem dX13_called_76 : decode cX13_called 76 = .ok (.aload_n 0, 1) := by decide +kernel
theorem dX13_called_77 : decode cX13_called 77 = .ok (.getfield 71, 3) := by decide +kernel
theorem dX13_called_80 : decode cX13_called 80 = .ok (.iload 6, 2) := by decide +kernel
theorem dX13_called_82 : decode cX13_called 82 = .ok (.iaload, 1) := by decide +kernel
theorem dX13_called_83 : decode cX13_called 83 = .ok (.iload_n 2, 1) := by decide +kernel
theorem dX13_called_84 : decode cX13_called 84 = .ok (.invokevirtual 1109, 3) := by decide +kernel
theorem dX13_called_87 : decode cX13_called 87 = .ok (.pop, 1) := by decide +kernel
theorem dX13_called_88 : decode cX13_called 88 = .ok (.goto 59, 3) := by decide +kernel
theorem dX13_called_91 : decode cX13_called 91 = .ok (.aload_n 0, 1) := by decide +kernel
theorem dX13_called_92 : decode cX13_called 92 = .ok (.getfield 68, 3) := by decide +kernel
theorem dX13_called_95 : decode cX13_called 95 = .ok (.iload 6, 2) := by decide +kernel
theorem dX13_called_97 : decode cX13_called 97 = .ok (.iaload, 1) := by decide +kernel
theorem dX13_called_98 : decode cX13_called 98 = .ok (.iconst 1, 1) := by decide +kernel
theorem dX13_called_99 : decode cX13_called 99 = .ok (.if_icmp .le 27, 3) := by decide +kernel
theorem dX13_called_102 : decode cX13_called 102 = .ok (.aload_n 0, 1) := by decide +kernel
theorem dX13_called_103 : decode cX13_called 103 = .ok (.iconst 1, 1) := by decide +kernel
theorem dX13_called_104 : decode cX13_called 104 = .ok (.aload_n 0, 1) := by decide +kernel
theorem dX13_called_105 : decode cX13_called 105 = .ok (.getfield 68, 3) := by decide +kernel
theorem dX13_called_108 : decode cX13_called 108 = .ok (.iload 6, 2) := by decide +kernel
theorem dX13_called_110 : decode cX13_called 110 = .ok (.iaload, 1) := by decide +kernel
theorem dX13_called_111 : decode cX13_called 111 = .ok (.iconst 2, 1) := by decide +kernel
theorem dX13_called_112 : decode cX13_called 112 = .ok (.if_icmp .ne 7, 3) := by decide +kernel
theorem dX13_called_115 : decode cX13_called 115 = .ok (.lconst 1, 1) := by decide +kernel
theorem dX13_called_116 : decode cX13_called 116 = .ok (.goto 4, 3) := by decide +kernel
theorem dX13_called_119 : decode cX13_called 119 = .ok (.lconst 0, 1) := by decide +kernel
theorem dX13_called_120 : decode cX13_called 120 = .ok (.invokevirtual 1112, 3) := by decide +kernel
theorem dX13_called_123 : decode cX13_called 123 = .ok (.goto 24, 3) := by decide +kernel
theorem dX13_called_126 : decode cX13_called 126 = .ok (.aload_n 0, 1) := by decide +kernel
theorem dX13_called_127 : decode cX13_called 127 = .ok (.aload_n 0, 1) := by decide +kernel
theorem dX13_called_128 : decode cX13_called 128 = .ok (.getfield 71, 3) := by decide +kernel
theorem dX13_called_131 : decode cX13_called 131 = .ok (.iload 6, 2) := by decide +kernel
theorem dX13_called_133 : decode cX13_called 133 = .ok (.iaload, 1) := by decide +kernel
theorem dX13_called_134 : decode cX13_called 134 = .ok (.iload_n 2, 1) := by decide +kernel
theorem dX13_called_135 : decode cX13_called 135 = .ok (.invokevirtual 1119, 3) := by decide +kernel
theorem dX13_called_138 : decode cX13_called 138 = .ok (.aload_n 0, 1) := by decide +kernel
theorem dX13_called_139 : decode cX13_called 139 = .ok (.getfield 1031, 3) := by decide +kernel
theorem dX13_called_142 : decode cX13_called 142 = .ok (.ifCond .eq 5, 3) := by decide +kernel
theorem dX13_called_145 : decode cX13_called 145 = .ok (.iconst 0, 1) := by decide +kernel
theorem dX13_called_146 : decode cX13_called 146 = .ok (.ireturn, 1) := by decide +kernel
theorem dX13_called_147 : decode cX13_called 147 = .ok (.aload_n 0, 1) := by decide +kernel
theorem dX13_called_148 : decode cX13_called 148 = .ok (.iconst (-1), 1) := by decide +kernel
theorem dX13_called_149 : decode cX13_called 149 = .ok (.iconst (-1), 1) := by decide +kernel
theorem dX13_called_150 : decode cX13_called 150 = .ok (.aload_n 0, 1) := by decide +kernel
theorem dX13_called_151 : decode cX13_called 151 = .ok (.getfield 1061, 3) := by decide +kernel
theorem dX13_called_154 : decode cX13_called 154 = .ok (.aload_n 0, 1) := by decide +kernel
theorem dX13_called_155 : decode cX13_called 155 = .ok (.getfield 1064, 3) := by decide +kernel
theorem dX13_called_158 : decode cX13_called 158 = .ok (.invokevirtual 1082, 3) := by decide +kernel
theorem dX13_called_161 : decode cX13_called 161 = .ok (.istore 7, 2) := by decide +kernel
theorem dX13_called_163 : decode cX13_called 163 = .ok (.iload 4, 2) := by decide +kernel
theorem dX13_called_165 : decode cX13_called 165 = .ok (.ifCond .lt 15, 3) := by decide +kernel
theorem dX13_called_168 : decode cX13_called 168 = .ok (.aload_n 0, 1) := by decide +kernel
theorem dX13_called_169 : decode cX13_called 169 = .ok (.getfield 340, 3) := by decide +kernel
theorem dX13_called_172 : decode cX13_called 172 = .ok (.iload 4, 2) := by decide +kernel
theorem dX13_called_174 : decode cX13_called 174 = .ok (.iload 7, 2) := by decide +kernel
theorem dX13_called_176 : decode cX13_called 176 = .ok (.iastore, 1) := by decide +kernel
theorem dX13_called_177 : decode cX13_called 177 = .ok (.goto 6, 3) := by decide +kernel
theorem dX13_called_180 : decode cX13_called 180 = .ok (.iload 7, 2) := by decide +kernel
theorem dX13_called_182 : decode cX13_called 182 = .ok (.istore_n 3, 1) := by decide +kernel
theorem dX13_called_183 : decode cX13_called 183 = .ok (.iload 7, 2) := by decide +kernel
theorem dX13_called_185 : decode cX13_called 185 = .ok (.istore 4, 2) := by decide +kernel
theorem dX13_called_187 : decode cX13_called 187 = .ok (.iinc 5 1, 3) := by decide +kernel
theorem dX13_called_190 : decode cX13_called 190 = .ok (.goto (-182), 3) := by decide +kernel
theorem dX13_called_193 : decode cX13_called 193 = .ok (.aload_n 0, 1) := by decide +kernel
theorem dX13_called_194 : decode cX13_called 194 = .ok (.iload_n 2, 1) := by decide +kernel
theorem dX13_called_195 : decode cX13_called 195 = .ok (.aload_n 0, 1) := by decide +kernel
theorem dX13_called_196 : decode cX13_called 196 = .ok (.getfield 107, 3) := by decide +kernel
theorem dX13_called_199 : decode cX13_called 199 = .ok (.aload_n 0, 1) := by decide +kernel
theorem dX13_called_200 : decode cX13_called 200 = .ok (.getfield 38, 3) := by decide +kernel
theorem dX13_called_203 : decode cX13_called 203 = .ok (.iload_n 1, 1) := by decide +kernel
theorem dX13_called_204 : decode cX13_called 204 = .ok (.iaload, 1) := by decide +kernel
theorem dX13_called_205 : decode cX13_called 205 = .ok (.iaload, 1) := by decide +kernel
theorem dX13_called_206 : decode cX13_called 206 = .ok (.invokevirtual 1034, 3) := by decide +kernel
theorem dX13_called_209 : decode cX13_called 209 = .ok (.istore 5, 2) := by decide +kernel
theorem dX13_called_211 : decode cX13_called 211 = .ok (.aload_n 0, 1) := by decide +kernel
theorem dX13_called_212 : decode cX13_called 212 = .ok (.iconst 3, 1) := by decide +kernel
theorem dX13_called_213 : decode cX13_called 213 = .ok (.aload_n 0, 1) := by decide +kernel
theorem dX13_called_214 : decode cX13_called 214 = .ok (.getfield 343, 3) := by decide +kernel
theorem dX13_called_217 : decode cX13_called 217 = .ok (.iload 5, 2) := by decide +kernel
theorem dX13_called_219 : decode cX13_called 219 = .ok (.laload, 1) := by decide +kernel
theorem dX13_called_220 : decode cX13_called 220 = .ok (.invokevirtual 1112, 3) := by decide +kernel
theorem dX13_called_223 : decode cX13_called 223 = .ok (.aload_n 0, 1) := by decide +kernel
theorem dX13_called_224 : decode cX13_called 224 = .ok (.iload_n 3, 1) := by decide +kernel
theorem dX13_called_225 : decode cX13_called 225 = .ok (.invokevirtual 1134, 3) := by decide +kernel
theorem dX13_called_228 : decode cX13_called 228 = .ok (.ireturn, 1) := by decide +kernel
theorem dX13_applies_0 : decode cX13_applies 0 = .ok (.aload_n 0, 1) := by decide +kernel
theorem dX13_applies_1 : decode cX13_applies 1 = .ok (.getfield 1064, 3) := by decide +kernel
theorem dX13_applies_4 : decode cX13_applies 4 = .ok (.l2i, 1) := by decide +kernel
theorem dX13_applies_5 : decode cX13_applies 5 = .ok (.istore_n 2, 1) := by decide +kernel
theorem dX13_applies_6 : decode cX13_applies 6 = .ok (.aload_n 0, 1) := by decide +kernel
theorem dX13_applies_7 : decode cX13_applies 7 = .ok (.getfield 347, 3) := by decide +kernel
theorem dX13_applies_10 : decode cX13_applies 10 = .ok (.iload_n 2, 1) := by decide +kernel
theorem dX13_applies_11 : decode cX13_applies 11 = .ok (.iaload, 1) := by decide +kernel
theorem dX13_applies_12 : decode cX13_applies 12 = .ok (.istore_n 3, 1) := by decide +kernel
theorem dX13_applies_13 : decode cX13_applies 13 = .ok (.aload_n 0, 1) := by decide +kernel
theorem dX13_applies_14 : decode cX13_applies 14 = .ok (.getfield 29, 3) := by decide +kernel
theorem dX13_applies_17 : decode cX13_applies 17 = .ok (.iload_n 3, 1) := by decide +kernel
theorem dX13_applies_18 : decode cX13_applies 18 = .ok (.iaload, 1) := by decide +kernel
theorem dX13_applies_19 : decode cX13_applies 19 = .ok (.iconst 3, 1) := by decide +kernel
theorem dX13_applies_20 : decode cX13_applies 20 = .ok (.if_icmp .ne 7, 3) := by decide +kernel
theorem dX13_applies_23 : decode cX13_applies 23 = .ok (.iconst 1, 1) := by decide +kernel
theorem dX13_applies_24 : decode cX13_applies 24 = .ok (.goto 8, 3) := by decide +kernel
theorem dX13_applies_27 : decode cX13_applies 27 = .ok (.aload_n 0, 1) := by decide +kernel
theorem dX13_applies_28 : decode cX13_applies 28 = .ok (.iload_n 3, 1) := by decide +kernel
theorem dX13_applies_29 : decode cX13_applies 29 = .ok (.invokevirtual 658, 3) := by decide +kernel
theorem dX13_applies_32 : decode cX13_applies 32 = .ok (.istore 4, 2) := by decide +kernel
theorem dX13_applies_34 : decode cX13_applies 34 = .ok (.iload_n 1, 1) := by decide +kernel
theorem dX13_applies_35 : decode cX13_applies 35 = .ok (.istore 5, 2) := by decide +kernel
theorem dX13_applies_37 : decode cX13_applies 37 = .ok (.aload_n 0, 1) := by decide +kernel
theorem dX13_applies_38 : decode cX13_applies 38 = .ok (.getfield 353, 3) := by decide +kernel
theorem dX13_applies_41 : decode cX13_applies 41 = .ok (.iload_n 2, 1) := by decide +kernel
theorem dX13_applies_42 : decode cX13_applies 42 = .ok (.iaload, 1) := by decide +kernel
theorem dX13_applies_43 : decode cX13_applies 43 = .ok (.istore 6, 2) := by decide +kernel
theorem dX13_applies_45 : decode cX13_applies 45 = .ok (.aload_n 0, 1) := by decide +kernel
theorem dX13_applies_46 : decode cX13_applies 46 = .ok (.getfield 356, 3) := by decide +kernel
theorem dX13_applies_49 : decode cX13_applies 49 = .ok (.iload_n 2, 1) := by decide +kernel
theorem dX13_applies_50 : decode cX13_applies 50 = .ok (.iaload, 1) := by decide +kernel
theorem dX13_applies_51 : decode cX13_applies 51 = .ok (.istore 7, 2) := by decide +kernel
theorem dX13_applies_53 : decode cX13_applies 53 = .ok (.iload 5, 2) := by decide +kernel
theorem dX13_applies_55 : decode cX13_applies 55 = .ok (.ifCond .lt 52, 3) := by decide +kernel
theorem dX13_applies_58 : decode cX13_applies 58 = .ok (.iload 7, 2) := by decide +kernel
theorem dX13_applies_60 : decode cX13_applies 60 = .ok (.iload 4, 2) := by decide +kernel
theorem dX13_applies_62 : decode cX13_applies 62 = .ok (.if_icmp .ge 45, 3) := by decide +kernel
theorem dX13_applies_65 : decode cX13_applies 65 = .ok (.aload_n 0, 1) := by decide +kernel
theorem dX13_applies_66 : decode cX13_applies 66 = .ok (.getfield 340, 3) := by decide +kernel
theorem dX13_applies_69 : decode cX13_applies 69 = .ok (.iload 5, 2) := by decide +kernel
theorem dX13_applies_71 : decode cX13_applies 71 = .ok (.iaload, 1) := by decide +kernel
theorem dX13_applies_72 : decode cX13_applies 72 = .ok (.istore 8, 2) := by decide +kernel
theorem dX13_applies_74 : decode cX13_applies 74 = .ok (.aload_n 0, 1) := by decide +kernel
theorem dX13_applies_75 : decode cX13_applies 75 = .ok (.iload 6, 2) := by decide +kernel
theorem dX13_applies_77 : decode cX13_applies 77 = .ok (.iconst (-1), 1) := by decide +kernel
theorem dX13_applies_78 : decode cX13_applies 78 = .ok (.aload_n 0, 1) := by decide +kernel
theorem dX13_applies_79 : decode cX13_applies 79 = .ok (.getfield 337, 3) := by decide +kernel
theorem dX13_applies_82 : decode cX13_applies 82 = .ok (.iload 5, 2) := by decide +kernel
theorem dX13_applies_84 : decode cX13_applies 84 = .ok (.iaload, 1) := by decide +kernel
theorem dX13_applies_85 : decode cX13_applies 85 = .ok (.aload_n 0, 1) := by decide +kernel
theorem dX13_applies_86 : decode cX13_applies 86 = .ok (.getfield 343, 3) := by decide +kernel
theorem dX13_applies_89 : decode cX13_applies 89 = .ok (.iload 5, 2) := by decide +kernel
theorem dX13_applies_91 : decode cX13_applies 91 = .ok (.laload, 1) := by decide +kernel
theorem dX13_applies_92 : decode cX13_applies 92 = .ok (.invokevirtual 1082, 3) := by decide +kernel
theorem dX13_applies_95 : decode cX13_applies 95 = .ok (.istore 6, 2) := by decide +kernel
theorem dX13_applies_97 : decode cX13_applies 97 = .ok (.iinc 7 1, 3) := by decide +kernel
theorem dX13_applies_100 : decode cX13_applies 100 = .ok (.iload 8, 2) := by decide +kernel
theorem dX13_applies_102 : decode cX13_applies 102 = .ok (.istore 5, 2) := by decide +kernel
theorem dX13_applies_104 : decode cX13_applies 104 = .ok (.goto (-51), 3) := by decide +kernel
theorem dX13_applies_107 : decode cX13_applies 107 = .ok (.iload 7, 2) := by decide +kernel
theorem dX13_applies_109 : decode cX13_applies 109 = .ok (.iload 4, 2) := by decide +kernel
theorem dX13_applies_111 : decode cX13_applies 111 = .ok (.if_icmp .ge 44, 3) := by decide +kernel
theorem dX13_applies_114 : decode cX13_applies 114 = .ok (.aload_n 0, 1) := by decide +kernel
theorem dX13_applies_115 : decode cX13_applies 115 = .ok (.iload_n 3, 1) := by decide +kernel
theorem dX13_applies_116 : decode cX13_applies 116 = .ok (.aload_n 0, 1) := by decide +kernel
theorem dX13_applies_117 : decode cX13_applies 117 = .ok (.getfield 350, 3) := by decide +kernel
theorem dX13_applies_120 : decode cX13_applies 120 = .ok (.iload_n 2, 1) := by decide +kernel
theorem dX13_applies_121 : decode cX13_applies 121 = .ok (.iaload, 1) := by decide +kernel
theorem dX13_applies_122 : decode cX13_applies 122 = .ok (.invokevirtual 1109, 3) := by decide +kernel
theorem dX13_applies_125 : decode cX13_applies 125 = .ok (.istore 8, 2) := by decide +kernel
theorem dX13_applies_127 : decode cX13_applies 127 = .ok (.aload_n 0, 1) := by decide +kernel
theorem dX13_applies_128 : decode cX13_applies 128 = .ok (.getfield 353, 3) := by decide +kernel
theorem dX13_applies_131 : decode cX13_applies 131 = .ok (.iload 8, 2) := by decide +kernel
theorem dX13_applies_133 : decode cX13_applies 133 = .ok (.iload 6, 2) := by decide +kernel
theorem dX13_applies_135 : decode cX13_applies 135 = .ok (.iastore, 1) := by decide +kernel
theorem dX13_applies_136 : decode cX13_applies 136 = .ok (.aload_n 0, 1) := by decide +kernel
theorem dX13_applies_137 : decode cX13_applies 137 = .ok (.getfield 356, 3) := by decide +kernel
theorem dX13_applies_140 : decode cX13_applies 140 = .ok (.iload 8, 2) := by decide +kernel
theorem dX13_applies_142 : decode cX13_applies 142 = .ok (.iload 7, 2) := by decide +kernel
theorem dX13_applies_144 : decode cX13_applies 144 = .ok (.iastore, 1) := by decide +kernel
theorem dX13_applies_145 : decode cX13_applies 145 = .ok (.aload_n 0, 1) := by decide +kernel
theorem dX13_applies_146 : decode cX13_applies 146 = .ok (.iconst 3, 1) := by decide +kernel
theorem dX13_applies_147 : decode cX13_applies 147 = .ok (.iload 8, 2) := by decide +kernel
theorem dX13_applies_149 : decode cX13_applies 149 = .ok (.i2l, 1) := by decide +kernel
theorem dX13_applies_150 : decode cX13_applies 150 = .ok (.invokevirtual 1112, 3) := by decide +kernel
theorem dX13_applies_153 : decode cX13_applies 153 = .ok (.iconst 0, 1) := by decide +kernel
theorem dX13_applies_154 : decode cX13_applies 154 = .ok (.ireturn, 1) := by decide +kernel
theorem dX13_applies_155 : decode cX13_applies 155 = .ok (.aload_n 0, 1) := by decide +kernel
theorem dX13_applies_156 : decode cX13_applies 156 = .ok (.getfield 1076, 3) := by decide +kernel
theorem dX13_applies_159 : decode cX13_applies 159 = .ok (.bipush 50, 2) := by decide +kernel
theorem dX13_applies_161 : decode cX13_applies 161 = .ok (.if_icmp .ne 10, 3) := by decide +kernel
theorem dX13_applies_164 : decode cX13_applies 164 = .ok (.aload_n 0, 1) := by decide +kernel
theorem dX13_applies_165 : decode cX13_applies 165 = .ok (.iconst 2, 1) := by decide +kernel
theorem dX13_applies_166 : decode cX13_applies 166 = .ok (.putfield 1031, 3) := by decide +kernel
theorem dX13_applies_169 : decode cX13_applies 169 = .ok (.iconst 0, 1) := by decide +kernel
theorem dX13_applies_170 : decode cX13_applies 170 = .ok (.ireturn, 1) := by decide +kernel
theorem dX13_applies_171 : decode cX13_applies 171 = .ok (.iload 5, 2) := by decide +kernel
theorem dX13_applies_173 : decode cX13_applies 173 = .ok (.ifCond .lt 11, 3) := by decide +kernel
theorem dX13_applies_176 : decode cX13_applies 176 = .ok (.aload_n 0, 1) := by decide +kernel
theorem dX13_applies_177 : decode cX13_applies 177 = .ok (.iconst 2, 1) := by decide +kernel
theorem dX13_applies_178 : decode cX13_applies 178 = .ok (.iload 5, 2) := by decide +kernel
theorem dX13_applies_180 : decode cX13_applies 180 = .ok (.iconst (-1), 1) := by decide +kernel
theorem dX13_applies_181 : decode cX13_applies 181 = .ok (.invokevirtual 1104, 3) := by decide +kernel
theorem dX13_applies_184 : decode cX13_applies 184 = .ok (.aload_n 0, 1) := by decide +kernel
theorem dX13_applies_185 : decode cX13_applies 185 = .ok (.dup, 1) := by decide +kernel
theorem dX13_applies_186 : decode cX13_applies 186 = .ok (.getfield 1076, 3) := by decide +kernel
theorem dX13_applies_189 : decode cX13_applies 189 = .ok (.iconst 1, 1) := by decide +kernel
theorem dX13_applies_190 : decode cX13_applies 190 = .ok (.iadd, 1) := by decide +kernel
theorem dX13_applies_191 : decode cX13_applies 191 = .ok (.putfield 1076, 3) := by decide +kernel
theorem dX13_applies_194 : decode cX13_applies 194 = .ok (.aload_n 0, 1) := by decide +kernel
theorem dX13_applies_195 : decode cX13_applies 195 = .ok (.iconst 1, 1) := by decide +kernel
theorem dX13_applies_196 : decode cX13_applies 196 = .ok (.iconst (-1), 1) := by decide +kernel
theorem dX13_applies_197 : decode cX13_applies 197 = .ok (.iconst (-1), 1) := by decide +kernel
theorem dX13_applies_198 : decode cX13_applies 198 = .ok (.invokevirtual 1104, 3) := by decide +kernel
theorem dX13_applies_201 : decode cX13_applies 201 = .ok (.aload_n 0, 1) := by decide +kernel
theorem dX13_applies_202 : decode cX13_applies 202 = .ok (.getfield 350, 3) := by decide +kernel
theorem dX13_applies_205 : decode cX13_applies 205 = .ok (.iload_n 2, 1) := by decide +kernel
theorem dX13_applies_206 : decode cX13_applies 206 = .ok (.iaload, 1) := by decide +kernel
theorem dX13_applies_207 : decode cX13_applies 207 = .ok (.istore 8, 2) := by decide +kernel
theorem dX13_applies_209 : decode cX13_applies 209 = .ok (.iload 4, 2) := by decide +kernel
theorem dX13_applies_211 : decode cX13_applies 211 = .ok (.iconst 1, 1) := by decide +kernel
theorem dX13_applies_212 : decode cX13_applies 212 = .ok (.isub, 1) := by decide +kernel
theorem dX13_applies_213 : decode cX13_applies 213 = .ok (.istore 9, 2) := by decide +kernel
theorem dX13_applies_215 : decode cX13_applies 215 = .ok (.iload 6, 2) := by decide +kernel
theorem dX13_applies_217 : decode cX13_applies 217 = .ok (.istore 10, 2) := by decide +kernel
theorem dX13_applies_219 : decode cX13_applies 219 = .ok (.iload 10, 2) := by decide +kernel
theorem dX13_applies_221 : decode cX13_applies 221 = .ok (.ifCond .lt 82, 3) := by decide +kernel
theorem dX13_applies_224 : decode cX13_applies 224 = .ok (.aload_n 0, 1) := by decide +kernel
theorem dX13_applies_225 : decode cX13_applies 225 = .ok (.getfield 29, 3) := by decide +kernel
theorem dX13_applies_228 : decode cX13_applies 228 = .ok (.iload_n 3, 1) := by decide +kernel
theorem dX13_applies_229 : decode cX13_applies 229 = .ok (.iaload, 1) := by decide +kernel
theorem dX13_applies_230 : decode cX13_applies 230 = .ok (.iconst 3, 1) := by decide +kernel
theorem dX13_applies_231 : decode cX13_applies 231 = .ok (.if_icmp .ne 17, 3) := by decide +kernel
theorem dX13_applies_234 : decode cX13_applies 234 = .ok (.aload_n 0, 1) := by decide +kernel
theorem dX13_applies_235 : decode cX13_applies 235 = .ok (.getfield 107, 3) := by decide +kernel
theorem dX13_applies_238 : decode cX13_applies 238 = .ok (.aload_n 0, 1) := by decide +kernel
theorem dX13_applies_239 : decode cX13_applies 239 = .ok (.getfield 38, 3) := by decide +kernel
theorem dX13_applies_242 : decode cX13_applies 242 = .ok (.iload_n 3, 1) := by decide +kernel
theorem dX13_applies_243 : decode cX13_applies 243 = .ok (.iaload, 1) := by decide +kernel
theorem dX13_applies_244 : decode cX13_applies 244 = .ok (.iaload, 1) := by decide +kernel
theorem dX13_applies_245 : decode cX13_applies 245 = .ok (.goto 17, 3) := by decide +kernel
theorem dX13_applies_248 : decode cX13_applies 248 = .ok (.aload_n 0, 1) := by decide +kernel
theorem dX13_applies_249 : decode cX13_applies 249 = .ok (.getfield 107, 3) := by decide +kernel
theorem dX13_applies_252 : decode cX13_applies 252 = .ok (.aload_n 0, 1) := by decide +kernel
theorem dX13_applies_253 : decode cX13_applies 253 = .ok (.getfield 41, 3) := by decide +kernel
theorem dX13_applies_256 : decode cX13_applies 256 = .ok (.iload_n 3, 1) := by decide +kernel
theorem dX13_applies_257 : decode cX13_applies 257 = .ok (.iaload, 1) := by decide +kernel
theorem dX13_applies_258 : decode cX13_applies 258 = .ok (.iload 9, 2) := by decide +kernel
theorem dX13_applies_260 : decode cX13_applies 260 = .ok (.iadd, 1) := by decide +kernel
theorem dX13_applies_261 : decode cX13_applies 261 = .ok (.iaload, 1) := by decide +kernel
theorem dX13_applies_262 : decode cX13_applies 262 = .ok (.istore 11, 2) := by decide +kernel
theorem dX13_applies_264 : decode cX13_applies 264 = .ok (.aload_n 0, 1) := by decide +kernel
theorem dX13_applies_265 : decode cX13_applies 265 = .ok (.iload 8, 2) := by decide +kernel
theorem dX13_applies_267 : decode cX13_applies 267 = .ok (.iload 11, 2) := by decide +kernel
theorem dX13_applies_269 : decode cX13_applies 269 = .ok (.aload_n 0, 1) := by decide +kernel
theorem dX13_applies_270 : decode cX13_applies 270 = .ok (.getfield 337, 3) := by decide +kernel
theorem dX13_applies_273 : decode cX13_applies 273 = .ok (.iload 10, 2) := by decide +kernel
theorem dX13_applies_275 : decode cX13_applies 275 = .ok (.iaload, 1) := by decide +kernel
theorem dX13_applies_276 : decode cX13_applies 276 = .ok (.aload_n 0, 1) := by decide +kernel
theorem dX13_applies_277 : decode cX13_applies 277 = .ok (.getfield 343, 3) := by decide +kernel
theorem dX13_applies_280 : decode cX13_applies 280 = .ok (.iload 10, 2) := by decide +kernel
theorem dX13_applies_282 : decode cX13_applies 282 = .ok (.laload, 1) := by decide +kernel
theorem dX13_applies_283 : decode cX13_applies 283 = .ok (.invokevirtual 1082, 3) := by decide +kernel
theorem dX13_applies_286 : decode cX13_applies 286 = .ok (.istore 8, 2) := by decide +kernel
theorem dX13_applies_288 : decode cX13_applies 288 = .ok (.iinc 9 (-1), 3) := by decide +kernel
theorem dX13_applies_291 : decode cX13_applies 291 = .ok (.aload_n 0, 1) := by decide +kernel
theorem dX13_applies_292 : decode cX13_applies 292 = .ok (.getfield 340, 3) := by decide +kernel
theorem dX13_applies_295 : decode cX13_applies 295 = .ok (.iload 10, 2) := by decide +kernel
theorem dX13_applies_297 : decode cX13_applies 297 = .ok (.iaload, 1) := by decide +kernel
theorem dX13_applies_298 : decode cX13_applies 298 = .ok (.istore 10, 2) := by decide +kernel
theorem dX13_applies_300 : decode cX13_applies 300 = .ok (.goto (-81), 3) := by decide +kernel
theorem dX13_applies_303 : decode cX13_applies 303 = .ok (.aload_n 0, 1) := by decide +kernel
theorem dX13_applies_304 : decode cX13_applies 304 = .ok (.aload_n 0, 1) := by decide +kernel
theorem dX13_applies_305 : decode cX13_applies 305 = .ok (.getfield 44, 3) := by decide +kernel
theorem dX13_applies_308 : decode cX13_applies 308 = .ok (.iload_n 3, 1) := by decide +kernel
theorem dX13_applies_309 : decode cX13_applies 309 = .ok (.iaload, 1) := by decide +kernel
theorem dX13_applies_310 : decode cX13_applies 310 = .ok (.iload 8, 2) := by decide +kernel
theorem dX13_applies_312 : decode cX13_applies 312 = .ok (.invokevirtual 1107, 3) := by decide +kernel
theorem dX13_applies_315 : decode cX13_applies 315 = .ok (.ireturn, 1) := by decide +kernel
theorem dX13_goesOn_0 : decode cX13_goesOn 0 = .ok (.aload_n 0, 1) := by decide +kernel
theorem dX13_goesOn_1 : decode cX13_goesOn 1 = .ok (.dup, 1) := by decide +kernel
theorem dX13_goesOn_2 : decode cX13_goesOn 2 = .ok (.getfield 1070, 3) := by decide +kernel
theorem dX13_goesOn_5 : decode cX13_goesOn 5 = .ok (.iconst 1, 1) := by decide +kernel
theorem dX13_goesOn_6 : decode cX13_goesOn 6 = .ok (.isub, 1) := by decide +kernel
theorem dX13_goesOn_7 : decode cX13_goesOn 7 = .ok (.putfield 1070, 3) := by decide +kernel
theorem dX13_goesOn_10 : decode cX13_goesOn 10 = .ok (.aload_n 0, 1) := by decide +kernel
theorem dX13_goesOn_11 : decode cX13_goesOn 11 = .ok (.getfield 368, 3) := by decide +kernel
theorem dX13_goesOn_14 : decode cX13_goesOn 14 = .ok (.aload_n 0, 1) := by decide +kernel
theorem dX13_goesOn_15 : decode cX13_goesOn 15 = .ok (.getfield 1070, 3) := by decide +kernel
theorem dX13_goesOn_18 : decode cX13_goesOn 18 = .ok (.iaload, 1) := by decide +kernel
theorem dX13_goesOn_19 : decode cX13_goesOn 19 = .ok (.lookupswitch 92 #[(0, 25), (1, 80)], 25) := by decide +kernel
theorem dX13_goesOn_44 : decode cX13_goesOn 44 = .ok (.aload_n 0, 1) := by decide +kernel
theorem dX13_goesOn_45 : decode cX13_goesOn 45 = .ok (.getfield 371, 3) := by decide +kernel
theorem dX13_goesOn_48 : decode cX13_goesOn 48 = .ok (.aload_n 0, 1) := by decide +kernel
theorem dX13_goesOn_49 : decode cX13_goesOn 49 = .ok (.getfield 1070, 3) := by decide +kernel
theorem dX13_goesOn_52 : decode cX13_goesOn 52 = .ok (.iaload, 1) := by decide +kernel
theorem dX13_goesOn_53 : decode cX13_goesOn 53 = .ok (.istore_n 1, 1) := by decide +kernel
theorem dX13_goesOn_54 : decode cX13_goesOn 54 = .ok (.aload_n 0, 1) := by decide +kernel
theorem dX13_goesOn_55 : decode cX13_goesOn 55 = .ok (.aload_n 0, 1) := by decide +kernel
theorem dX13_goesOn_56 : decode cX13_goesOn 56 = .ok (.getfield 374, 3) := by decide +kernel
theorem dX13_goesOn_59 : decode cX13_goesOn 59 = .ok (.aload_n 0, 1) := by decide +kernel
theorem dX13_goesOn_60 : decode cX13_goesOn 60 = .ok (.getfield 1070, 3) := by decide +kernel
theorem dX13_goesOn_63 : decode cX13_goesOn 63 = .ok (.iaload, 1) := by decide +kernel
theorem dX13_goesOn_64 : decode cX13_goesOn 64 = .ok (.aload_n 0, 1) := by decide +kernel
theorem dX13_goesOn_65 : decode cX13_goesOn 65 = .ok (.getfield 107, 3) := by decide +kernel
theorem dX13_goesOn_68 : decode cX13_goesOn 68 = .ok (.aload_n 0, 1) := by decide +kernel
theorem dX13_goesOn_69 : decode cX13_goesOn 69 = .ok (.getfield 38, 3) := by decide +kernel
theorem dX13_goesOn_72 : decode cX13_goesOn 72 = .ok (.iload_n 1, 1) := by decide +kernel
theorem dX13_goesOn_73 : decode cX13_goesOn 73 = .ok (.iaload, 1) := by decide +kernel
theorem dX13_goesOn_74 : decode cX13_goesOn 74 = .ok (.iaload, 1) := by decide +kernel
theorem dX13_goesOn_75 : decode cX13_goesOn 75 = .ok (.aload_n 0, 1) := by decide +kernel
theorem dX13_goesOn_76 : decode cX13_goesOn 76 = .ok (.getfield 1061, 3) := by decide +kernel
theorem dX13_goesOn_79 : decode cX13_goesOn 79 = .ok (.aload_n 0, 1) := by decide +kernel
theorem dX13_goesOn_80 : decode cX13_goesOn 80 = .ok (.getfield 1064, 3) := by decide +kernel
theorem dX13_goesOn_83 : decode cX13_goesOn 83 = .ok (.invokevirtual 1082, 3) := by decide +kernel
theorem dX13_goesOn_86 : decode cX13_goesOn 86 = .ok (.istore_n 2, 1) := by decide +kernel
theorem dX13_goesOn_87 : decode cX13_goesOn 87 = .ok (.aload_n 0, 1) := by decide +kernel
theorem dX13_goesOn_88 : decode cX13_goesOn 88 = .ok (.aload_n 0, 1) := by decide +kernel
theorem dX13_goesOn_89 : decode cX13_goesOn 89 = .ok (.getfield 47, 3) := by decide +kernel
theorem dX13_goesOn_92 : decode cX13_goesOn 92 = .ok (.iload_n 1, 1) := by decide +kernel
theorem dX13_goesOn_93 : decode cX13_goesOn 93 = .ok (.iaload, 1) := by decide +kernel
theorem dX13_goesOn_94 : decode cX13_goesOn 94 = .ok (.iload_n 2, 1) := by decide +kernel
theorem dX13_goesOn_95 : decode cX13_goesOn 95 = .ok (.invokevirtual 1107, 3) := by decide +kernel
theorem dX13_goesOn_98 : decode cX13_goesOn 98 = .ok (.ireturn, 1) := by decide +kernel
theorem dX13_goesOn_99 : decode cX13_goesOn 99 = .ok (.aload_n 0, 1) := by decide +kernel
theorem dX13_goesOn_100 : decode cX13_goesOn 100 = .ok (.dup, 1) := by decide +kernel
theorem dX13_goesOn_101 : decode cX13_goesOn 101 = .ok (.getfield 1076, 3) := by decide +kernel
theorem dX13_goesOn_104 : decode cX13_goesOn 104 = .ok (.iconst 1, 1) := by decide +kernel
theorem dX13_goesOn_105 : decode cX13_goesOn 105 = .ok (.isub, 1) := by decide +kernel
theorem dX13_goesOn_106 : decode cX13_goesOn 106 = .ok (.putfield 1076, 3) := by decide +kernel
theorem dX13_goesOn_109 : decode cX13_goesOn 109 = .ok (.iconst 0, 1) := by decide +kernel
theorem dX13_goesOn_110 : decode cX13_goesOn 110 = .ok (.ireturn, 1) := by decide +kernel
theorem dX13_goesOn_111 : decode cX13_goesOn 111 = .ok (.aload_n 0, 1) := by decide +kernel
theorem dX13_goesOn_112 : decode cX13_goesOn 112 = .ok (.aload_n 0, 1) := by decide +kernel
theorem dX13_goesOn_113 : decode cX13_goesOn 113 = .ok (.getfield 371, 3) := by decide +kernel
theorem dX13_goesOn_116 : decode cX13_goesOn 116 = .ok (.aload_n 0, 1) := by decide +kernel
theorem dX13_goesOn_117 : decode cX13_goesOn 117 = .ok (.getfield 1070, 3) := by decide +kernel
theorem dX13_goesOn_120 : decode cX13_goesOn 120 = .ok (.iaload, 1) := by decide +kernel
theorem dX13_goesOn_121 : decode cX13_goesOn 121 = .ok (.invokevirtual 1134, 3) := by decide +kernel
theorem dX13_goesOn_124 : decode cX13_goesOn 124 = .ok (.ireturn, 1) := by decide +kernel
