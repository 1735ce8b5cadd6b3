theorem dX13_formsOfCondition_0 : decode cX13_formsOfCondition 0 = .ok (.aload_n 0, 1) := by decide +kernel
theorem dX13_formsOfCondition_1 : decode cX13_formsOfCondition 1 = .ok (.getfield 29, 3) := by decide +kernel
theorem dX13_formsOfCondition_4 : decode cX13_formsOfCondition 4 = .ok (.iload_n 1, 1) := by decide +kernel
theorem dX13_formsOfCondition_5 : decode cX13_formsOfCondition 5 = .ok (.iaload, 1) := by decide +kernel
theorem dX13_formsOfCondition_6 : decode cX13_formsOfCondition 6 = .ok (.bipush 20, 2) := by decide +kernel
theorem dX13_formsOfCondition_8 : decode cX13_formsOfCondition 8 = .ok (.if_icmp .eq 14, 3) := by decide +kernel
theorem dX13_formsOfCondition_11 : decode cX13_formsOfCondition 11 = .ok (.aload_n 0, 1) := by decide +kernel
theorem dX13_formsOfCondition_12 : decode cX13_formsOfCondition 12 = .ok (.getfield 29, 3) := by decide +kernel
theorem dX13_formsOfCondition_15 : decode cX13_formsOfCondition 15 = .ok (.iload_n 1, 1) := by decide +kernel
theorem dX13_formsOfCondition_16 : decode cX13_formsOfCondition 16 = .ok (.iaload, 1) := by decide +kernel
theorem dX13_formsOfCondition_17 : decode cX13_formsOfCondition 17 = .ok (.bipush 21, 2) := by decide +kernel
theorem dX13_formsOfCondition_19 : decode cX13_formsOfCondition 19 = .ok (.if_icmp .ne 26, 3) := by decide +kernel
theorem dX13_formsOfCondition_22 : decode cX13_formsOfCondition 22 = .ok (.aload_n 0, 1) := by decide +kernel
theorem dX13_formsOfCondition_23 : decode cX13_formsOfCondition 23 = .ok (.aload_n 0, 1) := by decide +kernel
theorem dX13_formsOfCondition_24 : decode cX13_formsOfCondition 24 = .ok (.getfield 38, 3) := by decide +kernel
theorem dX13_formsOfCondition_27 : decode cX13_formsOfCondition 27 = .ok (.iload_n 1, 1) := by decide +kernel
theorem dX13_formsOfCondition_28 : decode cX13_formsOfCondition 28 = .ok (.iaload, 1) := by decide +kernel
theorem dX13_formsOfCondition_29 : decode cX13_formsOfCondition 29 = .ok (.invokevirtual 723, 3) := by decide +kernel
theorem dX13_formsOfCondition_32 : decode cX13_formsOfCondition 32 = .ok (.aload_n 0, 1) := by decide +kernel
theorem dX13_formsOfCondition_33 : decode cX13_formsOfCondition 33 = .ok (.aload_n 0, 1) := by decide +kernel
theorem dX13_formsOfCondition_34 : decode cX13_formsOfCondition 34 = .ok (.getfield 41, 3) := by decide +kernel
theorem dX13_formsOfCondition_37 : decode cX13_formsOfCondition 37 = .ok (.iload_n 1, 1) := by decide +kernel
theorem dX13_formsOfCondition_38 : decode cX13_formsOfCondition 38 = .ok (.iaload, 1) := by decide +kernel
theorem dX13_formsOfCondition_39 : decode cX13_formsOfCondition 39 = .ok (.invokevirtual 723, 3) := by decide +kernel
theorem dX13_formsOfCondition_42 : decode cX13_formsOfCondition 42 = .ok (.goto 81, 3) := by decide +kernel
theorem dX13_formsOfCondition_45 : decode cX13_formsOfCondition 45 = .ok (.aload_n 0, 1) := by decide +kernel
theorem dX13_formsOfCondition_46 : decode cX13_formsOfCondition 46 = .ok (.getfield 29, 3) := by decide +kernel
theorem dX13_formsOfCondition_49 : decode cX13_formsOfCondition 49 = .ok (.iload_n 1, 1) := by decide +kernel
theorem dX13_formsOfCondition_50 : decode cX13_formsOfCondition 50 = .ok (.iaload, 1) := by decide +kernel
theorem dX13_formsOfCondition_51 : decode cX13_formsOfCondition 51 = .ok (.bipush 22, 2) := by decide +kernel
theorem dX13_formsOfCondition_53 : decode cX13_formsOfCondition 53 = .ok (.if_icmp .ne 16, 3) := by decide +kernel
theorem dX13_formsOfCondition_56 : decode cX13_formsOfCondition 56 = .ok (.aload_n 0, 1) := by decide +kernel
theorem dX13_formsOfCondition_57 : decode cX13_formsOfCondition 57 = .ok (.aload_n 0, 1) := by decide +kernel
theorem dX13_formsOfCondition_58 : decode cX13_formsOfCondition 58 = .ok (.getfield 38, 3) := by decide +kernel
theorem dX13_formsOfCondition_61 : decode cX13_formsOfCondition 61 = .ok (.iload_n 1, 1) := by decide +kernel
theorem dX13_formsOfCondition_62 : decode cX13_formsOfCondition 62 = .ok (.iaload, 1) := by decide +kernel
theorem dX13_formsOfCondition_63 : decode cX13_formsOfCondition 63 = .ok (.invokevirtual 723, 3) := by decide +kernel
theorem dX13_formsOfCondition_66 : decode cX13_formsOfCondition 66 = .ok (.goto 57, 3) := by decide +kernel
theorem dX13_formsOfCondition_69 : decode cX13_formsOfCondition 69 = .ok (.aload_n 0, 1) := by decide +kernel
theorem dX13_formsOfCondition_70 : decode cX13_formsOfCondition 70 = .ok (.getfield 29, 3) := by decide +kernel
theorem dX13_formsOfCondition_73 : decode cX13_formsOfCondition 73 = .ok (.iload_n 1, 1) := by decide +kernel
theorem dX13_formsOfCondition_74 : decode cX13_formsOfCondition 74 = .ok (.iaload, 1) := by decide +kernel
theorem dX13_formsOfCondition_75 : decode cX13_formsOfCondition 75 = .ok (.bipush 25, 2) := by decide +kernel
theorem dX13_formsOfCondition_77 : decode cX13_formsOfCondition 77 = .ok (.if_icmp .ne 46, 3) := by decide +kernel
theorem dX13_formsOfCondition_80 : decode cX13_formsOfCondition 80 = .ok (.aload_n 0, 1) := by decide +kernel
theorem dX13_formsOfCondition_81 : decode cX13_formsOfCondition 81 = .ok (.invokevirtual 714, 3) := by decide +kernel
theorem dX13_formsOfCondition_84 : decode cX13_formsOfCondition 84 = .ok (.aload_n 0, 1) := by decide +kernel
theorem dX13_formsOfCondition_85 : decode cX13_formsOfCondition 85 = .ok (.aload_n 0, 1) := by decide +kernel
theorem dX13_formsOfCondition_86 : decode cX13_formsOfCondition 86 = .ok (.getfield 38, 3) := by decide +kernel
theorem dX13_formsOfCondition_89 : decode cX13_formsOfCondition 89 = .ok (.iload_n 1, 1) := by decide +kernel
theorem dX13_formsOfCondition_90 : decode cX13_formsOfCondition 90 = .ok (.iaload, 1) := by decide +kernel
theorem dX13_formsOfCondition_91 : decode cX13_formsOfCondition 91 = .ok (.iconst 1, 1) := by decide +kernel
theorem dX13_formsOfCondition_92 : decode cX13_formsOfCondition 92 = .ok (.invokevirtual 717, 3) := by decide +kernel
theorem dX13_formsOfCondition_95 : decode cX13_formsOfCondition 95 = .ok (.aload_n 0, 1) := by decide +kernel
theorem dX13_formsOfCondition_96 : decode cX13_formsOfCondition 96 = .ok (.aload_n 0, 1) := by decide +kernel
theorem dX13_formsOfCondition_97 : decode cX13_formsOfCondition 97 = .ok (.getfield 41, 3) := by decide +kernel
theorem dX13_formsOfCondition_100 : decode cX13_formsOfCondition 100 = .ok (.iload_n 1, 1) := by decide +kernel
theorem dX13_formsOfCondition_101 : decode cX13_formsOfCondition 101 = .ok (.iaload, 1) := by decide +kernel
theorem dX13_formsOfCondition_102 : decode cX13_formsOfCondition 102 = .ok (.iconst (-1), 1) := by decide +kernel
theorem dX13_formsOfCondition_103 : decode cX13_formsOfCondition 103 = .ok (.invokevirtual 717, 3) := by decide +kernel
theorem dX13_formsOfCondition_106 : decode cX13_formsOfCondition 106 = .ok (.aload_n 0, 1) := by decide +kernel
theorem dX13_formsOfCondition_107 : decode cX13_formsOfCondition 107 = .ok (.invokevirtual 726, 3) := by decide +kernel
theorem dX13_formsOfCondition_110 : decode cX13_formsOfCondition 110 = .ok (.ifCond .ne 13, 3) := by decide +kernel
theorem dX13_formsOfCondition_113 : decode cX13_formsOfCondition 113 = .ok (.aload_n 0, 1) := by decide +kernel
theorem dX13_formsOfCondition_114 : decode cX13_formsOfCondition 114 = .ok (.aload_n 0, 1) := by decide +kernel
theorem dX13_formsOfCondition_115 : decode cX13_formsOfCondition 115 = .ok (.getfield 35, 3) := by decide +kernel
theorem dX13_formsOfCondition_118 : decode cX13_formsOfCondition 118 = .ok (.iload_n 1, 1) := by decide +kernel
theorem dX13_formsOfCondition_119 : decode cX13_formsOfCondition 119 = .ok (.iaload, 1) := by decide +kernel
theorem dX13_formsOfCondition_120 : decode cX13_formsOfCondition 120 = .ok (.invokevirtual 729, 3) := by decide +kernel
theorem dX13_formsOfCondition_123 : decode cX13_formsOfCondition 123 = .ok (.return_, 1) := by decide +kernel
theorem dX13_leaves_0 : decode cX13_leaves 0 = .ok (.iload_n 2, 1) := by decide +kernel
theorem dX13_leaves_1 : decode cX13_leaves 1 = .ok (.bipush 60, 2) := by decide +kernel
theorem dX13_leaves_3 : decode cX13_leaves 3 = .ok (.if_icmp .le 5, 3) := by decide +kernel
theorem dX13_leaves_6 : decode cX13_leaves 6 = .ok (.iload_n 2, 1) := by decide +kernel
theorem dX13_leaves_7 : decode cX13_leaves 7 = .ok (.ireturn, 1) := by decide +kernel
theorem dX13_leaves_8 : decode cX13_leaves 8 = .ok (.aload_n 0, 1) := by decide +kernel
theorem dX13_leaves_9 : decode cX13_leaves 9 = .ok (.iload_n 1, 1) := by decide +kernel
theorem dX13_leaves_10 : decode cX13_leaves 10 = .ok (.invokevirtual 668, 3) := by decide +kernel
theorem dX13_leaves_13 : decode cX13_leaves 13 = .ok (.istore_n 3, 1) := by decide +kernel
theorem dX13_leaves_14 : decode cX13_leaves 14 = .ok (.aload_n 0, 1) := by decide +kernel
theorem dX13_leaves_15 : decode cX13_leaves 15 = .ok (.iload_n 3, 1) := by decide +kernel
theorem dX13_leaves_16 : decode cX13_leaves 16 = .ok (.invokevirtual 732, 3) := by decide +kernel
theorem dX13_leaves_19 : decode cX13_leaves 19 = .ok (.istore 4, 2) := by decide +kernel
theorem dX13_leaves_21 : decode cX13_leaves 21 = .ok (.iload 4, 2) := by decide +kernel
theorem dX13_leaves_23 : decode cX13_leaves 23 = .ok (.iconst 4, 1) := by decide +kernel
theorem dX13_leaves_24 : decode cX13_leaves 24 = .ok (.if_icmp .ne 25, 3) := by decide +kernel
theorem dX13_leaves_27 : decode cX13_leaves 27 = .ok (.aload_n 0, 1) := by decide +kernel
theorem dX13_leaves_28 : decode cX13_leaves 28 = .ok (.aload_n 0, 1) := by decide +kernel
theorem dX13_leaves_29 : decode cX13_leaves 29 = .ok (.getfield 119, 3) := by decide +kernel
theorem dX13_leaves_32 : decode cX13_leaves 32 = .ok (.iload_n 3, 1) := by decide +kernel
theorem dX13_leaves_33 : decode cX13_leaves 33 = .ok (.iaload, 1) := by decide +kernel
theorem dX13_leaves_34 : decode cX13_leaves 34 = .ok (.aload_n 0, 1) := by decide +kernel
theorem dX13_leaves_35 : decode cX13_leaves 35 = .ok (.aload_n 0, 1) := by decide +kernel
theorem dX13_leaves_36 : decode cX13_leaves 36 = .ok (.getfield 116, 3) := by decide +kernel
theorem dX13_leaves_39 : decode cX13_leaves 39 = .ok (.iload_n 3, 1) := by decide +kernel
theorem dX13_leaves_40 : decode cX13_leaves 40 = .ok (.iaload, 1) := by decide +kernel
theorem dX13_leaves_41 : decode cX13_leaves 41 = .ok (.iload_n 2, 1) := by decide +kernel
theorem dX13_leaves_42 : decode cX13_leaves 42 = .ok (.invokevirtual 735, 3) := by decide +kernel
theorem dX13_leaves_45 : decode cX13_leaves 45 = .ok (.invokevirtual 735, 3) := by decide +kernel
theorem dX13_leaves_48 : decode cX13_leaves 48 = .ok (.ireturn, 1) := by decide +kernel
theorem dX13_leaves_49 : decode cX13_leaves 49 = .ok (.iload_n 2, 1) := by decide +kernel
theorem dX13_leaves_50 : decode cX13_leaves 50 = .ok (.iconst 1, 1) := by decide +kernel
theorem dX13_leaves_51 : decode cX13_leaves 51 = .ok (.iadd, 1) := by decide +kernel
theorem dX13_leaves_52 : decode cX13_leaves 52 = .ok (.ireturn, 1) := by decide +kernel
theorem dX13_wants_0 : decode cX13_wants 0 = .ok (.aload_n 0, 1) := by decide +kernel
theorem dX13_wants_1 : decode cX13_wants 1 = .ok (.getfield 738, 3) := by decide +kernel
theorem dX13_wants_4 : decode cX13_wants 4 = .ok (.bipush 60, 2) := by decide +kernel
theorem dX13_wants_6 : decode cX13_wants 6 = .ok (.if_icmp .le 4, 3) := by decide +kernel
theorem dX13_wants_9 : decode cX13_wants 9 = .ok (.return_, 1) := by decide +kernel
theorem dX13_wants_10 : decode cX13_wants 10 = .ok (.aload_n 0, 1) := by decide +kernel
theorem dX13_wants_11 : decode cX13_wants 11 = .ok (.aload_n 0, 1) := by decide +kernel
theorem dX13_wants_12 : decode cX13_wants 12 = .ok (.iload_n 1, 1) := by decide +kernel
theorem dX13_wants_13 : decode cX13_wants 13 = .ok (.aload_n 0, 1) := by decide +kernel
theorem dX13_wants_14 : decode cX13_wants 14 = .ok (.getfield 738, 3) := by decide +kernel
theorem dX13_wants_17 : decode cX13_wants 17 = .ok (.invokevirtual 735, 3) := by decide +kernel
theorem dX13_wants_20 : decode cX13_wants 20 = .ok (.putfield 738, 3) := by decide +kernel
theorem dX13_wants_23 : decode cX13_wants 23 = .ok (.aload_n 0, 1) := by decide +kernel
theorem dX13_wants_24 : decode cX13_wants 24 = .ok (.getfield 738, 3) := by decide +kernel
theorem dX13_wants_27 : decode cX13_wants 27 = .ok (.bipush 60, 2) := by decide +kernel
theorem dX13_wants_29 : decode cX13_wants 29 = .ok (.if_icmp .le 8, 3) := by decide +kernel
theorem dX13_wants_32 : decode cX13_wants 32 = .ok (.aload_n 0, 1) := by decide +kernel
theorem dX13_wants_33 : decode cX13_wants 33 = .ok (.iload_n 2, 1) := by decide +kernel
theorem dX13_wants_34 : decode cX13_wants 34 = .ok (.invokevirtual 729, 3) := by decide +kernel
theorem dX13_wants_37 : decode cX13_wants 37 = .ok (.return_, 1) := by decide +kernel
theorem dX13_formsOf_0 : decode cX13_formsOf 0 = .ok (.aload_n 0, 1) := by decide +kernel
theorem dX13_formsOf_1 : decode cX13_formsOf 1 = .ok (.getfield 29, 3) := by decide +kernel
theorem dX13_formsOf_4 : decode cX13_formsOf 4 = .ok (.iload_n 1, 1) := by decide +kernel
theorem dX13_formsOf_5 : decode cX13_formsOf 5 = .ok (.iaload, 1) := by decide +kernel
theorem dX13_formsOf_6 : decode cX13_formsOf 6 = .ok (.tableswitch 506 1 19 #[90, 131, 198, 228, 228, 328, 506, 506, 506, 506, 506, 506, 506, 506, 342, 492, 506, 506, 451], 90) := by decide +kernel
theorem dX13_formsOf_96 : decode cX13_formsOf 96 = .ok (.aload_n 0, 1) := by decide +kernel
theorem dX13_formsOf_97 : decode cX13_formsOf 97 = .ok (.aload_n 0, 1) := by decide +kernel
theorem dX13_formsOf_98 : decode cX13_formsOf 98 = .ok (.getfield 128, 3) := by decide +kernel
theorem dX13_formsOf_101 : decode cX13_formsOf 101 = .ok (.iload_n 1, 1) := by decide +kernel
theorem dX13_formsOf_102 : decode cX13_formsOf 102 = .ok (.iaload, 1) := by decide +kernel
theorem dX13_formsOf_103 : decode cX13_formsOf 103 = .ok (.aload_n 0, 1) := by decide +kernel
theorem dX13_formsOf_104 : decode cX13_formsOf 104 = .ok (.getfield 32, 3) := by decide +kernel
theorem dX13_formsOf_107 : decode cX13_formsOf 107 = .ok (.iload_n 1, 1) := by decide +kernel
theorem dX13_formsOf_108 : decode cX13_formsOf 108 = .ok (.iaload, 1) := by decide +kernel
theorem dX13_formsOf_109 : decode cX13_formsOf 109 = .ok (.invokevirtual 741, 3) := by decide +kernel
theorem dX13_formsOf_112 : decode cX13_formsOf 112 = .ok (.aload_n 0, 1) := by decide +kernel
theorem dX13_formsOf_113 : decode cX13_formsOf 113 = .ok (.aload_n 0, 1) := by decide +kernel
theorem dX13_formsOf_114 : decode cX13_formsOf 114 = .ok (.getfield 44, 3) := by decide +kernel
theorem dX13_formsOf_117 : decode cX13_formsOf 117 = .ok (.iload_n 1, 1) := by decide +kernel
theorem dX13_formsOf_118 : decode cX13_formsOf 118 = .ok (.iaload, 1) := by decide +kernel
theorem dX13_formsOf_119 : decode cX13_formsOf 119 = .ok (.iload_n 2, 1) := by decide +kernel
theorem dX13_formsOf_120 : decode cX13_formsOf 120 = .ok (.invokevirtual 744, 3) := by decide +kernel
theorem dX13_formsOf_123 : decode cX13_formsOf 123 = .ok (.aload_n 0, 1) := by decide +kernel
theorem dX13_formsOf_124 : decode cX13_formsOf 124 = .ok (.aload_n 0, 1) := by decide +kernel
theorem dX13_formsOf_125 : decode cX13_formsOf 125 = .ok (.getfield 47, 3) := by decide +kernel
theorem dX13_formsOf_128 : decode cX13_formsOf 128 = .ok (.iload_n 1, 1) := by decide +kernel
theorem dX13_formsOf_129 : decode cX13_formsOf 129 = .ok (.iaload, 1) := by decide +kernel
theorem dX13_formsOf_130 : decode cX13_formsOf 130 = .ok (.iload_n 2, 1) := by decide +kernel
theorem dX13_formsOf_131 : decode cX13_formsOf 131 = .ok (.invokevirtual 744, 3) := by decide +kernel
theorem dX13_formsOf_134 : decode cX13_formsOf 134 = .ok (.goto 378, 3) := by decide +kernel
theorem dX13_formsOf_137 : decode cX13_formsOf 137 = .ok (.aload_n 0, 1) := by decide +kernel
theorem dX13_formsOf_138 : decode cX13_formsOf 138 = .ok (.aload_n 0, 1) := by decide +kernel
theorem dX13_formsOf_139 : decode cX13_formsOf 139 = .ok (.getfield 128, 3) := by decide +kernel
theorem dX13_formsOf_142 : decode cX13_formsOf 142 = .ok (.iload_n 1, 1) := by decide +kernel
theorem dX13_formsOf_143 : decode cX13_formsOf 143 = .ok (.iaload, 1) := by decide +kernel
theorem dX13_formsOf_144 : decode cX13_formsOf 144 = .ok (.aload_n 0, 1) := by decide +kernel
theorem dX13_formsOf_145 : decode cX13_formsOf 145 = .ok (.getfield 32, 3) := by decide +kernel
theorem dX13_formsOf_148 : decode cX13_formsOf 148 = .ok (.iload_n 1, 1) := by decide +kernel
theorem dX13_formsOf_149 : decode cX13_formsOf 149 = .ok (.iaload, 1) := by decide +kernel
theorem dX13_formsOf_150 : decode cX13_formsOf 150 = .ok (.invokevirtual 741, 3) := by decide +kernel
theorem dX13_formsOf_153 : decode cX13_formsOf 153 = .ok (.aload_n 0, 1) := by decide +kernel
theorem dX13_formsOf_154 : decode cX13_formsOf 154 = .ok (.aload_n 0, 1) := by decide +kernel
theorem dX13_formsOf_155 : decode cX13_formsOf 155 = .ok (.getfield 104, 3) := by decide +kernel
theorem dX13_formsOf_158 : decode cX13_formsOf 158 = .ok (.aload_n 0, 1) := by decide +kernel
theorem dX13_formsOf_159 : decode cX13_formsOf 159 = .ok (.getfield 107, 3) := by decide +kernel
theorem dX13_formsOf_162 : decode cX13_formsOf 162 = .ok (.aload_n 0, 1) := by decide +kernel
theorem dX13_formsOf_163 : decode cX13_formsOf 163 = .ok (.getfield 38, 3) := by decide +kernel
theorem dX13_formsOf_166 : decode cX13_formsOf 166 = .ok (.iload_n 1, 1) := by decide +kernel
theorem dX13_formsOf_167 : decode cX13_formsOf 167 = .ok (.iaload, 1) := by decide +kernel
theorem dX13_formsOf_168 : decode cX13_formsOf 168 = .ok (.iaload, 1) := by decide +kernel
theorem dX13_formsOf_169 : decode cX13_formsOf 169 = .ok (.iaload, 1) := by decide +kernel
theorem dX13_formsOf_170 : decode cX13_formsOf 170 = .ok (.aload_n 0, 1) := by decide +kernel
theorem dX13_formsOf_171 : decode cX13_formsOf 171 = .ok (.getfield 32, 3) := by decide +kernel
theorem dX13_formsOf_174 : decode cX13_formsOf 174 = .ok (.iload_n 1, 1) := by decide +kernel
theorem dX13_formsOf_175 : decode cX13_formsOf 175 = .ok (.iaload, 1) := by decide +kernel
theorem dX13_formsOf_176 : decode cX13_formsOf 176 = .ok (.invokevirtual 741, 3) := by decide +kernel
theorem dX13_formsOf_179 : decode cX13_formsOf 179 = .ok (.aload_n 0, 1) := by decide +kernel
theorem dX13_formsOf_180 : decode cX13_formsOf 180 = .ok (.aload_n 0, 1) := by decide +kernel
theorem dX13_formsOf_181 : decode cX13_formsOf 181 = .ok (.getfield 44, 3) := by decide +kernel
theorem dX13_formsOf_184 : decode cX13_formsOf 184 = .ok (.iload_n 1, 1) := by decide +kernel
theorem dX13_formsOf_185 : decode cX13_formsOf 185 = .ok (.iaload, 1) := by decide +kernel
theorem dX13_formsOf_186 : decode cX13_formsOf 186 = .ok (.iload_n 2, 1) := by decide +kernel
theorem dX13_formsOf_187 : decode cX13_formsOf 187 = .ok (.invokevirtual 744, 3) := by decide +kernel
theorem dX13_formsOf_190 : decode cX13_formsOf 190 = .ok (.aload_n 0, 1) := by decide +kernel
theorem dX13_formsOf_191 : decode cX13_formsOf 191 = .ok (.aload_n 0, 1) := by decide +kernel
theorem dX13_formsOf_192 : decode cX13_formsOf 192 = .ok (.getfield 47, 3) := by decide +kernel
theorem dX13_formsOf_195 : decode cX13_formsOf 195 = .ok (.iload_n 1, 1) := by decide +kernel
theorem dX13_formsOf_196 : decode cX13_formsOf 196 = .ok (.iaload, 1) := by decide +kernel
theorem dX13_formsOf_197 : decode cX13_formsOf 197 = .ok (.iload_n 2, 1) := by decide +kernel
theorem dX13_formsOf_198 : decode cX13_formsOf 198 = .ok (.invokevirtual 744, 3) := by decide +kernel
theorem dX13_formsOf_201 : decode cX13_formsOf 201 = .ok (.goto 311, 3) := by decide +kernel
theorem dX13_formsOf_204 : decode cX13_formsOf 204 = .ok (.aload_n 0, 1) := by decide +kernel
theorem dX13_formsOf_205 : decode cX13_formsOf 205 = .ok (.aload_n 0, 1) := by decide +kernel
theorem dX13_formsOf_206 : decode cX13_formsOf 206 = .ok (.getfield 128, 3) := by decide +kernel
theorem dX13_formsOf_209 : decode cX13_formsOf 209 = .ok (.iload_n 1, 1) := by decide +kernel
theorem dX13_formsOf_210 : decode cX13_formsOf 210 = .ok (.iaload, 1) := by decide +kernel
theorem dX13_formsOf_211 : decode cX13_formsOf 211 = .ok (.aload_n 0, 1) := by decide +kernel
theorem dX13_formsOf_212 : decode cX13_formsOf 212 = .ok (.getfield 32, 3) := by decide +kernel
theorem dX13_formsOf_215 : decode cX13_formsOf 215 = .ok (.iload_n 1, 1) := by decide +kernel
theorem dX13_formsOf_216 : decode cX13_formsOf 216 = .ok (.iaload, 1) := by decide +kernel
theorem dX13_formsOf_217 : decode cX13_formsOf 217 = .ok (.invokevirtual 741, 3) := by decide +kernel
theorem dX13_formsOf_220 : decode cX13_formsOf 220 = .ok (.aload_n 0, 1) := by decide +kernel
theorem dX13_formsOf_221 : decode cX13_formsOf 221 = .ok (.aload_n 0, 1) := by decide +kernel
theorem dX13_formsOf_222 : decode cX13_formsOf 222 = .ok (.getfield 44, 3) := by decide +kernel
theorem dX13_formsOf_225 : decode cX13_formsOf 225 = .ok (.iload_n 1, 1) := by decide +kernel
theorem dX13_formsOf_226 : decode cX13_formsOf 226 = .ok (.iaload, 1) := by decide +kernel
theorem dX13_formsOf_227 : decode cX13_formsOf 227 = .ok (.iload_n 2, 1) := by decide +kernel
theorem dX13_formsOf_228 : decode cX13_formsOf 228 = .ok (.invokevirtual 744, 3) := by decide +kernel
theorem dX13_formsOf_231 : decode cX13_formsOf 231 = .ok (.goto 281, 3) := by decide +kernel
theorem dX13_formsOf_234 : decode cX13_formsOf 234 = .ok (.aload_n 0, 1) := by decide +kernel
theorem dX13_formsOf_235 : decode cX13_formsOf 235 = .ok (.getfield 29, 3) := by decide +kernel
theorem dX13_formsOf_238 : decode cX13_formsOf 238 = .ok (.iload_n 1, 1) := by decide +kernel
theorem dX13_formsOf_239 : decode cX13_formsOf 239 = .ok (.iaload, 1) := by decide +kernel
theorem dX13_formsOf_240 : decode cX13_formsOf 240 = .ok (.iconst 4, 1) := by decide +kernel
theorem dX13_formsOf_241 : decode cX13_formsOf 241 = .ok (.if_icmp .ne 19, 3) := by decide +kernel
theorem dX13_formsOf_244 : decode cX13_formsOf 244 = .ok (.aload_n 0, 1) := by decide +kernel
theorem dX13_formsOf_245 : decode cX13_formsOf 245 = .ok (.aload_n 0, 1) := by decide +kernel
theorem dX13_formsOf_246 : decode cX13_formsOf 246 = .ok (.getfield 128, 3) := by decide +kernel
theorem dX13_formsOf_249 : decode cX13_formsOf 249 = .ok (.iload_n 1, 1) := by decide +kernel
theorem dX13_formsOf_250 : decode cX13_formsOf 250 = .ok (.iaload, 1) := by decide +kernel
theorem dX13_formsOf_251 : decode cX13_formsOf 251 = .ok (.aload_n 0, 1) := by decide +kernel
theorem dX13_formsOf_252 : decode cX13_formsOf 252 = .ok (.getfield 32, 3) := by decide +kernel
theorem dX13_formsOf_255 : decode cX13_formsOf 255 = .ok (.iload_n 1, 1) := by decide +kernel
theorem dX13_formsOf_256 : decode cX13_formsOf 256 = .ok (.iaload, 1) := by decide +kernel
theorem dX13_formsOf_257 : decode cX13_formsOf 257 = .ok (.invokevirtual 741, 3) := by decide +kernel
theorem dX13_formsOf_260 : decode cX13_formsOf 260 = .ok (.iload_n 2, 1) := by decide +kernel
theorem dX13_formsOf_261 : decode cX13_formsOf 261 = .ok (.aload_n 0, 1) := by decide +kernel
theorem dX13_formsOf_262 : decode cX13_formsOf 262 = .ok (.aload_n 0, 1) := by decide +kernel
theorem dX13_formsOf_263 : decode cX13_formsOf 263 = .ok (.getfield 38, 3) := by decide +kernel
theorem dX13_formsOf_266 : decode cX13_formsOf 266 = .ok (.iload_n 1, 1) := by decide +kernel
theorem dX13_formsOf_267 : decode cX13_formsOf 267 = .ok (.iaload, 1) := by decide +kernel
theorem dX13_formsOf_268 : decode cX13_formsOf 268 = .ok (.invokevirtual 720, 3) := by decide +kernel
theorem dX13_formsOf_271 : decode cX13_formsOf 271 = .ok (.iadd, 1) := by decide +kernel
theorem dX13_formsOf_272 : decode cX13_formsOf 272 = .ok (.istore_n 3, 1) := by decide +kernel
theorem dX13_formsOf_273 : decode cX13_formsOf 273 = .ok (.iload_n 3, 1) := by decide +kernel
theorem dX13_formsOf_274 : decode cX13_formsOf 274 = .ok (.bipush 6, 2) := by decide +kernel
theorem dX13_formsOf_276 : decode cX13_formsOf 276 = .ok (.if_icmp .le 13, 3) := by decide +kernel
theorem dX13_formsOf_279 : decode cX13_formsOf 279 = .ok (.aload_n 0, 1) := by decide +kernel
theorem dX13_formsOf_280 : decode cX13_formsOf 280 = .ok (.aload_n 0, 1) := by decide +kernel
theorem dX13_formsOf_281 : decode cX13_formsOf 281 = .ok (.getfield 35, 3) := by decide +kernel
theorem dX13_formsOf_284 : decode cX13_formsOf 284 = .ok (.iload_n 1, 1) := by decide +kernel
theorem dX13_formsOf_285 : decode cX13_formsOf 285 = .ok (.iaload, 1) := by decide +kernel
theorem dX13_formsOf_286 : decode cX13_formsOf 286 = .ok (.invokevirtual 729, 3) := by decide +kernel
theorem dX13_formsOf_289 : decode cX13_formsOf 289 = .ok (.aload_n 0, 1) := by decide +kernel
theorem dX13_formsOf_290 : decode cX13_formsOf 290 = .ok (.aload_n 0, 1) := by decide +kernel
theorem dX13_formsOf_291 : decode cX13_formsOf 291 = .ok (.getfield 38, 3) := by decide +kernel
theorem dX13_formsOf_294 : decode cX13_formsOf 294 = .ok (.iload_n 1, 1) := by decide +kernel
theorem dX13_formsOf_295 : decode cX13_formsOf 295 = .ok (.iaload, 1) := by decide +kernel
theorem dX13_formsOf_296 : decode cX13_formsOf 296 = .ok (.invokevirtual 723, 3) := by decide +kernel
theorem dX13_formsOf_299 : decode cX13_formsOf 299 = .ok (.aload_n 0, 1) := by decide +kernel
theorem dX13_formsOf_300 : decode cX13_formsOf 300 = .ok (.aload_n 0, 1) := by decide +kernel
theorem dX13_formsOf_301 : decode cX13_formsOf 301 = .ok (.getfield 44, 3) := by decide +kernel
theorem dX13_formsOf_304 : decode cX13_formsOf 304 = .ok (.iload_n 1, 1) := by decide +kernel
theorem dX13_formsOf_305 : decode cX13_formsOf 305 = .ok (.iaload, 1) := by decide +kernel
theorem dX13_formsOf_306 : decode cX13_formsOf 306 = .ok (.iload_n 3, 1) := by decide +kernel
theorem dX13_formsOf_307 : decode cX13_formsOf 307 = .ok (.invokevirtual 744, 3) := by decide +kernel
theorem dX13_formsOf_310 : decode cX13_formsOf 310 = .ok (.aload_n 0, 1) := by decide +kernel
theorem dX13_formsOf_311 : decode cX13_formsOf 311 = .ok (.getfield 29, 3) := by decide +kernel
theorem dX13_formsOf_314 : decode cX13_formsOf 314 = .ok (.iload_n 1, 1) := by decide +kernel
theorem dX13_formsOf_315 : decode cX13_formsOf 315 = .ok (.iaload, 1) := by decide +kernel
theorem dX13_formsOf_316 : decode cX13_formsOf 316 = .ok (.iconst 4, 1) := by decide +kernel
theorem dX13_formsOf_317 : decode cX13_formsOf 317 = .ok (.if_icmp .ne 195, 3) := by decide +kernel
theorem dX13_formsOf_320 : decode cX13_formsOf 320 = .ok (.aload_n 0, 1) := by decide +kernel
theorem dX13_formsOf_321 : decode cX13_formsOf 321 = .ok (.aload_n 0, 1) := by decide +kernel
theorem dX13_formsOf_322 : decode cX13_formsOf 322 = .ok (.getfield 47, 3) := by decide +kernel
theorem dX13_formsOf_325 : decode cX13_formsOf 325 = .ok (.iload_n 1, 1) := by decide +kernel
theorem dX13_formsOf_326 : decode cX13_formsOf 326 = .ok (.iaload, 1) := by decide +kernel
theorem dX13_formsOf_327 : decode cX13_formsOf 327 = .ok (.iload_n 3, 1) := by decide +kernel
theorem dX13_formsOf_328 : decode cX13_formsOf 328 = .ok (.invokevirtual 744, 3) := by decide +kernel
theorem dX13_formsOf_331 : decode cX13_formsOf 331 = .ok (.goto 181, 3) := by decide +kernel
theorem dX13_formsOf_334 : decode cX13_formsOf 334 = .ok (.aload_n 0, 1) := by decide +kernel
theorem dX13_formsOf_335 : decode cX13_formsOf 335 = .ok (.aload_n 0, 1) := by decide +kernel
theorem dX13_formsOf_336 : decode cX13_formsOf 336 = .ok (.getfield 47, 3) := by decide +kernel
theorem dX13_formsOf_339 : decode cX13_formsOf 339 = .ok (.iload_n 1, 1) := by decide +kernel
theorem dX13_formsOf_340 : decode cX13_formsOf 340 = .ok (.iaload, 1) := by decide +kernel
theorem dX13_formsOf_341 : decode cX13_formsOf 341 = .ok (.iload_n 2, 1) := by decide +kernel
theorem dX13_formsOf_342 : decode cX13_formsOf 342 = .ok (.invokevirtual 744, 3) := by decide +kernel
theorem dX13_formsOf_345 : decode cX13_formsOf 345 = .ok (.goto 167, 3) := by decide +kernel
theorem dX13_formsOf_348 : decode cX13_formsOf 348 = .ok (.iconst 0, 1) := by decide +kernel
theorem dX13_formsOf_349 : decode cX13_formsOf 349 = .ok (.istore_n 3, 1) := by decide +kernel
theorem dX13_formsOf_350 : decode cX13_formsOf 350 = .ok (.iload_n 3, 1) := by decide +kernel
theorem dX13_formsOf_351 : decode cX13_formsOf 351 = .ok (.aload_n 0, 1) := by decide +kernel
theorem dX13_formsOf_352 : decode cX13_formsOf 352 = .ok (.getfield 44, 3) := by decide +kernel
theorem dX13_formsOf_355 : decode cX13_formsOf 355 = .ok (.iload_n 1, 1) := by decide +kernel
theorem dX13_formsOf_356 : decode cX13_formsOf 356 = .ok (.iaload, 1) := by decide +kernel
theorem dX13_formsOf_357 : decode cX13_formsOf 357 = .ok (.if_icmp .ge 97, 3) := by decide +kernel
theorem dX13_formsOf_360 : decode cX13_formsOf 360 = .ok (.aload_n 0, 1) := by decide +kernel
theorem dX13_formsOf_361 : decode cX13_formsOf 361 = .ok (.getfield 41, 3) := by decide +kernel
theorem dX13_formsOf_364 : decode cX13_formsOf 364 = .ok (.iload_n 1, 1) := by decide +kernel
theorem dX13_formsOf_365 : decode cX13_formsOf 365 = .ok (.iaload, 1) := by decide +kernel
theorem dX13_formsOf_366 : decode cX13_formsOf 366 = .ok (.iload_n 3, 1) := by decide +kernel
theorem dX13_formsOf_367 : decode cX13_formsOf 367 = .ok (.iadd, 1) := by decide +kernel
theorem dX13_formsOf_368 : decode cX13_formsOf 368 = .ok (.istore 4, 2) := by decide +kernel
theorem dX13_formsOf_370 : decode cX13_formsOf 370 = .ok (.aload_n 0, 1) := by decide +kernel
theorem dX13_formsOf_371 : decode cX13_formsOf 371 = .ok (.getfield 68, 3) := by decide +kernel
theorem dX13_formsOf_374 : decode cX13_formsOf 374 = .ok (.iload 4, 2) := by decide +kernel
theorem dX13_formsOf_376 : decode cX13_formsOf 376 = .ok (.iaload, 1) := by decide +kernel
theorem dX13_formsOf_377 : decode cX13_formsOf 377 = .ok (.iconst 1, 1) := by decide +kernel
theorem dX13_formsOf_378 : decode cX13_formsOf 378 = .ok (.if_icmp .ne 18, 3) := by decide +kernel
theorem dX13_formsOf_381 : decode cX13_formsOf 381 = .ok (.aload_n 0, 1) := by decide +kernel
theorem dX13_formsOf_382 : decode cX13_formsOf 382 = .ok (.aload_n 0, 1) := by decide +kernel
theorem dX13_formsOf_383 : decode cX13_formsOf 383 = .ok (.getfield 71, 3) := by decide +kernel
theorem dX13_formsOf_386 : decode cX13_formsOf 386 = .ok (.iload 4, 2) := by decide +kernel
theorem dX13_formsOf_388 : decode cX13_formsOf 388 = .ok (.iaload, 1) := by decide +kernel
theorem dX13_formsOf_389 : decode cX13_formsOf 389 = .ok (.iload_n 2, 1) := by decide +kernel
theorem dX13_formsOf_390 : decode cX13_formsOf 390 = .ok (.invokevirtual 744, 3) := by decide +kernel
theorem dX13_formsOf_393 : decode cX13_formsOf 393 = .ok (.goto 55, 3) := by decide +kernel
theorem dX13_formsOf_396 : decode cX13_formsOf 396 = .ok (.aload_n 0, 1) := by decide +kernel
theorem dX13_formsOf_397 : decode cX13_formsOf 397 = .ok (.getfield 68, 3) := by decide +kernel
theorem dX13_formsOf_400 : decode cX13_formsOf 400 = .ok (.iload 4, 2) := by decide +kernel
theorem dX13_formsOf_402 : decode cX13_formsOf 402 = .ok (.iaload, 1) := by decide +kernel
theorem dX13_formsOf_403 : decode cX13_formsOf 403 = .ok (.ifCond .ne 45, 3) := by decide +kernel
theorem dX13_formsOf_406 : decode cX13_formsOf 406 = .ok (.aload_n 0, 1) := by decide +kernel
theorem dX13_formsOf_407 : decode cX13_formsOf 407 = .ok (.getfield 13, 3) := by decide +kernel
theorem dX13_formsOf_410 : decode cX13_formsOf 410 = .ok (.aload_n 0, 1) := by decide +kernel
theorem dX13_formsOf_411 : decode cX13_formsOf 411 = .ok (.getfield 74, 3) := by decide +kernel
theorem dX13_formsOf_414 : decode cX13_formsOf 414 = .ok (.iload 4, 2) := by decide +kernel
theorem dX13_formsOf_416 : decode cX13_formsOf 416 = .ok (.iaload, 1) := by decide +kernel
theorem dX13_formsOf_417 : decode cX13_formsOf 417 = .ok (.baload, 1) := by decide +kernel
theorem dX13_formsOf_418 : decode cX13_formsOf 418 = .ok (.bipush 40, 2) := by decide +kernel
theorem dX13_formsOf_420 : decode cX13_formsOf 420 = .ok (.if_icmp .ne 28, 3) := by decide +kernel
theorem dX13_formsOf_423 : decode cX13_formsOf 423 = .ok (.aload_n 0, 1) := by decide +kernel
theorem dX13_formsOf_424 : decode cX13_formsOf 424 = .ok (.aload_n 0, 1) := by decide +kernel
theorem dX13_formsOf_425 : decode cX13_formsOf 425 = .ok (.getfield 71, 3) := by decide +kernel
theorem dX13_formsOf_428 : decode cX13_formsOf 428 = .ok (.iload 4, 2) := by decide +kernel
theorem dX13_formsOf_430 : decode cX13_formsOf 430 = .ok (.iaload, 1) := by decide +kernel
theorem dX13_formsOf_431 : decode cX13_formsOf 431 = .ok (.invokevirtual 747, 3) := by decide +kernel
theorem dX13_formsOf_434 : decode cX13_formsOf 434 = .ok (.ifCond .ne 14, 3) := by decide +kernel
theorem dX13_formsOf_437 : decode cX13_formsOf 437 = .ok (.aload_n 0, 1) := by decide +kernel
theorem dX13_formsOf_438 : decode cX13_formsOf 438 = .ok (.aload_n 0, 1) := by decide +kernel
theorem dX13_formsOf_439 : decode cX13_formsOf 439 = .ok (.getfield 74, 3) := by decide +kernel
theorem dX13_formsOf_442 : decode cX13_formsOf 442 = .ok (.iload 4, 2) := by decide +kernel
theorem dX13_formsOf_444 : decode cX13_formsOf 444 = .ok (.iaload, 1) := by decide +kernel
theorem dX13_formsOf_445 : decode cX13_formsOf 445 = .ok (.invokevirtual 729, 3) := by decide +kernel
theorem dX13_formsOf_448 : decode cX13_formsOf 448 = .ok (.iinc 3 1, 3) := by decide +kernel
theorem dX13_formsOf_451 : decode cX13_formsOf 451 = .ok (.goto (-101), 3) := by decide +kernel
theorem dX13_formsOf_454 : decode cX13_formsOf 454 = .ok (.goto 58, 3) := by decide +kernel
theorem dX13_formsOf_457 : decode cX13_formsOf 457 = .ok (.aload_n 0, 1) := by decide +kernel
theorem dX13_formsOf_458 : decode cX13_formsOf 458 = .ok (.aload_n 0, 1) := by decide +kernel
theorem dX13_formsOf_459 : decode cX13_formsOf 459 = .ok (.getfield 128, 3) := by decide +kernel
theorem dX13_formsOf_462 : decode cX13_formsOf 462 = .ok (.iload_n 1, 1) := by decide +kernel
theorem dX13_formsOf_463 : decode cX13_formsOf 463 = .ok (.iaload, 1) := by decide +kernel
theorem dX13_formsOf_464 : decode cX13_formsOf 464 = .ok (.aload_n 0, 1) := by decide +kernel
theorem dX13_formsOf_465 : decode cX13_formsOf 465 = .ok (.getfield 32, 3) := by decide +kernel
theorem dX13_formsOf_468 : decode cX13_formsOf 468 = .ok (.iload_n 1, 1) := by decide +kernel
theorem dX13_formsOf_469 : decode cX13_formsOf 469 = .ok (.iaload, 1) := by decide +kernel
theorem dX13_formsOf_470 : decode cX13_formsOf 470 = .ok (.invokevirtual 741, 3) := by decide +kernel
theorem dX13_formsOf_473 : decode cX13_formsOf 473 = .ok (.aload_n 0, 1) := by decide +kernel
theorem dX13_formsOf_474 : decode cX13_formsOf 474 = .ok (.aload_n 0, 1) := by decide +kernel
theorem dX13_formsOf_475 : decode cX13_formsOf 475 = .ok (.getfield 44, 3) := by decide +kernel
theorem dX13_formsOf_478 : decode cX13_formsOf 478 = .ok (.iload_n 1, 1) := by decide +kernel
theorem dX13_formsOf_479 : decode cX13_formsOf 479 = .ok (.iaload, 1) := by decide +kernel
theorem dX13_formsOf_480 : decode cX13_formsOf 480 = .ok (.iload_n 2, 1) := by decide +kernel
theorem dX13_formsOf_481 : decode cX13_formsOf 481 = .ok (.invokevirtual 744, 3) := by decide +kernel
theorem dX13_formsOf_484 : decode cX13_formsOf 484 = .ok (.aload_n 0, 1) := by decide +kernel
theorem dX13_formsOf_485 : decode cX13_formsOf 485 = .ok (.aload_n 0, 1) := by decide +kernel
theorem dX13_formsOf_486 : decode cX13_formsOf 486 = .ok (.getfield 47, 3) := by decide +kernel
theorem dX13_formsOf_489 : decode cX13_formsOf 489 = .ok (.iload_n 1, 1) := by decide +kernel
theorem dX13_formsOf_490 : decode cX13_formsOf 490 = .ok (.iaload, 1) := by decide +kernel
theorem dX13_formsOf_491 : decode cX13_formsOf 491 = .ok (.iload_n 2, 1) := by decide +kernel
theorem dX13_formsOf_492 : decode cX13_formsOf 492 = .ok (.invokevirtual 744, 3) := by decide +kernel
theorem dX13_formsOf_495 : decode cX13_formsOf 495 = .ok (.goto 17, 3) := by decide +kernel
theorem dX13_formsOf_498 : decode cX13_formsOf 498 = .ok (.aload_n 0, 1) := by decide +kernel
theorem dX13_formsOf_499 : decode cX13_formsOf 499 = .ok (.aload_n 0, 1) := by decide +kernel
theorem dX13_formsOf_500 : decode cX13_formsOf 500 = .ok (.getfield 44, 3) := by decide +kernel
theorem dX13_formsOf_503 : decode cX13_formsOf 503 = .ok (.iload_n 1, 1) := by decide +kernel
theorem dX13_formsOf_504 : decode cX13_formsOf 504 = .ok (.iaload, 1) := by decide +kernel
theorem dX13_formsOf_505 : decode cX13_formsOf 505 = .ok (.iload_n 2, 1) := by decide +kernel
theorem dX13_formsOf_506 : decode cX13_formsOf 506 = .ok (.invokevirtual 744, 3) := by decide +kernel
theorem dX13_formsOf_509 : decode cX13_formsOf 509 = .ok (.goto 3, 3) := by decide +kernel
theorem dX13_formsOf_512 : decode cX13_formsOf 512 = .ok (.return_, 1) := by decide +kernel
theorem dX13_compile_23 : decode cX13_compile 23 = .ok (.aload_n 0, 1) := by decide +kernel
theorem dX13_compile_24 : decode cX13_compile 24 = .ok (.getfield 13, 3) := by decide +kernel
theorem dX13_compile_27 : decode cX13_compile 27 = .ok (.iload_n 1, 1) := by decide +kernel
theorem dX13_compile_28 : decode cX13_compile 28 = .ok (.aload_n 0, 1) := by decide +kernel
theorem dX13_compile_29 : decode cX13_compile 29 = .ok (.getfield 9, 3) := by decide +kernel
theorem dX13_compile_32 : decode cX13_compile 32 = .ok (.iload_n 1, 1) := by decide +kernel
theorem dX13_compile_33 : decode cX13_compile 33 = .ok (.baload, 1) := by decide +kernel
theorem dX13_compile_34 : decode cX13_compile 34 = .ok (.bastore, 1) := by decide +kernel
theorem dX13_compile_35 : decode cX13_compile 35 = .ok (.iinc 1 1, 3) := by decide +kernel
theorem dX13_compile_38 : decode cX13_compile 38 = .ok (.goto (-23), 3) := by decide +kernel
theorem dX13_compile_88 : decode cX13_compile 88 = .ok (.aload_n 0, 1) := by decide +kernel
theorem dX13_compile_89 : decode cX13_compile 89 = .ok (.invokevirtual 766, 3) := by decide +kernel
theorem dX13_compile_112 : decode cX13_compile 112 = .ok (.aload_n 0, 1) := by decide +kernel
theorem dX13_compile_113 : decode cX13_compile 113 = .ok (.iconst 1, 1) := by decide +kernel
theorem dX13_compile_114 : decode cX13_compile 114 = .ok (.putfield 750, 3) := by decide +kernel
theorem dX13_compile_117 : decode cX13_compile 117 = .ok (.iconst 0, 1) := by decide +kernel
theorem dX13_compile_118 : decode cX13_compile 118 = .ok (.istore_n 1, 1) := by decide +kernel
theorem dX13_compile_119 : decode cX13_compile 119 = .ok (.iload_n 1, 1) := by decide +kernel
theorem dX13_compile_120 : decode cX13_compile 120 = .ok (.bipush 6, 2) := by decide +kernel
theorem dX13_compile_122 : decode cX13_compile 122 = .ok (.if_icmp .ge 44, 3) := by decide +kernel
theorem dX13_compile_125 : decode cX13_compile 125 = .ok (.aload_n 0, 1) := by decide +kernel
theorem dX13_compile_126 : decode cX13_compile 126 = .ok (.getfield 327, 3) := by decide +kernel
theorem dX13_compile_129 : decode cX13_compile 129 = .ok (.iload_n 1, 1) := by decide +kernel
theorem dX13_compile_130 : decode cX13_compile 130 = .ok (.lconst 0, 1) := by decide +kernel
theorem dX13_compile_131 : decode cX13_compile 131 = .ok (.lastore, 1) := by decide +kernel
theorem dX13_compile_132 : decode cX13_compile 132 = .ok (.iconst 0, 1) := by decide +kernel
theorem dX13_compile_133 : decode cX13_compile 133 = .ok (.istore_n 2, 1) := by decide +kernel
theorem dX13_compile_134 : decode cX13_compile 134 = .ok (.iload_n 2, 1) := by decide +kernel
theorem dX13_compile_135 : decode cX13_compile 135 = .ok (.sipush 1000, 3) := by decide +kernel
theorem dX13_compile_138 : decode cX13_compile 138 = .ok (.if_icmp .ge 22, 3) := by decide +kernel
theorem dX13_compile_141 : decode cX13_compile 141 = .ok (.aload_n 0, 1) := by decide +kernel
theorem dX13_compile_142 : decode cX13_compile 142 = .ok (.getfield 330, 3) := by decide +kernel
theorem dX13_compile_145 : decode cX13_compile 145 = .ok (.sipush 1000, 3) := by decide +kernel
theorem dX13_compile_148 : decode cX13_compile 148 = .ok (.iload_n 1, 1) := by decide +kernel
theorem dX13_compile_149 : decode cX13_compile 149 = .ok (.imul, 1) := by decide +kernel
theorem dX13_compile_150 : decode cX13_compile 150 = .ok (.iload_n 2, 1) := by decide +kernel
theorem dX13_compile_151 : decode cX13_compile 151 = .ok (.iadd, 1) := by decide +kernel
theorem dX13_compile_152 : decode cX13_compile 152 = .ok (.lconst 0, 1) := by decide +kernel
theorem dX13_compile_153 : decode cX13_compile 153 = .ok (.lastore, 1) := by decide +kernel
theorem dX13_compile_154 : decode cX13_compile 154 = .ok (.iinc 2 1, 3) := by decide +kernel
theorem dX13_compile_157 : decode cX13_compile 157 = .ok (.goto (-23), 3) := by decide +kernel
theorem dX13_compile_160 : decode cX13_compile 160 = .ok (.iinc 1 1, 3) := by decide +kernel
theorem dX13_compile_163 : decode cX13_compile 163 = .ok (.goto (-44), 3) := by decide +kernel
theorem dX13_compile_166 : decode cX13_compile 166 = .ok (.iconst 0, 1) := by decide +kernel
theorem dX13_compile_167 : decode cX13_compile 167 = .ok (.ireturn, 1) := by decide +kernel
theorem dX13_check_0 : decode cX13_check 0 = .ok (.aload_n 0, 1) := by decide +kernel
theorem dX13_check_1 : decode cX13_check 1 = .ok (.iconst 0, 1) := by decide +kernel
theorem dX13_check_2 : decode cX13_check 2 = .ok (.putfield 627, 3) := by decide +kernel
theorem dX13_check_5 : decode cX13_check 5 = .ok (.aload_n 0, 1) := by decide +kernel
theorem dX13_check_6 : decode cX13_check 6 = .ok (.iconst 0, 1) := by decide +kernel
theorem dX13_check_7 : decode cX13_check 7 = .ok (.putfield 630, 3) := by decide +kernel
theorem dX13_check_10 : decode cX13_check 10 = .ok (.aload_n 0, 1) := by decide +kernel
theorem dX13_check_11 : decode cX13_check 11 = .ok (.iconst (-1), 1) := by decide +kernel
theorem dX13_check_12 : decode cX13_check 12 = .ok (.putfield 624, 3) := by decide +kernel
theorem dX13_check_15 : decode cX13_check 15 = .ok (.aload_n 0, 1) := by decide +kernel
theorem dX13_check_16 : decode cX13_check 16 = .ok (.iconst 0, 1) := by decide +kernel
theorem dX13_check_17 : decode cX13_check 17 = .ok (.putfield 661, 3) := by decide +kernel
theorem dX13_check_20 : decode cX13_check 20 = .ok (.iconst 0, 1) := by decide +kernel
theorem dX13_check_21 : decode cX13_check 21 = .ok (.istore_n 1, 1) := by decide +kernel
theorem dX13_check_22 : decode cX13_check 22 = .ok (.iload_n 1, 1) := by decide +kernel
theorem dX13_check_23 : decode cX13_check 23 = .ok (.aload_n 0, 1) := by decide +kernel
theorem dX13_check_24 : decode cX13_check 24 = .ok (.getfield 481, 3) := by decide +kernel
theorem dX13_check_27 : decode cX13_check 27 = .ok (.if_icmp .ge 23, 3) := by decide +kernel
theorem dX13_check_30 : decode cX13_check 30 = .ok (.aload_n 0, 1) := by decide +kernel
theorem dX13_check_31 : decode cX13_check 31 = .ok (.aload_n 0, 1) := by decide +kernel
theorem dX13_check_32 : decode cX13_check 32 = .ok (.aload_n 0, 1) := by decide +kernel
theorem dX13_check_33 : decode cX13_check 33 = .ok (.getfield 92, 3) := by decide +kernel
theorem dX13_check_36 : decode cX13_check 36 = .ok (.iload_n 1, 1) := by decide +kernel
theorem dX13_check_37 : decode cX13_check 37 = .ok (.iaload, 1) := by decide +kernel
theorem dX13_check_38 : decode cX13_check 38 = .ok (.invokevirtual 649, 3) := by decide +kernel
theorem dX13_check_41 : decode cX13_check 41 = .ok (.invokevirtual 655, 3) := by decide +kernel
theorem dX13_check_44 : decode cX13_check 44 = .ok (.iinc 1 1, 3) := by decide +kernel
theorem dX13_check_47 : decode cX13_check 47 = .ok (.goto (-25), 3) := by decide +kernel
theorem dX13_check_50 : decode cX13_check 50 = .ok (.aload_n 0, 1) := by decide +kernel
theorem dX13_check_51 : decode cX13_check 51 = .ok (.aload_n 0, 1) := by decide +kernel
theorem dX13_check_52 : decode cX13_check 52 = .ok (.getfield 527, 3) := by decide +kernel
theorem dX13_check_55 : decode cX13_check 55 = .ok (.invokevirtual 652, 3) := by decide +kernel
theorem dX13_check_58 : decode cX13_check 58 = .ok (.aload_n 0, 1) := by decide +kernel
theorem dX13_check_59 : decode cX13_check 59 = .ok (.getfield 624, 3) := by decide +kernel
theorem dX13_check_62 : decode cX13_check 62 = .ok (.ifCond .lt 13, 3) := by decide +kernel
theorem dX13_check_65 : decode cX13_check 65 = .ok (.aload_n 0, 1) := by decide +kernel
theorem dX13_check_66 : decode cX13_check 66 = .ok (.iconst 3, 1) := by decide +kernel
theorem dX13_check_67 : decode cX13_check 67 = .ok (.aload_n 0, 1) := by decide +kernel
theorem dX13_check_68 : decode cX13_check 68 = .ok (.getfield 624, 3) := by decide +kernel
theorem dX13_check_71 : decode cX13_check 71 = .ok (.invokevirtual 422, 3) := by decide +kernel
theorem dX13_check_74 : decode cX13_check 74 = .ok (.return_, 1) := by decide +kernel
theorem dX13_check_75 : decode cX13_check 75 = .ok (.iconst 0, 1) := by decide +kernel
theorem dX13_check_76 : decode cX13_check 76 = .ok (.istore_n 1, 1) := by decide +kernel
theorem dX13_check_77 : decode cX13_check 77 = .ok (.iload_n 1, 1) := by decide +kernel
theorem dX13_check_78 : decode cX13_check 78 = .ok (.aload_n 0, 1) := by decide +kernel
theorem dX13_check_79 : decode cX13_check 79 = .ok (.getfield 481, 3) := by decide +kernel
theorem dX13_check_82 : decode cX13_check 82 = .ok (.if_icmp .ge 49, 3) := by decide +kernel
theorem dX13_check_85 : decode cX13_check 85 = .ok (.aload_n 0, 1) := by decide +kernel
theorem dX13_check_86 : decode cX13_check 86 = .ok (.getfield 104, 3) := by decide +kernel
theorem dX13_check_89 : decode cX13_check 89 = .ok (.iload_n 1, 1) := by decide +kernel
theorem dX13_check_90 : decode cX13_check 90 = .ok (.aload_n 0, 1) := by decide +kernel
theorem dX13_check_91 : decode cX13_check 91 = .ok (.aload_n 0, 1) := by decide +kernel
theorem dX13_check_92 : decode cX13_check 92 = .ok (.getfield 95, 3) := by decide +kernel
theorem dX13_check_95 : decode cX13_check 95 = .ok (.iload_n 1, 1) := by decide +kernel
theorem dX13_check_96 : decode cX13_check 96 = .ok (.iaload, 1) := by decide +kernel
theorem dX13_check_97 : decode cX13_check 97 = .ok (.ifCond .ne 7, 3) := by decide +kernel
theorem dX13_check_100 : decode cX13_check 100 = .ok (.iconst 1, 1) := by decide +kernel
theorem dX13_check_101 : decode cX13_check 101 = .ok (.goto 18, 3) := by decide +kernel
theorem dX13_check_104 : decode cX13_check 104 = .ok (.aload_n 0, 1) := by decide +kernel
theorem dX13_check_105 : decode cX13_check 105 = .ok (.getfield 95, 3) := by decide +kernel
theorem dX13_check_108 : decode cX13_check 108 = .ok (.iload_n 1, 1) := by decide +kernel
theorem dX13_check_109 : decode cX13_check 109 = .ok (.iaload, 1) := by decide +kernel
theorem dX13_check_110 : decode cX13_check 110 = .ok (.iconst 1, 1) := by decide +kernel
theorem dX13_check_111 : decode cX13_check 111 = .ok (.if_icmp .ne 7, 3) := by decide +kernel
theorem dX13_check_114 : decode cX13_check 114 = .ok (.iconst 2, 1) := by decide +kernel
theorem dX13_check_115 : decode cX13_check 115 = .ok (.goto 4, 3) := by decide +kernel
theorem dX13_check_118 : decode cX13_check 118 = .ok (.iconst 3, 1) := by decide +kernel
theorem dX13_check_119 : decode cX13_check 119 = .ok (.iconst (-1), 1) := by decide +kernel
theorem dX13_check_120 : decode cX13_check 120 = .ok (.iconst (-1), 1) := by decide +kernel
theorem dX13_check_121 : decode cX13_check 121 = .ok (.invokevirtual 664, 3) := by decide +kernel
theorem dX13_check_124 : decode cX13_check 124 = .ok (.iastore, 1) := by decide +kernel
theorem dX13_check_125 : decode cX13_check 125 = .ok (.iinc 1 1, 3) := by decide +kernel
theorem dX13_check_128 : decode cX13_check 128 = .ok (.goto (-51), 3) := by decide +kernel
theorem dX13_check_131 : decode cX13_check 131 = .ok (.aload_n 0, 1) := by decide +kernel
theorem dX13_check_132 : decode cX13_check 132 = .ok (.aload_n 0, 1) := by decide +kernel
theorem dX13_check_133 : decode cX13_check 133 = .ok (.getfield 527, 3) := by decide +kernel
theorem dX13_check_136 : decode cX13_check 136 = .ok (.invokevirtual 692, 3) := by decide +kernel
theorem dX13_check_139 : decode cX13_check 139 = .ok (.pop, 1) := by decide +kernel
theorem dX13_check_140 : decode cX13_check 140 = .ok (.aload_n 0, 1) := by decide +kernel
theorem dX13_check_141 : decode cX13_check 141 = .ok (.getfield 392, 3) := by decide +kernel
theorem dX13_check_144 : decode cX13_check 144 = .ok (.ifCond .eq 4, 3) := by decide +kernel
theorem dX13_check_147 : decode cX13_check 147 = .ok (.return_, 1) := by decide +kernel
theorem dX13_check_148 : decode cX13_check 148 = .ok (.aload_n 0, 1) := by decide +kernel
theorem dX13_check_149 : decode cX13_check 149 = .ok (.iconst 0, 1) := by decide +kernel
theorem dX13_check_150 : decode cX13_check 150 = .ok (.putfield 738, 3) := by decide +kernel
theorem dX13_check_153 : decode cX13_check 153 = .ok (.aload_n 0, 1) := by decide +kernel
theorem dX13_check_154 : decode cX13_check 154 = .ok (.aload_n 0, 1) := by decide +kernel
theorem dX13_check_155 : decode cX13_check 155 = .ok (.getfield 527, 3) := by decide +kernel
theorem dX13_check_158 : decode cX13_check 158 = .ok (.iconst 0, 1) := by decide +kernel
theorem dX13_check_159 : decode cX13_check 159 = .ok (.invokevirtual 744, 3) := by decide +kernel
theorem dX13_check_162 : decode cX13_check 162 = .ok (.aload_n 0, 1) := by decide +kernel
theorem dX13_check_163 : decode cX13_check 163 = .ok (.getfield 624, 3) := by decide +kernel
theorem dX13_check_166 : decode cX13_check 166 = .ok (.ifCond .lt 12, 3) := by decide +kernel
theorem dX13_check_169 : decode cX13_check 169 = .ok (.aload_n 0, 1) := by decide +kernel
theorem dX13_check_170 : decode cX13_check 170 = .ok (.iconst 5, 1) := by decide +kernel
theorem dX13_check_171 : decode cX13_check 171 = .ok (.aload_n 0, 1) := by decide +kernel
theorem dX13_check_172 : decode cX13_check 172 = .ok (.getfield 624, 3) := by decide +kernel
theorem dX13_check_175 : decode cX13_check 175 = .ok (.invokevirtual 422, 3) := by decide +kernel
theorem dX13_check_178 : decode cX13_check 178 = .ok (.return_, 1) := by decide +kernel
theorem dX13_isSum_0 : decode cX13_isSum 0 = .ok (.aload_n 0, 1) := by decide +kernel
theorem dX13_isSum_1 : decode cX13_isSum 1 = .ok (.iload_n 1, 1) := by decide +kernel
theorem dX13_isSum_2 : decode cX13_isSum 2 = .ok (.invokevirtual 747, 3) := by decide +kernel
theorem dX13_isSum_5 : decode cX13_isSum 5 = .ok (.ifCond .eq 50, 3) := by decide +kernel
theorem dX13_isSum_8 : decode cX13_isSum 8 = .ok (.aload_n 0, 1) := by decide +kernel
theorem dX13_isSum_9 : decode cX13_isSum 9 = .ok (.getfield 704, 3) := by decide +kernel
theorem dX13_isSum_12 : decode cX13_isSum 12 = .ok (.ifCond .ne 18, 3) := by decide +kernel
theorem dX13_isSum_15 : decode cX13_isSum 15 = .ok (.aload_n 0, 1) := by decide +kernel
theorem dX13_isSum_16 : decode cX13_isSum 16 = .ok (.iconst 0, 1) := by decide +kernel
theorem dX13_isSum_17 : decode cX13_isSum 17 = .ok (.iconst (-1), 1) := by decide +kernel
theorem dX13_isSum_18 : decode cX13_isSum 18 = .ok (.iconst 0, 1) := by decide +kernel
theorem dX13_isSum_19 : decode cX13_isSum 19 = .ok (.aload_n 0, 1) := by decide +kernel
theorem dX13_isSum_20 : decode cX13_isSum 20 = .ok (.getfield 707, 3) := by decide +kernel
theorem dX13_isSum_23 : decode cX13_isSum 23 = .ok (.iconst (-1), 1) := by decide +kernel
theorem dX13_isSum_24 : decode cX13_isSum 24 = .ok (.invokevirtual 778, 3) := by decide +kernel
theorem dX13_isSum_27 : decode cX13_isSum 27 = .ok (.goto 29, 3) := by decide +kernel
theorem dX13_isSum_30 : decode cX13_isSum 30 = .ok (.aload_n 0, 1) := by decide +kernel
theorem dX13_isSum_31 : decode cX13_isSum 31 = .ok (.iconst 0, 1) := by decide +kernel
theorem dX13_isSum_32 : decode cX13_isSum 32 = .ok (.aload_n 0, 1) := by decide +kernel
theorem dX13_isSum_33 : decode cX13_isSum 33 = .ok (.getfield 131, 3) := by decide +kernel
theorem dX13_isSum_36 : decode cX13_isSum 36 = .ok (.iconst 0, 1) := by decide +kernel
theorem dX13_isSum_37 : decode cX13_isSum 37 = .ok (.iaload, 1) := by decide +kernel
theorem dX13_isSum_38 : decode cX13_isSum 38 = .ok (.aload_n 0, 1) := by decide +kernel
theorem dX13_isSum_39 : decode cX13_isSum 39 = .ok (.getfield 134, 3) := by decide +kernel
theorem dX13_isSum_42 : decode cX13_isSum 42 = .ok (.iconst 0, 1) := by decide +kernel
theorem dX13_isSum_43 : decode cX13_isSum 43 = .ok (.iaload, 1) := by decide +kernel
theorem dX13_isSum_44 : decode cX13_isSum 44 = .ok (.aload_n 0, 1) := by decide +kernel
theorem dX13_isSum_45 : decode cX13_isSum 45 = .ok (.getfield 707, 3) := by decide +kernel
theorem dX13_isSum_48 : decode cX13_isSum 48 = .ok (.iconst (-1), 1) := by decide +kernel
theorem dX13_isSum_49 : decode cX13_isSum 49 = .ok (.invokevirtual 778, 3) := by decide +kernel
theorem dX13_isSum_52 : decode cX13_isSum 52 = .ok (.goto 4, 3) := by decide +kernel
theorem dX13_isSum_55 : decode cX13_isSum 55 = .ok (.iconst (-1), 1) := by decide +kernel
theorem dX13_isSum_56 : decode cX13_isSum 56 = .ok (.ireturn, 1) := by decide +kernel
theorem dX13_namesAt_0 : decode cX13_namesAt 0 = .ok (.iconst 0, 1) := by decide +kernel
theorem dX13_namesAt_1 : decode cX13_namesAt 1 = .ok (.istore_n 2, 1) := by decide +kernel
theorem dX13_namesAt_2 : decode cX13_namesAt 2 = .ok (.iload_n 1, 1) := by decide +kernel
theorem dX13_namesAt_3 : decode cX13_namesAt 3 = .ok (.istore_n 3, 1) := by decide +kernel
theorem dX13_namesAt_4 : decode cX13_namesAt 4 = .ok (.iload_n 3, 1) := by decide +kernel
theorem dX13_namesAt_5 : decode cX13_namesAt 5 = .ok (.ifCond .lt 48, 3) := by decide +kernel
theorem dX13_namesAt_8 : decode cX13_namesAt 8 = .ok (.aload_n 0, 1) := by decide +kernel
theorem dX13_namesAt_9 : decode cX13_namesAt 9 = .ok (.getfield 142, 3) := by decide +kernel
theorem dX13_namesAt_12 : decode cX13_namesAt 12 = .ok (.aload_n 0, 1) := by decide +kernel
theorem dX13_namesAt_13 : decode cX13_namesAt 13 = .ok (.getfield 225, 3) := by decide +kernel
theorem dX13_namesAt_16 : decode cX13_namesAt 16 = .ok (.iload_n 3, 1) := by decide +kernel
theorem dX13_namesAt_17 : decode cX13_namesAt 17 = .ok (.iaload, 1) := by decide +kernel
theorem dX13_namesAt_18 : decode cX13_namesAt 18 = .ok (.iaload, 1) := by decide +kernel
theorem dX13_namesAt_19 : decode cX13_namesAt 19 = .ok (.invokestatic 782, 3) := by decide +kernel
theorem dX13_namesAt_22 : decode cX13_namesAt 22 = .ok (.ifCond .ne 6, 3) := by decide +kernel
theorem dX13_namesAt_25 : decode cX13_namesAt 25 = .ok (.goto 18, 3) := by decide +kernel
theorem dX13_namesAt_28 : decode cX13_namesAt 28 = .ok (.aload_n 0, 1) := by decide +kernel
theorem dX13_namesAt_29 : decode cX13_namesAt 29 = .ok (.getfield 276, 3) := by decide +kernel
theorem dX13_namesAt_32 : decode cX13_namesAt 32 = .ok (.iload_n 2, 1) := by decide +kernel
theorem dX13_namesAt_33 : decode cX13_namesAt 33 = .ok (.aload_n 0, 1) := by decide +kernel
theorem dX13_namesAt_34 : decode cX13_namesAt 34 = .ok (.getfield 222, 3) := by decide +kernel
theorem dX13_namesAt_37 : decode cX13_namesAt 37 = .ok (.iload_n 3, 1) := by decide +kernel
theorem dX13_namesAt_38 : decode cX13_namesAt 38 = .ok (.iaload, 1) := by decide +kernel
theorem dX13_namesAt_39 : decode cX13_namesAt 39 = .ok (.iastore, 1) := by decide +kernel
theorem dX13_namesAt_40 : decode cX13_namesAt 40 = .ok (.iinc 2 1, 3) := by decide +kernel
theorem dX13_namesAt_43 : decode cX13_namesAt 43 = .ok (.aload_n 0, 1) := by decide +kernel
theorem dX13_namesAt_44 : decode cX13_namesAt 44 = .ok (.getfield 228, 3) := by decide +kernel
theorem dX13_namesAt_47 : decode cX13_namesAt 47 = .ok (.iload_n 3, 1) := by decide +kernel
theorem dX13_namesAt_48 : decode cX13_namesAt 48 = .ok (.iaload, 1) := by decide +kernel
theorem dX13_namesAt_49 : decode cX13_namesAt 49 = .ok (.istore_n 3, 1) := by decide +kernel
theorem dX13_namesAt_50 : decode cX13_namesAt 50 = .ok (.goto (-46), 3) := by decide +kernel
theorem dX13_namesAt_53 : decode cX13_namesAt 53 = .ok (.iconst 0, 1) := by decide +kernel
theorem dX13_namesAt_54 : decode cX13_namesAt 54 = .ok (.istore_n 3, 1) := by decide +kernel
theorem dX13_namesAt_55 : decode cX13_namesAt 55 = .ok (.iload_n 3, 1) := by decide +kernel
theorem dX13_namesAt_56 : decode cX13_namesAt 56 = .ok (.iload_n 2, 1) := by decide +kernel
theorem dX13_namesAt_57 : decode cX13_namesAt 57 = .ok (.if_icmp .ge 25, 3) := by decide +kernel
theorem dX13_namesAt_60 : decode cX13_namesAt 60 = .ok (.aload_n 0, 1) := by decide +kernel
theorem dX13_namesAt_61 : decode cX13_namesAt 61 = .ok (.getfield 273, 3) := by decide +kernel
theorem dX13_namesAt_64 : decode cX13_namesAt 64 = .ok (.iload_n 3, 1) := by decide +kernel
theorem dX13_namesAt_65 : decode cX13_namesAt 65 = .ok (.aload_n 0, 1) := by decide +kernel
theorem dX13_namesAt_66 : decode cX13_namesAt 66 = .ok (.getfield 276, 3) := by decide +kernel
theorem dX13_namesAt_69 : decode cX13_namesAt 69 = .ok (.iload_n 2, 1) := by decide +kernel
theorem dX13_namesAt_70 : decode cX13_namesAt 70 = .ok (.iconst 1, 1) := by decide +kernel
theorem dX13_namesAt_71 : decode cX13_namesAt 71 = .ok (.isub, 1) := by decide +kernel
theorem dX13_namesAt_72 : decode cX13_namesAt 72 = .ok (.iload_n 3, 1) := by decide +kernel
theorem dX13_namesAt_73 : decode cX13_namesAt 73 = .ok (.isub, 1) := by decide +kernel
theorem dX13_namesAt_74 : decode cX13_namesAt 74 = .ok (.iaload, 1) := by decide +kernel
theorem dX13_namesAt_75 : decode cX13_namesAt 75 = .ok (.iastore, 1) := by decide +kernel
theorem dX13_namesAt_76 : decode cX13_namesAt 76 = .ok (.iinc 3 1, 3) := by decide +kernel
theorem dX13_namesAt_79 : decode cX13_namesAt 79 = .ok (.goto (-24), 3) := by decide +kernel
theorem dX13_namesAt_82 : decode cX13_namesAt 82 = .ok (.aload_n 0, 1) := by decide +kernel
theorem dX13_namesAt_83 : decode cX13_namesAt 83 = .ok (.iload_n 2, 1) := by decide +kernel
theorem dX13_namesAt_84 : decode cX13_namesAt 84 = .ok (.putfield 797, 3) := by decide +kernel
theorem dX13_namesAt_87 : decode cX13_namesAt 87 = .ok (.return_, 1) := by decide +kernel
theorem dX13_template_0 : decode cX13_template 0 = .ok (.aload_n 0, 1) := by decide +kernel
theorem dX13_template_1 : decode cX13_template 1 = .ok (.iload_n 1, 1) := by decide +kernel
theorem dX13_template_2 : decode cX13_template 2 = .ok (.invokevirtual 668, 3) := by decide +kernel
theorem dX13_template_5 : decode cX13_template 5 = .ok (.istore 4, 2) := by decide +kernel
theorem dX13_template_7 : decode cX13_template 7 = .ok (.aload_n 0, 1) := by decide +kernel
theorem dX13_template_8 : decode cX13_template 8 = .ok (.iload 4, 2) := by decide +kernel
theorem dX13_template_10 : decode cX13_template 10 = .ok (.invokevirtual 732, 3) := by decide +kernel
theorem dX13_template_13 : decode cX13_template 13 = .ok (.istore 5, 2) := by decide +kernel
theorem dX13_template_15 : decode cX13_template 15 = .ok (.iload 5, 2) := by decide +kernel
theorem dX13_template_17 : decode cX13_template 17 = .ok (.iconst 2, 1) := by decide +kernel
theorem dX13_template_18 : decode cX13_template 18 = .ok (.if_icmp .ne 9, 3) := by decide +kernel
theorem dX13_template_21 : decode cX13_template 21 = .ok (.aload_n 0, 1) := by decide +kernel
theorem dX13_template_22 : decode cX13_template 22 = .ok (.iconst 2, 1) := by decide +kernel
theorem dX13_template_23 : decode cX13_template 23 = .ok (.invokevirtual 800, 3) := by decide +kernel
theorem dX13_template_26 : decode cX13_template 26 = .ok (.ireturn, 1) := by decide +kernel
theorem dX13_template_27 : decode cX13_template 27 = .ok (.iload 5, 2) := by decide +kernel
theorem dX13_template_29 : decode cX13_template 29 = .ok (.iconst 4, 1) := by decide +kernel
theorem dX13_template_30 : decode cX13_template 30 = .ok (.if_icmp .ne 205, 3) := by decide +kernel
theorem dX13_template_33 : decode cX13_template 33 = .ok (.iload_n 3, 1) := by decide +kernel
theorem dX13_template_34 : decode cX13_template 34 = .ok (.ifCond .le 12, 3) := by decide +kernel
theorem dX13_template_37 : decode cX13_template 37 = .ok (.aload_n 0, 1) := by decide +kernel
theorem dX13_template_38 : decode cX13_template 38 = .ok (.getfield 107, 3) := by decide +kernel
theorem dX13_template_41 : decode cX13_template 41 = .ok (.iload_n 2, 1) := by decide +kernel
theorem dX13_template_42 : decode cX13_template 42 = .ok (.iaload, 1) := by decide +kernel
theorem dX13_template_43 : decode cX13_template 43 = .ok (.goto 11, 3) := by decide +kernel
theorem dX13_template_46 : decode cX13_template 46 = .ok (.sipush 700, 3) := by decide +kernel
theorem dX13_template_49 : decode cX13_template 49 = .ok (.aload_n 0, 1) := by decide +kernel
theorem dX13_template_50 : decode cX13_template 50 = .ok (.getfield 803, 3) := by decide +kernel
theorem dX13_template_53 : decode cX13_template 53 = .ok (.iadd, 1) := by decide +kernel
theorem dX13_template_54 : decode cX13_template 54 = .ok (.istore 6, 2) := by decide +kernel
theorem dX13_template_56 : decode cX13_template 56 = .ok (.iload_n 3, 1) := by decide +kernel
theorem dX13_template_57 : decode cX13_template 57 = .ok (.ifCond .ne 13, 3) := by decide +kernel
theorem dX13_template_60 : decode cX13_template 60 = .ok (.aload_n 0, 1) := by decide +kernel
theorem dX13_template_61 : decode cX13_template 61 = .ok (.dup, 1) := by decide +kernel
theorem dX13_template_62 : decode cX13_template 62 = .ok (.getfield 803, 3) := by decide +kernel
theorem dX13_template_65 : decode cX13_template 65 = .ok (.iconst 1, 1) := by decide +kernel
theorem dX13_template_66 : decode cX13_template 66 = .ok (.iadd, 1) := by decide +kernel
theorem dX13_template_67 : decode cX13_template 67 = .ok (.putfield 803, 3) := by decide +kernel
theorem dX13_template_70 : decode cX13_template 70 = .ok (.aload_n 0, 1) := by decide +kernel
theorem dX13_template_71 : decode cX13_template 71 = .ok (.aload_n 0, 1) := by decide +kernel
theorem dX13_template_72 : decode cX13_template 72 = .ok (.getfield 116, 3) := by decide +kernel
theorem dX13_template_75 : decode cX13_template 75 = .ok (.iload 4, 2) := by decide +kernel
theorem dX13_template_77 : decode cX13_template 77 = .ok (.iaload, 1) := by decide +kernel
theorem dX13_template_78 : decode cX13_template 78 = .ok (.iconst (-1), 1) := by decide +kernel
theorem dX13_template_79 : decode cX13_template 79 = .ok (.iconst 0, 1) := by decide +kernel
theorem dX13_template_80 : decode cX13_template 80 = .ok (.invokevirtual 806, 3) := by decide +kernel
theorem dX13_template_83 : decode cX13_template 83 = .ok (.istore 7, 2) := by decide +kernel
theorem dX13_template_85 : decode cX13_template 85 = .ok (.aload_n 0, 1) := by decide +kernel
theorem dX13_template_86 : decode cX13_template 86 = .ok (.getfield 142, 3) := by decide +kernel
theorem dX13_template_89 : decode cX13_template 89 = .ok (.iload 7, 2) := by decide +kernel
theorem dX13_template_91 : decode cX13_template 91 = .ok (.iaload, 1) := by decide +kernel
theorem dX13_template_92 : decode cX13_template 92 = .ok (.invokestatic 782, 3) := by decide +kernel
theorem dX13_template_95 : decode cX13_template 95 = .ok (.istore 8, 2) := by decide +kernel
theorem dX13_template_97 : decode cX13_template 97 = .ok (.aload_n 0, 1) := by decide +kernel
theorem dX13_template_98 : decode cX13_template 98 = .ok (.getfield 216, 3) := by decide +kernel
theorem dX13_template_101 : decode cX13_template 101 = .ok (.iload 6, 2) := by decide +kernel
theorem dX13_template_103 : decode cX13_template 103 = .ok (.aload_n 0, 1) := by decide +kernel
theorem dX13_template_104 : decode cX13_template 104 = .ok (.getfield 142, 3) := by decide +kernel
theorem dX13_template_107 : decode cX13_template 107 = .ok (.iload 7, 2) := by decide +kernel
theorem dX13_template_109 : decode cX13_template 109 = .ok (.iaload, 1) := by decide +kernel
theorem dX13_template_110 : decode cX13_template 110 = .ok (.iconst 3, 1) := by decide +kernel
theorem dX13_template_111 : decode cX13_template 111 = .ok (.if_icmp .eq 14, 3) := by decide +kernel
theorem dX13_template_114 : decode cX13_template 114 = .ok (.aload_n 0, 1) := by decide +kernel
theorem dX13_template_115 : decode cX13_template 115 = .ok (.getfield 142, 3) := by decide +kernel
theorem dX13_template_118 : decode cX13_template 118 = .ok (.iload 7, 2) := by decide +kernel
theorem dX13_template_120 : decode cX13_template 120 = .ok (.iaload, 1) := by decide +kernel
theorem dX13_template_121 : decode cX13_template 121 = .ok (.iconst 5, 1) := by decide +kernel
theorem dX13_template_122 : decode cX13_template 122 = .ok (.if_icmp .ne 7, 3) := by decide +kernel
theorem dX13_template_125 : decode cX13_template 125 = .ok (.iconst 1, 1) := by decide +kernel
theorem dX13_template_126 : decode cX13_template 126 = .ok (.goto 4, 3) := by decide +kernel
theorem dX13_template_129 : decode cX13_template 129 = .ok (.iconst 0, 1) := by decide +kernel
theorem dX13_template_130 : decode cX13_template 130 = .ok (.bastore, 1) := by decide +kernel
theorem dX13_template_131 : decode cX13_template 131 = .ok (.aload_n 0, 1) := by decide +kernel
theorem dX13_template_132 : decode cX13_template 132 = .ok (.getfield 219, 3) := by decide +kernel
theorem dX13_template_135 : decode cX13_template 135 = .ok (.iload 6, 2) := by decide +kernel
theorem dX13_template_137 : decode cX13_template 137 = .ok (.aload_n 0, 1) := by decide +kernel
theorem dX13_template_138 : decode cX13_template 138 = .ok (.getfield 142, 3) := by decide +kernel
theorem dX13_template_141 : decode cX13_template 141 = .ok (.iload 7, 2) := by decide +kernel
theorem dX13_template_143 : decode cX13_template 143 = .ok (.iaload, 1) := by decide +kernel
theorem dX13_template_144 : decode cX13_template 144 = .ok (.iconst 5, 1) := by decide +kernel
theorem dX13_template_145 : decode cX13_template 145 = .ok (.if_icmp .ne 7, 3) := by decide +kernel
theorem dX13_template_148 : decode cX13_template 148 = .ok (.iconst 1, 1) := by decide +kernel
theorem dX13_template_149 : decode cX13_template 149 = .ok (.goto 4, 3) := by decide +kernel
theorem dX13_template_152 : decode cX13_template 152 = .ok (.iconst 0, 1) := by decide +kernel
theorem dX13_template_153 : decode cX13_template 153 = .ok (.bastore, 1) := by decide +kernel
theorem dX13_template_154 : decode cX13_template 154 = .ok (.iload 8, 2) := by decide +kernel
theorem dX13_template_156 : decode cX13_template 156 = .ok (.ifCond .eq 24, 3) := by decide +kernel
theorem dX13_template_159 : decode cX13_template 159 = .ok (.aload_n 0, 1) := by decide +kernel
theorem dX13_template_160 : decode cX13_template 160 = .ok (.getfield 273, 3) := by decide +kernel
theorem dX13_template_163 : decode cX13_template 163 = .ok (.aload_n 0, 1) := by decide +kernel
theorem dX13_template_164 : decode cX13_template 164 = .ok (.getfield 797, 3) := by decide +kernel
theorem dX13_template_167 : decode cX13_template 167 = .ok (.iload 6, 2) := by decide +kernel
theorem dX13_template_169 : decode cX13_template 169 = .ok (.iastore, 1) := by decide +kernel
theorem dX13_template_170 : decode cX13_template 170 = .ok (.aload_n 0, 1) := by decide +kernel
theorem dX13_template_171 : decode cX13_template 171 = .ok (.dup, 1) := by decide +kernel
theorem dX13_template_172 : decode cX13_template 172 = .ok (.getfield 797, 3) := by decide +kernel
theorem dX13_template_175 : decode cX13_template 175 = .ok (.iconst 1, 1) := by decide +kernel
theorem dX13_template_176 : decode cX13_template 176 = .ok (.iadd, 1) := by decide +kernel
theorem dX13_template_177 : decode cX13_template 177 = .ok (.putfield 797, 3) := by decide +kernel
theorem dX13_template_180 : decode cX13_template 180 = .ok (.aload_n 0, 1) := by decide +kernel
theorem dX13_template_181 : decode cX13_template 181 = .ok (.aload_n 0, 1) := by decide +kernel
theorem dX13_template_182 : decode cX13_template 182 = .ok (.getfield 119, 3) := by decide +kernel
theorem dX13_template_185 : decode cX13_template 185 = .ok (.iload 4, 2) := by decide +kernel
theorem dX13_template_187 : decode cX13_template 187 = .ok (.iaload, 1) := by decide +kernel
theorem dX13_template_188 : decode cX13_template 188 = .ok (.iload_n 2, 1) := by decide +kernel
theorem dX13_template_189 : decode cX13_template 189 = .ok (.iconst 1, 1) := by decide +kernel
theorem dX13_template_190 : decode cX13_template 190 = .ok (.iadd, 1) := by decide +kernel
theorem dX13_template_191 : decode cX13_template 191 = .ok (.iload_n 3, 1) := by decide +kernel
theorem dX13_template_192 : decode cX13_template 192 = .ok (.ifCond .le 9, 3) := by decide +kernel
theorem dX13_template_195 : decode cX13_template 195 = .ok (.iload_n 3, 1) := by decide +kernel
theorem dX13_template_196 : decode cX13_template 196 = .ok (.iconst 1, 1) := by decide +kernel
theorem dX13_template_197 : decode cX13_template 197 = .ok (.isub, 1) := by decide +kernel
theorem dX13_template_198 : decode cX13_template 198 = .ok (.goto 4, 3) := by decide +kernel
theorem dX13_template_201 : decode cX13_template 201 = .ok (.iconst 0, 1) := by decide +kernel
theorem dX13_template_202 : decode cX13_template 202 = .ok (.invokevirtual 806, 3) := by decide +kernel
theorem dX13_template_205 : decode cX13_template 205 = .ok (.istore 9, 2) := by decide +kernel
theorem dX13_template_207 : decode cX13_template 207 = .ok (.iload 8, 2) := by decide +kernel
theorem dX13_template_209 : decode cX13_template 209 = .ok (.ifCond .eq 13, 3) := by decide +kernel
theorem dX13_template_212 : decode cX13_template 212 = .ok (.aload_n 0, 1) := by decide +kernel
theorem dX13_template_213 : decode cX13_template 213 = .ok (.dup, 1) := by decide +kernel
theorem dX13_template_214 : decode cX13_template 214 = .ok (.getfield 797, 3) := by decide +kernel
theorem dX13_template_217 : decode cX13_template 217 = .ok (.iconst 1, 1) := by decide +kernel
theorem dX13_template_218 : decode cX13_template 218 = .ok (.isub, 1) := by decide +kernel
theorem dX13_template_219 : decode cX13_template 219 = .ok (.putfield 797, 3) := by decide +kernel
theorem dX13_template_222 : decode cX13_template 222 = .ok (.aload_n 0, 1) := by decide +kernel
theorem dX13_template_223 : decode cX13_template 223 = .ok (.iconst 4, 1) := by decide +kernel
theorem dX13_template_224 : decode cX13_template 224 = .ok (.iconst (-1), 1) := by decide +kernel
theorem dX13_template_225 : decode cX13_template 225 = .ok (.iload 6, 2) := by decide +kernel
theorem dX13_template_227 : decode cX13_template 227 = .ok (.iload 7, 2) := by decide +kernel
theorem dX13_template_229 : decode cX13_template 229 = .ok (.iload 9, 2) := by decide +kernel
theorem dX13_template_231 : decode cX13_template 231 = .ok (.invokevirtual 788, 3) := by decide +kernel
theorem dX13_template_234 : decode cX13_template 234 = .ok (.ireturn, 1) := by decide +kernel
theorem dX13_template_235 : decode cX13_template 235 = .ok (.aload_n 0, 1) := by decide +kernel
theorem dX13_template_236 : decode cX13_template 236 = .ok (.getfield 809, 3) := by decide +kernel
theorem dX13_template_239 : decode cX13_template 239 = .ok (.istore 6, 2) := by decide +kernel
theorem dX13_template_241 : decode cX13_template 241 = .ok (.aload_n 0, 1) := by decide +kernel
theorem dX13_template_242 : decode cX13_template 242 = .ok (.dup, 1) := by decide +kernel
theorem dX13_template_243 : decode cX13_template 243 = .ok (.getfield 809, 3) := by decide +kernel
theorem dX13_template_246 : decode cX13_template 246 = .ok (.iconst 1, 1) := by decide +kernel
theorem dX13_template_247 : decode cX13_template 247 = .ok (.iadd, 1) := by decide +kernel
theorem dX13_template_248 : decode cX13_template 248 = .ok (.putfield 809, 3) := by decide +kernel
theorem dX13_template_251 : decode cX13_template 251 = .ok (.aload_n 0, 1) := by decide +kernel
theorem dX13_template_252 : decode cX13_template 252 = .ok (.getfield 197, 3) := by decide +kernel
theorem dX13_template_255 : decode cX13_template 255 = .ok (.iload 6, 2) := by decide +kernel
theorem dX13_template_257 : decode cX13_template 257 = .ok (.iload 5, 2) := by decide +kernel
theorem dX13_template_259 : decode cX13_template 259 = .ok (.iconst 3, 1) := by decide +kernel
theorem dX13_template_260 : decode cX13_template 260 = .ok (.if_icmp .ne 7, 3) := by decide +kernel
theorem dX13_template_263 : decode cX13_template 263 = .ok (.iconst 1, 1) := by decide +kernel
theorem dX13_template_264 : decode cX13_template 264 = .ok (.goto 14, 3) := by decide +kernel
theorem dX13_template_267 : decode cX13_template 267 = .ok (.iload 5, 2) := by decide +kernel
theorem dX13_template_269 : decode cX13_template 269 = .ok (.iconst 5, 1) := by decide +kernel
theorem dX13_template_270 : decode cX13_template 270 = .ok (.if_icmp .ne 7, 3) := by decide +kernel
theorem dX13_template_273 : decode cX13_template 273 = .ok (.iconst 2, 1) := by decide +kernel
theorem dX13_template_274 : decode cX13_template 274 = .ok (.goto 4, 3) := by decide +kernel
theorem dX13_template_277 : decode cX13_template 277 = .ok (.iconst 0, 1) := by decide +kernel
theorem dX13_template_278 : decode cX13_template 278 = .ok (.iastore, 1) := by decide +kernel
theorem dX13_template_279 : decode cX13_template 279 = .ok (.aload_n 0, 1) := by decide +kernel
theorem dX13_template_280 : decode cX13_template 280 = .ok (.getfield 200, 3) := by decide +kernel
theorem dX13_template_283 : decode cX13_template 283 = .ok (.iload 6, 2) := by decide +kernel
theorem dX13_template_285 : decode cX13_template 285 = .ok (.aload_n 0, 1) := by decide +kernel
theorem dX13_template_286 : decode cX13_template 286 = .ok (.getfield 812, 3) := by decide +kernel
theorem dX13_template_289 : decode cX13_template 289 = .ok (.iastore, 1) := by decide +kernel
theorem dX13_template_290 : decode cX13_template 290 = .ok (.iconst 0, 1) := by decide +kernel
theorem dX13_template_291 : decode cX13_template 291 = .ok (.istore 7, 2) := by decide +kernel
theorem dX13_template_293 : decode cX13_template 293 = .ok (.iload 7, 2) := by decide +kernel
theorem dX13_template_295 : decode cX13_template 295 = .ok (.aload_n 0, 1) := by decide +kernel
theorem dX13_template_296 : decode cX13_template 296 = .ok (.getfield 478, 3) := by decide +kernel
theorem dX13_template_299 : decode cX13_template 299 = .ok (.if_icmp .ge 124, 3) := by decide +kernel
theorem dX13_template_302 : decode cX13_template 302 = .ok (.aload_n 0, 1) := by decide +kernel
theorem dX13_template_303 : decode cX13_template 303 = .ok (.getfield 77, 3) := by decide +kernel
theorem dX13_template_306 : decode cX13_template 306 = .ok (.iload 7, 2) := by decide +kernel
theorem dX13_template_308 : decode cX13_template 308 = .ok (.iaload, 1) := by decide +kernel
theorem dX13_template_309 : decode cX13_template 309 = .ok (.aload_n 0, 1) := by decide +kernel
theorem dX13_template_310 : decode cX13_template 310 = .ok (.getfield 197, 3) := by decide +kernel
theorem dX13_template_313 : decode cX13_template 313 = .ok (.iload 6, 2) := by decide +kernel
theorem dX13_template_315 : decode cX13_template 315 = .ok (.iaload, 1) := by decide +kernel
theorem dX13_template_316 : decode cX13_template 316 = .ok (.if_icmp .eq 6, 3) := by decide +kernel
theorem dX13_template_319 : decode cX13_template 319 = .ok (.goto 98, 3) := by decide +kernel
theorem dX13_template_322 : decode cX13_template 322 = .ok (.iconst 0, 1) := by decide +kernel
theorem dX13_template_323 : decode cX13_template 323 = .ok (.istore 8, 2) := by decide +kernel
theorem dX13_template_325 : decode cX13_template 325 = .ok (.iload 8, 2) := by decide +kernel
theorem dX13_template_327 : decode cX13_template 327 = .ok (.aload_n 0, 1) := by decide +kernel
theorem dX13_template_328 : decode cX13_template 328 = .ok (.getfield 86, 3) := by decide +kernel
theorem dX13_template_331 : decode cX13_template 331 = .ok (.iload 7, 2) := by decide +kernel
theorem dX13_template_333 : decode cX13_template 333 = .ok (.iaload, 1) := by decide +kernel
theorem dX13_template_334 : decode cX13_template 334 = .ok (.iconst 1, 1) := by decide +kernel
theorem dX13_template_335 : decode cX13_template 335 = .ok (.if_icmp .ne 10, 3) := by decide +kernel
theorem dX13_template_338 : decode cX13_template 338 = .ok (.aload_n 0, 1) := by decide +kernel
theorem dX13_template_339 : decode cX13_template 339 = .ok (.getfield 797, 3) := by decide +kernel
theorem dX13_template_342 : decode cX13_template 342 = .ok (.goto 4, 3) := by decide +kernel
theorem dX13_template_345 : decode cX13_template 345 = .ok (.iconst 1, 1) := by decide +kernel
theorem dX13_template_346 : decode cX13_template 346 = .ok (.if_icmp .ge 71, 3) := by decide +kernel
theorem dX13_template_349 : decode cX13_template 349 = .ok (.aload_n 0, 1) := by decide +kernel
theorem dX13_template_350 : decode cX13_template 350 = .ok (.getfield 206, 3) := by decide +kernel
theorem dX13_template_353 : decode cX13_template 353 = .ok (.aload_n 0, 1) := by decide +kernel
theorem dX13_template_354 : decode cX13_template 354 = .ok (.getfield 812, 3) := by decide +kernel
theorem dX13_template_357 : decode cX13_template 357 = .ok (.iload 7, 2) := by decide +kernel
theorem dX13_template_359 : decode cX13_template 359 = .ok (.iastore, 1) := by decide +kernel
theorem dX13_template_360 : decode cX13_template 360 = .ok (.aload_n 0, 1) := by decide +kernel
theorem dX13_template_361 : decode cX13_template 361 = .ok (.getfield 209, 3) := by decide +kernel
theorem dX13_template_364 : decode cX13_template 364 = .ok (.aload_n 0, 1) := by decide +kernel
theorem dX13_template_365 : decode cX13_template 365 = .ok (.getfield 812, 3) := by decide +kernel
theorem dX13_template_368 : decode cX13_template 368 = .ok (.aload_n 0, 1) := by decide +kernel
theorem dX13_template_369 : decode cX13_template 369 = .ok (.getfield 86, 3) := by decide +kernel
theorem dX13_template_372 : decode cX13_template 372 = .ok (.iload 7, 2) := by decide +kernel
theorem dX13_template_374 : decode cX13_template 374 = .ok (.iaload, 1) := by decide +kernel
theorem dX13_template_375 : decode cX13_template 375 = .ok (.iconst 1, 1) := by decide +kernel
theorem dX13_template_376 : decode cX13_template 376 = .ok (.if_icmp .ne 13, 3) := by decide +kernel
theorem dX13_template_379 : decode cX13_template 379 = .ok (.aload_n 0, 1) := by decide +kernel
theorem dX13_template_380 : decode cX13_template 380 = .ok (.getfield 273, 3) := by decide +kernel
theorem dX13_template_383 : decode cX13_template 383 = .ok (.iload 8, 2) := by decide +kernel
theorem dX13_template_385 : decode cX13_template 385 = .ok (.iaload, 1) := by decide +kernel
theorem dX13_template_386 : decode cX13_template 386 = .ok (.goto 4, 3) := by decide +kernel
theorem dX13_template_389 : decode cX13_template 389 = .ok (.iconst (-1), 1) := by decide +kernel
theorem dX13_template_390 : decode cX13_template 390 = .ok (.iastore, 1) := by decide +kernel
theorem dX13_template_391 : decode cX13_template 391 = .ok (.aload_n 0, 1) := by decide +kernel
theorem dX13_template_392 : decode cX13_template 392 = .ok (.getfield 212, 3) := by decide +kernel
theorem dX13_template_395 : decode cX13_template 395 = .ok (.aload_n 0, 1) := by decide +kernel
theorem dX13_template_396 : decode cX13_template 396 = .ok (.getfield 812, 3) := by decide +kernel
theorem dX13_template_399 : decode cX13_template 399 = .ok (.iconst 1, 1) := by decide +kernel
theorem dX13_template_400 : decode cX13_template 400 = .ok (.bastore, 1) := by decide +kernel
theorem dX13_template_401 : decode cX13_template 401 = .ok (.aload_n 0, 1) := by decide +kernel
theorem dX13_template_402 : decode cX13_template 402 = .ok (.dup, 1) := by decide +kernel
theorem dX13_template_403 : decode cX13_template 403 = .ok (.getfield 812, 3) := by decide +kernel
theorem dX13_template_406 : decode cX13_template 406 = .ok (.iconst 1, 1) := by decide +kernel
theorem dX13_template_407 : decode cX13_template 407 = .ok (.iadd, 1) := by decide +kernel
theorem dX13_template_408 : decode cX13_template 408 = .ok (.putfield 812, 3) := by decide +kernel
theorem dX13_template_411 : decode cX13_template 411 = .ok (.iinc 8 1, 3) := by decide +kernel
theorem dX13_template_414 : decode cX13_template 414 = .ok (.goto (-89), 3) := by decide +kernel
theorem dX13_template_417 : decode cX13_template 417 = .ok (.iinc 7 1, 3) := by decide +kernel
theorem dX13_template_420 : decode cX13_template 420 = .ok (.goto (-127), 3) := by decide +kernel
theorem dX13_template_423 : decode cX13_template 423 = .ok (.aload_n 0, 1) := by decide +kernel
theorem dX13_template_424 : decode cX13_template 424 = .ok (.getfield 203, 3) := by decide +kernel
theorem dX13_template_427 : decode cX13_template 427 = .ok (.iload 6, 2) := by decide +kernel
theorem dX13_template_429 : decode cX13_template 429 = .ok (.aload_n 0, 1) := by decide +kernel
theorem dX13_template_430 : decode cX13_template 430 = .ok (.getfield 812, 3) := by decide +kernel
theorem dX13_template_433 : decode cX13_template 433 = .ok (.iastore, 1) := by decide +kernel
theorem dX13_template_434 : decode cX13_template 434 = .ok (.aload_n 0, 1) := by decide +kernel
theorem dX13_template_435 : decode cX13_template 435 = .ok (.iload 5, 2) := by decide +kernel
theorem dX13_template_437 : decode cX13_template 437 = .ok (.aload_n 0, 1) := by decide +kernel
theorem dX13_template_438 : decode cX13_template 438 = .ok (.iload 6, 2) := by decide +kernel
theorem dX13_template_440 : decode cX13_template 440 = .ok (.iconst (-1), 1) := by decide +kernel
theorem dX13_template_441 : decode cX13_template 441 = .ok (.iconst (-1), 1) := by decide +kernel
theorem dX13_template_442 : decode cX13_template 442 = .ok (.invokevirtual 785, 3) := by decide +kernel
theorem dX13_template_445 : decode cX13_template 445 = .ok (.iconst (-1), 1) := by decide +kernel
theorem dX13_template_446 : decode cX13_template 446 = .ok (.iconst (-1), 1) := by decide +kernel
theorem dX13_template_447 : decode cX13_template 447 = .ok (.iconst (-1), 1) := by decide +kernel
theorem dX13_template_448 : decode cX13_template 448 = .ok (.invokevirtual 788, 3) := by decide +kernel
theorem dX13_template_451 : decode cX13_template 451 = .ok (.ireturn, 1) := by decide +kernel
theorem dX13_put_0 : decode cX13_put 0 = .ok (.aload_n 0, 1) := by decide +kernel
theorem dX13_put_1 : decode cX13_put 1 = .ok (.getfield 142, 3) := by decide +kernel
theorem dX13_put_4 : decode cX13_put 4 = .ok (.iload_n 1, 1) := by decide +kernel
theorem dX13_put_5 : decode cX13_put 5 = .ok (.iaload, 1) := by decide +kernel
theorem dX13_put_6 : decode cX13_put 6 = .ok (.iconst 2, 1) := by decide +kernel
theorem dX13_put_7 : decode cX13_put 7 = .ok (.if_icmp .ne 5, 3) := by decide +kernel
theorem dX13_put_10 : decode cX13_put 10 = .ok (.iload_n 1, 1) := by decide +kernel
theorem dX13_put_11 : decode cX13_put 11 = .ok (.ireturn, 1) := by decide +kernel
theorem dX13_put_12 : decode cX13_put 12 = .ok (.aload_n 0, 1) := by decide +kernel
theorem dX13_put_13 : decode cX13_put 13 = .ok (.getfield 142, 3) := by decide +kernel
theorem dX13_put_16 : decode cX13_put 16 = .ok (.iload_n 1, 1) := by decide +kernel
theorem dX13_put_17 : decode cX13_put 17 = .ok (.iaload, 1) := by decide +kernel
theorem dX13_put_18 : decode cX13_put 18 = .ok (.iconst 4, 1) := by decide +kernel
theorem dX13_put_19 : decode cX13_put 19 = .ok (.if_icmp .ne 56, 3) := by decide +kernel
theorem dX13_put_22 : decode cX13_put 22 = .ok (.aload_n 0, 1) := by decide +kernel
theorem dX13_put_23 : decode cX13_put 23 = .ok (.aload_n 0, 1) := by decide +kernel
theorem dX13_put_24 : decode cX13_put 24 = .ok (.getfield 151, 3) := by decide +kernel
theorem dX13_put_27 : decode cX13_put 27 = .ok (.iload_n 1, 1) := by decide +kernel
theorem dX13_put_28 : decode cX13_put 28 = .ok (.iaload, 1) := by decide +kernel
theorem dX13_put_29 : decode cX13_put 29 = .ok (.iload_n 2, 1) := by decide +kernel
theorem dX13_put_30 : decode cX13_put 30 = .ok (.iload_n 3, 1) := by decide +kernel
theorem dX13_put_31 : decode cX13_put 31 = .ok (.iload 4, 2) := by decide +kernel
theorem dX13_put_33 : decode cX13_put 33 = .ok (.lload 5, 2) := by decide +kernel
theorem dX13_put_35 : decode cX13_put 35 = .ok (.invokevirtual 815, 3) := by decide +kernel
theorem dX13_put_38 : decode cX13_put 38 = .ok (.istore 7, 2) := by decide +kernel
theorem dX13_put_40 : decode cX13_put 40 = .ok (.aload_n 0, 1) := by decide +kernel
theorem dX13_put_41 : decode cX13_put 41 = .ok (.aload_n 0, 1) := by decide +kernel
theorem dX13_put_42 : decode cX13_put 42 = .ok (.getfield 154, 3) := by decide +kernel
theorem dX13_put_45 : decode cX13_put 45 = .ok (.iload_n 1, 1) := by decide +kernel
theorem dX13_put_46 : decode cX13_put 46 = .ok (.iaload, 1) := by decide +kernel
theorem dX13_put_47 : decode cX13_put 47 = .ok (.iload_n 2, 1) := by decide +kernel
theorem dX13_put_48 : decode cX13_put 48 = .ok (.iload_n 3, 1) := by decide +kernel
theorem dX13_put_49 : decode cX13_put 49 = .ok (.iload 4, 2) := by decide +kernel
theorem dX13_put_51 : decode cX13_put 51 = .ok (.lload 5, 2) := by decide +kernel
theorem dX13_put_53 : decode cX13_put 53 = .ok (.invokevirtual 815, 3) := by decide +kernel
theorem dX13_put_56 : decode cX13_put 56 = .ok (.istore 8, 2) := by decide +kernel
theorem dX13_put_58 : decode cX13_put 58 = .ok (.aload_n 0, 1) := by decide +kernel
theorem dX13_put_59 : decode cX13_put 59 = .ok (.iconst 4, 1) := by decide +kernel
theorem dX13_put_60 : decode cX13_put 60 = .ok (.iconst (-1), 1) := by decide +kernel
theorem dX13_put_61 : decode cX13_put 61 = .ok (.aload_n 0, 1) := by decide +kernel
theorem dX13_put_62 : decode cX13_put 62 = .ok (.getfield 148, 3) := by decide +kernel
theorem dX13_put_65 : decode cX13_put 65 = .ok (.iload_n 1, 1) := by decide +kernel
theorem dX13_put_66 : decode cX13_put 66 = .ok (.iaload, 1) := by decide +kernel
theorem dX13_put_67 : decode cX13_put 67 = .ok (.iload 7, 2) := by decide +kernel
theorem dX13_put_69 : decode cX13_put 69 = .ok (.iload 8, 2) := by decide +kernel
theorem dX13_put_71 : decode cX13_put 71 = .ok (.invokevirtual 788, 3) := by decide +kernel
theorem dX13_put_74 : decode cX13_put 74 = .ok (.ireturn, 1) := by decide +kernel
theorem dX13_put_75 : decode cX13_put 75 = .ok (.aload_n 0, 1) := by decide +kernel
theorem dX13_put_76 : decode cX13_put 76 = .ok (.getfield 182, 3) := by decide +kernel
theorem dX13_put_79 : decode cX13_put 79 = .ok (.aload_n 0, 1) := by decide +kernel
theorem dX13_put_80 : decode cX13_put 80 = .ok (.getfield 819, 3) := by decide +kernel
theorem dX13_put_83 : decode cX13_put 83 = .ok (.iload_n 2, 1) := by decide +kernel
theorem dX13_put_84 : decode cX13_put 84 = .ok (.iastore, 1) := by decide +kernel
theorem dX13_put_85 : decode cX13_put 85 = .ok (.aload_n 0, 1) := by decide +kernel
theorem dX13_put_86 : decode cX13_put 86 = .ok (.getfield 185, 3) := by decide +kernel
theorem dX13_put_89 : decode cX13_put 89 = .ok (.aload_n 0, 1) := by decide +kernel
theorem dX13_put_90 : decode cX13_put 90 = .ok (.getfield 819, 3) := by decide +kernel
theorem dX13_put_93 : decode cX13_put 93 = .ok (.iload_n 3, 1) := by decide +kernel
theorem dX13_put_94 : decode cX13_put 94 = .ok (.iastore, 1) := by decide +kernel
theorem dX13_put_95 : decode cX13_put 95 = .ok (.aload_n 0, 1) := by decide +kernel
theorem dX13_put_96 : decode cX13_put 96 = .ok (.getfield 188, 3) := by decide +kernel
theorem dX13_put_99 : decode cX13_put 99 = .ok (.aload_n 0, 1) := by decide +kernel
theorem dX13_put_100 : decode cX13_put 100 = .ok (.getfield 819, 3) := by decide +kernel
theorem dX13_put_103 : decode cX13_put 103 = .ok (.iload 4, 2) := by decide +kernel
theorem dX13_put_105 : decode cX13_put 105 = .ok (.iastore, 1) := by decide +kernel
theorem dX13_put_106 : decode cX13_put 106 = .ok (.aload_n 0, 1) := by decide +kernel
theorem dX13_put_107 : decode cX13_put 107 = .ok (.getfield 194, 3) := by decide +kernel
theorem dX13_put_110 : decode cX13_put 110 = .ok (.aload_n 0, 1) := by decide +kernel
theorem dX13_put_111 : decode cX13_put 111 = .ok (.getfield 819, 3) := by decide +kernel
theorem dX13_put_114 : decode cX13_put 114 = .ok (.lload 5, 2) := by decide +kernel
theorem dX13_put_116 : decode cX13_put 116 = .ok (.lastore, 1) := by decide +kernel
theorem dX13_put_117 : decode cX13_put 117 = .ok (.aload_n 0, 1) := by decide +kernel
theorem dX13_put_118 : decode cX13_put 118 = .ok (.getfield 191, 3) := by decide +kernel
theorem dX13_put_121 : decode cX13_put 121 = .ok (.aload_n 0, 1) := by decide +kernel
theorem dX13_put_122 : decode cX13_put 122 = .ok (.getfield 819, 3) := by decide +kernel
theorem dX13_put_125 : decode cX13_put 125 = .ok (.aload_n 0, 1) := by decide +kernel
theorem dX13_put_126 : decode cX13_put 126 = .ok (.getfield 163, 3) := by decide +kernel
theorem dX13_put_129 : decode cX13_put 129 = .ok (.aload_n 0, 1) := by decide +kernel
theorem dX13_put_130 : decode cX13_put 130 = .ok (.getfield 145, 3) := by decide +kernel
theorem dX13_put_133 : decode cX13_put 133 = .ok (.iload_n 1, 1) := by decide +kernel
theorem dX13_put_134 : decode cX13_put 134 = .ok (.iaload, 1) := by decide +kernel
theorem dX13_put_135 : decode cX13_put 135 = .ok (.iaload, 1) := by decide +kernel
theorem dX13_put_136 : decode cX13_put 136 = .ok (.iastore, 1) := by decide +kernel
theorem dX13_put_137 : decode cX13_put 137 = .ok (.aload_n 0, 1) := by decide +kernel
theorem dX13_put_138 : decode cX13_put 138 = .ok (.dup, 1) := by decide +kernel
theorem dX13_put_139 : decode cX13_put 139 = .ok (.getfield 819, 3) := by decide +kernel
theorem dX13_put_142 : decode cX13_put 142 = .ok (.iconst 1, 1) := by decide +kernel
theorem dX13_put_143 : decode cX13_put 143 = .ok (.iadd, 1) := by decide +kernel
theorem dX13_put_144 : decode cX13_put 144 = .ok (.putfield 819, 3) := by decide +kernel
theorem dX13_put_147 : decode cX13_put 147 = .ok (.aload_n 0, 1) := by decide +kernel
theorem dX13_put_148 : decode cX13_put 148 = .ok (.aload_n 0, 1) := by decide +kernel
theorem dX13_put_149 : decode cX13_put 149 = .ok (.getfield 142, 3) := by decide +kernel
theorem dX13_put_152 : decode cX13_put 152 = .ok (.iload_n 1, 1) := by decide +kernel
theorem dX13_put_153 : decode cX13_put 153 = .ok (.iaload, 1) := by decide +kernel
theorem dX13_put_154 : decode cX13_put 154 = .ok (.aload_n 0, 1) := by decide +kernel
theorem dX13_put_155 : decode cX13_put 155 = .ok (.aload_n 0, 1) := by decide +kernel
theorem dX13_put_156 : decode cX13_put 156 = .ok (.getfield 157, 3) := by decide +kernel
theorem dX13_put_159 : decode cX13_put 159 = .ok (.aload_n 0, 1) := by decide +kernel
theorem dX13_put_160 : decode cX13_put 160 = .ok (.getfield 145, 3) := by decide +kernel
theorem dX13_put_163 : decode cX13_put 163 = .ok (.iload_n 1, 1) := by decide +kernel
theorem dX13_put_164 : decode cX13_put 164 = .ok (.iaload, 1) := by decide +kernel
theorem dX13_put_165 : decode cX13_put 165 = .ok (.iaload, 1) := by decide +kernel
theorem dX13_put_166 : decode cX13_put 166 = .ok (.aload_n 0, 1) := by decide +kernel
theorem dX13_put_167 : decode cX13_put 167 = .ok (.getfield 160, 3) := by decide +kernel
theorem dX13_put_170 : decode cX13_put 170 = .ok (.aload_n 0, 1) := by decide +kernel
theorem dX13_put_171 : decode cX13_put 171 = .ok (.getfield 145, 3) := by decide +kernel
theorem dX13_put_174 : decode cX13_put 174 = .ok (.iload_n 1, 1) := by decide +kernel
theorem dX13_put_175 : decode cX13_put 175 = .ok (.iaload, 1) := by decide +kernel
theorem dX13_put_176 : decode cX13_put 176 = .ok (.iaload, 1) := by decide +kernel
theorem dX13_put_177 : decode cX13_put 177 = .ok (.aload_n 0, 1) := by decide +kernel
theorem dX13_put_178 : decode cX13_put 178 = .ok (.getfield 819, 3) := by decide +kernel
theorem dX13_put_181 : decode cX13_put 181 = .ok (.iconst 1, 1) := by decide +kernel
theorem dX13_put_182 : decode cX13_put 182 = .ok (.isub, 1) := by decide +kernel
theorem dX13_put_183 : decode cX13_put 183 = .ok (.invokevirtual 785, 3) := by decide +kernel
theorem dX13_put_186 : decode cX13_put 186 = .ok (.iconst (-1), 1) := by decide +kernel
theorem dX13_put_187 : decode cX13_put 187 = .ok (.iconst (-1), 1) := by decide +kernel
theorem dX13_put_188 : decode cX13_put 188 = .ok (.iconst (-1), 1) := by decide +kernel
theorem dX13_put_189 : decode cX13_put 189 = .ok (.invokevirtual 788, 3) := by decide +kernel
theorem dX13_put_192 : decode cX13_put 192 = .ok (.ireturn, 1) := by decide +kernel
theorem dX13_mustFit_0 : decode cX13_mustFit 0 = .ok (.aload_n 0, 1) := by decide +kernel
theorem dX13_mustFit_1 : decode cX13_mustFit 1 = .ok (.getfield 142, 3) := by decide +kernel
theorem dX13_mustFit_4 : decode cX13_mustFit 4 = .ok (.iload_n 1, 1) := by decide +kernel
theorem dX13_mustFit_5 : decode cX13_mustFit 5 = .ok (.iaload, 1) := by decide +kernel
theorem dX13_mustFit_6 : decode cX13_mustFit 6 = .ok (.iconst 2, 1) := by decide +kernel
theorem dX13_mustFit_7 : decode cX13_mustFit 7 = .ok (.if_icmp .ne 4, 3) := by decide +kernel
theorem dX13_mustFit_10 : decode cX13_mustFit 10 = .ok (.return_, 1) := by decide +kernel
theorem dX13_mustFit_11 : decode cX13_mustFit 11 = .ok (.aload_n 0, 1) := by decide +kernel
theorem dX13_mustFit_12 : decode cX13_mustFit 12 = .ok (.getfield 142, 3) := by decide +kernel
theorem dX13_mustFit_15 : decode cX13_mustFit 15 = .ok (.iload_n 1, 1) := by decide +kernel
theorem dX13_mustFit_16 : decode cX13_mustFit 16 = .ok (.iaload, 1) := by decide +kernel
theorem dX13_mustFit_17 : decode cX13_mustFit 17 = .ok (.iconst 4, 1) := by decide +kernel
theorem dX13_mustFit_18 : decode cX13_mustFit 18 = .ok (.if_icmp .ne 129, 3) := by decide +kernel
theorem dX13_mustFit_21 : decode cX13_mustFit 21 = .ok (.aload_n 0, 1) := by decide +kernel
theorem dX13_mustFit_22 : decode cX13_mustFit 22 = .ok (.aload_n 0, 1) := by decide +kernel
theorem dX13_mustFit_23 : decode cX13_mustFit 23 = .ok (.getfield 151, 3) := by decide +kernel
theorem dX13_mustFit_26 : decode cX13_mustFit 26 = .ok (.iload_n 2, 1) := by decide +kernel
theorem dX13_mustFit_27 : decode cX13_mustFit 27 = .ok (.iaload, 1) := by decide +kernel
theorem dX13_mustFit_28 : decode cX13_mustFit 28 = .ok (.aload_n 0, 1) := by decide +kernel
theorem dX13_mustFit_29 : decode cX13_mustFit 29 = .ok (.getfield 151, 3) := by decide +kernel
theorem dX13_mustFit_32 : decode cX13_mustFit 32 = .ok (.iload_n 1, 1) := by decide +kernel
theorem dX13_mustFit_33 : decode cX13_mustFit 33 = .ok (.iaload, 1) := by decide +kernel
theorem dX13_mustFit_34 : decode cX13_mustFit 34 = .ok (.iload_n 3, 1) := by decide +kernel
theorem dX13_mustFit_35 : decode cX13_mustFit 35 = .ok (.iload 4, 2) := by decide +kernel
theorem dX13_mustFit_37 : decode cX13_mustFit 37 = .ok (.invokevirtual 822, 3) := by decide +kernel
theorem dX13_mustFit_40 : decode cX13_mustFit 40 = .ok (.aload_n 0, 1) := by decide +kernel
theorem dX13_mustFit_41 : decode cX13_mustFit 41 = .ok (.iload_n 3, 1) := by decide +kernel
theorem dX13_mustFit_42 : decode cX13_mustFit 42 = .ok (.aload_n 0, 1) := by decide +kernel
theorem dX13_mustFit_43 : decode cX13_mustFit 43 = .ok (.getfield 148, 3) := by decide +kernel
theorem dX13_mustFit_46 : decode cX13_mustFit 46 = .ok (.iload_n 2, 1) := by decide +kernel
theorem dX13_mustFit_47 : decode cX13_mustFit 47 = .ok (.iaload, 1) := by decide +kernel
theorem dX13_mustFit_48 : decode cX13_mustFit 48 = .ok (.aload_n 0, 1) := by decide +kernel
theorem dX13_mustFit_49 : decode cX13_mustFit 49 = .ok (.getfield 151, 3) := by decide +kernel
theorem dX13_mustFit_52 : decode cX13_mustFit 52 = .ok (.iload_n 2, 1) := by decide +kernel
theorem dX13_mustFit_53 : decode cX13_mustFit 53 = .ok (.iaload, 1) := by decide +kernel
theorem dX13_mustFit_54 : decode cX13_mustFit 54 = .ok (.invokevirtual 826, 3) := by decide +kernel
theorem dX13_mustFit_57 : decode cX13_mustFit 57 = .ok (.istore 5, 2) := by decide +kernel
theorem dX13_mustFit_59 : decode cX13_mustFit 59 = .ok (.aload_n 0, 1) := by decide +kernel
theorem dX13_mustFit_60 : decode cX13_mustFit 60 = .ok (.getfield 142, 3) := by decide +kernel
theorem dX13_mustFit_63 : decode cX13_mustFit 63 = .ok (.aload_n 0, 1) := by decide +kernel
theorem dX13_mustFit_64 : decode cX13_mustFit 64 = .ok (.getfield 151, 3) := by decide +kernel
theorem dX13_mustFit_67 : decode cX13_mustFit 67 = .ok (.iload_n 2, 1) := by decide +kernel
theorem dX13_mustFit_68 : decode cX13_mustFit 68 = .ok (.iaload, 1) := by decide +kernel
theorem dX13_mustFit_69 : decode cX13_mustFit 69 = .ok (.iaload, 1) := by decide +kernel
theorem dX13_mustFit_70 : decode cX13_mustFit 70 = .ok (.invokestatic 782, 3) := by decide +kernel
theorem dX13_mustFit_73 : decode cX13_mustFit 73 = .ok (.istore 6, 2) := by decide +kernel
theorem dX13_mustFit_75 : decode cX13_mustFit 75 = .ok (.iload 6, 2) := by decide +kernel
theorem dX13_mustFit_77 : decode cX13_mustFit 77 = .ok (.ifCond .eq 45, 3) := by decide +kernel
theorem dX13_mustFit_80 : decode cX13_mustFit 80 = .ok (.aload_n 0, 1) := by decide +kernel
theorem dX13_mustFit_81 : decode cX13_mustFit 81 = .ok (.getfield 148, 3) := by decide +kernel
theorem dX13_mustFit_84 : decode cX13_mustFit 84 = .ok (.iload_n 1, 1) := by decide +kernel
theorem dX13_mustFit_85 : decode cX13_mustFit 85 = .ok (.iaload, 1) := by decide +kernel
theorem dX13_mustFit_86 : decode cX13_mustFit 86 = .ok (.aload_n 0, 1) := by decide +kernel
theorem dX13_mustFit_87 : decode cX13_mustFit 87 = .ok (.getfield 148, 3) := by decide +kernel
theorem dX13_mustFit_90 : decode cX13_mustFit 90 = .ok (.iload_n 2, 1) := by decide +kernel
theorem dX13_mustFit_91 : decode cX13_mustFit 91 = .ok (.iaload, 1) := by decide +kernel
theorem dX13_mustFit_92 : decode cX13_mustFit 92 = .ok (.if_icmp .eq 30, 3) := by decide +kernel
theorem dX13_mustFit_95 : decode cX13_mustFit 95 = .ok (.aload_n 0, 1) := by decide +kernel
theorem dX13_mustFit_96 : decode cX13_mustFit 96 = .ok (.aload_n 0, 1) := by decide +kernel
theorem dX13_mustFit_97 : decode cX13_mustFit 97 = .ok (.getfield 154, 3) := by decide +kernel
theorem dX13_mustFit_100 : decode cX13_mustFit 100 = .ok (.iload_n 1, 1) := by decide +kernel
theorem dX13_mustFit_101 : decode cX13_mustFit 101 = .ok (.iaload, 1) := by decide +kernel
theorem dX13_mustFit_102 : decode cX13_mustFit 102 = .ok (.aload_n 0, 1) := by decide +kernel
theorem dX13_mustFit_103 : decode cX13_mustFit 103 = .ok (.getfield 148, 3) := by decide +kernel
theorem dX13_mustFit_106 : decode cX13_mustFit 106 = .ok (.iload_n 1, 1) := by decide +kernel
theorem dX13_mustFit_107 : decode cX13_mustFit 107 = .ok (.iaload, 1) := by decide +kernel
theorem dX13_mustFit_108 : decode cX13_mustFit 108 = .ok (.aload_n 0, 1) := by decide +kernel
theorem dX13_mustFit_109 : decode cX13_mustFit 109 = .ok (.getfield 148, 3) := by decide +kernel
theorem dX13_mustFit_112 : decode cX13_mustFit 112 = .ok (.iload_n 2, 1) := by decide +kernel
theorem dX13_mustFit_113 : decode cX13_mustFit 113 = .ok (.iaload, 1) := by decide +kernel
theorem dX13_mustFit_114 : decode cX13_mustFit 114 = .ok (.iconst 1, 1) := by decide +kernel
theorem dX13_mustFit_115 : decode cX13_mustFit 115 = .ok (.lconst 0, 1) := by decide +kernel
theorem dX13_mustFit_116 : decode cX13_mustFit 116 = .ok (.invokevirtual 815, 3) := by decide +kernel
theorem dX13_mustFit_119 : decode cX13_mustFit 119 = .ok (.goto 9, 3) := by decide +kernel
theorem dX13_mustFit_122 : decode cX13_mustFit 122 = .ok (.aload_n 0, 1) := by decide +kernel
theorem dX13_mustFit_123 : decode cX13_mustFit 123 = .ok (.getfield 154, 3) := by decide +kernel
theorem dX13_mustFit_126 : decode cX13_mustFit 126 = .ok (.iload_n 1, 1) := by decide +kernel
theorem dX13_mustFit_127 : decode cX13_mustFit 127 = .ok (.iaload, 1) := by decide +kernel
theorem dX13_mustFit_128 : decode cX13_mustFit 128 = .ok (.istore 7, 2) := by decide +kernel
theorem dX13_mustFit_130 : decode cX13_mustFit 130 = .ok (.aload_n 0, 1) := by decide +kernel
theorem dX13_mustFit_131 : decode cX13_mustFit 131 = .ok (.iload 7, 2) := by decide +kernel
theorem dX13_mustFit_133 : decode cX13_mustFit 133 = .ok (.aload_n 0, 1) := by decide +kernel
theorem dX13_mustFit_134 : decode cX13_mustFit 134 = .ok (.getfield 154, 3) := by decide +kernel
theorem dX13_mustFit_137 : decode cX13_mustFit 137 = .ok (.iload_n 2, 1) := by decide +kernel
theorem dX13_mustFit_138 : decode cX13_mustFit 138 = .ok (.iaload, 1) := by decide +kernel
theorem dX13_mustFit_139 : decode cX13_mustFit 139 = .ok (.iload 5, 2) := by decide +kernel
theorem dX13_mustFit_141 : decode cX13_mustFit 141 = .ok (.iload 4, 2) := by decide +kernel
theorem dX13_mustFit_143 : decode cX13_mustFit 143 = .ok (.invokevirtual 822, 3) := by decide +kernel
theorem dX13_mustFit_146 : decode cX13_mustFit 146 = .ok (.return_, 1) := by decide +kernel
theorem dX13_mustFit_147 : decode cX13_mustFit 147 = .ok (.aload_n 0, 1) := by decide +kernel
theorem dX13_mustFit_148 : decode cX13_mustFit 148 = .ok (.getfield 243, 3) := by decide +kernel
theorem dX13_mustFit_151 : decode cX13_mustFit 151 = .ok (.aload_n 0, 1) := by decide +kernel
theorem dX13_mustFit_152 : decode cX13_mustFit 152 = .ok (.getfield 829, 3) := by decide +kernel
theorem dX13_mustFit_155 : decode cX13_mustFit 155 = .ok (.iload_n 1, 1) := by decide +kernel
theorem dX13_mustFit_156 : decode cX13_mustFit 156 = .ok (.iastore, 1) := by decide +kernel
theorem dX13_mustFit_157 : decode cX13_mustFit 157 = .ok (.aload_n 0, 1) := by decide +kernel
theorem dX13_mustFit_158 : decode cX13_mustFit 158 = .ok (.getfield 246, 3) := by decide +kernel
theorem dX13_mustFit_161 : decode cX13_mustFit 161 = .ok (.aload_n 0, 1) := by decide +kernel
theorem dX13_mustFit_162 : decode cX13_mustFit 162 = .ok (.getfield 829, 3) := by decide +kernel
theorem dX13_mustFit_165 : decode cX13_mustFit 165 = .ok (.iload_n 2, 1) := by decide +kernel
theorem dX13_mustFit_166 : decode cX13_mustFit 166 = .ok (.iastore, 1) := by decide +kernel
theorem dX13_mustFit_167 : decode cX13_mustFit 167 = .ok (.aload_n 0, 1) := by decide +kernel
theorem dX13_mustFit_168 : decode cX13_mustFit 168 = .ok (.getfield 249, 3) := by decide +kernel
theorem dX13_mustFit_171 : decode cX13_mustFit 171 = .ok (.aload_n 0, 1) := by decide +kernel
theorem dX13_mustFit_172 : decode cX13_mustFit 172 = .ok (.getfield 829, 3) := by decide +kernel
theorem dX13_mustFit_175 : decode cX13_mustFit 175 = .ok (.iload_n 3, 1) := by decide +kernel
theorem dX13_mustFit_176 : decode cX13_mustFit 176 = .ok (.iastore, 1) := by decide +kernel
theorem dX13_mustFit_177 : decode cX13_mustFit 177 = .ok (.aload_n 0, 1) := by decide +kernel
theorem dX13_mustFit_178 : decode cX13_mustFit 178 = .ok (.getfield 252, 3) := by decide +kernel
theorem dX13_mustFit_181 : decode cX13_mustFit 181 = .ok (.aload_n 0, 1) := by decide +kernel
theorem dX13_mustFit_182 : decode cX13_mustFit 182 = .ok (.getfield 829, 3) := by decide +kernel
theorem dX13_mustFit_185 : decode cX13_mustFit 185 = .ok (.iload 4, 2) := by decide +kernel
theorem dX13_mustFit_187 : decode cX13_mustFit 187 = .ok (.iastore, 1) := by decide +kernel
theorem dX13_mustFit_188 : decode cX13_mustFit 188 = .ok (.aload_n 0, 1) := by decide +kernel
theorem dX13_mustFit_189 : decode cX13_mustFit 189 = .ok (.dup, 1) := by decide +kernel
theorem dX13_mustFit_190 : decode cX13_mustFit 190 = .ok (.getfield 829, 3) := by decide +kernel
theorem dX13_mustFit_193 : decode cX13_mustFit 193 = .ok (.iconst 1, 1) := by decide +kernel
theorem dX13_mustFit_194 : decode cX13_mustFit 194 = .ok (.iadd, 1) := by decide +kernel
theorem dX13_mustFit_195 : decode cX13_mustFit 195 = .ok (.putfield 829, 3) := by decide +kernel
theorem dX13_mustFit_198 : decode cX13_mustFit 198 = .ok (.return_, 1) := by decide +kernel
