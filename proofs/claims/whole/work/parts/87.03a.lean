theorem dX1_begin_0 : decode cX1_begin 0 = .ok (.aload_n 0, 1) := by decide +kernel
theorem dX1_begin_1 : decode cX1_begin 1 = .ok (.dup, 1) := by decide +kernel
theorem dX1_begin_2 : decode cX1_begin 2 = .ok (.getfield 100, 3) := by decide +kernel
theorem dX1_begin_5 : decode cX1_begin 5 = .ok (.iconst 1, 1) := by decide +kernel
theorem dX1_begin_6 : decode cX1_begin 6 = .ok (.iadd, 1) := by decide +kernel
theorem dX1_begin_7 : decode cX1_begin 7 = .ok (.putfield 100, 3) := by decide +kernel
theorem dX1_begin_10 : decode cX1_begin 10 = .ok (.aload_n 0, 1) := by decide +kernel
theorem dX1_begin_11 : decode cX1_begin 11 = .ok (.iconst 0, 1) := by decide +kernel
theorem dX1_begin_12 : decode cX1_begin 12 = .ok (.putfield 103, 3) := by decide +kernel
theorem dX1_begin_15 : decode cX1_begin 15 = .ok (.aload_n 0, 1) := by decide +kernel
theorem dX1_begin_16 : decode cX1_begin 16 = .ok (.iconst 0, 1) := by decide +kernel
theorem dX1_begin_17 : decode cX1_begin 17 = .ok (.putfield 106, 3) := by decide +kernel
theorem dX1_begin_20 : decode cX1_begin 20 = .ok (.iconst 1, 1) := by decide +kernel
theorem dX1_begin_21 : decode cX1_begin 21 = .ok (.istore_n 3, 1) := by decide +kernel
theorem dX1_begin_22 : decode cX1_begin 22 = .ok (.aload_n 1, 1) := by decide +kernel
theorem dX1_begin_23 : decode cX1_begin 23 = .ok (.astore 4, 2) := by decide +kernel
theorem dX1_begin_25 : decode cX1_begin 25 = .ok (.aload 4, 2) := by decide +kernel
theorem dX1_begin_27 : decode cX1_begin 27 = .ok (.ifnull 56, 3) := by decide +kernel
theorem dX1_begin_30 : decode cX1_begin 30 = .ok (.aload 4, 2) := by decide +kernel
theorem dX1_begin_32 : decode cX1_begin 32 = .ok (.getfield 109, 3) := by decide +kernel
theorem dX1_begin_35 : decode cX1_begin 35 = .ok (.ifnull 38, 3) := by decide +kernel
theorem dX1_begin_38 : decode cX1_begin 38 = .ok (.aload 4, 2) := by decide +kernel
theorem dX1_begin_40 : decode cX1_begin 40 = .ok (.getfield 109, 3) := by decide +kernel
theorem dX1_begin_43 : decode cX1_begin 43 = .ok (.invokevirtual 115, 3) := by decide +kernel
theorem dX1_begin_46 : decode cX1_begin 46 = .ok (.ifCond .eq 27, 3) := by decide +kernel
theorem dX1_begin_49 : decode cX1_begin 49 = .ok (.aload 4, 2) := by decide +kernel
theorem dX1_begin_51 : decode cX1_begin 51 = .ok (.getfield 109, 3) := by decide +kernel
theorem dX1_begin_54 : decode cX1_begin 54 = .ok (.iload_n 3, 1) := by decide +kernel
theorem dX1_begin_55 : decode cX1_begin 55 = .ok (.putfield 118, 3) := by decide +kernel
theorem dX1_begin_58 : decode cX1_begin 58 = .ok (.aload 4, 2) := by decide +kernel
theorem dX1_begin_60 : decode cX1_begin 60 = .ok (.getfield 109, 3) := by decide +kernel
theorem dX1_begin_63 : decode cX1_begin 63 = .ok (.aload_n 0, 1) := by decide +kernel
theorem dX1_begin_64 : decode cX1_begin 64 = .ok (.getfield 100, 3) := by decide +kernel
theorem dX1_begin_67 : decode cX1_begin 67 = .ok (.putfield 121, 3) := by decide +kernel
theorem dX1_begin_70 : decode cX1_begin 70 = .ok (.iinc 3 1, 3) := by decide +kernel
theorem dX1_begin_73 : decode cX1_begin 73 = .ok (.aload 4, 2) := by decide +kernel
theorem dX1_begin_75 : decode cX1_begin 75 = .ok (.getfield 122, 3) := by decide +kernel
theorem dX1_begin_78 : decode cX1_begin 78 = .ok (.astore 4, 2) := by decide +kernel
theorem dX1_begin_80 : decode cX1_begin 80 = .ok (.goto (-55), 3) := by decide +kernel
theorem dX1_begin_83 : decode cX1_begin 83 = .ok (.aload_n 0, 1) := by decide +kernel
theorem dX1_begin_84 : decode cX1_begin 84 = .ok (.getfield 12, 3) := by decide +kernel
theorem dX1_begin_87 : decode cX1_begin 87 = .ok (.iload_n 3, 1) := by decide +kernel
theorem dX1_begin_88 : decode cX1_begin 88 = .ok (.invokevirtual 126, 3) := by decide +kernel
theorem dX1_begin_91 : decode cX1_begin 91 = .ok (.aload_n 2, 1) := by decide +kernel
theorem dX1_begin_92 : decode cX1_begin 92 = .ok (.ifnull 9, 3) := by decide +kernel
theorem dX1_begin_95 : decode cX1_begin 95 = .ok (.aload_n 0, 1) := by decide +kernel
theorem dX1_begin_96 : decode cX1_begin 96 = .ok (.aload_n 2, 1) := by decide +kernel
theorem dX1_begin_97 : decode cX1_begin 97 = .ok (.iconst 0, 1) := by decide +kernel
theorem dX1_begin_98 : decode cX1_begin 98 = .ok (.invokevirtual 129, 3) := by decide +kernel
theorem dX1_begin_101 : decode cX1_begin 101 = .ok (.aload_n 1, 1) := by decide +kernel
theorem dX1_begin_102 : decode cX1_begin 102 = .ok (.astore 4, 2) := by decide +kernel
theorem dX1_begin_104 : decode cX1_begin 104 = .ok (.aload 4, 2) := by decide +kernel
theorem dX1_begin_106 : decode cX1_begin 106 = .ok (.ifnull 80, 3) := by decide +kernel
theorem dX1_begin_109 : decode cX1_begin 109 = .ok (.aload 4, 2) := by decide +kernel
theorem dX1_begin_111 : decode cX1_begin 111 = .ok (.getfield 133, 3) := by decide +kernel
theorem dX1_begin_114 : decode cX1_begin 114 = .ok (.ifnull 20, 3) := by decide +kernel
theorem dX1_begin_117 : decode cX1_begin 117 = .ok (.aload_n 0, 1) := by decide +kernel
theorem dX1_begin_118 : decode cX1_begin 118 = .ok (.aload 4, 2) := by decide +kernel
theorem dX1_begin_120 : decode cX1_begin 120 = .ok (.getfield 133, 3) := by decide +kernel
theorem dX1_begin_123 : decode cX1_begin 123 = .ok (.aload 4, 2) := by decide +kernel
theorem dX1_begin_125 : decode cX1_begin 125 = .ok (.getfield 137, 3) := by decide +kernel
theorem dX1_begin_128 : decode cX1_begin 128 = .ok (.invokevirtual 69, 3) := by decide +kernel
theorem dX1_begin_131 : decode cX1_begin 131 = .ok (.goto 45, 3) := by decide +kernel
theorem dX1_begin_134 : decode cX1_begin 134 = .ok (.aload 4, 2) := by decide +kernel
theorem dX1_begin_136 : decode cX1_begin 136 = .ok (.getfield 109, 3) := by decide +kernel
theorem dX1_begin_139 : decode cX1_begin 139 = .ok (.invokevirtual 115, 3) := by decide +kernel
theorem dX1_begin_142 : decode cX1_begin 142 = .ok (.ifCond .eq 34, 3) := by decide +kernel
theorem dX1_begin_145 : decode cX1_begin 145 = .ok (.aload 4, 2) := by decide +kernel
theorem dX1_begin_147 : decode cX1_begin 147 = .ok (.getfield 109, 3) := by decide +kernel
theorem dX1_begin_150 : decode cX1_begin 150 = .ok (.getfield 140, 3) := by decide +kernel
theorem dX1_begin_153 : decode cX1_begin 153 = .ok (.ifnull 23, 3) := by decide +kernel
theorem dX1_begin_156 : decode cX1_begin 156 = .ok (.aload_n 0, 1) := by decide +kernel
theorem dX1_begin_157 : decode cX1_begin 157 = .ok (.aload 4, 2) := by decide +kernel
theorem dX1_begin_159 : decode cX1_begin 159 = .ok (.getfield 109, 3) := by decide +kernel
theorem dX1_begin_162 : decode cX1_begin 162 = .ok (.getfield 140, 3) := by decide +kernel
theorem dX1_begin_165 : decode cX1_begin 165 = .ok (.aload 4, 2) := by decide +kernel
theorem dX1_begin_167 : decode cX1_begin 167 = .ok (.getfield 109, 3) := by decide +kernel
theorem dX1_begin_170 : decode cX1_begin 170 = .ok (.getfield 118, 3) := by decide +kernel
theorem dX1_begin_173 : decode cX1_begin 173 = .ok (.invokevirtual 129, 3) := by decide +kernel
theorem dX1_begin_176 : decode cX1_begin 176 = .ok (.aload 4, 2) := by decide +kernel
theorem dX1_begin_178 : decode cX1_begin 178 = .ok (.getfield 122, 3) := by decide +kernel
theorem dX1_begin_181 : decode cX1_begin 181 = .ok (.astore 4, 2) := by decide +kernel
theorem dX1_begin_183 : decode cX1_begin 183 = .ok (.goto (-79), 3) := by decide +kernel
theorem dX1_begin_186 : decode cX1_begin 186 = .ok (.return_, 1) := by decide +kernel
theorem dX1_learn_0 : decode cX1_learn 0 = .ok (.aload_n 1, 1) := by decide +kernel
theorem dX1_learn_1 : decode cX1_learn 1 = .ok (.getfield 143, 3) := by decide +kernel
theorem dX1_learn_4 : decode cX1_learn 4 = .ok (.sipush 210, 3) := by decide +kernel
theorem dX1_learn_7 : decode cX1_learn 7 = .ok (.if_icmp .eq 21, 3) := by decide +kernel
theorem dX1_learn_10 : decode cX1_learn 10 = .ok (.aload_n 0, 1) := by decide +kernel
theorem dX1_learn_11 : decode cX1_learn 11 = .ok (.getfield 12, 3) := by decide +kernel
theorem dX1_learn_14 : decode cX1_learn 14 = .ok (.iconst 2, 1) := by decide +kernel
theorem dX1_learn_15 : decode cX1_learn 15 = .ok (.iload_n 2, 1) := by decide +kernel
theorem dX1_learn_16 : decode cX1_learn 16 = .ok (.imul, 1) := by decide +kernel
theorem dX1_learn_17 : decode cX1_learn 17 = .ok (.iconst 1, 1) := by decide +kernel
theorem dX1_learn_18 : decode cX1_learn 18 = .ok (.iadd, 1) := by decide +kernel
theorem dX1_learn_19 : decode cX1_learn 19 = .ok (.iconst 2, 1) := by decide +kernel
theorem dX1_learn_20 : decode cX1_learn 20 = .ok (.iload_n 2, 1) := by decide +kernel
theorem dX1_learn_21 : decode cX1_learn 21 = .ok (.imul, 1) := by decide +kernel
theorem dX1_learn_22 : decode cX1_learn 22 = .ok (.iconst 1, 1) := by decide +kernel
theorem dX1_learn_23 : decode cX1_learn 23 = .ok (.iadd, 1) := by decide +kernel
theorem dX1_learn_24 : decode cX1_learn 24 = .ok (.lconst 0, 1) := by decide +kernel
theorem dX1_learn_25 : decode cX1_learn 25 = .ok (.invokevirtual 144, 3) := by decide +kernel
theorem dX1_learn_28 : decode cX1_learn 28 = .ok (.iconst 0, 1) := by decide +kernel
theorem dX1_learn_29 : decode cX1_learn 29 = .ok (.istore_n 3, 1) := by decide +kernel
theorem dX1_learn_30 : decode cX1_learn 30 = .ok (.iload_n 3, 1) := by decide +kernel
theorem dX1_learn_31 : decode cX1_learn 31 = .ok (.aload_n 1, 1) := by decide +kernel
theorem dX1_learn_32 : decode cX1_learn 32 = .ok (.getfield 37, 3) := by decide +kernel
theorem dX1_learn_35 : decode cX1_learn 35 = .ok (.getfield 43, 3) := by decide +kernel
theorem dX1_learn_38 : decode cX1_learn 38 = .ok (.if_icmp .ge 22, 3) := by decide +kernel
theorem dX1_learn_41 : decode cX1_learn 41 = .ok (.aload_n 1, 1) := by decide +kernel
theorem dX1_learn_42 : decode cX1_learn 42 = .ok (.iload_n 3, 1) := by decide +kernel
theorem dX1_learn_43 : decode cX1_learn 43 = .ok (.invokevirtual 148, 3) := by decide +kernel
theorem dX1_learn_46 : decode cX1_learn 46 = .ok (.aload_n 0, 1) := by decide +kernel
theorem dX1_learn_47 : decode cX1_learn 47 = .ok (.aload_n 1, 1) := by decide +kernel
theorem dX1_learn_48 : decode cX1_learn 48 = .ok (.iload_n 2, 1) := by decide +kernel
theorem dX1_learn_49 : decode cX1_learn 49 = .ok (.iconst 0, 1) := by decide +kernel
theorem dX1_learn_50 : decode cX1_learn 50 = .ok (.invokevirtual 151, 3) := by decide +kernel
theorem dX1_learn_53 : decode cX1_learn 53 = .ok (.pop, 1) := by decide +kernel
theorem dX1_learn_54 : decode cX1_learn 54 = .ok (.iinc 3 1, 3) := by decide +kernel
theorem dX1_learn_57 : decode cX1_learn 57 = .ok (.goto (-27), 3) := by decide +kernel
theorem dX1_learn_60 : decode cX1_learn 60 = .ok (.return_, 1) := by decide +kernel
theorem dX1_meet_0 : decode cX1_meet 0 = .ok (.aload_n 1, 1) := by decide +kernel
theorem dX1_meet_1 : decode cX1_meet 1 = .ok (.getfield 155, 3) := by decide +kernel
theorem dX1_meet_4 : decode cX1_meet 4 = .ok (.ifnull 27, 3) := by decide +kernel
theorem dX1_meet_7 : decode cX1_meet 7 = .ok (.aload_n 1, 1) := by decide +kernel
theorem dX1_meet_8 : decode cX1_meet 8 = .ok (.getfield 155, 3) := by decide +kernel
theorem dX1_meet_11 : decode cX1_meet 11 = .ok (.getfield 121, 3) := by decide +kernel
theorem dX1_meet_14 : decode cX1_meet 14 = .ok (.aload_n 0, 1) := by decide +kernel
theorem dX1_meet_15 : decode cX1_meet 15 = .ok (.getfield 100, 3) := by decide +kernel
theorem dX1_meet_18 : decode cX1_meet 18 = .ok (.if_icmp .eq 13, 3) := by decide +kernel
theorem dX1_meet_21 : decode cX1_meet 21 = .ok (.iload_n 3, 1) := by decide +kernel
theorem dX1_meet_22 : decode cX1_meet 22 = .ok (.ifCond .ne 7, 3) := by decide +kernel
theorem dX1_meet_25 : decode cX1_meet 25 = .ok (.iconst 1, 1) := by decide +kernel
theorem dX1_meet_26 : decode cX1_meet 26 = .ok (.goto 4, 3) := by decide +kernel
theorem dX1_meet_29 : decode cX1_meet 29 = .ok (.iconst 0, 1) := by decide +kernel
theorem dX1_meet_30 : decode cX1_meet 30 = .ok (.ireturn, 1) := by decide +kernel
theorem dX1_meet_31 : decode cX1_meet 31 = .ok (.iconst 1, 1) := by decide +kernel
theorem dX1_meet_32 : decode cX1_meet 32 = .ok (.istore 4, 2) := by decide +kernel
theorem dX1_meet_34 : decode cX1_meet 34 = .ok (.aload_n 1, 1) := by decide +kernel
theorem dX1_meet_35 : decode cX1_meet 35 = .ok (.getfield 156, 3) := by decide +kernel
theorem dX1_meet_38 : decode cX1_meet 38 = .ok (.bipush 60, 2) := by decide +kernel
theorem dX1_meet_40 : decode cX1_meet 40 = .ok (.if_icmp .eq 12, 3) := by decide +kernel
theorem dX1_meet_43 : decode cX1_meet 43 = .ok (.aload_n 1, 1) := by decide +kernel
theorem dX1_meet_44 : decode cX1_meet 44 = .ok (.getfield 156, 3) := by decide +kernel
theorem dX1_meet_47 : decode cX1_meet 47 = .ok (.bipush 62, 2) := by decide +kernel
theorem dX1_meet_49 : decode cX1_meet 49 = .ok (.if_icmp .ne 7, 3) := by decide +kernel
theorem dX1_meet_52 : decode cX1_meet 52 = .ok (.iconst 1, 1) := by decide +kernel
theorem dX1_meet_53 : decode cX1_meet 53 = .ok (.goto 4, 3) := by decide +kernel
theorem dX1_meet_56 : decode cX1_meet 56 = .ok (.iconst 0, 1) := by decide +kernel
theorem dX1_meet_57 : decode cX1_meet 57 = .ok (.istore 5, 2) := by decide +kernel
theorem dX1_meet_59 : decode cX1_meet 59 = .ok (.iconst 1, 1) := by decide +kernel
theorem dX1_meet_60 : decode cX1_meet 60 = .ok (.istore 6, 2) := by decide +kernel
theorem dX1_meet_62 : decode cX1_meet 62 = .ok (.iload 6, 2) := by decide +kernel
theorem dX1_meet_64 : decode cX1_meet 64 = .ok (.iconst (-1), 1) := by decide +kernel
theorem dX1_meet_65 : decode cX1_meet 65 = .ok (.if_icmp .lt 189, 3) := by decide +kernel
theorem dX1_meet_68 : decode cX1_meet 68 = .ok (.iload 6, 2) := by decide +kernel
theorem dX1_meet_70 : decode cX1_meet 70 = .ok (.i2l, 1) := by decide +kernel
theorem dX1_meet_71 : decode cX1_meet 71 = .ok (.aload_n 1, 1) := by decide +kernel
theorem dX1_meet_72 : decode cX1_meet 72 = .ok (.getfield 159, 3) := by decide +kernel
theorem dX1_meet_75 : decode cX1_meet 75 = .ok (.lmul, 1) := by decide +kernel
theorem dX1_meet_76 : decode cX1_meet 76 = .ok (.iload 5, 2) := by decide +kernel
theorem dX1_meet_78 : decode cX1_meet 78 = .ok (.i2l, 1) := by decide +kernel
theorem dX1_meet_79 : decode cX1_meet 79 = .ok (.lsub, 1) := by decide +kernel
theorem dX1_meet_80 : decode cX1_meet 80 = .ok (.lstore 7, 2) := by decide +kernel
theorem dX1_meet_82 : decode cX1_meet 82 = .ok (.iconst 2, 1) := by decide +kernel
theorem dX1_meet_83 : decode cX1_meet 83 = .ok (.iload_n 2, 1) := by decide +kernel
theorem dX1_meet_84 : decode cX1_meet 84 = .ok (.imul, 1) := by decide +kernel
theorem dX1_meet_85 : decode cX1_meet 85 = .ok (.iload 6, 2) := by decide +kernel
theorem dX1_meet_87 : decode cX1_meet 87 = .ok (.ifCond .le 7, 3) := by decide +kernel
theorem dX1_meet_90 : decode cX1_meet 90 = .ok (.iconst 0, 1) := by decide +kernel
theorem dX1_meet_91 : decode cX1_meet 91 = .ok (.goto 4, 3) := by decide +kernel
theorem dX1_meet_94 : decode cX1_meet 94 = .ok (.iconst 1, 1) := by decide +kernel
theorem dX1_meet_95 : decode cX1_meet 95 = .ok (.iadd, 1) := by decide +kernel
theorem dX1_meet_96 : decode cX1_meet 96 = .ok (.istore 9, 2) := by decide +kernel
theorem dX1_meet_98 : decode cX1_meet 98 = .ok (.iload 9, 2) := by decide +kernel
theorem dX1_meet_100 : decode cX1_meet 100 = .ok (.istore 10, 2) := by decide +kernel
theorem dX1_meet_102 : decode cX1_meet 102 = .ok (.aload_n 1, 1) := by decide +kernel
theorem dX1_meet_103 : decode cX1_meet 103 = .ok (.getfield 155, 3) := by decide +kernel
theorem dX1_meet_106 : decode cX1_meet 106 = .ok (.ifnonnull 14, 3) := by decide +kernel
theorem dX1_meet_109 : decode cX1_meet 109 = .ok (.lload 7, 2) := by decide +kernel
theorem dX1_meet_111 : decode cX1_meet 111 = .ok (.ldc2_w 163, 3) := by decide +kernel
theorem dX1_meet_114 : decode cX1_meet 114 = .ok (.lmul, 1) := by decide +kernel
theorem dX1_meet_115 : decode cX1_meet 115 = .ok (.lstore 7, 2) := by decide +kernel
theorem dX1_meet_117 : decode cX1_meet 117 = .ok (.goto 20, 3) := by decide +kernel
theorem dX1_meet_120 : decode cX1_meet 120 = .ok (.aload_n 1, 1) := by decide +kernel
theorem dX1_meet_121 : decode cX1_meet 121 = .ok (.getfield 155, 3) := by decide +kernel
theorem dX1_meet_124 : decode cX1_meet 124 = .ok (.iload 6, 2) := by decide +kernel
theorem dX1_meet_126 : decode cX1_meet 126 = .ok (.ineg, 1) := by decide +kernel
theorem dX1_meet_127 : decode cX1_meet 127 = .ok (.aload_n 1, 1) := by decide +kernel
theorem dX1_meet_128 : decode cX1_meet 128 = .ok (.getfield 165, 3) := by decide +kernel
theorem dX1_meet_131 : decode cX1_meet 131 = .ok (.imul, 1) := by decide +kernel
theorem dX1_meet_132 : decode cX1_meet 132 = .ok (.invokestatic 168, 3) := by decide +kernel
theorem dX1_meet_135 : decode cX1_meet 135 = .ok (.istore 10, 2) := by decide +kernel
theorem dX1_meet_137 : decode cX1_meet 137 = .ok (.aload_n 1, 1) := by decide +kernel
theorem dX1_meet_138 : decode cX1_meet 138 = .ok (.getfield 156, 3) := by decide +kernel
theorem dX1_meet_141 : decode cX1_meet 141 = .ok (.bipush 61, 2) := by decide +kernel
theorem dX1_meet_143 : decode cX1_meet 143 = .ok (.if_icmp .eq 40, 3) := by decide +kernel
theorem dX1_meet_146 : decode cX1_meet 146 = .ok (.aload_n 1, 1) := by decide +kernel
theorem dX1_meet_147 : decode cX1_meet 147 = .ok (.getfield 156, 3) := by decide +kernel
theorem dX1_meet_150 : decode cX1_meet 150 = .ok (.bipush 60, 2) := by decide +kernel
theorem dX1_meet_152 : decode cX1_meet 152 = .ok (.if_icmp .eq 13, 3) := by decide +kernel
theorem dX1_meet_155 : decode cX1_meet 155 = .ok (.aload_n 1, 1) := by decide +kernel
theorem dX1_meet_156 : decode cX1_meet 156 = .ok (.getfield 156, 3) := by decide +kernel
theorem dX1_meet_159 : decode cX1_meet 159 = .ok (.sipush 300, 3) := by decide +kernel
theorem dX1_meet_162 : decode cX1_meet 162 = .ok (.if_icmp .ne 7, 3) := by decide +kernel
theorem dX1_meet_165 : decode cX1_meet 165 = .ok (.iconst 1, 1) := by decide +kernel
theorem dX1_meet_166 : decode cX1_meet 166 = .ok (.goto 4, 3) := by decide +kernel
theorem dX1_meet_169 : decode cX1_meet 169 = .ok (.iconst 0, 1) := by decide +kernel
theorem dX1_meet_170 : decode cX1_meet 170 = .ok (.iload 6, 2) := by decide +kernel
theorem dX1_meet_172 : decode cX1_meet 172 = .ok (.ifCond .le 7, 3) := by decide +kernel
theorem dX1_meet_175 : decode cX1_meet 175 = .ok (.iconst 1, 1) := by decide +kernel
theorem dX1_meet_176 : decode cX1_meet 176 = .ok (.goto 4, 3) := by decide +kernel
theorem dX1_meet_179 : decode cX1_meet 179 = .ok (.iconst 0, 1) := by decide +kernel
theorem dX1_meet_180 : decode cX1_meet 180 = .ok (.if_icmp .ne 7, 3) := by decide +kernel
theorem dX1_meet_183 : decode cX1_meet 183 = .ok (.iconst 1, 1) := by decide +kernel
theorem dX1_meet_184 : decode cX1_meet 184 = .ok (.goto 4, 3) := by decide +kernel
theorem dX1_meet_187 : decode cX1_meet 187 = .ok (.iconst 0, 1) := by decide +kernel
theorem dX1_meet_188 : decode cX1_meet 188 = .ok (.istore 11, 2) := by decide +kernel
theorem dX1_meet_190 : decode cX1_meet 190 = .ok (.iload 11, 2) := by decide +kernel
theorem dX1_meet_192 : decode cX1_meet 192 = .ok (.ifCond .eq 38, 3) := by decide +kernel
theorem dX1_meet_195 : decode cX1_meet 195 = .ok (.iload_n 3, 1) := by decide +kernel
theorem dX1_meet_196 : decode cX1_meet 196 = .ok (.ifCond .eq 34, 3) := by decide +kernel
theorem dX1_meet_199 : decode cX1_meet 199 = .ok (.iload 4, 2) := by decide +kernel
theorem dX1_meet_201 : decode cX1_meet 201 = .ok (.ifCond .eq 23, 3) := by decide +kernel
theorem dX1_meet_204 : decode cX1_meet 204 = .ok (.aload_n 0, 1) := by decide +kernel
theorem dX1_meet_205 : decode cX1_meet 205 = .ok (.getfield 12, 3) := by decide +kernel
theorem dX1_meet_208 : decode cX1_meet 208 = .ok (.iload 9, 2) := by decide +kernel
theorem dX1_meet_210 : decode cX1_meet 210 = .ok (.iload 10, 2) := by decide +kernel
theorem dX1_meet_212 : decode cX1_meet 212 = .ok (.lload 7, 2) := by decide +kernel
theorem dX1_meet_214 : decode cX1_meet 214 = .ok (.invokevirtual 172, 3) := by decide +kernel
theorem dX1_meet_217 : decode cX1_meet 217 = .ok (.ifCond .eq 7, 3) := by decide +kernel
theorem dX1_meet_220 : decode cX1_meet 220 = .ok (.iconst 1, 1) := by decide +kernel
theorem dX1_meet_221 : decode cX1_meet 221 = .ok (.goto 4, 3) := by decide +kernel
theorem dX1_meet_224 : decode cX1_meet 224 = .ok (.iconst 0, 1) := by decide +kernel
theorem dX1_meet_225 : decode cX1_meet 225 = .ok (.istore 4, 2) := by decide +kernel
theorem dX1_meet_227 : decode cX1_meet 227 = .ok (.goto 21, 3) := by decide +kernel
theorem dX1_meet_230 : decode cX1_meet 230 = .ok (.iload 11, 2) := by decide +kernel
theorem dX1_meet_232 : decode cX1_meet 232 = .ok (.ifCond .eq 16, 3) := by decide +kernel
theorem dX1_meet_235 : decode cX1_meet 235 = .ok (.aload_n 0, 1) := by decide +kernel
theorem dX1_meet_236 : decode cX1_meet 236 = .ok (.getfield 12, 3) := by decide +kernel
theorem dX1_meet_239 : decode cX1_meet 239 = .ok (.iload 9, 2) := by decide +kernel
theorem dX1_meet_241 : decode cX1_meet 241 = .ok (.iload 10, 2) := by decide +kernel
theorem dX1_meet_243 : decode cX1_meet 243 = .ok (.lload 7, 2) := by decide +kernel
theorem dX1_meet_245 : decode cX1_meet 245 = .ok (.invokevirtual 144, 3) := by decide +kernel
theorem dX1_meet_248 : decode cX1_meet 248 = .ok (.iinc 6 (-2), 3) := by decide +kernel
theorem dX1_meet_251 : decode cX1_meet 251 = .ok (.goto (-189), 3) := by decide +kernel
theorem dX1_meet_254 : decode cX1_meet 254 = .ok (.iload 4, 2) := by decide +kernel
theorem dX1_meet_256 : decode cX1_meet 256 = .ok (.ireturn, 1) := by decide +kernel
theorem dX1_assume_0 : decode cX1_assume 0 = .ok (.aload_n 1, 1) := by decide +kernel
theorem dX1_assume_1 : decode cX1_assume 1 = .ok (.getfield 73, 3) := by decide +kernel
theorem dX1_assume_4 : decode cX1_assume 4 = .ok (.lookupswitch 159 #[(217, 52), (302, 72), (303, 72), (402, 138), (403, 150)], 52) := by decide +kernel
theorem dX1_assume_56 : decode cX1_assume 56 = .ok (.aload_n 0, 1) := by decide +kernel
theorem dX1_assume_57 : decode cX1_assume 57 = .ok (.aload_n 1, 1) := by decide +kernel
theorem dX1_assume_58 : decode cX1_assume 58 = .ok (.getfield 176, 3) := by decide +kernel
theorem dX1_assume_61 : decode cX1_assume 61 = .ok (.iload_n 2, 1) := by decide +kernel
theorem dX1_assume_62 : decode cX1_assume 62 = .ok (.ifCond .ne 7, 3) := by decide +kernel
theorem dX1_assume_65 : decode cX1_assume 65 = .ok (.iconst 1, 1) := by decide +kernel
theorem dX1_assume_66 : decode cX1_assume 66 = .ok (.goto 4, 3) := by decide +kernel
theorem dX1_assume_69 : decode cX1_assume 69 = .ok (.iconst 0, 1) := by decide +kernel
theorem dX1_assume_70 : decode cX1_assume 70 = .ok (.invokevirtual 69, 3) := by decide +kernel
theorem dX1_assume_73 : decode cX1_assume 73 = .ok (.goto 131, 3) := by decide +kernel
theorem dX1_assume_76 : decode cX1_assume 76 = .ok (.aload_n 1, 1) := by decide +kernel
theorem dX1_assume_77 : decode cX1_assume 77 = .ok (.getfield 73, 3) := by decide +kernel
theorem dX1_assume_80 : decode cX1_assume 80 = .ok (.sipush 302, 3) := by decide +kernel
theorem dX1_assume_83 : decode cX1_assume 83 = .ok (.if_icmp .ne 7, 3) := by decide +kernel
theorem dX1_assume_86 : decode cX1_assume 86 = .ok (.iconst 1, 1) := by decide +kernel
theorem dX1_assume_87 : decode cX1_assume 87 = .ok (.goto 4, 3) := by decide +kernel
theorem dX1_assume_90 : decode cX1_assume 90 = .ok (.iconst 0, 1) := by decide +kernel
theorem dX1_assume_91 : decode cX1_assume 91 = .ok (.iload_n 2, 1) := by decide +kernel
theorem dX1_assume_92 : decode cX1_assume 92 = .ok (.if_icmp .eq 12, 3) := by decide +kernel
theorem dX1_assume_95 : decode cX1_assume 95 = .ok (.aload_n 0, 1) := by decide +kernel
theorem dX1_assume_96 : decode cX1_assume 96 = .ok (.aload_n 1, 1) := by decide +kernel
theorem dX1_assume_97 : decode cX1_assume 97 = .ok (.iload_n 2, 1) := by decide +kernel
theorem dX1_assume_98 : decode cX1_assume 98 = .ok (.invokevirtual 179, 3) := by decide +kernel
theorem dX1_assume_101 : decode cX1_assume 101 = .ok (.goto 103, 3) := by decide +kernel
theorem dX1_assume_104 : decode cX1_assume 104 = .ok (.iconst 0, 1) := by decide +kernel
theorem dX1_assume_105 : decode cX1_assume 105 = .ok (.istore_n 3, 1) := by decide +kernel
theorem dX1_assume_106 : decode cX1_assume 106 = .ok (.iload_n 3, 1) := by decide +kernel
theorem dX1_assume_107 : decode cX1_assume 107 = .ok (.aload_n 1, 1) := by decide +kernel
theorem dX1_assume_108 : decode cX1_assume 108 = .ok (.getfield 86, 3) := by decide +kernel
theorem dX1_assume_111 : decode cX1_assume 111 = .ok (.invokevirtual 90, 3) := by decide +kernel
theorem dX1_assume_114 : decode cX1_assume 114 = .ok (.if_icmp .ge 25, 3) := by decide +kernel
theorem dX1_assume_117 : decode cX1_assume 117 = .ok (.aload_n 0, 1) := by decide +kernel
theorem dX1_assume_118 : decode cX1_assume 118 = .ok (.aload_n 1, 1) := by decide +kernel
theorem dX1_assume_119 : decode cX1_assume 119 = .ok (.getfield 86, 3) := by decide +kernel
theorem dX1_assume_122 : decode cX1_assume 122 = .ok (.iload_n 3, 1) := by decide +kernel
theorem dX1_assume_123 : decode cX1_assume 123 = .ok (.invokevirtual 96, 3) := by decide +kernel
theorem dX1_assume_126 : decode cX1_assume 126 = .ok (.checkcast 18, 3) := by decide +kernel
theorem dX1_assume_129 : decode cX1_assume 129 = .ok (.iload_n 2, 1) := by decide +kernel
theorem dX1_assume_130 : decode cX1_assume 130 = .ok (.invokevirtual 69, 3) := by decide +kernel
theorem dX1_assume_133 : decode cX1_assume 133 = .ok (.iinc 3 1, 3) := by decide +kernel
theorem dX1_assume_136 : decode cX1_assume 136 = .ok (.goto (-30), 3) := by decide +kernel
theorem dX1_assume_139 : decode cX1_assume 139 = .ok (.goto 65, 3) := by decide +kernel
theorem dX1_assume_142 : decode cX1_assume 142 = .ok (.aload_n 0, 1) := by decide +kernel
theorem dX1_assume_143 : decode cX1_assume 143 = .ok (.aload_n 1, 1) := by decide +kernel
theorem dX1_assume_144 : decode cX1_assume 144 = .ok (.getfield 182, 3) := by decide +kernel
theorem dX1_assume_147 : decode cX1_assume 147 = .ok (.iload_n 2, 1) := by decide +kernel
theorem dX1_assume_148 : decode cX1_assume 148 = .ok (.invokevirtual 183, 3) := by decide +kernel
theorem dX1_assume_151 : decode cX1_assume 151 = .ok (.goto 53, 3) := by decide +kernel
theorem dX1_assume_154 : decode cX1_assume 154 = .ok (.aload_n 0, 1) := by decide +kernel
theorem dX1_assume_155 : decode cX1_assume 155 = .ok (.aload_n 1, 1) := by decide +kernel
theorem dX1_assume_156 : decode cX1_assume 156 = .ok (.iload_n 2, 1) := by decide +kernel
theorem dX1_assume_157 : decode cX1_assume 157 = .ok (.invokevirtual 187, 3) := by decide +kernel
theorem dX1_assume_160 : decode cX1_assume 160 = .ok (.goto 44, 3) := by decide +kernel
theorem dX1_assume_163 : decode cX1_assume 163 = .ok (.aload_n 0, 1) := by decide +kernel
theorem dX1_assume_164 : decode cX1_assume 164 = .ok (.getfield 12, 3) := by decide +kernel
theorem dX1_assume_167 : decode cX1_assume 167 = .ok (.aload_n 0, 1) := by decide +kernel
theorem dX1_assume_168 : decode cX1_assume 168 = .ok (.getfield 12, 3) := by decide +kernel
theorem dX1_assume_171 : decode cX1_assume 171 = .ok (.getfield 190, 3) := by decide +kernel
theorem dX1_assume_174 : decode cX1_assume 174 = .ok (.ifCond .ne 22, 3) := by decide +kernel
theorem dX1_assume_177 : decode cX1_assume 177 = .ok (.aload_n 1, 1) := by decide +kernel
theorem dX1_assume_178 : decode cX1_assume 178 = .ok (.getfield 73, 3) := by decide +kernel
theorem dX1_assume_181 : decode cX1_assume 181 = .ok (.sipush 223, 3) := by decide +kernel
theorem dX1_assume_184 : decode cX1_assume 184 = .ok (.if_icmp .ne 7, 3) := by decide +kernel
theorem dX1_assume_187 : decode cX1_assume 187 = .ok (.iconst 1, 1) := by decide +kernel
theorem dX1_assume_188 : decode cX1_assume 188 = .ok (.goto 4, 3) := by decide +kernel
theorem dX1_assume_191 : decode cX1_assume 191 = .ok (.iconst 0, 1) := by decide +kernel
theorem dX1_assume_192 : decode cX1_assume 192 = .ok (.iload_n 2, 1) := by decide +kernel
theorem dX1_assume_193 : decode cX1_assume 193 = .ok (.if_icmp .eq 7, 3) := by decide +kernel
theorem dX1_assume_196 : decode cX1_assume 196 = .ok (.iconst 1, 1) := by decide +kernel
theorem dX1_assume_197 : decode cX1_assume 197 = .ok (.goto 4, 3) := by decide +kernel
theorem dX1_assume_200 : decode cX1_assume 200 = .ok (.iconst 0, 1) := by decide +kernel
theorem dX1_assume_201 : decode cX1_assume 201 = .ok (.putfield 190, 3) := by decide +kernel
theorem dX1_assume_204 : decode cX1_assume 204 = .ok (.return_, 1) := by decide +kernel
theorem dX1_postpone_0 : decode cX1_postpone 0 = .ok (.aload_n 0, 1) := by decide +kernel
theorem dX1_postpone_1 : decode cX1_postpone 1 = .ok (.getfield 103, 3) := by decide +kernel
theorem dX1_postpone_4 : decode cX1_postpone 4 = .ok (.bipush 40, 2) := by decide +kernel
theorem dX1_postpone_6 : decode cX1_postpone 6 = .ok (.if_icmp .ge 33, 3) := by decide +kernel
theorem dX1_postpone_9 : decode cX1_postpone 9 = .ok (.aload_n 0, 1) := by decide +kernel
theorem dX1_postpone_10 : decode cX1_postpone 10 = .ok (.getfield 20, 3) := by decide +kernel
theorem dX1_postpone_13 : decode cX1_postpone 13 = .ok (.aload_n 0, 1) := by decide +kernel
theorem dX1_postpone_14 : decode cX1_postpone 14 = .ok (.getfield 103, 3) := by decide +kernel
theorem dX1_postpone_17 : decode cX1_postpone 17 = .ok (.aload_n 1, 1) := by decide +kernel
theorem dX1_postpone_18 : decode cX1_postpone 18 = .ok (.aastore, 1) := by decide +kernel
theorem dX1_postpone_19 : decode cX1_postpone 19 = .ok (.aload_n 0, 1) := by decide +kernel
theorem dX1_postpone_20 : decode cX1_postpone 20 = .ok (.getfield 24, 3) := by decide +kernel
theorem dX1_postpone_23 : decode cX1_postpone 23 = .ok (.aload_n 0, 1) := by decide +kernel
theorem dX1_postpone_24 : decode cX1_postpone 24 = .ok (.getfield 103, 3) := by decide +kernel
theorem dX1_postpone_27 : decode cX1_postpone 27 = .ok (.iload_n 2, 1) := by decide +kernel
theorem dX1_postpone_28 : decode cX1_postpone 28 = .ok (.bastore, 1) := by decide +kernel
theorem dX1_postpone_29 : decode cX1_postpone 29 = .ok (.aload_n 0, 1) := by decide +kernel
theorem dX1_postpone_30 : decode cX1_postpone 30 = .ok (.dup, 1) := by decide +kernel
theorem dX1_postpone_31 : decode cX1_postpone 31 = .ok (.getfield 103, 3) := by decide +kernel
theorem dX1_postpone_34 : decode cX1_postpone 34 = .ok (.iconst 1, 1) := by decide +kernel
theorem dX1_postpone_35 : decode cX1_postpone 35 = .ok (.iadd, 1) := by decide +kernel
theorem dX1_postpone_36 : decode cX1_postpone 36 = .ok (.putfield 103, 3) := by decide +kernel
theorem dX1_postpone_39 : decode cX1_postpone 39 = .ok (.return_, 1) := by decide +kernel
theorem dX1_choose_0 : decode cX1_choose 0 = .ok (.iconst 0, 1) := by decide +kernel
theorem dX1_choose_1 : decode cX1_choose 1 = .ok (.istore_n 3, 1) := by decide +kernel
theorem dX1_choose_2 : decode cX1_choose 2 = .ok (.iload_n 3, 1) := by decide +kernel
theorem dX1_choose_3 : decode cX1_choose 3 = .ok (.aload_n 0, 1) := by decide +kernel
theorem dX1_choose_4 : decode cX1_choose 4 = .ok (.getfield 106, 3) := by decide +kernel
theorem dX1_choose_7 : decode cX1_choose 7 = .ok (.if_icmp .ge 37, 3) := by decide +kernel
theorem dX1_choose_10 : decode cX1_choose 10 = .ok (.aload_n 0, 1) := by decide +kernel
theorem dX1_choose_11 : decode cX1_choose 11 = .ok (.getfield 30, 3) := by decide +kernel
theorem dX1_choose_14 : decode cX1_choose 14 = .ok (.iload_n 3, 1) := by decide +kernel
theorem dX1_choose_15 : decode cX1_choose 15 = .ok (.aaload, 1) := by decide +kernel
theorem dX1_choose_16 : decode cX1_choose 16 = .ok (.aload_n 1, 1) := by decide +kernel
theorem dX1_choose_17 : decode cX1_choose 17 = .ok (.if_acmp .ne 21, 3) := by decide +kernel
theorem dX1_choose_20 : decode cX1_choose 20 = .ok (.aload_n 0, 1) := by decide +kernel
theorem dX1_choose_21 : decode cX1_choose 21 = .ok (.getfield 34, 3) := by decide +kernel
theorem dX1_choose_24 : decode cX1_choose 24 = .ok (.iload_n 3, 1) := by decide +kernel
theorem dX1_choose_25 : decode cX1_choose 25 = .ok (.baload, 1) := by decide +kernel
theorem dX1_choose_26 : decode cX1_choose 26 = .ok (.iload_n 2, 1) := by decide +kernel
theorem dX1_choose_27 : decode cX1_choose 27 = .ok (.if_icmp .eq 11, 3) := by decide +kernel
theorem dX1_choose_30 : decode cX1_choose 30 = .ok (.aload_n 0, 1) := by decide +kernel
theorem dX1_choose_31 : decode cX1_choose 31 = .ok (.getfield 12, 3) := by decide +kernel
theorem dX1_choose_34 : decode cX1_choose 34 = .ok (.iconst 1, 1) := by decide +kernel
theorem dX1_choose_35 : decode cX1_choose 35 = .ok (.putfield 190, 3) := by decide +kernel
theorem dX1_choose_38 : decode cX1_choose 38 = .ok (.iinc 3 1, 3) := by decide +kernel
theorem dX1_choose_41 : decode cX1_choose 41 = .ok (.goto (-39), 3) := by decide +kernel
theorem dX1_choose_44 : decode cX1_choose 44 = .ok (.aload_n 0, 1) := by decide +kernel
theorem dX1_choose_45 : decode cX1_choose 45 = .ok (.getfield 106, 3) := by decide +kernel
theorem dX1_choose_48 : decode cX1_choose 48 = .ok (.bipush 40, 2) := by decide +kernel
theorem dX1_choose_50 : decode cX1_choose 50 = .ok (.if_icmp .ge 33, 3) := by decide +kernel
theorem dX1_choose_53 : decode cX1_choose 53 = .ok (.aload_n 0, 1) := by decide +kernel
theorem dX1_choose_54 : decode cX1_choose 54 = .ok (.getfield 30, 3) := by decide +kernel
theorem dX1_choose_57 : decode cX1_choose 57 = .ok (.aload_n 0, 1) := by decide +kernel
theorem dX1_choose_58 : decode cX1_choose 58 = .ok (.getfield 106, 3) := by decide +kernel
theorem dX1_choose_61 : decode cX1_choose 61 = .ok (.aload_n 1, 1) := by decide +kernel
theorem dX1_choose_62 : decode cX1_choose 62 = .ok (.aastore, 1) := by decide +kernel
theorem dX1_choose_63 : decode cX1_choose 63 = .ok (.aload_n 0, 1) := by decide +kernel
theorem dX1_choose_64 : decode cX1_choose 64 = .ok (.getfield 34, 3) := by decide +kernel
theorem dX1_choose_67 : decode cX1_choose 67 = .ok (.aload_n 0, 1) := by decide +kernel
theorem dX1_choose_68 : decode cX1_choose 68 = .ok (.getfield 106, 3) := by decide +kernel
theorem dX1_choose_71 : decode cX1_choose 71 = .ok (.iload_n 2, 1) := by decide +kernel
theorem dX1_choose_72 : decode cX1_choose 72 = .ok (.bastore, 1) := by decide +kernel
theorem dX1_choose_73 : decode cX1_choose 73 = .ok (.aload_n 0, 1) := by decide +kernel
theorem dX1_choose_74 : decode cX1_choose 74 = .ok (.dup, 1) := by decide +kernel
theorem dX1_choose_75 : decode cX1_choose 75 = .ok (.getfield 106, 3) := by decide +kernel
theorem dX1_choose_78 : decode cX1_choose 78 = .ok (.iconst 1, 1) := by decide +kernel
theorem dX1_choose_79 : decode cX1_choose 79 = .ok (.iadd, 1) := by decide +kernel
theorem dX1_choose_80 : decode cX1_choose 80 = .ok (.putfield 106, 3) := by decide +kernel
theorem dX1_choose_83 : decode cX1_choose 83 = .ok (.return_, 1) := by decide +kernel
theorem dX1_compare_0 : decode cX1_compare 0 = .ok (.iload_n 2, 1) := by decide +kernel
theorem dX1_compare_1 : decode cX1_compare 1 = .ok (.ifCond .eq 10, 3) := by decide +kernel
theorem dX1_compare_4 : decode cX1_compare 4 = .ok (.aload_n 1, 1) := by decide +kernel
theorem dX1_compare_5 : decode cX1_compare 5 = .ok (.getfield 193, 3) := by decide +kernel
theorem dX1_compare_8 : decode cX1_compare 8 = .ok (.goto 10, 3) := by decide +kernel
theorem dX1_compare_11 : decode cX1_compare 11 = .ok (.aload_n 1, 1) := by decide +kernel
theorem dX1_compare_12 : decode cX1_compare 12 = .ok (.getfield 193, 3) := by decide +kernel
theorem dX1_compare_15 : decode cX1_compare 15 = .ok (.invokestatic 194, 3) := by decide +kernel
theorem dX1_compare_18 : decode cX1_compare 18 = .ok (.istore_n 3, 1) := by decide +kernel
theorem dX1_compare_19 : decode cX1_compare 19 = .ok (.iload_n 3, 1) := by decide +kernel
theorem dX1_compare_20 : decode cX1_compare 20 = .ok (.bipush 35, 2) := by decide +kernel
theorem dX1_compare_22 : decode cX1_compare 22 = .ok (.if_icmp .ne 10, 3) := by decide +kernel
theorem dX1_compare_25 : decode cX1_compare 25 = .ok (.aload_n 0, 1) := by decide +kernel
theorem dX1_compare_26 : decode cX1_compare 26 = .ok (.aload_n 1, 1) := by decide +kernel
theorem dX1_compare_27 : decode cX1_compare 27 = .ok (.iload_n 2, 1) := by decide +kernel
theorem dX1_compare_28 : decode cX1_compare 28 = .ok (.invokevirtual 179, 3) := by decide +kernel
theorem dX1_compare_31 : decode cX1_compare 31 = .ok (.return_, 1) := by decide +kernel
theorem dX1_compare_32 : decode cX1_compare 32 = .ok (.iload_n 3, 1) := by decide +kernel
theorem dX1_compare_33 : decode cX1_compare 33 = .ok (.bipush 62, 2) := by decide +kernel
theorem dX1_compare_35 : decode cX1_compare 35 = .ok (.if_icmp .eq 30, 3) := by decide +kernel
theorem dX1_compare_38 : decode cX1_compare 38 = .ok (.iload_n 3, 1) := by decide +kernel
theorem dX1_compare_39 : decode cX1_compare 39 = .ok (.sipush 301, 3) := by decide +kernel
theorem dX1_compare_42 : decode cX1_compare 42 = .ok (.if_icmp .eq 23, 3) := by decide +kernel
theorem dX1_compare_45 : decode cX1_compare 45 = .ok (.aload_n 0, 1) := by decide +kernel
theorem dX1_compare_46 : decode cX1_compare 46 = .ok (.aload_n 1, 1) := by decide +kernel
theorem dX1_compare_47 : decode cX1_compare 47 = .ok (.getfield 76, 3) := by decide +kernel
theorem dX1_compare_50 : decode cX1_compare 50 = .ok (.iconst 1, 1) := by decide +kernel
theorem dX1_compare_51 : decode cX1_compare 51 = .ok (.iload_n 3, 1) := by decide +kernel
theorem dX1_compare_52 : decode cX1_compare 52 = .ok (.bipush 60, 2) := by decide +kernel
theorem dX1_compare_54 : decode cX1_compare 54 = .ok (.if_icmp .ne 7, 3) := by decide +kernel
theorem dX1_compare_57 : decode cX1_compare 57 = .ok (.iconst 1, 1) := by decide +kernel
theorem dX1_compare_58 : decode cX1_compare 58 = .ok (.goto 4, 3) := by decide +kernel
theorem dX1_compare_61 : decode cX1_compare 61 = .ok (.iconst 0, 1) := by decide +kernel
theorem dX1_compare_62 : decode cX1_compare 62 = .ok (.invokevirtual 198, 3) := by decide +kernel
theorem dX1_compare_65 : decode cX1_compare 65 = .ok (.iload_n 3, 1) := by decide +kernel
theorem dX1_compare_66 : decode cX1_compare 66 = .ok (.bipush 60, 2) := by decide +kernel
theorem dX1_compare_68 : decode cX1_compare 68 = .ok (.if_icmp .eq 30, 3) := by decide +kernel
theorem dX1_compare_71 : decode cX1_compare 71 = .ok (.iload_n 3, 1) := by decide +kernel
theorem dX1_compare_72 : decode cX1_compare 72 = .ok (.sipush 300, 3) := by decide +kernel
theorem dX1_compare_75 : decode cX1_compare 75 = .ok (.if_icmp .eq 23, 3) := by decide +kernel
theorem dX1_compare_78 : decode cX1_compare 78 = .ok (.aload_n 0, 1) := by decide +kernel
theorem dX1_compare_79 : decode cX1_compare 79 = .ok (.aload_n 1, 1) := by decide +kernel
theorem dX1_compare_80 : decode cX1_compare 80 = .ok (.getfield 76, 3) := by decide +kernel
theorem dX1_compare_83 : decode cX1_compare 83 = .ok (.iconst (-1), 1) := by decide +kernel
theorem dX1_compare_84 : decode cX1_compare 84 = .ok (.iload_n 3, 1) := by decide +kernel
theorem dX1_compare_85 : decode cX1_compare 85 = .ok (.bipush 62, 2) := by decide +kernel
theorem dX1_compare_87 : decode cX1_compare 87 = .ok (.if_icmp .ne 7, 3) := by decide +kernel
theorem dX1_compare_90 : decode cX1_compare 90 = .ok (.iconst 1, 1) := by decide +kernel
theorem dX1_compare_91 : decode cX1_compare 91 = .ok (.goto 4, 3) := by decide +kernel
theorem dX1_compare_94 : decode cX1_compare 94 = .ok (.iconst 0, 1) := by decide +kernel
theorem dX1_compare_95 : decode cX1_compare 95 = .ok (.invokevirtual 198, 3) := by decide +kernel
theorem dX1_compare_98 : decode cX1_compare 98 = .ok (.return_, 1) := by decide +kernel
theorem dX1_opposite_0 : decode cX1_opposite 0 = .ok (.iload_n 0, 1) := by decide +kernel
theorem dX1_opposite_1 : decode cX1_opposite 1 = .ok (.lookupswitch 57 #[(60, 43), (62, 50), (300, 47), (301, 54)], 43) := by decide +kernel
theorem dX1_opposite_44 : decode cX1_opposite 44 = .ok (.sipush 301, 3) := by decide +kernel
theorem dX1_opposite_47 : decode cX1_opposite 47 = .ok (.ireturn, 1) := by decide +kernel
theorem dX1_opposite_48 : decode cX1_opposite 48 = .ok (.bipush 62, 2) := by decide +kernel
theorem dX1_opposite_50 : decode cX1_opposite 50 = .ok (.ireturn, 1) := by decide +kernel
theorem dX1_opposite_51 : decode cX1_opposite 51 = .ok (.sipush 300, 3) := by decide +kernel
theorem dX1_opposite_54 : decode cX1_opposite 54 = .ok (.ireturn, 1) := by decide +kernel
theorem dX1_opposite_55 : decode cX1_opposite 55 = .ok (.bipush 60, 2) := by decide +kernel
theorem dX1_opposite_57 : decode cX1_opposite 57 = .ok (.ireturn, 1) := by decide +kernel
theorem dX1_opposite_58 : decode cX1_opposite 58 = .ok (.iload_n 0, 1) := by decide +kernel
theorem dX1_opposite_59 : decode cX1_opposite 59 = .ok (.bipush 61, 2) := by decide +kernel
theorem dX1_opposite_61 : decode cX1_opposite 61 = .ok (.if_icmp .ne 8, 3) := by decide +kernel
theorem dX1_opposite_64 : decode cX1_opposite 64 = .ok (.bipush 35, 2) := by decide +kernel
theorem dX1_opposite_66 : decode cX1_opposite 66 = .ok (.goto 5, 3) := by decide +kernel
theorem dX1_opposite_69 : decode cX1_opposite 69 = .ok (.bipush 61, 2) := by decide +kernel
theorem dX1_opposite_71 : decode cX1_opposite 71 = .ok (.ireturn, 1) := by decide +kernel
theorem dX1_limit_0 : decode cX1_limit 0 = .ok (.iload_n 2, 1) := by decide +kernel
theorem dX1_limit_1 : decode cX1_limit 1 = .ok (.ineg, 1) := by decide +kernel
theorem dX1_limit_2 : decode cX1_limit 2 = .ok (.i2l, 1) := by decide +kernel
theorem dX1_limit_3 : decode cX1_limit 3 = .ok (.aload_n 1, 1) := by decide +kernel
theorem dX1_limit_4 : decode cX1_limit 4 = .ok (.getfield 201, 3) := by decide +kernel
theorem dX1_limit_7 : decode cX1_limit 7 = .ok (.lmul, 1) := by decide +kernel
theorem dX1_limit_8 : decode cX1_limit 8 = .ok (.iload_n 3, 1) := by decide +kernel
theorem dX1_limit_9 : decode cX1_limit 9 = .ok (.i2l, 1) := by decide +kernel
theorem dX1_limit_10 : decode cX1_limit 10 = .ok (.lsub, 1) := by decide +kernel
theorem dX1_limit_11 : decode cX1_limit 11 = .ok (.lstore 4, 2) := by decide +kernel
theorem dX1_limit_13 : decode cX1_limit 13 = .ok (.aload_n 1, 1) := by decide +kernel
theorem dX1_limit_14 : decode cX1_limit 14 = .ok (.getfield 202, 3) := by decide +kernel
theorem dX1_limit_17 : decode cX1_limit 17 = .ok (.ifCond .ne 35, 3) := by decide +kernel
theorem dX1_limit_20 : decode cX1_limit 20 = .ok (.aload_n 0, 1) := by decide +kernel
theorem dX1_limit_21 : decode cX1_limit 21 = .ok (.getfield 12, 3) := by decide +kernel
theorem dX1_limit_24 : decode cX1_limit 24 = .ok (.aload_n 0, 1) := by decide +kernel
theorem dX1_limit_25 : decode cX1_limit 25 = .ok (.getfield 12, 3) := by decide +kernel
theorem dX1_limit_28 : decode cX1_limit 28 = .ok (.getfield 190, 3) := by decide +kernel
theorem dX1_limit_31 : decode cX1_limit 31 = .ok (.ifCond .ne 10, 3) := by decide +kernel
theorem dX1_limit_34 : decode cX1_limit 34 = .ok (.lload 4, 2) := by decide +kernel
theorem dX1_limit_36 : decode cX1_limit 36 = .ok (.lconst 0, 1) := by decide +kernel
theorem dX1_limit_37 : decode cX1_limit 37 = .ok (.lcmp, 1) := by decide +kernel
theorem dX1_limit_38 : decode cX1_limit 38 = .ok (.ifCond .ge 7, 3) := by decide +kernel
theorem dX1_limit_41 : decode cX1_limit 41 = .ok (.iconst 1, 1) := by decide +kernel
theorem dX1_limit_42 : decode cX1_limit 42 = .ok (.goto 4, 3) := by decide +kernel
theorem dX1_limit_45 : decode cX1_limit 45 = .ok (.iconst 0, 1) := by decide +kernel
theorem dX1_limit_46 : decode cX1_limit 46 = .ok (.putfield 190, 3) := by decide +kernel
theorem dX1_limit_49 : decode cX1_limit 49 = .ok (.goto 150, 3) := by decide +kernel
theorem dX1_limit_52 : decode cX1_limit 52 = .ok (.aload_n 1, 1) := by decide +kernel
theorem dX1_limit_53 : decode cX1_limit 53 = .ok (.invokevirtual 80, 3) := by decide +kernel
theorem dX1_limit_56 : decode cX1_limit 56 = .ok (.ifCond .eq 143, 3) := by decide +kernel
theorem dX1_limit_59 : decode cX1_limit 59 = .ok (.aload_n 1, 1) := by decide +kernel
theorem dX1_limit_60 : decode cX1_limit 60 = .ok (.getfield 203, 3) := by decide +kernel
theorem dX1_limit_63 : decode cX1_limit 63 = .ok (.iconst 0, 1) := by decide +kernel
theorem dX1_limit_64 : decode cX1_limit 64 = .ok (.aaload, 1) := by decide +kernel
theorem dX1_limit_65 : decode cX1_limit 65 = .ok (.getfield 121, 3) := by decide +kernel
theorem dX1_limit_68 : decode cX1_limit 68 = .ok (.aload_n 0, 1) := by decide +kernel
theorem dX1_limit_69 : decode cX1_limit 69 = .ok (.getfield 100, 3) := by decide +kernel
theorem dX1_limit_72 : decode cX1_limit 72 = .ok (.if_icmp .ne 127, 3) := by decide +kernel
theorem dX1_limit_75 : decode cX1_limit 75 = .ok (.aload_n 1, 1) := by decide +kernel
theorem dX1_limit_76 : decode cX1_limit 76 = .ok (.getfield 203, 3) := by decide +kernel
theorem dX1_limit_79 : decode cX1_limit 79 = .ok (.aload_n 1, 1) := by decide +kernel
theorem dX1_limit_80 : decode cX1_limit 80 = .ok (.getfield 202, 3) := by decide +kernel
theorem dX1_limit_83 : decode cX1_limit 83 = .ok (.iconst 1, 1) := by decide +kernel
theorem dX1_limit_84 : decode cX1_limit 84 = .ok (.isub, 1) := by decide +kernel
theorem dX1_limit_85 : decode cX1_limit 85 = .ok (.aaload, 1) := by decide +kernel
theorem dX1_limit_86 : decode cX1_limit 86 = .ok (.getfield 121, 3) := by decide +kernel
theorem dX1_limit_89 : decode cX1_limit 89 = .ok (.aload_n 0, 1) := by decide +kernel
theorem dX1_limit_90 : decode cX1_limit 90 = .ok (.getfield 100, 3) := by decide +kernel
theorem dX1_limit_93 : decode cX1_limit 93 = .ok (.if_icmp .ne 106, 3) := by decide +kernel
theorem dX1_limit_96 : decode cX1_limit 96 = .ok (.aload_n 1, 1) := by decide +kernel
theorem dX1_limit_97 : decode cX1_limit 97 = .ok (.getfield 203, 3) := by decide +kernel
theorem dX1_limit_100 : decode cX1_limit 100 = .ok (.iconst 0, 1) := by decide +kernel
theorem dX1_limit_101 : decode cX1_limit 101 = .ok (.aaload, 1) := by decide +kernel
theorem dX1_limit_102 : decode cX1_limit 102 = .ok (.iload_n 2, 1) := by decide +kernel
theorem dX1_limit_103 : decode cX1_limit 103 = .ok (.aload_n 1, 1) := by decide +kernel
theorem dX1_limit_104 : decode cX1_limit 104 = .ok (.getfield 206, 3) := by decide +kernel
theorem dX1_limit_107 : decode cX1_limit 107 = .ok (.iconst 0, 1) := by decide +kernel
theorem dX1_limit_108 : decode cX1_limit 108 = .ok (.iaload, 1) := by decide +kernel
theorem dX1_limit_109 : decode cX1_limit 109 = .ok (.imul, 1) := by decide +kernel
theorem dX1_limit_110 : decode cX1_limit 110 = .ok (.invokestatic 168, 3) := by decide +kernel
theorem dX1_limit_113 : decode cX1_limit 113 = .ok (.istore 6, 2) := by decide +kernel
theorem dX1_limit_115 : decode cX1_limit 115 = .ok (.aload_n 1, 1) := by decide +kernel
theorem dX1_limit_116 : decode cX1_limit 116 = .ok (.getfield 203, 3) := by decide +kernel
theorem dX1_limit_119 : decode cX1_limit 119 = .ok (.aload_n 1, 1) := by decide +kernel
theorem dX1_limit_120 : decode cX1_limit 120 = .ok (.getfield 202, 3) := by decide +kernel
theorem dX1_limit_123 : decode cX1_limit 123 = .ok (.iconst 1, 1) := by decide +kernel
theorem dX1_limit_124 : decode cX1_limit 124 = .ok (.isub, 1) := by decide +kernel
theorem dX1_limit_125 : decode cX1_limit 125 = .ok (.aaload, 1) := by decide +kernel
theorem dX1_limit_126 : decode cX1_limit 126 = .ok (.iload_n 2, 1) := by decide +kernel
theorem dX1_limit_127 : decode cX1_limit 127 = .ok (.aload_n 1, 1) := by decide +kernel
theorem dX1_limit_128 : decode cX1_limit 128 = .ok (.getfield 206, 3) := by decide +kernel
theorem dX1_limit_131 : decode cX1_limit 131 = .ok (.aload_n 1, 1) := by decide +kernel
theorem dX1_limit_132 : decode cX1_limit 132 = .ok (.getfield 202, 3) := by decide +kernel
theorem dX1_limit_135 : decode cX1_limit 135 = .ok (.iconst 1, 1) := by decide +kernel
theorem dX1_limit_136 : decode cX1_limit 136 = .ok (.isub, 1) := by decide +kernel
theorem dX1_limit_137 : decode cX1_limit 137 = .ok (.iaload, 1) := by decide +kernel
theorem dX1_limit_138 : decode cX1_limit 138 = .ok (.imul, 1) := by decide +kernel
theorem dX1_limit_139 : decode cX1_limit 139 = .ok (.invokestatic 168, 3) := by decide +kernel
theorem dX1_limit_142 : decode cX1_limit 142 = .ok (.istore 7, 2) := by decide +kernel
theorem dX1_limit_144 : decode cX1_limit 144 = .ok (.aload_n 1, 1) := by decide +kernel
theorem dX1_limit_145 : decode cX1_limit 145 = .ok (.getfield 202, 3) := by decide +kernel
theorem dX1_limit_148 : decode cX1_limit 148 = .ok (.iconst 1, 1) := by decide +kernel
theorem dX1_limit_149 : decode cX1_limit 149 = .ok (.if_icmp .ne 20, 3) := by decide +kernel
theorem dX1_limit_152 : decode cX1_limit 152 = .ok (.aload_n 1, 1) := by decide +kernel
theorem dX1_limit_153 : decode cX1_limit 153 = .ok (.getfield 206, 3) := by decide +kernel
theorem dX1_limit_156 : decode cX1_limit 156 = .ok (.iconst 0, 1) := by decide +kernel
theorem dX1_limit_157 : decode cX1_limit 157 = .ok (.iaload, 1) := by decide +kernel
theorem dX1_limit_158 : decode cX1_limit 158 = .ok (.invokestatic 209, 3) := by decide +kernel
theorem dX1_limit_161 : decode cX1_limit 161 = .ok (.iconst 1, 1) := by decide +kernel
theorem dX1_limit_162 : decode cX1_limit 162 = .ok (.if_icmp .ne 7, 3) := by decide +kernel
theorem dX1_limit_165 : decode cX1_limit 165 = .ok (.iconst 1, 1) := by decide +kernel
theorem dX1_limit_166 : decode cX1_limit 166 = .ok (.goto 4, 3) := by decide +kernel
theorem dX1_limit_169 : decode cX1_limit 169 = .ok (.iconst 0, 1) := by decide +kernel
theorem dX1_limit_170 : decode cX1_limit 170 = .ok (.istore 8, 2) := by decide +kernel
theorem dX1_limit_172 : decode cX1_limit 172 = .ok (.aload_n 0, 1) := by decide +kernel
theorem dX1_limit_173 : decode cX1_limit 173 = .ok (.getfield 12, 3) := by decide +kernel
theorem dX1_limit_176 : decode cX1_limit 176 = .ok (.iload 6, 2) := by decide +kernel
theorem dX1_limit_178 : decode cX1_limit 178 = .ok (.iload 7, 2) := by decide +kernel
theorem dX1_limit_180 : decode cX1_limit 180 = .ok (.iload 8, 2) := by decide +kernel
theorem dX1_limit_182 : decode cX1_limit 182 = .ok (.ifCond .eq 12, 3) := by decide +kernel
theorem dX1_limit_185 : decode cX1_limit 185 = .ok (.ldc2_w 163, 3) := by decide +kernel
theorem dX1_limit_188 : decode cX1_limit 188 = .ok (.lload 4, 2) := by decide +kernel
theorem dX1_limit_190 : decode cX1_limit 190 = .ok (.lmul, 1) := by decide +kernel
theorem dX1_limit_191 : decode cX1_limit 191 = .ok (.goto 5, 3) := by decide +kernel
theorem dX1_limit_194 : decode cX1_limit 194 = .ok (.lload 4, 2) := by decide +kernel
theorem dX1_limit_196 : decode cX1_limit 196 = .ok (.invokevirtual 144, 3) := by decide +kernel
theorem dX1_limit_199 : decode cX1_limit 199 = .ok (.return_, 1) := by decide +kernel
theorem dX6_close_0 : decode cX6_close 0 = .ok (.aload_n 0, 1) := by decide +kernel
theorem dX6_close_1 : decode cX6_close 1 = .ok (.iconst 1, 1) := by decide +kernel
theorem dX6_close_2 : decode cX6_close 2 = .ok (.putfield 20, 3) := by decide +kernel
theorem dX6_close_5 : decode cX6_close 5 = .ok (.iconst 0, 1) := by decide +kernel
theorem dX6_close_6 : decode cX6_close 6 = .ok (.istore_n 1, 1) := by decide +kernel
theorem dX6_close_7 : decode cX6_close 7 = .ok (.iload_n 1, 1) := by decide +kernel
theorem dX6_close_8 : decode cX6_close 8 = .ok (.aload_n 0, 1) := by decide +kernel
theorem dX6_close_9 : decode cX6_close 9 = .ok (.getfield 13, 3) := by decide +kernel
theorem dX6_close_12 : decode cX6_close 12 = .ok (.if_icmp .ge 78, 3) := by decide +kernel
theorem dX6_close_15 : decode cX6_close 15 = .ok (.aload_n 0, 1) := by decide +kernel
theorem dX6_close_16 : decode cX6_close 16 = .ok (.getfield 24, 3) := by decide +kernel
theorem dX6_close_19 : decode cX6_close 19 = .ok (.ifCond .ne 71, 3) := by decide +kernel
theorem dX6_close_22 : decode cX6_close 22 = .ok (.aload_n 0, 1) := by decide +kernel
theorem dX6_close_23 : decode cX6_close 23 = .ok (.iload_n 1, 1) := by decide +kernel
theorem dX6_close_24 : decode cX6_close 24 = .ok (.iload_n 1, 1) := by decide +kernel
theorem dX6_close_25 : decode cX6_close 25 = .ok (.lconst 0, 1) := by decide +kernel
theorem dX6_close_26 : decode cX6_close 26 = .ok (.invokevirtual 51, 3) := by decide +kernel
theorem dX6_close_29 : decode cX6_close 29 = .ok (.iconst 0, 1) := by decide +kernel
theorem dX6_close_30 : decode cX6_close 30 = .ok (.istore_n 2, 1) := by decide +kernel
theorem dX6_close_31 : decode cX6_close 31 = .ok (.iload_n 2, 1) := by decide +kernel
theorem dX6_close_32 : decode cX6_close 32 = .ok (.aload_n 0, 1) := by decide +kernel
theorem dX6_close_33 : decode cX6_close 33 = .ok (.getfield 13, 3) := by decide +kernel
theorem dX6_close_36 : decode cX6_close 36 = .ok (.if_icmp .ge 48, 3) := by decide +kernel
theorem dX6_close_39 : decode cX6_close 39 = .ok (.aload_n 0, 1) := by decide +kernel
theorem dX6_close_40 : decode cX6_close 40 = .ok (.aload_n 0, 1) := by decide +kernel
theorem dX6_close_41 : decode cX6_close 41 = .ok (.getfield 24, 3) := by decide +kernel
theorem dX6_close_44 : decode cX6_close 44 = .ok (.ifCond .ne 26, 3) := by decide +kernel
theorem dX6_close_47 : decode cX6_close 47 = .ok (.aload_n 0, 1) := by decide +kernel
theorem dX6_close_48 : decode cX6_close 48 = .ok (.getfield 7, 3) := by decide +kernel
theorem dX6_close_51 : decode cX6_close 51 = .ok (.aload_n 0, 1) := by decide +kernel
theorem dX6_close_52 : decode cX6_close 52 = .ok (.getfield 17, 3) := by decide +kernel
theorem dX6_close_55 : decode cX6_close 55 = .ok (.iload_n 2, 1) := by decide +kernel
theorem dX6_close_56 : decode cX6_close 56 = .ok (.aload_n 0, 1) := by decide +kernel
theorem dX6_close_57 : decode cX6_close 57 = .ok (.getfield 13, 3) := by decide +kernel
theorem dX6_close_60 : decode cX6_close 60 = .ok (.imul, 1) := by decide +kernel
theorem dX6_close_61 : decode cX6_close 61 = .ok (.iadd, 1) := by decide +kernel
theorem dX6_close_62 : decode cX6_close 62 = .ok (.iload_n 2, 1) := by decide +kernel
theorem dX6_close_63 : decode cX6_close 63 = .ok (.iadd, 1) := by decide +kernel
theorem dX6_close_64 : decode cX6_close 64 = .ok (.laload, 1) := by decide +kernel
theorem dX6_close_65 : decode cX6_close 65 = .ok (.lconst 0, 1) := by decide +kernel
theorem dX6_close_66 : decode cX6_close 66 = .ok (.lcmp, 1) := by decide +kernel
theorem dX6_close_67 : decode cX6_close 67 = .ok (.ifCond .ge 7, 3) := by decide +kernel
theorem dX6_close_70 : decode cX6_close 70 = .ok (.iconst 1, 1) := by decide +kernel
theorem dX6_close_71 : decode cX6_close 71 = .ok (.goto 4, 3) := by decide +kernel
theorem dX6_close_74 : decode cX6_close 74 = .ok (.iconst 0, 1) := by decide +kernel
theorem dX6_close_75 : decode cX6_close 75 = .ok (.putfield 24, 3) := by decide +kernel
theorem dX6_close_78 : decode cX6_close 78 = .ok (.iinc 2 1, 3) := by decide +kernel
theorem dX6_close_81 : decode cX6_close 81 = .ok (.goto (-50), 3) := by decide +kernel
theorem dX6_close_84 : decode cX6_close 84 = .ok (.iinc 1 1, 3) := by decide +kernel
theorem dX6_close_87 : decode cX6_close 87 = .ok (.goto (-80), 3) := by decide +kernel
theorem dX6_close_90 : decode cX6_close 90 = .ok (.aload_n 0, 1) := by decide +kernel
theorem dX6_close_91 : decode cX6_close 91 = .ok (.invokevirtual 55, 3) := by decide +kernel
theorem dX6_close_94 : decode cX6_close 94 = .ok (.return_, 1) := by decide +kernel
