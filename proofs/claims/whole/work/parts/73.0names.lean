theorem dX13_real_0 : decode cX13_real 0 = .ok (.iload_n 1, 1) := by decide +kernel
theorem dX13_real_1 : decode cX13_real 1 = .ok (.istore_n 2, 1) := by decide +kernel
theorem dX13_real_2 : decode cX13_real 2 = .ok (.aload_n 0, 1) := by decide +kernel
theorem dX13_real_3 : decode cX13_real 3 = .ok (.getfield 122, 3) := by decide +kernel
theorem dX13_real_6 : decode cX13_real 6 = .ok (.iload_n 2, 1) := by decide +kernel
theorem dX13_real_7 : decode cX13_real 7 = .ok (.iaload, 1) := by decide +kernel
theorem dX13_real_8 : decode cX13_real 8 = .ok (.ifCond .lt 13, 3) := by decide +kernel
theorem dX13_real_11 : decode cX13_real 11 = .ok (.aload_n 0, 1) := by decide +kernel
theorem dX13_real_12 : decode cX13_real 12 = .ok (.getfield 122, 3) := by decide +kernel
theorem dX13_real_15 : decode cX13_real 15 = .ok (.iload_n 2, 1) := by decide +kernel
theorem dX13_real_16 : decode cX13_real 16 = .ok (.iaload, 1) := by decide +kernel
theorem dX13_real_17 : decode cX13_real 17 = .ok (.istore_n 2, 1) := by decide +kernel
theorem dX13_real_18 : decode cX13_real 18 = .ok (.goto (-16), 3) := by decide +kernel
theorem dX13_real_21 : decode cX13_real 21 = .ok (.iload_n 2, 1) := by decide +kernel
theorem dX13_real_22 : decode cX13_real 22 = .ok (.ireturn, 1) := by decide +kernel
theorem dX13_isIn_0 : decode cX13_isIn 0 = .ok (.aload_n 0, 1) := by decide +kernel
theorem dX13_isIn_1 : decode cX13_isIn 1 = .ok (.iload_n 2, 1) := by decide +kernel
theorem dX13_isIn_2 : decode cX13_isIn 2 = .ok (.invokevirtual 668, 3) := by decide +kernel
theorem dX13_isIn_5 : decode cX13_isIn 5 = .ok (.istore_n 3, 1) := by decide +kernel
theorem dX13_isIn_6 : decode cX13_isIn 6 = .ok (.iload_n 3, 1) := by decide +kernel
theorem dX13_isIn_7 : decode cX13_isIn 7 = .ok (.iload_n 1, 1) := by decide +kernel
theorem dX13_isIn_8 : decode cX13_isIn 8 = .ok (.if_icmp .ne 5, 3) := by decide +kernel
theorem dX13_isIn_11 : decode cX13_isIn 11 = .ok (.iconst 1, 1) := by decide +kernel
theorem dX13_isIn_12 : decode cX13_isIn 12 = .ok (.ireturn, 1) := by decide +kernel
theorem dX13_isIn_13 : decode cX13_isIn 13 = .ok (.aload_n 0, 1) := by decide +kernel
theorem dX13_isIn_14 : decode cX13_isIn 14 = .ok (.getfield 113, 3) := by decide +kernel
theorem dX13_isIn_17 : decode cX13_isIn 17 = .ok (.iload_n 3, 1) := by decide +kernel
theorem dX13_isIn_18 : decode cX13_isIn 18 = .ok (.iaload, 1) := by decide +kernel
theorem dX13_isIn_19 : decode cX13_isIn 19 = .ok (.iconst 4, 1) := by decide +kernel
theorem dX13_isIn_20 : decode cX13_isIn 20 = .ok (.if_icmp .ne 16, 3) := by decide +kernel
theorem dX13_isIn_23 : decode cX13_isIn 23 = .ok (.aload_n 0, 1) := by decide +kernel
theorem dX13_isIn_24 : decode cX13_isIn 24 = .ok (.getfield 125, 3) := by decide +kernel
theorem dX13_isIn_27 : decode cX13_isIn 27 = .ok (.iload_n 3, 1) := by decide +kernel
theorem dX13_isIn_28 : decode cX13_isIn 28 = .ok (.iaload, 1) := by decide +kernel
theorem dX13_isIn_29 : decode cX13_isIn 29 = .ok (.aload_n 0, 1) := by decide +kernel
theorem dX13_isIn_30 : decode cX13_isIn 30 = .ok (.getfield 671, 3) := by decide +kernel
theorem dX13_isIn_33 : decode cX13_isIn 33 = .ok (.if_icmp .ne 5, 3) := by decide +kernel
theorem dX13_isIn_36 : decode cX13_isIn 36 = .ok (.iconst 0, 1) := by decide +kernel
theorem dX13_isIn_37 : decode cX13_isIn 37 = .ok (.ireturn, 1) := by decide +kernel
theorem dX13_isIn_38 : decode cX13_isIn 38 = .ok (.aload_n 0, 1) := by decide +kernel
theorem dX13_isIn_39 : decode cX13_isIn 39 = .ok (.getfield 125, 3) := by decide +kernel
theorem dX13_isIn_42 : decode cX13_isIn 42 = .ok (.iload_n 3, 1) := by decide +kernel
theorem dX13_isIn_43 : decode cX13_isIn 43 = .ok (.aload_n 0, 1) := by decide +kernel
theorem dX13_isIn_44 : decode cX13_isIn 44 = .ok (.getfield 671, 3) := by decide +kernel
theorem dX13_isIn_47 : decode cX13_isIn 47 = .ok (.iastore, 1) := by decide +kernel
theorem dX13_isIn_48 : decode cX13_isIn 48 = .ok (.aload_n 0, 1) := by decide +kernel
theorem dX13_isIn_49 : decode cX13_isIn 49 = .ok (.iload_n 1, 1) := by decide +kernel
theorem dX13_isIn_50 : decode cX13_isIn 50 = .ok (.aload_n 0, 1) := by decide +kernel
theorem dX13_isIn_51 : decode cX13_isIn 51 = .ok (.getfield 116, 3) := by decide +kernel
theorem dX13_isIn_54 : decode cX13_isIn 54 = .ok (.iload_n 3, 1) := by decide +kernel
theorem dX13_isIn_55 : decode cX13_isIn 55 = .ok (.iaload, 1) := by decide +kernel
theorem dX13_isIn_56 : decode cX13_isIn 56 = .ok (.invokevirtual 674, 3) := by decide +kernel
theorem dX13_isIn_59 : decode cX13_isIn 59 = .ok (.ifCond .ne 17, 3) := by decide +kernel
theorem dX13_isIn_62 : decode cX13_isIn 62 = .ok (.aload_n 0, 1) := by decide +kernel
theorem dX13_isIn_63 : decode cX13_isIn 63 = .ok (.iload_n 1, 1) := by decide +kernel
theorem dX13_isIn_64 : decode cX13_isIn 64 = .ok (.aload_n 0, 1) := by decide +kernel
theorem dX13_isIn_65 : decode cX13_isIn 65 = .ok (.getfield 119, 3) := by decide +kernel
theorem dX13_isIn_68 : decode cX13_isIn 68 = .ok (.iload_n 3, 1) := by decide +kernel
theorem dX13_isIn_69 : decode cX13_isIn 69 = .ok (.iaload, 1) := by decide +kernel
theorem dX13_isIn_70 : decode cX13_isIn 70 = .ok (.invokevirtual 674, 3) := by decide +kernel
theorem dX13_isIn_73 : decode cX13_isIn 73 = .ok (.ifCond .eq 7, 3) := by decide +kernel
theorem dX13_isIn_76 : decode cX13_isIn 76 = .ok (.iconst 1, 1) := by decide +kernel
theorem dX13_isIn_77 : decode cX13_isIn 77 = .ok (.goto 4, 3) := by decide +kernel
theorem dX13_isIn_80 : decode cX13_isIn 80 = .ok (.iconst 0, 1) := by decide +kernel
theorem dX13_isIn_81 : decode cX13_isIn 81 = .ok (.ireturn, 1) := by decide +kernel
theorem dX13_join_0 : decode cX13_join 0 = .ok (.aload_n 0, 1) := by decide +kernel
theorem dX13_join_1 : decode cX13_join 1 = .ok (.iload_n 1, 1) := by decide +kernel
theorem dX13_join_2 : decode cX13_join 2 = .ok (.invokevirtual 668, 3) := by decide +kernel
theorem dX13_join_5 : decode cX13_join 5 = .ok (.istore_n 3, 1) := by decide +kernel
theorem dX13_join_6 : decode cX13_join 6 = .ok (.aload_n 0, 1) := by decide +kernel
theorem dX13_join_7 : decode cX13_join 7 = .ok (.iload_n 2, 1) := by decide +kernel
theorem dX13_join_8 : decode cX13_join 8 = .ok (.invokevirtual 668, 3) := by decide +kernel
theorem dX13_join_11 : decode cX13_join 11 = .ok (.istore 4, 2) := by decide +kernel
theorem dX13_join_13 : decode cX13_join 13 = .ok (.iload_n 3, 1) := by decide +kernel
theorem dX13_join_14 : decode cX13_join 14 = .ok (.iload 4, 2) := by decide +kernel
theorem dX13_join_16 : decode cX13_join 16 = .ok (.if_icmp .ne 5, 3) := by decide +kernel
theorem dX13_join_19 : decode cX13_join 19 = .ok (.iconst 1, 1) := by decide +kernel
theorem dX13_join_20 : decode cX13_join 20 = .ok (.ireturn, 1) := by decide +kernel
theorem dX13_join_21 : decode cX13_join 21 = .ok (.aload_n 0, 1) := by decide +kernel
theorem dX13_join_22 : decode cX13_join 22 = .ok (.getfield 113, 3) := by decide +kernel
theorem dX13_join_25 : decode cX13_join 25 = .ok (.iload_n 3, 1) := by decide +kernel
theorem dX13_join_26 : decode cX13_join 26 = .ok (.iaload, 1) := by decide +kernel
theorem dX13_join_27 : decode cX13_join 27 = .ok (.ifCond .eq 13, 3) := by decide +kernel
theorem dX13_join_30 : decode cX13_join 30 = .ok (.aload_n 0, 1) := by decide +kernel
theorem dX13_join_31 : decode cX13_join 31 = .ok (.getfield 113, 3) := by decide +kernel
theorem dX13_join_34 : decode cX13_join 34 = .ok (.iload 4, 2) := by decide +kernel
theorem dX13_join_36 : decode cX13_join 36 = .ok (.iaload, 1) := by decide +kernel
theorem dX13_join_37 : decode cX13_join 37 = .ok (.ifCond .ne 79, 3) := by decide +kernel
theorem dX13_join_40 : decode cX13_join 40 = .ok (.aload_n 0, 1) := by decide +kernel
theorem dX13_join_41 : decode cX13_join 41 = .ok (.getfield 113, 3) := by decide +kernel
theorem dX13_join_44 : decode cX13_join 44 = .ok (.iload_n 3, 1) := by decide +kernel
theorem dX13_join_45 : decode cX13_join 45 = .ok (.iaload, 1) := by decide +kernel
theorem dX13_join_46 : decode cX13_join 46 = .ok (.ifCond .ne 7, 3) := by decide +kernel
theorem dX13_join_49 : decode cX13_join 49 = .ok (.iload_n 3, 1) := by decide +kernel
theorem dX13_join_50 : decode cX13_join 50 = .ok (.goto 5, 3) := by decide +kernel
theorem dX13_join_53 : decode cX13_join 53 = .ok (.iload 4, 2) := by decide +kernel
theorem dX13_join_55 : decode cX13_join 55 = .ok (.istore 5, 2) := by decide +kernel
theorem dX13_join_57 : decode cX13_join 57 = .ok (.iload 5, 2) := by decide +kernel
theorem dX13_join_59 : decode cX13_join 59 = .ok (.iload_n 3, 1) := by decide +kernel
theorem dX13_join_60 : decode cX13_join 60 = .ok (.if_icmp .ne 8, 3) := by decide +kernel
theorem dX13_join_63 : decode cX13_join 63 = .ok (.iload 4, 2) := by decide +kernel
theorem dX13_join_65 : decode cX13_join 65 = .ok (.goto 4, 3) := by decide +kernel
theorem dX13_join_68 : decode cX13_join 68 = .ok (.iload_n 3, 1) := by decide +kernel
theorem dX13_join_69 : decode cX13_join 69 = .ok (.istore 6, 2) := by decide +kernel
theorem dX13_join_71 : decode cX13_join 71 = .ok (.aload_n 0, 1) := by decide +kernel
theorem dX13_join_72 : decode cX13_join 72 = .ok (.dup, 1) := by decide +kernel
theorem dX13_join_73 : decode cX13_join 73 = .ok (.getfield 671, 3) := by decide +kernel
theorem dX13_join_76 : decode cX13_join 76 = .ok (.iconst 1, 1) := by decide +kernel
theorem dX13_join_77 : decode cX13_join 77 = .ok (.iadd, 1) := by decide +kernel
theorem dX13_join_78 : decode cX13_join 78 = .ok (.putfield 671, 3) := by decide +kernel
theorem dX13_join_81 : decode cX13_join 81 = .ok (.aload_n 0, 1) := by decide +kernel
theorem dX13_join_82 : decode cX13_join 82 = .ok (.getfield 113, 3) := by decide +kernel
theorem dX13_join_85 : decode cX13_join 85 = .ok (.iload 6, 2) := by decide +kernel
theorem dX13_join_87 : decode cX13_join 87 = .ok (.iaload, 1) := by decide +kernel
theorem dX13_join_88 : decode cX13_join 88 = .ok (.iconst 4, 1) := by decide +kernel
theorem dX13_join_89 : decode cX13_join 89 = .ok (.if_icmp .ne 16, 3) := by decide +kernel
theorem dX13_join_92 : decode cX13_join 92 = .ok (.aload_n 0, 1) := by decide +kernel
theorem dX13_join_93 : decode cX13_join 93 = .ok (.iload 5, 2) := by decide +kernel
theorem dX13_join_95 : decode cX13_join 95 = .ok (.iload 6, 2) := by decide +kernel
theorem dX13_join_97 : decode cX13_join 97 = .ok (.invokevirtual 674, 3) := by decide +kernel
theorem dX13_join_100 : decode cX13_join 100 = .ok (.ifCond .eq 5, 3) := by decide +kernel
theorem dX13_join_103 : decode cX13_join 103 = .ok (.iconst 0, 1) := by decide +kernel
theorem dX13_join_104 : decode cX13_join 104 = .ok (.ireturn, 1) := by decide +kernel
theorem dX13_join_105 : decode cX13_join 105 = .ok (.aload_n 0, 1) := by decide +kernel
theorem dX13_join_106 : decode cX13_join 106 = .ok (.getfield 122, 3) := by decide +kernel
theorem dX13_join_109 : decode cX13_join 109 = .ok (.iload 5, 2) := by decide +kernel
theorem dX13_join_111 : decode cX13_join 111 = .ok (.iload 6, 2) := by decide +kernel
theorem dX13_join_113 : decode cX13_join 113 = .ok (.iastore, 1) := by decide +kernel
theorem dX13_join_114 : decode cX13_join 114 = .ok (.iconst 1, 1) := by decide +kernel
theorem dX13_join_115 : decode cX13_join 115 = .ok (.ireturn, 1) := by decide +kernel
theorem dX13_join_116 : decode cX13_join 116 = .ok (.aload_n 0, 1) := by decide +kernel
theorem dX13_join_117 : decode cX13_join 117 = .ok (.getfield 113, 3) := by decide +kernel
theorem dX13_join_120 : decode cX13_join 120 = .ok (.iload_n 3, 1) := by decide +kernel
theorem dX13_join_121 : decode cX13_join 121 = .ok (.iaload, 1) := by decide +kernel
theorem dX13_join_122 : decode cX13_join 122 = .ok (.aload_n 0, 1) := by decide +kernel
theorem dX13_join_123 : decode cX13_join 123 = .ok (.getfield 113, 3) := by decide +kernel
theorem dX13_join_126 : decode cX13_join 126 = .ok (.iload 4, 2) := by decide +kernel
theorem dX13_join_128 : decode cX13_join 128 = .ok (.iaload, 1) := by decide +kernel
theorem dX13_join_129 : decode cX13_join 129 = .ok (.if_icmp .eq 5, 3) := by decide +kernel
theorem dX13_join_132 : decode cX13_join 132 = .ok (.iconst 0, 1) := by decide +kernel
theorem dX13_join_133 : decode cX13_join 133 = .ok (.ireturn, 1) := by decide +kernel
theorem dX13_join_134 : decode cX13_join 134 = .ok (.aload_n 0, 1) := by decide +kernel
theorem dX13_join_135 : decode cX13_join 135 = .ok (.getfield 113, 3) := by decide +kernel
theorem dX13_join_138 : decode cX13_join 138 = .ok (.iload_n 3, 1) := by decide +kernel
theorem dX13_join_139 : decode cX13_join 139 = .ok (.iaload, 1) := by decide +kernel
theorem dX13_join_140 : decode cX13_join 140 = .ok (.iconst 4, 1) := by decide +kernel
theorem dX13_join_141 : decode cX13_join 141 = .ok (.if_icmp .ne 45, 3) := by decide +kernel
theorem dX13_join_144 : decode cX13_join 144 = .ok (.aload_n 0, 1) := by decide +kernel
theorem dX13_join_145 : decode cX13_join 145 = .ok (.aload_n 0, 1) := by decide +kernel
theorem dX13_join_146 : decode cX13_join 146 = .ok (.getfield 116, 3) := by decide +kernel
theorem dX13_join_149 : decode cX13_join 149 = .ok (.iload_n 3, 1) := by decide +kernel
theorem dX13_join_150 : decode cX13_join 150 = .ok (.iaload, 1) := by decide +kernel
theorem dX13_join_151 : decode cX13_join 151 = .ok (.aload_n 0, 1) := by decide +kernel
theorem dX13_join_152 : decode cX13_join 152 = .ok (.getfield 116, 3) := by decide +kernel
theorem dX13_join_155 : decode cX13_join 155 = .ok (.iload 4, 2) := by decide +kernel
theorem dX13_join_157 : decode cX13_join 157 = .ok (.iaload, 1) := by decide +kernel
theorem dX13_join_158 : decode cX13_join 158 = .ok (.invokevirtual 677, 3) := by decide +kernel
theorem dX13_join_161 : decode cX13_join 161 = .ok (.ifCond .eq 23, 3) := by decide +kernel
theorem dX13_join_164 : decode cX13_join 164 = .ok (.aload_n 0, 1) := by decide +kernel
theorem dX13_join_165 : decode cX13_join 165 = .ok (.aload_n 0, 1) := by decide +kernel
theorem dX13_join_166 : decode cX13_join 166 = .ok (.getfield 119, 3) := by decide +kernel
theorem dX13_join_169 : decode cX13_join 169 = .ok (.iload_n 3, 1) := by decide +kernel
theorem dX13_join_170 : decode cX13_join 170 = .ok (.iaload, 1) := by decide +kernel
theorem dX13_join_171 : decode cX13_join 171 = .ok (.aload_n 0, 1) := by decide +kernel
theorem dX13_join_172 : decode cX13_join 172 = .ok (.getfield 119, 3) := by decide +kernel
theorem dX13_join_175 : decode cX13_join 175 = .ok (.iload 4, 2) := by decide +kernel
theorem dX13_join_177 : decode cX13_join 177 = .ok (.iaload, 1) := by decide +kernel
theorem dX13_join_178 : decode cX13_join 178 = .ok (.invokevirtual 677, 3) := by decide +kernel
theorem dX13_join_181 : decode cX13_join 181 = .ok (.ifCond .ne 5, 3) := by decide +kernel
theorem dX13_join_184 : decode cX13_join 184 = .ok (.iconst 0, 1) := by decide +kernel
theorem dX13_join_185 : decode cX13_join 185 = .ok (.ireturn, 1) := by decide +kernel
theorem dX13_join_186 : decode cX13_join 186 = .ok (.aload_n 0, 1) := by decide +kernel
theorem dX13_join_187 : decode cX13_join 187 = .ok (.iload_n 3, 1) := by decide +kernel
theorem dX13_join_188 : decode cX13_join 188 = .ok (.invokevirtual 668, 3) := by decide +kernel
theorem dX13_join_191 : decode cX13_join 191 = .ok (.aload_n 0, 1) := by decide +kernel
theorem dX13_join_192 : decode cX13_join 192 = .ok (.iload 4, 2) := by decide +kernel
theorem dX13_join_194 : decode cX13_join 194 = .ok (.invokevirtual 668, 3) := by decide +kernel
theorem dX13_join_197 : decode cX13_join 197 = .ok (.if_icmp .eq 19, 3) := by decide +kernel
theorem dX13_join_200 : decode cX13_join 200 = .ok (.aload_n 0, 1) := by decide +kernel
theorem dX13_join_201 : decode cX13_join 201 = .ok (.getfield 122, 3) := by decide +kernel
theorem dX13_join_204 : decode cX13_join 204 = .ok (.aload_n 0, 1) := by decide +kernel
theorem dX13_join_205 : decode cX13_join 205 = .ok (.iload_n 3, 1) := by decide +kernel
theorem dX13_join_206 : decode cX13_join 206 = .ok (.invokevirtual 668, 3) := by decide +kernel
theorem dX13_join_209 : decode cX13_join 209 = .ok (.aload_n 0, 1) := by decide +kernel
theorem dX13_join_210 : decode cX13_join 210 = .ok (.iload 4, 2) := by decide +kernel
theorem dX13_join_212 : decode cX13_join 212 = .ok (.invokevirtual 668, 3) := by decide +kernel
theorem dX13_join_215 : decode cX13_join 215 = .ok (.iastore, 1) := by decide +kernel
theorem dX13_join_216 : decode cX13_join 216 = .ok (.iconst 1, 1) := by decide +kernel
theorem dX13_join_217 : decode cX13_join 217 = .ok (.ireturn, 1) := by decide +kernel
theorem dX13_mustBe_0 : decode cX13_mustBe 0 = .ok (.aload_n 0, 1) := by decide +kernel
theorem dX13_mustBe_1 : decode cX13_mustBe 1 = .ok (.getfield 392, 3) := by decide +kernel
theorem dX13_mustBe_4 : decode cX13_mustBe 4 = .ok (.ifCond .ne 24, 3) := by decide +kernel
theorem dX13_mustBe_7 : decode cX13_mustBe 7 = .ok (.aload_n 0, 1) := by decide +kernel
theorem dX13_mustBe_8 : decode cX13_mustBe 8 = .ok (.iload_n 1, 1) := by decide +kernel
theorem dX13_mustBe_9 : decode cX13_mustBe 9 = .ok (.aload_n 0, 1) := by decide +kernel
theorem dX13_mustBe_10 : decode cX13_mustBe 10 = .ok (.iload_n 2, 1) := by decide +kernel
theorem dX13_mustBe_11 : decode cX13_mustBe 11 = .ok (.iconst (-1), 1) := by decide +kernel
theorem dX13_mustBe_12 : decode cX13_mustBe 12 = .ok (.iconst (-1), 1) := by decide +kernel
theorem dX13_mustBe_13 : decode cX13_mustBe 13 = .ok (.invokevirtual 664, 3) := by decide +kernel
theorem dX13_mustBe_16 : decode cX13_mustBe 16 = .ok (.invokevirtual 677, 3) := by decide +kernel
theorem dX13_mustBe_19 : decode cX13_mustBe 19 = .ok (.ifCond .ne 9, 3) := by decide +kernel
theorem dX13_mustBe_22 : decode cX13_mustBe 22 = .ok (.aload_n 0, 1) := by decide +kernel
theorem dX13_mustBe_23 : decode cX13_mustBe 23 = .ok (.iconst 4, 1) := by decide +kernel
theorem dX13_mustBe_24 : decode cX13_mustBe 24 = .ok (.iload_n 3, 1) := by decide +kernel
theorem dX13_mustBe_25 : decode cX13_mustBe 25 = .ok (.invokevirtual 422, 3) := by decide +kernel
theorem dX13_mustBe_28 : decode cX13_mustBe 28 = .ok (.return_, 1) := by decide +kernel
theorem dX13_typesOfSum_0 : decode cX13_typesOfSum 0 = .ok (.aload_n 0, 1) := by decide +kernel
theorem dX13_typesOfSum_1 : decode cX13_typesOfSum 1 = .ok (.getfield 50, 3) := by decide +kernel
theorem dX13_typesOfSum_4 : decode cX13_typesOfSum 4 = .ok (.iload_n 1, 1) := by decide +kernel
theorem dX13_typesOfSum_5 : decode cX13_typesOfSum 5 = .ok (.iaload, 1) := by decide +kernel
theorem dX13_typesOfSum_6 : decode cX13_typesOfSum 6 = .ok (.istore_n 2, 1) := by decide +kernel
theorem dX13_typesOfSum_7 : decode cX13_typesOfSum 7 = .ok (.iload_n 2, 1) := by decide +kernel
theorem dX13_typesOfSum_8 : decode cX13_typesOfSum 8 = .ok (.aload_n 0, 1) := by decide +kernel
theorem dX13_typesOfSum_9 : decode cX13_typesOfSum 9 = .ok (.getfield 53, 3) := by decide +kernel
theorem dX13_typesOfSum_12 : decode cX13_typesOfSum 12 = .ok (.iload_n 1, 1) := by decide +kernel
theorem dX13_typesOfSum_13 : decode cX13_typesOfSum 13 = .ok (.iaload, 1) := by decide +kernel
theorem dX13_typesOfSum_14 : decode cX13_typesOfSum 14 = .ok (.if_icmp .ge 78, 3) := by decide +kernel
theorem dX13_typesOfSum_17 : decode cX13_typesOfSum 17 = .ok (.aload_n 0, 1) := by decide +kernel
theorem dX13_typesOfSum_18 : decode cX13_typesOfSum 18 = .ok (.getfield 59, 3) := by decide +kernel
theorem dX13_typesOfSum_21 : decode cX13_typesOfSum 21 = .ok (.iload_n 2, 1) := by decide +kernel
theorem dX13_typesOfSum_22 : decode cX13_typesOfSum 22 = .ok (.iaload, 1) := by decide +kernel
theorem dX13_typesOfSum_23 : decode cX13_typesOfSum 23 = .ok (.ifCond .le 63, 3) := by decide +kernel
theorem dX13_typesOfSum_26 : decode cX13_typesOfSum 26 = .ok (.aload_n 0, 1) := by decide +kernel
theorem dX13_typesOfSum_27 : decode cX13_typesOfSum 27 = .ok (.aload_n 0, 1) := by decide +kernel
theorem dX13_typesOfSum_28 : decode cX13_typesOfSum 28 = .ok (.getfield 104, 3) := by decide +kernel
theorem dX13_typesOfSum_31 : decode cX13_typesOfSum 31 = .ok (.aload_n 0, 1) := by decide +kernel
theorem dX13_typesOfSum_32 : decode cX13_typesOfSum 32 = .ok (.getfield 107, 3) := by decide +kernel
theorem dX13_typesOfSum_35 : decode cX13_typesOfSum 35 = .ok (.aload_n 0, 1) := by decide +kernel
theorem dX13_typesOfSum_36 : decode cX13_typesOfSum 36 = .ok (.getfield 65, 3) := by decide +kernel
theorem dX13_typesOfSum_39 : decode cX13_typesOfSum 39 = .ok (.iload_n 2, 1) := by decide +kernel
theorem dX13_typesOfSum_40 : decode cX13_typesOfSum 40 = .ok (.iaload, 1) := by decide +kernel
theorem dX13_typesOfSum_41 : decode cX13_typesOfSum 41 = .ok (.iaload, 1) := by decide +kernel
theorem dX13_typesOfSum_42 : decode cX13_typesOfSum 42 = .ok (.iaload, 1) := by decide +kernel
theorem dX13_typesOfSum_43 : decode cX13_typesOfSum 43 = .ok (.aload_n 0, 1) := by decide +kernel
theorem dX13_typesOfSum_44 : decode cX13_typesOfSum 44 = .ok (.getfield 59, 3) := by decide +kernel
theorem dX13_typesOfSum_47 : decode cX13_typesOfSum 47 = .ok (.iload_n 2, 1) := by decide +kernel
theorem dX13_typesOfSum_48 : decode cX13_typesOfSum 48 = .ok (.iaload, 1) := by decide +kernel
theorem dX13_typesOfSum_49 : decode cX13_typesOfSum 49 = .ok (.iconst 1, 1) := by decide +kernel
theorem dX13_typesOfSum_50 : decode cX13_typesOfSum 50 = .ok (.if_icmp .ne 7, 3) := by decide +kernel
theorem dX13_typesOfSum_53 : decode cX13_typesOfSum 53 = .ok (.iconst 1, 1) := by decide +kernel
theorem dX13_typesOfSum_54 : decode cX13_typesOfSum 54 = .ok (.goto 18, 3) := by decide +kernel
theorem dX13_typesOfSum_57 : decode cX13_typesOfSum 57 = .ok (.aload_n 0, 1) := by decide +kernel
theorem dX13_typesOfSum_58 : decode cX13_typesOfSum 58 = .ok (.getfield 59, 3) := by decide +kernel
theorem dX13_typesOfSum_61 : decode cX13_typesOfSum 61 = .ok (.iload_n 2, 1) := by decide +kernel
theorem dX13_typesOfSum_62 : decode cX13_typesOfSum 62 = .ok (.iaload, 1) := by decide +kernel
theorem dX13_typesOfSum_63 : decode cX13_typesOfSum 63 = .ok (.iconst 2, 1) := by decide +kernel
theorem dX13_typesOfSum_64 : decode cX13_typesOfSum 64 = .ok (.if_icmp .ne 7, 3) := by decide +kernel
theorem dX13_typesOfSum_67 : decode cX13_typesOfSum 67 = .ok (.iconst 3, 1) := by decide +kernel
theorem dX13_typesOfSum_68 : decode cX13_typesOfSum 68 = .ok (.goto 4, 3) := by decide +kernel
theorem dX13_typesOfSum_71 : decode cX13_typesOfSum 71 = .ok (.iconst 5, 1) := by decide +kernel
theorem dX13_typesOfSum_72 : decode cX13_typesOfSum 72 = .ok (.aload_n 0, 1) := by decide +kernel
theorem dX13_typesOfSum_73 : decode cX13_typesOfSum 73 = .ok (.getfield 23, 3) := by decide +kernel
theorem dX13_typesOfSum_76 : decode cX13_typesOfSum 76 = .ok (.aload_n 0, 1) := by decide +kernel
theorem dX13_typesOfSum_77 : decode cX13_typesOfSum 77 = .ok (.getfield 65, 3) := by decide +kernel
theorem dX13_typesOfSum_80 : decode cX13_typesOfSum 80 = .ok (.iload_n 2, 1) := by decide +kernel
theorem dX13_typesOfSum_81 : decode cX13_typesOfSum 81 = .ok (.iaload, 1) := by decide +kernel
theorem dX13_typesOfSum_82 : decode cX13_typesOfSum 82 = .ok (.iaload, 1) := by decide +kernel
theorem dX13_typesOfSum_83 : decode cX13_typesOfSum 83 = .ok (.invokevirtual 680, 3) := by decide +kernel
theorem dX13_typesOfSum_86 : decode cX13_typesOfSum 86 = .ok (.iinc 2 1, 3) := by decide +kernel
theorem dX13_typesOfSum_89 : decode cX13_typesOfSum 89 = .ok (.goto (-82), 3) := by decide +kernel
theorem dX13_typesOfSum_92 : decode cX13_typesOfSum 92 = .ok (.return_, 1) := by decide +kernel
theorem dX13_typesOfCondition_0 : decode cX13_typesOfCondition 0 = .ok (.aload_n 0, 1) := by decide +kernel
theorem dX13_typesOfCondition_1 : decode cX13_typesOfCondition 1 = .ok (.getfield 29, 3) := by decide +kernel
theorem dX13_typesOfCondition_4 : decode cX13_typesOfCondition 4 = .ok (.iload_n 1, 1) := by decide +kernel
theorem dX13_typesOfCondition_5 : decode cX13_typesOfCondition 5 = .ok (.iaload, 1) := by decide +kernel
theorem dX13_typesOfCondition_6 : decode cX13_typesOfCondition 6 = .ok (.tableswitch 132 20 25 #[38, 38, 61, 132, 74, 109], 38) := by decide +kernel
theorem dX13_typesOfCondition_44 : decode cX13_typesOfCondition 44 = .ok (.aload_n 0, 1) := by decide +kernel
theorem dX13_typesOfCondition_45 : decode cX13_typesOfCondition 45 = .ok (.aload_n 0, 1) := by decide +kernel
theorem dX13_typesOfCondition_46 : decode cX13_typesOfCondition 46 = .ok (.getfield 38, 3) := by decide +kernel
theorem dX13_typesOfCondition_49 : decode cX13_typesOfCondition 49 = .ok (.iload_n 1, 1) := by decide +kernel
theorem dX13_typesOfCondition_50 : decode cX13_typesOfCondition 50 = .ok (.iaload, 1) := by decide +kernel
theorem dX13_typesOfCondition_51 : decode cX13_typesOfCondition 51 = .ok (.invokevirtual 683, 3) := by decide +kernel
theorem dX13_typesOfCondition_54 : decode cX13_typesOfCondition 54 = .ok (.aload_n 0, 1) := by decide +kernel
theorem dX13_typesOfCondition_55 : decode cX13_typesOfCondition 55 = .ok (.aload_n 0, 1) := by decide +kernel
theorem dX13_typesOfCondition_56 : decode cX13_typesOfCondition 56 = .ok (.getfield 41, 3) := by decide +kernel
theorem dX13_typesOfCondition_59 : decode cX13_typesOfCondition 59 = .ok (.iload_n 1, 1) := by decide +kernel
theorem dX13_typesOfCondition_60 : decode cX13_typesOfCondition 60 = .ok (.iaload, 1) := by decide +kernel
theorem dX13_typesOfCondition_61 : decode cX13_typesOfCondition 61 = .ok (.invokevirtual 683, 3) := by decide +kernel
theorem dX13_typesOfCondition_64 : decode cX13_typesOfCondition 64 = .ok (.goto 74, 3) := by decide +kernel
theorem dX13_typesOfCondition_67 : decode cX13_typesOfCondition 67 = .ok (.aload_n 0, 1) := by decide +kernel
theorem dX13_typesOfCondition_68 : decode cX13_typesOfCondition 68 = .ok (.aload_n 0, 1) := by decide +kernel
theorem dX13_typesOfCondition_69 : decode cX13_typesOfCondition 69 = .ok (.getfield 38, 3) := by decide +kernel
theorem dX13_typesOfCondition_72 : decode cX13_typesOfCondition 72 = .ok (.iload_n 1, 1) := by decide +kernel
theorem dX13_typesOfCondition_73 : decode cX13_typesOfCondition 73 = .ok (.iaload, 1) := by decide +kernel
theorem dX13_typesOfCondition_74 : decode cX13_typesOfCondition 74 = .ok (.invokevirtual 683, 3) := by decide +kernel
theorem dX13_typesOfCondition_77 : decode cX13_typesOfCondition 77 = .ok (.goto 61, 3) := by decide +kernel
theorem dX13_typesOfCondition_80 : decode cX13_typesOfCondition 80 = .ok (.aload_n 0, 1) := by decide +kernel
theorem dX13_typesOfCondition_81 : decode cX13_typesOfCondition 81 = .ok (.aload_n 0, 1) := by decide +kernel
theorem dX13_typesOfCondition_82 : decode cX13_typesOfCondition 82 = .ok (.getfield 104, 3) := by decide +kernel
theorem dX13_typesOfCondition_85 : decode cX13_typesOfCondition 85 = .ok (.aload_n 0, 1) := by decide +kernel
theorem dX13_typesOfCondition_86 : decode cX13_typesOfCondition 86 = .ok (.getfield 107, 3) := by decide +kernel
theorem dX13_typesOfCondition_89 : decode cX13_typesOfCondition 89 = .ok (.aload_n 0, 1) := by decide +kernel
theorem dX13_typesOfCondition_90 : decode cX13_typesOfCondition 90 = .ok (.getfield 38, 3) := by decide +kernel
theorem dX13_typesOfCondition_93 : decode cX13_typesOfCondition 93 = .ok (.iload_n 1, 1) := by decide +kernel
theorem dX13_typesOfCondition_94 : decode cX13_typesOfCondition 94 = .ok (.iaload, 1) := by decide +kernel
theorem dX13_typesOfCondition_95 : decode cX13_typesOfCondition 95 = .ok (.iaload, 1) := by decide +kernel
theorem dX13_typesOfCondition_96 : decode cX13_typesOfCondition 96 = .ok (.iaload, 1) := by decide +kernel
theorem dX13_typesOfCondition_97 : decode cX13_typesOfCondition 97 = .ok (.iconst 2, 1) := by decide +kernel
theorem dX13_typesOfCondition_98 : decode cX13_typesOfCondition 98 = .ok (.aload_n 0, 1) := by decide +kernel
theorem dX13_typesOfCondition_99 : decode cX13_typesOfCondition 99 = .ok (.getfield 23, 3) := by decide +kernel
theorem dX13_typesOfCondition_102 : decode cX13_typesOfCondition 102 = .ok (.aload_n 0, 1) := by decide +kernel
theorem dX13_typesOfCondition_103 : decode cX13_typesOfCondition 103 = .ok (.getfield 38, 3) := by decide +kernel
theorem dX13_typesOfCondition_106 : decode cX13_typesOfCondition 106 = .ok (.iload_n 1, 1) := by decide +kernel
theorem dX13_typesOfCondition_107 : decode cX13_typesOfCondition 107 = .ok (.iaload, 1) := by decide +kernel
theorem dX13_typesOfCondition_108 : decode cX13_typesOfCondition 108 = .ok (.iaload, 1) := by decide +kernel
theorem dX13_typesOfCondition_109 : decode cX13_typesOfCondition 109 = .ok (.invokevirtual 680, 3) := by decide +kernel
theorem dX13_typesOfCondition_112 : decode cX13_typesOfCondition 112 = .ok (.goto 26, 3) := by decide +kernel
theorem dX13_typesOfCondition_115 : decode cX13_typesOfCondition 115 = .ok (.aload_n 0, 1) := by decide +kernel
theorem dX13_typesOfCondition_116 : decode cX13_typesOfCondition 116 = .ok (.aload_n 0, 1) := by decide +kernel
theorem dX13_typesOfCondition_117 : decode cX13_typesOfCondition 117 = .ok (.getfield 38, 3) := by decide +kernel
theorem dX13_typesOfCondition_120 : decode cX13_typesOfCondition 120 = .ok (.iload_n 1, 1) := by decide +kernel
theorem dX13_typesOfCondition_121 : decode cX13_typesOfCondition 121 = .ok (.iaload, 1) := by decide +kernel
theorem dX13_typesOfCondition_122 : decode cX13_typesOfCondition 122 = .ok (.invokevirtual 686, 3) := by decide +kernel
theorem dX13_typesOfCondition_125 : decode cX13_typesOfCondition 125 = .ok (.aload_n 0, 1) := by decide +kernel
theorem dX13_typesOfCondition_126 : decode cX13_typesOfCondition 126 = .ok (.aload_n 0, 1) := by decide +kernel
theorem dX13_typesOfCondition_127 : decode cX13_typesOfCondition 127 = .ok (.getfield 41, 3) := by decide +kernel
theorem dX13_typesOfCondition_130 : decode cX13_typesOfCondition 130 = .ok (.iload_n 1, 1) := by decide +kernel
theorem dX13_typesOfCondition_131 : decode cX13_typesOfCondition 131 = .ok (.iaload, 1) := by decide +kernel
theorem dX13_typesOfCondition_132 : decode cX13_typesOfCondition 132 = .ok (.invokevirtual 686, 3) := by decide +kernel
theorem dX13_typesOfCondition_135 : decode cX13_typesOfCondition 135 = .ok (.goto 3, 3) := by decide +kernel
theorem dX13_typesOfCondition_138 : decode cX13_typesOfCondition 138 = .ok (.return_, 1) := by decide +kernel
theorem dX13_typeOf_0 : decode cX13_typeOf 0 = .ok (.aload_n 0, 1) := by decide +kernel
theorem dX13_typeOf_1 : decode cX13_typeOf 1 = .ok (.getfield 392, 3) := by decide +kernel
theorem dX13_typeOf_4 : decode cX13_typeOf 4 = .ok (.ifCond .eq 5, 3) := by decide +kernel
theorem dX13_typeOf_7 : decode cX13_typeOf 7 = .ok (.iconst 0, 1) := by decide +kernel
theorem dX13_typeOf_8 : decode cX13_typeOf 8 = .ok (.ireturn, 1) := by decide +kernel
theorem dX13_typeOf_9 : decode cX13_typeOf 9 = .ok (.aload_n 0, 1) := by decide +kernel
theorem dX13_typeOf_10 : decode cX13_typeOf 10 = .ok (.iload_n 1, 1) := by decide +kernel
theorem dX13_typeOf_11 : decode cX13_typeOf 11 = .ok (.invokevirtual 689, 3) := by decide +kernel
theorem dX13_typeOf_14 : decode cX13_typeOf 14 = .ok (.istore_n 2, 1) := by decide +kernel
theorem dX13_typeOf_15 : decode cX13_typeOf 15 = .ok (.aload_n 0, 1) := by decide +kernel
theorem dX13_typeOf_16 : decode cX13_typeOf 16 = .ok (.getfield 128, 3) := by decide +kernel
theorem dX13_typeOf_19 : decode cX13_typeOf 19 = .ok (.iload_n 1, 1) := by decide +kernel
theorem dX13_typeOf_20 : decode cX13_typeOf 20 = .ok (.iload_n 2, 1) := by decide +kernel
theorem dX13_typeOf_21 : decode cX13_typeOf 21 = .ok (.iastore, 1) := by decide +kernel
theorem dX13_typeOf_22 : decode cX13_typeOf 22 = .ok (.iload_n 2, 1) := by decide +kernel
theorem dX13_typeOf_23 : decode cX13_typeOf 23 = .ok (.ireturn, 1) := by decide +kernel
theorem dX13_typed_0 : decode cX13_typed 0 = .ok (.aload_n 0, 1) := by decide +kernel
theorem dX13_typed_1 : decode cX13_typed 1 = .ok (.getfield 29, 3) := by decide +kernel
theorem dX13_typed_4 : decode cX13_typed 4 = .ok (.iload_n 1, 1) := by decide +kernel
theorem dX13_typed_5 : decode cX13_typed 5 = .ok (.iaload, 1) := by decide +kernel
theorem dX13_typed_6 : decode cX13_typed 6 = .ok (.tableswitch 832 1 19 #[90, 127, 274, 320, 386, 407, 470, 488, 488, 496, 554, 554, 554, 582, 826, 832, 632, 640, 690], 90) := by decide +kernel
theorem dX13_typed_96 : decode cX13_typed 96 = .ok (.aload_n 0, 1) := by decide +kernel
theorem dX13_typed_97 : decode cX13_typed 97 = .ok (.getfield 104, 3) := by decide +kernel
theorem dX13_typed_100 : decode cX13_typed 100 = .ok (.aload_n 0, 1) := by decide +kernel
theorem dX13_typed_101 : decode cX13_typed 101 = .ok (.getfield 107, 3) := by decide +kernel
theorem dX13_typed_104 : decode cX13_typed 104 = .ok (.aload_n 0, 1) := by decide +kernel
theorem dX13_typed_105 : decode cX13_typed 105 = .ok (.getfield 38, 3) := by decide +kernel
theorem dX13_typed_108 : decode cX13_typed 108 = .ok (.iload_n 1, 1) := by decide +kernel
theorem dX13_typed_109 : decode cX13_typed 109 = .ok (.iaload, 1) := by decide +kernel
theorem dX13_typed_110 : decode cX13_typed 110 = .ok (.iaload, 1) := by decide +kernel
theorem dX13_typed_111 : decode cX13_typed 111 = .ok (.aload_n 0, 1) := by decide +kernel
theorem dX13_typed_112 : decode cX13_typed 112 = .ok (.aload_n 0, 1) := by decide +kernel
theorem dX13_typed_113 : decode cX13_typed 113 = .ok (.getfield 44, 3) := by decide +kernel
theorem dX13_typed_116 : decode cX13_typed 116 = .ok (.iload_n 1, 1) := by decide +kernel
theorem dX13_typed_117 : decode cX13_typed 117 = .ok (.iaload, 1) := by decide +kernel
theorem dX13_typed_118 : decode cX13_typed 118 = .ok (.invokevirtual 692, 3) := by decide +kernel
theorem dX13_typed_121 : decode cX13_typed 121 = .ok (.iastore, 1) := by decide +kernel
theorem dX13_typed_122 : decode cX13_typed 122 = .ok (.aload_n 0, 1) := by decide +kernel
theorem dX13_typed_123 : decode cX13_typed 123 = .ok (.aload_n 0, 1) := by decide +kernel
theorem dX13_typed_124 : decode cX13_typed 124 = .ok (.getfield 47, 3) := by decide +kernel
theorem dX13_typed_127 : decode cX13_typed 127 = .ok (.iload_n 1, 1) := by decide +kernel
theorem dX13_typed_128 : decode cX13_typed 128 = .ok (.iaload, 1) := by decide +kernel
theorem dX13_typed_129 : decode cX13_typed 129 = .ok (.invokevirtual 692, 3) := by decide +kernel
theorem dX13_typed_132 : decode cX13_typed 132 = .ok (.ireturn, 1) := by decide +kernel
theorem dX13_typed_133 : decode cX13_typed 133 = .ok (.aload_n 0, 1) := by decide +kernel
theorem dX13_typed_134 : decode cX13_typed 134 = .ok (.iload_n 1, 1) := by decide +kernel
theorem dX13_typed_135 : decode cX13_typed 135 = .ok (.invokevirtual 658, 3) := by decide +kernel
theorem dX13_typed_138 : decode cX13_typed 138 = .ok (.istore_n 2, 1) := by decide +kernel
theorem dX13_typed_139 : decode cX13_typed 139 = .ok (.aload_n 0, 1) := by decide +kernel
theorem dX13_typed_140 : decode cX13_typed 140 = .ok (.invokevirtual 695, 3) := by decide +kernel
theorem dX13_typed_143 : decode cX13_typed 143 = .ok (.istore_n 3, 1) := by decide +kernel
theorem dX13_typed_144 : decode cX13_typed 144 = .ok (.iload_n 3, 1) := by decide +kernel
theorem dX13_typed_145 : decode cX13_typed 145 = .ok (.istore 4, 2) := by decide +kernel
theorem dX13_typed_147 : decode cX13_typed 147 = .ok (.iload_n 2, 1) := by decide +kernel
theorem dX13_typed_148 : decode cX13_typed 148 = .ok (.iconst 1, 1) := by decide +kernel
theorem dX13_typed_149 : decode cX13_typed 149 = .ok (.isub, 1) := by decide +kernel
theorem dX13_typed_150 : decode cX13_typed 150 = .ok (.istore 5, 2) := by decide +kernel
theorem dX13_typed_152 : decode cX13_typed 152 = .ok (.iload 5, 2) := by decide +kernel
theorem dX13_typed_154 : decode cX13_typed 154 = .ok (.ifCond .lt 52, 3) := by decide +kernel
theorem dX13_typed_157 : decode cX13_typed 157 = .ok (.aload_n 0, 1) := by decide +kernel
theorem dX13_typed_158 : decode cX13_typed 158 = .ok (.getfield 107, 3) := by decide +kernel
theorem dX13_typed_161 : decode cX13_typed 161 = .ok (.aload_n 0, 1) := by decide +kernel
theorem dX13_typed_162 : decode cX13_typed 162 = .ok (.getfield 41, 3) := by decide +kernel
theorem dX13_typed_165 : decode cX13_typed 165 = .ok (.iload_n 1, 1) := by decide +kernel
theorem dX13_typed_166 : decode cX13_typed 166 = .ok (.iaload, 1) := by decide +kernel
theorem dX13_typed_167 : decode cX13_typed 167 = .ok (.iload 5, 2) := by decide +kernel
theorem dX13_typed_169 : decode cX13_typed 169 = .ok (.iadd, 1) := by decide +kernel
theorem dX13_typed_170 : decode cX13_typed 170 = .ok (.iaload, 1) := by decide +kernel
theorem dX13_typed_171 : decode cX13_typed 171 = .ok (.istore 6, 2) := by decide +kernel
theorem dX13_typed_173 : decode cX13_typed 173 = .ok (.aload_n 0, 1) := by decide +kernel
theorem dX13_typed_174 : decode cX13_typed 174 = .ok (.getfield 104, 3) := by decide +kernel
theorem dX13_typed_177 : decode cX13_typed 177 = .ok (.iload 6, 2) := by decide +kernel
theorem dX13_typed_179 : decode cX13_typed 179 = .ok (.aload_n 0, 1) := by decide +kernel
theorem dX13_typed_180 : decode cX13_typed 180 = .ok (.invokevirtual 695, 3) := by decide +kernel
theorem dX13_typed_183 : decode cX13_typed 183 = .ok (.iastore, 1) := by decide +kernel
theorem dX13_typed_184 : decode cX13_typed 184 = .ok (.aload_n 0, 1) := by decide +kernel
theorem dX13_typed_185 : decode cX13_typed 185 = .ok (.iconst 4, 1) := by decide +kernel
theorem dX13_typed_186 : decode cX13_typed 186 = .ok (.aload_n 0, 1) := by decide +kernel
theorem dX13_typed_187 : decode cX13_typed 187 = .ok (.getfield 104, 3) := by decide +kernel
theorem dX13_typed_190 : decode cX13_typed 190 = .ok (.iload 6, 2) := by decide +kernel
theorem dX13_typed_192 : decode cX13_typed 192 = .ok (.iaload, 1) := by decide +kernel
theorem dX13_typed_193 : decode cX13_typed 193 = .ok (.iload 4, 2) := by decide +kernel
theorem dX13_typed_195 : decode cX13_typed 195 = .ok (.invokevirtual 664, 3) := by decide +kernel
theorem dX13_typed_198 : decode cX13_typed 198 = .ok (.istore 4, 2) := by decide +kernel
theorem dX13_typed_200 : decode cX13_typed 200 = .ok (.iinc 5 (-1), 3) := by decide +kernel
theorem dX13_typed_203 : decode cX13_typed 203 = .ok (.goto (-51), 3) := by decide +kernel
theorem dX13_typed_206 : decode cX13_typed 206 = .ok (.aload_n 0, 1) := by decide +kernel
theorem dX13_typed_207 : decode cX13_typed 207 = .ok (.getfield 104, 3) := by decide +kernel
theorem dX13_typed_210 : decode cX13_typed 210 = .ok (.aload_n 0, 1) := by decide +kernel
theorem dX13_typed_211 : decode cX13_typed 211 = .ok (.getfield 107, 3) := by decide +kernel
theorem dX13_typed_214 : decode cX13_typed 214 = .ok (.aload_n 0, 1) := by decide +kernel
theorem dX13_typed_215 : decode cX13_typed 215 = .ok (.getfield 38, 3) := by decide +kernel
theorem dX13_typed_218 : decode cX13_typed 218 = .ok (.iload_n 1, 1) := by decide +kernel
theorem dX13_typed_219 : decode cX13_typed 219 = .ok (.iaload, 1) := by decide +kernel
theorem dX13_typed_220 : decode cX13_typed 220 = .ok (.iaload, 1) := by decide +kernel
theorem dX13_typed_221 : decode cX13_typed 221 = .ok (.iload 4, 2) := by decide +kernel
theorem dX13_typed_223 : decode cX13_typed 223 = .ok (.iastore, 1) := by decide +kernel
theorem dX13_typed_224 : decode cX13_typed 224 = .ok (.aload_n 0, 1) := by decide +kernel
theorem dX13_typed_225 : decode cX13_typed 225 = .ok (.aload_n 0, 1) := by decide +kernel
theorem dX13_typed_226 : decode cX13_typed 226 = .ok (.getfield 44, 3) := by decide +kernel
theorem dX13_typed_229 : decode cX13_typed 229 = .ok (.iload_n 1, 1) := by decide +kernel
theorem dX13_typed_230 : decode cX13_typed 230 = .ok (.iaload, 1) := by decide +kernel
theorem dX13_typed_231 : decode cX13_typed 231 = .ok (.invokevirtual 692, 3) := by decide +kernel
theorem dX13_typed_234 : decode cX13_typed 234 = .ok (.istore 5, 2) := by decide +kernel
theorem dX13_typed_236 : decode cX13_typed 236 = .ok (.aload_n 0, 1) := by decide +kernel
theorem dX13_typed_237 : decode cX13_typed 237 = .ok (.getfield 392, 3) := by decide +kernel
theorem dX13_typed_240 : decode cX13_typed 240 = .ok (.ifCond .ne 29, 3) := by decide +kernel
theorem dX13_typed_243 : decode cX13_typed 243 = .ok (.aload_n 0, 1) := by decide +kernel
theorem dX13_typed_244 : decode cX13_typed 244 = .ok (.iload 5, 2) := by decide +kernel
theorem dX13_typed_246 : decode cX13_typed 246 = .ok (.iload_n 3, 1) := by decide +kernel
theorem dX13_typed_247 : decode cX13_typed 247 = .ok (.invokevirtual 677, 3) := by decide +kernel
theorem dX13_typed_250 : decode cX13_typed 250 = .ok (.ifCond .ne 19, 3) := by decide +kernel
theorem dX13_typed_253 : decode cX13_typed 253 = .ok (.aload_n 0, 1) := by decide +kernel
theorem dX13_typed_254 : decode cX13_typed 254 = .ok (.iconst 4, 1) := by decide +kernel
theorem dX13_typed_255 : decode cX13_typed 255 = .ok (.aload_n 0, 1) := by decide +kernel
theorem dX13_typed_256 : decode cX13_typed 256 = .ok (.getfield 32, 3) := by decide +kernel
theorem dX13_typed_259 : decode cX13_typed 259 = .ok (.aload_n 0, 1) := by decide +kernel
theorem dX13_typed_260 : decode cX13_typed 260 = .ok (.getfield 44, 3) := by decide +kernel
theorem dX13_typed_263 : decode cX13_typed 263 = .ok (.iload_n 1, 1) := by decide +kernel
theorem dX13_typed_264 : decode cX13_typed 264 = .ok (.iaload, 1) := by decide +kernel
theorem dX13_typed_265 : decode cX13_typed 265 = .ok (.iaload, 1) := by decide +kernel
theorem dX13_typed_266 : decode cX13_typed 266 = .ok (.invokevirtual 422, 3) := by decide +kernel
theorem dX13_typed_269 : decode cX13_typed 269 = .ok (.aload_n 0, 1) := by decide +kernel
theorem dX13_typed_270 : decode cX13_typed 270 = .ok (.aload_n 0, 1) := by decide +kernel
theorem dX13_typed_271 : decode cX13_typed 271 = .ok (.getfield 47, 3) := by decide +kernel
theorem dX13_typed_274 : decode cX13_typed 274 = .ok (.iload_n 1, 1) := by decide +kernel
theorem dX13_typed_275 : decode cX13_typed 275 = .ok (.iaload, 1) := by decide +kernel
theorem dX13_typed_276 : decode cX13_typed 276 = .ok (.invokevirtual 692, 3) := by decide +kernel
theorem dX13_typed_279 : decode cX13_typed 279 = .ok (.ireturn, 1) := by decide +kernel
theorem dX13_typed_280 : decode cX13_typed 280 = .ok (.aload_n 0, 1) := by decide +kernel
theorem dX13_typed_281 : decode cX13_typed 281 = .ok (.getfield 107, 3) := by decide +kernel
theorem dX13_typed_284 : decode cX13_typed 284 = .ok (.aload_n 0, 1) := by decide +kernel
theorem dX13_typed_285 : decode cX13_typed 285 = .ok (.getfield 38, 3) := by decide +kernel
theorem dX13_typed_288 : decode cX13_typed 288 = .ok (.iload_n 1, 1) := by decide +kernel
theorem dX13_typed_289 : decode cX13_typed 289 = .ok (.iaload, 1) := by decide +kernel
theorem dX13_typed_290 : decode cX13_typed 290 = .ok (.iaload, 1) := by decide +kernel
theorem dX13_typed_291 : decode cX13_typed 291 = .ok (.istore_n 2, 1) := by decide +kernel
theorem dX13_typed_292 : decode cX13_typed 292 = .ok (.aload_n 0, 1) := by decide +kernel
theorem dX13_typed_293 : decode cX13_typed 293 = .ok (.getfield 104, 3) := by decide +kernel
theorem dX13_typed_296 : decode cX13_typed 296 = .ok (.iload_n 2, 1) := by decide +kernel
theorem dX13_typed_297 : decode cX13_typed 297 = .ok (.aload_n 0, 1) := by decide +kernel
theorem dX13_typed_298 : decode cX13_typed 298 = .ok (.invokevirtual 695, 3) := by decide +kernel
theorem dX13_typed_301 : decode cX13_typed 301 = .ok (.iastore, 1) := by decide +kernel
theorem dX13_typed_302 : decode cX13_typed 302 = .ok (.aload_n 0, 1) := by decide +kernel
theorem dX13_typed_303 : decode cX13_typed 303 = .ok (.aload_n 0, 1) := by decide +kernel
theorem dX13_typed_304 : decode cX13_typed 304 = .ok (.getfield 44, 3) := by decide +kernel
theorem dX13_typed_307 : decode cX13_typed 307 = .ok (.iload_n 1, 1) := by decide +kernel
theorem dX13_typed_308 : decode cX13_typed 308 = .ok (.iaload, 1) := by decide +kernel
theorem dX13_typed_309 : decode cX13_typed 309 = .ok (.invokevirtual 692, 3) := by decide +kernel
theorem dX13_typed_312 : decode cX13_typed 312 = .ok (.istore_n 3, 1) := by decide +kernel
theorem dX13_typed_313 : decode cX13_typed 313 = .ok (.aload_n 0, 1) := by decide +kernel
theorem dX13_typed_314 : decode cX13_typed 314 = .ok (.iconst 4, 1) := by decide +kernel
theorem dX13_typed_315 : decode cX13_typed 315 = .ok (.aload_n 0, 1) := by decide +kernel
theorem dX13_typed_316 : decode cX13_typed 316 = .ok (.getfield 104, 3) := by decide +kernel
theorem dX13_typed_319 : decode cX13_typed 319 = .ok (.iload_n 2, 1) := by decide +kernel
theorem dX13_typed_320 : decode cX13_typed 320 = .ok (.iaload, 1) := by decide +kernel
theorem dX13_typed_321 : decode cX13_typed 321 = .ok (.iload_n 3, 1) := by decide +kernel
theorem dX13_typed_322 : decode cX13_typed 322 = .ok (.invokevirtual 664, 3) := by decide +kernel
theorem dX13_typed_325 : decode cX13_typed 325 = .ok (.ireturn, 1) := by decide +kernel
theorem dX13_typed_326 : decode cX13_typed 326 = .ok (.aload_n 0, 1) := by decide +kernel
theorem dX13_typed_327 : decode cX13_typed 327 = .ok (.aload_n 0, 1) := by decide +kernel
theorem dX13_typed_328 : decode cX13_typed 328 = .ok (.getfield 38, 3) := by decide +kernel
theorem dX13_typed_331 : decode cX13_typed 331 = .ok (.iload_n 1, 1) := by decide +kernel
theorem dX13_typed_332 : decode cX13_typed 332 = .ok (.iaload, 1) := by decide +kernel
theorem dX13_typed_333 : decode cX13_typed 333 = .ok (.invokevirtual 683, 3) := by decide +kernel
theorem dX13_typed_336 : decode cX13_typed 336 = .ok (.aload_n 0, 1) := by decide +kernel
theorem dX13_typed_337 : decode cX13_typed 337 = .ok (.aload_n 0, 1) := by decide +kernel
theorem dX13_typed_338 : decode cX13_typed 338 = .ok (.getfield 44, 3) := by decide +kernel
theorem dX13_typed_341 : decode cX13_typed 341 = .ok (.iload_n 1, 1) := by decide +kernel
theorem dX13_typed_342 : decode cX13_typed 342 = .ok (.iaload, 1) := by decide +kernel
theorem dX13_typed_343 : decode cX13_typed 343 = .ok (.invokevirtual 692, 3) := by decide +kernel
theorem dX13_typed_346 : decode cX13_typed 346 = .ok (.istore_n 2, 1) := by decide +kernel
theorem dX13_typed_347 : decode cX13_typed 347 = .ok (.aload_n 0, 1) := by decide +kernel
theorem dX13_typed_348 : decode cX13_typed 348 = .ok (.aload_n 0, 1) := by decide +kernel
theorem dX13_typed_349 : decode cX13_typed 349 = .ok (.getfield 47, 3) := by decide +kernel
theorem dX13_typed_352 : decode cX13_typed 352 = .ok (.iload_n 1, 1) := by decide +kernel
theorem dX13_typed_353 : decode cX13_typed 353 = .ok (.iaload, 1) := by decide +kernel
theorem dX13_typed_354 : decode cX13_typed 354 = .ok (.invokevirtual 692, 3) := by decide +kernel
theorem dX13_typed_357 : decode cX13_typed 357 = .ok (.istore_n 3, 1) := by decide +kernel
theorem dX13_typed_358 : decode cX13_typed 358 = .ok (.aload_n 0, 1) := by decide +kernel
theorem dX13_typed_359 : decode cX13_typed 359 = .ok (.getfield 392, 3) := by decide +kernel
theorem dX13_typed_362 : decode cX13_typed 362 = .ok (.ifCond .ne 28, 3) := by decide +kernel
theorem dX13_typed_365 : decode cX13_typed 365 = .ok (.aload_n 0, 1) := by decide +kernel
theorem dX13_typed_366 : decode cX13_typed 366 = .ok (.iload_n 3, 1) := by decide +kernel
theorem dX13_typed_367 : decode cX13_typed 367 = .ok (.iload_n 2, 1) := by decide +kernel
theorem dX13_typed_368 : decode cX13_typed 368 = .ok (.invokevirtual 677, 3) := by decide +kernel
theorem dX13_typed_371 : decode cX13_typed 371 = .ok (.ifCond .ne 19, 3) := by decide +kernel
theorem dX13_typed_374 : decode cX13_typed 374 = .ok (.aload_n 0, 1) := by decide +kernel
theorem dX13_typed_375 : decode cX13_typed 375 = .ok (.iconst 4, 1) := by decide +kernel
theorem dX13_typed_376 : decode cX13_typed 376 = .ok (.aload_n 0, 1) := by decide +kernel
theorem dX13_typed_377 : decode cX13_typed 377 = .ok (.getfield 32, 3) := by decide +kernel
theorem dX13_typed_380 : decode cX13_typed 380 = .ok (.aload_n 0, 1) := by decide +kernel
theorem dX13_typed_381 : decode cX13_typed 381 = .ok (.getfield 47, 3) := by decide +kernel
theorem dX13_typed_384 : decode cX13_typed 384 = .ok (.iload_n 1, 1) := by decide +kernel
theorem dX13_typed_385 : decode cX13_typed 385 = .ok (.iaload, 1) := by decide +kernel
theorem dX13_typed_386 : decode cX13_typed 386 = .ok (.iaload, 1) := by decide +kernel
theorem dX13_typed_387 : decode cX13_typed 387 = .ok (.invokevirtual 422, 3) := by decide +kernel
theorem dX13_typed_390 : decode cX13_typed 390 = .ok (.iload_n 2, 1) := by decide +kernel
theorem dX13_typed_391 : decode cX13_typed 391 = .ok (.ireturn, 1) := by decide +kernel
theorem dX13_typed_392 : decode cX13_typed 392 = .ok (.aload_n 0, 1) := by decide +kernel
theorem dX13_typed_393 : decode cX13_typed 393 = .ok (.aload_n 0, 1) := by decide +kernel
theorem dX13_typed_394 : decode cX13_typed 394 = .ok (.getfield 38, 3) := by decide +kernel
theorem dX13_typed_397 : decode cX13_typed 397 = .ok (.iload_n 1, 1) := by decide +kernel
theorem dX13_typed_398 : decode cX13_typed 398 = .ok (.iaload, 1) := by decide +kernel
theorem dX13_typed_399 : decode cX13_typed 399 = .ok (.invokevirtual 683, 3) := by decide +kernel
theorem dX13_typed_402 : decode cX13_typed 402 = .ok (.aload_n 0, 1) := by decide +kernel
theorem dX13_typed_403 : decode cX13_typed 403 = .ok (.aload_n 0, 1) := by decide +kernel
theorem dX13_typed_404 : decode cX13_typed 404 = .ok (.getfield 44, 3) := by decide +kernel
theorem dX13_typed_407 : decode cX13_typed 407 = .ok (.iload_n 1, 1) := by decide +kernel
theorem dX13_typed_408 : decode cX13_typed 408 = .ok (.iaload, 1) := by decide +kernel
theorem dX13_typed_409 : decode cX13_typed 409 = .ok (.invokevirtual 692, 3) := by decide +kernel
theorem dX13_typed_412 : decode cX13_typed 412 = .ok (.ireturn, 1) := by decide +kernel
theorem dX13_typed_413 : decode cX13_typed 413 = .ok (.aload_n 0, 1) := by decide +kernel
theorem dX13_typed_414 : decode cX13_typed 414 = .ok (.aload_n 0, 1) := by decide +kernel
theorem dX13_typed_415 : decode cX13_typed 415 = .ok (.getfield 104, 3) := by decide +kernel
theorem dX13_typed_418 : decode cX13_typed 418 = .ok (.aload_n 0, 1) := by decide +kernel
theorem dX13_typed_419 : decode cX13_typed 419 = .ok (.getfield 107, 3) := by decide +kernel
theorem dX13_typed_422 : decode cX13_typed 422 = .ok (.aload_n 0, 1) := by decide +kernel
theorem dX13_typed_423 : decode cX13_typed 423 = .ok (.getfield 38, 3) := by decide +kernel
theorem dX13_typed_426 : decode cX13_typed 426 = .ok (.iload_n 1, 1) := by decide +kernel
theorem dX13_typed_427 : decode cX13_typed 427 = .ok (.iaload, 1) := by decide +kernel
theorem dX13_typed_428 : decode cX13_typed 428 = .ok (.iaload, 1) := by decide +kernel
theorem dX13_typed_429 : decode cX13_typed 429 = .ok (.iaload, 1) := by decide +kernel
theorem dX13_typed_430 : decode cX13_typed 430 = .ok (.iconst 3, 1) := by decide +kernel
theorem dX13_typed_431 : decode cX13_typed 431 = .ok (.aload_n 0, 1) := by decide +kernel
theorem dX13_typed_432 : decode cX13_typed 432 = .ok (.getfield 23, 3) := by decide +kernel
theorem dX13_typed_435 : decode cX13_typed 435 = .ok (.aload_n 0, 1) := by decide +kernel
theorem dX13_typed_436 : decode cX13_typed 436 = .ok (.getfield 38, 3) := by decide +kernel
theorem dX13_typed_439 : decode cX13_typed 439 = .ok (.iload_n 1, 1) := by decide +kernel
theorem dX13_typed_440 : decode cX13_typed 440 = .ok (.iaload, 1) := by decide +kernel
theorem dX13_typed_441 : decode cX13_typed 441 = .ok (.iaload, 1) := by decide +kernel
theorem dX13_typed_442 : decode cX13_typed 442 = .ok (.invokevirtual 680, 3) := by decide +kernel
theorem dX13_typed_445 : decode cX13_typed 445 = .ok (.aload_n 0, 1) := by decide +kernel
theorem dX13_typed_446 : decode cX13_typed 446 = .ok (.aload_n 0, 1) := by decide +kernel
theorem dX13_typed_447 : decode cX13_typed 447 = .ok (.getfield 41, 3) := by decide +kernel
theorem dX13_typed_450 : decode cX13_typed 450 = .ok (.iload_n 1, 1) := by decide +kernel
theorem dX13_typed_451 : decode cX13_typed 451 = .ok (.iaload, 1) := by decide +kernel
theorem dX13_typed_452 : decode cX13_typed 452 = .ok (.invokevirtual 686, 3) := by decide +kernel
theorem dX13_typed_455 : decode cX13_typed 455 = .ok (.aload_n 0, 1) := by decide +kernel
theorem dX13_typed_456 : decode cX13_typed 456 = .ok (.aload_n 0, 1) := by decide +kernel
theorem dX13_typed_457 : decode cX13_typed 457 = .ok (.getfield 44, 3) := by decide +kernel
theorem dX13_typed_460 : decode cX13_typed 460 = .ok (.iload_n 1, 1) := by decide +kernel
theorem dX13_typed_461 : decode cX13_typed 461 = .ok (.iaload, 1) := by decide +kernel
theorem dX13_typed_462 : decode cX13_typed 462 = .ok (.invokevirtual 686, 3) := by decide +kernel
theorem dX13_typed_465 : decode cX13_typed 465 = .ok (.aload_n 0, 1) := by decide +kernel
theorem dX13_typed_466 : decode cX13_typed 466 = .ok (.aload_n 0, 1) := by decide +kernel
theorem dX13_typed_467 : decode cX13_typed 467 = .ok (.getfield 47, 3) := by decide +kernel
theorem dX13_typed_470 : decode cX13_typed 470 = .ok (.iload_n 1, 1) := by decide +kernel
theorem dX13_typed_471 : decode cX13_typed 471 = .ok (.iaload, 1) := by decide +kernel
theorem dX13_typed_472 : decode cX13_typed 472 = .ok (.invokevirtual 692, 3) := by decide +kernel
theorem dX13_typed_475 : decode cX13_typed 475 = .ok (.ireturn, 1) := by decide +kernel
theorem dX13_typed_476 : decode cX13_typed 476 = .ok (.aload_n 0, 1) := by decide +kernel
theorem dX13_typed_477 : decode cX13_typed 477 = .ok (.aload_n 0, 1) := by decide +kernel
theorem dX13_typed_478 : decode cX13_typed 478 = .ok (.getfield 41, 3) := by decide +kernel
theorem dX13_typed_481 : decode cX13_typed 481 = .ok (.iload_n 1, 1) := by decide +kernel
theorem dX13_typed_482 : decode cX13_typed 482 = .ok (.iaload, 1) := by decide +kernel
theorem dX13_typed_483 : decode cX13_typed 483 = .ok (.invokevirtual 686, 3) := by decide +kernel
theorem dX13_typed_486 : decode cX13_typed 486 = .ok (.aload_n 0, 1) := by decide +kernel
theorem dX13_typed_487 : decode cX13_typed 487 = .ok (.iconst 3, 1) := by decide +kernel
theorem dX13_typed_488 : decode cX13_typed 488 = .ok (.iconst (-1), 1) := by decide +kernel
theorem dX13_typed_489 : decode cX13_typed 489 = .ok (.iconst (-1), 1) := by decide +kernel
theorem dX13_typed_490 : decode cX13_typed 490 = .ok (.invokevirtual 664, 3) := by decide +kernel
theorem dX13_typed_493 : decode cX13_typed 493 = .ok (.ireturn, 1) := by decide +kernel
theorem dX13_typed_494 : decode cX13_typed 494 = .ok (.aload_n 0, 1) := by decide +kernel
theorem dX13_typed_495 : decode cX13_typed 495 = .ok (.iconst 2, 1) := by decide +kernel
theorem dX13_typed_496 : decode cX13_typed 496 = .ok (.iconst (-1), 1) := by decide +kernel
theorem dX13_typed_497 : decode cX13_typed 497 = .ok (.iconst (-1), 1) := by decide +kernel
theorem dX13_typed_498 : decode cX13_typed 498 = .ok (.invokevirtual 664, 3) := by decide +kernel
theorem dX13_typed_501 : decode cX13_typed 501 = .ok (.ireturn, 1) := by decide +kernel
theorem dX13_typed_502 : decode cX13_typed 502 = .ok (.aload_n 0, 1) := by decide +kernel
theorem dX13_typed_503 : decode cX13_typed 503 = .ok (.aload_n 0, 1) := by decide +kernel
theorem dX13_typed_504 : decode cX13_typed 504 = .ok (.getfield 41, 3) := by decide +kernel
theorem dX13_typed_507 : decode cX13_typed 507 = .ok (.iload_n 1, 1) := by decide +kernel
theorem dX13_typed_508 : decode cX13_typed 508 = .ok (.iaload, 1) := by decide +kernel
theorem dX13_typed_509 : decode cX13_typed 509 = .ok (.invokevirtual 698, 3) := by decide +kernel
theorem dX13_typed_512 : decode cX13_typed 512 = .ok (.ifCond .eq 30, 3) := by decide +kernel
theorem dX13_typed_515 : decode cX13_typed 515 = .ok (.aload_n 0, 1) := by decide +kernel
theorem dX13_typed_516 : decode cX13_typed 516 = .ok (.getfield 104, 3) := by decide +kernel
theorem dX13_typed_519 : decode cX13_typed 519 = .ok (.aload_n 0, 1) := by decide +kernel
theorem dX13_typed_520 : decode cX13_typed 520 = .ok (.getfield 107, 3) := by decide +kernel
theorem dX13_typed_523 : decode cX13_typed 523 = .ok (.aload_n 0, 1) := by decide +kernel
theorem dX13_typed_524 : decode cX13_typed 524 = .ok (.getfield 65, 3) := by decide +kernel
theorem dX13_typed_527 : decode cX13_typed 527 = .ok (.aload_n 0, 1) := by decide +kernel
theorem dX13_typed_528 : decode cX13_typed 528 = .ok (.getfield 50, 3) := by decide +kernel
theorem dX13_typed_531 : decode cX13_typed 531 = .ok (.aload_n 0, 1) := by decide +kernel
theorem dX13_typed_532 : decode cX13_typed 532 = .ok (.getfield 41, 3) := by decide +kernel
theorem dX13_typed_535 : decode cX13_typed 535 = .ok (.iload_n 1, 1) := by decide +kernel
theorem dX13_typed_536 : decode cX13_typed 536 = .ok (.iaload, 1) := by decide +kernel
theorem dX13_typed_537 : decode cX13_typed 537 = .ok (.iaload, 1) := by decide +kernel
theorem dX13_typed_538 : decode cX13_typed 538 = .ok (.iaload, 1) := by decide +kernel
theorem dX13_typed_539 : decode cX13_typed 539 = .ok (.iaload, 1) := by decide +kernel
theorem dX13_typed_540 : decode cX13_typed 540 = .ok (.iaload, 1) := by decide +kernel
theorem dX13_typed_541 : decode cX13_typed 541 = .ok (.ireturn, 1) := by decide +kernel
theorem dX13_typed_542 : decode cX13_typed 542 = .ok (.aload_n 0, 1) := by decide +kernel
theorem dX13_typed_543 : decode cX13_typed 543 = .ok (.aload_n 0, 1) := by decide +kernel
theorem dX13_typed_544 : decode cX13_typed 544 = .ok (.getfield 41, 3) := by decide +kernel
theorem dX13_typed_547 : decode cX13_typed 547 = .ok (.iload_n 1, 1) := by decide +kernel
theorem dX13_typed_548 : decode cX13_typed 548 = .ok (.iaload, 1) := by decide +kernel
theorem dX13_typed_549 : decode cX13_typed 549 = .ok (.invokevirtual 686, 3) := by decide +kernel
theorem dX13_typed_552 : decode cX13_typed 552 = .ok (.aload_n 0, 1) := by decide +kernel
theorem dX13_typed_553 : decode cX13_typed 553 = .ok (.iconst 1, 1) := by decide +kernel
theorem dX13_typed_554 : decode cX13_typed 554 = .ok (.iconst (-1), 1) := by decide +kernel
theorem dX13_typed_555 : decode cX13_typed 555 = .ok (.iconst (-1), 1) := by decide +kernel
theorem dX13_typed_556 : decode cX13_typed 556 = .ok (.invokevirtual 664, 3) := by decide +kernel
theorem dX13_typed_559 : decode cX13_typed 559 = .ok (.ireturn, 1) := by decide +kernel
theorem dX13_typed_560 : decode cX13_typed 560 = .ok (.aload_n 0, 1) := by decide +kernel
theorem dX13_typed_561 : decode cX13_typed 561 = .ok (.aload_n 0, 1) := by decide +kernel
theorem dX13_typed_562 : decode cX13_typed 562 = .ok (.getfield 41, 3) := by decide +kernel
theorem dX13_typed_565 : decode cX13_typed 565 = .ok (.iload_n 1, 1) := by decide +kernel
theorem dX13_typed_566 : decode cX13_typed 566 = .ok (.iaload, 1) := by decide +kernel
theorem dX13_typed_567 : decode cX13_typed 567 = .ok (.invokevirtual 686, 3) := by decide +kernel
theorem dX13_typed_570 : decode cX13_typed 570 = .ok (.aload_n 0, 1) := by decide +kernel
theorem dX13_typed_571 : decode cX13_typed 571 = .ok (.aload_n 0, 1) := by decide +kernel
theorem dX13_typed_572 : decode cX13_typed 572 = .ok (.getfield 44, 3) := by decide +kernel
theorem dX13_typed_575 : decode cX13_typed 575 = .ok (.iload_n 1, 1) := by decide +kernel
theorem dX13_typed_576 : decode cX13_typed 576 = .ok (.iaload, 1) := by decide +kernel
theorem dX13_typed_577 : decode cX13_typed 577 = .ok (.invokevirtual 686, 3) := by decide +kernel
theorem dX13_typed_580 : decode cX13_typed 580 = .ok (.aload_n 0, 1) := by decide +kernel
theorem dX13_typed_581 : decode cX13_typed 581 = .ok (.iconst 1, 1) := by decide +kernel
theorem dX13_typed_582 : decode cX13_typed 582 = .ok (.iconst (-1), 1) := by decide +kernel
theorem dX13_typed_583 : decode cX13_typed 583 = .ok (.iconst (-1), 1) := by decide +kernel
theorem dX13_typed_584 : decode cX13_typed 584 = .ok (.invokevirtual 664, 3) := by decide +kernel
theorem dX13_typed_587 : decode cX13_typed 587 = .ok (.ireturn, 1) := by decide +kernel
theorem dX13_typed_588 : decode cX13_typed 588 = .ok (.aload_n 0, 1) := by decide +kernel
theorem dX13_typed_589 : decode cX13_typed 589 = .ok (.aload_n 0, 1) := by decide +kernel
theorem dX13_typed_590 : decode cX13_typed 590 = .ok (.getfield 104, 3) := by decide +kernel
theorem dX13_typed_593 : decode cX13_typed 593 = .ok (.aload_n 0, 1) := by decide +kernel
theorem dX13_typed_594 : decode cX13_typed 594 = .ok (.getfield 107, 3) := by decide +kernel
theorem dX13_typed_597 : decode cX13_typed 597 = .ok (.aload_n 0, 1) := by decide +kernel
theorem dX13_typed_598 : decode cX13_typed 598 = .ok (.getfield 38, 3) := by decide +kernel
theorem dX13_typed_601 : decode cX13_typed 601 = .ok (.iload_n 1, 1) := by decide +kernel
theorem dX13_typed_602 : decode cX13_typed 602 = .ok (.iaload, 1) := by decide +kernel
theorem dX13_typed_603 : decode cX13_typed 603 = .ok (.iaload, 1) := by decide +kernel
theorem dX13_typed_604 : decode cX13_typed 604 = .ok (.iaload, 1) := by decide +kernel
theorem dX13_typed_605 : decode cX13_typed 605 = .ok (.iconst 3, 1) := by decide +kernel
theorem dX13_typed_606 : decode cX13_typed 606 = .ok (.aload_n 0, 1) := by decide +kernel
theorem dX13_typed_607 : decode cX13_typed 607 = .ok (.getfield 23, 3) := by decide +kernel
theorem dX13_typed_610 : decode cX13_typed 610 = .ok (.aload_n 0, 1) := by decide +kernel
theorem dX13_typed_611 : decode cX13_typed 611 = .ok (.getfield 38, 3) := by decide +kernel
theorem dX13_typed_614 : decode cX13_typed 614 = .ok (.iload_n 1, 1) := by decide +kernel
theorem dX13_typed_615 : decode cX13_typed 615 = .ok (.iaload, 1) := by decide +kernel
theorem dX13_typed_616 : decode cX13_typed 616 = .ok (.iaload, 1) := by decide +kernel
theorem dX13_typed_617 : decode cX13_typed 617 = .ok (.invokevirtual 680, 3) := by decide +kernel
theorem dX13_typed_620 : decode cX13_typed 620 = .ok (.aload_n 0, 1) := by decide +kernel
theorem dX13_typed_621 : decode cX13_typed 621 = .ok (.aload_n 0, 1) := by decide +kernel
theorem dX13_typed_622 : decode cX13_typed 622 = .ok (.getfield 41, 3) := by decide +kernel
theorem dX13_typed_625 : decode cX13_typed 625 = .ok (.iload_n 1, 1) := by decide +kernel
theorem dX13_typed_626 : decode cX13_typed 626 = .ok (.iaload, 1) := by decide +kernel
theorem dX13_typed_627 : decode cX13_typed 627 = .ok (.invokevirtual 686, 3) := by decide +kernel
theorem dX13_typed_630 : decode cX13_typed 630 = .ok (.aload_n 0, 1) := by decide +kernel
theorem dX13_typed_631 : decode cX13_typed 631 = .ok (.iconst 1, 1) := by decide +kernel
theorem dX13_typed_632 : decode cX13_typed 632 = .ok (.iconst (-1), 1) := by decide +kernel
theorem dX13_typed_633 : decode cX13_typed 633 = .ok (.iconst (-1), 1) := by decide +kernel
theorem dX13_typed_634 : decode cX13_typed 634 = .ok (.invokevirtual 664, 3) := by decide +kernel
theorem dX13_typed_637 : decode cX13_typed 637 = .ok (.ireturn, 1) := by decide +kernel
theorem dX13_typed_638 : decode cX13_typed 638 = .ok (.aload_n 0, 1) := by decide +kernel
theorem dX13_typed_639 : decode cX13_typed 639 = .ok (.iconst 5, 1) := by decide +kernel
theorem dX13_typed_640 : decode cX13_typed 640 = .ok (.iconst (-1), 1) := by decide +kernel
theorem dX13_typed_641 : decode cX13_typed 641 = .ok (.iconst (-1), 1) := by decide +kernel
theorem dX13_typed_642 : decode cX13_typed 642 = .ok (.invokevirtual 664, 3) := by decide +kernel
theorem dX13_typed_645 : decode cX13_typed 645 = .ok (.ireturn, 1) := by decide +kernel
theorem dX13_typed_646 : decode cX13_typed 646 = .ok (.aload_n 0, 1) := by decide +kernel
theorem dX13_typed_647 : decode cX13_typed 647 = .ok (.aload_n 0, 1) := by decide +kernel
theorem dX13_typed_648 : decode cX13_typed 648 = .ok (.getfield 41, 3) := by decide +kernel
theorem dX13_typed_651 : decode cX13_typed 651 = .ok (.iload_n 1, 1) := by decide +kernel
theorem dX13_typed_652 : decode cX13_typed 652 = .ok (.iaload, 1) := by decide +kernel
theorem dX13_typed_653 : decode cX13_typed 653 = .ok (.invokevirtual 686, 3) := by decide +kernel
theorem dX13_typed_656 : decode cX13_typed 656 = .ok (.aload_n 0, 1) := by decide +kernel
theorem dX13_typed_657 : decode cX13_typed 657 = .ok (.aload_n 0, 1) := by decide +kernel
theorem dX13_typed_658 : decode cX13_typed 658 = .ok (.getfield 104, 3) := by decide +kernel
theorem dX13_typed_661 : decode cX13_typed 661 = .ok (.aload_n 0, 1) := by decide +kernel
theorem dX13_typed_662 : decode cX13_typed 662 = .ok (.getfield 107, 3) := by decide +kernel
theorem dX13_typed_665 : decode cX13_typed 665 = .ok (.aload_n 0, 1) := by decide +kernel
theorem dX13_typed_666 : decode cX13_typed 666 = .ok (.getfield 38, 3) := by decide +kernel
theorem dX13_typed_669 : decode cX13_typed 669 = .ok (.iload_n 1, 1) := by decide +kernel
theorem dX13_typed_670 : decode cX13_typed 670 = .ok (.iaload, 1) := by decide +kernel
theorem dX13_typed_671 : decode cX13_typed 671 = .ok (.iaload, 1) := by decide +kernel
theorem dX13_typed_672 : decode cX13_typed 672 = .ok (.iaload, 1) := by decide +kernel
theorem dX13_typed_673 : decode cX13_typed 673 = .ok (.iconst 5, 1) := by decide +kernel
theorem dX13_typed_674 : decode cX13_typed 674 = .ok (.aload_n 0, 1) := by decide +kernel
theorem dX13_typed_675 : decode cX13_typed 675 = .ok (.getfield 23, 3) := by decide +kernel
theorem dX13_typed_678 : decode cX13_typed 678 = .ok (.aload_n 0, 1) := by decide +kernel
theorem dX13_typed_679 : decode cX13_typed 679 = .ok (.getfield 38, 3) := by decide +kernel
theorem dX13_typed_682 : decode cX13_typed 682 = .ok (.iload_n 1, 1) := by decide +kernel
theorem dX13_typed_683 : decode cX13_typed 683 = .ok (.iaload, 1) := by decide +kernel
theorem dX13_typed_684 : decode cX13_typed 684 = .ok (.iaload, 1) := by decide +kernel
theorem dX13_typed_685 : decode cX13_typed 685 = .ok (.invokevirtual 680, 3) := by decide +kernel
theorem dX13_typed_688 : decode cX13_typed 688 = .ok (.aload_n 0, 1) := by decide +kernel
theorem dX13_typed_689 : decode cX13_typed 689 = .ok (.iconst 5, 1) := by decide +kernel
theorem dX13_typed_690 : decode cX13_typed 690 = .ok (.iconst (-1), 1) := by decide +kernel
theorem dX13_typed_691 : decode cX13_typed 691 = .ok (.iconst (-1), 1) := by decide +kernel
theorem dX13_typed_692 : decode cX13_typed 692 = .ok (.invokevirtual 664, 3) := by decide +kernel
theorem dX13_typed_695 : decode cX13_typed 695 = .ok (.ireturn, 1) := by decide +kernel
theorem dX13_typed_696 : decode cX13_typed 696 = .ok (.aload_n 0, 1) := by decide +kernel
theorem dX13_typed_697 : decode cX13_typed 697 = .ok (.aload_n 0, 1) := by decide +kernel
theorem dX13_typed_698 : decode cX13_typed 698 = .ok (.getfield 104, 3) := by decide +kernel
theorem dX13_typed_701 : decode cX13_typed 701 = .ok (.aload_n 0, 1) := by decide +kernel
theorem dX13_typed_702 : decode cX13_typed 702 = .ok (.getfield 107, 3) := by decide +kernel
theorem dX13_typed_705 : decode cX13_typed 705 = .ok (.aload_n 0, 1) := by decide +kernel
theorem dX13_typed_706 : decode cX13_typed 706 = .ok (.getfield 38, 3) := by decide +kernel
theorem dX13_typed_709 : decode cX13_typed 709 = .ok (.iload_n 1, 1) := by decide +kernel
theorem dX13_typed_710 : decode cX13_typed 710 = .ok (.iaload, 1) := by decide +kernel
theorem dX13_typed_711 : decode cX13_typed 711 = .ok (.iaload, 1) := by decide +kernel
theorem dX13_typed_712 : decode cX13_typed 712 = .ok (.iaload, 1) := by decide +kernel
theorem dX13_typed_713 : decode cX13_typed 713 = .ok (.iconst 5, 1) := by decide +kernel
theorem dX13_typed_714 : decode cX13_typed 714 = .ok (.aload_n 0, 1) := by decide +kernel
theorem dX13_typed_715 : decode cX13_typed 715 = .ok (.getfield 23, 3) := by decide +kernel
theorem dX13_typed_718 : decode cX13_typed 718 = .ok (.aload_n 0, 1) := by decide +kernel
theorem dX13_typed_719 : decode cX13_typed 719 = .ok (.getfield 38, 3) := by decide +kernel
theorem dX13_typed_722 : decode cX13_typed 722 = .ok (.iload_n 1, 1) := by decide +kernel
theorem dX13_typed_723 : decode cX13_typed 723 = .ok (.iaload, 1) := by decide +kernel
theorem dX13_typed_724 : decode cX13_typed 724 = .ok (.iaload, 1) := by decide +kernel
theorem dX13_typed_725 : decode cX13_typed 725 = .ok (.invokevirtual 680, 3) := by decide +kernel
theorem dX13_typed_728 : decode cX13_typed 728 = .ok (.aload_n 0, 1) := by decide +kernel
theorem dX13_typed_729 : decode cX13_typed 729 = .ok (.aload_n 0, 1) := by decide +kernel
theorem dX13_typed_730 : decode cX13_typed 730 = .ok (.getfield 44, 3) := by decide +kernel
theorem dX13_typed_733 : decode cX13_typed 733 = .ok (.iload_n 1, 1) := by decide +kernel
theorem dX13_typed_734 : decode cX13_typed 734 = .ok (.iaload, 1) := by decide +kernel
theorem dX13_typed_735 : decode cX13_typed 735 = .ok (.invokevirtual 692, 3) := by decide +kernel
theorem dX13_typed_738 : decode cX13_typed 738 = .ok (.istore_n 2, 1) := by decide +kernel
theorem dX13_typed_739 : decode cX13_typed 739 = .ok (.aload_n 0, 1) := by decide +kernel
theorem dX13_typed_740 : decode cX13_typed 740 = .ok (.getfield 104, 3) := by decide +kernel
theorem dX13_typed_743 : decode cX13_typed 743 = .ok (.aload_n 0, 1) := by decide +kernel
theorem dX13_typed_744 : decode cX13_typed 744 = .ok (.getfield 107, 3) := by decide +kernel
theorem dX13_typed_747 : decode cX13_typed 747 = .ok (.aload_n 0, 1) := by decide +kernel
theorem dX13_typed_748 : decode cX13_typed 748 = .ok (.getfield 41, 3) := by decide +kernel
theorem dX13_typed_751 : decode cX13_typed 751 = .ok (.iload_n 1, 1) := by decide +kernel
theorem dX13_typed_752 : decode cX13_typed 752 = .ok (.iaload, 1) := by decide +kernel
theorem dX13_typed_753 : decode cX13_typed 753 = .ok (.iaload, 1) := by decide +kernel
theorem dX13_typed_754 : decode cX13_typed 754 = .ok (.aload_n 0, 1) := by decide +kernel
theorem dX13_typed_755 : decode cX13_typed 755 = .ok (.iconst 1, 1) := by decide +kernel
theorem dX13_typed_756 : decode cX13_typed 756 = .ok (.iconst (-1), 1) := by decide +kernel
theorem dX13_typed_757 : decode cX13_typed 757 = .ok (.iconst (-1), 1) := by decide +kernel
theorem dX13_typed_758 : decode cX13_typed 758 = .ok (.invokevirtual 664, 3) := by decide +kernel
theorem dX13_typed_761 : decode cX13_typed 761 = .ok (.iastore, 1) := by decide +kernel
theorem dX13_typed_762 : decode cX13_typed 762 = .ok (.aload_n 0, 1) := by decide +kernel
theorem dX13_typed_763 : decode cX13_typed 763 = .ok (.getfield 104, 3) := by decide +kernel
theorem dX13_typed_766 : decode cX13_typed 766 = .ok (.aload_n 0, 1) := by decide +kernel
theorem dX13_typed_767 : decode cX13_typed 767 = .ok (.getfield 107, 3) := by decide +kernel
theorem dX13_typed_770 : decode cX13_typed 770 = .ok (.aload_n 0, 1) := by decide +kernel
theorem dX13_typed_771 : decode cX13_typed 771 = .ok (.getfield 41, 3) := by decide +kernel
theorem dX13_typed_774 : decode cX13_typed 774 = .ok (.iload_n 1, 1) := by decide +kernel
theorem dX13_typed_775 : decode cX13_typed 775 = .ok (.iaload, 1) := by decide +kernel
theorem dX13_typed_776 : decode cX13_typed 776 = .ok (.iconst 1, 1) := by decide +kernel
theorem dX13_typed_777 : decode cX13_typed 777 = .ok (.iadd, 1) := by decide +kernel
theorem dX13_typed_778 : decode cX13_typed 778 = .ok (.iaload, 1) := by decide +kernel
theorem dX13_typed_779 : decode cX13_typed 779 = .ok (.aload_n 0, 1) := by decide +kernel
theorem dX13_typed_780 : decode cX13_typed 780 = .ok (.iconst 5, 1) := by decide +kernel
theorem dX13_typed_781 : decode cX13_typed 781 = .ok (.iconst (-1), 1) := by decide +kernel
theorem dX13_typed_782 : decode cX13_typed 782 = .ok (.iconst (-1), 1) := by decide +kernel
theorem dX13_typed_783 : decode cX13_typed 783 = .ok (.invokevirtual 664, 3) := by decide +kernel
theorem dX13_typed_786 : decode cX13_typed 786 = .ok (.iastore, 1) := by decide +kernel
theorem dX13_typed_787 : decode cX13_typed 787 = .ok (.aload_n 0, 1) := by decide +kernel
theorem dX13_typed_788 : decode cX13_typed 788 = .ok (.aload_n 0, 1) := by decide +kernel
theorem dX13_typed_789 : decode cX13_typed 789 = .ok (.getfield 47, 3) := by decide +kernel
theorem dX13_typed_792 : decode cX13_typed 792 = .ok (.iload_n 1, 1) := by decide +kernel
theorem dX13_typed_793 : decode cX13_typed 793 = .ok (.iaload, 1) := by decide +kernel
theorem dX13_typed_794 : decode cX13_typed 794 = .ok (.invokevirtual 692, 3) := by decide +kernel
theorem dX13_typed_797 : decode cX13_typed 797 = .ok (.istore_n 3, 1) := by decide +kernel
theorem dX13_typed_798 : decode cX13_typed 798 = .ok (.aload_n 0, 1) := by decide +kernel
theorem dX13_typed_799 : decode cX13_typed 799 = .ok (.getfield 392, 3) := by decide +kernel
theorem dX13_typed_802 : decode cX13_typed 802 = .ok (.ifCond .ne 28, 3) := by decide +kernel
theorem dX13_typed_805 : decode cX13_typed 805 = .ok (.aload_n 0, 1) := by decide +kernel
theorem dX13_typed_806 : decode cX13_typed 806 = .ok (.iload_n 3, 1) := by decide +kernel
theorem dX13_typed_807 : decode cX13_typed 807 = .ok (.iload_n 2, 1) := by decide +kernel
theorem dX13_typed_808 : decode cX13_typed 808 = .ok (.invokevirtual 677, 3) := by decide +kernel
theorem dX13_typed_811 : decode cX13_typed 811 = .ok (.ifCond .ne 19, 3) := by decide +kernel
theorem dX13_typed_814 : decode cX13_typed 814 = .ok (.aload_n 0, 1) := by decide +kernel
theorem dX13_typed_815 : decode cX13_typed 815 = .ok (.iconst 4, 1) := by decide +kernel
theorem dX13_typed_816 : decode cX13_typed 816 = .ok (.aload_n 0, 1) := by decide +kernel
theorem dX13_typed_817 : decode cX13_typed 817 = .ok (.getfield 32, 3) := by decide +kernel
theorem dX13_typed_820 : decode cX13_typed 820 = .ok (.aload_n 0, 1) := by decide +kernel
theorem dX13_typed_821 : decode cX13_typed 821 = .ok (.getfield 47, 3) := by decide +kernel
theorem dX13_typed_824 : decode cX13_typed 824 = .ok (.iload_n 1, 1) := by decide +kernel
theorem dX13_typed_825 : decode cX13_typed 825 = .ok (.iaload, 1) := by decide +kernel
theorem dX13_typed_826 : decode cX13_typed 826 = .ok (.iaload, 1) := by decide +kernel
theorem dX13_typed_827 : decode cX13_typed 827 = .ok (.invokevirtual 422, 3) := by decide +kernel
theorem dX13_typed_830 : decode cX13_typed 830 = .ok (.iload_n 2, 1) := by decide +kernel
theorem dX13_typed_831 : decode cX13_typed 831 = .ok (.ireturn, 1) := by decide +kernel
theorem dX13_typed_832 : decode cX13_typed 832 = .ok (.aload_n 0, 1) := by decide +kernel
theorem dX13_typed_833 : decode cX13_typed 833 = .ok (.iload_n 1, 1) := by decide +kernel
theorem dX13_typed_834 : decode cX13_typed 834 = .ok (.invokevirtual 701, 3) := by decide +kernel
theorem dX13_typed_837 : decode cX13_typed 837 = .ok (.ireturn, 1) := by decide +kernel
theorem dX13_typed_838 : decode cX13_typed 838 = .ok (.aload_n 0, 1) := by decide +kernel
theorem dX13_typed_839 : decode cX13_typed 839 = .ok (.aload_n 0, 1) := by decide +kernel
theorem dX13_typed_840 : decode cX13_typed 840 = .ok (.getfield 44, 3) := by decide +kernel
theorem dX13_typed_843 : decode cX13_typed 843 = .ok (.iload_n 1, 1) := by decide +kernel
theorem dX13_typed_844 : decode cX13_typed 844 = .ok (.iaload, 1) := by decide +kernel
theorem dX13_typed_845 : decode cX13_typed 845 = .ok (.invokevirtual 692, 3) := by decide +kernel
theorem dX13_typed_848 : decode cX13_typed 848 = .ok (.ireturn, 1) := by decide +kernel
theorem dX13_typeOfCall_0 : decode cX13_typeOfCall 0 = .ok (.aload_n 0, 1) := by decide +kernel
theorem dX13_typeOfCall_1 : decode cX13_typeOfCall 1 = .ok (.getfield 104, 3) := by decide +kernel
theorem dX13_typeOfCall_4 : decode cX13_typeOfCall 4 = .ok (.aload_n 0, 1) := by decide +kernel
theorem dX13_typeOfCall_5 : decode cX13_typeOfCall 5 = .ok (.getfield 107, 3) := by decide +kernel
theorem dX13_typeOfCall_8 : decode cX13_typeOfCall 8 = .ok (.aload_n 0, 1) := by decide +kernel
theorem dX13_typeOfCall_9 : decode cX13_typeOfCall 9 = .ok (.getfield 38, 3) := by decide +kernel
theorem dX13_typeOfCall_12 : decode cX13_typeOfCall 12 = .ok (.iload_n 1, 1) := by decide +kernel
theorem dX13_typeOfCall_13 : decode cX13_typeOfCall 13 = .ok (.iaload, 1) := by decide +kernel
theorem dX13_typeOfCall_14 : decode cX13_typeOfCall 14 = .ok (.iaload, 1) := by decide +kernel
theorem dX13_typeOfCall_15 : decode cX13_typeOfCall 15 = .ok (.iaload, 1) := by decide +kernel
theorem dX13_typeOfCall_16 : decode cX13_typeOfCall 16 = .ok (.istore_n 2, 1) := by decide +kernel
theorem dX13_typeOfCall_17 : decode cX13_typeOfCall 17 = .ok (.iload_n 2, 1) := by decide +kernel
theorem dX13_typeOfCall_18 : decode cX13_typeOfCall 18 = .ok (.istore_n 3, 1) := by decide +kernel
theorem dX13_typeOfCall_19 : decode cX13_typeOfCall 19 = .ok (.iconst 0, 1) := by decide +kernel
theorem dX13_typeOfCall_20 : decode cX13_typeOfCall 20 = .ok (.istore 4, 2) := by decide +kernel
theorem dX13_typeOfCall_22 : decode cX13_typeOfCall 22 = .ok (.iload 4, 2) := by decide +kernel
theorem dX13_typeOfCall_24 : decode cX13_typeOfCall 24 = .ok (.aload_n 0, 1) := by decide +kernel
theorem dX13_typeOfCall_25 : decode cX13_typeOfCall 25 = .ok (.getfield 44, 3) := by decide +kernel
theorem dX13_typeOfCall_28 : decode cX13_typeOfCall 28 = .ok (.iload_n 1, 1) := by decide +kernel
theorem dX13_typeOfCall_29 : decode cX13_typeOfCall 29 = .ok (.iaload, 1) := by decide +kernel
theorem dX13_typeOfCall_30 : decode cX13_typeOfCall 30 = .ok (.if_icmp .ge 104, 3) := by decide +kernel
theorem dX13_typeOfCall_33 : decode cX13_typeOfCall 33 = .ok (.aload_n 0, 1) := by decide +kernel
theorem dX13_typeOfCall_34 : decode cX13_typeOfCall 34 = .ok (.getfield 392, 3) := by decide +kernel
theorem dX13_typeOfCall_37 : decode cX13_typeOfCall 37 = .ok (.ifCond .ne 97, 3) := by decide +kernel
theorem dX13_typeOfCall_40 : decode cX13_typeOfCall 40 = .ok (.aload_n 0, 1) := by decide +kernel
theorem dX13_typeOfCall_41 : decode cX13_typeOfCall 41 = .ok (.iload_n 2, 1) := by decide +kernel
theorem dX13_typeOfCall_42 : decode cX13_typeOfCall 42 = .ok (.invokevirtual 668, 3) := by decide +kernel
theorem dX13_typeOfCall_45 : decode cX13_typeOfCall 45 = .ok (.istore 5, 2) := by decide +kernel
theorem dX13_typeOfCall_47 : decode cX13_typeOfCall 47 = .ok (.aload_n 0, 1) := by decide +kernel
theorem dX13_typeOfCall_48 : decode cX13_typeOfCall 48 = .ok (.getfield 113, 3) := by decide +kernel
theorem dX13_typeOfCall_51 : decode cX13_typeOfCall 51 = .ok (.iload 5, 2) := by decide +kernel
theorem dX13_typeOfCall_53 : decode cX13_typeOfCall 53 = .ok (.iaload, 1) := by decide +kernel
theorem dX13_typeOfCall_54 : decode cX13_typeOfCall 54 = .ok (.ifCond .ne 39, 3) := by decide +kernel
theorem dX13_typeOfCall_57 : decode cX13_typeOfCall 57 = .ok (.aload_n 0, 1) := by decide +kernel
theorem dX13_typeOfCall_58 : decode cX13_typeOfCall 58 = .ok (.invokevirtual 695, 3) := by decide +kernel
theorem dX13_typeOfCall_61 : decode cX13_typeOfCall 61 = .ok (.istore 6, 2) := by decide +kernel
theorem dX13_typeOfCall_63 : decode cX13_typeOfCall 63 = .ok (.aload_n 0, 1) := by decide +kernel
theorem dX13_typeOfCall_64 : decode cX13_typeOfCall 64 = .ok (.invokevirtual 695, 3) := by decide +kernel
theorem dX13_typeOfCall_67 : decode cX13_typeOfCall 67 = .ok (.istore 7, 2) := by decide +kernel
theorem dX13_typeOfCall_69 : decode cX13_typeOfCall 69 = .ok (.aload_n 0, 1) := by decide +kernel
theorem dX13_typeOfCall_70 : decode cX13_typeOfCall 70 = .ok (.getfield 122, 3) := by decide +kernel
theorem dX13_typeOfCall_73 : decode cX13_typeOfCall 73 = .ok (.iload 5, 2) := by decide +kernel
theorem dX13_typeOfCall_75 : decode cX13_typeOfCall 75 = .ok (.aload_n 0, 1) := by decide +kernel
theorem dX13_typeOfCall_76 : decode cX13_typeOfCall 76 = .ok (.iconst 4, 1) := by decide +kernel
theorem dX13_typeOfCall_77 : decode cX13_typeOfCall 77 = .ok (.iload 6, 2) := by decide +kernel
theorem dX13_typeOfCall_79 : decode cX13_typeOfCall 79 = .ok (.iload 7, 2) := by decide +kernel
theorem dX13_typeOfCall_81 : decode cX13_typeOfCall 81 = .ok (.invokevirtual 664, 3) := by decide +kernel
theorem dX13_typeOfCall_84 : decode cX13_typeOfCall 84 = .ok (.iastore, 1) := by decide +kernel
theorem dX13_typeOfCall_85 : decode cX13_typeOfCall 85 = .ok (.aload_n 0, 1) := by decide +kernel
theorem dX13_typeOfCall_86 : decode cX13_typeOfCall 86 = .ok (.iload 5, 2) := by decide +kernel
theorem dX13_typeOfCall_88 : decode cX13_typeOfCall 88 = .ok (.invokevirtual 668, 3) := by decide +kernel
theorem dX13_typeOfCall_91 : decode cX13_typeOfCall 91 = .ok (.istore 5, 2) := by decide +kernel
theorem dX13_typeOfCall_93 : decode cX13_typeOfCall 93 = .ok (.aload_n 0, 1) := by decide +kernel
theorem dX13_typeOfCall_94 : decode cX13_typeOfCall 94 = .ok (.getfield 113, 3) := by decide +kernel
theorem dX13_typeOfCall_97 : decode cX13_typeOfCall 97 = .ok (.iload 5, 2) := by decide +kernel
theorem dX13_typeOfCall_99 : decode cX13_typeOfCall 99 = .ok (.iaload, 1) := by decide +kernel
theorem dX13_typeOfCall_100 : decode cX13_typeOfCall 100 = .ok (.iconst 4, 1) := by decide +kernel
theorem dX13_typeOfCall_101 : decode cX13_typeOfCall 101 = .ok (.if_icmp .eq 19, 3) := by decide +kernel
theorem dX13_typeOfCall_104 : decode cX13_typeOfCall 104 = .ok (.aload_n 0, 1) := by decide +kernel
theorem dX13_typeOfCall_105 : decode cX13_typeOfCall 105 = .ok (.iconst 4, 1) := by decide +kernel
theorem dX13_typeOfCall_106 : decode cX13_typeOfCall 106 = .ok (.aload_n 0, 1) := by decide +kernel
theorem dX13_typeOfCall_107 : decode cX13_typeOfCall 107 = .ok (.getfield 23, 3) := by decide +kernel
theorem dX13_typeOfCall_110 : decode cX13_typeOfCall 110 = .ok (.aload_n 0, 1) := by decide +kernel
theorem dX13_typeOfCall_111 : decode cX13_typeOfCall 111 = .ok (.getfield 38, 3) := by decide +kernel
theorem dX13_typeOfCall_114 : decode cX13_typeOfCall 114 = .ok (.iload_n 1, 1) := by decide +kernel
theorem dX13_typeOfCall_115 : decode cX13_typeOfCall 115 = .ok (.iaload, 1) := by decide +kernel
theorem dX13_typeOfCall_116 : decode cX13_typeOfCall 116 = .ok (.iaload, 1) := by decide +kernel
theorem dX13_typeOfCall_117 : decode cX13_typeOfCall 117 = .ok (.invokevirtual 422, 3) := by decide +kernel
theorem dX13_typeOfCall_120 : decode cX13_typeOfCall 120 = .ok (.aload_n 0, 1) := by decide +kernel
theorem dX13_typeOfCall_121 : decode cX13_typeOfCall 121 = .ok (.getfield 119, 3) := by decide +kernel
theorem dX13_typeOfCall_124 : decode cX13_typeOfCall 124 = .ok (.iload 5, 2) := by decide +kernel
theorem dX13_typeOfCall_126 : decode cX13_typeOfCall 126 = .ok (.iaload, 1) := by decide +kernel
theorem dX13_typeOfCall_127 : decode cX13_typeOfCall 127 = .ok (.istore_n 2, 1) := by decide +kernel
theorem dX13_typeOfCall_128 : decode cX13_typeOfCall 128 = .ok (.iinc 4 1, 3) := by decide +kernel
theorem dX13_typeOfCall_131 : decode cX13_typeOfCall 131 = .ok (.goto (-109), 3) := by decide +kernel
theorem dX13_typeOfCall_134 : decode cX13_typeOfCall 134 = .ok (.iload_n 3, 1) := by decide +kernel
theorem dX13_typeOfCall_135 : decode cX13_typeOfCall 135 = .ok (.istore_n 2, 1) := by decide +kernel
theorem dX13_typeOfCall_136 : decode cX13_typeOfCall 136 = .ok (.iconst 0, 1) := by decide +kernel
theorem dX13_typeOfCall_137 : decode cX13_typeOfCall 137 = .ok (.istore 4, 2) := by decide +kernel
theorem dX13_typeOfCall_139 : decode cX13_typeOfCall 139 = .ok (.iload 4, 2) := by decide +kernel
theorem dX13_typeOfCall_141 : decode cX13_typeOfCall 141 = .ok (.aload_n 0, 1) := by decide +kernel
theorem dX13_typeOfCall_142 : decode cX13_typeOfCall 142 = .ok (.getfield 44, 3) := by decide +kernel
theorem dX13_typeOfCall_145 : decode cX13_typeOfCall 145 = .ok (.iload_n 1, 1) := by decide +kernel
theorem dX13_typeOfCall_146 : decode cX13_typeOfCall 146 = .ok (.iaload, 1) := by decide +kernel
theorem dX13_typeOfCall_147 : decode cX13_typeOfCall 147 = .ok (.if_icmp .ge 225, 3) := by decide +kernel
theorem dX13_typeOfCall_150 : decode cX13_typeOfCall 150 = .ok (.aload_n 0, 1) := by decide +kernel
theorem dX13_typeOfCall_151 : decode cX13_typeOfCall 151 = .ok (.getfield 392, 3) := by decide +kernel
theorem dX13_typeOfCall_154 : decode cX13_typeOfCall 154 = .ok (.ifCond .ne 218, 3) := by decide +kernel
theorem dX13_typeOfCall_157 : decode cX13_typeOfCall 157 = .ok (.aload_n 0, 1) := by decide +kernel
theorem dX13_typeOfCall_158 : decode cX13_typeOfCall 158 = .ok (.iload_n 2, 1) := by decide +kernel
theorem dX13_typeOfCall_159 : decode cX13_typeOfCall 159 = .ok (.invokevirtual 668, 3) := by decide +kernel
theorem dX13_typeOfCall_162 : decode cX13_typeOfCall 162 = .ok (.istore 5, 2) := by decide +kernel
theorem dX13_typeOfCall_164 : decode cX13_typeOfCall 164 = .ok (.aload_n 0, 1) := by decide +kernel
theorem dX13_typeOfCall_165 : decode cX13_typeOfCall 165 = .ok (.getfield 41, 3) := by decide +kernel
theorem dX13_typeOfCall_168 : decode cX13_typeOfCall 168 = .ok (.iload_n 1, 1) := by decide +kernel
theorem dX13_typeOfCall_169 : decode cX13_typeOfCall 169 = .ok (.iaload, 1) := by decide +kernel
theorem dX13_typeOfCall_170 : decode cX13_typeOfCall 170 = .ok (.iload 4, 2) := by decide +kernel
theorem dX13_typeOfCall_172 : decode cX13_typeOfCall 172 = .ok (.iadd, 1) := by decide +kernel
theorem dX13_typeOfCall_173 : decode cX13_typeOfCall 173 = .ok (.istore 6, 2) := by decide +kernel
theorem dX13_typeOfCall_175 : decode cX13_typeOfCall 175 = .ok (.aload_n 0, 1) := by decide +kernel
theorem dX13_typeOfCall_176 : decode cX13_typeOfCall 176 = .ok (.getfield 68, 3) := by decide +kernel
theorem dX13_typeOfCall_179 : decode cX13_typeOfCall 179 = .ok (.iload 6, 2) := by decide +kernel
theorem dX13_typeOfCall_181 : decode cX13_typeOfCall 181 = .ok (.iaload, 1) := by decide +kernel
theorem dX13_typeOfCall_182 : decode cX13_typeOfCall 182 = .ok (.iconst 1, 1) := by decide +kernel
theorem dX13_typeOfCall_183 : decode cX13_typeOfCall 183 = .ok (.if_icmp .ne 19, 3) := by decide +kernel
theorem dX13_typeOfCall_186 : decode cX13_typeOfCall 186 = .ok (.aload_n 0, 1) := by decide +kernel
theorem dX13_typeOfCall_187 : decode cX13_typeOfCall 187 = .ok (.aload_n 0, 1) := by decide +kernel
theorem dX13_typeOfCall_188 : decode cX13_typeOfCall 188 = .ok (.getfield 71, 3) := by decide +kernel
theorem dX13_typeOfCall_191 : decode cX13_typeOfCall 191 = .ok (.iload 6, 2) := by decide +kernel
theorem dX13_typeOfCall_193 : decode cX13_typeOfCall 193 = .ok (.iaload, 1) := by decide +kernel
theorem dX13_typeOfCall_194 : decode cX13_typeOfCall 194 = .ok (.invokevirtual 692, 3) := by decide +kernel
theorem dX13_typeOfCall_197 : decode cX13_typeOfCall 197 = .ok (.istore 7, 2) := by decide +kernel
theorem dX13_typeOfCall_199 : decode cX13_typeOfCall 199 = .ok (.goto 124, 3) := by decide +kernel
theorem dX13_typeOfCall_202 : decode cX13_typeOfCall 202 = .ok (.aload_n 0, 1) := by decide +kernel
theorem dX13_typeOfCall_203 : decode cX13_typeOfCall 203 = .ok (.getfield 68, 3) := by decide +kernel
theorem dX13_typeOfCall_206 : decode cX13_typeOfCall 206 = .ok (.iload 6, 2) := by decide +kernel
theorem dX13_typeOfCall_208 : decode cX13_typeOfCall 208 = .ok (.iaload, 1) := by decide +kernel
theorem dX13_typeOfCall_209 : decode cX13_typeOfCall 209 = .ok (.iconst 1, 1) := by decide +kernel
theorem dX13_typeOfCall_210 : decode cX13_typeOfCall 210 = .ok (.if_icmp .le 15, 3) := by decide +kernel
theorem dX13_typeOfCall_213 : decode cX13_typeOfCall 213 = .ok (.aload_n 0, 1) := by decide +kernel
theorem dX13_typeOfCall_214 : decode cX13_typeOfCall 214 = .ok (.iconst 2, 1) := by decide +kernel
theorem dX13_typeOfCall_215 : decode cX13_typeOfCall 215 = .ok (.iconst (-1), 1) := by decide +kernel
theorem dX13_typeOfCall_216 : decode cX13_typeOfCall 216 = .ok (.iconst (-1), 1) := by decide +kernel
theorem dX13_typeOfCall_217 : decode cX13_typeOfCall 217 = .ok (.invokevirtual 664, 3) := by decide +kernel
theorem dX13_typeOfCall_220 : decode cX13_typeOfCall 220 = .ok (.istore 7, 2) := by decide +kernel
theorem dX13_typeOfCall_222 : decode cX13_typeOfCall 222 = .ok (.goto 101, 3) := by decide +kernel
theorem dX13_typeOfCall_225 : decode cX13_typeOfCall 225 = .ok (.aload_n 0, 1) := by decide +kernel
theorem dX13_typeOfCall_226 : decode cX13_typeOfCall 226 = .ok (.aload_n 0, 1) := by decide +kernel
theorem dX13_typeOfCall_227 : decode cX13_typeOfCall 227 = .ok (.getfield 71, 3) := by decide +kernel
theorem dX13_typeOfCall_230 : decode cX13_typeOfCall 230 = .ok (.iload 6, 2) := by decide +kernel
theorem dX13_typeOfCall_232 : decode cX13_typeOfCall 232 = .ok (.iaload, 1) := by decide +kernel
theorem dX13_typeOfCall_233 : decode cX13_typeOfCall 233 = .ok (.invokevirtual 698, 3) := by decide +kernel
theorem dX13_typeOfCall_236 : decode cX13_typeOfCall 236 = .ok (.ifCond .eq 67, 3) := by decide +kernel
theorem dX13_typeOfCall_239 : decode cX13_typeOfCall 239 = .ok (.aload_n 0, 1) := by decide +kernel
theorem dX13_typeOfCall_240 : decode cX13_typeOfCall 240 = .ok (.getfield 74, 3) := by decide +kernel
theorem dX13_typeOfCall_243 : decode cX13_typeOfCall 243 = .ok (.iload 6, 2) := by decide +kernel
theorem dX13_typeOfCall_245 : decode cX13_typeOfCall 245 = .ok (.iaload, 1) := by decide +kernel
theorem dX13_typeOfCall_246 : decode cX13_typeOfCall 246 = .ok (.aload_n 0, 1) := by decide +kernel
theorem dX13_typeOfCall_247 : decode cX13_typeOfCall 247 = .ok (.getfield 23, 3) := by decide +kernel
theorem dX13_typeOfCall_250 : decode cX13_typeOfCall 250 = .ok (.aload_n 0, 1) := by decide +kernel
theorem dX13_typeOfCall_251 : decode cX13_typeOfCall 251 = .ok (.getfield 65, 3) := by decide +kernel
theorem dX13_typeOfCall_254 : decode cX13_typeOfCall 254 = .ok (.aload_n 0, 1) := by decide +kernel
theorem dX13_typeOfCall_255 : decode cX13_typeOfCall 255 = .ok (.getfield 50, 3) := by decide +kernel
theorem dX13_typeOfCall_258 : decode cX13_typeOfCall 258 = .ok (.aload_n 0, 1) := by decide +kernel
theorem dX13_typeOfCall_259 : decode cX13_typeOfCall 259 = .ok (.getfield 71, 3) := by decide +kernel
theorem dX13_typeOfCall_262 : decode cX13_typeOfCall 262 = .ok (.iload 6, 2) := by decide +kernel
theorem dX13_typeOfCall_264 : decode cX13_typeOfCall 264 = .ok (.iaload, 1) := by decide +kernel
theorem dX13_typeOfCall_265 : decode cX13_typeOfCall 265 = .ok (.iaload, 1) := by decide +kernel
theorem dX13_typeOfCall_266 : decode cX13_typeOfCall 266 = .ok (.iaload, 1) := by decide +kernel
theorem dX13_typeOfCall_267 : decode cX13_typeOfCall 267 = .ok (.iaload, 1) := by decide +kernel
theorem dX13_typeOfCall_268 : decode cX13_typeOfCall 268 = .ok (.if_icmp .ne 35, 3) := by decide +kernel
theorem dX13_typeOfCall_271 : decode cX13_typeOfCall 271 = .ok (.aload_n 0, 1) := by decide +kernel
theorem dX13_typeOfCall_272 : decode cX13_typeOfCall 272 = .ok (.getfield 104, 3) := by decide +kernel
theorem dX13_typeOfCall_275 : decode cX13_typeOfCall 275 = .ok (.aload_n 0, 1) := by decide +kernel
theorem dX13_typeOfCall_276 : decode cX13_typeOfCall 276 = .ok (.getfield 107, 3) := by decide +kernel
theorem dX13_typeOfCall_279 : decode cX13_typeOfCall 279 = .ok (.aload_n 0, 1) := by decide +kernel
theorem dX13_typeOfCall_280 : decode cX13_typeOfCall 280 = .ok (.getfield 65, 3) := by decide +kernel
theorem dX13_typeOfCall_283 : decode cX13_typeOfCall 283 = .ok (.aload_n 0, 1) := by decide +kernel
theorem dX13_typeOfCall_284 : decode cX13_typeOfCall 284 = .ok (.getfield 50, 3) := by decide +kernel
theorem dX13_typeOfCall_287 : decode cX13_typeOfCall 287 = .ok (.aload_n 0, 1) := by decide +kernel
theorem dX13_typeOfCall_288 : decode cX13_typeOfCall 288 = .ok (.getfield 71, 3) := by decide +kernel
theorem dX13_typeOfCall_291 : decode cX13_typeOfCall 291 = .ok (.iload 6, 2) := by decide +kernel
theorem dX13_typeOfCall_293 : decode cX13_typeOfCall 293 = .ok (.iaload, 1) := by decide +kernel
theorem dX13_typeOfCall_294 : decode cX13_typeOfCall 294 = .ok (.iaload, 1) := by decide +kernel
theorem dX13_typeOfCall_295 : decode cX13_typeOfCall 295 = .ok (.iaload, 1) := by decide +kernel
theorem dX13_typeOfCall_296 : decode cX13_typeOfCall 296 = .ok (.iaload, 1) := by decide +kernel
theorem dX13_typeOfCall_297 : decode cX13_typeOfCall 297 = .ok (.iaload, 1) := by decide +kernel
theorem dX13_typeOfCall_298 : decode cX13_typeOfCall 298 = .ok (.istore 7, 2) := by decide +kernel
theorem dX13_typeOfCall_300 : decode cX13_typeOfCall 300 = .ok (.goto 23, 3) := by decide +kernel
theorem dX13_typeOfCall_303 : decode cX13_typeOfCall 303 = .ok (.aload_n 0, 1) := by decide +kernel
theorem dX13_typeOfCall_304 : decode cX13_typeOfCall 304 = .ok (.aload_n 0, 1) := by decide +kernel
theorem dX13_typeOfCall_305 : decode cX13_typeOfCall 305 = .ok (.getfield 71, 3) := by decide +kernel
theorem dX13_typeOfCall_308 : decode cX13_typeOfCall 308 = .ok (.iload 6, 2) := by decide +kernel
theorem dX13_typeOfCall_310 : decode cX13_typeOfCall 310 = .ok (.iaload, 1) := by decide +kernel
theorem dX13_typeOfCall_311 : decode cX13_typeOfCall 311 = .ok (.invokevirtual 686, 3) := by decide +kernel
theorem dX13_typeOfCall_314 : decode cX13_typeOfCall 314 = .ok (.aload_n 0, 1) := by decide +kernel
theorem dX13_typeOfCall_315 : decode cX13_typeOfCall 315 = .ok (.iconst 1, 1) := by decide +kernel
theorem dX13_typeOfCall_316 : decode cX13_typeOfCall 316 = .ok (.iconst (-1), 1) := by decide +kernel
theorem dX13_typeOfCall_317 : decode cX13_typeOfCall 317 = .ok (.iconst (-1), 1) := by decide +kernel
theorem dX13_typeOfCall_318 : decode cX13_typeOfCall 318 = .ok (.invokevirtual 664, 3) := by decide +kernel
theorem dX13_typeOfCall_321 : decode cX13_typeOfCall 321 = .ok (.istore 7, 2) := by decide +kernel
theorem dX13_typeOfCall_323 : decode cX13_typeOfCall 323 = .ok (.aload_n 0, 1) := by decide +kernel
theorem dX13_typeOfCall_324 : decode cX13_typeOfCall 324 = .ok (.getfield 392, 3) := by decide +kernel
theorem dX13_typeOfCall_327 : decode cX13_typeOfCall 327 = .ok (.ifCond .ne 31, 3) := by decide +kernel
theorem dX13_typeOfCall_330 : decode cX13_typeOfCall 330 = .ok (.aload_n 0, 1) := by decide +kernel
theorem dX13_typeOfCall_331 : decode cX13_typeOfCall 331 = .ok (.iload 7, 2) := by decide +kernel
theorem dX13_typeOfCall_333 : decode cX13_typeOfCall 333 = .ok (.aload_n 0, 1) := by decide +kernel
theorem dX13_typeOfCall_334 : decode cX13_typeOfCall 334 = .ok (.getfield 116, 3) := by decide +kernel
theorem dX13_typeOfCall_337 : decode cX13_typeOfCall 337 = .ok (.iload 5, 2) := by decide +kernel
theorem dX13_typeOfCall_339 : decode cX13_typeOfCall 339 = .ok (.iaload, 1) := by decide +kernel
theorem dX13_typeOfCall_340 : decode cX13_typeOfCall 340 = .ok (.invokevirtual 677, 3) := by decide +kernel
theorem dX13_typeOfCall_343 : decode cX13_typeOfCall 343 = .ok (.ifCond .ne 15, 3) := by decide +kernel
theorem dX13_typeOfCall_346 : decode cX13_typeOfCall 346 = .ok (.aload_n 0, 1) := by decide +kernel
theorem dX13_typeOfCall_347 : decode cX13_typeOfCall 347 = .ok (.iconst 4, 1) := by decide +kernel
theorem dX13_typeOfCall_348 : decode cX13_typeOfCall 348 = .ok (.aload_n 0, 1) := by decide +kernel
theorem dX13_typeOfCall_349 : decode cX13_typeOfCall 349 = .ok (.getfield 74, 3) := by decide +kernel
theorem dX13_typeOfCall_352 : decode cX13_typeOfCall 352 = .ok (.iload 6, 2) := by decide +kernel
theorem dX13_typeOfCall_354 : decode cX13_typeOfCall 354 = .ok (.iaload, 1) := by decide +kernel
theorem dX13_typeOfCall_355 : decode cX13_typeOfCall 355 = .ok (.invokevirtual 422, 3) := by decide +kernel
theorem dX13_typeOfCall_358 : decode cX13_typeOfCall 358 = .ok (.aload_n 0, 1) := by decide +kernel
theorem dX13_typeOfCall_359 : decode cX13_typeOfCall 359 = .ok (.getfield 119, 3) := by decide +kernel
theorem dX13_typeOfCall_362 : decode cX13_typeOfCall 362 = .ok (.iload 5, 2) := by decide +kernel
theorem dX13_typeOfCall_364 : decode cX13_typeOfCall 364 = .ok (.iaload, 1) := by decide +kernel
theorem dX13_typeOfCall_365 : decode cX13_typeOfCall 365 = .ok (.istore_n 2, 1) := by decide +kernel
theorem dX13_typeOfCall_366 : decode cX13_typeOfCall 366 = .ok (.iinc 4 1, 3) := by decide +kernel
theorem dX13_typeOfCall_369 : decode cX13_typeOfCall 369 = .ok (.goto (-230), 3) := by decide +kernel
theorem dX13_typeOfCall_372 : decode cX13_typeOfCall 372 = .ok (.iload_n 2, 1) := by decide +kernel
theorem dX13_typeOfCall_373 : decode cX13_typeOfCall 373 = .ok (.ireturn, 1) := by decide +kernel
theorem dX13_sort_0 : decode cX13_sort 0 = .ok (.aload_n 0, 1) := by decide +kernel
theorem dX13_sort_1 : decode cX13_sort 1 = .ok (.iload_n 1, 1) := by decide +kernel
theorem dX13_sort_2 : decode cX13_sort 2 = .ok (.invokevirtual 668, 3) := by decide +kernel
theorem dX13_sort_5 : decode cX13_sort 5 = .ok (.istore_n 2, 1) := by decide +kernel
theorem dX13_sort_6 : decode cX13_sort 6 = .ok (.aload_n 0, 1) := by decide +kernel
theorem dX13_sort_7 : decode cX13_sort 7 = .ok (.getfield 113, 3) := by decide +kernel
theorem dX13_sort_10 : decode cX13_sort 10 = .ok (.iload_n 2, 1) := by decide +kernel
theorem dX13_sort_11 : decode cX13_sort 11 = .ok (.iaload, 1) := by decide +kernel
theorem dX13_sort_12 : decode cX13_sort 12 = .ok (.ifCond .ne 7, 3) := by decide +kernel
theorem dX13_sort_15 : decode cX13_sort 15 = .ok (.iconst 1, 1) := by decide +kernel
theorem dX13_sort_16 : decode cX13_sort 16 = .ok (.goto 9, 3) := by decide +kernel
theorem dX13_sort_19 : decode cX13_sort 19 = .ok (.aload_n 0, 1) := by decide +kernel
theorem dX13_sort_20 : decode cX13_sort 20 = .ok (.getfield 113, 3) := by decide +kernel
theorem dX13_sort_23 : decode cX13_sort 23 = .ok (.iload_n 2, 1) := by decide +kernel
theorem dX13_sort_24 : decode cX13_sort 24 = .ok (.iaload, 1) := by decide +kernel
theorem dX13_sort_25 : decode cX13_sort 25 = .ok (.ireturn, 1) := by decide +kernel
theorem dX13_addName_0 : decode cX13_addName 0 = .ok (.iconst 0, 1) := by decide +kernel
theorem dX13_addName_1 : decode cX13_addName 1 = .ok (.istore_n 3, 1) := by decide +kernel
theorem dX13_addName_2 : decode cX13_addName 2 = .ok (.iload_n 3, 1) := by decide +kernel
theorem dX13_addName_3 : decode cX13_addName 3 = .ok (.aload_n 0, 1) := by decide +kernel
theorem dX13_addName_4 : decode cX13_addName 4 = .ok (.getfield 704, 3) := by decide +kernel
theorem dX13_addName_7 : decode cX13_addName 7 = .ok (.if_icmp .ge 19, 3) := by decide +kernel
theorem dX13_addName_10 : decode cX13_addName 10 = .ok (.aload_n 0, 1) := by decide +kernel
theorem dX13_addName_11 : decode cX13_addName 11 = .ok (.getfield 131, 3) := by decide +kernel
theorem dX13_addName_14 : decode cX13_addName 14 = .ok (.iload_n 3, 1) := by decide +kernel
theorem dX13_addName_15 : decode cX13_addName 15 = .ok (.iaload, 1) := by decide +kernel
theorem dX13_addName_16 : decode cX13_addName 16 = .ok (.iload_n 1, 1) := by decide +kernel
theorem dX13_addName_17 : decode cX13_addName 17 = .ok (.if_icmp .eq 9, 3) := by decide +kernel
theorem dX13_addName_20 : decode cX13_addName 20 = .ok (.iinc 3 1, 3) := by decide +kernel
theorem dX13_addName_23 : decode cX13_addName 23 = .ok (.goto (-21), 3) := by decide +kernel
theorem dX13_addName_26 : decode cX13_addName 26 = .ok (.iload_n 3, 1) := by decide +kernel
theorem dX13_addName_27 : decode cX13_addName 27 = .ok (.aload_n 0, 1) := by decide +kernel
theorem dX13_addName_28 : decode cX13_addName 28 = .ok (.getfield 704, 3) := by decide +kernel
theorem dX13_addName_31 : decode cX13_addName 31 = .ok (.if_icmp .ne 27, 3) := by decide +kernel
theorem dX13_addName_34 : decode cX13_addName 34 = .ok (.aload_n 0, 1) := by decide +kernel
theorem dX13_addName_35 : decode cX13_addName 35 = .ok (.getfield 131, 3) := by decide +kernel
theorem dX13_addName_38 : decode cX13_addName 38 = .ok (.iload_n 3, 1) := by decide +kernel
theorem dX13_addName_39 : decode cX13_addName 39 = .ok (.iload_n 1, 1) := by decide +kernel
theorem dX13_addName_40 : decode cX13_addName 40 = .ok (.iastore, 1) := by decide +kernel
theorem dX13_addName_41 : decode cX13_addName 41 = .ok (.aload_n 0, 1) := by decide +kernel
theorem dX13_addName_42 : decode cX13_addName 42 = .ok (.getfield 134, 3) := by decide +kernel
theorem dX13_addName_45 : decode cX13_addName 45 = .ok (.iload_n 3, 1) := by decide +kernel
theorem dX13_addName_46 : decode cX13_addName 46 = .ok (.iconst 0, 1) := by decide +kernel
theorem dX13_addName_47 : decode cX13_addName 47 = .ok (.iastore, 1) := by decide +kernel
theorem dX13_addName_48 : decode cX13_addName 48 = .ok (.aload_n 0, 1) := by decide +kernel
theorem dX13_addName_49 : decode cX13_addName 49 = .ok (.dup, 1) := by decide +kernel
theorem dX13_addName_50 : decode cX13_addName 50 = .ok (.getfield 704, 3) := by decide +kernel
theorem dX13_addName_53 : decode cX13_addName 53 = .ok (.iconst 1, 1) := by decide +kernel
theorem dX13_addName_54 : decode cX13_addName 54 = .ok (.iadd, 1) := by decide +kernel
theorem dX13_addName_55 : decode cX13_addName 55 = .ok (.putfield 704, 3) := by decide +kernel
theorem dX13_addName_58 : decode cX13_addName 58 = .ok (.aload_n 0, 1) := by decide +kernel
theorem dX13_addName_59 : decode cX13_addName 59 = .ok (.getfield 134, 3) := by decide +kernel
theorem dX13_addName_62 : decode cX13_addName 62 = .ok (.iload_n 3, 1) := by decide +kernel
theorem dX13_addName_63 : decode cX13_addName 63 = .ok (.dup2, 1) := by decide +kernel
theorem dX13_addName_64 : decode cX13_addName 64 = .ok (.iaload, 1) := by decide +kernel
theorem dX13_addName_65 : decode cX13_addName 65 = .ok (.iload_n 2, 1) := by decide +kernel
theorem dX13_addName_66 : decode cX13_addName 66 = .ok (.iadd, 1) := by decide +kernel
theorem dX13_addName_67 : decode cX13_addName 67 = .ok (.iastore, 1) := by decide +kernel
theorem dX13_addName_68 : decode cX13_addName 68 = .ok (.aload_n 0, 1) := by decide +kernel
theorem dX13_addName_69 : decode cX13_addName 69 = .ok (.getfield 134, 3) := by decide +kernel
theorem dX13_addName_72 : decode cX13_addName 72 = .ok (.iload_n 3, 1) := by decide +kernel
theorem dX13_addName_73 : decode cX13_addName 73 = .ok (.iaload, 1) := by decide +kernel
theorem dX13_addName_74 : decode cX13_addName 74 = .ok (.ifCond .eq 4, 3) := by decide +kernel
theorem dX13_addName_77 : decode cX13_addName 77 = .ok (.return_, 1) := by decide +kernel
theorem dX13_addName_78 : decode cX13_addName 78 = .ok (.aload_n 0, 1) := by decide +kernel
theorem dX13_addName_79 : decode cX13_addName 79 = .ok (.dup, 1) := by decide +kernel
theorem dX13_addName_80 : decode cX13_addName 80 = .ok (.getfield 704, 3) := by decide +kernel
theorem dX13_addName_83 : decode cX13_addName 83 = .ok (.iconst 1, 1) := by decide +kernel
theorem dX13_addName_84 : decode cX13_addName 84 = .ok (.isub, 1) := by decide +kernel
theorem dX13_addName_85 : decode cX13_addName 85 = .ok (.putfield 704, 3) := by decide +kernel
theorem dX13_addName_88 : decode cX13_addName 88 = .ok (.aload_n 0, 1) := by decide +kernel
theorem dX13_addName_89 : decode cX13_addName 89 = .ok (.getfield 131, 3) := by decide +kernel
theorem dX13_addName_92 : decode cX13_addName 92 = .ok (.iload_n 3, 1) := by decide +kernel
theorem dX13_addName_93 : decode cX13_addName 93 = .ok (.aload_n 0, 1) := by decide +kernel
theorem dX13_addName_94 : decode cX13_addName 94 = .ok (.getfield 131, 3) := by decide +kernel
theorem dX13_addName_97 : decode cX13_addName 97 = .ok (.aload_n 0, 1) := by decide +kernel
theorem dX13_addName_98 : decode cX13_addName 98 = .ok (.getfield 704, 3) := by decide +kernel
theorem dX13_addName_101 : decode cX13_addName 101 = .ok (.iaload, 1) := by decide +kernel
theorem dX13_addName_102 : decode cX13_addName 102 = .ok (.iastore, 1) := by decide +kernel
theorem dX13_addName_103 : decode cX13_addName 103 = .ok (.aload_n 0, 1) := by decide +kernel
theorem dX13_addName_104 : decode cX13_addName 104 = .ok (.getfield 134, 3) := by decide +kernel
theorem dX13_addName_107 : decode cX13_addName 107 = .ok (.iload_n 3, 1) := by decide +kernel
theorem dX13_addName_108 : decode cX13_addName 108 = .ok (.aload_n 0, 1) := by decide +kernel
theorem dX13_addName_109 : decode cX13_addName 109 = .ok (.getfield 134, 3) := by decide +kernel
theorem dX13_addName_112 : decode cX13_addName 112 = .ok (.aload_n 0, 1) := by decide +kernel
theorem dX13_addName_113 : decode cX13_addName 113 = .ok (.getfield 704, 3) := by decide +kernel
theorem dX13_addName_116 : decode cX13_addName 116 = .ok (.iaload, 1) := by decide +kernel
theorem dX13_addName_117 : decode cX13_addName 117 = .ok (.iastore, 1) := by decide +kernel
theorem dX13_addName_118 : decode cX13_addName 118 = .ok (.return_, 1) := by decide +kernel
theorem dX13_addSum_0 : decode cX13_addSum 0 = .ok (.aload_n 0, 1) := by decide +kernel
theorem dX13_addSum_1 : decode cX13_addSum 1 = .ok (.getfield 50, 3) := by decide +kernel
theorem dX13_addSum_4 : decode cX13_addSum 4 = .ok (.iload_n 1, 1) := by decide +kernel
theorem dX13_addSum_5 : decode cX13_addSum 5 = .ok (.iaload, 1) := by decide +kernel
theorem dX13_addSum_6 : decode cX13_addSum 6 = .ok (.istore_n 3, 1) := by decide +kernel
theorem dX13_addSum_7 : decode cX13_addSum 7 = .ok (.iload_n 3, 1) := by decide +kernel
theorem dX13_addSum_8 : decode cX13_addSum 8 = .ok (.aload_n 0, 1) := by decide +kernel
theorem dX13_addSum_9 : decode cX13_addSum 9 = .ok (.getfield 53, 3) := by decide +kernel
theorem dX13_addSum_12 : decode cX13_addSum 12 = .ok (.iload_n 1, 1) := by decide +kernel
theorem dX13_addSum_13 : decode cX13_addSum 13 = .ok (.iaload, 1) := by decide +kernel
theorem dX13_addSum_14 : decode cX13_addSum 14 = .ok (.if_icmp .ge 81, 3) := by decide +kernel
theorem dX13_addSum_17 : decode cX13_addSum 17 = .ok (.aload_n 0, 1) := by decide +kernel
theorem dX13_addSum_18 : decode cX13_addSum 18 = .ok (.getfield 62, 3) := by decide +kernel
theorem dX13_addSum_21 : decode cX13_addSum 21 = .ok (.iload_n 3, 1) := by decide +kernel
theorem dX13_addSum_22 : decode cX13_addSum 22 = .ok (.iaload, 1) := by decide +kernel
theorem dX13_addSum_23 : decode cX13_addSum 23 = .ok (.iload_n 2, 1) := by decide +kernel
theorem dX13_addSum_24 : decode cX13_addSum 24 = .ok (.imul, 1) := by decide +kernel
theorem dX13_addSum_25 : decode cX13_addSum 25 = .ok (.istore 4, 2) := by decide +kernel
theorem dX13_addSum_27 : decode cX13_addSum 27 = .ok (.aload_n 0, 1) := by decide +kernel
theorem dX13_addSum_28 : decode cX13_addSum 28 = .ok (.getfield 59, 3) := by decide +kernel
theorem dX13_addSum_31 : decode cX13_addSum 31 = .ok (.iload_n 3, 1) := by decide +kernel
theorem dX13_addSum_32 : decode cX13_addSum 32 = .ok (.iaload, 1) := by decide +kernel
theorem dX13_addSum_33 : decode cX13_addSum 33 = .ok (.ifCond .ne 30, 3) := by decide +kernel
theorem dX13_addSum_36 : decode cX13_addSum 36 = .ok (.aload_n 0, 1) := by decide +kernel
theorem dX13_addSum_37 : decode cX13_addSum 37 = .ok (.dup, 1) := by decide +kernel
theorem dX13_addSum_38 : decode cX13_addSum 38 = .ok (.getfield 707, 3) := by decide +kernel
theorem dX13_addSum_41 : decode cX13_addSum 41 = .ok (.iload 4, 2) := by decide +kernel
theorem dX13_addSum_43 : decode cX13_addSum 43 = .ok (.i2l, 1) := by decide +kernel
theorem dX13_addSum_44 : decode cX13_addSum 44 = .ok (.aload_n 0, 1) := by decide +kernel
theorem dX13_addSum_45 : decode cX13_addSum 45 = .ok (.aload_n 0, 1) := by decide +kernel
theorem dX13_addSum_46 : decode cX13_addSum 46 = .ok (.getfield 65, 3) := by decide +kernel
theorem dX13_addSum_49 : decode cX13_addSum 49 = .ok (.iload_n 3, 1) := by decide +kernel
theorem dX13_addSum_50 : decode cX13_addSum 50 = .ok (.iaload, 1) := by decide +kernel
theorem dX13_addSum_51 : decode cX13_addSum 51 = .ok (.invokevirtual 453, 3) := by decide +kernel
theorem dX13_addSum_54 : decode cX13_addSum 54 = .ok (.i2l, 1) := by decide +kernel
theorem dX13_addSum_55 : decode cX13_addSum 55 = .ok (.lmul, 1) := by decide +kernel
theorem dX13_addSum_56 : decode cX13_addSum 56 = .ok (.ladd, 1) := by decide +kernel
theorem dX13_addSum_57 : decode cX13_addSum 57 = .ok (.putfield 707, 3) := by decide +kernel
theorem dX13_addSum_60 : decode cX13_addSum 60 = .ok (.goto 29, 3) := by decide +kernel
theorem dX13_addSum_63 : decode cX13_addSum 63 = .ok (.aload_n 0, 1) := by decide +kernel
theorem dX13_addSum_64 : decode cX13_addSum 64 = .ok (.getfield 704, 3) := by decide +kernel
theorem dX13_addSum_67 : decode cX13_addSum 67 = .ok (.bipush 39, 2) := by decide +kernel
theorem dX13_addSum_69 : decode cX13_addSum 69 = .ok (.if_icmp .ge 20, 3) := by decide +kernel
theorem dX13_addSum_72 : decode cX13_addSum 72 = .ok (.aload_n 0, 1) := by decide +kernel
theorem dX13_addSum_73 : decode cX13_addSum 73 = .ok (.aload_n 0, 1) := by decide +kernel
theorem dX13_addSum_74 : decode cX13_addSum 74 = .ok (.getfield 107, 3) := by decide +kernel
theorem dX13_addSum_77 : decode cX13_addSum 77 = .ok (.aload_n 0, 1) := by decide +kernel
theorem dX13_addSum_78 : decode cX13_addSum 78 = .ok (.getfield 65, 3) := by decide +kernel
theorem dX13_addSum_81 : decode cX13_addSum 81 = .ok (.iload_n 3, 1) := by decide +kernel
theorem dX13_addSum_82 : decode cX13_addSum 82 = .ok (.iaload, 1) := by decide +kernel
theorem dX13_addSum_83 : decode cX13_addSum 83 = .ok (.iaload, 1) := by decide +kernel
theorem dX13_addSum_84 : decode cX13_addSum 84 = .ok (.iload 4, 2) := by decide +kernel
theorem dX13_addSum_86 : decode cX13_addSum 86 = .ok (.invokevirtual 711, 3) := by decide +kernel
theorem dX13_addSum_89 : decode cX13_addSum 89 = .ok (.iinc 3 1, 3) := by decide +kernel
theorem dX13_addSum_92 : decode cX13_addSum 92 = .ok (.goto (-85), 3) := by decide +kernel
theorem dX13_addSum_95 : decode cX13_addSum 95 = .ok (.return_, 1) := by decide +kernel
theorem dX13_isForm_0 : decode cX13_isForm 0 = .ok (.aload_n 0, 1) := by decide +kernel
theorem dX13_isForm_1 : decode cX13_isForm 1 = .ok (.getfield 704, 3) := by decide +kernel
theorem dX13_isForm_4 : decode cX13_isForm 4 = .ok (.iconst 2, 1) := by decide +kernel
theorem dX13_isForm_5 : decode cX13_isForm 5 = .ok (.if_icmp .le 5, 3) := by decide +kernel
theorem dX13_isForm_8 : decode cX13_isForm 8 = .ok (.iconst 0, 1) := by decide +kernel
theorem dX13_isForm_9 : decode cX13_isForm 9 = .ok (.ireturn, 1) := by decide +kernel
theorem dX13_isForm_10 : decode cX13_isForm 10 = .ok (.iconst 0, 1) := by decide +kernel
theorem dX13_isForm_11 : decode cX13_isForm 11 = .ok (.istore_n 1, 1) := by decide +kernel
theorem dX13_isForm_12 : decode cX13_isForm 12 = .ok (.iload_n 1, 1) := by decide +kernel
theorem dX13_isForm_13 : decode cX13_isForm 13 = .ok (.aload_n 0, 1) := by decide +kernel
theorem dX13_isForm_14 : decode cX13_isForm 14 = .ok (.getfield 704, 3) := by decide +kernel
theorem dX13_isForm_17 : decode cX13_isForm 17 = .ok (.if_icmp .ge 60, 3) := by decide +kernel
theorem dX13_isForm_20 : decode cX13_isForm 20 = .ok (.aload_n 0, 1) := by decide +kernel
theorem dX13_isForm_21 : decode cX13_isForm 21 = .ok (.getfield 134, 3) := by decide +kernel
theorem dX13_isForm_24 : decode cX13_isForm 24 = .ok (.iload_n 1, 1) := by decide +kernel
theorem dX13_isForm_25 : decode cX13_isForm 25 = .ok (.iaload, 1) := by decide +kernel
theorem dX13_isForm_26 : decode cX13_isForm 26 = .ok (.iconst 2, 1) := by decide +kernel
theorem dX13_isForm_27 : decode cX13_isForm 27 = .ok (.if_icmp .gt 42, 3) := by decide +kernel
theorem dX13_isForm_30 : decode cX13_isForm 30 = .ok (.aload_n 0, 1) := by decide +kernel
theorem dX13_isForm_31 : decode cX13_isForm 31 = .ok (.getfield 134, 3) := by decide +kernel
theorem dX13_isForm_34 : decode cX13_isForm 34 = .ok (.iload_n 1, 1) := by decide +kernel
theorem dX13_isForm_35 : decode cX13_isForm 35 = .ok (.iaload, 1) := by decide +kernel
theorem dX13_isForm_36 : decode cX13_isForm 36 = .ok (.bipush (-2), 2) := by decide +kernel
theorem dX13_isForm_38 : decode cX13_isForm 38 = .ok (.if_icmp .lt 31, 3) := by decide +kernel
theorem dX13_isForm_41 : decode cX13_isForm 41 = .ok (.aload_n 0, 1) := by decide +kernel
theorem dX13_isForm_42 : decode cX13_isForm 42 = .ok (.getfield 704, 3) := by decide +kernel
theorem dX13_isForm_45 : decode cX13_isForm 45 = .ok (.iconst 2, 1) := by decide +kernel
theorem dX13_isForm_46 : decode cX13_isForm 46 = .ok (.if_icmp .ne 25, 3) := by decide +kernel
theorem dX13_isForm_49 : decode cX13_isForm 49 = .ok (.aload_n 0, 1) := by decide +kernel
theorem dX13_isForm_50 : decode cX13_isForm 50 = .ok (.getfield 134, 3) := by decide +kernel
theorem dX13_isForm_53 : decode cX13_isForm 53 = .ok (.iload_n 1, 1) := by decide +kernel
theorem dX13_isForm_54 : decode cX13_isForm 54 = .ok (.iaload, 1) := by decide +kernel
theorem dX13_isForm_55 : decode cX13_isForm 55 = .ok (.iconst 1, 1) := by decide +kernel
theorem dX13_isForm_56 : decode cX13_isForm 56 = .ok (.if_icmp .gt 13, 3) := by decide +kernel
theorem dX13_isForm_59 : decode cX13_isForm 59 = .ok (.aload_n 0, 1) := by decide +kernel
theorem dX13_isForm_60 : decode cX13_isForm 60 = .ok (.getfield 134, 3) := by decide +kernel
theorem dX13_isForm_63 : decode cX13_isForm 63 = .ok (.iload_n 1, 1) := by decide +kernel
theorem dX13_isForm_64 : decode cX13_isForm 64 = .ok (.iaload, 1) := by decide +kernel
theorem dX13_isForm_65 : decode cX13_isForm 65 = .ok (.iconst (-1), 1) := by decide +kernel
theorem dX13_isForm_66 : decode cX13_isForm 66 = .ok (.if_icmp .ge 5, 3) := by decide +kernel
theorem dX13_isForm_69 : decode cX13_isForm 69 = .ok (.iconst 0, 1) := by decide +kernel
theorem dX13_isForm_70 : decode cX13_isForm 70 = .ok (.ireturn, 1) := by decide +kernel
theorem dX13_isForm_71 : decode cX13_isForm 71 = .ok (.iinc 1 1, 3) := by decide +kernel
theorem dX13_isForm_74 : decode cX13_isForm 74 = .ok (.goto (-62), 3) := by decide +kernel
theorem dX13_isForm_77 : decode cX13_isForm 77 = .ok (.iconst 1, 1) := by decide +kernel
theorem dX13_isForm_78 : decode cX13_isForm 78 = .ok (.ireturn, 1) := by decide +kernel
theorem dX13_isTerm_0 : decode cX13_isTerm 0 = .ok (.aload_n 0, 1) := by decide +kernel
theorem dX13_isTerm_1 : decode cX13_isTerm 1 = .ok (.invokevirtual 714, 3) := by decide +kernel
theorem dX13_isTerm_4 : decode cX13_isTerm 4 = .ok (.aload_n 0, 1) := by decide +kernel
theorem dX13_isTerm_5 : decode cX13_isTerm 5 = .ok (.iload_n 1, 1) := by decide +kernel
theorem dX13_isTerm_6 : decode cX13_isTerm 6 = .ok (.iconst 1, 1) := by decide +kernel
theorem dX13_isTerm_7 : decode cX13_isTerm 7 = .ok (.invokevirtual 717, 3) := by decide +kernel
theorem dX13_isTerm_10 : decode cX13_isTerm 10 = .ok (.aload_n 0, 1) := by decide +kernel
theorem dX13_isTerm_11 : decode cX13_isTerm 11 = .ok (.getfield 704, 3) := by decide +kernel
theorem dX13_isTerm_14 : decode cX13_isTerm 14 = .ok (.ifCond .eq 31, 3) := by decide +kernel
theorem dX13_isTerm_17 : decode cX13_isTerm 17 = .ok (.aload_n 0, 1) := by decide +kernel
theorem dX13_isTerm_18 : decode cX13_isTerm 18 = .ok (.getfield 704, 3) := by decide +kernel
theorem dX13_isTerm_21 : decode cX13_isTerm 21 = .ok (.iconst 1, 1) := by decide +kernel
theorem dX13_isTerm_22 : decode cX13_isTerm 22 = .ok (.if_icmp .ne 27, 3) := by decide +kernel
theorem dX13_isTerm_25 : decode cX13_isTerm 25 = .ok (.aload_n 0, 1) := by decide +kernel
theorem dX13_isTerm_26 : decode cX13_isTerm 26 = .ok (.getfield 134, 3) := by decide +kernel
theorem dX13_isTerm_29 : decode cX13_isTerm 29 = .ok (.iconst 0, 1) := by decide +kernel
theorem dX13_isTerm_30 : decode cX13_isTerm 30 = .ok (.iaload, 1) := by decide +kernel
theorem dX13_isTerm_31 : decode cX13_isTerm 31 = .ok (.iconst 1, 1) := by decide +kernel
theorem dX13_isTerm_32 : decode cX13_isTerm 32 = .ok (.if_icmp .eq 13, 3) := by decide +kernel
theorem dX13_isTerm_35 : decode cX13_isTerm 35 = .ok (.aload_n 0, 1) := by decide +kernel
theorem dX13_isTerm_36 : decode cX13_isTerm 36 = .ok (.getfield 134, 3) := by decide +kernel
theorem dX13_isTerm_39 : decode cX13_isTerm 39 = .ok (.iconst 0, 1) := by decide +kernel
theorem dX13_isTerm_40 : decode cX13_isTerm 40 = .ok (.iaload, 1) := by decide +kernel
theorem dX13_isTerm_41 : decode cX13_isTerm 41 = .ok (.iconst (-1), 1) := by decide +kernel
theorem dX13_isTerm_42 : decode cX13_isTerm 42 = .ok (.if_icmp .ne 7, 3) := by decide +kernel
theorem dX13_isTerm_45 : decode cX13_isTerm 45 = .ok (.iconst 1, 1) := by decide +kernel
theorem dX13_isTerm_46 : decode cX13_isTerm 46 = .ok (.goto 4, 3) := by decide +kernel
theorem dX13_isTerm_49 : decode cX13_isTerm 49 = .ok (.iconst 0, 1) := by decide +kernel
theorem dX13_isTerm_50 : decode cX13_isTerm 50 = .ok (.ireturn, 1) := by decide +kernel
theorem dX13_count_0 : decode cX13_count 0 = .ok (.aload_n 0, 1) := by decide +kernel
theorem dX13_count_1 : decode cX13_count 1 = .ok (.getfield 29, 3) := by decide +kernel
theorem dX13_count_4 : decode cX13_count 4 = .ok (.iload_n 1, 1) := by decide +kernel
theorem dX13_count_5 : decode cX13_count 5 = .ok (.iaload, 1) := by decide +kernel
theorem dX13_count_6 : decode cX13_count 6 = .ok (.bipush 20, 2) := by decide +kernel
theorem dX13_count_8 : decode cX13_count 8 = .ok (.if_icmp .eq 14, 3) := by decide +kernel
theorem dX13_count_11 : decode cX13_count 11 = .ok (.aload_n 0, 1) := by decide +kernel
theorem dX13_count_12 : decode cX13_count 12 = .ok (.getfield 29, 3) := by decide +kernel
theorem dX13_count_15 : decode cX13_count 15 = .ok (.iload_n 1, 1) := by decide +kernel
theorem dX13_count_16 : decode cX13_count 16 = .ok (.iaload, 1) := by decide +kernel
theorem dX13_count_17 : decode cX13_count 17 = .ok (.bipush 21, 2) := by decide +kernel
theorem dX13_count_19 : decode cX13_count 19 = .ok (.if_icmp .ne 27, 3) := by decide +kernel
theorem dX13_count_22 : decode cX13_count 22 = .ok (.aload_n 0, 1) := by decide +kernel
theorem dX13_count_23 : decode cX13_count 23 = .ok (.aload_n 0, 1) := by decide +kernel
theorem dX13_count_24 : decode cX13_count 24 = .ok (.getfield 38, 3) := by decide +kernel
theorem dX13_count_27 : decode cX13_count 27 = .ok (.iload_n 1, 1) := by decide +kernel
theorem dX13_count_28 : decode cX13_count 28 = .ok (.iaload, 1) := by decide +kernel
theorem dX13_count_29 : decode cX13_count 29 = .ok (.invokevirtual 720, 3) := by decide +kernel
theorem dX13_count_32 : decode cX13_count 32 = .ok (.aload_n 0, 1) := by decide +kernel
theorem dX13_count_33 : decode cX13_count 33 = .ok (.aload_n 0, 1) := by decide +kernel
theorem dX13_count_34 : decode cX13_count 34 = .ok (.getfield 41, 3) := by decide +kernel
theorem dX13_count_37 : decode cX13_count 37 = .ok (.iload_n 1, 1) := by decide +kernel
theorem dX13_count_38 : decode cX13_count 38 = .ok (.iaload, 1) := by decide +kernel
theorem dX13_count_39 : decode cX13_count 39 = .ok (.invokevirtual 720, 3) := by decide +kernel
theorem dX13_count_42 : decode cX13_count 42 = .ok (.iadd, 1) := by decide +kernel
theorem dX13_count_43 : decode cX13_count 43 = .ok (.goto 28, 3) := by decide +kernel
theorem dX13_count_46 : decode cX13_count 46 = .ok (.aload_n 0, 1) := by decide +kernel
theorem dX13_count_47 : decode cX13_count 47 = .ok (.getfield 29, 3) := by decide +kernel
theorem dX13_count_50 : decode cX13_count 50 = .ok (.iload_n 1, 1) := by decide +kernel
theorem dX13_count_51 : decode cX13_count 51 = .ok (.iaload, 1) := by decide +kernel
theorem dX13_count_52 : decode cX13_count 52 = .ok (.bipush 22, 2) := by decide +kernel
theorem dX13_count_54 : decode cX13_count 54 = .ok (.if_icmp .ne 16, 3) := by decide +kernel
theorem dX13_count_57 : decode cX13_count 57 = .ok (.aload_n 0, 1) := by decide +kernel
theorem dX13_count_58 : decode cX13_count 58 = .ok (.aload_n 0, 1) := by decide +kernel
theorem dX13_count_59 : decode cX13_count 59 = .ok (.getfield 38, 3) := by decide +kernel
theorem dX13_count_62 : decode cX13_count 62 = .ok (.iload_n 1, 1) := by decide +kernel
theorem dX13_count_63 : decode cX13_count 63 = .ok (.iaload, 1) := by decide +kernel
theorem dX13_count_64 : decode cX13_count 64 = .ok (.invokevirtual 720, 3) := by decide +kernel
theorem dX13_count_67 : decode cX13_count 67 = .ok (.goto 4, 3) := by decide +kernel
theorem dX13_count_70 : decode cX13_count 70 = .ok (.iconst 1, 1) := by decide +kernel
theorem dX13_count_71 : decode cX13_count 71 = .ok (.ireturn, 1) := by decide +kernel
