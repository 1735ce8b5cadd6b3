theorem dX3_go_0 : decode cX3_go 0 = .ok (.aload_n 0, 1) := by decide +kernel
theorem dX3_go_1 : decode cX3_go 1 = .ok (.iload_n 1, 1) := by decide +kernel
theorem dX3_go_2 : decode cX3_go 2 = .ok (.putfield 57, 3) := by decide +kernel
theorem dX3_go_5 : decode cX3_go 5 = .ok (.aload_n 0, 1) := by decide +kernel
theorem dX3_go_6 : decode cX3_go 6 = .ok (.iconst 0, 1) := by decide +kernel
theorem dX3_go_7 : decode cX3_go 7 = .ok (.putfield 60, 3) := by decide +kernel
theorem dX3_go_10 : decode cX3_go 10 = .ok (.aload_n 0, 1) := by decide +kernel
theorem dX3_go_11 : decode cX3_go 11 = .ok (.invokevirtual 63, 3) := by decide +kernel
theorem dX3_go_14 : decode cX3_go 14 = .ok (.aload_n 0, 1) := by decide +kernel
theorem dX3_go_15 : decode cX3_go 15 = .ok (.getfield 36, 3) := by decide +kernel
theorem dX3_go_18 : decode cX3_go 18 = .ok (.getfield 66, 3) := by decide +kernel
theorem dX3_go_21 : decode cX3_go 21 = .ok (.astore_n 2, 1) := by decide +kernel
theorem dX3_go_22 : decode cX3_go 22 = .ok (.iconst 0, 1) := by decide +kernel
theorem dX3_go_23 : decode cX3_go 23 = .ok (.istore_n 3, 1) := by decide +kernel
theorem dX3_go_24 : decode cX3_go 24 = .ok (.iload_n 3, 1) := by decide +kernel
theorem dX3_go_25 : decode cX3_go 25 = .ok (.ldc 72, 2) := by decide +kernel
theorem dX3_go_27 : decode cX3_go 27 = .ok (.if_icmp .ge 44, 3) := by decide +kernel
theorem dX3_go_30 : decode cX3_go 30 = .ok (.aload_n 0, 1) := by decide +kernel
theorem dX3_go_31 : decode cX3_go 31 = .ok (.getfield 60, 3) := by decide +kernel
theorem dX3_go_34 : decode cX3_go 34 = .ok (.ifCond .ne 37, 3) := by decide +kernel
theorem dX3_go_37 : decode cX3_go 37 = .ok (.aload_n 2, 1) := by decide +kernel
theorem dX3_go_38 : decode cX3_go 38 = .ok (.ifnonnull 10, 3) := by decide +kernel
theorem dX3_go_41 : decode cX3_go 41 = .ok (.aload_n 0, 1) := by decide +kernel
theorem dX3_go_42 : decode cX3_go 42 = .ok (.getfield 73, 3) := by decide +kernel
theorem dX3_go_45 : decode cX3_go 45 = .ok (.ifCond .le 26, 3) := by decide +kernel
theorem dX3_go_48 : decode cX3_go 48 = .ok (.aload_n 2, 1) := by decide +kernel
theorem dX3_go_49 : decode cX3_go 49 = .ok (.ifnull 11, 3) := by decide +kernel
theorem dX3_go_52 : decode cX3_go 52 = .ok (.aload_n 0, 1) := by decide +kernel
theorem dX3_go_53 : decode cX3_go 53 = .ok (.aload_n 2, 1) := by decide +kernel
theorem dX3_go_54 : decode cX3_go 54 = .ok (.invokevirtual 76, 3) := by decide +kernel
theorem dX3_go_57 : decode cX3_go 57 = .ok (.goto 7, 3) := by decide +kernel
theorem dX3_go_60 : decode cX3_go 60 = .ok (.aload_n 0, 1) := by decide +kernel
theorem dX3_go_61 : decode cX3_go 61 = .ok (.invokevirtual 80, 3) := by decide +kernel
theorem dX3_go_64 : decode cX3_go 64 = .ok (.astore_n 2, 1) := by decide +kernel
theorem dX3_go_65 : decode cX3_go 65 = .ok (.iinc 3 1, 3) := by decide +kernel
theorem dX3_go_68 : decode cX3_go 68 = .ok (.goto (-44), 3) := by decide +kernel
theorem dX3_go_71 : decode cX3_go 71 = .ok (.aload_n 0, 1) := by decide +kernel
theorem dX3_go_72 : decode cX3_go 72 = .ok (.iload_n 1, 1) := by decide +kernel
theorem dX3_go_73 : decode cX3_go 73 = .ok (.aload_n 0, 1) := by decide +kernel
theorem dX3_go_74 : decode cX3_go 74 = .ok (.getfield 57, 3) := by decide +kernel
theorem dX3_go_77 : decode cX3_go 77 = .ok (.isub, 1) := by decide +kernel
theorem dX3_go_78 : decode cX3_go 78 = .ok (.putfield 84, 3) := by decide +kernel
theorem dX3_go_81 : decode cX3_go 81 = .ok (.aload_n 0, 1) := by decide +kernel
theorem dX3_go_82 : decode cX3_go 82 = .ok (.aload_n 0, 1) := by decide +kernel
theorem dX3_go_83 : decode cX3_go 83 = .ok (.getfield 60, 3) := by decide +kernel
theorem dX3_go_86 : decode cX3_go 86 = .ok (.ifCond .ne 18, 3) := by decide +kernel
theorem dX3_go_89 : decode cX3_go 89 = .ok (.aload_n 0, 1) := by decide +kernel
theorem dX3_go_90 : decode cX3_go 90 = .ok (.aload_n 0, 1) := by decide +kernel
theorem dX3_go_91 : decode cX3_go 91 = .ok (.getfield 87, 3) := by decide +kernel
theorem dX3_go_94 : decode cX3_go 94 = .ok (.aload_n 0, 1) := by decide +kernel
theorem dX3_go_95 : decode cX3_go 95 = .ok (.getfield 44, 3) := by decide +kernel
theorem dX3_go_98 : decode cX3_go 98 = .ok (.invokevirtual 90, 3) := by decide +kernel
theorem dX3_go_101 : decode cX3_go 101 = .ok (.goto 4, 3) := by decide +kernel
theorem dX3_go_104 : decode cX3_go 104 = .ok (.lconst 0, 1) := by decide +kernel
theorem dX3_go_105 : decode cX3_go 105 = .ok (.putfield 40, 3) := by decide +kernel
theorem dX3_go_108 : decode cX3_go 108 = .ok (.aload_n 0, 1) := by decide +kernel
theorem dX3_go_109 : decode cX3_go 109 = .ok (.getfield 60, 3) := by decide +kernel
theorem dX3_go_112 : decode cX3_go 112 = .ok (.ireturn, 1) := by decide +kernel
theorem dX3_start_0 : decode cX3_start 0 = .ok (.aload_n 0, 1) := by decide +kernel
theorem dX3_start_1 : decode cX3_start 1 = .ok (.getfield 57, 3) := by decide +kernel
theorem dX3_start_4 : decode cX3_start 4 = .ok (.ifCond .ne 10, 3) := by decide +kernel
theorem dX3_start_7 : decode cX3_start 7 = .ok (.aload_n 0, 1) := by decide +kernel
theorem dX3_start_8 : decode cX3_start 8 = .ok (.iconst 1, 1) := by decide +kernel
theorem dX3_start_9 : decode cX3_start 9 = .ok (.putfield 60, 3) := by decide +kernel
theorem dX3_start_12 : decode cX3_start 12 = .ok (.aconst_null, 1) := by decide +kernel
theorem dX3_start_13 : decode cX3_start 13 = .ok (.areturn, 1) := by decide +kernel
theorem dX3_start_14 : decode cX3_start 14 = .ok (.aload_n 0, 1) := by decide +kernel
theorem dX3_start_15 : decode cX3_start 15 = .ok (.dup, 1) := by decide +kernel
theorem dX3_start_16 : decode cX3_start 16 = .ok (.getfield 57, 3) := by decide +kernel
theorem dX3_start_19 : decode cX3_start 19 = .ok (.iconst 1, 1) := by decide +kernel
theorem dX3_start_20 : decode cX3_start 20 = .ok (.isub, 1) := by decide +kernel
theorem dX3_start_21 : decode cX3_start 21 = .ok (.putfield 57, 3) := by decide +kernel
theorem dX3_start_24 : decode cX3_start 24 = .ok (.aload_n 1, 1) := by decide +kernel
theorem dX3_start_25 : decode cX3_start 25 = .ok (.getfield 143, 3) := by decide +kernel
theorem dX3_start_28 : decode cX3_start 28 = .ok (.lookupswitch 214 #[(40, 203), (201, 159), (207, 136), (212, 76), (214, 197), (219, 91), (220, 187), (401, 208)], 76) := by decide +kernel
theorem dX3_start_104 : decode cX3_start 104 = .ok (.aload_n 0, 1) := by decide +kernel
theorem dX3_start_105 : decode cX3_start 105 = .ok (.aload_n 1, 1) := by decide +kernel
theorem dX3_start_106 : decode cX3_start 106 = .ok (.aload_n 0, 1) := by decide +kernel
theorem dX3_start_107 : decode cX3_start 107 = .ok (.getfield 97, 3) := by decide +kernel
theorem dX3_start_110 : decode cX3_start 110 = .ok (.iconst 0, 1) := by decide +kernel
theorem dX3_start_111 : decode cX3_start 111 = .ok (.invokevirtual 146, 3) := by decide +kernel
theorem dX3_start_114 : decode cX3_start 114 = .ok (.aload_n 1, 1) := by decide +kernel
theorem dX3_start_115 : decode cX3_start 115 = .ok (.getfield 150, 3) := by decide +kernel
theorem dX3_start_118 : decode cX3_start 118 = .ok (.areturn, 1) := by decide +kernel
theorem dX3_start_119 : decode cX3_start 119 = .ok (.aload_n 0, 1) := by decide +kernel
theorem dX3_start_120 : decode cX3_start 120 = .ok (.aload_n 0, 1) := by decide +kernel
theorem dX3_start_121 : decode cX3_start 121 = .ok (.lconst 0, 1) := by decide +kernel
theorem dX3_start_122 : decode cX3_start 122 = .ok (.aload_n 0, 1) := by decide +kernel
theorem dX3_start_123 : decode cX3_start 123 = .ok (.getfield 97, 3) := by decide +kernel
theorem dX3_start_126 : decode cX3_start 126 = .ok (.invokevirtual 128, 3) := by decide +kernel
theorem dX3_start_129 : decode cX3_start 129 = .ok (.putfield 97, 3) := by decide +kernel
theorem dX3_start_132 : decode cX3_start 132 = .ok (.aload_n 0, 1) := by decide +kernel
theorem dX3_start_133 : decode cX3_start 133 = .ok (.aload_n 1, 1) := by decide +kernel
theorem dX3_start_134 : decode cX3_start 134 = .ok (.getfield 153, 3) := by decide +kernel
theorem dX3_start_137 : decode cX3_start 137 = .ok (.i2l, 1) := by decide +kernel
theorem dX3_start_138 : decode cX3_start 138 = .ok (.aload_n 0, 1) := by decide +kernel
theorem dX3_start_139 : decode cX3_start 139 = .ok (.getfield 97, 3) := by decide +kernel
theorem dX3_start_142 : decode cX3_start 142 = .ok (.i2l, 1) := by decide +kernel
theorem dX3_start_143 : decode cX3_start 143 = .ok (.lconst 0, 1) := by decide +kernel
theorem dX3_start_144 : decode cX3_start 144 = .ok (.invokevirtual 156, 3) := by decide +kernel
theorem dX3_start_147 : decode cX3_start 147 = .ok (.istore_n 2, 1) := by decide +kernel
theorem dX3_start_148 : decode cX3_start 148 = .ok (.aload_n 0, 1) := by decide +kernel
theorem dX3_start_149 : decode cX3_start 149 = .ok (.getfield 21, 3) := by decide +kernel
theorem dX3_start_152 : decode cX3_start 152 = .ok (.aload_n 0, 1) := by decide +kernel
theorem dX3_start_153 : decode cX3_start 153 = .ok (.getfield 97, 3) := by decide +kernel
theorem dX3_start_156 : decode cX3_start 156 = .ok (.iload_n 2, 1) := by decide +kernel
theorem dX3_start_157 : decode cX3_start 157 = .ok (.i2l, 1) := by decide +kernel
theorem dX3_start_158 : decode cX3_start 158 = .ok (.lastore, 1) := by decide +kernel
theorem dX3_start_159 : decode cX3_start 159 = .ok (.aload_n 1, 1) := by decide +kernel
theorem dX3_start_160 : decode cX3_start 160 = .ok (.getfield 160, 3) := by decide +kernel
theorem dX3_start_163 : decode cX3_start 163 = .ok (.areturn, 1) := by decide +kernel
theorem dX3_start_164 : decode cX3_start 164 = .ok (.aload_n 0, 1) := by decide +kernel
theorem dX3_start_165 : decode cX3_start 165 = .ok (.aload_n 1, 1) := by decide +kernel
theorem dX3_start_166 : decode cX3_start 166 = .ok (.getfield 163, 3) := by decide +kernel
theorem dX3_start_169 : decode cX3_start 169 = .ok (.invokevirtual 166, 3) := by decide +kernel
theorem dX3_start_172 : decode cX3_start 172 = .ok (.ifCond .eq 10, 3) := by decide +kernel
theorem dX3_start_175 : decode cX3_start 175 = .ok (.aload_n 1, 1) := by decide +kernel
theorem dX3_start_176 : decode cX3_start 176 = .ok (.getfield 150, 3) := by decide +kernel
theorem dX3_start_179 : decode cX3_start 179 = .ok (.goto 7, 3) := by decide +kernel
theorem dX3_start_182 : decode cX3_start 182 = .ok (.aload_n 1, 1) := by decide +kernel
theorem dX3_start_183 : decode cX3_start 183 = .ok (.getfield 160, 3) := by decide +kernel
theorem dX3_start_186 : decode cX3_start 186 = .ok (.areturn, 1) := by decide +kernel
theorem dX3_start_187 : decode cX3_start 187 = .ok (.aload_n 0, 1) := by decide +kernel
theorem dX3_start_188 : decode cX3_start 188 = .ok (.aload_n 1, 1) := by decide +kernel
theorem dX3_start_189 : decode cX3_start 189 = .ok (.getfield 163, 3) := by decide +kernel
theorem dX3_start_192 : decode cX3_start 192 = .ok (.invokevirtual 166, 3) := by decide +kernel
theorem dX3_start_195 : decode cX3_start 195 = .ok (.ifCond .ne 15, 3) := by decide +kernel
theorem dX3_start_198 : decode cX3_start 198 = .ok (.aload_n 0, 1) := by decide +kernel
theorem dX3_start_199 : decode cX3_start 199 = .ok (.getfield 60, 3) := by decide +kernel
theorem dX3_start_202 : decode cX3_start 202 = .ok (.ifCond .ne 8, 3) := by decide +kernel
theorem dX3_start_205 : decode cX3_start 205 = .ok (.aload_n 0, 1) := by decide +kernel
theorem dX3_start_206 : decode cX3_start 206 = .ok (.iconst 3, 1) := by decide +kernel
theorem dX3_start_207 : decode cX3_start 207 = .ok (.putfield 60, 3) := by decide +kernel
theorem dX3_start_210 : decode cX3_start 210 = .ok (.aload_n 1, 1) := by decide +kernel
theorem dX3_start_211 : decode cX3_start 211 = .ok (.getfield 150, 3) := by decide +kernel
theorem dX3_start_214 : decode cX3_start 214 = .ok (.areturn, 1) := by decide +kernel
theorem dX3_start_215 : decode cX3_start 215 = .ok (.aload_n 0, 1) := by decide +kernel
theorem dX3_start_216 : decode cX3_start 216 = .ok (.aload_n 1, 1) := by decide +kernel
theorem dX3_start_217 : decode cX3_start 217 = .ok (.invokevirtual 170, 3) := by decide +kernel
theorem dX3_start_220 : decode cX3_start 220 = .ok (.aload_n 1, 1) := by decide +kernel
theorem dX3_start_221 : decode cX3_start 221 = .ok (.getfield 150, 3) := by decide +kernel
theorem dX3_start_224 : decode cX3_start 224 = .ok (.areturn, 1) := by decide +kernel
theorem dX3_start_225 : decode cX3_start 225 = .ok (.aload_n 0, 1) := by decide +kernel
theorem dX3_start_226 : decode cX3_start 226 = .ok (.aload_n 1, 1) := by decide +kernel
theorem dX3_start_227 : decode cX3_start 227 = .ok (.invokevirtual 174, 3) := by decide +kernel
theorem dX3_start_230 : decode cX3_start 230 = .ok (.areturn, 1) := by decide +kernel
theorem dX3_start_231 : decode cX3_start 231 = .ok (.aload_n 1, 1) := by decide +kernel
theorem dX3_start_232 : decode cX3_start 232 = .ok (.getfield 150, 3) := by decide +kernel
theorem dX3_start_235 : decode cX3_start 235 = .ok (.areturn, 1) := by decide +kernel
theorem dX3_start_236 : decode cX3_start 236 = .ok (.aload_n 0, 1) := by decide +kernel
theorem dX3_start_237 : decode cX3_start 237 = .ok (.aload_n 1, 1) := by decide +kernel
theorem dX3_start_238 : decode cX3_start 238 = .ok (.invokevirtual 177, 3) := by decide +kernel
theorem dX3_start_241 : decode cX3_start 241 = .ok (.areturn, 1) := by decide +kernel
theorem dX3_start_242 : decode cX3_start 242 = .ok (.aload_n 0, 1) := by decide +kernel
theorem dX3_start_243 : decode cX3_start 243 = .ok (.aload_n 0, 1) := by decide +kernel
theorem dX3_start_244 : decode cX3_start 244 = .ok (.aload_n 1, 1) := by decide +kernel
theorem dX3_start_245 : decode cX3_start 245 = .ok (.invokevirtual 180, 3) := by decide +kernel
theorem dX3_start_248 : decode cX3_start 248 = .ok (.putfield 87, 3) := by decide +kernel
theorem dX3_start_251 : decode cX3_start 251 = .ok (.aconst_null, 1) := by decide +kernel
theorem dX3_start_252 : decode cX3_start 252 = .ok (.areturn, 1) := by decide +kernel
theorem dX3_resume_0 : decode cX3_resume 0 = .ok (.aload_n 0, 1) := by decide +kernel
theorem dX3_resume_1 : decode cX3_resume 1 = .ok (.dup, 1) := by decide +kernel
theorem dX3_resume_2 : decode cX3_resume 2 = .ok (.getfield 73, 3) := by decide +kernel
theorem dX3_resume_5 : decode cX3_resume 5 = .ok (.iconst 1, 1) := by decide +kernel
theorem dX3_resume_6 : decode cX3_resume 6 = .ok (.isub, 1) := by decide +kernel
theorem dX3_resume_7 : decode cX3_resume 7 = .ok (.putfield 73, 3) := by decide +kernel
theorem dX3_resume_10 : decode cX3_resume 10 = .ok (.aload_n 0, 1) := by decide +kernel
theorem dX3_resume_11 : decode cX3_resume 11 = .ok (.getfield 26, 3) := by decide +kernel
theorem dX3_resume_14 : decode cX3_resume 14 = .ok (.aload_n 0, 1) := by decide +kernel
theorem dX3_resume_15 : decode cX3_resume 15 = .ok (.getfield 73, 3) := by decide +kernel
theorem dX3_resume_18 : decode cX3_resume 18 = .ok (.aaload, 1) := by decide +kernel
theorem dX3_resume_19 : decode cX3_resume 19 = .ok (.astore_n 1, 1) := by decide +kernel
theorem dX3_resume_20 : decode cX3_resume 20 = .ok (.aload_n 1, 1) := by decide +kernel
theorem dX3_resume_21 : decode cX3_resume 21 = .ok (.ifnull 29, 3) := by decide +kernel
theorem dX3_resume_24 : decode cX3_resume 24 = .ok (.aload_n 0, 1) := by decide +kernel
theorem dX3_resume_25 : decode cX3_resume 25 = .ok (.aload_n 0, 1) := by decide +kernel
theorem dX3_resume_26 : decode cX3_resume 26 = .ok (.aload_n 0, 1) := by decide +kernel
theorem dX3_resume_27 : decode cX3_resume 27 = .ok (.getfield 87, 3) := by decide +kernel
theorem dX3_resume_30 : decode cX3_resume 30 = .ok (.aload_n 0, 1) := by decide +kernel
theorem dX3_resume_31 : decode cX3_resume 31 = .ok (.getfield 30, 3) := by decide +kernel
theorem dX3_resume_34 : decode cX3_resume 34 = .ok (.aload_n 0, 1) := by decide +kernel
theorem dX3_resume_35 : decode cX3_resume 35 = .ok (.getfield 73, 3) := by decide +kernel
theorem dX3_resume_38 : decode cX3_resume 38 = .ok (.iaload, 1) := by decide +kernel
theorem dX3_resume_39 : decode cX3_resume 39 = .ok (.invokevirtual 128, 3) := by decide +kernel
theorem dX3_resume_42 : decode cX3_resume 42 = .ok (.putfield 97, 3) := by decide +kernel
theorem dX3_resume_45 : decode cX3_resume 45 = .ok (.aload_n 1, 1) := by decide +kernel
theorem dX3_resume_46 : decode cX3_resume 46 = .ok (.getfield 160, 3) := by decide +kernel
theorem dX3_resume_49 : decode cX3_resume 49 = .ok (.areturn, 1) := by decide +kernel
theorem dX3_resume_50 : decode cX3_resume 50 = .ok (.aload_n 0, 1) := by decide +kernel
theorem dX3_resume_51 : decode cX3_resume 51 = .ok (.dup, 1) := by decide +kernel
theorem dX3_resume_52 : decode cX3_resume 52 = .ok (.getfield 100, 3) := by decide +kernel
theorem dX3_resume_55 : decode cX3_resume 55 = .ok (.iconst 1, 1) := by decide +kernel
theorem dX3_resume_56 : decode cX3_resume 56 = .ok (.isub, 1) := by decide +kernel
theorem dX3_resume_57 : decode cX3_resume 57 = .ok (.putfield 100, 3) := by decide +kernel
theorem dX3_resume_60 : decode cX3_resume 60 = .ok (.aload_n 0, 1) := by decide +kernel
theorem dX3_resume_61 : decode cX3_resume 61 = .ok (.getfield 33, 3) := by decide +kernel
theorem dX3_resume_64 : decode cX3_resume 64 = .ok (.aload_n 0, 1) := by decide +kernel
theorem dX3_resume_65 : decode cX3_resume 65 = .ok (.getfield 73, 3) := by decide +kernel
theorem dX3_resume_68 : decode cX3_resume 68 = .ok (.iaload, 1) := by decide +kernel
theorem dX3_resume_69 : decode cX3_resume 69 = .ok (.istore_n 2, 1) := by decide +kernel
theorem dX3_resume_70 : decode cX3_resume 70 = .ok (.iload_n 2, 1) := by decide +kernel
theorem dX3_resume_71 : decode cX3_resume 71 = .ok (.ifCond .ne 7, 3) := by decide +kernel
theorem dX3_resume_74 : decode cX3_resume 74 = .ok (.aconst_null, 1) := by decide +kernel
theorem dX3_resume_75 : decode cX3_resume 75 = .ok (.goto 13, 3) := by decide +kernel
theorem dX3_resume_78 : decode cX3_resume 78 = .ok (.aload_n 0, 1) := by decide +kernel
theorem dX3_resume_79 : decode cX3_resume 79 = .ok (.aload_n 0, 1) := by decide +kernel
theorem dX3_resume_80 : decode cX3_resume 80 = .ok (.getfield 87, 3) := by decide +kernel
theorem dX3_resume_83 : decode cX3_resume 83 = .ok (.l2i, 1) := by decide +kernel
theorem dX3_resume_84 : decode cX3_resume 84 = .ok (.iload_n 2, 1) := by decide +kernel
theorem dX3_resume_85 : decode cX3_resume 85 = .ok (.invokevirtual 184, 3) := by decide +kernel
theorem dX3_resume_88 : decode cX3_resume 88 = .ok (.areturn, 1) := by decide +kernel
theorem dX3_call_0 : decode cX3_call 0 = .ok (.iconst 0, 1) := by decide +kernel
theorem dX3_call_1 : decode cX3_call 1 = .ok (.istore_n 2, 1) := by decide +kernel
theorem dX3_call_2 : decode cX3_call 2 = .ok (.iconst 0, 1) := by decide +kernel
theorem dX3_call_3 : decode cX3_call 3 = .ok (.istore_n 3, 1) := by decide +kernel
theorem dX3_call_4 : decode cX3_call 4 = .ok (.iconst 0, 1) := by decide +kernel
theorem dX3_call_5 : decode cX3_call 5 = .ok (.istore 4, 2) := by decide +kernel
theorem dX3_call_7 : decode cX3_call 7 = .ok (.iload 4, 2) := by decide +kernel
theorem dX3_call_9 : decode cX3_call 9 = .ok (.aload_n 1, 1) := by decide +kernel
theorem dX3_call_10 : decode cX3_call 10 = .ok (.getfield 188, 3) := by decide +kernel
theorem dX3_call_13 : decode cX3_call 13 = .ok (.invokevirtual 191, 3) := by decide +kernel
theorem dX3_call_16 : decode cX3_call 16 = .ok (.if_icmp .ge 63, 3) := by decide +kernel
theorem dX3_call_19 : decode cX3_call 19 = .ok (.aload_n 0, 1) := by decide +kernel
theorem dX3_call_20 : decode cX3_call 20 = .ok (.getfield 60, 3) := by decide +kernel
theorem dX3_call_23 : decode cX3_call 23 = .ok (.ifCond .ne 56, 3) := by decide +kernel
theorem dX3_call_26 : decode cX3_call 26 = .ok (.aload_n 0, 1) := by decide +kernel
theorem dX3_call_27 : decode cX3_call 27 = .ok (.aload_n 0, 1) := by decide +kernel
theorem dX3_call_28 : decode cX3_call 28 = .ok (.aload_n 1, 1) := by decide +kernel
theorem dX3_call_29 : decode cX3_call 29 = .ok (.getfield 188, 3) := by decide +kernel
theorem dX3_call_32 : decode cX3_call 32 = .ok (.iload 4, 2) := by decide +kernel
theorem dX3_call_34 : decode cX3_call 34 = .ok (.invokevirtual 113, 3) := by decide +kernel
theorem dX3_call_37 : decode cX3_call 37 = .ok (.checkcast 24, 3) := by decide +kernel
theorem dX3_call_40 : decode cX3_call 40 = .ok (.invokevirtual 195, 3) := by decide +kernel
theorem dX3_call_43 : decode cX3_call 43 = .ok (.iconst 0, 1) := by decide +kernel
theorem dX3_call_44 : decode cX3_call 44 = .ok (.invokevirtual 128, 3) := by decide +kernel
theorem dX3_call_47 : decode cX3_call 47 = .ok (.istore 5, 2) := by decide +kernel
theorem dX3_call_49 : decode cX3_call 49 = .ok (.iload_n 3, 1) := by decide +kernel
theorem dX3_call_50 : decode cX3_call 50 = .ok (.ifCond .ne 9, 3) := by decide +kernel
theorem dX3_call_53 : decode cX3_call 53 = .ok (.iload 5, 2) := by decide +kernel
theorem dX3_call_55 : decode cX3_call 55 = .ok (.istore_n 2, 1) := by decide +kernel
theorem dX3_call_56 : decode cX3_call 56 = .ok (.goto 14, 3) := by decide +kernel
theorem dX3_call_59 : decode cX3_call 59 = .ok (.aload_n 0, 1) := by decide +kernel
theorem dX3_call_60 : decode cX3_call 60 = .ok (.getfield 21, 3) := by decide +kernel
theorem dX3_call_63 : decode cX3_call 63 = .ok (.iload_n 3, 1) := by decide +kernel
theorem dX3_call_64 : decode cX3_call 64 = .ok (.iconst 1, 1) := by decide +kernel
theorem dX3_call_65 : decode cX3_call 65 = .ok (.iadd, 1) := by decide +kernel
theorem dX3_call_66 : decode cX3_call 66 = .ok (.iload 5, 2) := by decide +kernel
theorem dX3_call_68 : decode cX3_call 68 = .ok (.i2l, 1) := by decide +kernel
theorem dX3_call_69 : decode cX3_call 69 = .ok (.lastore, 1) := by decide +kernel
theorem dX3_call_70 : decode cX3_call 70 = .ok (.iload 5, 2) := by decide +kernel
theorem dX3_call_72 : decode cX3_call 72 = .ok (.istore_n 3, 1) := by decide +kernel
theorem dX3_call_73 : decode cX3_call 73 = .ok (.iinc 4 1, 3) := by decide +kernel
theorem dX3_call_76 : decode cX3_call 76 = .ok (.goto (-69), 3) := by decide +kernel
theorem dX3_call_79 : decode cX3_call 79 = .ok (.aload_n 0, 1) := by decide +kernel
theorem dX3_call_80 : decode cX3_call 80 = .ok (.getfield 60, 3) := by decide +kernel
theorem dX3_call_83 : decode cX3_call 83 = .ok (.ifCond .ne 24, 3) := by decide +kernel
theorem dX3_call_86 : decode cX3_call 86 = .ok (.aload_n 0, 1) := by decide +kernel
theorem dX3_call_87 : decode cX3_call 87 = .ok (.aload_n 0, 1) := by decide +kernel
theorem dX3_call_88 : decode cX3_call 88 = .ok (.aload_n 1, 1) := by decide +kernel
theorem dX3_call_89 : decode cX3_call 89 = .ok (.getfield 198, 3) := by decide +kernel
theorem dX3_call_92 : decode cX3_call 92 = .ok (.aload_n 1, 1) := by decide +kernel
theorem dX3_call_93 : decode cX3_call 93 = .ok (.getfield 202, 3) := by decide +kernel
theorem dX3_call_96 : decode cX3_call 96 = .ok (.invokevirtual 205, 3) := by decide +kernel
theorem dX3_call_99 : decode cX3_call 99 = .ok (.l2i, 1) := by decide +kernel
theorem dX3_call_100 : decode cX3_call 100 = .ok (.iload_n 2, 1) := by decide +kernel
theorem dX3_call_101 : decode cX3_call 101 = .ok (.invokevirtual 184, 3) := by decide +kernel
theorem dX3_call_104 : decode cX3_call 104 = .ok (.goto 4, 3) := by decide +kernel
theorem dX3_call_107 : decode cX3_call 107 = .ok (.aconst_null, 1) := by decide +kernel
theorem dX3_call_108 : decode cX3_call 108 = .ok (.areturn, 1) := by decide +kernel
theorem dX3_plain_0 : decode cX3_plain 0 = .ok (.aload_n 1, 1) := by decide +kernel
theorem dX3_plain_1 : decode cX3_plain 1 = .ok (.getfield 143, 3) := by decide +kernel
theorem dX3_plain_4 : decode cX3_plain 4 = .ok (.lookupswitch 185 #[(37, 139), (42, 122), (47, 139), (91, 145), (203, 116), (206, 86), (215, 103), (223, 84), (400, 156)], 84) := by decide +kernel
theorem dX3_plain_88 : decode cX3_plain 88 = .ok (.lconst 1, 1) := by decide +kernel
theorem dX3_plain_89 : decode cX3_plain 89 = .ok (.lreturn, 1) := by decide +kernel
theorem dX3_plain_90 : decode cX3_plain 90 = .ok (.aload_n 0, 1) := by decide +kernel
theorem dX3_plain_91 : decode cX3_plain 91 = .ok (.aload_n 1, 1) := by decide +kernel
theorem dX3_plain_92 : decode cX3_plain 92 = .ok (.getfield 153, 3) := by decide +kernel
theorem dX3_plain_95 : decode cX3_plain 95 = .ok (.i2l, 1) := by decide +kernel
theorem dX3_plain_96 : decode cX3_plain 96 = .ok (.aload_n 0, 1) := by decide +kernel
theorem dX3_plain_97 : decode cX3_plain 97 = .ok (.getfield 97, 3) := by decide +kernel
theorem dX3_plain_100 : decode cX3_plain 100 = .ok (.i2l, 1) := by decide +kernel
theorem dX3_plain_101 : decode cX3_plain 101 = .ok (.lconst 0, 1) := by decide +kernel
theorem dX3_plain_102 : decode cX3_plain 102 = .ok (.invokevirtual 156, 3) := by decide +kernel
theorem dX3_plain_105 : decode cX3_plain 105 = .ok (.i2l, 1) := by decide +kernel
theorem dX3_plain_106 : decode cX3_plain 106 = .ok (.lreturn, 1) := by decide +kernel
theorem dX3_plain_107 : decode cX3_plain 107 = .ok (.aload_n 0, 1) := by decide +kernel
theorem dX3_plain_108 : decode cX3_plain 108 = .ok (.aload_n 0, 1) := by decide +kernel
theorem dX3_plain_109 : decode cX3_plain 109 = .ok (.aload_n 1, 1) := by decide +kernel
theorem dX3_plain_110 : decode cX3_plain 110 = .ok (.getfield 228, 3) := by decide +kernel
theorem dX3_plain_113 : decode cX3_plain 113 = .ok (.invokevirtual 212, 3) := by decide +kernel
theorem dX3_plain_116 : decode cX3_plain 116 = .ok (.invokevirtual 231, 3) := by decide +kernel
theorem dX3_plain_119 : decode cX3_plain 119 = .ok (.lreturn, 1) := by decide +kernel
theorem dX3_plain_120 : decode cX3_plain 120 = .ok (.aload_n 0, 1) := by decide +kernel
theorem dX3_plain_121 : decode cX3_plain 121 = .ok (.aload_n 1, 1) := by decide +kernel
theorem dX3_plain_122 : decode cX3_plain 122 = .ok (.invokevirtual 235, 3) := by decide +kernel
theorem dX3_plain_125 : decode cX3_plain 125 = .ok (.lreturn, 1) := by decide +kernel
theorem dX3_plain_126 : decode cX3_plain 126 = .ok (.aload_n 0, 1) := by decide +kernel
theorem dX3_plain_127 : decode cX3_plain 127 = .ok (.aload_n 0, 1) := by decide +kernel
theorem dX3_plain_128 : decode cX3_plain 128 = .ok (.aload_n 1, 1) := by decide +kernel
theorem dX3_plain_129 : decode cX3_plain 129 = .ok (.getfield 228, 3) := by decide +kernel
theorem dX3_plain_132 : decode cX3_plain 132 = .ok (.invokevirtual 212, 3) := by decide +kernel
theorem dX3_plain_135 : decode cX3_plain 135 = .ok (.aload_n 1, 1) := by decide +kernel
theorem dX3_plain_136 : decode cX3_plain 136 = .ok (.getfield 225, 3) := by decide +kernel
theorem dX3_plain_139 : decode cX3_plain 139 = .ok (.invokevirtual 238, 3) := by decide +kernel
theorem dX3_plain_142 : decode cX3_plain 142 = .ok (.lreturn, 1) := by decide +kernel
theorem dX3_plain_143 : decode cX3_plain 143 = .ok (.aload_n 0, 1) := by decide +kernel
theorem dX3_plain_144 : decode cX3_plain 144 = .ok (.aload_n 1, 1) := by decide +kernel
theorem dX3_plain_145 : decode cX3_plain 145 = .ok (.invokevirtual 242, 3) := by decide +kernel
theorem dX3_plain_148 : decode cX3_plain 148 = .ok (.lreturn, 1) := by decide +kernel
theorem dX3_plain_149 : decode cX3_plain 149 = .ok (.aload_n 0, 1) := by decide +kernel
theorem dX3_plain_150 : decode cX3_plain 150 = .ok (.getfield 21, 3) := by decide +kernel
theorem dX3_plain_153 : decode cX3_plain 153 = .ok (.aload_n 0, 1) := by decide +kernel
theorem dX3_plain_154 : decode cX3_plain 154 = .ok (.aload_n 1, 1) := by decide +kernel
theorem dX3_plain_155 : decode cX3_plain 155 = .ok (.invokevirtual 221, 3) := by decide +kernel
theorem dX3_plain_158 : decode cX3_plain 158 = .ok (.laload, 1) := by decide +kernel
theorem dX3_plain_159 : decode cX3_plain 159 = .ok (.lreturn, 1) := by decide +kernel
theorem dX3_plain_160 : decode cX3_plain 160 = .ok (.aload_n 1, 1) := by decide +kernel
theorem dX3_plain_161 : decode cX3_plain 161 = .ok (.getfield 209, 3) := by decide +kernel
theorem dX3_plain_164 : decode cX3_plain 164 = .ok (.iconst 1, 1) := by decide +kernel
theorem dX3_plain_165 : decode cX3_plain 165 = .ok (.if_icmp .ne 18, 3) := by decide +kernel
theorem dX3_plain_168 : decode cX3_plain 168 = .ok (.aload_n 0, 1) := by decide +kernel
theorem dX3_plain_169 : decode cX3_plain 169 = .ok (.aload_n 1, 1) := by decide +kernel
theorem dX3_plain_170 : decode cX3_plain 170 = .ok (.getfield 198, 3) := by decide +kernel
theorem dX3_plain_173 : decode cX3_plain 173 = .ok (.aload_n 1, 1) := by decide +kernel
theorem dX3_plain_174 : decode cX3_plain 174 = .ok (.getfield 202, 3) := by decide +kernel
theorem dX3_plain_177 : decode cX3_plain 177 = .ok (.invokevirtual 205, 3) := by decide +kernel
theorem dX3_plain_180 : decode cX3_plain 180 = .ok (.goto 8, 3) := by decide +kernel
theorem dX3_plain_183 : decode cX3_plain 183 = .ok (.aload_n 0, 1) := by decide +kernel
theorem dX3_plain_184 : decode cX3_plain 184 = .ok (.aload_n 1, 1) := by decide +kernel
theorem dX3_plain_185 : decode cX3_plain 185 = .ok (.invokevirtual 212, 3) := by decide +kernel
theorem dX3_plain_188 : decode cX3_plain 188 = .ok (.lreturn, 1) := by decide +kernel
theorem dX3_plain_189 : decode cX3_plain 189 = .ok (.lconst 0, 1) := by decide +kernel
theorem dX3_plain_190 : decode cX3_plain 190 = .ok (.lreturn, 1) := by decide +kernel
theorem dX3_newArray_0 : decode cX3_newArray 0 = .ok (.aload_n 0, 1) := by decide +kernel
theorem dX3_newArray_1 : decode cX3_newArray 1 = .ok (.getfield 60, 3) := by decide +kernel
theorem dX3_newArray_4 : decode cX3_newArray 4 = .ok (.ifCond .ne 18, 3) := by decide +kernel
theorem dX3_newArray_7 : decode cX3_newArray 7 = .ok (.lload_n 1, 1) := by decide +kernel
theorem dX3_newArray_8 : decode cX3_newArray 8 = .ok (.lconst 0, 1) := by decide +kernel
theorem dX3_newArray_9 : decode cX3_newArray 9 = .ok (.lcmp, 1) := by decide +kernel
theorem dX3_newArray_10 : decode cX3_newArray 10 = .ok (.ifCond .ge 12, 3) := by decide +kernel
theorem dX3_newArray_13 : decode cX3_newArray 13 = .ok (.aload_n 0, 1) := by decide +kernel
theorem dX3_newArray_14 : decode cX3_newArray 14 = .ok (.bipush 6, 2) := by decide +kernel
theorem dX3_newArray_16 : decode cX3_newArray 16 = .ok (.putfield 60, 3) := by decide +kernel
theorem dX3_newArray_19 : decode cX3_newArray 19 = .ok (.goto 37, 3) := by decide +kernel
theorem dX3_newArray_22 : decode cX3_newArray 22 = .ok (.aload_n 0, 1) := by decide +kernel
theorem dX3_newArray_23 : decode cX3_newArray 23 = .ok (.getfield 60, 3) := by decide +kernel
theorem dX3_newArray_26 : decode cX3_newArray 26 = .ok (.ifCond .ne 30, 3) := by decide +kernel
theorem dX3_newArray_29 : decode cX3_newArray 29 = .ok (.lload_n 1, 1) := by decide +kernel
theorem dX3_newArray_30 : decode cX3_newArray 30 = .ok (.ldc2_w 245, 3) := by decide +kernel
theorem dX3_newArray_33 : decode cX3_newArray 33 = .ok (.lcmp, 1) := by decide +kernel
theorem dX3_newArray_34 : decode cX3_newArray 34 = .ok (.ifCond .gt 17, 3) := by decide +kernel
theorem dX3_newArray_37 : decode cX3_newArray 37 = .ok (.aload_n 0, 1) := by decide +kernel
theorem dX3_newArray_38 : decode cX3_newArray 38 = .ok (.getfield 103, 3) := by decide +kernel
theorem dX3_newArray_41 : decode cX3_newArray 41 = .ok (.i2l, 1) := by decide +kernel
theorem dX3_newArray_42 : decode cX3_newArray 42 = .ok (.lload_n 1, 1) := by decide +kernel
theorem dX3_newArray_43 : decode cX3_newArray 43 = .ok (.ladd, 1) := by decide +kernel
theorem dX3_newArray_44 : decode cX3_newArray 44 = .ok (.ldc2_w 247, 3) := by decide +kernel
theorem dX3_newArray_47 : decode cX3_newArray 47 = .ok (.lcmp, 1) := by decide +kernel
theorem dX3_newArray_48 : decode cX3_newArray 48 = .ok (.ifCond .le 8, 3) := by decide +kernel
theorem dX3_newArray_51 : decode cX3_newArray 51 = .ok (.aload_n 0, 1) := by decide +kernel
theorem dX3_newArray_52 : decode cX3_newArray 52 = .ok (.iconst 2, 1) := by decide +kernel
theorem dX3_newArray_53 : decode cX3_newArray 53 = .ok (.putfield 60, 3) := by decide +kernel
theorem dX3_newArray_56 : decode cX3_newArray 56 = .ok (.aload_n 0, 1) := by decide +kernel
theorem dX3_newArray_57 : decode cX3_newArray 57 = .ok (.getfield 60, 3) := by decide +kernel
theorem dX3_newArray_60 : decode cX3_newArray 60 = .ok (.ifCond .ne 13, 3) := by decide +kernel
theorem dX3_newArray_63 : decode cX3_newArray 63 = .ok (.aload_n 0, 1) := by decide +kernel
theorem dX3_newArray_64 : decode cX3_newArray 64 = .ok (.lload_n 1, 1) := by decide +kernel
theorem dX3_newArray_65 : decode cX3_newArray 65 = .ok (.l2i, 1) := by decide +kernel
theorem dX3_newArray_66 : decode cX3_newArray 66 = .ok (.invokevirtual 132, 3) := by decide +kernel
theorem dX3_newArray_69 : decode cX3_newArray 69 = .ok (.i2l, 1) := by decide +kernel
theorem dX3_newArray_70 : decode cX3_newArray 70 = .ok (.goto 4, 3) := by decide +kernel
theorem dX3_newArray_73 : decode cX3_newArray 73 = .ok (.lconst 0, 1) := by decide +kernel
theorem dX3_newArray_74 : decode cX3_newArray 74 = .ok (.lreturn, 1) := by decide +kernel
theorem dX3_cons_0 : decode cX3_cons 0 = .ok (.aload_n 0, 1) := by decide +kernel
theorem dX3_cons_1 : decode cX3_cons 1 = .ok (.aload_n 1, 1) := by decide +kernel
theorem dX3_cons_2 : decode cX3_cons 2 = .ok (.getfield 228, 3) := by decide +kernel
theorem dX3_cons_5 : decode cX3_cons 5 = .ok (.invokevirtual 212, 3) := by decide +kernel
theorem dX3_cons_8 : decode cX3_cons 8 = .ok (.lstore_n 2, 1) := by decide +kernel
theorem dX3_cons_9 : decode cX3_cons 9 = .ok (.aload_n 0, 1) := by decide +kernel
theorem dX3_cons_10 : decode cX3_cons 10 = .ok (.aload_n 1, 1) := by decide +kernel
theorem dX3_cons_11 : decode cX3_cons 11 = .ok (.getfield 198, 3) := by decide +kernel
theorem dX3_cons_14 : decode cX3_cons 14 = .ok (.aload_n 1, 1) := by decide +kernel
theorem dX3_cons_15 : decode cX3_cons 15 = .ok (.getfield 202, 3) := by decide +kernel
theorem dX3_cons_18 : decode cX3_cons 18 = .ok (.invokevirtual 205, 3) := by decide +kernel
theorem dX3_cons_21 : decode cX3_cons 21 = .ok (.lstore 4, 2) := by decide +kernel
theorem dX3_cons_23 : decode cX3_cons 23 = .ok (.aload_n 0, 1) := by decide +kernel
theorem dX3_cons_24 : decode cX3_cons 24 = .ok (.lload_n 2, 1) := by decide +kernel
theorem dX3_cons_25 : decode cX3_cons 25 = .ok (.lload 4, 2) := by decide +kernel
theorem dX3_cons_27 : decode cX3_cons 27 = .ok (.aload_n 0, 1) := by decide +kernel
theorem dX3_cons_28 : decode cX3_cons 28 = .ok (.lload 4, 2) := by decide +kernel
theorem dX3_cons_30 : decode cX3_cons 30 = .ok (.sipush 213, 3) := by decide +kernel
theorem dX3_cons_33 : decode cX3_cons 33 = .ok (.invokevirtual 90, 3) := by decide +kernel
theorem dX3_cons_36 : decode cX3_cons 36 = .ok (.lconst 1, 1) := by decide +kernel
theorem dX3_cons_37 : decode cX3_cons 37 = .ok (.ladd, 1) := by decide +kernel
theorem dX3_cons_38 : decode cX3_cons 38 = .ok (.invokevirtual 156, 3) := by decide +kernel
theorem dX3_cons_41 : decode cX3_cons 41 = .ok (.i2l, 1) := by decide +kernel
theorem dX3_cons_42 : decode cX3_cons 42 = .ok (.lreturn, 1) := by decide +kernel
theorem dX3_product_0 : decode cX3_product 0 = .ok (.aload_n 0, 1) := by decide +kernel
theorem dX3_product_1 : decode cX3_product 1 = .ok (.getfield 60, 3) := by decide +kernel
theorem dX3_product_4 : decode cX3_product 4 = .ok (.ifCond .ne 11, 3) := by decide +kernel
theorem dX3_product_7 : decode cX3_product 7 = .ok (.aload_n 0, 1) := by decide +kernel
theorem dX3_product_8 : decode cX3_product 8 = .ok (.aload_n 3, 1) := by decide +kernel
theorem dX3_product_9 : decode cX3_product 9 = .ok (.invokevirtual 212, 3) := by decide +kernel
theorem dX3_product_12 : decode cX3_product 12 = .ok (.goto 4, 3) := by decide +kernel
theorem dX3_product_15 : decode cX3_product 15 = .ok (.lconst 0, 1) := by decide +kernel
theorem dX3_product_16 : decode cX3_product 16 = .ok (.lstore 4, 2) := by decide +kernel
theorem dX3_product_18 : decode cX3_product 18 = .ok (.lload_n 1, 1) := by decide +kernel
theorem dX3_product_19 : decode cX3_product 19 = .ok (.lconst 0, 1) := by decide +kernel
theorem dX3_product_20 : decode cX3_product 20 = .ok (.lcmp, 1) := by decide +kernel
theorem dX3_product_21 : decode cX3_product 21 = .ok (.ifCond .eq 41, 3) := by decide +kernel
theorem dX3_product_24 : decode cX3_product 24 = .ok (.lload 4, 2) := by decide +kernel
theorem dX3_product_26 : decode cX3_product 26 = .ok (.invokestatic 249, 3) := by decide +kernel
theorem dX3_product_29 : decode cX3_product 29 = .ok (.ldc2_w 254, 3) := by decide +kernel
theorem dX3_product_32 : decode cX3_product 32 = .ok (.lload_n 1, 1) := by decide +kernel
theorem dX3_product_33 : decode cX3_product 33 = .ok (.invokestatic 249, 3) := by decide +kernel
theorem dX3_product_36 : decode cX3_product 36 = .ok (.ldiv, 1) := by decide +kernel
theorem dX3_product_37 : decode cX3_product 37 = .ok (.lcmp, 1) := by decide +kernel
theorem dX3_product_38 : decode cX3_product 38 = .ok (.ifCond .le 24, 3) := by decide +kernel
theorem dX3_product_41 : decode cX3_product 41 = .ok (.aload_n 0, 1) := by decide +kernel
theorem dX3_product_42 : decode cX3_product 42 = .ok (.aload_n 0, 1) := by decide +kernel
theorem dX3_product_43 : decode cX3_product 43 = .ok (.getfield 60, 3) := by decide +kernel
theorem dX3_product_46 : decode cX3_product 46 = .ok (.ifCond .ne 7, 3) := by decide +kernel
theorem dX3_product_49 : decode cX3_product 49 = .ok (.iconst 2, 1) := by decide +kernel
theorem dX3_product_50 : decode cX3_product 50 = .ok (.goto 7, 3) := by decide +kernel
theorem dX3_product_53 : decode cX3_product 53 = .ok (.aload_n 0, 1) := by decide +kernel
theorem dX3_product_54 : decode cX3_product 54 = .ok (.getfield 60, 3) := by decide +kernel
theorem dX3_product_57 : decode cX3_product 57 = .ok (.putfield 60, 3) := by decide +kernel
theorem dX3_product_60 : decode cX3_product 60 = .ok (.lconst 0, 1) := by decide +kernel
theorem dX3_product_61 : decode cX3_product 61 = .ok (.lreturn, 1) := by decide +kernel
theorem dX3_product_62 : decode cX3_product 62 = .ok (.lload_n 1, 1) := by decide +kernel
theorem dX3_product_63 : decode cX3_product 63 = .ok (.lload 4, 2) := by decide +kernel
theorem dX3_product_65 : decode cX3_product 65 = .ok (.lmul, 1) := by decide +kernel
theorem dX3_product_66 : decode cX3_product 66 = .ok (.lreturn, 1) := by decide +kernel
theorem dX3_quotient_0 : decode cX3_quotient 0 = .ok (.aload_n 0, 1) := by decide +kernel
theorem dX3_quotient_1 : decode cX3_quotient 1 = .ok (.aload_n 1, 1) := by decide +kernel
theorem dX3_quotient_2 : decode cX3_quotient 2 = .ok (.getfield 228, 3) := by decide +kernel
theorem dX3_quotient_5 : decode cX3_quotient 5 = .ok (.invokevirtual 212, 3) := by decide +kernel
theorem dX3_quotient_8 : decode cX3_quotient 8 = .ok (.lstore_n 2, 1) := by decide +kernel
theorem dX3_quotient_9 : decode cX3_quotient 9 = .ok (.aload_n 0, 1) := by decide +kernel
theorem dX3_quotient_10 : decode cX3_quotient 10 = .ok (.getfield 60, 3) := by decide +kernel
theorem dX3_quotient_13 : decode cX3_quotient 13 = .ok (.ifCond .ne 14, 3) := by decide +kernel
theorem dX3_quotient_16 : decode cX3_quotient 16 = .ok (.aload_n 0, 1) := by decide +kernel
theorem dX3_quotient_17 : decode cX3_quotient 17 = .ok (.aload_n 1, 1) := by decide +kernel
theorem dX3_quotient_18 : decode cX3_quotient 18 = .ok (.getfield 225, 3) := by decide +kernel
theorem dX3_quotient_21 : decode cX3_quotient 21 = .ok (.invokevirtual 212, 3) := by decide +kernel
theorem dX3_quotient_24 : decode cX3_quotient 24 = .ok (.goto 4, 3) := by decide +kernel
theorem dX3_quotient_27 : decode cX3_quotient 27 = .ok (.lconst 0, 1) := by decide +kernel
theorem dX3_quotient_28 : decode cX3_quotient 28 = .ok (.lstore 4, 2) := by decide +kernel
theorem dX3_quotient_30 : decode cX3_quotient 30 = .ok (.lload 4, 2) := by decide +kernel
theorem dX3_quotient_32 : decode cX3_quotient 32 = .ok (.lconst 0, 1) := by decide +kernel
theorem dX3_quotient_33 : decode cX3_quotient 33 = .ok (.lcmp, 1) := by decide +kernel
theorem dX3_quotient_34 : decode cX3_quotient 34 = .ok (.ifCond .ne 24, 3) := by decide +kernel
theorem dX3_quotient_37 : decode cX3_quotient 37 = .ok (.aload_n 0, 1) := by decide +kernel
theorem dX3_quotient_38 : decode cX3_quotient 38 = .ok (.aload_n 0, 1) := by decide +kernel
theorem dX3_quotient_39 : decode cX3_quotient 39 = .ok (.getfield 60, 3) := by decide +kernel
theorem dX3_quotient_42 : decode cX3_quotient 42 = .ok (.ifCond .ne 7, 3) := by decide +kernel
theorem dX3_quotient_45 : decode cX3_quotient 45 = .ok (.iconst 4, 1) := by decide +kernel
theorem dX3_quotient_46 : decode cX3_quotient 46 = .ok (.goto 7, 3) := by decide +kernel
theorem dX3_quotient_49 : decode cX3_quotient 49 = .ok (.aload_n 0, 1) := by decide +kernel
theorem dX3_quotient_50 : decode cX3_quotient 50 = .ok (.getfield 60, 3) := by decide +kernel
theorem dX3_quotient_53 : decode cX3_quotient 53 = .ok (.putfield 60, 3) := by decide +kernel
theorem dX3_quotient_56 : decode cX3_quotient 56 = .ok (.lconst 0, 1) := by decide +kernel
theorem dX3_quotient_57 : decode cX3_quotient 57 = .ok (.lreturn, 1) := by decide +kernel
theorem dX3_quotient_58 : decode cX3_quotient 58 = .ok (.aload_n 1, 1) := by decide +kernel
theorem dX3_quotient_59 : decode cX3_quotient 59 = .ok (.getfield 143, 3) := by decide +kernel
theorem dX3_quotient_62 : decode cX3_quotient 62 = .ok (.bipush 47, 2) := by decide +kernel
theorem dX3_quotient_64 : decode cX3_quotient 64 = .ok (.if_icmp .ne 12, 3) := by decide +kernel
theorem dX3_quotient_67 : decode cX3_quotient 67 = .ok (.lload_n 2, 1) := by decide +kernel
theorem dX3_quotient_68 : decode cX3_quotient 68 = .ok (.lload 4, 2) := by decide +kernel
theorem dX3_quotient_70 : decode cX3_quotient 70 = .ok (.invokestatic 256, 3) := by decide +kernel
theorem dX3_quotient_73 : decode cX3_quotient 73 = .ok (.goto 9, 3) := by decide +kernel
theorem dX3_quotient_76 : decode cX3_quotient 76 = .ok (.lload_n 2, 1) := by decide +kernel
theorem dX3_quotient_77 : decode cX3_quotient 77 = .ok (.lload 4, 2) := by decide +kernel
theorem dX3_quotient_79 : decode cX3_quotient 79 = .ok (.invokestatic 260, 3) := by decide +kernel
theorem dX3_quotient_82 : decode cX3_quotient 82 = .ok (.lreturn, 1) := by decide +kernel
theorem dX11_numberOf_0 : decode cX11_numberOf 0 = .ok (.iconst 0, 1) := by decide +kernel
theorem dX11_numberOf_1 : decode cX11_numberOf 1 = .ok (.istore_n 2, 1) := by decide +kernel
theorem dX11_numberOf_2 : decode cX11_numberOf 2 = .ok (.aload_n 0, 1) := by decide +kernel
theorem dX11_numberOf_3 : decode cX11_numberOf 3 = .ok (.getfield 29, 3) := by decide +kernel
theorem dX11_numberOf_6 : decode cX11_numberOf 6 = .ok (.iload_n 1, 1) := by decide +kernel
theorem dX11_numberOf_7 : decode cX11_numberOf 7 = .ok (.iaload, 1) := by decide +kernel
theorem dX11_numberOf_8 : decode cX11_numberOf 8 = .ok (.istore_n 3, 1) := by decide +kernel
theorem dX11_numberOf_9 : decode cX11_numberOf 9 = .ok (.iload_n 3, 1) := by decide +kernel
theorem dX11_numberOf_10 : decode cX11_numberOf 10 = .ok (.aload_n 0, 1) := by decide +kernel
theorem dX11_numberOf_11 : decode cX11_numberOf 11 = .ok (.getfield 32, 3) := by decide +kernel
theorem dX11_numberOf_14 : decode cX11_numberOf 14 = .ok (.iload_n 1, 1) := by decide +kernel
theorem dX11_numberOf_15 : decode cX11_numberOf 15 = .ok (.iaload, 1) := by decide +kernel
theorem dX11_numberOf_16 : decode cX11_numberOf 16 = .ok (.if_icmp .ge 26, 3) := by decide +kernel
theorem dX11_numberOf_19 : decode cX11_numberOf 19 = .ok (.iload_n 2, 1) := by decide +kernel
theorem dX11_numberOf_20 : decode cX11_numberOf 20 = .ok (.bipush 10, 2) := by decide +kernel
theorem dX11_numberOf_22 : decode cX11_numberOf 22 = .ok (.imul, 1) := by decide +kernel
theorem dX11_numberOf_23 : decode cX11_numberOf 23 = .ok (.aload_n 0, 1) := by decide +kernel
theorem dX11_numberOf_24 : decode cX11_numberOf 24 = .ok (.getfield 15, 3) := by decide +kernel
theorem dX11_numberOf_27 : decode cX11_numberOf 27 = .ok (.iload_n 3, 1) := by decide +kernel
theorem dX11_numberOf_28 : decode cX11_numberOf 28 = .ok (.invokevirtual 38, 3) := by decide +kernel
theorem dX11_numberOf_31 : decode cX11_numberOf 31 = .ok (.iadd, 1) := by decide +kernel
theorem dX11_numberOf_32 : decode cX11_numberOf 32 = .ok (.bipush 48, 2) := by decide +kernel
theorem dX11_numberOf_34 : decode cX11_numberOf 34 = .ok (.isub, 1) := by decide +kernel
theorem dX11_numberOf_35 : decode cX11_numberOf 35 = .ok (.istore_n 2, 1) := by decide +kernel
theorem dX11_numberOf_36 : decode cX11_numberOf 36 = .ok (.iinc 3 1, 3) := by decide +kernel
theorem dX11_numberOf_39 : decode cX11_numberOf 39 = .ok (.goto (-30), 3) := by decide +kernel
theorem dX11_numberOf_42 : decode cX11_numberOf 42 = .ok (.iload_n 2, 1) := by decide +kernel
theorem dX11_numberOf_43 : decode cX11_numberOf 43 = .ok (.ireturn, 1) := by decide +kernel
