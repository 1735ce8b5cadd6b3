theorem dX7_expression_15 : decode cX7_expression 15 = .ok (.aload_n 0, 1) := by decide +kernel
theorem dX7_expression_16 : decode cX7_expression 16 = .ok (.invokevirtual 78, 3) := by decide +kernel
theorem dX7_expression_19 : decode cX7_expression 19 = .ok (.aload_n 2, 1) := by decide +kernel
theorem dX7_expression_20 : decode cX7_expression 20 = .ok (.areturn, 1) := by decide +kernel
theorem dX7_expression_132 : decode cX7_expression 132 = .ok (.aload_n 0, 1) := by decide +kernel
theorem dX7_expression_133 : decode cX7_expression 133 = .ok (.aload_n 2, 1) := by decide +kernel
theorem dX7_expression_134 : decode cX7_expression 134 = .ok (.iload_n 1, 1) := by decide +kernel
theorem dX7_expression_135 : decode cX7_expression 135 = .ok (.invokevirtual 166, 3) := by decide +kernel
theorem dX7_expression_138 : decode cX7_expression 138 = .ok (.goto 149, 3) := by decide +kernel
theorem dX7_expression_141 : decode cX7_expression 141 = .ok (.aload_n 0, 1) := by decide +kernel
theorem dX7_expression_142 : decode cX7_expression 142 = .ok (.aload_n 2, 1) := by decide +kernel
theorem dX7_expression_143 : decode cX7_expression 143 = .ok (.iload_n 1, 1) := by decide +kernel
theorem dX7_expression_144 : decode cX7_expression 144 = .ok (.invokevirtual 170, 3) := by decide +kernel
theorem dX7_expression_147 : decode cX7_expression 147 = .ok (.goto 140, 3) := by decide +kernel
theorem dX7_expression_150 : decode cX7_expression 150 = .ok (.aload_n 0, 1) := by decide +kernel
theorem dX7_expression_151 : decode cX7_expression 151 = .ok (.aload_n 2, 1) := by decide +kernel
theorem dX7_expression_152 : decode cX7_expression 152 = .ok (.iload_n 1, 1) := by decide +kernel
theorem dX7_expression_153 : decode cX7_expression 153 = .ok (.invokevirtual 173, 3) := by decide +kernel
theorem dX7_expression_156 : decode cX7_expression 156 = .ok (.goto 131, 3) := by decide +kernel
theorem dX7_expression_159 : decode cX7_expression 159 = .ok (.aload_n 0, 1) := by decide +kernel
theorem dX7_expression_160 : decode cX7_expression 160 = .ok (.aload_n 2, 1) := by decide +kernel
theorem dX7_expression_161 : decode cX7_expression 161 = .ok (.iload_n 1, 1) := by decide +kernel
theorem dX7_expression_162 : decode cX7_expression 162 = .ok (.invokevirtual 176, 3) := by decide +kernel
theorem dX7_expression_165 : decode cX7_expression 165 = .ok (.goto 122, 3) := by decide +kernel
theorem dX7_expression_168 : decode cX7_expression 168 = .ok (.aload_n 0, 1) := by decide +kernel
theorem dX7_expression_169 : decode cX7_expression 169 = .ok (.aload_n 2, 1) := by decide +kernel
theorem dX7_expression_170 : decode cX7_expression 170 = .ok (.iload_n 1, 1) := by decide +kernel
theorem dX7_expression_171 : decode cX7_expression 171 = .ok (.invokevirtual 179, 3) := by decide +kernel
theorem dX7_expression_174 : decode cX7_expression 174 = .ok (.goto 113, 3) := by decide +kernel
theorem dX7_expression_177 : decode cX7_expression 177 = .ok (.aload_n 0, 1) := by decide +kernel
theorem dX7_expression_178 : decode cX7_expression 178 = .ok (.aload_n 2, 1) := by decide +kernel
theorem dX7_expression_179 : decode cX7_expression 179 = .ok (.iload_n 1, 1) := by decide +kernel
theorem dX7_expression_180 : decode cX7_expression 180 = .ok (.invokevirtual 182, 3) := by decide +kernel
theorem dX7_expression_183 : decode cX7_expression 183 = .ok (.goto 104, 3) := by decide +kernel
theorem dX7_expression_186 : decode cX7_expression 186 = .ok (.aload_n 0, 1) := by decide +kernel
theorem dX7_expression_187 : decode cX7_expression 187 = .ok (.invokevirtual 98, 3) := by decide +kernel
theorem dX7_expression_190 : decode cX7_expression 190 = .ok (.aload_n 2, 1) := by decide +kernel
theorem dX7_expression_191 : decode cX7_expression 191 = .ok (.aload_n 0, 1) := by decide +kernel
theorem dX7_expression_192 : decode cX7_expression 192 = .ok (.invokevirtual 185, 3) := by decide +kernel
theorem dX7_expression_195 : decode cX7_expression 195 = .ok (.putfield 189, 3) := by decide +kernel
theorem dX7_expression_198 : decode cX7_expression 198 = .ok (.aload_n 2, 1) := by decide +kernel
theorem dX7_expression_199 : decode cX7_expression 199 = .ok (.aload_n 0, 1) := by decide +kernel
theorem dX7_expression_200 : decode cX7_expression 200 = .ok (.aload_n 2, 1) := by decide +kernel
theorem dX7_expression_201 : decode cX7_expression 201 = .ok (.getfield 189, 3) := by decide +kernel
theorem dX7_expression_204 : decode cX7_expression 204 = .ok (.getfield 192, 3) := by decide +kernel
theorem dX7_expression_207 : decode cX7_expression 207 = .ok (.sipush 301, 3) := by decide +kernel
theorem dX7_expression_210 : decode cX7_expression 210 = .ok (.invokevirtual 195, 3) := by decide +kernel
theorem dX7_expression_213 : decode cX7_expression 213 = .ok (.putfield 199, 3) := by decide +kernel
theorem dX7_expression_216 : decode cX7_expression 216 = .ok (.goto 71, 3) := by decide +kernel
theorem dX7_expression_219 : decode cX7_expression 219 = .ok (.aload_n 0, 1) := by decide +kernel
theorem dX7_expression_220 : decode cX7_expression 220 = .ok (.invokevirtual 98, 3) := by decide +kernel
theorem dX7_expression_223 : decode cX7_expression 223 = .ok (.aload_n 2, 1) := by decide +kernel
theorem dX7_expression_224 : decode cX7_expression 224 = .ok (.aload_n 0, 1) := by decide +kernel
theorem dX7_expression_225 : decode cX7_expression 225 = .ok (.invokevirtual 185, 3) := by decide +kernel
theorem dX7_expression_228 : decode cX7_expression 228 = .ok (.putfield 189, 3) := by decide +kernel
theorem dX7_expression_231 : decode cX7_expression 231 = .ok (.aload_n 2, 1) := by decide +kernel
theorem dX7_expression_232 : decode cX7_expression 232 = .ok (.aload_n 0, 1) := by decide +kernel
theorem dX7_expression_233 : decode cX7_expression 233 = .ok (.invokevirtual 95, 3) := by decide +kernel
theorem dX7_expression_236 : decode cX7_expression 236 = .ok (.putfield 202, 3) := by decide +kernel
theorem dX7_expression_239 : decode cX7_expression 239 = .ok (.aload_n 2, 1) := by decide +kernel
theorem dX7_expression_240 : decode cX7_expression 240 = .ok (.aload_n 0, 1) := by decide +kernel
theorem dX7_expression_241 : decode cX7_expression 241 = .ok (.invokevirtual 205, 3) := by decide +kernel
theorem dX7_expression_244 : decode cX7_expression 244 = .ok (.putfield 208, 3) := by decide +kernel
theorem dX7_expression_247 : decode cX7_expression 247 = .ok (.goto 40, 3) := by decide +kernel
theorem dX7_expression_250 : decode cX7_expression 250 = .ok (.aload_n 0, 1) := by decide +kernel
theorem dX7_expression_251 : decode cX7_expression 251 = .ok (.invokevirtual 98, 3) := by decide +kernel
theorem dX7_expression_254 : decode cX7_expression 254 = .ok (.goto 33, 3) := by decide +kernel
theorem dX7_expression_257 : decode cX7_expression 257 = .ok (.aload_n 0, 1) := by decide +kernel
theorem dX7_expression_258 : decode cX7_expression 258 = .ok (.invokevirtual 98, 3) := by decide +kernel
theorem dX7_expression_261 : decode cX7_expression 261 = .ok (.aload_n 2, 1) := by decide +kernel
theorem dX7_expression_262 : decode cX7_expression 262 = .ok (.aload_n 0, 1) := by decide +kernel
theorem dX7_expression_263 : decode cX7_expression 263 = .ok (.iload_n 1, 1) := by decide +kernel
theorem dX7_expression_264 : decode cX7_expression 264 = .ok (.iconst 1, 1) := by decide +kernel
theorem dX7_expression_265 : decode cX7_expression 265 = .ok (.iadd, 1) := by decide +kernel
theorem dX7_expression_266 : decode cX7_expression 266 = .ok (.invokevirtual 70, 3) := by decide +kernel
theorem dX7_expression_269 : decode cX7_expression 269 = .ok (.putfield 212, 3) := by decide +kernel
theorem dX7_expression_272 : decode cX7_expression 272 = .ok (.aload_n 0, 1) := by decide +kernel
theorem dX7_expression_273 : decode cX7_expression 273 = .ok (.bipush 41, 2) := by decide +kernel
theorem dX7_expression_275 : decode cX7_expression 275 = .ok (.invokevirtual 109, 3) := by decide +kernel
theorem dX7_expression_278 : decode cX7_expression 278 = .ok (.goto 9, 3) := by decide +kernel
theorem dX7_expression_287 : decode cX7_expression 287 = .ok (.aload_n 2, 1) := by decide +kernel
theorem dX7_expression_288 : decode cX7_expression 288 = .ok (.areturn, 1) := by decide +kernel
theorem dX7_readLet_0 : decode cX7_readLet 0 = .ok (.aload_n 0, 1) := by decide +kernel
theorem dX7_readLet_1 : decode cX7_readLet 1 = .ok (.invokevirtual 98, 3) := by decide +kernel
theorem dX7_readLet_4 : decode cX7_readLet 4 = .ok (.aload_n 0, 1) := by decide +kernel
theorem dX7_readLet_5 : decode cX7_readLet 5 = .ok (.invokevirtual 57, 3) := by decide +kernel
theorem dX7_readLet_8 : decode cX7_readLet 8 = .ok (.sipush 219, 3) := by decide +kernel
theorem dX7_readLet_11 : decode cX7_readLet 11 = .ok (.if_icmp .ne 10, 3) := by decide +kernel
theorem dX7_readLet_14 : decode cX7_readLet 14 = .ok (.aload_n 0, 1) := by decide +kernel
theorem dX7_readLet_15 : decode cX7_readLet 15 = .ok (.aload_n 1, 1) := by decide +kernel
theorem dX7_readLet_16 : decode cX7_readLet 16 = .ok (.iload_n 2, 1) := by decide +kernel
theorem dX7_readLet_17 : decode cX7_readLet 17 = .ok (.invokevirtual 218, 3) := by decide +kernel
theorem dX7_readLet_20 : decode cX7_readLet 20 = .ok (.return_, 1) := by decide +kernel
theorem dX7_readLet_21 : decode cX7_readLet 21 = .ok (.aload_n 1, 1) := by decide +kernel
theorem dX7_readLet_22 : decode cX7_readLet 22 = .ok (.aload_n 0, 1) := by decide +kernel
theorem dX7_readLet_23 : decode cX7_readLet 23 = .ok (.invokevirtual 124, 3) := by decide +kernel
theorem dX7_readLet_26 : decode cX7_readLet 26 = .ok (.putfield 221, 3) := by decide +kernel
theorem dX7_readLet_29 : decode cX7_readLet 29 = .ok (.aload_n 0, 1) := by decide +kernel
theorem dX7_readLet_30 : decode cX7_readLet 30 = .ok (.bipush 61, 2) := by decide +kernel
theorem dX7_readLet_32 : decode cX7_readLet 32 = .ok (.invokevirtual 109, 3) := by decide +kernel
theorem dX7_readLet_35 : decode cX7_readLet 35 = .ok (.aload_n 1, 1) := by decide +kernel
theorem dX7_readLet_36 : decode cX7_readLet 36 = .ok (.aload_n 0, 1) := by decide +kernel
theorem dX7_readLet_37 : decode cX7_readLet 37 = .ok (.iload_n 2, 1) := by decide +kernel
theorem dX7_readLet_38 : decode cX7_readLet 38 = .ok (.iconst 1, 1) := by decide +kernel
theorem dX7_readLet_39 : decode cX7_readLet 39 = .ok (.iadd, 1) := by decide +kernel
theorem dX7_readLet_40 : decode cX7_readLet 40 = .ok (.invokevirtual 70, 3) := by decide +kernel
theorem dX7_readLet_43 : decode cX7_readLet 43 = .ok (.putfield 212, 3) := by decide +kernel
theorem dX7_readLet_46 : decode cX7_readLet 46 = .ok (.aload_n 0, 1) := by decide +kernel
theorem dX7_readLet_47 : decode cX7_readLet 47 = .ok (.sipush 208, 3) := by decide +kernel
theorem dX7_readLet_50 : decode cX7_readLet 50 = .ok (.invokevirtual 109, 3) := by decide +kernel
theorem dX7_readLet_53 : decode cX7_readLet 53 = .ok (.aload_n 0, 1) := by decide +kernel
theorem dX7_readLet_54 : decode cX7_readLet 54 = .ok (.aload_n 1, 1) := by decide +kernel
theorem dX7_readLet_55 : decode cX7_readLet 55 = .ok (.getfield 221, 3) := by decide +kernel
theorem dX7_readLet_58 : decode cX7_readLet 58 = .ok (.invokevirtual 131, 3) := by decide +kernel
theorem dX7_readLet_61 : decode cX7_readLet 61 = .ok (.aload_n 1, 1) := by decide +kernel
theorem dX7_readLet_62 : decode cX7_readLet 62 = .ok (.aload_n 0, 1) := by decide +kernel
theorem dX7_readLet_63 : decode cX7_readLet 63 = .ok (.iload_n 2, 1) := by decide +kernel
theorem dX7_readLet_64 : decode cX7_readLet 64 = .ok (.iconst 1, 1) := by decide +kernel
theorem dX7_readLet_65 : decode cX7_readLet 65 = .ok (.iadd, 1) := by decide +kernel
theorem dX7_readLet_66 : decode cX7_readLet 66 = .ok (.invokevirtual 70, 3) := by decide +kernel
theorem dX7_readLet_69 : decode cX7_readLet 69 = .ok (.putfield 223, 3) := by decide +kernel
theorem dX7_readLet_72 : decode cX7_readLet 72 = .ok (.aload_n 0, 1) := by decide +kernel
theorem dX7_readLet_73 : decode cX7_readLet 73 = .ok (.dup, 1) := by decide +kernel
theorem dX7_readLet_74 : decode cX7_readLet 74 = .ok (.getfield 103, 3) := by decide +kernel
theorem dX7_readLet_77 : decode cX7_readLet 77 = .ok (.iconst 1, 1) := by decide +kernel
theorem dX7_readLet_78 : decode cX7_readLet 78 = .ok (.isub, 1) := by decide +kernel
theorem dX7_readLet_79 : decode cX7_readLet 79 = .ok (.putfield 103, 3) := by decide +kernel
theorem dX7_readLet_82 : decode cX7_readLet 82 = .ok (.return_, 1) := by decide +kernel
theorem dX7_beFunction_0 : decode cX7_beFunction 0 = .ok (.aload_n 1, 1) := by decide +kernel
theorem dX7_beFunction_1 : decode cX7_beFunction 1 = .ok (.aload_n 0, 1) := by decide +kernel
theorem dX7_beFunction_2 : decode cX7_beFunction 2 = .ok (.getfield 24, 3) := by decide +kernel
theorem dX7_beFunction_5 : decode cX7_beFunction 5 = .ok (.invokevirtual 238, 3) := by decide +kernel
theorem dX7_beFunction_8 : decode cX7_beFunction 8 = .ok (.putfield 241, 3) := by decide +kernel
theorem dX7_beFunction_11 : decode cX7_beFunction 11 = .ok (.aload_n 0, 1) := by decide +kernel
theorem dX7_beFunction_12 : decode cX7_beFunction 12 = .ok (.getfield 24, 3) := by decide +kernel
theorem dX7_beFunction_15 : decode cX7_beFunction 15 = .ok (.aload_n 1, 1) := by decide +kernel
theorem dX7_beFunction_16 : decode cX7_beFunction 16 = .ok (.invokevirtual 151, 3) := by decide +kernel
theorem dX7_beFunction_19 : decode cX7_beFunction 19 = .ok (.pop, 1) := by decide +kernel
theorem dX7_beFunction_20 : decode cX7_beFunction 20 = .ok (.aload_n 1, 1) := by decide +kernel
theorem dX7_beFunction_21 : decode cX7_beFunction 21 = .ok (.new 17, 3) := by decide +kernel
theorem dX7_beFunction_24 : decode cX7_beFunction 24 = .ok (.dup, 1) := by decide +kernel
theorem dX7_beFunction_25 : decode cX7_beFunction 25 = .ok (.invokespecial 19, 3) := by decide +kernel
theorem dX7_beFunction_28 : decode cX7_beFunction 28 = .ok (.putfield 235, 3) := by decide +kernel
theorem dX7_beFunction_31 : decode cX7_beFunction 31 = .ok (.return_, 1) := by decide +kernel
theorem dX7_tellParameter_0 : decode cX7_tellParameter 0 = .ok (.aload_n 0, 1) := by decide +kernel
theorem dX7_tellParameter_1 : decode cX7_tellParameter 1 = .ok (.invokevirtual 124, 3) := by decide +kernel
theorem dX7_tellParameter_4 : decode cX7_tellParameter 4 = .ok (.astore_n 2, 1) := by decide +kernel
theorem dX7_tellParameter_5 : decode cX7_tellParameter 5 = .ok (.aload_n 1, 1) := by decide +kernel
theorem dX7_tellParameter_6 : decode cX7_tellParameter 6 = .ok (.getfield 235, 3) := by decide +kernel
theorem dX7_tellParameter_9 : decode cX7_tellParameter 9 = .ok (.aload_n 2, 1) := by decide +kernel
theorem dX7_tellParameter_10 : decode cX7_tellParameter 10 = .ok (.invokevirtual 151, 3) := by decide +kernel
theorem dX7_tellParameter_13 : decode cX7_tellParameter 13 = .ok (.pop, 1) := by decide +kernel
theorem dX7_tellParameter_14 : decode cX7_tellParameter 14 = .ok (.aload_n 0, 1) := by decide +kernel
theorem dX7_tellParameter_15 : decode cX7_tellParameter 15 = .ok (.aload_n 2, 1) := by decide +kernel
theorem dX7_tellParameter_16 : decode cX7_tellParameter 16 = .ok (.invokevirtual 131, 3) := by decide +kernel
theorem dX7_tellParameter_19 : decode cX7_tellParameter 19 = .ok (.return_, 1) := by decide +kernel
theorem dX7_readFunction_0 : decode cX7_readFunction 0 = .ok (.aload_n 0, 1) := by decide +kernel
theorem dX7_readFunction_1 : decode cX7_readFunction 1 = .ok (.invokevirtual 98, 3) := by decide +kernel
theorem dX7_readFunction_4 : decode cX7_readFunction 4 = .ok (.aload_n 0, 1) := by decide +kernel
theorem dX7_readFunction_5 : decode cX7_readFunction 5 = .ok (.aload_n 1, 1) := by decide +kernel
theorem dX7_readFunction_6 : decode cX7_readFunction 6 = .ok (.invokevirtual 228, 3) := by decide +kernel
theorem dX7_readFunction_9 : decode cX7_readFunction 9 = .ok (.aload_n 0, 1) := by decide +kernel
theorem dX7_readFunction_10 : decode cX7_readFunction 10 = .ok (.aload_n 1, 1) := by decide +kernel
theorem dX7_readFunction_11 : decode cX7_readFunction 11 = .ok (.invokevirtual 232, 3) := by decide +kernel
theorem dX7_readFunction_14 : decode cX7_readFunction 14 = .ok (.aload_n 0, 1) := by decide +kernel
theorem dX7_readFunction_15 : decode cX7_readFunction 15 = .ok (.sipush 304, 3) := by decide +kernel
theorem dX7_readFunction_18 : decode cX7_readFunction 18 = .ok (.invokevirtual 109, 3) := by decide +kernel
theorem dX7_readFunction_21 : decode cX7_readFunction 21 = .ok (.aload_n 1, 1) := by decide +kernel
theorem dX7_readFunction_22 : decode cX7_readFunction 22 = .ok (.aload_n 0, 1) := by decide +kernel
theorem dX7_readFunction_23 : decode cX7_readFunction 23 = .ok (.iload_n 2, 1) := by decide +kernel
theorem dX7_readFunction_24 : decode cX7_readFunction 24 = .ok (.iconst 1, 1) := by decide +kernel
theorem dX7_readFunction_25 : decode cX7_readFunction 25 = .ok (.iadd, 1) := by decide +kernel
theorem dX7_readFunction_26 : decode cX7_readFunction 26 = .ok (.invokevirtual 70, 3) := by decide +kernel
theorem dX7_readFunction_29 : decode cX7_readFunction 29 = .ok (.putfield 212, 3) := by decide +kernel
theorem dX7_readFunction_32 : decode cX7_readFunction 32 = .ok (.aload_n 0, 1) := by decide +kernel
theorem dX7_readFunction_33 : decode cX7_readFunction 33 = .ok (.dup, 1) := by decide +kernel
theorem dX7_readFunction_34 : decode cX7_readFunction 34 = .ok (.getfield 103, 3) := by decide +kernel
theorem dX7_readFunction_37 : decode cX7_readFunction 37 = .ok (.iconst 1, 1) := by decide +kernel
theorem dX7_readFunction_38 : decode cX7_readFunction 38 = .ok (.isub, 1) := by decide +kernel
theorem dX7_readFunction_39 : decode cX7_readFunction 39 = .ok (.putfield 103, 3) := by decide +kernel
theorem dX7_readFunction_42 : decode cX7_readFunction 42 = .ok (.return_, 1) := by decide +kernel
theorem dX7_readIf_0 : decode cX7_readIf 0 = .ok (.aload_n 0, 1) := by decide +kernel
theorem dX7_readIf_1 : decode cX7_readIf 1 = .ok (.invokevirtual 98, 3) := by decide +kernel
theorem dX7_readIf_4 : decode cX7_readIf 4 = .ok (.aload_n 0, 1) := by decide +kernel
theorem dX7_readIf_5 : decode cX7_readIf 5 = .ok (.getfield 244, 3) := by decide +kernel
theorem dX7_readIf_8 : decode cX7_readIf 8 = .ok (.istore_n 3, 1) := by decide +kernel
theorem dX7_readIf_9 : decode cX7_readIf 9 = .ok (.aload_n 1, 1) := by decide +kernel
theorem dX7_readIf_10 : decode cX7_readIf 10 = .ok (.aload_n 0, 1) := by decide +kernel
theorem dX7_readIf_11 : decode cX7_readIf 11 = .ok (.iload_n 2, 1) := by decide +kernel
theorem dX7_readIf_12 : decode cX7_readIf 12 = .ok (.invokevirtual 247, 3) := by decide +kernel
theorem dX7_readIf_15 : decode cX7_readIf 15 = .ok (.putfield 250, 3) := by decide +kernel
theorem dX7_readIf_18 : decode cX7_readIf 18 = .ok (.aload_n 0, 1) := by decide +kernel
theorem dX7_readIf_19 : decode cX7_readIf 19 = .ok (.sipush 222, 3) := by decide +kernel
theorem dX7_readIf_22 : decode cX7_readIf 22 = .ok (.invokevirtual 109, 3) := by decide +kernel
theorem dX7_readIf_25 : decode cX7_readIf 25 = .ok (.aload_n 1, 1) := by decide +kernel
theorem dX7_readIf_26 : decode cX7_readIf 26 = .ok (.aload_n 0, 1) := by decide +kernel
theorem dX7_readIf_27 : decode cX7_readIf 27 = .ok (.iload_n 2, 1) := by decide +kernel
theorem dX7_readIf_28 : decode cX7_readIf 28 = .ok (.iconst 1, 1) := by decide +kernel
theorem dX7_readIf_29 : decode cX7_readIf 29 = .ok (.iadd, 1) := by decide +kernel
theorem dX7_readIf_30 : decode cX7_readIf 30 = .ok (.invokevirtual 70, 3) := by decide +kernel
theorem dX7_readIf_33 : decode cX7_readIf 33 = .ok (.putfield 212, 3) := by decide +kernel
theorem dX7_readIf_36 : decode cX7_readIf 36 = .ok (.aload_n 0, 1) := by decide +kernel
theorem dX7_readIf_37 : decode cX7_readIf 37 = .ok (.sipush 204, 3) := by decide +kernel
theorem dX7_readIf_40 : decode cX7_readIf 40 = .ok (.invokevirtual 109, 3) := by decide +kernel
theorem dX7_readIf_43 : decode cX7_readIf 43 = .ok (.aload_n 1, 1) := by decide +kernel
theorem dX7_readIf_44 : decode cX7_readIf 44 = .ok (.aload_n 0, 1) := by decide +kernel
theorem dX7_readIf_45 : decode cX7_readIf 45 = .ok (.iload_n 2, 1) := by decide +kernel
theorem dX7_readIf_46 : decode cX7_readIf 46 = .ok (.iconst 1, 1) := by decide +kernel
theorem dX7_readIf_47 : decode cX7_readIf 47 = .ok (.iadd, 1) := by decide +kernel
theorem dX7_readIf_48 : decode cX7_readIf 48 = .ok (.invokevirtual 70, 3) := by decide +kernel
theorem dX7_readIf_51 : decode cX7_readIf 51 = .ok (.putfield 223, 3) := by decide +kernel
theorem dX7_readIf_54 : decode cX7_readIf 54 = .ok (.aload_n 0, 1) := by decide +kernel
theorem dX7_readIf_55 : decode cX7_readIf 55 = .ok (.iload_n 3, 1) := by decide +kernel
theorem dX7_readIf_56 : decode cX7_readIf 56 = .ok (.putfield 244, 3) := by decide +kernel
theorem dX7_readIf_59 : decode cX7_readIf 59 = .ok (.return_, 1) := by decide +kernel
theorem dX7_readAssert_0 : decode cX7_readAssert 0 = .ok (.aload_n 0, 1) := by decide +kernel
theorem dX7_readAssert_1 : decode cX7_readAssert 1 = .ok (.invokevirtual 98, 3) := by decide +kernel
theorem dX7_readAssert_4 : decode cX7_readAssert 4 = .ok (.aload_n 0, 1) := by decide +kernel
theorem dX7_readAssert_5 : decode cX7_readAssert 5 = .ok (.getfield 244, 3) := by decide +kernel
theorem dX7_readAssert_8 : decode cX7_readAssert 8 = .ok (.istore_n 3, 1) := by decide +kernel
theorem dX7_readAssert_9 : decode cX7_readAssert 9 = .ok (.aload_n 1, 1) := by decide +kernel
theorem dX7_readAssert_10 : decode cX7_readAssert 10 = .ok (.aload_n 0, 1) := by decide +kernel
theorem dX7_readAssert_11 : decode cX7_readAssert 11 = .ok (.iload_n 2, 1) := by decide +kernel
theorem dX7_readAssert_12 : decode cX7_readAssert 12 = .ok (.invokevirtual 247, 3) := by decide +kernel
theorem dX7_readAssert_15 : decode cX7_readAssert 15 = .ok (.putfield 250, 3) := by decide +kernel
theorem dX7_readAssert_18 : decode cX7_readAssert 18 = .ok (.aload_n 1, 1) := by decide +kernel
theorem dX7_readAssert_19 : decode cX7_readAssert 19 = .ok (.aload_n 1, 1) := by decide +kernel
theorem dX7_readAssert_20 : decode cX7_readAssert 20 = .ok (.getfield 250, 3) := by decide +kernel
theorem dX7_readAssert_23 : decode cX7_readAssert 23 = .ok (.putfield 199, 3) := by decide +kernel
theorem dX7_readAssert_26 : decode cX7_readAssert 26 = .ok (.aload_n 0, 1) := by decide +kernel
theorem dX7_readAssert_27 : decode cX7_readAssert 27 = .ok (.bipush 59, 2) := by decide +kernel
theorem dX7_readAssert_29 : decode cX7_readAssert 29 = .ok (.invokevirtual 109, 3) := by decide +kernel
theorem dX7_readAssert_32 : decode cX7_readAssert 32 = .ok (.aload_n 1, 1) := by decide +kernel
theorem dX7_readAssert_33 : decode cX7_readAssert 33 = .ok (.aload_n 0, 1) := by decide +kernel
theorem dX7_readAssert_34 : decode cX7_readAssert 34 = .ok (.iload_n 2, 1) := by decide +kernel
theorem dX7_readAssert_35 : decode cX7_readAssert 35 = .ok (.iconst 1, 1) := by decide +kernel
theorem dX7_readAssert_36 : decode cX7_readAssert 36 = .ok (.iadd, 1) := by decide +kernel
theorem dX7_readAssert_37 : decode cX7_readAssert 37 = .ok (.invokevirtual 70, 3) := by decide +kernel
theorem dX7_readAssert_40 : decode cX7_readAssert 40 = .ok (.putfield 212, 3) := by decide +kernel
theorem dX7_readAssert_43 : decode cX7_readAssert 43 = .ok (.aload_n 0, 1) := by decide +kernel
theorem dX7_readAssert_44 : decode cX7_readAssert 44 = .ok (.iload_n 3, 1) := by decide +kernel
theorem dX7_readAssert_45 : decode cX7_readAssert 45 = .ok (.putfield 244, 3) := by decide +kernel
theorem dX7_readAssert_48 : decode cX7_readAssert 48 = .ok (.return_, 1) := by decide +kernel
theorem dX7_readIndex_0 : decode cX7_readIndex 0 = .ok (.aload_n 1, 1) := by decide +kernel
theorem dX7_readIndex_1 : decode cX7_readIndex 1 = .ok (.aload_n 0, 1) := by decide +kernel
theorem dX7_readIndex_2 : decode cX7_readIndex 2 = .ok (.invokevirtual 95, 3) := by decide +kernel
theorem dX7_readIndex_5 : decode cX7_readIndex 5 = .ok (.putfield 202, 3) := by decide +kernel
theorem dX7_readIndex_8 : decode cX7_readIndex 8 = .ok (.aload_n 1, 1) := by decide +kernel
theorem dX7_readIndex_9 : decode cX7_readIndex 9 = .ok (.aload_n 0, 1) := by decide +kernel
theorem dX7_readIndex_10 : decode cX7_readIndex 10 = .ok (.invokevirtual 205, 3) := by decide +kernel
theorem dX7_readIndex_13 : decode cX7_readIndex 13 = .ok (.putfield 208, 3) := by decide +kernel
theorem dX7_readIndex_16 : decode cX7_readIndex 16 = .ok (.aload_n 1, 1) := by decide +kernel
theorem dX7_readIndex_17 : decode cX7_readIndex 17 = .ok (.aload_n 0, 1) := by decide +kernel
theorem dX7_readIndex_18 : decode cX7_readIndex 18 = .ok (.invokevirtual 95, 3) := by decide +kernel
theorem dX7_readIndex_21 : decode cX7_readIndex 21 = .ok (.putfield 258, 3) := by decide +kernel
theorem dX7_readIndex_24 : decode cX7_readIndex 24 = .ok (.aload_n 0, 1) := by decide +kernel
theorem dX7_readIndex_25 : decode cX7_readIndex 25 = .ok (.bipush 91, 2) := by decide +kernel
theorem dX7_readIndex_27 : decode cX7_readIndex 27 = .ok (.invokevirtual 109, 3) := by decide +kernel
theorem dX7_readIndex_30 : decode cX7_readIndex 30 = .ok (.aload_n 1, 1) := by decide +kernel
theorem dX7_readIndex_31 : decode cX7_readIndex 31 = .ok (.aload_n 0, 1) := by decide +kernel
theorem dX7_readIndex_32 : decode cX7_readIndex 32 = .ok (.invokevirtual 185, 3) := by decide +kernel
theorem dX7_readIndex_35 : decode cX7_readIndex 35 = .ok (.putfield 189, 3) := by decide +kernel
theorem dX7_readIndex_38 : decode cX7_readIndex 38 = .ok (.aload_n 0, 1) := by decide +kernel
theorem dX7_readIndex_39 : decode cX7_readIndex 39 = .ok (.bipush 93, 2) := by decide +kernel
theorem dX7_readIndex_41 : decode cX7_readIndex 41 = .ok (.invokevirtual 109, 3) := by decide +kernel
theorem dX7_readIndex_44 : decode cX7_readIndex 44 = .ok (.new 261, 3) := by decide +kernel
theorem dX7_readIndex_47 : decode cX7_readIndex 47 = .ok (.dup, 1) := by decide +kernel
theorem dX7_readIndex_48 : decode cX7_readIndex 48 = .ok (.invokespecial 263, 3) := by decide +kernel
theorem dX7_readIndex_51 : decode cX7_readIndex 51 = .ok (.astore_n 2, 1) := by decide +kernel
theorem dX7_readIndex_52 : decode cX7_readIndex 52 = .ok (.aload_n 2, 1) := by decide +kernel
theorem dX7_readIndex_53 : decode cX7_readIndex 53 = .ok (.aload_n 1, 1) := by decide +kernel
theorem dX7_readIndex_54 : decode cX7_readIndex 54 = .ok (.getfield 189, 3) := by decide +kernel
theorem dX7_readIndex_57 : decode cX7_readIndex 57 = .ok (.getfield 192, 3) := by decide +kernel
theorem dX7_readIndex_60 : decode cX7_readIndex 60 = .ok (.iconst 1, 1) := by decide +kernel
theorem dX7_readIndex_61 : decode cX7_readIndex 61 = .ok (.invokevirtual 264, 3) := by decide +kernel
theorem dX7_readIndex_64 : decode cX7_readIndex 64 = .ok (.aload_n 2, 1) := by decide +kernel
theorem dX7_readIndex_65 : decode cX7_readIndex 65 = .ok (.aload_n 1, 1) := by decide +kernel
theorem dX7_readIndex_66 : decode cX7_readIndex 66 = .ok (.getfield 208, 3) := by decide +kernel
theorem dX7_readIndex_69 : decode cX7_readIndex 69 = .ok (.iconst (-1), 1) := by decide +kernel
theorem dX7_readIndex_70 : decode cX7_readIndex 70 = .ok (.invokevirtual 268, 3) := by decide +kernel
theorem dX7_readIndex_73 : decode cX7_readIndex 73 = .ok (.aload_n 1, 1) := by decide +kernel
theorem dX7_readIndex_74 : decode cX7_readIndex 74 = .ok (.aload_n 0, 1) := by decide +kernel
theorem dX7_readIndex_75 : decode cX7_readIndex 75 = .ok (.sipush 302, 3) := by decide +kernel
theorem dX7_readIndex_78 : decode cX7_readIndex 78 = .ok (.invokevirtual 163, 3) := by decide +kernel
theorem dX7_readIndex_81 : decode cX7_readIndex 81 = .ok (.putfield 199, 3) := by decide +kernel
theorem dX7_readIndex_84 : decode cX7_readIndex 84 = .ok (.aload_n 1, 1) := by decide +kernel
theorem dX7_readIndex_85 : decode cX7_readIndex 85 = .ok (.getfield 199, 3) := by decide +kernel
theorem dX7_readIndex_88 : decode cX7_readIndex 88 = .ok (.new 17, 3) := by decide +kernel
theorem dX7_readIndex_91 : decode cX7_readIndex 91 = .ok (.dup, 1) := by decide +kernel
theorem dX7_readIndex_92 : decode cX7_readIndex 92 = .ok (.invokespecial 19, 3) := by decide +kernel
theorem dX7_readIndex_95 : decode cX7_readIndex 95 = .ok (.putfield 271, 3) := by decide +kernel
theorem dX7_readIndex_98 : decode cX7_readIndex 98 = .ok (.aload_n 1, 1) := by decide +kernel
theorem dX7_readIndex_99 : decode cX7_readIndex 99 = .ok (.getfield 199, 3) := by decide +kernel
theorem dX7_readIndex_102 : decode cX7_readIndex 102 = .ok (.getfield 271, 3) := by decide +kernel
theorem dX7_readIndex_105 : decode cX7_readIndex 105 = .ok (.aload_n 0, 1) := by decide +kernel
theorem dX7_readIndex_106 : decode cX7_readIndex 106 = .ok (.aload_n 1, 1) := by decide +kernel
theorem dX7_readIndex_107 : decode cX7_readIndex 107 = .ok (.getfield 189, 3) := by decide +kernel
theorem dX7_readIndex_110 : decode cX7_readIndex 110 = .ok (.getfield 192, 3) := by decide +kernel
theorem dX7_readIndex_113 : decode cX7_readIndex 113 = .ok (.sipush 301, 3) := by decide +kernel
theorem dX7_readIndex_116 : decode cX7_readIndex 116 = .ok (.invokevirtual 195, 3) := by decide +kernel
theorem dX7_readIndex_119 : decode cX7_readIndex 119 = .ok (.invokevirtual 151, 3) := by decide +kernel
theorem dX7_readIndex_122 : decode cX7_readIndex 122 = .ok (.pop, 1) := by decide +kernel
theorem dX7_readIndex_123 : decode cX7_readIndex 123 = .ok (.aload_n 1, 1) := by decide +kernel
theorem dX7_readIndex_124 : decode cX7_readIndex 124 = .ok (.getfield 199, 3) := by decide +kernel
theorem dX7_readIndex_127 : decode cX7_readIndex 127 = .ok (.getfield 271, 3) := by decide +kernel
theorem dX7_readIndex_130 : decode cX7_readIndex 130 = .ok (.aload_n 0, 1) := by decide +kernel
theorem dX7_readIndex_131 : decode cX7_readIndex 131 = .ok (.aload_n 2, 1) := by decide +kernel
theorem dX7_readIndex_132 : decode cX7_readIndex 132 = .ok (.bipush 60, 2) := by decide +kernel
theorem dX7_readIndex_134 : decode cX7_readIndex 134 = .ok (.invokevirtual 195, 3) := by decide +kernel
theorem dX7_readIndex_137 : decode cX7_readIndex 137 = .ok (.invokevirtual 151, 3) := by decide +kernel
theorem dX7_readIndex_140 : decode cX7_readIndex 140 = .ok (.pop, 1) := by decide +kernel
theorem dX7_readIndex_141 : decode cX7_readIndex 141 = .ok (.return_, 1) := by decide +kernel
theorem dX7_readMatch_0 : decode cX7_readMatch 0 = .ok (.aload_n 0, 1) := by decide +kernel
theorem dX7_readMatch_1 : decode cX7_readMatch 1 = .ok (.invokevirtual 98, 3) := by decide +kernel
theorem dX7_readMatch_4 : decode cX7_readMatch 4 = .ok (.aload_n 1, 1) := by decide +kernel
theorem dX7_readMatch_5 : decode cX7_readMatch 5 = .ok (.aload_n 0, 1) := by decide +kernel
theorem dX7_readMatch_6 : decode cX7_readMatch 6 = .ok (.invokevirtual 95, 3) := by decide +kernel
theorem dX7_readMatch_9 : decode cX7_readMatch 9 = .ok (.putfield 202, 3) := by decide +kernel
theorem dX7_readMatch_12 : decode cX7_readMatch 12 = .ok (.aload_n 1, 1) := by decide +kernel
theorem dX7_readMatch_13 : decode cX7_readMatch 13 = .ok (.aload_n 0, 1) := by decide +kernel
theorem dX7_readMatch_14 : decode cX7_readMatch 14 = .ok (.invokevirtual 205, 3) := by decide +kernel
theorem dX7_readMatch_17 : decode cX7_readMatch 17 = .ok (.putfield 208, 3) := by decide +kernel
theorem dX7_readMatch_20 : decode cX7_readMatch 20 = .ok (.aload_n 1, 1) := by decide +kernel
theorem dX7_readMatch_21 : decode cX7_readMatch 21 = .ok (.aload_n 0, 1) := by decide +kernel
theorem dX7_readMatch_22 : decode cX7_readMatch 22 = .ok (.aload_n 1, 1) := by decide +kernel
theorem dX7_readMatch_23 : decode cX7_readMatch 23 = .ok (.getfield 208, 3) := by decide +kernel
theorem dX7_readMatch_26 : decode cX7_readMatch 26 = .ok (.iconst 1, 1) := by decide +kernel
theorem dX7_readMatch_27 : decode cX7_readMatch 27 = .ok (.lconst 0, 1) := by decide +kernel
theorem dX7_readMatch_28 : decode cX7_readMatch 28 = .ok (.invokestatic 274, 3) := by decide +kernel
theorem dX7_readMatch_31 : decode cX7_readMatch 31 = .ok (.sipush 300, 3) := by decide +kernel
theorem dX7_readMatch_34 : decode cX7_readMatch 34 = .ok (.invokevirtual 195, 3) := by decide +kernel
theorem dX7_readMatch_37 : decode cX7_readMatch 37 = .ok (.putfield 250, 3) := by decide +kernel
theorem dX7_readMatch_40 : decode cX7_readMatch 40 = .ok (.aload_n 0, 1) := by decide +kernel
theorem dX7_readMatch_41 : decode cX7_readMatch 41 = .ok (.sipush 225, 3) := by decide +kernel
theorem dX7_readMatch_44 : decode cX7_readMatch 44 = .ok (.invokevirtual 109, 3) := by decide +kernel
theorem dX7_readMatch_47 : decode cX7_readMatch 47 = .ok (.aload_n 0, 1) := by decide +kernel
theorem dX7_readMatch_48 : decode cX7_readMatch 48 = .ok (.sipush 216, 3) := by decide +kernel
theorem dX7_readMatch_51 : decode cX7_readMatch 51 = .ok (.invokevirtual 109, 3) := by decide +kernel
theorem dX7_readMatch_54 : decode cX7_readMatch 54 = .ok (.aload_n 0, 1) := by decide +kernel
theorem dX7_readMatch_55 : decode cX7_readMatch 55 = .ok (.sipush 304, 3) := by decide +kernel
theorem dX7_readMatch_58 : decode cX7_readMatch 58 = .ok (.invokevirtual 109, 3) := by decide +kernel
theorem dX7_readMatch_61 : decode cX7_readMatch 61 = .ok (.aload_n 1, 1) := by decide +kernel
theorem dX7_readMatch_62 : decode cX7_readMatch 62 = .ok (.aload_n 0, 1) := by decide +kernel
theorem dX7_readMatch_63 : decode cX7_readMatch 63 = .ok (.iload_n 2, 1) := by decide +kernel
theorem dX7_readMatch_64 : decode cX7_readMatch 64 = .ok (.iconst 1, 1) := by decide +kernel
theorem dX7_readMatch_65 : decode cX7_readMatch 65 = .ok (.iadd, 1) := by decide +kernel
theorem dX7_readMatch_66 : decode cX7_readMatch 66 = .ok (.invokevirtual 70, 3) := by decide +kernel
theorem dX7_readMatch_69 : decode cX7_readMatch 69 = .ok (.putfield 212, 3) := by decide +kernel
theorem dX7_readMatch_72 : decode cX7_readMatch 72 = .ok (.aload_n 0, 1) := by decide +kernel
theorem dX7_readMatch_73 : decode cX7_readMatch 73 = .ok (.bipush 59, 2) := by decide +kernel
theorem dX7_readMatch_75 : decode cX7_readMatch 75 = .ok (.invokevirtual 109, 3) := by decide +kernel
theorem dX7_readMatch_78 : decode cX7_readMatch 78 = .ok (.aload_n 1, 1) := by decide +kernel
theorem dX7_readMatch_79 : decode cX7_readMatch 79 = .ok (.new 17, 3) := by decide +kernel
theorem dX7_readMatch_82 : decode cX7_readMatch 82 = .ok (.dup, 1) := by decide +kernel
theorem dX7_readMatch_83 : decode cX7_readMatch 83 = .ok (.invokespecial 19, 3) := by decide +kernel
theorem dX7_readMatch_86 : decode cX7_readMatch 86 = .ok (.putfield 235, 3) := by decide +kernel
theorem dX7_readMatch_89 : decode cX7_readMatch 89 = .ok (.aload_n 0, 1) := by decide +kernel
theorem dX7_readMatch_90 : decode cX7_readMatch 90 = .ok (.aload_n 1, 1) := by decide +kernel
theorem dX7_readMatch_91 : decode cX7_readMatch 91 = .ok (.invokevirtual 232, 3) := by decide +kernel
theorem dX7_readMatch_94 : decode cX7_readMatch 94 = .ok (.aload_n 0, 1) := by decide +kernel
theorem dX7_readMatch_95 : decode cX7_readMatch 95 = .ok (.aload_n 1, 1) := by decide +kernel
theorem dX7_readMatch_96 : decode cX7_readMatch 96 = .ok (.invokevirtual 232, 3) := by decide +kernel
theorem dX7_readMatch_99 : decode cX7_readMatch 99 = .ok (.aload_n 0, 1) := by decide +kernel
theorem dX7_readMatch_100 : decode cX7_readMatch 100 = .ok (.sipush 304, 3) := by decide +kernel
theorem dX7_readMatch_103 : decode cX7_readMatch 103 = .ok (.invokevirtual 109, 3) := by decide +kernel
theorem dX7_readMatch_106 : decode cX7_readMatch 106 = .ok (.aload_n 1, 1) := by decide +kernel
theorem dX7_readMatch_107 : decode cX7_readMatch 107 = .ok (.aload_n 0, 1) := by decide +kernel
theorem dX7_readMatch_108 : decode cX7_readMatch 108 = .ok (.iload_n 2, 1) := by decide +kernel
theorem dX7_readMatch_109 : decode cX7_readMatch 109 = .ok (.iconst 1, 1) := by decide +kernel
theorem dX7_readMatch_110 : decode cX7_readMatch 110 = .ok (.iadd, 1) := by decide +kernel
theorem dX7_readMatch_111 : decode cX7_readMatch 111 = .ok (.invokevirtual 70, 3) := by decide +kernel
theorem dX7_readMatch_114 : decode cX7_readMatch 114 = .ok (.putfield 223, 3) := by decide +kernel
theorem dX7_readMatch_117 : decode cX7_readMatch 117 = .ok (.aload_n 0, 1) := by decide +kernel
theorem dX7_readMatch_118 : decode cX7_readMatch 118 = .ok (.dup, 1) := by decide +kernel
theorem dX7_readMatch_119 : decode cX7_readMatch 119 = .ok (.getfield 103, 3) := by decide +kernel
theorem dX7_readMatch_122 : decode cX7_readMatch 122 = .ok (.aload_n 1, 1) := by decide +kernel
theorem dX7_readMatch_123 : decode cX7_readMatch 123 = .ok (.getfield 235, 3) := by decide +kernel
theorem dX7_readMatch_126 : decode cX7_readMatch 126 = .ok (.invokevirtual 238, 3) := by decide +kernel
theorem dX7_readMatch_129 : decode cX7_readMatch 129 = .ok (.isub, 1) := by decide +kernel
theorem dX7_readMatch_130 : decode cX7_readMatch 130 = .ok (.putfield 103, 3) := by decide +kernel
theorem dX7_readMatch_133 : decode cX7_readMatch 133 = .ok (.return_, 1) := by decide +kernel
theorem dX7_readOpen_8 : decode cX7_readOpen 8 = .ok (.aload_n 0, 1) := by decide +kernel
theorem dX7_readOpen_9 : decode cX7_readOpen 9 = .ok (.getfield 50, 3) := by decide +kernel
theorem dX7_readOpen_12 : decode cX7_readOpen 12 = .ok (.getfield 81, 3) := by decide +kernel
theorem dX7_readOpen_15 : decode cX7_readOpen 15 = .ok (.aload_n 0, 1) := by decide +kernel
theorem dX7_readOpen_16 : decode cX7_readOpen 16 = .ok (.getfield 86, 3) := by decide +kernel
theorem dX7_readOpen_19 : decode cX7_readOpen 19 = .ok (.iconst 1, 1) := by decide +kernel
theorem dX7_readOpen_20 : decode cX7_readOpen 20 = .ok (.iadd, 1) := by decide +kernel
theorem dX7_readOpen_21 : decode cX7_readOpen 21 = .ok (.iaload, 1) := by decide +kernel
theorem dX7_readOpen_22 : decode cX7_readOpen 22 = .ok (.goto 4, 3) := by decide +kernel
theorem dX7_readOpen_33 : decode cX7_readOpen 33 = .ok (.aload_n 0, 1) := by decide +kernel
theorem dX7_readOpen_34 : decode cX7_readOpen 34 = .ok (.bipush 91, 2) := by decide +kernel
theorem dX7_readOpen_36 : decode cX7_readOpen 36 = .ok (.invokevirtual 163, 3) := by decide +kernel
theorem dX7_readOpen_39 : decode cX7_readOpen 39 = .ok (.astore_n 3, 1) := by decide +kernel
theorem dX7_readOpen_40 : decode cX7_readOpen 40 = .ok (.aload_n 0, 1) := by decide +kernel
theorem dX7_readOpen_41 : decode cX7_readOpen 41 = .ok (.aload_n 3, 1) := by decide +kernel
theorem dX7_readOpen_42 : decode cX7_readOpen 42 = .ok (.invokevirtual 252, 3) := by decide +kernel
theorem dX7_readOpen_45 : decode cX7_readOpen 45 = .ok (.aload_n 3, 1) := by decide +kernel
theorem dX7_readOpen_46 : decode cX7_readOpen 46 = .ok (.areturn, 1) := by decide +kernel
theorem dX7_readOpen_54 : decode cX7_readOpen 54 = .ok (.aload_n 0, 1) := by decide +kernel
theorem dX7_readOpen_55 : decode cX7_readOpen 55 = .ok (.iload_n 1, 1) := by decide +kernel
theorem dX7_readOpen_56 : decode cX7_readOpen 56 = .ok (.invokevirtual 281, 3) := by decide +kernel
theorem dX7_readOpen_59 : decode cX7_readOpen 59 = .ok (.areturn, 1) := by decide +kernel
theorem dX7_readOpen_94 : decode cX7_readOpen 94 = .ok (.new 101, 3) := by decide +kernel
theorem dX7_readOpen_97 : decode cX7_readOpen 97 = .ok (.dup, 1) := by decide +kernel
theorem dX7_readOpen_98 : decode cX7_readOpen 98 = .ok (.aload_n 0, 1) := by decide +kernel
theorem dX7_readOpen_99 : decode cX7_readOpen 99 = .ok (.invokevirtual 57, 3) := by decide +kernel
theorem dX7_readOpen_102 : decode cX7_readOpen 102 = .ok (.aload_n 3, 1) := by decide +kernel
theorem dX7_readOpen_103 : decode cX7_readOpen 103 = .ok (.getfield 284, 3) := by decide +kernel
theorem dX7_readOpen_106 : decode cX7_readOpen 106 = .ok (.aload_n 0, 1) := by decide +kernel
theorem dX7_readOpen_107 : decode cX7_readOpen 107 = .ok (.getfield 103, 3) := by decide +kernel
theorem dX7_readOpen_110 : decode cX7_readOpen 110 = .ok (.invokespecial 106, 3) := by decide +kernel
theorem dX7_readOpen_113 : decode cX7_readOpen 113 = .ok (.astore 4, 2) := by decide +kernel
theorem dX7_readOpen_115 : decode cX7_readOpen 115 = .ok (.aload 4, 2) := by decide +kernel
theorem dX7_readOpen_117 : decode cX7_readOpen 117 = .ok (.aload_n 0, 1) := by decide +kernel
theorem dX7_readOpen_118 : decode cX7_readOpen 118 = .ok (.invokevirtual 95, 3) := by decide +kernel
theorem dX7_readOpen_121 : decode cX7_readOpen 121 = .ok (.putfield 258, 3) := by decide +kernel
theorem dX7_readOpen_124 : decode cX7_readOpen 124 = .ok (.aload_n 0, 1) := by decide +kernel
theorem dX7_readOpen_125 : decode cX7_readOpen 125 = .ok (.invokevirtual 98, 3) := by decide +kernel
theorem dX7_readOpen_128 : decode cX7_readOpen 128 = .ok (.aload 4, 2) := by decide +kernel
theorem dX7_readOpen_130 : decode cX7_readOpen 130 = .ok (.aload_n 3, 1) := by decide +kernel
theorem dX7_readOpen_131 : decode cX7_readOpen 131 = .ok (.putfield 189, 3) := by decide +kernel
theorem dX7_readOpen_134 : decode cX7_readOpen 134 = .ok (.aload 4, 2) := by decide +kernel
theorem dX7_readOpen_136 : decode cX7_readOpen 136 = .ok (.aload_n 0, 1) := by decide +kernel
theorem dX7_readOpen_137 : decode cX7_readOpen 137 = .ok (.invokevirtual 185, 3) := by decide +kernel
theorem dX7_readOpen_140 : decode cX7_readOpen 140 = .ok (.putfield 255, 3) := by decide +kernel
theorem dX7_readOpen_143 : decode cX7_readOpen 143 = .ok (.aload 4, 2) := by decide +kernel
theorem dX7_readOpen_145 : decode cX7_readOpen 145 = .ok (.aload 4, 2) := by decide +kernel
theorem dX7_readOpen_147 : decode cX7_readOpen 147 = .ok (.getfield 226, 3) := by decide +kernel
theorem dX7_readOpen_150 : decode cX7_readOpen 150 = .ok (.bipush 42, 2) := by decide +kernel
theorem dX7_readOpen_152 : decode cX7_readOpen 152 = .ok (.if_icmp .ne 7, 3) := by decide +kernel
theorem dX7_readOpen_155 : decode cX7_readOpen 155 = .ok (.aconst_null, 1) := by decide +kernel
theorem dX7_readOpen_156 : decode cX7_readOpen 156 = .ok (.goto 17, 3) := by decide +kernel
theorem dX7_readOpen_159 : decode cX7_readOpen 159 = .ok (.aload_n 0, 1) := by decide +kernel
theorem dX7_readOpen_160 : decode cX7_readOpen 160 = .ok (.aload 4, 2) := by decide +kernel
theorem dX7_readOpen_162 : decode cX7_readOpen 162 = .ok (.getfield 255, 3) := by decide +kernel
theorem dX7_readOpen_165 : decode cX7_readOpen 165 = .ok (.getfield 192, 3) := by decide +kernel
theorem dX7_readOpen_168 : decode cX7_readOpen 168 = .ok (.bipush 35, 2) := by decide +kernel
theorem dX7_readOpen_170 : decode cX7_readOpen 170 = .ok (.invokevirtual 195, 3) := by decide +kernel
theorem dX7_readOpen_173 : decode cX7_readOpen 173 = .ok (.putfield 199, 3) := by decide +kernel
theorem dX7_readOpen_176 : decode cX7_readOpen 176 = .ok (.aload 4, 2) := by decide +kernel
theorem dX7_readOpen_178 : decode cX7_readOpen 178 = .ok (.areturn, 1) := by decide +kernel
theorem dX7_readCall_0 : decode cX7_readCall 0 = .ok (.aload_n 0, 1) := by decide +kernel
theorem dX7_readCall_1 : decode cX7_readCall 1 = .ok (.sipush 401, 3) := by decide +kernel
theorem dX7_readCall_4 : decode cX7_readCall 4 = .ok (.invokevirtual 163, 3) := by decide +kernel
theorem dX7_readCall_7 : decode cX7_readCall 7 = .ok (.astore_n 2, 1) := by decide +kernel
theorem dX7_readCall_8 : decode cX7_readCall 8 = .ok (.aload_n 2, 1) := by decide +kernel
theorem dX7_readCall_9 : decode cX7_readCall 9 = .ok (.aload_n 0, 1) := by decide +kernel
theorem dX7_readCall_10 : decode cX7_readCall 10 = .ok (.invokevirtual 95, 3) := by decide +kernel
theorem dX7_readCall_13 : decode cX7_readCall 13 = .ok (.putfield 202, 3) := by decide +kernel
theorem dX7_readCall_16 : decode cX7_readCall 16 = .ok (.aload_n 2, 1) := by decide +kernel
theorem dX7_readCall_17 : decode cX7_readCall 17 = .ok (.aload_n 0, 1) := by decide +kernel
theorem dX7_readCall_18 : decode cX7_readCall 18 = .ok (.invokevirtual 205, 3) := by decide +kernel
theorem dX7_readCall_21 : decode cX7_readCall 21 = .ok (.putfield 208, 3) := by decide +kernel
theorem dX7_readCall_24 : decode cX7_readCall 24 = .ok (.aload_n 2, 1) := by decide +kernel
theorem dX7_readCall_25 : decode cX7_readCall 25 = .ok (.new 17, 3) := by decide +kernel
theorem dX7_readCall_28 : decode cX7_readCall 28 = .ok (.dup, 1) := by decide +kernel
theorem dX7_readCall_29 : decode cX7_readCall 29 = .ok (.invokespecial 19, 3) := by decide +kernel
theorem dX7_readCall_32 : decode cX7_readCall 32 = .ok (.putfield 271, 3) := by decide +kernel
theorem dX7_readCall_35 : decode cX7_readCall 35 = .ok (.iconst 0, 1) := by decide +kernel
theorem dX7_readCall_36 : decode cX7_readCall 36 = .ok (.istore_n 3, 1) := by decide +kernel
theorem dX7_readCall_37 : decode cX7_readCall 37 = .ok (.iload_n 3, 1) := by decide +kernel
theorem dX7_readCall_38 : decode cX7_readCall 38 = .ok (.iconst 4, 1) := by decide +kernel
theorem dX7_readCall_39 : decode cX7_readCall 39 = .ok (.if_icmp .ge 32, 3) := by decide +kernel
theorem dX7_readCall_42 : decode cX7_readCall 42 = .ok (.aload_n 0, 1) := by decide +kernel
theorem dX7_readCall_43 : decode cX7_readCall 43 = .ok (.invokevirtual 57, 3) := by decide +kernel
theorem dX7_readCall_46 : decode cX7_readCall 46 = .ok (.invokestatic 278, 3) := by decide +kernel
theorem dX7_readCall_49 : decode cX7_readCall 49 = .ok (.ifCond .eq 22, 3) := by decide +kernel
theorem dX7_readCall_52 : decode cX7_readCall 52 = .ok (.aload_n 2, 1) := by decide +kernel
theorem dX7_readCall_53 : decode cX7_readCall 53 = .ok (.getfield 271, 3) := by decide +kernel
theorem dX7_readCall_56 : decode cX7_readCall 56 = .ok (.aload_n 0, 1) := by decide +kernel
theorem dX7_readCall_57 : decode cX7_readCall 57 = .ok (.iload_n 1, 1) := by decide +kernel
theorem dX7_readCall_58 : decode cX7_readCall 58 = .ok (.invokevirtual 287, 3) := by decide +kernel
theorem dX7_readCall_61 : decode cX7_readCall 61 = .ok (.invokevirtual 151, 3) := by decide +kernel
theorem dX7_readCall_64 : decode cX7_readCall 64 = .ok (.pop, 1) := by decide +kernel
theorem dX7_readCall_65 : decode cX7_readCall 65 = .ok (.iinc 3 1, 3) := by decide +kernel
theorem dX7_readCall_68 : decode cX7_readCall 68 = .ok (.goto (-31), 3) := by decide +kernel
theorem dX7_readCall_71 : decode cX7_readCall 71 = .ok (.aload_n 2, 1) := by decide +kernel
theorem dX7_readCall_72 : decode cX7_readCall 72 = .ok (.areturn, 1) := by decide +kernel
theorem dX7_argument_0 : decode cX7_argument 0 = .ok (.aload_n 0, 1) := by decide +kernel
theorem dX7_argument_1 : decode cX7_argument 1 = .ok (.invokevirtual 95, 3) := by decide +kernel
theorem dX7_argument_4 : decode cX7_argument 4 = .ok (.istore_n 2, 1) := by decide +kernel
theorem dX7_argument_5 : decode cX7_argument 5 = .ok (.aload_n 0, 1) := by decide +kernel
theorem dX7_argument_6 : decode cX7_argument 6 = .ok (.aload_n 0, 1) := by decide +kernel
theorem dX7_argument_7 : decode cX7_argument 7 = .ok (.invokevirtual 57, 3) := by decide +kernel
theorem dX7_argument_10 : decode cX7_argument 10 = .ok (.invokevirtual 163, 3) := by decide +kernel
theorem dX7_argument_13 : decode cX7_argument 13 = .ok (.astore_n 3, 1) := by decide +kernel
theorem dX7_argument_14 : decode cX7_argument 14 = .ok (.aload_n 0, 1) := by decide +kernel
theorem dX7_argument_15 : decode cX7_argument 15 = .ok (.invokevirtual 57, 3) := by decide +kernel
theorem dX7_argument_18 : decode cX7_argument 18 = .ok (.sipush 223, 3) := by decide +kernel
theorem dX7_argument_21 : decode cX7_argument 21 = .ok (.if_icmp .eq 13, 3) := by decide +kernel
theorem dX7_argument_24 : decode cX7_argument 24 = .ok (.aload_n 0, 1) := by decide +kernel
theorem dX7_argument_25 : decode cX7_argument 25 = .ok (.invokevirtual 57, 3) := by decide +kernel
theorem dX7_argument_28 : decode cX7_argument 28 = .ok (.sipush 205, 3) := by decide +kernel
theorem dX7_argument_31 : decode cX7_argument 31 = .ok (.if_icmp .ne 10, 3) := by decide +kernel
theorem dX7_argument_34 : decode cX7_argument 34 = .ok (.aload_n 0, 1) := by decide +kernel
theorem dX7_argument_35 : decode cX7_argument 35 = .ok (.invokevirtual 98, 3) := by decide +kernel
theorem dX7_argument_38 : decode cX7_argument 38 = .ok (.goto 77, 3) := by decide +kernel
theorem dX7_argument_41 : decode cX7_argument 41 = .ok (.aload_n 0, 1) := by decide +kernel
theorem dX7_argument_42 : decode cX7_argument 42 = .ok (.invokevirtual 57, 3) := by decide +kernel
theorem dX7_argument_45 : decode cX7_argument 45 = .ok (.bipush 40, 2) := by decide +kernel
theorem dX7_argument_47 : decode cX7_argument 47 = .ok (.if_icmp .eq 12, 3) := by decide +kernel
theorem dX7_argument_50 : decode cX7_argument 50 = .ok (.aload_n 0, 1) := by decide +kernel
theorem dX7_argument_51 : decode cX7_argument 51 = .ok (.iconst 1, 1) := by decide +kernel
theorem dX7_argument_52 : decode cX7_argument 52 = .ok (.invokevirtual 290, 3) := by decide +kernel
theorem dX7_argument_55 : decode cX7_argument 55 = .ok (.astore_n 3, 1) := by decide +kernel
theorem dX7_argument_56 : decode cX7_argument 56 = .ok (.goto 59, 3) := by decide +kernel
theorem dX7_argument_59 : decode cX7_argument 59 = .ok (.aload_n 0, 1) := by decide +kernel
theorem dX7_argument_60 : decode cX7_argument 60 = .ok (.invokevirtual 98, 3) := by decide +kernel
theorem dX7_argument_63 : decode cX7_argument 63 = .ok (.aload_n 0, 1) := by decide +kernel
theorem dX7_argument_64 : decode cX7_argument 64 = .ok (.invokevirtual 57, 3) := by decide +kernel
theorem dX7_argument_67 : decode cX7_argument 67 = .ok (.sipush 206, 3) := by decide +kernel
theorem dX7_argument_70 : decode cX7_argument 70 = .ok (.if_icmp .ne 14, 3) := by decide +kernel
theorem dX7_argument_73 : decode cX7_argument 73 = .ok (.aload_n 0, 1) := by decide +kernel
theorem dX7_argument_74 : decode cX7_argument 74 = .ok (.iload_n 1, 1) := by decide +kernel
theorem dX7_argument_75 : decode cX7_argument 75 = .ok (.iconst 1, 1) := by decide +kernel
theorem dX7_argument_76 : decode cX7_argument 76 = .ok (.iadd, 1) := by decide +kernel
theorem dX7_argument_77 : decode cX7_argument 77 = .ok (.invokevirtual 70, 3) := by decide +kernel
theorem dX7_argument_80 : decode cX7_argument 80 = .ok (.astore_n 3, 1) := by decide +kernel
theorem dX7_argument_81 : decode cX7_argument 81 = .ok (.goto 28, 3) := by decide +kernel
theorem dX7_argument_84 : decode cX7_argument 84 = .ok (.aload_n 0, 1) := by decide +kernel
theorem dX7_argument_85 : decode cX7_argument 85 = .ok (.invokevirtual 185, 3) := by decide +kernel
theorem dX7_argument_88 : decode cX7_argument 88 = .ok (.astore_n 3, 1) := by decide +kernel
theorem dX7_argument_89 : decode cX7_argument 89 = .ok (.aload_n 3, 1) := by decide +kernel
theorem dX7_argument_90 : decode cX7_argument 90 = .ok (.iconst 0, 1) := by decide +kernel
theorem dX7_argument_91 : decode cX7_argument 91 = .ok (.putfield 292, 3) := by decide +kernel
theorem dX7_argument_94 : decode cX7_argument 94 = .ok (.aload_n 3, 1) := by decide +kernel
theorem dX7_argument_95 : decode cX7_argument 95 = .ok (.getfield 192, 3) := by decide +kernel
theorem dX7_argument_98 : decode cX7_argument 98 = .ok (.invokevirtual 295, 3) := by decide +kernel
theorem dX7_argument_101 : decode cX7_argument 101 = .ok (.ifCond .ne 8, 3) := by decide +kernel
theorem dX7_argument_104 : decode cX7_argument 104 = .ok (.aload_n 0, 1) := by decide +kernel
theorem dX7_argument_105 : decode cX7_argument 105 = .ok (.iload_n 2, 1) := by decide +kernel
theorem dX7_argument_106 : decode cX7_argument 106 = .ok (.invokevirtual 299, 3) := by decide +kernel
theorem dX7_argument_109 : decode cX7_argument 109 = .ok (.aload_n 0, 1) := by decide +kernel
theorem dX7_argument_110 : decode cX7_argument 110 = .ok (.bipush 41, 2) := by decide +kernel
theorem dX7_argument_112 : decode cX7_argument 112 = .ok (.invokevirtual 109, 3) := by decide +kernel
theorem dX7_argument_115 : decode cX7_argument 115 = .ok (.aload_n 3, 1) := by decide +kernel
theorem dX7_argument_116 : decode cX7_argument 116 = .ok (.iload_n 2, 1) := by decide +kernel
theorem dX7_argument_117 : decode cX7_argument 117 = .ok (.putfield 258, 3) := by decide +kernel
theorem dX7_argument_120 : decode cX7_argument 120 = .ok (.aload_n 3, 1) := by decide +kernel
theorem dX7_argument_121 : decode cX7_argument 121 = .ok (.areturn, 1) := by decide +kernel
theorem dX7_test_0 : decode cX7_test 0 = .ok (.aload_n 0, 1) := by decide +kernel
theorem dX7_test_1 : decode cX7_test 1 = .ok (.invokevirtual 95, 3) := by decide +kernel
theorem dX7_test_4 : decode cX7_test 4 = .ok (.istore_n 2, 1) := by decide +kernel
theorem dX7_test_5 : decode cX7_test 5 = .ok (.aload_n 0, 1) := by decide +kernel
theorem dX7_test_6 : decode cX7_test 6 = .ok (.getfield 310, 3) := by decide +kernel
theorem dX7_test_9 : decode cX7_test 9 = .ok (.istore_n 3, 1) := by decide +kernel
theorem dX7_test_10 : decode cX7_test 10 = .ok (.aload_n 0, 1) := by decide +kernel
theorem dX7_test_11 : decode cX7_test 11 = .ok (.iload_n 1, 1) := by decide +kernel
theorem dX7_test_12 : decode cX7_test 12 = .ok (.invokevirtual 313, 3) := by decide +kernel
theorem dX7_test_15 : decode cX7_test 15 = .ok (.astore 4, 2) := by decide +kernel
theorem dX7_test_17 : decode cX7_test 17 = .ok (.aload_n 0, 1) := by decide +kernel
theorem dX7_test_18 : decode cX7_test 18 = .ok (.dup, 1) := by decide +kernel
theorem dX7_test_19 : decode cX7_test 19 = .ok (.getfield 244, 3) := by decide +kernel
theorem dX7_test_22 : decode cX7_test 22 = .ok (.aload_n 0, 1) := by decide +kernel
theorem dX7_test_23 : decode cX7_test 23 = .ok (.getfield 310, 3) := by decide +kernel
theorem dX7_test_26 : decode cX7_test 26 = .ok (.iload_n 3, 1) := by decide +kernel
theorem dX7_test_27 : decode cX7_test 27 = .ok (.isub, 1) := by decide +kernel
theorem dX7_test_28 : decode cX7_test 28 = .ok (.iadd, 1) := by decide +kernel
theorem dX7_test_29 : decode cX7_test 29 = .ok (.putfield 244, 3) := by decide +kernel
theorem dX7_test_32 : decode cX7_test 32 = .ok (.aload_n 0, 1) := by decide +kernel
theorem dX7_test_33 : decode cX7_test 33 = .ok (.getfield 244, 3) := by decide +kernel
theorem dX7_test_36 : decode cX7_test 36 = .ok (.bipush 6, 2) := by decide +kernel
theorem dX7_test_38 : decode cX7_test 38 = .ok (.if_icmp .le 8, 3) := by decide +kernel
theorem dX7_test_41 : decode cX7_test 41 = .ok (.aload_n 0, 1) := by decide +kernel
theorem dX7_test_42 : decode cX7_test 42 = .ok (.iload_n 2, 1) := by decide +kernel
theorem dX7_test_43 : decode cX7_test 43 = .ok (.invokevirtual 299, 3) := by decide +kernel
theorem dX7_test_46 : decode cX7_test 46 = .ok (.aload 4, 2) := by decide +kernel
theorem dX7_test_48 : decode cX7_test 48 = .ok (.areturn, 1) := by decide +kernel
theorem dX7_single_0 : decode cX7_single 0 = .ok (.aload_n 0, 1) := by decide +kernel
theorem dX7_single_1 : decode cX7_single 1 = .ok (.aload_n 0, 1) := by decide +kernel
theorem dX7_single_2 : decode cX7_single 2 = .ok (.invokevirtual 57, 3) := by decide +kernel
theorem dX7_single_5 : decode cX7_single 5 = .ok (.invokevirtual 163, 3) := by decide +kernel
theorem dX7_single_8 : decode cX7_single 8 = .ok (.astore_n 2, 1) := by decide +kernel
theorem dX7_single_9 : decode cX7_single 9 = .ok (.iload_n 1, 1) := by decide +kernel
theorem dX7_single_10 : decode cX7_single 10 = .ok (.bipush 30, 2) := by decide +kernel
theorem dX7_single_12 : decode cX7_single 12 = .ok (.if_icmp .le 9, 3) := by decide +kernel
theorem dX7_single_15 : decode cX7_single 15 = .ok (.aload_n 0, 1) := by decide +kernel
theorem dX7_single_16 : decode cX7_single 16 = .ok (.invokevirtual 78, 3) := by decide +kernel
theorem dX7_single_19 : decode cX7_single 19 = .ok (.aload_n 2, 1) := by decide +kernel
theorem dX7_single_20 : decode cX7_single 20 = .ok (.areturn, 1) := by decide +kernel
theorem dX7_single_21 : decode cX7_single 21 = .ok (.aload_n 0, 1) := by decide +kernel
theorem dX7_single_22 : decode cX7_single 22 = .ok (.invokevirtual 57, 3) := by decide +kernel
theorem dX7_single_25 : decode cX7_single 25 = .ok (.lookupswitch 96 #[(40, 60), (205, 80), (217, 43), (223, 80)], 43) := by decide +kernel
theorem dX7_single_68 : decode cX7_single 68 = .ok (.aload_n 0, 1) := by decide +kernel
theorem dX7_single_69 : decode cX7_single 69 = .ok (.invokevirtual 98, 3) := by decide +kernel
theorem dX7_single_72 : decode cX7_single 72 = .ok (.aload_n 2, 1) := by decide +kernel
theorem dX7_single_73 : decode cX7_single 73 = .ok (.aload_n 0, 1) := by decide +kernel
theorem dX7_single_74 : decode cX7_single 74 = .ok (.iload_n 1, 1) := by decide +kernel
theorem dX7_single_75 : decode cX7_single 75 = .ok (.iconst 1, 1) := by decide +kernel
theorem dX7_single_76 : decode cX7_single 76 = .ok (.iadd, 1) := by decide +kernel
theorem dX7_single_77 : decode cX7_single 77 = .ok (.invokevirtual 319, 3) := by decide +kernel
theorem dX7_single_80 : decode cX7_single 80 = .ok (.putfield 212, 3) := by decide +kernel
theorem dX7_single_83 : decode cX7_single 83 = .ok (.aload_n 2, 1) := by decide +kernel
theorem dX7_single_84 : decode cX7_single 84 = .ok (.areturn, 1) := by decide +kernel
theorem dX7_single_85 : decode cX7_single 85 = .ok (.aload_n 0, 1) := by decide +kernel
theorem dX7_single_86 : decode cX7_single 86 = .ok (.invokevirtual 98, 3) := by decide +kernel
theorem dX7_single_89 : decode cX7_single 89 = .ok (.aload_n 0, 1) := by decide +kernel
theorem dX7_single_90 : decode cX7_single 90 = .ok (.iload_n 1, 1) := by decide +kernel
theorem dX7_single_91 : decode cX7_single 91 = .ok (.iconst 1, 1) := by decide +kernel
theorem dX7_single_92 : decode cX7_single 92 = .ok (.iadd, 1) := by decide +kernel
theorem dX7_single_93 : decode cX7_single 93 = .ok (.invokevirtual 313, 3) := by decide +kernel
theorem dX7_single_96 : decode cX7_single 96 = .ok (.astore_n 2, 1) := by decide +kernel
theorem dX7_single_97 : decode cX7_single 97 = .ok (.aload_n 0, 1) := by decide +kernel
theorem dX7_single_98 : decode cX7_single 98 = .ok (.bipush 41, 2) := by decide +kernel
theorem dX7_single_100 : decode cX7_single 100 = .ok (.invokevirtual 109, 3) := by decide +kernel
theorem dX7_single_103 : decode cX7_single 103 = .ok (.aload_n 2, 1) := by decide +kernel
theorem dX7_single_104 : decode cX7_single 104 = .ok (.areturn, 1) := by decide +kernel
theorem dX7_single_105 : decode cX7_single 105 = .ok (.aload_n 0, 1) := by decide +kernel
theorem dX7_single_106 : decode cX7_single 106 = .ok (.invokevirtual 98, 3) := by decide +kernel
theorem dX7_single_109 : decode cX7_single 109 = .ok (.aload_n 0, 1) := by decide +kernel
theorem dX7_single_110 : decode cX7_single 110 = .ok (.dup, 1) := by decide +kernel
theorem dX7_single_111 : decode cX7_single 111 = .ok (.getfield 310, 3) := by decide +kernel
theorem dX7_single_114 : decode cX7_single 114 = .ok (.iconst 1, 1) := by decide +kernel
theorem dX7_single_115 : decode cX7_single 115 = .ok (.iadd, 1) := by decide +kernel
theorem dX7_single_116 : decode cX7_single 116 = .ok (.putfield 310, 3) := by decide +kernel
theorem dX7_single_119 : decode cX7_single 119 = .ok (.aload_n 2, 1) := by decide +kernel
theorem dX7_single_120 : decode cX7_single 120 = .ok (.areturn, 1) := by decide +kernel
theorem dX7_single_121 : decode cX7_single 121 = .ok (.aload_n 0, 1) := by decide +kernel
theorem dX7_single_122 : decode cX7_single 122 = .ok (.aload_n 2, 1) := by decide +kernel
theorem dX7_single_123 : decode cX7_single 123 = .ok (.invokevirtual 322, 3) := by decide +kernel
theorem dX7_single_126 : decode cX7_single 126 = .ok (.areturn, 1) := by decide +kernel
