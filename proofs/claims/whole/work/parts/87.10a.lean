theorem dX10_findAll_0 : decode cX10_findAll 0 = .ok (.iconst 0, 1) := by decide +kernel
theorem dX10_findAll_1 : decode cX10_findAll 1 = .ok (.istore_n 2, 1) := by decide +kernel
theorem dX10_findAll_2 : decode cX10_findAll 2 = .ok (.iload_n 2, 1) := by decide +kernel
theorem dX10_findAll_3 : decode cX10_findAll 3 = .ok (.aload_n 1, 1) := by decide +kernel
theorem dX10_findAll_4 : decode cX10_findAll 4 = .ok (.getfield 41, 3) := by decide +kernel
theorem dX10_findAll_7 : decode cX10_findAll 7 = .ok (.if_icmp .ge 51, 3) := by decide +kernel
theorem dX10_findAll_10 : decode cX10_findAll 10 = .ok (.iload_n 2, 1) := by decide +kernel
theorem dX10_findAll_11 : decode cX10_findAll 11 = .ok (.aload_n 1, 1) := by decide +kernel
theorem dX10_findAll_12 : decode cX10_findAll 12 = .ok (.getfield 46, 3) := by decide +kernel
theorem dX10_findAll_15 : decode cX10_findAll 15 = .ok (.invokevirtual 50, 3) := by decide +kernel
theorem dX10_findAll_18 : decode cX10_findAll 18 = .ok (.if_icmp .ge 40, 3) := by decide +kernel
theorem dX10_findAll_21 : decode cX10_findAll 21 = .ok (.aload_n 1, 1) := by decide +kernel
theorem dX10_findAll_22 : decode cX10_findAll 22 = .ok (.getfield 46, 3) := by decide +kernel
theorem dX10_findAll_25 : decode cX10_findAll 25 = .ok (.iload_n 2, 1) := by decide +kernel
theorem dX10_findAll_26 : decode cX10_findAll 26 = .ok (.invokevirtual 56, 3) := by decide +kernel
theorem dX10_findAll_29 : decode cX10_findAll 29 = .ok (.checkcast 60, 3) := by decide +kernel
theorem dX10_findAll_32 : decode cX10_findAll 32 = .ok (.aload_n 1, 1) := by decide +kernel
theorem dX10_findAll_33 : decode cX10_findAll 33 = .ok (.getfield 46, 3) := by decide +kernel
theorem dX10_findAll_36 : decode cX10_findAll 36 = .ok (.iload_n 2, 1) := by decide +kernel
theorem dX10_findAll_37 : decode cX10_findAll 37 = .ok (.invokevirtual 56, 3) := by decide +kernel
theorem dX10_findAll_40 : decode cX10_findAll 40 = .ok (.checkcast 60, 3) := by decide +kernel
theorem dX10_findAll_43 : decode cX10_findAll 43 = .ok (.getfield 62, 3) := by decide +kernel
theorem dX10_findAll_46 : decode cX10_findAll 46 = .ok (.invokestatic 65, 3) := by decide +kernel
theorem dX10_findAll_49 : decode cX10_findAll 49 = .ok (.putfield 68, 3) := by decide +kernel
theorem dX10_findAll_52 : decode cX10_findAll 52 = .ok (.iinc 2 1, 3) := by decide +kernel
theorem dX10_findAll_55 : decode cX10_findAll 55 = .ok (.goto (-53), 3) := by decide +kernel
theorem dX10_findAll_58 : decode cX10_findAll 58 = .ok (.aload_n 0, 1) := by decide +kernel
theorem dX10_findAll_59 : decode cX10_findAll 59 = .ok (.aload_n 1, 1) := by decide +kernel
theorem dX10_findAll_60 : decode cX10_findAll 60 = .ok (.getfield 71, 3) := by decide +kernel
theorem dX10_findAll_63 : decode cX10_findAll 63 = .ok (.invokevirtual 75, 3) := by decide +kernel
theorem dX10_findAll_66 : decode cX10_findAll 66 = .ok (.pop, 1) := by decide +kernel
theorem dX10_findAll_67 : decode cX10_findAll 67 = .ok (.aload_n 0, 1) := by decide +kernel
theorem dX10_findAll_68 : decode cX10_findAll 68 = .ok (.getfield 9, 3) := by decide +kernel
theorem dX10_findAll_71 : decode cX10_findAll 71 = .ok (.ifCond .lt 4, 3) := by decide +kernel
theorem dX10_findAll_74 : decode cX10_findAll 74 = .ok (.return_, 1) := by decide +kernel
theorem dX10_findAll_75 : decode cX10_findAll 75 = .ok (.iconst 0, 1) := by decide +kernel
theorem dX10_findAll_76 : decode cX10_findAll 76 = .ok (.istore_n 2, 1) := by decide +kernel
theorem dX10_findAll_77 : decode cX10_findAll 77 = .ok (.iload_n 2, 1) := by decide +kernel
theorem dX10_findAll_78 : decode cX10_findAll 78 = .ok (.aload_n 1, 1) := by decide +kernel
theorem dX10_findAll_79 : decode cX10_findAll 79 = .ok (.getfield 46, 3) := by decide +kernel
theorem dX10_findAll_82 : decode cX10_findAll 82 = .ok (.invokevirtual 50, 3) := by decide +kernel
theorem dX10_findAll_85 : decode cX10_findAll 85 = .ok (.if_icmp .ge 41, 3) := by decide +kernel
theorem dX10_findAll_88 : decode cX10_findAll 88 = .ok (.aload_n 1, 1) := by decide +kernel
theorem dX10_findAll_89 : decode cX10_findAll 89 = .ok (.getfield 46, 3) := by decide +kernel
theorem dX10_findAll_92 : decode cX10_findAll 92 = .ok (.iload_n 2, 1) := by decide +kernel
theorem dX10_findAll_93 : decode cX10_findAll 93 = .ok (.invokevirtual 56, 3) := by decide +kernel
theorem dX10_findAll_96 : decode cX10_findAll 96 = .ok (.checkcast 60, 3) := by decide +kernel
theorem dX10_findAll_99 : decode cX10_findAll 99 = .ok (.aload_n 0, 1) := by decide +kernel
theorem dX10_findAll_100 : decode cX10_findAll 100 = .ok (.aload_n 1, 1) := by decide +kernel
theorem dX10_findAll_101 : decode cX10_findAll 101 = .ok (.getfield 46, 3) := by decide +kernel
theorem dX10_findAll_104 : decode cX10_findAll 104 = .ok (.iload_n 2, 1) := by decide +kernel
theorem dX10_findAll_105 : decode cX10_findAll 105 = .ok (.invokevirtual 56, 3) := by decide +kernel
theorem dX10_findAll_108 : decode cX10_findAll 108 = .ok (.checkcast 60, 3) := by decide +kernel
theorem dX10_findAll_111 : decode cX10_findAll 111 = .ok (.getfield 68, 3) := by decide +kernel
theorem dX10_findAll_114 : decode cX10_findAll 114 = .ok (.invokevirtual 79, 3) := by decide +kernel
theorem dX10_findAll_117 : decode cX10_findAll 117 = .ok (.putfield 62, 3) := by decide +kernel
theorem dX10_findAll_120 : decode cX10_findAll 120 = .ok (.iinc 2 1, 3) := by decide +kernel
theorem dX10_findAll_123 : decode cX10_findAll 123 = .ok (.goto (-46), 3) := by decide +kernel
theorem dX10_findAll_126 : decode cX10_findAll 126 = .ok (.aload_n 0, 1) := by decide +kernel
theorem dX10_findAll_127 : decode cX10_findAll 127 = .ok (.aload_n 1, 1) := by decide +kernel
theorem dX10_findAll_128 : decode cX10_findAll 128 = .ok (.getfield 71, 3) := by decide +kernel
theorem dX10_findAll_131 : decode cX10_findAll 131 = .ok (.invokevirtual 82, 3) := by decide +kernel
theorem dX10_findAll_134 : decode cX10_findAll 134 = .ok (.return_, 1) := by decide +kernel
theorem dX10_infer_0 : decode cX10_infer 0 = .ok (.aload_n 0, 1) := by decide +kernel
theorem dX10_infer_1 : decode cX10_infer 1 = .ok (.getfield 9, 3) := by decide +kernel
theorem dX10_infer_4 : decode cX10_infer 4 = .ok (.ifCond .lt 10, 3) := by decide +kernel
theorem dX10_infer_7 : decode cX10_infer 7 = .ok (.sipush 210, 3) := by decide +kernel
theorem dX10_infer_10 : decode cX10_infer 10 = .ok (.invokestatic 65, 3) := by decide +kernel
theorem dX10_infer_13 : decode cX10_infer 13 = .ok (.ireturn, 1) := by decide +kernel
theorem dX10_infer_14 : decode cX10_infer 14 = .ok (.aload_n 1, 1) := by decide +kernel
theorem dX10_infer_15 : decode cX10_infer 15 = .ok (.getfield 106, 3) := by decide +kernel
theorem dX10_infer_18 : decode cX10_infer 18 = .ok (.lookupswitch 324 #[(40, 301), (201, 226), (206, 120), (207, 172), (212, 82), (214, 218), (219, 112), (220, 249), (401, 316)], 82) := by decide +kernel
theorem dX10_infer_100 : decode cX10_infer 100 = .ok (.aload_n 1, 1) := by decide +kernel
theorem dX10_infer_101 : decode cX10_infer 101 = .ok (.getfield 111, 3) := by decide +kernel
theorem dX10_infer_104 : decode cX10_infer 104 = .ok (.aload_n 0, 1) := by decide +kernel
theorem dX10_infer_105 : decode cX10_infer 105 = .ok (.aload_n 1, 1) := by decide +kernel
theorem dX10_infer_106 : decode cX10_infer 106 = .ok (.getfield 114, 3) := by decide +kernel
theorem dX10_infer_109 : decode cX10_infer 109 = .ok (.invokevirtual 75, 3) := by decide +kernel
theorem dX10_infer_112 : decode cX10_infer 112 = .ok (.putfield 68, 3) := by decide +kernel
theorem dX10_infer_115 : decode cX10_infer 115 = .ok (.aload_n 1, 1) := by decide +kernel
theorem dX10_infer_116 : decode cX10_infer 116 = .ok (.aload_n 0, 1) := by decide +kernel
theorem dX10_infer_117 : decode cX10_infer 117 = .ok (.aload_n 1, 1) := by decide +kernel
theorem dX10_infer_118 : decode cX10_infer 118 = .ok (.getfield 117, 3) := by decide +kernel
theorem dX10_infer_121 : decode cX10_infer 121 = .ok (.invokevirtual 75, 3) := by decide +kernel
theorem dX10_infer_124 : decode cX10_infer 124 = .ok (.putfield 120, 3) := by decide +kernel
theorem dX10_infer_127 : decode cX10_infer 127 = .ok (.goto 224, 3) := by decide +kernel
theorem dX10_infer_130 : decode cX10_infer 130 = .ok (.aload_n 0, 1) := by decide +kernel
theorem dX10_infer_131 : decode cX10_infer 131 = .ok (.aload_n 1, 1) := by decide +kernel
theorem dX10_infer_132 : decode cX10_infer 132 = .ok (.invokevirtual 121, 3) := by decide +kernel
theorem dX10_infer_135 : decode cX10_infer 135 = .ok (.goto 216, 3) := by decide +kernel
theorem dX10_infer_138 : decode cX10_infer 138 = .ok (.aload_n 1, 1) := by decide +kernel
theorem dX10_infer_139 : decode cX10_infer 139 = .ok (.getfield 124, 3) := by decide +kernel
theorem dX10_infer_142 : decode cX10_infer 142 = .ok (.iconst 0, 1) := by decide +kernel
theorem dX10_infer_143 : decode cX10_infer 143 = .ok (.invokevirtual 56, 3) := by decide +kernel
theorem dX10_infer_146 : decode cX10_infer 146 = .ok (.checkcast 60, 3) := by decide +kernel
theorem dX10_infer_149 : decode cX10_infer 149 = .ok (.aload_n 0, 1) := by decide +kernel
theorem dX10_infer_150 : decode cX10_infer 150 = .ok (.iconst 0, 1) := by decide +kernel
theorem dX10_infer_151 : decode cX10_infer 151 = .ok (.invokevirtual 37, 3) := by decide +kernel
theorem dX10_infer_154 : decode cX10_infer 154 = .ok (.putfield 68, 3) := by decide +kernel
theorem dX10_infer_157 : decode cX10_infer 157 = .ok (.aload_n 1, 1) := by decide +kernel
theorem dX10_infer_158 : decode cX10_infer 158 = .ok (.aload_n 0, 1) := by decide +kernel
theorem dX10_infer_159 : decode cX10_infer 159 = .ok (.aload_n 1, 1) := by decide +kernel
theorem dX10_infer_160 : decode cX10_infer 160 = .ok (.getfield 124, 3) := by decide +kernel
theorem dX10_infer_163 : decode cX10_infer 163 = .ok (.iconst 0, 1) := by decide +kernel
theorem dX10_infer_164 : decode cX10_infer 164 = .ok (.invokevirtual 56, 3) := by decide +kernel
theorem dX10_infer_167 : decode cX10_infer 167 = .ok (.checkcast 60, 3) := by decide +kernel
theorem dX10_infer_170 : decode cX10_infer 170 = .ok (.getfield 68, 3) := by decide +kernel
theorem dX10_infer_173 : decode cX10_infer 173 = .ok (.aload_n 0, 1) := by decide +kernel
theorem dX10_infer_174 : decode cX10_infer 174 = .ok (.aload_n 1, 1) := by decide +kernel
theorem dX10_infer_175 : decode cX10_infer 175 = .ok (.getfield 114, 3) := by decide +kernel
theorem dX10_infer_178 : decode cX10_infer 178 = .ok (.invokevirtual 75, 3) := by decide +kernel
theorem dX10_infer_181 : decode cX10_infer 181 = .ok (.invokevirtual 127, 3) := by decide +kernel
theorem dX10_infer_184 : decode cX10_infer 184 = .ok (.putfield 120, 3) := by decide +kernel
theorem dX10_infer_187 : decode cX10_infer 187 = .ok (.goto 164, 3) := by decide +kernel
theorem dX10_infer_190 : decode cX10_infer 190 = .ok (.aload_n 0, 1) := by decide +kernel
theorem dX10_infer_191 : decode cX10_infer 191 = .ok (.aload_n 1, 1) := by decide +kernel
theorem dX10_infer_192 : decode cX10_infer 192 = .ok (.getfield 131, 3) := by decide +kernel
theorem dX10_infer_195 : decode cX10_infer 195 = .ok (.invokevirtual 134, 3) := by decide +kernel
theorem dX10_infer_198 : decode cX10_infer 198 = .ok (.aload_n 1, 1) := by decide +kernel
theorem dX10_infer_199 : decode cX10_infer 199 = .ok (.aload_n 0, 1) := by decide +kernel
theorem dX10_infer_200 : decode cX10_infer 200 = .ok (.aload_n 1, 1) := by decide +kernel
theorem dX10_infer_201 : decode cX10_infer 201 = .ok (.getfield 114, 3) := by decide +kernel
theorem dX10_infer_204 : decode cX10_infer 204 = .ok (.invokevirtual 75, 3) := by decide +kernel
theorem dX10_infer_207 : decode cX10_infer 207 = .ok (.putfield 120, 3) := by decide +kernel
theorem dX10_infer_210 : decode cX10_infer 210 = .ok (.aload_n 0, 1) := by decide +kernel
theorem dX10_infer_211 : decode cX10_infer 211 = .ok (.aload_n 0, 1) := by decide +kernel
theorem dX10_infer_212 : decode cX10_infer 212 = .ok (.aload_n 1, 1) := by decide +kernel
theorem dX10_infer_213 : decode cX10_infer 213 = .ok (.getfield 117, 3) := by decide +kernel
theorem dX10_infer_216 : decode cX10_infer 216 = .ok (.invokevirtual 75, 3) := by decide +kernel
theorem dX10_infer_219 : decode cX10_infer 219 = .ok (.aload_n 1, 1) := by decide +kernel
theorem dX10_infer_220 : decode cX10_infer 220 = .ok (.getfield 120, 3) := by decide +kernel
theorem dX10_infer_223 : decode cX10_infer 223 = .ok (.aload_n 1, 1) := by decide +kernel
theorem dX10_infer_224 : decode cX10_infer 224 = .ok (.getfield 117, 3) := by decide +kernel
theorem dX10_infer_227 : decode cX10_infer 227 = .ok (.getfield 137, 3) := by decide +kernel
theorem dX10_infer_230 : decode cX10_infer 230 = .ok (.invokevirtual 140, 3) := by decide +kernel
theorem dX10_infer_233 : decode cX10_infer 233 = .ok (.goto 118, 3) := by decide +kernel
theorem dX10_infer_236 : decode cX10_infer 236 = .ok (.aload_n 0, 1) := by decide +kernel
theorem dX10_infer_237 : decode cX10_infer 237 = .ok (.aload_n 1, 1) := by decide +kernel
theorem dX10_infer_238 : decode cX10_infer 238 = .ok (.invokevirtual 144, 3) := by decide +kernel
theorem dX10_infer_241 : decode cX10_infer 241 = .ok (.goto 110, 3) := by decide +kernel
theorem dX10_infer_244 : decode cX10_infer 244 = .ok (.aload_n 0, 1) := by decide +kernel
theorem dX10_infer_245 : decode cX10_infer 245 = .ok (.aload_n 1, 1) := by decide +kernel
theorem dX10_infer_246 : decode cX10_infer 246 = .ok (.getfield 131, 3) := by decide +kernel
theorem dX10_infer_249 : decode cX10_infer 249 = .ok (.invokevirtual 134, 3) := by decide +kernel
theorem dX10_infer_252 : decode cX10_infer 252 = .ok (.aload_n 1, 1) := by decide +kernel
theorem dX10_infer_253 : decode cX10_infer 253 = .ok (.aload_n 0, 1) := by decide +kernel
theorem dX10_infer_254 : decode cX10_infer 254 = .ok (.aload_n 1, 1) := by decide +kernel
theorem dX10_infer_255 : decode cX10_infer 255 = .ok (.getfield 114, 3) := by decide +kernel
theorem dX10_infer_258 : decode cX10_infer 258 = .ok (.invokevirtual 75, 3) := by decide +kernel
theorem dX10_infer_261 : decode cX10_infer 261 = .ok (.putfield 120, 3) := by decide +kernel
theorem dX10_infer_264 : decode cX10_infer 264 = .ok (.goto 87, 3) := by decide +kernel
theorem dX10_infer_267 : decode cX10_infer 267 = .ok (.aload_n 0, 1) := by decide +kernel
theorem dX10_infer_268 : decode cX10_infer 268 = .ok (.aload_n 1, 1) := by decide +kernel
theorem dX10_infer_269 : decode cX10_infer 269 = .ok (.getfield 147, 3) := by decide +kernel
theorem dX10_infer_272 : decode cX10_infer 272 = .ok (.getfield 68, 3) := by decide +kernel
theorem dX10_infer_275 : decode cX10_infer 275 = .ok (.sipush 200, 3) := by decide +kernel
theorem dX10_infer_278 : decode cX10_infer 278 = .ok (.invokestatic 65, 3) := by decide +kernel
theorem dX10_infer_281 : decode cX10_infer 281 = .ok (.aload_n 1, 1) := by decide +kernel
theorem dX10_infer_282 : decode cX10_infer 282 = .ok (.getfield 150, 3) := by decide +kernel
theorem dX10_infer_285 : decode cX10_infer 285 = .ok (.invokevirtual 140, 3) := by decide +kernel
theorem dX10_infer_288 : decode cX10_infer 288 = .ok (.aload_n 0, 1) := by decide +kernel
theorem dX10_infer_289 : decode cX10_infer 289 = .ok (.aload_n 1, 1) := by decide +kernel
theorem dX10_infer_290 : decode cX10_infer 290 = .ok (.getfield 153, 3) := by decide +kernel
theorem dX10_infer_293 : decode cX10_infer 293 = .ok (.invokevirtual 156, 3) := by decide +kernel
theorem dX10_infer_296 : decode cX10_infer 296 = .ok (.aload_n 0, 1) := by decide +kernel
theorem dX10_infer_297 : decode cX10_infer 297 = .ok (.aload_n 1, 1) := by decide +kernel
theorem dX10_infer_298 : decode cX10_infer 298 = .ok (.getfield 159, 3) := by decide +kernel
theorem dX10_infer_301 : decode cX10_infer 301 = .ok (.invokevirtual 156, 3) := by decide +kernel
theorem dX10_infer_304 : decode cX10_infer 304 = .ok (.aload_n 1, 1) := by decide +kernel
theorem dX10_infer_305 : decode cX10_infer 305 = .ok (.aload_n 0, 1) := by decide +kernel
theorem dX10_infer_306 : decode cX10_infer 306 = .ok (.aload_n 1, 1) := by decide +kernel
theorem dX10_infer_307 : decode cX10_infer 307 = .ok (.getfield 114, 3) := by decide +kernel
theorem dX10_infer_310 : decode cX10_infer 310 = .ok (.invokevirtual 75, 3) := by decide +kernel
theorem dX10_infer_313 : decode cX10_infer 313 = .ok (.putfield 120, 3) := by decide +kernel
theorem dX10_infer_316 : decode cX10_infer 316 = .ok (.goto 35, 3) := by decide +kernel
theorem dX10_infer_319 : decode cX10_infer 319 = .ok (.aload_n 1, 1) := by decide +kernel
theorem dX10_infer_320 : decode cX10_infer 320 = .ok (.aload_n 0, 1) := by decide +kernel
theorem dX10_infer_321 : decode cX10_infer 321 = .ok (.aload_n 1, 1) := by decide +kernel
theorem dX10_infer_322 : decode cX10_infer 322 = .ok (.getfield 114, 3) := by decide +kernel
theorem dX10_infer_325 : decode cX10_infer 325 = .ok (.invokevirtual 75, 3) := by decide +kernel
theorem dX10_infer_328 : decode cX10_infer 328 = .ok (.putfield 120, 3) := by decide +kernel
theorem dX10_infer_331 : decode cX10_infer 331 = .ok (.goto 20, 3) := by decide +kernel
theorem dX10_infer_334 : decode cX10_infer 334 = .ok (.aload_n 0, 1) := by decide +kernel
theorem dX10_infer_335 : decode cX10_infer 335 = .ok (.aload_n 1, 1) := by decide +kernel
theorem dX10_infer_336 : decode cX10_infer 336 = .ok (.invokevirtual 162, 3) := by decide +kernel
theorem dX10_infer_339 : decode cX10_infer 339 = .ok (.goto 12, 3) := by decide +kernel
theorem dX10_infer_342 : decode cX10_infer 342 = .ok (.aload_n 1, 1) := by decide +kernel
theorem dX10_infer_343 : decode cX10_infer 343 = .ok (.aload_n 0, 1) := by decide +kernel
theorem dX10_infer_344 : decode cX10_infer 344 = .ok (.aload_n 1, 1) := by decide +kernel
theorem dX10_infer_345 : decode cX10_infer 345 = .ok (.invokevirtual 165, 3) := by decide +kernel
theorem dX10_infer_348 : decode cX10_infer 348 = .ok (.putfield 120, 3) := by decide +kernel
theorem dX10_infer_351 : decode cX10_infer 351 = .ok (.aload_n 1, 1) := by decide +kernel
theorem dX10_infer_352 : decode cX10_infer 352 = .ok (.getfield 120, 3) := by decide +kernel
theorem dX10_infer_355 : decode cX10_infer 355 = .ok (.ireturn, 1) := by decide +kernel
theorem dX10_inferRec_0 : decode cX10_inferRec 0 = .ok (.iconst 0, 1) := by decide +kernel
theorem dX10_inferRec_1 : decode cX10_inferRec 1 = .ok (.istore_n 2, 1) := by decide +kernel
theorem dX10_inferRec_2 : decode cX10_inferRec 2 = .ok (.iload_n 2, 1) := by decide +kernel
theorem dX10_inferRec_3 : decode cX10_inferRec 3 = .ok (.aload_n 1, 1) := by decide +kernel
theorem dX10_inferRec_4 : decode cX10_inferRec 4 = .ok (.getfield 124, 3) := by decide +kernel
theorem dX10_inferRec_7 : decode cX10_inferRec 7 = .ok (.invokevirtual 50, 3) := by decide +kernel
theorem dX10_inferRec_10 : decode cX10_inferRec 10 = .ok (.if_icmp .ge 28, 3) := by decide +kernel
theorem dX10_inferRec_13 : decode cX10_inferRec 13 = .ok (.aload_n 1, 1) := by decide +kernel
theorem dX10_inferRec_14 : decode cX10_inferRec 14 = .ok (.getfield 124, 3) := by decide +kernel
theorem dX10_inferRec_17 : decode cX10_inferRec 17 = .ok (.iload_n 2, 1) := by decide +kernel
theorem dX10_inferRec_18 : decode cX10_inferRec 18 = .ok (.invokevirtual 56, 3) := by decide +kernel
theorem dX10_inferRec_21 : decode cX10_inferRec 21 = .ok (.checkcast 60, 3) := by decide +kernel
theorem dX10_inferRec_24 : decode cX10_inferRec 24 = .ok (.aload_n 0, 1) := by decide +kernel
theorem dX10_inferRec_25 : decode cX10_inferRec 25 = .ok (.iconst 0, 1) := by decide +kernel
theorem dX10_inferRec_26 : decode cX10_inferRec 26 = .ok (.invokevirtual 37, 3) := by decide +kernel
theorem dX10_inferRec_29 : decode cX10_inferRec 29 = .ok (.putfield 68, 3) := by decide +kernel
theorem dX10_inferRec_32 : decode cX10_inferRec 32 = .ok (.iinc 2 1, 3) := by decide +kernel
theorem dX10_inferRec_35 : decode cX10_inferRec 35 = .ok (.goto (-33), 3) := by decide +kernel
theorem dX10_inferRec_38 : decode cX10_inferRec 38 = .ok (.aload_n 0, 1) := by decide +kernel
theorem dX10_inferRec_39 : decode cX10_inferRec 39 = .ok (.iconst 0, 1) := by decide +kernel
theorem dX10_inferRec_40 : decode cX10_inferRec 40 = .ok (.invokevirtual 37, 3) := by decide +kernel
theorem dX10_inferRec_43 : decode cX10_inferRec 43 = .ok (.istore_n 2, 1) := by decide +kernel
theorem dX10_inferRec_44 : decode cX10_inferRec 44 = .ok (.aload_n 1, 1) := by decide +kernel
theorem dX10_inferRec_45 : decode cX10_inferRec 45 = .ok (.getfield 111, 3) := by decide +kernel
theorem dX10_inferRec_48 : decode cX10_inferRec 48 = .ok (.iload_n 2, 1) := by decide +kernel
theorem dX10_inferRec_49 : decode cX10_inferRec 49 = .ok (.putfield 68, 3) := by decide +kernel
theorem dX10_inferRec_52 : decode cX10_inferRec 52 = .ok (.aload_n 1, 1) := by decide +kernel
theorem dX10_inferRec_53 : decode cX10_inferRec 53 = .ok (.getfield 124, 3) := by decide +kernel
theorem dX10_inferRec_56 : decode cX10_inferRec 56 = .ok (.invokevirtual 50, 3) := by decide +kernel
theorem dX10_inferRec_59 : decode cX10_inferRec 59 = .ok (.iconst 1, 1) := by decide +kernel
theorem dX10_inferRec_60 : decode cX10_inferRec 60 = .ok (.isub, 1) := by decide +kernel
theorem dX10_inferRec_61 : decode cX10_inferRec 61 = .ok (.istore_n 3, 1) := by decide +kernel
theorem dX10_inferRec_62 : decode cX10_inferRec 62 = .ok (.iload_n 3, 1) := by decide +kernel
theorem dX10_inferRec_63 : decode cX10_inferRec 63 = .ok (.ifCond .lt 41, 3) := by decide +kernel
theorem dX10_inferRec_66 : decode cX10_inferRec 66 = .ok (.aload_n 1, 1) := by decide +kernel
theorem dX10_inferRec_67 : decode cX10_inferRec 67 = .ok (.getfield 111, 3) := by decide +kernel
theorem dX10_inferRec_70 : decode cX10_inferRec 70 = .ok (.aload_n 0, 1) := by decide +kernel
theorem dX10_inferRec_71 : decode cX10_inferRec 71 = .ok (.aload_n 1, 1) := by decide +kernel
theorem dX10_inferRec_72 : decode cX10_inferRec 72 = .ok (.getfield 124, 3) := by decide +kernel
theorem dX10_inferRec_75 : decode cX10_inferRec 75 = .ok (.iload_n 3, 1) := by decide +kernel
theorem dX10_inferRec_76 : decode cX10_inferRec 76 = .ok (.invokevirtual 56, 3) := by decide +kernel
theorem dX10_inferRec_79 : decode cX10_inferRec 79 = .ok (.checkcast 60, 3) := by decide +kernel
theorem dX10_inferRec_82 : decode cX10_inferRec 82 = .ok (.getfield 68, 3) := by decide +kernel
theorem dX10_inferRec_85 : decode cX10_inferRec 85 = .ok (.aload_n 1, 1) := by decide +kernel
theorem dX10_inferRec_86 : decode cX10_inferRec 86 = .ok (.getfield 111, 3) := by decide +kernel
theorem dX10_inferRec_89 : decode cX10_inferRec 89 = .ok (.getfield 68, 3) := by decide +kernel
theorem dX10_inferRec_92 : decode cX10_inferRec 92 = .ok (.invokevirtual 127, 3) := by decide +kernel
theorem dX10_inferRec_95 : decode cX10_inferRec 95 = .ok (.putfield 68, 3) := by decide +kernel
theorem dX10_inferRec_98 : decode cX10_inferRec 98 = .ok (.iinc 3 (-1), 3) := by decide +kernel
theorem dX10_inferRec_101 : decode cX10_inferRec 101 = .ok (.goto (-39), 3) := by decide +kernel
theorem dX10_inferRec_104 : decode cX10_inferRec 104 = .ok (.aload_n 0, 1) := by decide +kernel
theorem dX10_inferRec_105 : decode cX10_inferRec 105 = .ok (.aload_n 0, 1) := by decide +kernel
theorem dX10_inferRec_106 : decode cX10_inferRec 106 = .ok (.aload_n 1, 1) := by decide +kernel
theorem dX10_inferRec_107 : decode cX10_inferRec 107 = .ok (.getfield 114, 3) := by decide +kernel
theorem dX10_inferRec_110 : decode cX10_inferRec 110 = .ok (.invokevirtual 75, 3) := by decide +kernel
theorem dX10_inferRec_113 : decode cX10_inferRec 113 = .ok (.iload_n 2, 1) := by decide +kernel
theorem dX10_inferRec_114 : decode cX10_inferRec 114 = .ok (.aload_n 1, 1) := by decide +kernel
theorem dX10_inferRec_115 : decode cX10_inferRec 115 = .ok (.getfield 114, 3) := by decide +kernel
theorem dX10_inferRec_118 : decode cX10_inferRec 118 = .ok (.getfield 137, 3) := by decide +kernel
theorem dX10_inferRec_121 : decode cX10_inferRec 121 = .ok (.invokevirtual 140, 3) := by decide +kernel
theorem dX10_inferRec_124 : decode cX10_inferRec 124 = .ok (.aload_n 1, 1) := by decide +kernel
theorem dX10_inferRec_125 : decode cX10_inferRec 125 = .ok (.aload_n 0, 1) := by decide +kernel
theorem dX10_inferRec_126 : decode cX10_inferRec 126 = .ok (.aload_n 1, 1) := by decide +kernel
theorem dX10_inferRec_127 : decode cX10_inferRec 127 = .ok (.getfield 117, 3) := by decide +kernel
theorem dX10_inferRec_130 : decode cX10_inferRec 130 = .ok (.invokevirtual 75, 3) := by decide +kernel
theorem dX10_inferRec_133 : decode cX10_inferRec 133 = .ok (.putfield 120, 3) := by decide +kernel
theorem dX10_inferRec_136 : decode cX10_inferRec 136 = .ok (.return_, 1) := by decide +kernel
theorem dX10_inferMatch_0 : decode cX10_inferMatch 0 = .ok (.aload_n 0, 1) := by decide +kernel
theorem dX10_inferMatch_1 : decode cX10_inferMatch 1 = .ok (.aload_n 1, 1) := by decide +kernel
theorem dX10_inferMatch_2 : decode cX10_inferMatch 2 = .ok (.getfield 147, 3) := by decide +kernel
theorem dX10_inferMatch_5 : decode cX10_inferMatch 5 = .ok (.getfield 68, 3) := by decide +kernel
theorem dX10_inferMatch_8 : decode cX10_inferMatch 8 = .ok (.sipush 213, 3) := by decide +kernel
theorem dX10_inferMatch_11 : decode cX10_inferMatch 11 = .ok (.invokestatic 65, 3) := by decide +kernel
theorem dX10_inferMatch_14 : decode cX10_inferMatch 14 = .ok (.aload_n 1, 1) := by decide +kernel
theorem dX10_inferMatch_15 : decode cX10_inferMatch 15 = .ok (.getfield 150, 3) := by decide +kernel
theorem dX10_inferMatch_18 : decode cX10_inferMatch 18 = .ok (.invokevirtual 140, 3) := by decide +kernel
theorem dX10_inferMatch_21 : decode cX10_inferMatch 21 = .ok (.aload_n 1, 1) := by decide +kernel
theorem dX10_inferMatch_22 : decode cX10_inferMatch 22 = .ok (.aload_n 0, 1) := by decide +kernel
theorem dX10_inferMatch_23 : decode cX10_inferMatch 23 = .ok (.aload_n 1, 1) := by decide +kernel
theorem dX10_inferMatch_24 : decode cX10_inferMatch 24 = .ok (.getfield 114, 3) := by decide +kernel
theorem dX10_inferMatch_27 : decode cX10_inferMatch 27 = .ok (.invokevirtual 75, 3) := by decide +kernel
theorem dX10_inferMatch_30 : decode cX10_inferMatch 30 = .ok (.putfield 120, 3) := by decide +kernel
theorem dX10_inferMatch_33 : decode cX10_inferMatch 33 = .ok (.aload_n 1, 1) := by decide +kernel
theorem dX10_inferMatch_34 : decode cX10_inferMatch 34 = .ok (.getfield 124, 3) := by decide +kernel
theorem dX10_inferMatch_37 : decode cX10_inferMatch 37 = .ok (.iconst 0, 1) := by decide +kernel
theorem dX10_inferMatch_38 : decode cX10_inferMatch 38 = .ok (.invokevirtual 56, 3) := by decide +kernel
theorem dX10_inferMatch_41 : decode cX10_inferMatch 41 = .ok (.checkcast 60, 3) := by decide +kernel
theorem dX10_inferMatch_44 : decode cX10_inferMatch 44 = .ok (.sipush 210, 3) := by decide +kernel
theorem dX10_inferMatch_47 : decode cX10_inferMatch 47 = .ok (.invokestatic 65, 3) := by decide +kernel
theorem dX10_inferMatch_50 : decode cX10_inferMatch 50 = .ok (.putfield 68, 3) := by decide +kernel
theorem dX10_inferMatch_53 : decode cX10_inferMatch 53 = .ok (.aload_n 1, 1) := by decide +kernel
theorem dX10_inferMatch_54 : decode cX10_inferMatch 54 = .ok (.getfield 124, 3) := by decide +kernel
theorem dX10_inferMatch_57 : decode cX10_inferMatch 57 = .ok (.iconst 1, 1) := by decide +kernel
theorem dX10_inferMatch_58 : decode cX10_inferMatch 58 = .ok (.invokevirtual 56, 3) := by decide +kernel
theorem dX10_inferMatch_61 : decode cX10_inferMatch 61 = .ok (.checkcast 60, 3) := by decide +kernel
theorem dX10_inferMatch_64 : decode cX10_inferMatch 64 = .ok (.sipush 213, 3) := by decide +kernel
theorem dX10_inferMatch_67 : decode cX10_inferMatch 67 = .ok (.invokestatic 65, 3) := by decide +kernel
theorem dX10_inferMatch_70 : decode cX10_inferMatch 70 = .ok (.putfield 68, 3) := by decide +kernel
theorem dX10_inferMatch_73 : decode cX10_inferMatch 73 = .ok (.aload_n 0, 1) := by decide +kernel
theorem dX10_inferMatch_74 : decode cX10_inferMatch 74 = .ok (.aload_n 0, 1) := by decide +kernel
theorem dX10_inferMatch_75 : decode cX10_inferMatch 75 = .ok (.aload_n 1, 1) := by decide +kernel
theorem dX10_inferMatch_76 : decode cX10_inferMatch 76 = .ok (.getfield 117, 3) := by decide +kernel
theorem dX10_inferMatch_79 : decode cX10_inferMatch 79 = .ok (.invokevirtual 75, 3) := by decide +kernel
theorem dX10_inferMatch_82 : decode cX10_inferMatch 82 = .ok (.aload_n 1, 1) := by decide +kernel
theorem dX10_inferMatch_83 : decode cX10_inferMatch 83 = .ok (.getfield 120, 3) := by decide +kernel
theorem dX10_inferMatch_86 : decode cX10_inferMatch 86 = .ok (.aload_n 1, 1) := by decide +kernel
theorem dX10_inferMatch_87 : decode cX10_inferMatch 87 = .ok (.getfield 117, 3) := by decide +kernel
theorem dX10_inferMatch_90 : decode cX10_inferMatch 90 = .ok (.getfield 137, 3) := by decide +kernel
theorem dX10_inferMatch_93 : decode cX10_inferMatch 93 = .ok (.invokevirtual 140, 3) := by decide +kernel
theorem dX10_inferMatch_96 : decode cX10_inferMatch 96 = .ok (.return_, 1) := by decide +kernel
theorem dX10_inferCall_0 : decode cX10_inferCall 0 = .ok (.aload_n 0, 1) := by decide +kernel
theorem dX10_inferCall_1 : decode cX10_inferCall 1 = .ok (.aload_n 1, 1) := by decide +kernel
theorem dX10_inferCall_2 : decode cX10_inferCall 2 = .ok (.getfield 147, 3) := by decide +kernel
theorem dX10_inferCall_5 : decode cX10_inferCall 5 = .ok (.getfield 68, 3) := by decide +kernel
theorem dX10_inferCall_8 : decode cX10_inferCall 8 = .ok (.invokevirtual 89, 3) := by decide +kernel
theorem dX10_inferCall_11 : decode cX10_inferCall 11 = .ok (.istore_n 2, 1) := by decide +kernel
theorem dX10_inferCall_12 : decode cX10_inferCall 12 = .ok (.iconst 0, 1) := by decide +kernel
theorem dX10_inferCall_13 : decode cX10_inferCall 13 = .ok (.istore_n 3, 1) := by decide +kernel
theorem dX10_inferCall_14 : decode cX10_inferCall 14 = .ok (.iload_n 3, 1) := by decide +kernel
theorem dX10_inferCall_15 : decode cX10_inferCall 15 = .ok (.aload_n 1, 1) := by decide +kernel
theorem dX10_inferCall_16 : decode cX10_inferCall 16 = .ok (.getfield 171, 3) := by decide +kernel
theorem dX10_inferCall_19 : decode cX10_inferCall 19 = .ok (.invokevirtual 50, 3) := by decide +kernel
theorem dX10_inferCall_22 : decode cX10_inferCall 22 = .ok (.if_icmp .ge 96, 3) := by decide +kernel
theorem dX10_inferCall_25 : decode cX10_inferCall 25 = .ok (.aload_n 0, 1) := by decide +kernel
theorem dX10_inferCall_26 : decode cX10_inferCall 26 = .ok (.getfield 18, 3) := by decide +kernel
theorem dX10_inferCall_29 : decode cX10_inferCall 29 = .ok (.iload_n 2, 1) := by decide +kernel
theorem dX10_inferCall_30 : decode cX10_inferCall 30 = .ok (.iaload, 1) := by decide +kernel
theorem dX10_inferCall_31 : decode cX10_inferCall 31 = .ok (.ifCond .ne 29, 3) := by decide +kernel
theorem dX10_inferCall_34 : decode cX10_inferCall 34 = .ok (.aload_n 0, 1) := by decide +kernel
theorem dX10_inferCall_35 : decode cX10_inferCall 35 = .ok (.getfield 28, 3) := by decide +kernel
theorem dX10_inferCall_38 : decode cX10_inferCall 38 = .ok (.iload_n 2, 1) := by decide +kernel
theorem dX10_inferCall_39 : decode cX10_inferCall 39 = .ok (.aload_n 0, 1) := by decide +kernel
theorem dX10_inferCall_40 : decode cX10_inferCall 40 = .ok (.aload_n 0, 1) := by decide +kernel
theorem dX10_inferCall_41 : decode cX10_inferCall 41 = .ok (.iconst 0, 1) := by decide +kernel
theorem dX10_inferCall_42 : decode cX10_inferCall 42 = .ok (.invokevirtual 37, 3) := by decide +kernel
theorem dX10_inferCall_45 : decode cX10_inferCall 45 = .ok (.aload_n 0, 1) := by decide +kernel
theorem dX10_inferCall_46 : decode cX10_inferCall 46 = .ok (.iconst 0, 1) := by decide +kernel
theorem dX10_inferCall_47 : decode cX10_inferCall 47 = .ok (.invokevirtual 37, 3) := by decide +kernel
theorem dX10_inferCall_50 : decode cX10_inferCall 50 = .ok (.invokevirtual 127, 3) := by decide +kernel
theorem dX10_inferCall_53 : decode cX10_inferCall 53 = .ok (.iastore, 1) := by decide +kernel
theorem dX10_inferCall_54 : decode cX10_inferCall 54 = .ok (.aload_n 0, 1) := by decide +kernel
theorem dX10_inferCall_55 : decode cX10_inferCall 55 = .ok (.iload_n 2, 1) := by decide +kernel
theorem dX10_inferCall_56 : decode cX10_inferCall 56 = .ok (.invokevirtual 89, 3) := by decide +kernel
theorem dX10_inferCall_59 : decode cX10_inferCall 59 = .ok (.istore_n 2, 1) := by decide +kernel
theorem dX10_inferCall_60 : decode cX10_inferCall 60 = .ok (.aload_n 0, 1) := by decide +kernel
theorem dX10_inferCall_61 : decode cX10_inferCall 61 = .ok (.getfield 18, 3) := by decide +kernel
theorem dX10_inferCall_64 : decode cX10_inferCall 64 = .ok (.iload_n 2, 1) := by decide +kernel
theorem dX10_inferCall_65 : decode cX10_inferCall 65 = .ok (.iaload, 1) := by decide +kernel
theorem dX10_inferCall_66 : decode cX10_inferCall 66 = .ok (.sipush 206, 3) := by decide +kernel
theorem dX10_inferCall_69 : decode cX10_inferCall 69 = .ok (.if_icmp .eq 12, 3) := by decide +kernel
theorem dX10_inferCall_72 : decode cX10_inferCall 72 = .ok (.aload_n 0, 1) := by decide +kernel
theorem dX10_inferCall_73 : decode cX10_inferCall 73 = .ok (.aload_n 1, 1) := by decide +kernel
theorem dX10_inferCall_74 : decode cX10_inferCall 74 = .ok (.getfield 150, 3) := by decide +kernel
theorem dX10_inferCall_77 : decode cX10_inferCall 77 = .ok (.putfield 9, 3) := by decide +kernel
theorem dX10_inferCall_80 : decode cX10_inferCall 80 = .ok (.return_, 1) := by decide +kernel
theorem dX10_inferCall_81 : decode cX10_inferCall 81 = .ok (.aload_n 1, 1) := by decide +kernel
theorem dX10_inferCall_82 : decode cX10_inferCall 82 = .ok (.getfield 171, 3) := by decide +kernel
theorem dX10_inferCall_85 : decode cX10_inferCall 85 = .ok (.iload_n 3, 1) := by decide +kernel
theorem dX10_inferCall_86 : decode cX10_inferCall 86 = .ok (.invokevirtual 56, 3) := by decide +kernel
theorem dX10_inferCall_89 : decode cX10_inferCall 89 = .ok (.checkcast 107, 3) := by decide +kernel
theorem dX10_inferCall_92 : decode cX10_inferCall 92 = .ok (.aload_n 0, 1) := by decide +kernel
theorem dX10_inferCall_93 : decode cX10_inferCall 93 = .ok (.getfield 22, 3) := by decide +kernel
theorem dX10_inferCall_96 : decode cX10_inferCall 96 = .ok (.iload_n 2, 1) := by decide +kernel
theorem dX10_inferCall_97 : decode cX10_inferCall 97 = .ok (.iaload, 1) := by decide +kernel
theorem dX10_inferCall_98 : decode cX10_inferCall 98 = .ok (.putfield 120, 3) := by decide +kernel
theorem dX10_inferCall_101 : decode cX10_inferCall 101 = .ok (.aload_n 0, 1) := by decide +kernel
theorem dX10_inferCall_102 : decode cX10_inferCall 102 = .ok (.aload_n 0, 1) := by decide +kernel
theorem dX10_inferCall_103 : decode cX10_inferCall 103 = .ok (.getfield 25, 3) := by decide +kernel
theorem dX10_inferCall_106 : decode cX10_inferCall 106 = .ok (.iload_n 2, 1) := by decide +kernel
theorem dX10_inferCall_107 : decode cX10_inferCall 107 = .ok (.iaload, 1) := by decide +kernel
theorem dX10_inferCall_108 : decode cX10_inferCall 108 = .ok (.invokevirtual 89, 3) := by decide +kernel
theorem dX10_inferCall_111 : decode cX10_inferCall 111 = .ok (.istore_n 2, 1) := by decide +kernel
theorem dX10_inferCall_112 : decode cX10_inferCall 112 = .ok (.iinc 3 1, 3) := by decide +kernel
theorem dX10_inferCall_115 : decode cX10_inferCall 115 = .ok (.goto (-101), 3) := by decide +kernel
theorem dX10_inferCall_118 : decode cX10_inferCall 118 = .ok (.iconst 0, 1) := by decide +kernel
theorem dX10_inferCall_119 : decode cX10_inferCall 119 = .ok (.istore_n 3, 1) := by decide +kernel
theorem dX10_inferCall_120 : decode cX10_inferCall 120 = .ok (.iload_n 3, 1) := by decide +kernel
theorem dX10_inferCall_121 : decode cX10_inferCall 121 = .ok (.aload_n 1, 1) := by decide +kernel
theorem dX10_inferCall_122 : decode cX10_inferCall 122 = .ok (.getfield 171, 3) := by decide +kernel
theorem dX10_inferCall_125 : decode cX10_inferCall 125 = .ok (.invokevirtual 50, 3) := by decide +kernel
theorem dX10_inferCall_128 : decode cX10_inferCall 128 = .ok (.if_icmp .ge 46, 3) := by decide +kernel
theorem dX10_inferCall_131 : decode cX10_inferCall 131 = .ok (.aload_n 1, 1) := by decide +kernel
theorem dX10_inferCall_132 : decode cX10_inferCall 132 = .ok (.getfield 171, 3) := by decide +kernel
theorem dX10_inferCall_135 : decode cX10_inferCall 135 = .ok (.iload_n 3, 1) := by decide +kernel
theorem dX10_inferCall_136 : decode cX10_inferCall 136 = .ok (.invokevirtual 56, 3) := by decide +kernel
theorem dX10_inferCall_139 : decode cX10_inferCall 139 = .ok (.checkcast 107, 3) := by decide +kernel
theorem dX10_inferCall_142 : decode cX10_inferCall 142 = .ok (.astore 4, 2) := by decide +kernel
theorem dX10_inferCall_144 : decode cX10_inferCall 144 = .ok (.aload 4, 2) := by decide +kernel
theorem dX10_inferCall_146 : decode cX10_inferCall 146 = .ok (.getfield 120, 3) := by decide +kernel
theorem dX10_inferCall_149 : decode cX10_inferCall 149 = .ok (.istore 5, 2) := by decide +kernel
theorem dX10_inferCall_151 : decode cX10_inferCall 151 = .ok (.aload_n 0, 1) := by decide +kernel
theorem dX10_inferCall_152 : decode cX10_inferCall 152 = .ok (.aload_n 0, 1) := by decide +kernel
theorem dX10_inferCall_153 : decode cX10_inferCall 153 = .ok (.aload 4, 2) := by decide +kernel
theorem dX10_inferCall_155 : decode cX10_inferCall 155 = .ok (.invokevirtual 75, 3) := by decide +kernel
theorem dX10_inferCall_158 : decode cX10_inferCall 158 = .ok (.iload 5, 2) := by decide +kernel
theorem dX10_inferCall_160 : decode cX10_inferCall 160 = .ok (.aload 4, 2) := by decide +kernel
theorem dX10_inferCall_162 : decode cX10_inferCall 162 = .ok (.getfield 174, 3) := by decide +kernel
theorem dX10_inferCall_165 : decode cX10_inferCall 165 = .ok (.invokevirtual 140, 3) := by decide +kernel
theorem dX10_inferCall_168 : decode cX10_inferCall 168 = .ok (.iinc 3 1, 3) := by decide +kernel
theorem dX10_inferCall_171 : decode cX10_inferCall 171 = .ok (.goto (-51), 3) := by decide +kernel
theorem dX10_inferCall_174 : decode cX10_inferCall 174 = .ok (.aload_n 1, 1) := by decide +kernel
theorem dX10_inferCall_175 : decode cX10_inferCall 175 = .ok (.iload_n 2, 1) := by decide +kernel
theorem dX10_inferCall_176 : decode cX10_inferCall 176 = .ok (.putfield 120, 3) := by decide +kernel
theorem dX10_inferCall_179 : decode cX10_inferCall 179 = .ok (.return_, 1) := by decide +kernel
theorem dX10_countTemplates_0 : decode cX10_countTemplates 0 = .ok (.aload_n 1, 1) := by decide +kernel
theorem dX10_countTemplates_1 : decode cX10_countTemplates 1 = .ok (.getfield 106, 3) := by decide +kernel
theorem dX10_countTemplates_4 : decode cX10_countTemplates 4 = .ok (.sipush 219, 3) := by decide +kernel
theorem dX10_countTemplates_7 : decode cX10_countTemplates 7 = .ok (.if_icmp .ne 23, 3) := by decide +kernel
theorem dX10_countTemplates_10 : decode cX10_countTemplates 10 = .ok (.aload_n 0, 1) := by decide +kernel
theorem dX10_countTemplates_11 : decode cX10_countTemplates 11 = .ok (.dup, 1) := by decide +kernel
theorem dX10_countTemplates_12 : decode cX10_countTemplates 12 = .ok (.getfield 177, 3) := by decide +kernel
theorem dX10_countTemplates_15 : decode cX10_countTemplates 15 = .ok (.aload_n 0, 1) := by decide +kernel
theorem dX10_countTemplates_16 : decode cX10_countTemplates 16 = .ok (.aload_n 1, 1) := by decide +kernel
theorem dX10_countTemplates_17 : decode cX10_countTemplates 17 = .ok (.getfield 111, 3) := by decide +kernel
theorem dX10_countTemplates_20 : decode cX10_countTemplates 20 = .ok (.getfield 68, 3) := by decide +kernel
theorem dX10_countTemplates_23 : decode cX10_countTemplates 23 = .ok (.invokevirtual 180, 3) := by decide +kernel
theorem dX10_countTemplates_26 : decode cX10_countTemplates 26 = .ok (.iadd, 1) := by decide +kernel
theorem dX10_countTemplates_27 : decode cX10_countTemplates 27 = .ok (.putfield 177, 3) := by decide +kernel
theorem dX10_countTemplates_30 : decode cX10_countTemplates 30 = .ok (.aload_n 1, 1) := by decide +kernel
theorem dX10_countTemplates_31 : decode cX10_countTemplates 31 = .ok (.getfield 106, 3) := by decide +kernel
theorem dX10_countTemplates_34 : decode cX10_countTemplates 34 = .ok (.sipush 212, 3) := by decide +kernel
theorem dX10_countTemplates_37 : decode cX10_countTemplates 37 = .ok (.if_icmp .eq 43, 3) := by decide +kernel
theorem dX10_countTemplates_40 : decode cX10_countTemplates 40 = .ok (.aload_n 1, 1) := by decide +kernel
theorem dX10_countTemplates_41 : decode cX10_countTemplates 41 = .ok (.getfield 106, 3) := by decide +kernel
theorem dX10_countTemplates_44 : decode cX10_countTemplates 44 = .ok (.sipush 219, 3) := by decide +kernel
theorem dX10_countTemplates_47 : decode cX10_countTemplates 47 = .ok (.if_icmp .eq 33, 3) := by decide +kernel
theorem dX10_countTemplates_50 : decode cX10_countTemplates 50 = .ok (.aload_n 1, 1) := by decide +kernel
theorem dX10_countTemplates_51 : decode cX10_countTemplates 51 = .ok (.getfield 106, 3) := by decide +kernel
theorem dX10_countTemplates_54 : decode cX10_countTemplates 54 = .ok (.sipush 206, 3) := by decide +kernel
theorem dX10_countTemplates_57 : decode cX10_countTemplates 57 = .ok (.if_icmp .eq 23, 3) := by decide +kernel
theorem dX10_countTemplates_60 : decode cX10_countTemplates 60 = .ok (.aload_n 1, 1) := by decide +kernel
theorem dX10_countTemplates_61 : decode cX10_countTemplates 61 = .ok (.getfield 106, 3) := by decide +kernel
theorem dX10_countTemplates_64 : decode cX10_countTemplates 64 = .ok (.sipush 207, 3) := by decide +kernel
theorem dX10_countTemplates_67 : decode cX10_countTemplates 67 = .ok (.if_icmp .eq 13, 3) := by decide +kernel
theorem dX10_countTemplates_70 : decode cX10_countTemplates 70 = .ok (.aload_n 1, 1) := by decide +kernel
theorem dX10_countTemplates_71 : decode cX10_countTemplates 71 = .ok (.getfield 106, 3) := by decide +kernel
theorem dX10_countTemplates_74 : decode cX10_countTemplates 74 = .ok (.sipush 214, 3) := by decide +kernel
theorem dX10_countTemplates_77 : decode cX10_countTemplates 77 = .ok (.if_icmp .ne 20, 3) := by decide +kernel
theorem dX10_countTemplates_80 : decode cX10_countTemplates 80 = .ok (.aload_n 0, 1) := by decide +kernel
theorem dX10_countTemplates_81 : decode cX10_countTemplates 81 = .ok (.dup, 1) := by decide +kernel
theorem dX10_countTemplates_82 : decode cX10_countTemplates 82 = .ok (.getfield 177, 3) := by decide +kernel
theorem dX10_countTemplates_85 : decode cX10_countTemplates 85 = .ok (.aload_n 0, 1) := by decide +kernel
theorem dX10_countTemplates_86 : decode cX10_countTemplates 86 = .ok (.aload_n 1, 1) := by decide +kernel
theorem dX10_countTemplates_87 : decode cX10_countTemplates 87 = .ok (.getfield 120, 3) := by decide +kernel
theorem dX10_countTemplates_90 : decode cX10_countTemplates 90 = .ok (.invokevirtual 180, 3) := by decide +kernel
theorem dX10_countTemplates_93 : decode cX10_countTemplates 93 = .ok (.iadd, 1) := by decide +kernel
theorem dX10_countTemplates_94 : decode cX10_countTemplates 94 = .ok (.putfield 177, 3) := by decide +kernel
theorem dX10_countTemplates_97 : decode cX10_countTemplates 97 = .ok (.aload_n 0, 1) := by decide +kernel
theorem dX10_countTemplates_98 : decode cX10_countTemplates 98 = .ok (.getfield 177, 3) := by decide +kernel
theorem dX10_countTemplates_101 : decode cX10_countTemplates 101 = .ok (.bipush 60, 2) := by decide +kernel
theorem dX10_countTemplates_103 : decode cX10_countTemplates 103 = .ok (.if_icmp .le 26, 3) := by decide +kernel
theorem dX10_countTemplates_106 : decode cX10_countTemplates 106 = .ok (.aload_n 0, 1) := by decide +kernel
theorem dX10_countTemplates_107 : decode cX10_countTemplates 107 = .ok (.aload_n 0, 1) := by decide +kernel
theorem dX10_countTemplates_108 : decode cX10_countTemplates 108 = .ok (.getfield 15, 3) := by decide +kernel
theorem dX10_countTemplates_111 : decode cX10_countTemplates 111 = .ok (.ifCond .ge 10, 3) := by decide +kernel
theorem dX10_countTemplates_114 : decode cX10_countTemplates 114 = .ok (.aload_n 1, 1) := by decide +kernel
theorem dX10_countTemplates_115 : decode cX10_countTemplates 115 = .ok (.getfield 137, 3) := by decide +kernel
theorem dX10_countTemplates_118 : decode cX10_countTemplates 118 = .ok (.goto 7, 3) := by decide +kernel
theorem dX10_countTemplates_121 : decode cX10_countTemplates 121 = .ok (.aload_n 0, 1) := by decide +kernel
theorem dX10_countTemplates_122 : decode cX10_countTemplates 122 = .ok (.getfield 15, 3) := by decide +kernel
theorem dX10_countTemplates_125 : decode cX10_countTemplates 125 = .ok (.putfield 15, 3) := by decide +kernel
theorem dX10_countTemplates_128 : decode cX10_countTemplates 128 = .ok (.return_, 1) := by decide +kernel
theorem dX10_countTemplates_129 : decode cX10_countTemplates 129 = .ok (.aload_n 1, 1) := by decide +kernel
theorem dX10_countTemplates_130 : decode cX10_countTemplates 130 = .ok (.getfield 114, 3) := by decide +kernel
theorem dX10_countTemplates_133 : decode cX10_countTemplates 133 = .ok (.ifnull 11, 3) := by decide +kernel
theorem dX10_countTemplates_136 : decode cX10_countTemplates 136 = .ok (.aload_n 0, 1) := by decide +kernel
theorem dX10_countTemplates_137 : decode cX10_countTemplates 137 = .ok (.aload_n 1, 1) := by decide +kernel
theorem dX10_countTemplates_138 : decode cX10_countTemplates 138 = .ok (.getfield 114, 3) := by decide +kernel
theorem dX10_countTemplates_141 : decode cX10_countTemplates 141 = .ok (.invokevirtual 82, 3) := by decide +kernel
theorem dX10_countTemplates_144 : decode cX10_countTemplates 144 = .ok (.aload_n 1, 1) := by decide +kernel
theorem dX10_countTemplates_145 : decode cX10_countTemplates 145 = .ok (.getfield 117, 3) := by decide +kernel
theorem dX10_countTemplates_148 : decode cX10_countTemplates 148 = .ok (.ifnull 11, 3) := by decide +kernel
theorem dX10_countTemplates_151 : decode cX10_countTemplates 151 = .ok (.aload_n 0, 1) := by decide +kernel
theorem dX10_countTemplates_152 : decode cX10_countTemplates 152 = .ok (.aload_n 1, 1) := by decide +kernel
theorem dX10_countTemplates_153 : decode cX10_countTemplates 153 = .ok (.getfield 117, 3) := by decide +kernel
theorem dX10_countTemplates_156 : decode cX10_countTemplates 156 = .ok (.invokevirtual 82, 3) := by decide +kernel
theorem dX10_countTemplates_159 : decode cX10_countTemplates 159 = .ok (.iconst 0, 1) := by decide +kernel
theorem dX10_countTemplates_160 : decode cX10_countTemplates 160 = .ok (.istore_n 2, 1) := by decide +kernel
theorem dX10_countTemplates_161 : decode cX10_countTemplates 161 = .ok (.aload_n 1, 1) := by decide +kernel
theorem dX10_countTemplates_162 : decode cX10_countTemplates 162 = .ok (.getfield 106, 3) := by decide +kernel
theorem dX10_countTemplates_165 : decode cX10_countTemplates 165 = .ok (.sipush 401, 3) := by decide +kernel
theorem dX10_countTemplates_168 : decode cX10_countTemplates 168 = .ok (.if_icmp .ne 35, 3) := by decide +kernel
theorem dX10_countTemplates_171 : decode cX10_countTemplates 171 = .ok (.iload_n 2, 1) := by decide +kernel
theorem dX10_countTemplates_172 : decode cX10_countTemplates 172 = .ok (.aload_n 1, 1) := by decide +kernel
theorem dX10_countTemplates_173 : decode cX10_countTemplates 173 = .ok (.getfield 171, 3) := by decide +kernel
theorem dX10_countTemplates_176 : decode cX10_countTemplates 176 = .ok (.invokevirtual 50, 3) := by decide +kernel
theorem dX10_countTemplates_179 : decode cX10_countTemplates 179 = .ok (.if_icmp .ge 24, 3) := by decide +kernel
theorem dX10_countTemplates_182 : decode cX10_countTemplates 182 = .ok (.aload_n 0, 1) := by decide +kernel
theorem dX10_countTemplates_183 : decode cX10_countTemplates 183 = .ok (.aload_n 1, 1) := by decide +kernel
theorem dX10_countTemplates_184 : decode cX10_countTemplates 184 = .ok (.getfield 171, 3) := by decide +kernel
theorem dX10_countTemplates_187 : decode cX10_countTemplates 187 = .ok (.iload_n 2, 1) := by decide +kernel
theorem dX10_countTemplates_188 : decode cX10_countTemplates 188 = .ok (.invokevirtual 56, 3) := by decide +kernel
theorem dX10_countTemplates_191 : decode cX10_countTemplates 191 = .ok (.checkcast 107, 3) := by decide +kernel
theorem dX10_countTemplates_194 : decode cX10_countTemplates 194 = .ok (.invokevirtual 82, 3) := by decide +kernel
theorem dX10_countTemplates_197 : decode cX10_countTemplates 197 = .ok (.iinc 2 1, 3) := by decide +kernel
theorem dX10_countTemplates_200 : decode cX10_countTemplates 200 = .ok (.goto (-39), 3) := by decide +kernel
theorem dX10_countTemplates_203 : decode cX10_countTemplates 203 = .ok (.return_, 1) := by decide +kernel
theorem dX10_leavesOf_0 : decode cX10_leavesOf 0 = .ok (.iconst 0, 1) := by decide +kernel
theorem dX10_leavesOf_1 : decode cX10_leavesOf 1 = .ok (.istore_n 2, 1) := by decide +kernel
theorem dX10_leavesOf_2 : decode cX10_leavesOf 2 = .ok (.iconst 0, 1) := by decide +kernel
theorem dX10_leavesOf_3 : decode cX10_leavesOf 3 = .ok (.istore_n 3, 1) := by decide +kernel
theorem dX10_leavesOf_4 : decode cX10_leavesOf 4 = .ok (.aload_n 0, 1) := by decide +kernel
theorem dX10_leavesOf_5 : decode cX10_leavesOf 5 = .ok (.getfield 34, 3) := by decide +kernel
theorem dX10_leavesOf_8 : decode cX10_leavesOf 8 = .ok (.iload_n 3, 1) := by decide +kernel
theorem dX10_leavesOf_9 : decode cX10_leavesOf 9 = .ok (.iinc 3 1, 3) := by decide +kernel
theorem dX10_leavesOf_12 : decode cX10_leavesOf 12 = .ok (.iload_n 1, 1) := by decide +kernel
theorem dX10_leavesOf_13 : decode cX10_leavesOf 13 = .ok (.iastore, 1) := by decide +kernel
theorem dX10_leavesOf_14 : decode cX10_leavesOf 14 = .ok (.iconst 0, 1) := by decide +kernel
theorem dX10_leavesOf_15 : decode cX10_leavesOf 15 = .ok (.istore 4, 2) := by decide +kernel
theorem dX10_leavesOf_17 : decode cX10_leavesOf 17 = .ok (.iload 4, 2) := by decide +kernel
theorem dX10_leavesOf_19 : decode cX10_leavesOf 19 = .ok (.ldc 99, 2) := by decide +kernel
theorem dX10_leavesOf_21 : decode cX10_leavesOf 21 = .ok (.if_icmp .ge 85, 3) := by decide +kernel
theorem dX10_leavesOf_24 : decode cX10_leavesOf 24 = .ok (.iload_n 3, 1) := by decide +kernel
theorem dX10_leavesOf_25 : decode cX10_leavesOf 25 = .ok (.ifCond .le 81, 3) := by decide +kernel
theorem dX10_leavesOf_28 : decode cX10_leavesOf 28 = .ok (.iload_n 2, 1) := by decide +kernel
theorem dX10_leavesOf_29 : decode cX10_leavesOf 29 = .ok (.bipush 60, 2) := by decide +kernel
theorem dX10_leavesOf_31 : decode cX10_leavesOf 31 = .ok (.if_icmp .gt 75, 3) := by decide +kernel
theorem dX10_leavesOf_34 : decode cX10_leavesOf 34 = .ok (.aload_n 0, 1) := by decide +kernel
theorem dX10_leavesOf_35 : decode cX10_leavesOf 35 = .ok (.aload_n 0, 1) := by decide +kernel
theorem dX10_leavesOf_36 : decode cX10_leavesOf 36 = .ok (.getfield 34, 3) := by decide +kernel
theorem dX10_leavesOf_39 : decode cX10_leavesOf 39 = .ok (.iinc 3 (-1), 3) := by decide +kernel
theorem dX10_leavesOf_42 : decode cX10_leavesOf 42 = .ok (.iload_n 3, 1) := by decide +kernel
theorem dX10_leavesOf_43 : decode cX10_leavesOf 43 = .ok (.iaload, 1) := by decide +kernel
theorem dX10_leavesOf_44 : decode cX10_leavesOf 44 = .ok (.invokevirtual 89, 3) := by decide +kernel
theorem dX10_leavesOf_47 : decode cX10_leavesOf 47 = .ok (.istore 5, 2) := by decide +kernel
theorem dX10_leavesOf_49 : decode cX10_leavesOf 49 = .ok (.aload_n 0, 1) := by decide +kernel
theorem dX10_leavesOf_50 : decode cX10_leavesOf 50 = .ok (.getfield 18, 3) := by decide +kernel
theorem dX10_leavesOf_53 : decode cX10_leavesOf 53 = .ok (.iload 5, 2) := by decide +kernel
theorem dX10_leavesOf_55 : decode cX10_leavesOf 55 = .ok (.iaload, 1) := by decide +kernel
theorem dX10_leavesOf_56 : decode cX10_leavesOf 56 = .ok (.sipush 206, 3) := by decide +kernel
theorem dX10_leavesOf_59 : decode cX10_leavesOf 59 = .ok (.if_icmp .ne 38, 3) := by decide +kernel
theorem dX10_leavesOf_62 : decode cX10_leavesOf 62 = .ok (.aload_n 0, 1) := by decide +kernel
theorem dX10_leavesOf_63 : decode cX10_leavesOf 63 = .ok (.getfield 34, 3) := by decide +kernel
theorem dX10_leavesOf_66 : decode cX10_leavesOf 66 = .ok (.iload_n 3, 1) := by decide +kernel
theorem dX10_leavesOf_67 : decode cX10_leavesOf 67 = .ok (.iinc 3 1, 3) := by decide +kernel
theorem dX10_leavesOf_70 : decode cX10_leavesOf 70 = .ok (.aload_n 0, 1) := by decide +kernel
theorem dX10_leavesOf_71 : decode cX10_leavesOf 71 = .ok (.getfield 25, 3) := by decide +kernel
theorem dX10_leavesOf_74 : decode cX10_leavesOf 74 = .ok (.iload 5, 2) := by decide +kernel
theorem dX10_leavesOf_76 : decode cX10_leavesOf 76 = .ok (.iaload, 1) := by decide +kernel
theorem dX10_leavesOf_77 : decode cX10_leavesOf 77 = .ok (.iastore, 1) := by decide +kernel
theorem dX10_leavesOf_78 : decode cX10_leavesOf 78 = .ok (.aload_n 0, 1) := by decide +kernel
theorem dX10_leavesOf_79 : decode cX10_leavesOf 79 = .ok (.getfield 34, 3) := by decide +kernel
theorem dX10_leavesOf_82 : decode cX10_leavesOf 82 = .ok (.iload_n 3, 1) := by decide +kernel
theorem dX10_leavesOf_83 : decode cX10_leavesOf 83 = .ok (.iinc 3 1, 3) := by decide +kernel
theorem dX10_leavesOf_86 : decode cX10_leavesOf 86 = .ok (.aload_n 0, 1) := by decide +kernel
theorem dX10_leavesOf_87 : decode cX10_leavesOf 87 = .ok (.getfield 22, 3) := by decide +kernel
theorem dX10_leavesOf_90 : decode cX10_leavesOf 90 = .ok (.iload 5, 2) := by decide +kernel
theorem dX10_leavesOf_92 : decode cX10_leavesOf 92 = .ok (.iaload, 1) := by decide +kernel
theorem dX10_leavesOf_93 : decode cX10_leavesOf 93 = .ok (.iastore, 1) := by decide +kernel
theorem dX10_leavesOf_94 : decode cX10_leavesOf 94 = .ok (.goto 6, 3) := by decide +kernel
theorem dX10_leavesOf_97 : decode cX10_leavesOf 97 = .ok (.iinc 2 1, 3) := by decide +kernel
theorem dX10_leavesOf_100 : decode cX10_leavesOf 100 = .ok (.iinc 4 1, 3) := by decide +kernel
theorem dX10_leavesOf_103 : decode cX10_leavesOf 103 = .ok (.goto (-86), 3) := by decide +kernel
theorem dX10_leavesOf_106 : decode cX10_leavesOf 106 = .ok (.iload_n 2, 1) := by decide +kernel
theorem dX10_leavesOf_107 : decode cX10_leavesOf 107 = .ok (.ireturn, 1) := by decide +kernel
theorem dX11_doubleSign_0 : decode cX11_doubleSign 0 = .ok (.iload_n 1, 1) := by decide +kernel
theorem dX11_doubleSign_1 : decode cX11_doubleSign 1 = .ok (.iconst 1, 1) := by decide +kernel
theorem dX11_doubleSign_2 : decode cX11_doubleSign 2 = .ok (.iadd, 1) := by decide +kernel
theorem dX11_doubleSign_3 : decode cX11_doubleSign 3 = .ok (.aload_n 0, 1) := by decide +kernel
theorem dX11_doubleSign_4 : decode cX11_doubleSign 4 = .ok (.getfield 15, 3) := by decide +kernel
theorem dX11_doubleSign_7 : decode cX11_doubleSign 7 = .ok (.invokevirtual 19, 3) := by decide +kernel
theorem dX11_doubleSign_10 : decode cX11_doubleSign 10 = .ok (.if_icmp .lt 5, 3) := by decide +kernel
theorem dX11_doubleSign_13 : decode cX11_doubleSign 13 = .ok (.iconst 0, 1) := by decide +kernel
theorem dX11_doubleSign_14 : decode cX11_doubleSign 14 = .ok (.ireturn, 1) := by decide +kernel
theorem dX11_doubleSign_15 : decode cX11_doubleSign 15 = .ok (.aload_n 0, 1) := by decide +kernel
theorem dX11_doubleSign_16 : decode cX11_doubleSign 16 = .ok (.getfield 15, 3) := by decide +kernel
theorem dX11_doubleSign_19 : decode cX11_doubleSign 19 = .ok (.iload_n 1, 1) := by decide +kernel
theorem dX11_doubleSign_20 : decode cX11_doubleSign 20 = .ok (.iconst 1, 1) := by decide +kernel
theorem dX11_doubleSign_21 : decode cX11_doubleSign 21 = .ok (.iadd, 1) := by decide +kernel
theorem dX11_doubleSign_22 : decode cX11_doubleSign 22 = .ok (.invokevirtual 38, 3) := by decide +kernel
theorem dX11_doubleSign_25 : decode cX11_doubleSign 25 = .ok (.istore_n 2, 1) := by decide +kernel
theorem dX11_doubleSign_26 : decode cX11_doubleSign 26 = .ok (.aload_n 0, 1) := by decide +kernel
theorem dX11_doubleSign_27 : decode cX11_doubleSign 27 = .ok (.getfield 15, 3) := by decide +kernel
theorem dX11_doubleSign_30 : decode cX11_doubleSign 30 = .ok (.iload_n 1, 1) := by decide +kernel
theorem dX11_doubleSign_31 : decode cX11_doubleSign 31 = .ok (.invokevirtual 38, 3) := by decide +kernel
theorem dX11_doubleSign_34 : decode cX11_doubleSign 34 = .ok (.lookupswitch 120 #[(38, 78), (45, 106), (60, 50), (62, 64), (124, 92)], 50) := by decide +kernel
theorem dX11_doubleSign_84 : decode cX11_doubleSign 84 = .ok (.iload_n 2, 1) := by decide +kernel
theorem dX11_doubleSign_85 : decode cX11_doubleSign 85 = .ok (.bipush 61, 2) := by decide +kernel
theorem dX11_doubleSign_87 : decode cX11_doubleSign 87 = .ok (.if_icmp .ne 9, 3) := by decide +kernel
theorem dX11_doubleSign_90 : decode cX11_doubleSign 90 = .ok (.sipush 300, 3) := by decide +kernel
theorem dX11_doubleSign_93 : decode cX11_doubleSign 93 = .ok (.goto 4, 3) := by decide +kernel
theorem dX11_doubleSign_96 : decode cX11_doubleSign 96 = .ok (.iconst 0, 1) := by decide +kernel
theorem dX11_doubleSign_97 : decode cX11_doubleSign 97 = .ok (.ireturn, 1) := by decide +kernel
theorem dX11_doubleSign_98 : decode cX11_doubleSign 98 = .ok (.iload_n 2, 1) := by decide +kernel
theorem dX11_doubleSign_99 : decode cX11_doubleSign 99 = .ok (.bipush 61, 2) := by decide +kernel
theorem dX11_doubleSign_101 : decode cX11_doubleSign 101 = .ok (.if_icmp .ne 9, 3) := by decide +kernel
theorem dX11_doubleSign_104 : decode cX11_doubleSign 104 = .ok (.sipush 301, 3) := by decide +kernel
theorem dX11_doubleSign_107 : decode cX11_doubleSign 107 = .ok (.goto 4, 3) := by decide +kernel
theorem dX11_doubleSign_110 : decode cX11_doubleSign 110 = .ok (.iconst 0, 1) := by decide +kernel
theorem dX11_doubleSign_111 : decode cX11_doubleSign 111 = .ok (.ireturn, 1) := by decide +kernel
theorem dX11_doubleSign_112 : decode cX11_doubleSign 112 = .ok (.iload_n 2, 1) := by decide +kernel
theorem dX11_doubleSign_113 : decode cX11_doubleSign 113 = .ok (.bipush 38, 2) := by decide +kernel
theorem dX11_doubleSign_115 : decode cX11_doubleSign 115 = .ok (.if_icmp .ne 9, 3) := by decide +kernel
theorem dX11_doubleSign_118 : decode cX11_doubleSign 118 = .ok (.sipush 302, 3) := by decide +kernel
theorem dX11_doubleSign_121 : decode cX11_doubleSign 121 = .ok (.goto 4, 3) := by decide +kernel
theorem dX11_doubleSign_124 : decode cX11_doubleSign 124 = .ok (.iconst 0, 1) := by decide +kernel
theorem dX11_doubleSign_125 : decode cX11_doubleSign 125 = .ok (.ireturn, 1) := by decide +kernel
theorem dX11_doubleSign_126 : decode cX11_doubleSign 126 = .ok (.iload_n 2, 1) := by decide +kernel
theorem dX11_doubleSign_127 : decode cX11_doubleSign 127 = .ok (.bipush 124, 2) := by decide +kernel
theorem dX11_doubleSign_129 : decode cX11_doubleSign 129 = .ok (.if_icmp .ne 9, 3) := by decide +kernel
theorem dX11_doubleSign_132 : decode cX11_doubleSign 132 = .ok (.sipush 303, 3) := by decide +kernel
theorem dX11_doubleSign_135 : decode cX11_doubleSign 135 = .ok (.goto 4, 3) := by decide +kernel
theorem dX11_doubleSign_138 : decode cX11_doubleSign 138 = .ok (.iconst 0, 1) := by decide +kernel
theorem dX11_doubleSign_139 : decode cX11_doubleSign 139 = .ok (.ireturn, 1) := by decide +kernel
theorem dX11_doubleSign_140 : decode cX11_doubleSign 140 = .ok (.iload_n 2, 1) := by decide +kernel
theorem dX11_doubleSign_141 : decode cX11_doubleSign 141 = .ok (.bipush 62, 2) := by decide +kernel
theorem dX11_doubleSign_143 : decode cX11_doubleSign 143 = .ok (.if_icmp .ne 9, 3) := by decide +kernel
theorem dX11_doubleSign_146 : decode cX11_doubleSign 146 = .ok (.sipush 304, 3) := by decide +kernel
theorem dX11_doubleSign_149 : decode cX11_doubleSign 149 = .ok (.goto 4, 3) := by decide +kernel
theorem dX11_doubleSign_152 : decode cX11_doubleSign 152 = .ok (.iconst 0, 1) := by decide +kernel
theorem dX11_doubleSign_153 : decode cX11_doubleSign 153 = .ok (.ireturn, 1) := by decide +kernel
theorem dX11_doubleSign_154 : decode cX11_doubleSign 154 = .ok (.iconst 0, 1) := by decide +kernel
theorem dX11_doubleSign_155 : decode cX11_doubleSign 155 = .ok (.ireturn, 1) := by decide +kernel
