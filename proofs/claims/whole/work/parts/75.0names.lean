theorem dX13_ofName_0 : decode cX13_ofName 0 = .ok (.aload_n 0, 1) := by decide +kernel
theorem dX13_ofName_1 : decode cX13_ofName 1 = .ok (.getfield 240, 3) := by decide +kernel
theorem dX13_ofName_4 : decode cX13_ofName 4 = .ok (.iload_n 1, 1) := by decide +kernel
theorem dX13_ofName_5 : decode cX13_ofName 5 = .ok (.iaload, 1) := by decide +kernel
theorem dX13_ofName_6 : decode cX13_ofName 6 = .ok (.istore_n 2, 1) := by decide +kernel
theorem dX13_ofName_7 : decode cX13_ofName 7 = .ok (.aload_n 0, 1) := by decide +kernel
theorem dX13_ofName_8 : decode cX13_ofName 8 = .ok (.getfield 142, 3) := by decide +kernel
theorem dX13_ofName_11 : decode cX13_ofName 11 = .ok (.iload_n 2, 1) := by decide +kernel
theorem dX13_ofName_12 : decode cX13_ofName 12 = .ok (.iaload, 1) := by decide +kernel
theorem dX13_ofName_13 : decode cX13_ofName 13 = .ok (.invokestatic 782, 3) := by decide +kernel
theorem dX13_ofName_16 : decode cX13_ofName 16 = .ok (.ifCond .eq 32, 3) := by decide +kernel
theorem dX13_ofName_19 : decode cX13_ofName 19 = .ok (.aload_n 0, 1) := by decide +kernel
theorem dX13_ofName_20 : decode cX13_ofName 20 = .ok (.aload_n 0, 1) := by decide +kernel
theorem dX13_ofName_21 : decode cX13_ofName 21 = .ok (.getfield 142, 3) := by decide +kernel
theorem dX13_ofName_24 : decode cX13_ofName 24 = .ok (.iload_n 2, 1) := by decide +kernel
theorem dX13_ofName_25 : decode cX13_ofName 25 = .ok (.iaload, 1) := by decide +kernel
theorem dX13_ofName_26 : decode cX13_ofName 26 = .ok (.aload_n 0, 1) := by decide +kernel
theorem dX13_ofName_27 : decode cX13_ofName 27 = .ok (.iconst (-1), 1) := by decide +kernel
theorem dX13_ofName_28 : decode cX13_ofName 28 = .ok (.aload_n 0, 1) := by decide +kernel
theorem dX13_ofName_29 : decode cX13_ofName 29 = .ok (.iconst 0, 1) := by decide +kernel
theorem dX13_ofName_30 : decode cX13_ofName 30 = .ok (.iload_n 1, 1) := by decide +kernel
theorem dX13_ofName_31 : decode cX13_ofName 31 = .ok (.iconst 1, 1) := by decide +kernel
theorem dX13_ofName_32 : decode cX13_ofName 32 = .ok (.lconst 0, 1) := by decide +kernel
theorem dX13_ofName_33 : decode cX13_ofName 33 = .ok (.iconst (-1), 1) := by decide +kernel
theorem dX13_ofName_34 : decode cX13_ofName 34 = .ok (.invokevirtual 778, 3) := by decide +kernel
theorem dX13_ofName_37 : decode cX13_ofName 37 = .ok (.iconst (-1), 1) := by decide +kernel
theorem dX13_ofName_38 : decode cX13_ofName 38 = .ok (.invokevirtual 785, 3) := by decide +kernel
theorem dX13_ofName_41 : decode cX13_ofName 41 = .ok (.iconst (-1), 1) := by decide +kernel
theorem dX13_ofName_42 : decode cX13_ofName 42 = .ok (.iconst (-1), 1) := by decide +kernel
theorem dX13_ofName_43 : decode cX13_ofName 43 = .ok (.iconst (-1), 1) := by decide +kernel
theorem dX13_ofName_44 : decode cX13_ofName 44 = .ok (.invokevirtual 788, 3) := by decide +kernel
theorem dX13_ofName_47 : decode cX13_ofName 47 = .ok (.ireturn, 1) := by decide +kernel
theorem dX13_ofName_48 : decode cX13_ofName 48 = .ok (.iload_n 2, 1) := by decide +kernel
theorem dX13_ofName_49 : decode cX13_ofName 49 = .ok (.ireturn, 1) := by decide +kernel
theorem dX13_richOf_0 : decode cX13_richOf 0 = .ok (.aload_n 0, 1) := by decide +kernel
theorem dX13_richOf_1 : decode cX13_richOf 1 = .ok (.getfield 29, 3) := by decide +kernel
theorem dX13_richOf_4 : decode cX13_richOf 4 = .ok (.iload_n 1, 1) := by decide +kernel
theorem dX13_richOf_5 : decode cX13_richOf 5 = .ok (.iaload, 1) := by decide +kernel
theorem dX13_richOf_6 : decode cX13_richOf 6 = .ok (.tableswitch 1156 1 19 #[90, 182, 400, 497, 591, 635, 698, 743, 743, 749, 813, 813, 813, 821, 1148, 1156, 877, 901, 935], 90) := by decide +kernel
theorem dX13_richOf_96 : decode cX13_richOf 96 = .ok (.aload_n 0, 1) := by decide +kernel
theorem dX13_richOf_97 : decode cX13_richOf 97 = .ok (.iload_n 2, 1) := by decide +kernel
theorem dX13_richOf_98 : decode cX13_richOf 98 = .ok (.invokevirtual 835, 3) := by decide +kernel
theorem dX13_richOf_101 : decode cX13_richOf 101 = .ok (.aload_n 0, 1) := by decide +kernel
theorem dX13_richOf_102 : decode cX13_richOf 102 = .ok (.aload_n 0, 1) := by decide +kernel
theorem dX13_richOf_103 : decode cX13_richOf 103 = .ok (.getfield 128, 3) := by decide +kernel
theorem dX13_richOf_106 : decode cX13_richOf 106 = .ok (.iload_n 1, 1) := by decide +kernel
theorem dX13_richOf_107 : decode cX13_richOf 107 = .ok (.iaload, 1) := by decide +kernel
theorem dX13_richOf_108 : decode cX13_richOf 108 = .ok (.iconst (-1), 1) := by decide +kernel
theorem dX13_richOf_109 : decode cX13_richOf 109 = .ok (.iconst 0, 1) := by decide +kernel
theorem dX13_richOf_110 : decode cX13_richOf 110 = .ok (.invokevirtual 806, 3) := by decide +kernel
theorem dX13_richOf_113 : decode cX13_richOf 113 = .ok (.istore 4, 2) := by decide +kernel
theorem dX13_richOf_115 : decode cX13_richOf 115 = .ok (.aload_n 0, 1) := by decide +kernel
theorem dX13_richOf_116 : decode cX13_richOf 116 = .ok (.getfield 107, 3) := by decide +kernel
theorem dX13_richOf_119 : decode cX13_richOf 119 = .ok (.aload_n 0, 1) := by decide +kernel
theorem dX13_richOf_120 : decode cX13_richOf 120 = .ok (.getfield 38, 3) := by decide +kernel
theorem dX13_richOf_123 : decode cX13_richOf 123 = .ok (.iload_n 1, 1) := by decide +kernel
theorem dX13_richOf_124 : decode cX13_richOf 124 = .ok (.iaload, 1) := by decide +kernel
theorem dX13_richOf_125 : decode cX13_richOf 125 = .ok (.iaload, 1) := by decide +kernel
theorem dX13_richOf_126 : decode cX13_richOf 126 = .ok (.istore 5, 2) := by decide +kernel
theorem dX13_richOf_128 : decode cX13_richOf 128 = .ok (.aload_n 0, 1) := by decide +kernel
theorem dX13_richOf_129 : decode cX13_richOf 129 = .ok (.getfield 240, 3) := by decide +kernel
theorem dX13_richOf_132 : decode cX13_richOf 132 = .ok (.iload 5, 2) := by decide +kernel
theorem dX13_richOf_134 : decode cX13_richOf 134 = .ok (.aload_n 0, 1) := by decide +kernel
theorem dX13_richOf_135 : decode cX13_richOf 135 = .ok (.aload_n 0, 1) := by decide +kernel
theorem dX13_richOf_136 : decode cX13_richOf 136 = .ok (.getfield 44, 3) := by decide +kernel
theorem dX13_richOf_139 : decode cX13_richOf 139 = .ok (.iload_n 1, 1) := by decide +kernel
theorem dX13_richOf_140 : decode cX13_richOf 140 = .ok (.iaload, 1) := by decide +kernel
theorem dX13_richOf_141 : decode cX13_richOf 141 = .ok (.iload_n 2, 1) := by decide +kernel
theorem dX13_richOf_142 : decode cX13_richOf 142 = .ok (.iload_n 3, 1) := by decide +kernel
theorem dX13_richOf_143 : decode cX13_richOf 143 = .ok (.invokevirtual 838, 3) := by decide +kernel
theorem dX13_richOf_146 : decode cX13_richOf 146 = .ok (.iastore, 1) := by decide +kernel
theorem dX13_richOf_147 : decode cX13_richOf 147 = .ok (.aload_n 0, 1) := by decide +kernel
theorem dX13_richOf_148 : decode cX13_richOf 148 = .ok (.iload_n 2, 1) := by decide +kernel
theorem dX13_richOf_149 : decode cX13_richOf 149 = .ok (.iload 5, 2) := by decide +kernel
theorem dX13_richOf_151 : decode cX13_richOf 151 = .ok (.aload_n 0, 1) := by decide +kernel
theorem dX13_richOf_152 : decode cX13_richOf 152 = .ok (.getfield 240, 3) := by decide +kernel
theorem dX13_richOf_155 : decode cX13_richOf 155 = .ok (.iload 5, 2) := by decide +kernel
theorem dX13_richOf_157 : decode cX13_richOf 157 = .ok (.iaload, 1) := by decide +kernel
theorem dX13_richOf_158 : decode cX13_richOf 158 = .ok (.invokevirtual 826, 3) := by decide +kernel
theorem dX13_richOf_161 : decode cX13_richOf 161 = .ok (.istore 6, 2) := by decide +kernel
theorem dX13_richOf_163 : decode cX13_richOf 163 = .ok (.aload_n 0, 1) := by decide +kernel
theorem dX13_richOf_164 : decode cX13_richOf 164 = .ok (.aload_n 0, 1) := by decide +kernel
theorem dX13_richOf_165 : decode cX13_richOf 165 = .ok (.aload_n 0, 1) := by decide +kernel
theorem dX13_richOf_166 : decode cX13_richOf 166 = .ok (.getfield 47, 3) := by decide +kernel
theorem dX13_richOf_169 : decode cX13_richOf 169 = .ok (.iload_n 1, 1) := by decide +kernel
theorem dX13_richOf_170 : decode cX13_richOf 170 = .ok (.iaload, 1) := by decide +kernel
theorem dX13_richOf_171 : decode cX13_richOf 171 = .ok (.iload 6, 2) := by decide +kernel
theorem dX13_richOf_173 : decode cX13_richOf 173 = .ok (.iload_n 3, 1) := by decide +kernel
theorem dX13_richOf_174 : decode cX13_richOf 174 = .ok (.invokevirtual 838, 3) := by decide +kernel
theorem dX13_richOf_177 : decode cX13_richOf 177 = .ok (.iload 4, 2) := by decide +kernel
theorem dX13_richOf_179 : decode cX13_richOf 179 = .ok (.iload 6, 2) := by decide +kernel
theorem dX13_richOf_181 : decode cX13_richOf 181 = .ok (.iload_n 3, 1) := by decide +kernel
theorem dX13_richOf_182 : decode cX13_richOf 182 = .ok (.invokevirtual 822, 3) := by decide +kernel
theorem dX13_richOf_185 : decode cX13_richOf 185 = .ok (.iload 4, 2) := by decide +kernel
theorem dX13_richOf_187 : decode cX13_richOf 187 = .ok (.ireturn, 1) := by decide +kernel
theorem dX13_richOf_188 : decode cX13_richOf 188 = .ok (.aload_n 0, 1) := by decide +kernel
theorem dX13_richOf_189 : decode cX13_richOf 189 = .ok (.iload_n 2, 1) := by decide +kernel
theorem dX13_richOf_190 : decode cX13_richOf 190 = .ok (.invokevirtual 835, 3) := by decide +kernel
theorem dX13_richOf_193 : decode cX13_richOf 193 = .ok (.aload_n 0, 1) := by decide +kernel
theorem dX13_richOf_194 : decode cX13_richOf 194 = .ok (.aload_n 0, 1) := by decide +kernel
theorem dX13_richOf_195 : decode cX13_richOf 195 = .ok (.getfield 128, 3) := by decide +kernel
theorem dX13_richOf_198 : decode cX13_richOf 198 = .ok (.iload_n 1, 1) := by decide +kernel
theorem dX13_richOf_199 : decode cX13_richOf 199 = .ok (.iaload, 1) := by decide +kernel
theorem dX13_richOf_200 : decode cX13_richOf 200 = .ok (.iconst (-1), 1) := by decide +kernel
theorem dX13_richOf_201 : decode cX13_richOf 201 = .ok (.iconst 0, 1) := by decide +kernel
theorem dX13_richOf_202 : decode cX13_richOf 202 = .ok (.invokevirtual 806, 3) := by decide +kernel
theorem dX13_richOf_205 : decode cX13_richOf 205 = .ok (.istore 4, 2) := by decide +kernel
theorem dX13_richOf_207 : decode cX13_richOf 207 = .ok (.aload_n 0, 1) := by decide +kernel
theorem dX13_richOf_208 : decode cX13_richOf 208 = .ok (.getfield 107, 3) := by decide +kernel
theorem dX13_richOf_211 : decode cX13_richOf 211 = .ok (.aload_n 0, 1) := by decide +kernel
theorem dX13_richOf_212 : decode cX13_richOf 212 = .ok (.getfield 38, 3) := by decide +kernel
theorem dX13_richOf_215 : decode cX13_richOf 215 = .ok (.iload_n 1, 1) := by decide +kernel
theorem dX13_richOf_216 : decode cX13_richOf 216 = .ok (.iaload, 1) := by decide +kernel
theorem dX13_richOf_217 : decode cX13_richOf 217 = .ok (.iaload, 1) := by decide +kernel
theorem dX13_richOf_218 : decode cX13_richOf 218 = .ok (.istore 5, 2) := by decide +kernel
theorem dX13_richOf_220 : decode cX13_richOf 220 = .ok (.aload_n 0, 1) := by decide +kernel
theorem dX13_richOf_221 : decode cX13_richOf 221 = .ok (.iload_n 1, 1) := by decide +kernel
theorem dX13_richOf_222 : decode cX13_richOf 222 = .ok (.invokevirtual 658, 3) := by decide +kernel
theorem dX13_richOf_225 : decode cX13_richOf 225 = .ok (.istore 6, 2) := by decide +kernel
theorem dX13_richOf_227 : decode cX13_richOf 227 = .ok (.aload_n 0, 1) := by decide +kernel
theorem dX13_richOf_228 : decode cX13_richOf 228 = .ok (.iload_n 2, 1) := by decide +kernel
theorem dX13_richOf_229 : decode cX13_richOf 229 = .ok (.invokevirtual 835, 3) := by decide +kernel
theorem dX13_richOf_232 : decode cX13_richOf 232 = .ok (.aload_n 0, 1) := by decide +kernel
theorem dX13_richOf_233 : decode cX13_richOf 233 = .ok (.getfield 240, 3) := by decide +kernel
theorem dX13_richOf_236 : decode cX13_richOf 236 = .ok (.iload 5, 2) := by decide +kernel
theorem dX13_richOf_238 : decode cX13_richOf 238 = .ok (.aload_n 0, 1) := by decide +kernel
theorem dX13_richOf_239 : decode cX13_richOf 239 = .ok (.aload_n 0, 1) := by decide +kernel
theorem dX13_richOf_240 : decode cX13_richOf 240 = .ok (.getfield 104, 3) := by decide +kernel
theorem dX13_richOf_243 : decode cX13_richOf 243 = .ok (.iload 5, 2) := by decide +kernel
theorem dX13_richOf_245 : decode cX13_richOf 245 = .ok (.iaload, 1) := by decide +kernel
theorem dX13_richOf_246 : decode cX13_richOf 246 = .ok (.aload_n 0, 1) := by decide +kernel
theorem dX13_richOf_247 : decode cX13_richOf 247 = .ok (.getfield 41, 3) := by decide +kernel
theorem dX13_richOf_250 : decode cX13_richOf 250 = .ok (.iload_n 1, 1) := by decide +kernel
theorem dX13_richOf_251 : decode cX13_richOf 251 = .ok (.iaload, 1) := by decide +kernel
theorem dX13_richOf_252 : decode cX13_richOf 252 = .ok (.iload 6, 2) := by decide +kernel
theorem dX13_richOf_254 : decode cX13_richOf 254 = .ok (.invokevirtual 806, 3) := by decide +kernel
theorem dX13_richOf_257 : decode cX13_richOf 257 = .ok (.iastore, 1) := by decide +kernel
theorem dX13_richOf_258 : decode cX13_richOf 258 = .ok (.aload_n 0, 1) := by decide +kernel
theorem dX13_richOf_259 : decode cX13_richOf 259 = .ok (.iload_n 2, 1) := by decide +kernel
theorem dX13_richOf_260 : decode cX13_richOf 260 = .ok (.iload 5, 2) := by decide +kernel
theorem dX13_richOf_262 : decode cX13_richOf 262 = .ok (.aload_n 0, 1) := by decide +kernel
theorem dX13_richOf_263 : decode cX13_richOf 263 = .ok (.getfield 240, 3) := by decide +kernel
theorem dX13_richOf_266 : decode cX13_richOf 266 = .ok (.iload 5, 2) := by decide +kernel
theorem dX13_richOf_268 : decode cX13_richOf 268 = .ok (.iaload, 1) := by decide +kernel
theorem dX13_richOf_269 : decode cX13_richOf 269 = .ok (.invokevirtual 826, 3) := by decide +kernel
theorem dX13_richOf_272 : decode cX13_richOf 272 = .ok (.istore 7, 2) := by decide +kernel
theorem dX13_richOf_274 : decode cX13_richOf 274 = .ok (.iload 7, 2) := by decide +kernel
theorem dX13_richOf_276 : decode cX13_richOf 276 = .ok (.istore 8, 2) := by decide +kernel
theorem dX13_richOf_278 : decode cX13_richOf 278 = .ok (.aload_n 0, 1) := by decide +kernel
theorem dX13_richOf_279 : decode cX13_richOf 279 = .ok (.getfield 240, 3) := by decide +kernel
theorem dX13_richOf_282 : decode cX13_richOf 282 = .ok (.iload 5, 2) := by decide +kernel
theorem dX13_richOf_284 : decode cX13_richOf 284 = .ok (.iaload, 1) := by decide +kernel
theorem dX13_richOf_285 : decode cX13_richOf 285 = .ok (.istore 9, 2) := by decide +kernel
theorem dX13_richOf_287 : decode cX13_richOf 287 = .ok (.iconst 0, 1) := by decide +kernel
theorem dX13_richOf_288 : decode cX13_richOf 288 = .ok (.istore 10, 2) := by decide +kernel
theorem dX13_richOf_290 : decode cX13_richOf 290 = .ok (.iload 10, 2) := by decide +kernel
theorem dX13_richOf_292 : decode cX13_richOf 292 = .ok (.iload 6, 2) := by decide +kernel
theorem dX13_richOf_294 : decode cX13_richOf 294 = .ok (.if_icmp .ge 65, 3) := by decide +kernel
theorem dX13_richOf_297 : decode cX13_richOf 297 = .ok (.aload_n 0, 1) := by decide +kernel
theorem dX13_richOf_298 : decode cX13_richOf 298 = .ok (.getfield 107, 3) := by decide +kernel
theorem dX13_richOf_301 : decode cX13_richOf 301 = .ok (.aload_n 0, 1) := by decide +kernel
theorem dX13_richOf_302 : decode cX13_richOf 302 = .ok (.getfield 41, 3) := by decide +kernel
theorem dX13_richOf_305 : decode cX13_richOf 305 = .ok (.iload_n 1, 1) := by decide +kernel
theorem dX13_richOf_306 : decode cX13_richOf 306 = .ok (.iaload, 1) := by decide +kernel
theorem dX13_richOf_307 : decode cX13_richOf 307 = .ok (.iload 10, 2) := by decide +kernel
theorem dX13_richOf_309 : decode cX13_richOf 309 = .ok (.iadd, 1) := by decide +kernel
theorem dX13_richOf_310 : decode cX13_richOf 310 = .ok (.iaload, 1) := by decide +kernel
theorem dX13_richOf_311 : decode cX13_richOf 311 = .ok (.istore 11, 2) := by decide +kernel
theorem dX13_richOf_313 : decode cX13_richOf 313 = .ok (.aload_n 0, 1) := by decide +kernel
theorem dX13_richOf_314 : decode cX13_richOf 314 = .ok (.getfield 240, 3) := by decide +kernel
theorem dX13_richOf_317 : decode cX13_richOf 317 = .ok (.iload 11, 2) := by decide +kernel
theorem dX13_richOf_319 : decode cX13_richOf 319 = .ok (.aload_n 0, 1) := by decide +kernel
theorem dX13_richOf_320 : decode cX13_richOf 320 = .ok (.getfield 151, 3) := by decide +kernel
theorem dX13_richOf_323 : decode cX13_richOf 323 = .ok (.iload 9, 2) := by decide +kernel
theorem dX13_richOf_325 : decode cX13_richOf 325 = .ok (.iaload, 1) := by decide +kernel
theorem dX13_richOf_326 : decode cX13_richOf 326 = .ok (.iastore, 1) := by decide +kernel
theorem dX13_richOf_327 : decode cX13_richOf 327 = .ok (.aload_n 0, 1) := by decide +kernel
theorem dX13_richOf_328 : decode cX13_richOf 328 = .ok (.iload 8, 2) := by decide +kernel
theorem dX13_richOf_330 : decode cX13_richOf 330 = .ok (.iload 11, 2) := by decide +kernel
theorem dX13_richOf_332 : decode cX13_richOf 332 = .ok (.aload_n 0, 1) := by decide +kernel
theorem dX13_richOf_333 : decode cX13_richOf 333 = .ok (.getfield 240, 3) := by decide +kernel
theorem dX13_richOf_336 : decode cX13_richOf 336 = .ok (.iload 11, 2) := by decide +kernel
theorem dX13_richOf_338 : decode cX13_richOf 338 = .ok (.iaload, 1) := by decide +kernel
theorem dX13_richOf_339 : decode cX13_richOf 339 = .ok (.invokevirtual 826, 3) := by decide +kernel
theorem dX13_richOf_342 : decode cX13_richOf 342 = .ok (.istore 8, 2) := by decide +kernel
theorem dX13_richOf_344 : decode cX13_richOf 344 = .ok (.aload_n 0, 1) := by decide +kernel
theorem dX13_richOf_345 : decode cX13_richOf 345 = .ok (.getfield 154, 3) := by decide +kernel
theorem dX13_richOf_348 : decode cX13_richOf 348 = .ok (.iload 9, 2) := by decide +kernel
theorem dX13_richOf_350 : decode cX13_richOf 350 = .ok (.iaload, 1) := by decide +kernel
theorem dX13_richOf_351 : decode cX13_richOf 351 = .ok (.istore 9, 2) := by decide +kernel
theorem dX13_richOf_353 : decode cX13_richOf 353 = .ok (.iinc 10 1, 3) := by decide +kernel
theorem dX13_richOf_356 : decode cX13_richOf 356 = .ok (.goto (-66), 3) := by decide +kernel
theorem dX13_richOf_359 : decode cX13_richOf 359 = .ok (.aload_n 0, 1) := by decide +kernel
theorem dX13_richOf_360 : decode cX13_richOf 360 = .ok (.aload_n 0, 1) := by decide +kernel
theorem dX13_richOf_361 : decode cX13_richOf 361 = .ok (.aload_n 0, 1) := by decide +kernel
theorem dX13_richOf_362 : decode cX13_richOf 362 = .ok (.getfield 44, 3) := by decide +kernel
theorem dX13_richOf_365 : decode cX13_richOf 365 = .ok (.iload_n 1, 1) := by decide +kernel
theorem dX13_richOf_366 : decode cX13_richOf 366 = .ok (.iaload, 1) := by decide +kernel
theorem dX13_richOf_367 : decode cX13_richOf 367 = .ok (.iload 8, 2) := by decide +kernel
theorem dX13_richOf_369 : decode cX13_richOf 369 = .ok (.iload_n 3, 1) := by decide +kernel
theorem dX13_richOf_370 : decode cX13_richOf 370 = .ok (.invokevirtual 838, 3) := by decide +kernel
theorem dX13_richOf_373 : decode cX13_richOf 373 = .ok (.iload 9, 2) := by decide +kernel
theorem dX13_richOf_375 : decode cX13_richOf 375 = .ok (.iload 8, 2) := by decide +kernel
theorem dX13_richOf_377 : decode cX13_richOf 377 = .ok (.iload_n 3, 1) := by decide +kernel
theorem dX13_richOf_378 : decode cX13_richOf 378 = .ok (.invokevirtual 822, 3) := by decide +kernel
theorem dX13_richOf_381 : decode cX13_richOf 381 = .ok (.aload_n 0, 1) := by decide +kernel
theorem dX13_richOf_382 : decode cX13_richOf 382 = .ok (.aload_n 0, 1) := by decide +kernel
theorem dX13_richOf_383 : decode cX13_richOf 383 = .ok (.aload_n 0, 1) := by decide +kernel
theorem dX13_richOf_384 : decode cX13_richOf 384 = .ok (.getfield 47, 3) := by decide +kernel
theorem dX13_richOf_387 : decode cX13_richOf 387 = .ok (.iload_n 1, 1) := by decide +kernel
theorem dX13_richOf_388 : decode cX13_richOf 388 = .ok (.iaload, 1) := by decide +kernel
theorem dX13_richOf_389 : decode cX13_richOf 389 = .ok (.iload 7, 2) := by decide +kernel
theorem dX13_richOf_391 : decode cX13_richOf 391 = .ok (.iload_n 3, 1) := by decide +kernel
theorem dX13_richOf_392 : decode cX13_richOf 392 = .ok (.invokevirtual 838, 3) := by decide +kernel
theorem dX13_richOf_395 : decode cX13_richOf 395 = .ok (.iload 4, 2) := by decide +kernel
theorem dX13_richOf_397 : decode cX13_richOf 397 = .ok (.iload 7, 2) := by decide +kernel
theorem dX13_richOf_399 : decode cX13_richOf 399 = .ok (.iload_n 3, 1) := by decide +kernel
theorem dX13_richOf_400 : decode cX13_richOf 400 = .ok (.invokevirtual 822, 3) := by decide +kernel
theorem dX13_richOf_403 : decode cX13_richOf 403 = .ok (.iload 4, 2) := by decide +kernel
theorem dX13_richOf_405 : decode cX13_richOf 405 = .ok (.ireturn, 1) := by decide +kernel
theorem dX13_richOf_406 : decode cX13_richOf 406 = .ok (.aload_n 0, 1) := by decide +kernel
theorem dX13_richOf_407 : decode cX13_richOf 407 = .ok (.iload_n 2, 1) := by decide +kernel
theorem dX13_richOf_408 : decode cX13_richOf 408 = .ok (.invokevirtual 835, 3) := by decide +kernel
theorem dX13_richOf_411 : decode cX13_richOf 411 = .ok (.aload_n 0, 1) := by decide +kernel
theorem dX13_richOf_412 : decode cX13_richOf 412 = .ok (.aload_n 0, 1) := by decide +kernel
theorem dX13_richOf_413 : decode cX13_richOf 413 = .ok (.getfield 128, 3) := by decide +kernel
theorem dX13_richOf_416 : decode cX13_richOf 416 = .ok (.iload_n 1, 1) := by decide +kernel
theorem dX13_richOf_417 : decode cX13_richOf 417 = .ok (.iaload, 1) := by decide +kernel
theorem dX13_richOf_418 : decode cX13_richOf 418 = .ok (.aload_n 0, 1) := by decide +kernel
theorem dX13_richOf_419 : decode cX13_richOf 419 = .ok (.getfield 38, 3) := by decide +kernel
theorem dX13_richOf_422 : decode cX13_richOf 422 = .ok (.iload_n 1, 1) := by decide +kernel
theorem dX13_richOf_423 : decode cX13_richOf 423 = .ok (.iaload, 1) := by decide +kernel
theorem dX13_richOf_424 : decode cX13_richOf 424 = .ok (.iconst 1, 1) := by decide +kernel
theorem dX13_richOf_425 : decode cX13_richOf 425 = .ok (.invokevirtual 806, 3) := by decide +kernel
theorem dX13_richOf_428 : decode cX13_richOf 428 = .ok (.istore 4, 2) := by decide +kernel
theorem dX13_richOf_430 : decode cX13_richOf 430 = .ok (.aload_n 0, 1) := by decide +kernel
theorem dX13_richOf_431 : decode cX13_richOf 431 = .ok (.getfield 107, 3) := by decide +kernel
theorem dX13_richOf_434 : decode cX13_richOf 434 = .ok (.aload_n 0, 1) := by decide +kernel
theorem dX13_richOf_435 : decode cX13_richOf 435 = .ok (.getfield 38, 3) := by decide +kernel
theorem dX13_richOf_438 : decode cX13_richOf 438 = .ok (.iload_n 1, 1) := by decide +kernel
theorem dX13_richOf_439 : decode cX13_richOf 439 = .ok (.iaload, 1) := by decide +kernel
theorem dX13_richOf_440 : decode cX13_richOf 440 = .ok (.iaload, 1) := by decide +kernel
theorem dX13_richOf_441 : decode cX13_richOf 441 = .ok (.istore 5, 2) := by decide +kernel
theorem dX13_richOf_443 : decode cX13_richOf 443 = .ok (.aload_n 0, 1) := by decide +kernel
theorem dX13_richOf_444 : decode cX13_richOf 444 = .ok (.getfield 240, 3) := by decide +kernel
theorem dX13_richOf_447 : decode cX13_richOf 447 = .ok (.iload 5, 2) := by decide +kernel
theorem dX13_richOf_449 : decode cX13_richOf 449 = .ok (.aload_n 0, 1) := by decide +kernel
theorem dX13_richOf_450 : decode cX13_richOf 450 = .ok (.getfield 151, 3) := by decide +kernel
theorem dX13_richOf_453 : decode cX13_richOf 453 = .ok (.iload 4, 2) := by decide +kernel
theorem dX13_richOf_455 : decode cX13_richOf 455 = .ok (.iaload, 1) := by decide +kernel
theorem dX13_richOf_456 : decode cX13_richOf 456 = .ok (.iastore, 1) := by decide +kernel
theorem dX13_richOf_457 : decode cX13_richOf 457 = .ok (.aload_n 0, 1) := by decide +kernel
theorem dX13_richOf_458 : decode cX13_richOf 458 = .ok (.iload_n 2, 1) := by decide +kernel
theorem dX13_richOf_459 : decode cX13_richOf 459 = .ok (.iload 5, 2) := by decide +kernel
theorem dX13_richOf_461 : decode cX13_richOf 461 = .ok (.aload_n 0, 1) := by decide +kernel
theorem dX13_richOf_462 : decode cX13_richOf 462 = .ok (.getfield 240, 3) := by decide +kernel
theorem dX13_richOf_465 : decode cX13_richOf 465 = .ok (.iload 5, 2) := by decide +kernel
theorem dX13_richOf_467 : decode cX13_richOf 467 = .ok (.iaload, 1) := by decide +kernel
theorem dX13_richOf_468 : decode cX13_richOf 468 = .ok (.invokevirtual 826, 3) := by decide +kernel
theorem dX13_richOf_471 : decode cX13_richOf 471 = .ok (.istore 6, 2) := by decide +kernel
theorem dX13_richOf_473 : decode cX13_richOf 473 = .ok (.aload_n 0, 1) := by decide +kernel
theorem dX13_richOf_474 : decode cX13_richOf 474 = .ok (.aload_n 0, 1) := by decide +kernel
theorem dX13_richOf_475 : decode cX13_richOf 475 = .ok (.aload_n 0, 1) := by decide +kernel
theorem dX13_richOf_476 : decode cX13_richOf 476 = .ok (.getfield 44, 3) := by decide +kernel
theorem dX13_richOf_479 : decode cX13_richOf 479 = .ok (.iload_n 1, 1) := by decide +kernel
theorem dX13_richOf_480 : decode cX13_richOf 480 = .ok (.iaload, 1) := by decide +kernel
theorem dX13_richOf_481 : decode cX13_richOf 481 = .ok (.iload 6, 2) := by decide +kernel
theorem dX13_richOf_483 : decode cX13_richOf 483 = .ok (.iload_n 3, 1) := by decide +kernel
theorem dX13_richOf_484 : decode cX13_richOf 484 = .ok (.invokevirtual 838, 3) := by decide +kernel
theorem dX13_richOf_487 : decode cX13_richOf 487 = .ok (.aload_n 0, 1) := by decide +kernel
theorem dX13_richOf_488 : decode cX13_richOf 488 = .ok (.getfield 154, 3) := by decide +kernel
theorem dX13_richOf_491 : decode cX13_richOf 491 = .ok (.iload 4, 2) := by decide +kernel
theorem dX13_richOf_493 : decode cX13_richOf 493 = .ok (.iaload, 1) := by decide +kernel
theorem dX13_richOf_494 : decode cX13_richOf 494 = .ok (.iload 6, 2) := by decide +kernel
theorem dX13_richOf_496 : decode cX13_richOf 496 = .ok (.iload_n 3, 1) := by decide +kernel
theorem dX13_richOf_497 : decode cX13_richOf 497 = .ok (.invokevirtual 822, 3) := by decide +kernel
theorem dX13_richOf_500 : decode cX13_richOf 500 = .ok (.iload 4, 2) := by decide +kernel
theorem dX13_richOf_502 : decode cX13_richOf 502 = .ok (.ireturn, 1) := by decide +kernel
theorem dX13_richOf_503 : decode cX13_richOf 503 = .ok (.aload_n 0, 1) := by decide +kernel
theorem dX13_richOf_504 : decode cX13_richOf 504 = .ok (.iload_n 2, 1) := by decide +kernel
theorem dX13_richOf_505 : decode cX13_richOf 505 = .ok (.invokevirtual 835, 3) := by decide +kernel
theorem dX13_richOf_508 : decode cX13_richOf 508 = .ok (.aload_n 0, 1) := by decide +kernel
theorem dX13_richOf_509 : decode cX13_richOf 509 = .ok (.aload_n 0, 1) := by decide +kernel
theorem dX13_richOf_510 : decode cX13_richOf 510 = .ok (.getfield 128, 3) := by decide +kernel
theorem dX13_richOf_513 : decode cX13_richOf 513 = .ok (.iload_n 1, 1) := by decide +kernel
theorem dX13_richOf_514 : decode cX13_richOf 514 = .ok (.iaload, 1) := by decide +kernel
theorem dX13_richOf_515 : decode cX13_richOf 515 = .ok (.iconst (-1), 1) := by decide +kernel
theorem dX13_richOf_516 : decode cX13_richOf 516 = .ok (.iconst 0, 1) := by decide +kernel
theorem dX13_richOf_517 : decode cX13_richOf 517 = .ok (.invokevirtual 806, 3) := by decide +kernel
theorem dX13_richOf_520 : decode cX13_richOf 520 = .ok (.istore 4, 2) := by decide +kernel
theorem dX13_richOf_522 : decode cX13_richOf 522 = .ok (.aload_n 0, 1) := by decide +kernel
theorem dX13_richOf_523 : decode cX13_richOf 523 = .ok (.iload_n 3, 1) := by decide +kernel
theorem dX13_richOf_524 : decode cX13_richOf 524 = .ok (.aload_n 0, 1) := by decide +kernel
theorem dX13_richOf_525 : decode cX13_richOf 525 = .ok (.getfield 38, 3) := by decide +kernel
theorem dX13_richOf_528 : decode cX13_richOf 528 = .ok (.iload_n 1, 1) := by decide +kernel
theorem dX13_richOf_529 : decode cX13_richOf 529 = .ok (.iaload, 1) := by decide +kernel
theorem dX13_richOf_530 : decode cX13_richOf 530 = .ok (.iconst 1, 1) := by decide +kernel
theorem dX13_richOf_531 : decode cX13_richOf 531 = .ok (.invokevirtual 841, 3) := by decide +kernel
theorem dX13_richOf_534 : decode cX13_richOf 534 = .ok (.istore 5, 2) := by decide +kernel
theorem dX13_richOf_536 : decode cX13_richOf 536 = .ok (.aload_n 0, 1) := by decide +kernel
theorem dX13_richOf_537 : decode cX13_richOf 537 = .ok (.aload_n 0, 1) := by decide +kernel
theorem dX13_richOf_538 : decode cX13_richOf 538 = .ok (.aload_n 0, 1) := by decide +kernel
theorem dX13_richOf_539 : decode cX13_richOf 539 = .ok (.getfield 44, 3) := by decide +kernel
theorem dX13_richOf_542 : decode cX13_richOf 542 = .ok (.iload_n 1, 1) := by decide +kernel
theorem dX13_richOf_543 : decode cX13_richOf 543 = .ok (.iaload, 1) := by decide +kernel
theorem dX13_richOf_544 : decode cX13_richOf 544 = .ok (.iload_n 2, 1) := by decide +kernel
theorem dX13_richOf_545 : decode cX13_richOf 545 = .ok (.iload 5, 2) := by decide +kernel
theorem dX13_richOf_547 : decode cX13_richOf 547 = .ok (.invokevirtual 838, 3) := by decide +kernel
theorem dX13_richOf_550 : decode cX13_richOf 550 = .ok (.iload 4, 2) := by decide +kernel
theorem dX13_richOf_552 : decode cX13_richOf 552 = .ok (.iload_n 2, 1) := by decide +kernel
theorem dX13_richOf_553 : decode cX13_richOf 553 = .ok (.iload 5, 2) := by decide +kernel
theorem dX13_richOf_555 : decode cX13_richOf 555 = .ok (.invokevirtual 822, 3) := by decide +kernel
theorem dX13_richOf_558 : decode cX13_richOf 558 = .ok (.aload_n 0, 1) := by decide +kernel
theorem dX13_richOf_559 : decode cX13_richOf 559 = .ok (.iload_n 3, 1) := by decide +kernel
theorem dX13_richOf_560 : decode cX13_richOf 560 = .ok (.aload_n 0, 1) := by decide +kernel
theorem dX13_richOf_561 : decode cX13_richOf 561 = .ok (.getfield 38, 3) := by decide +kernel
theorem dX13_richOf_564 : decode cX13_richOf 564 = .ok (.iload_n 1, 1) := by decide +kernel
theorem dX13_richOf_565 : decode cX13_richOf 565 = .ok (.iaload, 1) := by decide +kernel
theorem dX13_richOf_566 : decode cX13_richOf 566 = .ok (.iconst 0, 1) := by decide +kernel
theorem dX13_richOf_567 : decode cX13_richOf 567 = .ok (.invokevirtual 841, 3) := by decide +kernel
theorem dX13_richOf_570 : decode cX13_richOf 570 = .ok (.istore 6, 2) := by decide +kernel
theorem dX13_richOf_572 : decode cX13_richOf 572 = .ok (.aload_n 0, 1) := by decide +kernel
theorem dX13_richOf_573 : decode cX13_richOf 573 = .ok (.aload_n 0, 1) := by decide +kernel
theorem dX13_richOf_574 : decode cX13_richOf 574 = .ok (.aload_n 0, 1) := by decide +kernel
theorem dX13_richOf_575 : decode cX13_richOf 575 = .ok (.getfield 47, 3) := by decide +kernel
theorem dX13_richOf_578 : decode cX13_richOf 578 = .ok (.iload_n 1, 1) := by decide +kernel
theorem dX13_richOf_579 : decode cX13_richOf 579 = .ok (.iaload, 1) := by decide +kernel
theorem dX13_richOf_580 : decode cX13_richOf 580 = .ok (.iload_n 2, 1) := by decide +kernel
theorem dX13_richOf_581 : decode cX13_richOf 581 = .ok (.iload 6, 2) := by decide +kernel
theorem dX13_richOf_583 : decode cX13_richOf 583 = .ok (.invokevirtual 838, 3) := by decide +kernel
theorem dX13_richOf_586 : decode cX13_richOf 586 = .ok (.iload 4, 2) := by decide +kernel
theorem dX13_richOf_588 : decode cX13_richOf 588 = .ok (.iload_n 2, 1) := by decide +kernel
theorem dX13_richOf_589 : decode cX13_richOf 589 = .ok (.iload 6, 2) := by decide +kernel
theorem dX13_richOf_591 : decode cX13_richOf 591 = .ok (.invokevirtual 822, 3) := by decide +kernel
theorem dX13_richOf_594 : decode cX13_richOf 594 = .ok (.iload 4, 2) := by decide +kernel
theorem dX13_richOf_596 : decode cX13_richOf 596 = .ok (.ireturn, 1) := by decide +kernel
theorem dX13_richOf_597 : decode cX13_richOf 597 = .ok (.aload_n 0, 1) := by decide +kernel
theorem dX13_richOf_598 : decode cX13_richOf 598 = .ok (.iconst 0, 1) := by decide +kernel
theorem dX13_richOf_599 : decode cX13_richOf 599 = .ok (.aload_n 0, 1) := by decide +kernel
theorem dX13_richOf_600 : decode cX13_richOf 600 = .ok (.getfield 38, 3) := by decide +kernel
theorem dX13_richOf_603 : decode cX13_richOf 603 = .ok (.iload_n 1, 1) := by decide +kernel
theorem dX13_richOf_604 : decode cX13_richOf 604 = .ok (.iaload, 1) := by decide +kernel
theorem dX13_richOf_605 : decode cX13_richOf 605 = .ok (.iconst (-1), 1) := by decide +kernel
theorem dX13_richOf_606 : decode cX13_richOf 606 = .ok (.iload_n 2, 1) := by decide +kernel
theorem dX13_richOf_607 : decode cX13_richOf 607 = .ok (.iload_n 3, 1) := by decide +kernel
theorem dX13_richOf_608 : decode cX13_richOf 608 = .ok (.aload_n 0, 1) := by decide +kernel
theorem dX13_richOf_609 : decode cX13_richOf 609 = .ok (.getfield 32, 3) := by decide +kernel
theorem dX13_richOf_612 : decode cX13_richOf 612 = .ok (.iload_n 1, 1) := by decide +kernel
theorem dX13_richOf_613 : decode cX13_richOf 613 = .ok (.iaload, 1) := by decide +kernel
theorem dX13_richOf_614 : decode cX13_richOf 614 = .ok (.invokevirtual 844, 3) := by decide +kernel
theorem dX13_richOf_617 : decode cX13_richOf 617 = .ok (.aload_n 0, 1) := by decide +kernel
theorem dX13_richOf_618 : decode cX13_richOf 618 = .ok (.aload_n 0, 1) := by decide +kernel
theorem dX13_richOf_619 : decode cX13_richOf 619 = .ok (.getfield 44, 3) := by decide +kernel
theorem dX13_richOf_622 : decode cX13_richOf 622 = .ok (.iload_n 1, 1) := by decide +kernel
theorem dX13_richOf_623 : decode cX13_richOf 623 = .ok (.iaload, 1) := by decide +kernel
theorem dX13_richOf_624 : decode cX13_richOf 624 = .ok (.iload_n 2, 1) := by decide +kernel
theorem dX13_richOf_625 : decode cX13_richOf 625 = .ok (.aload_n 0, 1) := by decide +kernel
theorem dX13_richOf_626 : decode cX13_richOf 626 = .ok (.iload_n 3, 1) := by decide +kernel
theorem dX13_richOf_627 : decode cX13_richOf 627 = .ok (.aload_n 0, 1) := by decide +kernel
theorem dX13_richOf_628 : decode cX13_richOf 628 = .ok (.getfield 38, 3) := by decide +kernel
theorem dX13_richOf_631 : decode cX13_richOf 631 = .ok (.iload_n 1, 1) := by decide +kernel
theorem dX13_richOf_632 : decode cX13_richOf 632 = .ok (.iaload, 1) := by decide +kernel
theorem dX13_richOf_633 : decode cX13_richOf 633 = .ok (.iconst 1, 1) := by decide +kernel
theorem dX13_richOf_634 : decode cX13_richOf 634 = .ok (.invokevirtual 841, 3) := by decide +kernel
theorem dX13_richOf_637 : decode cX13_richOf 637 = .ok (.invokevirtual 838, 3) := by decide +kernel
theorem dX13_richOf_640 : decode cX13_richOf 640 = .ok (.ireturn, 1) := by decide +kernel
theorem dX13_richOf_641 : decode cX13_richOf 641 = .ok (.aload_n 0, 1) := by decide +kernel
theorem dX13_richOf_642 : decode cX13_richOf 642 = .ok (.iconst 2, 1) := by decide +kernel
theorem dX13_richOf_643 : decode cX13_richOf 643 = .ok (.aload_n 0, 1) := by decide +kernel
theorem dX13_richOf_644 : decode cX13_richOf 644 = .ok (.getfield 41, 3) := by decide +kernel
theorem dX13_richOf_647 : decode cX13_richOf 647 = .ok (.iload_n 1, 1) := by decide +kernel
theorem dX13_richOf_648 : decode cX13_richOf 648 = .ok (.iaload, 1) := by decide +kernel
theorem dX13_richOf_649 : decode cX13_richOf 649 = .ok (.iconst (-1), 1) := by decide +kernel
theorem dX13_richOf_650 : decode cX13_richOf 650 = .ok (.iload_n 2, 1) := by decide +kernel
theorem dX13_richOf_651 : decode cX13_richOf 651 = .ok (.iload_n 3, 1) := by decide +kernel
theorem dX13_richOf_652 : decode cX13_richOf 652 = .ok (.aload_n 0, 1) := by decide +kernel
theorem dX13_richOf_653 : decode cX13_richOf 653 = .ok (.getfield 35, 3) := by decide +kernel
theorem dX13_richOf_656 : decode cX13_richOf 656 = .ok (.iload_n 1, 1) := by decide +kernel
theorem dX13_richOf_657 : decode cX13_richOf 657 = .ok (.iaload, 1) := by decide +kernel
theorem dX13_richOf_658 : decode cX13_richOf 658 = .ok (.invokevirtual 844, 3) := by decide +kernel
theorem dX13_richOf_661 : decode cX13_richOf 661 = .ok (.aload_n 0, 1) := by decide +kernel
theorem dX13_richOf_662 : decode cX13_richOf 662 = .ok (.iconst 3, 1) := by decide +kernel
theorem dX13_richOf_663 : decode cX13_richOf 663 = .ok (.aload_n 0, 1) := by decide +kernel
theorem dX13_richOf_664 : decode cX13_richOf 664 = .ok (.getfield 41, 3) := by decide +kernel
theorem dX13_richOf_667 : decode cX13_richOf 667 = .ok (.iload_n 1, 1) := by decide +kernel
theorem dX13_richOf_668 : decode cX13_richOf 668 = .ok (.iaload, 1) := by decide +kernel
theorem dX13_richOf_669 : decode cX13_richOf 669 = .ok (.aload_n 0, 1) := by decide +kernel
theorem dX13_richOf_670 : decode cX13_richOf 670 = .ok (.getfield 107, 3) := by decide +kernel
theorem dX13_richOf_673 : decode cX13_richOf 673 = .ok (.aload_n 0, 1) := by decide +kernel
theorem dX13_richOf_674 : decode cX13_richOf 674 = .ok (.getfield 38, 3) := by decide +kernel
theorem dX13_richOf_677 : decode cX13_richOf 677 = .ok (.iload_n 1, 1) := by decide +kernel
theorem dX13_richOf_678 : decode cX13_richOf 678 = .ok (.iaload, 1) := by decide +kernel
theorem dX13_richOf_679 : decode cX13_richOf 679 = .ok (.iaload, 1) := by decide +kernel
theorem dX13_richOf_680 : decode cX13_richOf 680 = .ok (.iload_n 2, 1) := by decide +kernel
theorem dX13_richOf_681 : decode cX13_richOf 681 = .ok (.iload_n 3, 1) := by decide +kernel
theorem dX13_richOf_682 : decode cX13_richOf 682 = .ok (.aload_n 0, 1) := by decide +kernel
theorem dX13_richOf_683 : decode cX13_richOf 683 = .ok (.getfield 35, 3) := by decide +kernel
theorem dX13_richOf_686 : decode cX13_richOf 686 = .ok (.iload_n 1, 1) := by decide +kernel
theorem dX13_richOf_687 : decode cX13_richOf 687 = .ok (.iaload, 1) := by decide +kernel
theorem dX13_richOf_688 : decode cX13_richOf 688 = .ok (.invokevirtual 844, 3) := by decide +kernel
theorem dX13_richOf_691 : decode cX13_richOf 691 = .ok (.aload_n 0, 1) := by decide +kernel
theorem dX13_richOf_692 : decode cX13_richOf 692 = .ok (.aload_n 0, 1) := by decide +kernel
theorem dX13_richOf_693 : decode cX13_richOf 693 = .ok (.getfield 47, 3) := by decide +kernel
theorem dX13_richOf_696 : decode cX13_richOf 696 = .ok (.iload_n 1, 1) := by decide +kernel
theorem dX13_richOf_697 : decode cX13_richOf 697 = .ok (.iaload, 1) := by decide +kernel
theorem dX13_richOf_698 : decode cX13_richOf 698 = .ok (.iload_n 2, 1) := by decide +kernel
theorem dX13_richOf_699 : decode cX13_richOf 699 = .ok (.iload_n 3, 1) := by decide +kernel
theorem dX13_richOf_700 : decode cX13_richOf 700 = .ok (.invokevirtual 838, 3) := by decide +kernel
theorem dX13_richOf_703 : decode cX13_richOf 703 = .ok (.ireturn, 1) := by decide +kernel
theorem dX13_richOf_704 : decode cX13_richOf 704 = .ok (.aload_n 0, 1) := by decide +kernel
theorem dX13_richOf_705 : decode cX13_richOf 705 = .ok (.iconst 2, 1) := by decide +kernel
theorem dX13_richOf_706 : decode cX13_richOf 706 = .ok (.aload_n 0, 1) := by decide +kernel
theorem dX13_richOf_707 : decode cX13_richOf 707 = .ok (.getfield 41, 3) := by decide +kernel
theorem dX13_richOf_710 : decode cX13_richOf 710 = .ok (.iload_n 1, 1) := by decide +kernel
theorem dX13_richOf_711 : decode cX13_richOf 711 = .ok (.iaload, 1) := by decide +kernel
theorem dX13_richOf_712 : decode cX13_richOf 712 = .ok (.iconst (-1), 1) := by decide +kernel
theorem dX13_richOf_713 : decode cX13_richOf 713 = .ok (.iload_n 2, 1) := by decide +kernel
theorem dX13_richOf_714 : decode cX13_richOf 714 = .ok (.iload_n 3, 1) := by decide +kernel
theorem dX13_richOf_715 : decode cX13_richOf 715 = .ok (.aload_n 0, 1) := by decide +kernel
theorem dX13_richOf_716 : decode cX13_richOf 716 = .ok (.getfield 32, 3) := by decide +kernel
theorem dX13_richOf_719 : decode cX13_richOf 719 = .ok (.iload_n 1, 1) := by decide +kernel
theorem dX13_richOf_720 : decode cX13_richOf 720 = .ok (.iaload, 1) := by decide +kernel
theorem dX13_richOf_721 : decode cX13_richOf 721 = .ok (.invokevirtual 844, 3) := by decide +kernel
theorem dX13_richOf_724 : decode cX13_richOf 724 = .ok (.aload_n 0, 1) := by decide +kernel
theorem dX13_richOf_725 : decode cX13_richOf 725 = .ok (.iconst 3, 1) := by decide +kernel
theorem dX13_richOf_726 : decode cX13_richOf 726 = .ok (.aload_n 0, 1) := by decide +kernel
theorem dX13_richOf_727 : decode cX13_richOf 727 = .ok (.iconst (-1), 1) := by decide +kernel
theorem dX13_richOf_728 : decode cX13_richOf 728 = .ok (.aload_n 0, 1) := by decide +kernel
theorem dX13_richOf_729 : decode cX13_richOf 729 = .ok (.aload_n 0, 1) := by decide +kernel
theorem dX13_richOf_730 : decode cX13_richOf 730 = .ok (.getfield 41, 3) := by decide +kernel
theorem dX13_richOf_733 : decode cX13_richOf 733 = .ok (.iload_n 1, 1) := by decide +kernel
theorem dX13_richOf_734 : decode cX13_richOf 734 = .ok (.iaload, 1) := by decide +kernel
theorem dX13_richOf_735 : decode cX13_richOf 735 = .ok (.invokevirtual 848, 3) := by decide +kernel
theorem dX13_richOf_738 : decode cX13_richOf 738 = .ok (.iconst (-1), 1) := by decide +kernel
theorem dX13_richOf_739 : decode cX13_richOf 739 = .ok (.invokevirtual 785, 3) := by decide +kernel
theorem dX13_richOf_742 : decode cX13_richOf 742 = .ok (.iconst (-1), 1) := by decide +kernel
theorem dX13_richOf_743 : decode cX13_richOf 743 = .ok (.iconst (-1), 1) := by decide +kernel
theorem dX13_richOf_744 : decode cX13_richOf 744 = .ok (.iconst (-1), 1) := by decide +kernel
theorem dX13_richOf_745 : decode cX13_richOf 745 = .ok (.invokevirtual 788, 3) := by decide +kernel
theorem dX13_richOf_748 : decode cX13_richOf 748 = .ok (.ireturn, 1) := by decide +kernel
theorem dX13_richOf_749 : decode cX13_richOf 749 = .ok (.aload_n 0, 1) := by decide +kernel
theorem dX13_richOf_750 : decode cX13_richOf 750 = .ok (.iconst 2, 1) := by decide +kernel
theorem dX13_richOf_751 : decode cX13_richOf 751 = .ok (.invokevirtual 800, 3) := by decide +kernel
theorem dX13_richOf_754 : decode cX13_richOf 754 = .ok (.ireturn, 1) := by decide +kernel
theorem dX13_richOf_755 : decode cX13_richOf 755 = .ok (.aload_n 0, 1) := by decide +kernel
theorem dX13_richOf_756 : decode cX13_richOf 756 = .ok (.aload_n 0, 1) := by decide +kernel
theorem dX13_richOf_757 : decode cX13_richOf 757 = .ok (.getfield 41, 3) := by decide +kernel
theorem dX13_richOf_760 : decode cX13_richOf 760 = .ok (.iload_n 1, 1) := by decide +kernel
theorem dX13_richOf_761 : decode cX13_richOf 761 = .ok (.iaload, 1) := by decide +kernel
theorem dX13_richOf_762 : decode cX13_richOf 762 = .ok (.invokevirtual 698, 3) := by decide +kernel
theorem dX13_richOf_765 : decode cX13_richOf 765 = .ok (.ifCond .eq 29, 3) := by decide +kernel
theorem dX13_richOf_768 : decode cX13_richOf 768 = .ok (.aload_n 0, 1) := by decide +kernel
theorem dX13_richOf_769 : decode cX13_richOf 769 = .ok (.aload_n 0, 1) := by decide +kernel
theorem dX13_richOf_770 : decode cX13_richOf 770 = .ok (.getfield 107, 3) := by decide +kernel
theorem dX13_richOf_773 : decode cX13_richOf 773 = .ok (.aload_n 0, 1) := by decide +kernel
theorem dX13_richOf_774 : decode cX13_richOf 774 = .ok (.getfield 65, 3) := by decide +kernel
theorem dX13_richOf_777 : decode cX13_richOf 777 = .ok (.aload_n 0, 1) := by decide +kernel
theorem dX13_richOf_778 : decode cX13_richOf 778 = .ok (.getfield 50, 3) := by decide +kernel
theorem dX13_richOf_781 : decode cX13_richOf 781 = .ok (.aload_n 0, 1) := by decide +kernel
theorem dX13_richOf_782 : decode cX13_richOf 782 = .ok (.getfield 41, 3) := by decide +kernel
theorem dX13_richOf_785 : decode cX13_richOf 785 = .ok (.iload_n 1, 1) := by decide +kernel
theorem dX13_richOf_786 : decode cX13_richOf 786 = .ok (.iaload, 1) := by decide +kernel
theorem dX13_richOf_787 : decode cX13_richOf 787 = .ok (.iaload, 1) := by decide +kernel
theorem dX13_richOf_788 : decode cX13_richOf 788 = .ok (.iaload, 1) := by decide +kernel
theorem dX13_richOf_789 : decode cX13_richOf 789 = .ok (.iaload, 1) := by decide +kernel
theorem dX13_richOf_790 : decode cX13_richOf 790 = .ok (.invokevirtual 851, 3) := by decide +kernel
theorem dX13_richOf_793 : decode cX13_richOf 793 = .ok (.ireturn, 1) := by decide +kernel
theorem dX13_richOf_794 : decode cX13_richOf 794 = .ok (.aload_n 0, 1) := by decide +kernel
theorem dX13_richOf_795 : decode cX13_richOf 795 = .ok (.iconst 1, 1) := by decide +kernel
theorem dX13_richOf_796 : decode cX13_richOf 796 = .ok (.aload_n 0, 1) := by decide +kernel
theorem dX13_richOf_797 : decode cX13_richOf 797 = .ok (.iconst (-1), 1) := by decide +kernel
theorem dX13_richOf_798 : decode cX13_richOf 798 = .ok (.aload_n 0, 1) := by decide +kernel
theorem dX13_richOf_799 : decode cX13_richOf 799 = .ok (.aload_n 0, 1) := by decide +kernel
theorem dX13_richOf_800 : decode cX13_richOf 800 = .ok (.getfield 41, 3) := by decide +kernel
theorem dX13_richOf_803 : decode cX13_richOf 803 = .ok (.iload_n 1, 1) := by decide +kernel
theorem dX13_richOf_804 : decode cX13_richOf 804 = .ok (.iaload, 1) := by decide +kernel
theorem dX13_richOf_805 : decode cX13_richOf 805 = .ok (.invokevirtual 848, 3) := by decide +kernel
theorem dX13_richOf_808 : decode cX13_richOf 808 = .ok (.iconst (-1), 1) := by decide +kernel
theorem dX13_richOf_809 : decode cX13_richOf 809 = .ok (.invokevirtual 785, 3) := by decide +kernel
theorem dX13_richOf_812 : decode cX13_richOf 812 = .ok (.iconst (-1), 1) := by decide +kernel
theorem dX13_richOf_813 : decode cX13_richOf 813 = .ok (.iconst (-1), 1) := by decide +kernel
theorem dX13_richOf_814 : decode cX13_richOf 814 = .ok (.iconst (-1), 1) := by decide +kernel
theorem dX13_richOf_815 : decode cX13_richOf 815 = .ok (.invokevirtual 788, 3) := by decide +kernel
theorem dX13_richOf_818 : decode cX13_richOf 818 = .ok (.ireturn, 1) := by decide +kernel
theorem dX13_richOf_819 : decode cX13_richOf 819 = .ok (.aload_n 0, 1) := by decide +kernel
theorem dX13_richOf_820 : decode cX13_richOf 820 = .ok (.iload_n 1, 1) := by decide +kernel
theorem dX13_richOf_821 : decode cX13_richOf 821 = .ok (.iload_n 2, 1) := by decide +kernel
theorem dX13_richOf_822 : decode cX13_richOf 822 = .ok (.iload_n 3, 1) := by decide +kernel
theorem dX13_richOf_823 : decode cX13_richOf 823 = .ok (.invokevirtual 854, 3) := by decide +kernel
theorem dX13_richOf_826 : decode cX13_richOf 826 = .ok (.ireturn, 1) := by decide +kernel
theorem dX13_richOf_827 : decode cX13_richOf 827 = .ok (.aload_n 0, 1) := by decide +kernel
theorem dX13_richOf_828 : decode cX13_richOf 828 = .ok (.iconst 2, 1) := by decide +kernel
theorem dX13_richOf_829 : decode cX13_richOf 829 = .ok (.aload_n 0, 1) := by decide +kernel
theorem dX13_richOf_830 : decode cX13_richOf 830 = .ok (.getfield 41, 3) := by decide +kernel
theorem dX13_richOf_833 : decode cX13_richOf 833 = .ok (.iload_n 1, 1) := by decide +kernel
theorem dX13_richOf_834 : decode cX13_richOf 834 = .ok (.iaload, 1) := by decide +kernel
theorem dX13_richOf_835 : decode cX13_richOf 835 = .ok (.iconst (-1), 1) := by decide +kernel
theorem dX13_richOf_836 : decode cX13_richOf 836 = .ok (.iload_n 2, 1) := by decide +kernel
theorem dX13_richOf_837 : decode cX13_richOf 837 = .ok (.iload_n 3, 1) := by decide +kernel
theorem dX13_richOf_838 : decode cX13_richOf 838 = .ok (.aload_n 0, 1) := by decide +kernel
theorem dX13_richOf_839 : decode cX13_richOf 839 = .ok (.getfield 35, 3) := by decide +kernel
theorem dX13_richOf_842 : decode cX13_richOf 842 = .ok (.iload_n 1, 1) := by decide +kernel
theorem dX13_richOf_843 : decode cX13_richOf 843 = .ok (.iaload, 1) := by decide +kernel
theorem dX13_richOf_844 : decode cX13_richOf 844 = .ok (.invokevirtual 844, 3) := by decide +kernel
theorem dX13_richOf_847 : decode cX13_richOf 847 = .ok (.aload_n 0, 1) := by decide +kernel
theorem dX13_richOf_848 : decode cX13_richOf 848 = .ok (.iconst 3, 1) := by decide +kernel
theorem dX13_richOf_849 : decode cX13_richOf 849 = .ok (.aload_n 0, 1) := by decide +kernel
theorem dX13_richOf_850 : decode cX13_richOf 850 = .ok (.getfield 41, 3) := by decide +kernel
theorem dX13_richOf_853 : decode cX13_richOf 853 = .ok (.iload_n 1, 1) := by decide +kernel
theorem dX13_richOf_854 : decode cX13_richOf 854 = .ok (.iaload, 1) := by decide +kernel
theorem dX13_richOf_855 : decode cX13_richOf 855 = .ok (.aload_n 0, 1) := by decide +kernel
theorem dX13_richOf_856 : decode cX13_richOf 856 = .ok (.getfield 107, 3) := by decide +kernel
theorem dX13_richOf_859 : decode cX13_richOf 859 = .ok (.aload_n 0, 1) := by decide +kernel
theorem dX13_richOf_860 : decode cX13_richOf 860 = .ok (.getfield 38, 3) := by decide +kernel
theorem dX13_richOf_863 : decode cX13_richOf 863 = .ok (.iload_n 1, 1) := by decide +kernel
theorem dX13_richOf_864 : decode cX13_richOf 864 = .ok (.iaload, 1) := by decide +kernel
theorem dX13_richOf_865 : decode cX13_richOf 865 = .ok (.iaload, 1) := by decide +kernel
theorem dX13_richOf_866 : decode cX13_richOf 866 = .ok (.iload_n 2, 1) := by decide +kernel
theorem dX13_richOf_867 : decode cX13_richOf 867 = .ok (.iload_n 3, 1) := by decide +kernel
theorem dX13_richOf_868 : decode cX13_richOf 868 = .ok (.aload_n 0, 1) := by decide +kernel
theorem dX13_richOf_869 : decode cX13_richOf 869 = .ok (.getfield 35, 3) := by decide +kernel
theorem dX13_richOf_872 : decode cX13_richOf 872 = .ok (.iload_n 1, 1) := by decide +kernel
theorem dX13_richOf_873 : decode cX13_richOf 873 = .ok (.iaload, 1) := by decide +kernel
theorem dX13_richOf_874 : decode cX13_richOf 874 = .ok (.invokevirtual 844, 3) := by decide +kernel
theorem dX13_richOf_877 : decode cX13_richOf 877 = .ok (.aload_n 0, 1) := by decide +kernel
theorem dX13_richOf_878 : decode cX13_richOf 878 = .ok (.iconst 1, 1) := by decide +kernel
theorem dX13_richOf_879 : decode cX13_richOf 879 = .ok (.invokevirtual 800, 3) := by decide +kernel
theorem dX13_richOf_882 : decode cX13_richOf 882 = .ok (.ireturn, 1) := by decide +kernel
theorem dX13_richOf_883 : decode cX13_richOf 883 = .ok (.aload_n 0, 1) := by decide +kernel
theorem dX13_richOf_884 : decode cX13_richOf 884 = .ok (.iconst 5, 1) := by decide +kernel
theorem dX13_richOf_885 : decode cX13_richOf 885 = .ok (.aload_n 0, 1) := by decide +kernel
theorem dX13_richOf_886 : decode cX13_richOf 886 = .ok (.iconst (-1), 1) := by decide +kernel
theorem dX13_richOf_887 : decode cX13_richOf 887 = .ok (.aload_n 0, 1) := by decide +kernel
theorem dX13_richOf_888 : decode cX13_richOf 888 = .ok (.iconst 0, 1) := by decide +kernel
theorem dX13_richOf_889 : decode cX13_richOf 889 = .ok (.iconst (-1), 1) := by decide +kernel
theorem dX13_richOf_890 : decode cX13_richOf 890 = .ok (.iconst 0, 1) := by decide +kernel
theorem dX13_richOf_891 : decode cX13_richOf 891 = .ok (.lconst 0, 1) := by decide +kernel
theorem dX13_richOf_892 : decode cX13_richOf 892 = .ok (.iconst (-1), 1) := by decide +kernel
theorem dX13_richOf_893 : decode cX13_richOf 893 = .ok (.invokevirtual 778, 3) := by decide +kernel
theorem dX13_richOf_896 : decode cX13_richOf 896 = .ok (.iconst (-1), 1) := by decide +kernel
theorem dX13_richOf_897 : decode cX13_richOf 897 = .ok (.invokevirtual 785, 3) := by decide +kernel
theorem dX13_richOf_900 : decode cX13_richOf 900 = .ok (.iconst (-1), 1) := by decide +kernel
theorem dX13_richOf_901 : decode cX13_richOf 901 = .ok (.iconst (-1), 1) := by decide +kernel
theorem dX13_richOf_902 : decode cX13_richOf 902 = .ok (.iconst (-1), 1) := by decide +kernel
theorem dX13_richOf_903 : decode cX13_richOf 903 = .ok (.invokevirtual 788, 3) := by decide +kernel
theorem dX13_richOf_906 : decode cX13_richOf 906 = .ok (.ireturn, 1) := by decide +kernel
theorem dX13_richOf_907 : decode cX13_richOf 907 = .ok (.aload_n 0, 1) := by decide +kernel
theorem dX13_richOf_908 : decode cX13_richOf 908 = .ok (.iconst 5, 1) := by decide +kernel
theorem dX13_richOf_909 : decode cX13_richOf 909 = .ok (.aload_n 0, 1) := by decide +kernel
theorem dX13_richOf_910 : decode cX13_richOf 910 = .ok (.iconst (-1), 1) := by decide +kernel
theorem dX13_richOf_911 : decode cX13_richOf 911 = .ok (.aload_n 0, 1) := by decide +kernel
theorem dX13_richOf_912 : decode cX13_richOf 912 = .ok (.iconst 0, 1) := by decide +kernel
theorem dX13_richOf_913 : decode cX13_richOf 913 = .ok (.aload_n 0, 1) := by decide +kernel
theorem dX13_richOf_914 : decode cX13_richOf 914 = .ok (.getfield 107, 3) := by decide +kernel
theorem dX13_richOf_917 : decode cX13_richOf 917 = .ok (.aload_n 0, 1) := by decide +kernel
theorem dX13_richOf_918 : decode cX13_richOf 918 = .ok (.getfield 38, 3) := by decide +kernel
theorem dX13_richOf_921 : decode cX13_richOf 921 = .ok (.iload_n 1, 1) := by decide +kernel
theorem dX13_richOf_922 : decode cX13_richOf 922 = .ok (.iaload, 1) := by decide +kernel
theorem dX13_richOf_923 : decode cX13_richOf 923 = .ok (.iaload, 1) := by decide +kernel
theorem dX13_richOf_924 : decode cX13_richOf 924 = .ok (.iconst 1, 1) := by decide +kernel
theorem dX13_richOf_925 : decode cX13_richOf 925 = .ok (.lconst 1, 1) := by decide +kernel
theorem dX13_richOf_926 : decode cX13_richOf 926 = .ok (.iconst (-1), 1) := by decide +kernel
theorem dX13_richOf_927 : decode cX13_richOf 927 = .ok (.invokevirtual 778, 3) := by decide +kernel
theorem dX13_richOf_930 : decode cX13_richOf 930 = .ok (.iconst (-1), 1) := by decide +kernel
theorem dX13_richOf_931 : decode cX13_richOf 931 = .ok (.invokevirtual 785, 3) := by decide +kernel
theorem dX13_richOf_934 : decode cX13_richOf 934 = .ok (.iconst (-1), 1) := by decide +kernel
theorem dX13_richOf_935 : decode cX13_richOf 935 = .ok (.iconst (-1), 1) := by decide +kernel
theorem dX13_richOf_936 : decode cX13_richOf 936 = .ok (.iconst (-1), 1) := by decide +kernel
theorem dX13_richOf_937 : decode cX13_richOf 937 = .ok (.invokevirtual 788, 3) := by decide +kernel
theorem dX13_richOf_940 : decode cX13_richOf 940 = .ok (.ireturn, 1) := by decide +kernel
theorem dX13_richOf_941 : decode cX13_richOf 941 = .ok (.aload_n 0, 1) := by decide +kernel
theorem dX13_richOf_942 : decode cX13_richOf 942 = .ok (.iload_n 2, 1) := by decide +kernel
theorem dX13_richOf_943 : decode cX13_richOf 943 = .ok (.invokevirtual 835, 3) := by decide +kernel
theorem dX13_richOf_946 : decode cX13_richOf 946 = .ok (.aload_n 0, 1) := by decide +kernel
theorem dX13_richOf_947 : decode cX13_richOf 947 = .ok (.aload_n 0, 1) := by decide +kernel
theorem dX13_richOf_948 : decode cX13_richOf 948 = .ok (.getfield 128, 3) := by decide +kernel
theorem dX13_richOf_951 : decode cX13_richOf 951 = .ok (.iload_n 1, 1) := by decide +kernel
theorem dX13_richOf_952 : decode cX13_richOf 952 = .ok (.iaload, 1) := by decide +kernel
theorem dX13_richOf_953 : decode cX13_richOf 953 = .ok (.iconst (-1), 1) := by decide +kernel
theorem dX13_richOf_954 : decode cX13_richOf 954 = .ok (.iconst 0, 1) := by decide +kernel
theorem dX13_richOf_955 : decode cX13_richOf 955 = .ok (.invokevirtual 806, 3) := by decide +kernel
theorem dX13_richOf_958 : decode cX13_richOf 958 = .ok (.istore 4, 2) := by decide +kernel
theorem dX13_richOf_960 : decode cX13_richOf 960 = .ok (.aload_n 0, 1) := by decide +kernel
theorem dX13_richOf_961 : decode cX13_richOf 961 = .ok (.getfield 107, 3) := by decide +kernel
theorem dX13_richOf_964 : decode cX13_richOf 964 = .ok (.aload_n 0, 1) := by decide +kernel
theorem dX13_richOf_965 : decode cX13_richOf 965 = .ok (.getfield 38, 3) := by decide +kernel
theorem dX13_richOf_968 : decode cX13_richOf 968 = .ok (.iload_n 1, 1) := by decide +kernel
theorem dX13_richOf_969 : decode cX13_richOf 969 = .ok (.iaload, 1) := by decide +kernel
theorem dX13_richOf_970 : decode cX13_richOf 970 = .ok (.iaload, 1) := by decide +kernel
theorem dX13_richOf_971 : decode cX13_richOf 971 = .ok (.istore 5, 2) := by decide +kernel
theorem dX13_richOf_973 : decode cX13_richOf 973 = .ok (.aload_n 0, 1) := by decide +kernel
theorem dX13_richOf_974 : decode cX13_richOf 974 = .ok (.iload_n 3, 1) := by decide +kernel
theorem dX13_richOf_975 : decode cX13_richOf 975 = .ok (.bipush (-2), 2) := by decide +kernel
theorem dX13_richOf_977 : decode cX13_richOf 977 = .ok (.iload 5, 2) := by decide +kernel
theorem dX13_richOf_979 : decode cX13_richOf 979 = .ok (.isub, 1) := by decide +kernel
theorem dX13_richOf_980 : decode cX13_richOf 980 = .ok (.iconst 1, 1) := by decide +kernel
theorem dX13_richOf_981 : decode cX13_richOf 981 = .ok (.invokevirtual 841, 3) := by decide +kernel
theorem dX13_richOf_984 : decode cX13_richOf 984 = .ok (.istore 6, 2) := by decide +kernel
theorem dX13_richOf_986 : decode cX13_richOf 986 = .ok (.aload_n 0, 1) := by decide +kernel
theorem dX13_richOf_987 : decode cX13_richOf 987 = .ok (.aload_n 0, 1) := by decide +kernel
theorem dX13_richOf_988 : decode cX13_richOf 988 = .ok (.aload_n 0, 1) := by decide +kernel
theorem dX13_richOf_989 : decode cX13_richOf 989 = .ok (.getfield 44, 3) := by decide +kernel
theorem dX13_richOf_992 : decode cX13_richOf 992 = .ok (.iload_n 1, 1) := by decide +kernel
theorem dX13_richOf_993 : decode cX13_richOf 993 = .ok (.iaload, 1) := by decide +kernel
theorem dX13_richOf_994 : decode cX13_richOf 994 = .ok (.iload_n 2, 1) := by decide +kernel
theorem dX13_richOf_995 : decode cX13_richOf 995 = .ok (.iload 6, 2) := by decide +kernel
theorem dX13_richOf_997 : decode cX13_richOf 997 = .ok (.invokevirtual 838, 3) := by decide +kernel
theorem dX13_richOf_1000 : decode cX13_richOf 1000 = .ok (.iload 4, 2) := by decide +kernel
theorem dX13_richOf_1002 : decode cX13_richOf 1002 = .ok (.iload_n 2, 1) := by decide +kernel
theorem dX13_richOf_1003 : decode cX13_richOf 1003 = .ok (.iload 6, 2) := by decide +kernel
theorem dX13_richOf_1005 : decode cX13_richOf 1005 = .ok (.invokevirtual 822, 3) := by decide +kernel
theorem dX13_richOf_1008 : decode cX13_richOf 1008 = .ok (.aload_n 0, 1) := by decide +kernel
theorem dX13_richOf_1009 : decode cX13_richOf 1009 = .ok (.iload_n 3, 1) := by decide +kernel
theorem dX13_richOf_1010 : decode cX13_richOf 1010 = .ok (.bipush (-2), 2) := by decide +kernel
theorem dX13_richOf_1012 : decode cX13_richOf 1012 = .ok (.iload 5, 2) := by decide +kernel
theorem dX13_richOf_1014 : decode cX13_richOf 1014 = .ok (.isub, 1) := by decide +kernel
theorem dX13_richOf_1015 : decode cX13_richOf 1015 = .ok (.iconst 0, 1) := by decide +kernel
theorem dX13_richOf_1016 : decode cX13_richOf 1016 = .ok (.invokevirtual 841, 3) := by decide +kernel
theorem dX13_richOf_1019 : decode cX13_richOf 1019 = .ok (.istore 7, 2) := by decide +kernel
theorem dX13_richOf_1021 : decode cX13_richOf 1021 = .ok (.aload_n 0, 1) := by decide +kernel
theorem dX13_richOf_1022 : decode cX13_richOf 1022 = .ok (.getfield 107, 3) := by decide +kernel
theorem dX13_richOf_1025 : decode cX13_richOf 1025 = .ok (.aload_n 0, 1) := by decide +kernel
theorem dX13_richOf_1026 : decode cX13_richOf 1026 = .ok (.getfield 41, 3) := by decide +kernel
theorem dX13_richOf_1029 : decode cX13_richOf 1029 = .ok (.iload_n 1, 1) := by decide +kernel
theorem dX13_richOf_1030 : decode cX13_richOf 1030 = .ok (.iaload, 1) := by decide +kernel
theorem dX13_richOf_1031 : decode cX13_richOf 1031 = .ok (.iaload, 1) := by decide +kernel
theorem dX13_richOf_1032 : decode cX13_richOf 1032 = .ok (.istore 8, 2) := by decide +kernel
theorem dX13_richOf_1034 : decode cX13_richOf 1034 = .ok (.aload_n 0, 1) := by decide +kernel
theorem dX13_richOf_1035 : decode cX13_richOf 1035 = .ok (.getfield 240, 3) := by decide +kernel
theorem dX13_richOf_1038 : decode cX13_richOf 1038 = .ok (.iload 8, 2) := by decide +kernel
theorem dX13_richOf_1040 : decode cX13_richOf 1040 = .ok (.aload_n 0, 1) := by decide +kernel
theorem dX13_richOf_1041 : decode cX13_richOf 1041 = .ok (.iconst 1, 1) := by decide +kernel
theorem dX13_richOf_1042 : decode cX13_richOf 1042 = .ok (.invokevirtual 800, 3) := by decide +kernel
theorem dX13_richOf_1045 : decode cX13_richOf 1045 = .ok (.iastore, 1) := by decide +kernel
theorem dX13_richOf_1046 : decode cX13_richOf 1046 = .ok (.aload_n 0, 1) := by decide +kernel
theorem dX13_richOf_1047 : decode cX13_richOf 1047 = .ok (.iload_n 2, 1) := by decide +kernel
theorem dX13_richOf_1048 : decode cX13_richOf 1048 = .ok (.iload 8, 2) := by decide +kernel
theorem dX13_richOf_1050 : decode cX13_richOf 1050 = .ok (.aload_n 0, 1) := by decide +kernel
theorem dX13_richOf_1051 : decode cX13_richOf 1051 = .ok (.getfield 240, 3) := by decide +kernel
theorem dX13_richOf_1054 : decode cX13_richOf 1054 = .ok (.iload 8, 2) := by decide +kernel
theorem dX13_richOf_1056 : decode cX13_richOf 1056 = .ok (.iaload, 1) := by decide +kernel
theorem dX13_richOf_1057 : decode cX13_richOf 1057 = .ok (.invokevirtual 826, 3) := by decide +kernel
theorem dX13_richOf_1060 : decode cX13_richOf 1060 = .ok (.istore 9, 2) := by decide +kernel
theorem dX13_richOf_1062 : decode cX13_richOf 1062 = .ok (.aload_n 0, 1) := by decide +kernel
theorem dX13_richOf_1063 : decode cX13_richOf 1063 = .ok (.getfield 107, 3) := by decide +kernel
theorem dX13_richOf_1066 : decode cX13_richOf 1066 = .ok (.aload_n 0, 1) := by decide +kernel
theorem dX13_richOf_1067 : decode cX13_richOf 1067 = .ok (.getfield 41, 3) := by decide +kernel
theorem dX13_richOf_1070 : decode cX13_richOf 1070 = .ok (.iload_n 1, 1) := by decide +kernel
theorem dX13_richOf_1071 : decode cX13_richOf 1071 = .ok (.iaload, 1) := by decide +kernel
theorem dX13_richOf_1072 : decode cX13_richOf 1072 = .ok (.iconst 1, 1) := by decide +kernel
theorem dX13_richOf_1073 : decode cX13_richOf 1073 = .ok (.iadd, 1) := by decide +kernel
theorem dX13_richOf_1074 : decode cX13_richOf 1074 = .ok (.iaload, 1) := by decide +kernel
theorem dX13_richOf_1075 : decode cX13_richOf 1075 = .ok (.istore 10, 2) := by decide +kernel
theorem dX13_richOf_1077 : decode cX13_richOf 1077 = .ok (.aload_n 0, 1) := by decide +kernel
theorem dX13_richOf_1078 : decode cX13_richOf 1078 = .ok (.getfield 240, 3) := by decide +kernel
theorem dX13_richOf_1081 : decode cX13_richOf 1081 = .ok (.iload 10, 2) := by decide +kernel
theorem dX13_richOf_1083 : decode cX13_richOf 1083 = .ok (.aload_n 0, 1) := by decide +kernel
theorem dX13_richOf_1084 : decode cX13_richOf 1084 = .ok (.iconst 5, 1) := by decide +kernel
theorem dX13_richOf_1085 : decode cX13_richOf 1085 = .ok (.aload_n 0, 1) := by decide +kernel
theorem dX13_richOf_1086 : decode cX13_richOf 1086 = .ok (.iconst (-1), 1) := by decide +kernel
theorem dX13_richOf_1087 : decode cX13_richOf 1087 = .ok (.aload_n 0, 1) := by decide +kernel
theorem dX13_richOf_1088 : decode cX13_richOf 1088 = .ok (.iconst 0, 1) := by decide +kernel
theorem dX13_richOf_1089 : decode cX13_richOf 1089 = .ok (.iload 5, 2) := by decide +kernel
theorem dX13_richOf_1091 : decode cX13_richOf 1091 = .ok (.iconst 1, 1) := by decide +kernel
theorem dX13_richOf_1092 : decode cX13_richOf 1092 = .ok (.ldc2_w 857, 3) := by decide +kernel
theorem dX13_richOf_1095 : decode cX13_richOf 1095 = .ok (.iconst (-1), 1) := by decide +kernel
theorem dX13_richOf_1096 : decode cX13_richOf 1096 = .ok (.invokevirtual 778, 3) := by decide +kernel
theorem dX13_richOf_1099 : decode cX13_richOf 1099 = .ok (.iconst (-1), 1) := by decide +kernel
theorem dX13_richOf_1100 : decode cX13_richOf 1100 = .ok (.invokevirtual 785, 3) := by decide +kernel
theorem dX13_richOf_1103 : decode cX13_richOf 1103 = .ok (.iconst (-1), 1) := by decide +kernel
theorem dX13_richOf_1104 : decode cX13_richOf 1104 = .ok (.iconst (-1), 1) := by decide +kernel
theorem dX13_richOf_1105 : decode cX13_richOf 1105 = .ok (.iconst (-1), 1) := by decide +kernel
theorem dX13_richOf_1106 : decode cX13_richOf 1106 = .ok (.invokevirtual 788, 3) := by decide +kernel
theorem dX13_richOf_1109 : decode cX13_richOf 1109 = .ok (.iastore, 1) := by decide +kernel
theorem dX13_richOf_1110 : decode cX13_richOf 1110 = .ok (.aload_n 0, 1) := by decide +kernel
theorem dX13_richOf_1111 : decode cX13_richOf 1111 = .ok (.iload 9, 2) := by decide +kernel
theorem dX13_richOf_1113 : decode cX13_richOf 1113 = .ok (.iload 10, 2) := by decide +kernel
theorem dX13_richOf_1115 : decode cX13_richOf 1115 = .ok (.aload_n 0, 1) := by decide +kernel
theorem dX13_richOf_1116 : decode cX13_richOf 1116 = .ok (.getfield 240, 3) := by decide +kernel
theorem dX13_richOf_1119 : decode cX13_richOf 1119 = .ok (.iload 10, 2) := by decide +kernel
theorem dX13_richOf_1121 : decode cX13_richOf 1121 = .ok (.iaload, 1) := by decide +kernel
theorem dX13_richOf_1122 : decode cX13_richOf 1122 = .ok (.invokevirtual 826, 3) := by decide +kernel
theorem dX13_richOf_1125 : decode cX13_richOf 1125 = .ok (.istore 9, 2) := by decide +kernel
theorem dX13_richOf_1127 : decode cX13_richOf 1127 = .ok (.aload_n 0, 1) := by decide +kernel
theorem dX13_richOf_1128 : decode cX13_richOf 1128 = .ok (.aload_n 0, 1) := by decide +kernel
theorem dX13_richOf_1129 : decode cX13_richOf 1129 = .ok (.aload_n 0, 1) := by decide +kernel
theorem dX13_richOf_1130 : decode cX13_richOf 1130 = .ok (.getfield 47, 3) := by decide +kernel
theorem dX13_richOf_1133 : decode cX13_richOf 1133 = .ok (.iload_n 1, 1) := by decide +kernel
theorem dX13_richOf_1134 : decode cX13_richOf 1134 = .ok (.iaload, 1) := by decide +kernel
theorem dX13_richOf_1135 : decode cX13_richOf 1135 = .ok (.iload 9, 2) := by decide +kernel
theorem dX13_richOf_1137 : decode cX13_richOf 1137 = .ok (.iload 7, 2) := by decide +kernel
theorem dX13_richOf_1139 : decode cX13_richOf 1139 = .ok (.invokevirtual 838, 3) := by decide +kernel
theorem dX13_richOf_1142 : decode cX13_richOf 1142 = .ok (.iload 4, 2) := by decide +kernel
theorem dX13_richOf_1144 : decode cX13_richOf 1144 = .ok (.iload 9, 2) := by decide +kernel
theorem dX13_richOf_1146 : decode cX13_richOf 1146 = .ok (.iload 7, 2) := by decide +kernel
theorem dX13_richOf_1148 : decode cX13_richOf 1148 = .ok (.invokevirtual 822, 3) := by decide +kernel
theorem dX13_richOf_1151 : decode cX13_richOf 1151 = .ok (.iload 4, 2) := by decide +kernel
theorem dX13_richOf_1153 : decode cX13_richOf 1153 = .ok (.ireturn, 1) := by decide +kernel
theorem dX13_richOf_1154 : decode cX13_richOf 1154 = .ok (.aload_n 0, 1) := by decide +kernel
theorem dX13_richOf_1155 : decode cX13_richOf 1155 = .ok (.iload_n 1, 1) := by decide +kernel
theorem dX13_richOf_1156 : decode cX13_richOf 1156 = .ok (.iload_n 2, 1) := by decide +kernel
theorem dX13_richOf_1157 : decode cX13_richOf 1157 = .ok (.iload_n 3, 1) := by decide +kernel
theorem dX13_richOf_1158 : decode cX13_richOf 1158 = .ok (.invokevirtual 859, 3) := by decide +kernel
theorem dX13_richOf_1161 : decode cX13_richOf 1161 = .ok (.ireturn, 1) := by decide +kernel
theorem dX13_richOf_1162 : decode cX13_richOf 1162 = .ok (.aload_n 0, 1) := by decide +kernel
theorem dX13_richOf_1163 : decode cX13_richOf 1163 = .ok (.aload_n 0, 1) := by decide +kernel
theorem dX13_richOf_1164 : decode cX13_richOf 1164 = .ok (.getfield 44, 3) := by decide +kernel
theorem dX13_richOf_1167 : decode cX13_richOf 1167 = .ok (.iload_n 1, 1) := by decide +kernel
theorem dX13_richOf_1168 : decode cX13_richOf 1168 = .ok (.iaload, 1) := by decide +kernel
theorem dX13_richOf_1169 : decode cX13_richOf 1169 = .ok (.iload_n 2, 1) := by decide +kernel
theorem dX13_richOf_1170 : decode cX13_richOf 1170 = .ok (.iload_n 3, 1) := by decide +kernel
theorem dX13_richOf_1171 : decode cX13_richOf 1171 = .ok (.invokevirtual 838, 3) := by decide +kernel
theorem dX13_richOf_1174 : decode cX13_richOf 1174 = .ok (.ireturn, 1) := by decide +kernel
theorem dX13_ofSign_0 : decode cX13_ofSign 0 = .ok (.aload_n 0, 1) := by decide +kernel
theorem dX13_ofSign_1 : decode cX13_ofSign 1 = .ok (.invokevirtual 714, 3) := by decide +kernel
theorem dX13_ofSign_4 : decode cX13_ofSign 4 = .ok (.aload_n 0, 1) := by decide +kernel
theorem dX13_ofSign_5 : decode cX13_ofSign 5 = .ok (.aload_n 0, 1) := by decide +kernel
theorem dX13_ofSign_6 : decode cX13_ofSign 6 = .ok (.getfield 44, 3) := by decide +kernel
theorem dX13_ofSign_9 : decode cX13_ofSign 9 = .ok (.iload_n 1, 1) := by decide +kernel
theorem dX13_ofSign_10 : decode cX13_ofSign 10 = .ok (.iaload, 1) := by decide +kernel
theorem dX13_ofSign_11 : decode cX13_ofSign 11 = .ok (.iconst 1, 1) := by decide +kernel
theorem dX13_ofSign_12 : decode cX13_ofSign 12 = .ok (.invokevirtual 717, 3) := by decide +kernel
theorem dX13_ofSign_15 : decode cX13_ofSign 15 = .ok (.aload_n 0, 1) := by decide +kernel
theorem dX13_ofSign_16 : decode cX13_ofSign 16 = .ok (.getfield 704, 3) := by decide +kernel
theorem dX13_ofSign_19 : decode cX13_ofSign 19 = .ok (.ifCond .ne 7, 3) := by decide +kernel
theorem dX13_ofSign_22 : decode cX13_ofSign 22 = .ok (.iconst 1, 1) := by decide +kernel
theorem dX13_ofSign_23 : decode cX13_ofSign 23 = .ok (.goto 4, 3) := by decide +kernel
theorem dX13_ofSign_26 : decode cX13_ofSign 26 = .ok (.iconst 0, 1) := by decide +kernel
theorem dX13_ofSign_27 : decode cX13_ofSign 27 = .ok (.istore 4, 2) := by decide +kernel
theorem dX13_ofSign_29 : decode cX13_ofSign 29 = .ok (.aload_n 0, 1) := by decide +kernel
theorem dX13_ofSign_30 : decode cX13_ofSign 30 = .ok (.getfield 53, 3) := by decide +kernel
theorem dX13_ofSign_33 : decode cX13_ofSign 33 = .ok (.aload_n 0, 1) := by decide +kernel
theorem dX13_ofSign_34 : decode cX13_ofSign 34 = .ok (.getfield 44, 3) := by decide +kernel
theorem dX13_ofSign_37 : decode cX13_ofSign 37 = .ok (.iload_n 1, 1) := by decide +kernel
theorem dX13_ofSign_38 : decode cX13_ofSign 38 = .ok (.iaload, 1) := by decide +kernel
theorem dX13_ofSign_39 : decode cX13_ofSign 39 = .ok (.iaload, 1) := by decide +kernel
theorem dX13_ofSign_40 : decode cX13_ofSign 40 = .ok (.aload_n 0, 1) := by decide +kernel
theorem dX13_ofSign_41 : decode cX13_ofSign 41 = .ok (.getfield 50, 3) := by decide +kernel
theorem dX13_ofSign_44 : decode cX13_ofSign 44 = .ok (.aload_n 0, 1) := by decide +kernel
theorem dX13_ofSign_45 : decode cX13_ofSign 45 = .ok (.getfield 44, 3) := by decide +kernel
theorem dX13_ofSign_48 : decode cX13_ofSign 48 = .ok (.iload_n 1, 1) := by decide +kernel
theorem dX13_ofSign_49 : decode cX13_ofSign 49 = .ok (.iaload, 1) := by decide +kernel
theorem dX13_ofSign_50 : decode cX13_ofSign 50 = .ok (.iaload, 1) := by decide +kernel
theorem dX13_ofSign_51 : decode cX13_ofSign 51 = .ok (.isub, 1) := by decide +kernel
theorem dX13_ofSign_52 : decode cX13_ofSign 52 = .ok (.iconst 1, 1) := by decide +kernel
theorem dX13_ofSign_53 : decode cX13_ofSign 53 = .ok (.if_icmp .ne 46, 3) := by decide +kernel
theorem dX13_ofSign_56 : decode cX13_ofSign 56 = .ok (.aload_n 0, 1) := by decide +kernel
theorem dX13_ofSign_57 : decode cX13_ofSign 57 = .ok (.getfield 59, 3) := by decide +kernel
theorem dX13_ofSign_60 : decode cX13_ofSign 60 = .ok (.aload_n 0, 1) := by decide +kernel
theorem dX13_ofSign_61 : decode cX13_ofSign 61 = .ok (.getfield 50, 3) := by decide +kernel
theorem dX13_ofSign_64 : decode cX13_ofSign 64 = .ok (.aload_n 0, 1) := by decide +kernel
theorem dX13_ofSign_65 : decode cX13_ofSign 65 = .ok (.getfield 44, 3) := by decide +kernel
theorem dX13_ofSign_68 : decode cX13_ofSign 68 = .ok (.iload_n 1, 1) := by decide +kernel
theorem dX13_ofSign_69 : decode cX13_ofSign 69 = .ok (.iaload, 1) := by decide +kernel
theorem dX13_ofSign_70 : decode cX13_ofSign 70 = .ok (.iaload, 1) := by decide +kernel
theorem dX13_ofSign_71 : decode cX13_ofSign 71 = .ok (.iaload, 1) := by decide +kernel
theorem dX13_ofSign_72 : decode cX13_ofSign 72 = .ok (.ifCond .ne 27, 3) := by decide +kernel
theorem dX13_ofSign_75 : decode cX13_ofSign 75 = .ok (.aload_n 0, 1) := by decide +kernel
theorem dX13_ofSign_76 : decode cX13_ofSign 76 = .ok (.getfield 62, 3) := by decide +kernel
theorem dX13_ofSign_79 : decode cX13_ofSign 79 = .ok (.aload_n 0, 1) := by decide +kernel
theorem dX13_ofSign_80 : decode cX13_ofSign 80 = .ok (.getfield 50, 3) := by decide +kernel
theorem dX13_ofSign_83 : decode cX13_ofSign 83 = .ok (.aload_n 0, 1) := by decide +kernel
theorem dX13_ofSign_84 : decode cX13_ofSign 84 = .ok (.getfield 44, 3) := by decide +kernel
theorem dX13_ofSign_87 : decode cX13_ofSign 87 = .ok (.iload_n 1, 1) := by decide +kernel
theorem dX13_ofSign_88 : decode cX13_ofSign 88 = .ok (.iaload, 1) := by decide +kernel
theorem dX13_ofSign_89 : decode cX13_ofSign 89 = .ok (.iaload, 1) := by decide +kernel
theorem dX13_ofSign_90 : decode cX13_ofSign 90 = .ok (.iaload, 1) := by decide +kernel
theorem dX13_ofSign_91 : decode cX13_ofSign 91 = .ok (.iconst 1, 1) := by decide +kernel
theorem dX13_ofSign_92 : decode cX13_ofSign 92 = .ok (.if_icmp .ne 7, 3) := by decide +kernel
theorem dX13_ofSign_95 : decode cX13_ofSign 95 = .ok (.iconst 1, 1) := by decide +kernel
theorem dX13_ofSign_96 : decode cX13_ofSign 96 = .ok (.goto 4, 3) := by decide +kernel
theorem dX13_ofSign_99 : decode cX13_ofSign 99 = .ok (.iconst 0, 1) := by decide +kernel
theorem dX13_ofSign_100 : decode cX13_ofSign 100 = .ok (.istore 5, 2) := by decide +kernel
theorem dX13_ofSign_102 : decode cX13_ofSign 102 = .ok (.aload_n 0, 1) := by decide +kernel
theorem dX13_ofSign_103 : decode cX13_ofSign 103 = .ok (.getfield 707, 3) := by decide +kernel
theorem dX13_ofSign_106 : decode cX13_ofSign 106 = .ok (.lstore 6, 2) := by decide +kernel
theorem dX13_ofSign_108 : decode cX13_ofSign 108 = .ok (.aload_n 0, 1) := by decide +kernel
theorem dX13_ofSign_109 : decode cX13_ofSign 109 = .ok (.getfield 29, 3) := by decide +kernel
theorem dX13_ofSign_112 : decode cX13_ofSign 112 = .ok (.iload_n 1, 1) := by decide +kernel
theorem dX13_ofSign_113 : decode cX13_ofSign 113 = .ok (.iaload, 1) := by decide +kernel
theorem dX13_ofSign_114 : decode cX13_ofSign 114 = .ok (.bipush 11, 2) := by decide +kernel
theorem dX13_ofSign_116 : decode cX13_ofSign 116 = .ok (.if_icmp .eq 23, 3) := by decide +kernel
theorem dX13_ofSign_119 : decode cX13_ofSign 119 = .ok (.aload_n 0, 1) := by decide +kernel
theorem dX13_ofSign_120 : decode cX13_ofSign 120 = .ok (.iconst 1, 1) := by decide +kernel
theorem dX13_ofSign_121 : decode cX13_ofSign 121 = .ok (.aload_n 0, 1) := by decide +kernel
theorem dX13_ofSign_122 : decode cX13_ofSign 122 = .ok (.getfield 44, 3) := by decide +kernel
theorem dX13_ofSign_125 : decode cX13_ofSign 125 = .ok (.iload_n 1, 1) := by decide +kernel
theorem dX13_ofSign_126 : decode cX13_ofSign 126 = .ok (.iaload, 1) := by decide +kernel
theorem dX13_ofSign_127 : decode cX13_ofSign 127 = .ok (.iconst (-1), 1) := by decide +kernel
theorem dX13_ofSign_128 : decode cX13_ofSign 128 = .ok (.iload_n 2, 1) := by decide +kernel
theorem dX13_ofSign_129 : decode cX13_ofSign 129 = .ok (.iload_n 3, 1) := by decide +kernel
theorem dX13_ofSign_130 : decode cX13_ofSign 130 = .ok (.aload_n 0, 1) := by decide +kernel
theorem dX13_ofSign_131 : decode cX13_ofSign 131 = .ok (.getfield 35, 3) := by decide +kernel
theorem dX13_ofSign_134 : decode cX13_ofSign 134 = .ok (.iload_n 1, 1) := by decide +kernel
theorem dX13_ofSign_135 : decode cX13_ofSign 135 = .ok (.iaload, 1) := by decide +kernel
theorem dX13_ofSign_136 : decode cX13_ofSign 136 = .ok (.invokevirtual 844, 3) := by decide +kernel
theorem dX13_ofSign_139 : decode cX13_ofSign 139 = .ok (.aload_n 0, 1) := by decide +kernel
theorem dX13_ofSign_140 : decode cX13_ofSign 140 = .ok (.getfield 29, 3) := by decide +kernel
theorem dX13_ofSign_143 : decode cX13_ofSign 143 = .ok (.iload_n 1, 1) := by decide +kernel
theorem dX13_ofSign_144 : decode cX13_ofSign 144 = .ok (.iaload, 1) := by decide +kernel
theorem dX13_ofSign_145 : decode cX13_ofSign 145 = .ok (.bipush 13, 2) := by decide +kernel
theorem dX13_ofSign_147 : decode cX13_ofSign 147 = .ok (.if_icmp .ne 48, 3) := by decide +kernel
theorem dX13_ofSign_150 : decode cX13_ofSign 150 = .ok (.iload 5, 2) := by decide +kernel
theorem dX13_ofSign_152 : decode cX13_ofSign 152 = .ok (.ifCond .eq 43, 3) := by decide +kernel
theorem dX13_ofSign_155 : decode cX13_ofSign 155 = .ok (.lload 6, 2) := by decide +kernel
theorem dX13_ofSign_157 : decode cX13_ofSign 157 = .ok (.lconst 0, 1) := by decide +kernel
theorem dX13_ofSign_158 : decode cX13_ofSign 158 = .ok (.lcmp, 1) := by decide +kernel
theorem dX13_ofSign_159 : decode cX13_ofSign 159 = .ok (.ifCond .le 36, 3) := by decide +kernel
theorem dX13_ofSign_162 : decode cX13_ofSign 162 = .ok (.aload_n 0, 1) := by decide +kernel
theorem dX13_ofSign_163 : decode cX13_ofSign 163 = .ok (.iconst 1, 1) := by decide +kernel
theorem dX13_ofSign_164 : decode cX13_ofSign 164 = .ok (.aload_n 0, 1) := by decide +kernel
theorem dX13_ofSign_165 : decode cX13_ofSign 165 = .ok (.iconst (-1), 1) := by decide +kernel
theorem dX13_ofSign_166 : decode cX13_ofSign 166 = .ok (.aload_n 0, 1) := by decide +kernel
theorem dX13_ofSign_167 : decode cX13_ofSign 167 = .ok (.iconst 4, 1) := by decide +kernel
theorem dX13_ofSign_168 : decode cX13_ofSign 168 = .ok (.iconst (-1), 1) := by decide +kernel
theorem dX13_ofSign_169 : decode cX13_ofSign 169 = .ok (.iconst 0, 1) := by decide +kernel
theorem dX13_ofSign_170 : decode cX13_ofSign 170 = .ok (.lconst 0, 1) := by decide +kernel
theorem dX13_ofSign_171 : decode cX13_ofSign 171 = .ok (.aload_n 0, 1) := by decide +kernel
theorem dX13_ofSign_172 : decode cX13_ofSign 172 = .ok (.iconst 1, 1) := by decide +kernel
theorem dX13_ofSign_173 : decode cX13_ofSign 173 = .ok (.iconst (-1), 1) := by decide +kernel
theorem dX13_ofSign_174 : decode cX13_ofSign 174 = .ok (.iconst 0, 1) := by decide +kernel
theorem dX13_ofSign_175 : decode cX13_ofSign 175 = .ok (.lload 6, 2) := by decide +kernel
theorem dX13_ofSign_177 : decode cX13_ofSign 177 = .ok (.iconst (-1), 1) := by decide +kernel
theorem dX13_ofSign_178 : decode cX13_ofSign 178 = .ok (.invokevirtual 778, 3) := by decide +kernel
theorem dX13_ofSign_181 : decode cX13_ofSign 181 = .ok (.invokevirtual 778, 3) := by decide +kernel
theorem dX13_ofSign_184 : decode cX13_ofSign 184 = .ok (.iconst (-1), 1) := by decide +kernel
theorem dX13_ofSign_185 : decode cX13_ofSign 185 = .ok (.invokevirtual 785, 3) := by decide +kernel
theorem dX13_ofSign_188 : decode cX13_ofSign 188 = .ok (.iconst (-1), 1) := by decide +kernel
theorem dX13_ofSign_189 : decode cX13_ofSign 189 = .ok (.iconst (-1), 1) := by decide +kernel
theorem dX13_ofSign_190 : decode cX13_ofSign 190 = .ok (.iconst (-1), 1) := by decide +kernel
theorem dX13_ofSign_191 : decode cX13_ofSign 191 = .ok (.invokevirtual 788, 3) := by decide +kernel
theorem dX13_ofSign_194 : decode cX13_ofSign 194 = .ok (.ireturn, 1) := by decide +kernel
theorem dX13_ofSign_195 : decode cX13_ofSign 195 = .ok (.aload_n 0, 1) := by decide +kernel
theorem dX13_ofSign_196 : decode cX13_ofSign 196 = .ok (.invokevirtual 714, 3) := by decide +kernel
theorem dX13_ofSign_199 : decode cX13_ofSign 199 = .ok (.aload_n 0, 1) := by decide +kernel
theorem dX13_ofSign_200 : decode cX13_ofSign 200 = .ok (.aload_n 0, 1) := by decide +kernel
theorem dX13_ofSign_201 : decode cX13_ofSign 201 = .ok (.getfield 41, 3) := by decide +kernel
theorem dX13_ofSign_204 : decode cX13_ofSign 204 = .ok (.iload_n 1, 1) := by decide +kernel
theorem dX13_ofSign_205 : decode cX13_ofSign 205 = .ok (.iaload, 1) := by decide +kernel
theorem dX13_ofSign_206 : decode cX13_ofSign 206 = .ok (.iconst 1, 1) := by decide +kernel
theorem dX13_ofSign_207 : decode cX13_ofSign 207 = .ok (.invokevirtual 717, 3) := by decide +kernel
theorem dX13_ofSign_210 : decode cX13_ofSign 210 = .ok (.aload_n 0, 1) := by decide +kernel
theorem dX13_ofSign_211 : decode cX13_ofSign 211 = .ok (.getfield 29, 3) := by decide +kernel
theorem dX13_ofSign_214 : decode cX13_ofSign 214 = .ok (.iload_n 1, 1) := by decide +kernel
theorem dX13_ofSign_215 : decode cX13_ofSign 215 = .ok (.iaload, 1) := by decide +kernel
theorem dX13_ofSign_216 : decode cX13_ofSign 216 = .ok (.bipush 11, 2) := by decide +kernel
theorem dX13_ofSign_218 : decode cX13_ofSign 218 = .ok (.if_icmp .ne 45, 3) := by decide +kernel
theorem dX13_ofSign_221 : decode cX13_ofSign 221 = .ok (.iload 4, 2) := by decide +kernel
theorem dX13_ofSign_223 : decode cX13_ofSign 223 = .ok (.ifCond .eq 40, 3) := by decide +kernel
theorem dX13_ofSign_226 : decode cX13_ofSign 226 = .ok (.aload_n 0, 1) := by decide +kernel
theorem dX13_ofSign_227 : decode cX13_ofSign 227 = .ok (.getfield 704, 3) := by decide +kernel
theorem dX13_ofSign_230 : decode cX13_ofSign 230 = .ok (.ifCond .ne 33, 3) := by decide +kernel
theorem dX13_ofSign_233 : decode cX13_ofSign 233 = .ok (.aload_n 0, 1) := by decide +kernel
theorem dX13_ofSign_234 : decode cX13_ofSign 234 = .ok (.iconst 1, 1) := by decide +kernel
theorem dX13_ofSign_235 : decode cX13_ofSign 235 = .ok (.aload_n 0, 1) := by decide +kernel
theorem dX13_ofSign_236 : decode cX13_ofSign 236 = .ok (.iconst (-1), 1) := by decide +kernel
theorem dX13_ofSign_237 : decode cX13_ofSign 237 = .ok (.aload_n 0, 1) := by decide +kernel
theorem dX13_ofSign_238 : decode cX13_ofSign 238 = .ok (.iconst 0, 1) := by decide +kernel
theorem dX13_ofSign_239 : decode cX13_ofSign 239 = .ok (.iconst (-1), 1) := by decide +kernel
theorem dX13_ofSign_240 : decode cX13_ofSign 240 = .ok (.iconst 0, 1) := by decide +kernel
theorem dX13_ofSign_241 : decode cX13_ofSign 241 = .ok (.aload_n 0, 1) := by decide +kernel
theorem dX13_ofSign_242 : decode cX13_ofSign 242 = .ok (.getfield 707, 3) := by decide +kernel
theorem dX13_ofSign_245 : decode cX13_ofSign 245 = .ok (.lload 6, 2) := by decide +kernel
theorem dX13_ofSign_247 : decode cX13_ofSign 247 = .ok (.lmul, 1) := by decide +kernel
theorem dX13_ofSign_248 : decode cX13_ofSign 248 = .ok (.iconst (-1), 1) := by decide +kernel
theorem dX13_ofSign_249 : decode cX13_ofSign 249 = .ok (.invokevirtual 778, 3) := by decide +kernel
theorem dX13_ofSign_252 : decode cX13_ofSign 252 = .ok (.iconst (-1), 1) := by decide +kernel
theorem dX13_ofSign_253 : decode cX13_ofSign 253 = .ok (.invokevirtual 785, 3) := by decide +kernel
theorem dX13_ofSign_256 : decode cX13_ofSign 256 = .ok (.iconst (-1), 1) := by decide +kernel
theorem dX13_ofSign_257 : decode cX13_ofSign 257 = .ok (.iconst (-1), 1) := by decide +kernel
theorem dX13_ofSign_258 : decode cX13_ofSign 258 = .ok (.iconst (-1), 1) := by decide +kernel
theorem dX13_ofSign_259 : decode cX13_ofSign 259 = .ok (.invokevirtual 788, 3) := by decide +kernel
theorem dX13_ofSign_262 : decode cX13_ofSign 262 = .ok (.ireturn, 1) := by decide +kernel
theorem dX13_ofSign_263 : decode cX13_ofSign 263 = .ok (.aload_n 0, 1) := by decide +kernel
theorem dX13_ofSign_264 : decode cX13_ofSign 264 = .ok (.iconst 1, 1) := by decide +kernel
theorem dX13_ofSign_265 : decode cX13_ofSign 265 = .ok (.invokevirtual 800, 3) := by decide +kernel
theorem dX13_ofSign_268 : decode cX13_ofSign 268 = .ok (.ireturn, 1) := by decide +kernel
theorem dX13_ofCall_0 : decode cX13_ofCall 0 = .ok (.aload_n 0, 1) := by decide +kernel
theorem dX13_ofCall_1 : decode cX13_ofCall 1 = .ok (.getfield 240, 3) := by decide +kernel
theorem dX13_ofCall_4 : decode cX13_ofCall 4 = .ok (.aload_n 0, 1) := by decide +kernel
theorem dX13_ofCall_5 : decode cX13_ofCall 5 = .ok (.getfield 107, 3) := by decide +kernel
theorem dX13_ofCall_8 : decode cX13_ofCall 8 = .ok (.aload_n 0, 1) := by decide +kernel
theorem dX13_ofCall_9 : decode cX13_ofCall 9 = .ok (.getfield 38, 3) := by decide +kernel
theorem dX13_ofCall_12 : decode cX13_ofCall 12 = .ok (.iload_n 1, 1) := by decide +kernel
theorem dX13_ofCall_13 : decode cX13_ofCall 13 = .ok (.iaload, 1) := by decide +kernel
theorem dX13_ofCall_14 : decode cX13_ofCall 14 = .ok (.iaload, 1) := by decide +kernel
theorem dX13_ofCall_15 : decode cX13_ofCall 15 = .ok (.iaload, 1) := by decide +kernel
theorem dX13_ofCall_16 : decode cX13_ofCall 16 = .ok (.istore 4, 2) := by decide +kernel
theorem dX13_ofCall_18 : decode cX13_ofCall 18 = .ok (.iconst 0, 1) := by decide +kernel
theorem dX13_ofCall_19 : decode cX13_ofCall 19 = .ok (.istore 5, 2) := by decide +kernel
theorem dX13_ofCall_21 : decode cX13_ofCall 21 = .ok (.iload 5, 2) := by decide +kernel
theorem dX13_ofCall_23 : decode cX13_ofCall 23 = .ok (.aload_n 0, 1) := by decide +kernel
theorem dX13_ofCall_24 : decode cX13_ofCall 24 = .ok (.getfield 44, 3) := by decide +kernel
theorem dX13_ofCall_27 : decode cX13_ofCall 27 = .ok (.iload_n 1, 1) := by decide +kernel
theorem dX13_ofCall_28 : decode cX13_ofCall 28 = .ok (.iaload, 1) := by decide +kernel
theorem dX13_ofCall_29 : decode cX13_ofCall 29 = .ok (.if_icmp .ge 245, 3) := by decide +kernel
theorem dX13_ofCall_32 : decode cX13_ofCall 32 = .ok (.aload_n 0, 1) := by decide +kernel
theorem dX13_ofCall_33 : decode cX13_ofCall 33 = .ok (.getfield 41, 3) := by decide +kernel
theorem dX13_ofCall_36 : decode cX13_ofCall 36 = .ok (.iload_n 1, 1) := by decide +kernel
theorem dX13_ofCall_37 : decode cX13_ofCall 37 = .ok (.iaload, 1) := by decide +kernel
theorem dX13_ofCall_38 : decode cX13_ofCall 38 = .ok (.iload 5, 2) := by decide +kernel
theorem dX13_ofCall_40 : decode cX13_ofCall 40 = .ok (.iadd, 1) := by decide +kernel
theorem dX13_ofCall_41 : decode cX13_ofCall 41 = .ok (.istore 6, 2) := by decide +kernel
theorem dX13_ofCall_43 : decode cX13_ofCall 43 = .ok (.aload_n 0, 1) := by decide +kernel
theorem dX13_ofCall_44 : decode cX13_ofCall 44 = .ok (.getfield 71, 3) := by decide +kernel
theorem dX13_ofCall_47 : decode cX13_ofCall 47 = .ok (.iload 6, 2) := by decide +kernel
theorem dX13_ofCall_49 : decode cX13_ofCall 49 = .ok (.iaload, 1) := by decide +kernel
theorem dX13_ofCall_50 : decode cX13_ofCall 50 = .ok (.istore 7, 2) := by decide +kernel
theorem dX13_ofCall_52 : decode cX13_ofCall 52 = .ok (.aload_n 0, 1) := by decide +kernel
theorem dX13_ofCall_53 : decode cX13_ofCall 53 = .ok (.getfield 68, 3) := by decide +kernel
theorem dX13_ofCall_56 : decode cX13_ofCall 56 = .ok (.iload 6, 2) := by decide +kernel
theorem dX13_ofCall_58 : decode cX13_ofCall 58 = .ok (.iaload, 1) := by decide +kernel
theorem dX13_ofCall_59 : decode cX13_ofCall 59 = .ok (.iconst 1, 1) := by decide +kernel
theorem dX13_ofCall_60 : decode cX13_ofCall 60 = .ok (.if_icmp .ne 16, 3) := by decide +kernel
theorem dX13_ofCall_63 : decode cX13_ofCall 63 = .ok (.aload_n 0, 1) := by decide +kernel
theorem dX13_ofCall_64 : decode cX13_ofCall 64 = .ok (.iload 7, 2) := by decide +kernel
theorem dX13_ofCall_66 : decode cX13_ofCall 66 = .ok (.iload_n 2, 1) := by decide +kernel
theorem dX13_ofCall_67 : decode cX13_ofCall 67 = .ok (.iload_n 3, 1) := by decide +kernel
theorem dX13_ofCall_68 : decode cX13_ofCall 68 = .ok (.invokevirtual 838, 3) := by decide +kernel
theorem dX13_ofCall_71 : decode cX13_ofCall 71 = .ok (.istore 8, 2) := by decide +kernel
theorem dX13_ofCall_73 : decode cX13_ofCall 73 = .ok (.goto 81, 3) := by decide +kernel
theorem dX13_ofCall_76 : decode cX13_ofCall 76 = .ok (.aload_n 0, 1) := by decide +kernel
theorem dX13_ofCall_77 : decode cX13_ofCall 77 = .ok (.getfield 68, 3) := by decide +kernel
theorem dX13_ofCall_80 : decode cX13_ofCall 80 = .ok (.iload 6, 2) := by decide +kernel
theorem dX13_ofCall_82 : decode cX13_ofCall 82 = .ok (.iaload, 1) := by decide +kernel
theorem dX13_ofCall_83 : decode cX13_ofCall 83 = .ok (.iconst 1, 1) := by decide +kernel
theorem dX13_ofCall_84 : decode cX13_ofCall 84 = .ok (.if_icmp .le 13, 3) := by decide +kernel
theorem dX13_ofCall_87 : decode cX13_ofCall 87 = .ok (.aload_n 0, 1) := by decide +kernel
theorem dX13_ofCall_88 : decode cX13_ofCall 88 = .ok (.iconst 2, 1) := by decide +kernel
theorem dX13_ofCall_89 : decode cX13_ofCall 89 = .ok (.invokevirtual 800, 3) := by decide +kernel
theorem dX13_ofCall_92 : decode cX13_ofCall 92 = .ok (.istore 8, 2) := by decide +kernel
theorem dX13_ofCall_94 : decode cX13_ofCall 94 = .ok (.goto 60, 3) := by decide +kernel
theorem dX13_ofCall_97 : decode cX13_ofCall 97 = .ok (.aload_n 0, 1) := by decide +kernel
theorem dX13_ofCall_98 : decode cX13_ofCall 98 = .ok (.iload 7, 2) := by decide +kernel
theorem dX13_ofCall_100 : decode cX13_ofCall 100 = .ok (.invokevirtual 698, 3) := by decide +kernel
theorem dX13_ofCall_103 : decode cX13_ofCall 103 = .ok (.ifCond .eq 29, 3) := by decide +kernel
theorem dX13_ofCall_106 : decode cX13_ofCall 106 = .ok (.aload_n 0, 1) := by decide +kernel
theorem dX13_ofCall_107 : decode cX13_ofCall 107 = .ok (.aload_n 0, 1) := by decide +kernel
theorem dX13_ofCall_108 : decode cX13_ofCall 108 = .ok (.getfield 107, 3) := by decide +kernel
theorem dX13_ofCall_111 : decode cX13_ofCall 111 = .ok (.aload_n 0, 1) := by decide +kernel
theorem dX13_ofCall_112 : decode cX13_ofCall 112 = .ok (.getfield 65, 3) := by decide +kernel
theorem dX13_ofCall_115 : decode cX13_ofCall 115 = .ok (.aload_n 0, 1) := by decide +kernel
theorem dX13_ofCall_116 : decode cX13_ofCall 116 = .ok (.getfield 50, 3) := by decide +kernel
theorem dX13_ofCall_119 : decode cX13_ofCall 119 = .ok (.iload 7, 2) := by decide +kernel
theorem dX13_ofCall_121 : decode cX13_ofCall 121 = .ok (.iaload, 1) := by decide +kernel
theorem dX13_ofCall_122 : decode cX13_ofCall 122 = .ok (.iaload, 1) := by decide +kernel
theorem dX13_ofCall_123 : decode cX13_ofCall 123 = .ok (.iaload, 1) := by decide +kernel
theorem dX13_ofCall_124 : decode cX13_ofCall 124 = .ok (.invokevirtual 851, 3) := by decide +kernel
theorem dX13_ofCall_127 : decode cX13_ofCall 127 = .ok (.istore 8, 2) := by decide +kernel
theorem dX13_ofCall_129 : decode cX13_ofCall 129 = .ok (.goto 25, 3) := by decide +kernel
theorem dX13_ofCall_132 : decode cX13_ofCall 132 = .ok (.aload_n 0, 1) := by decide +kernel
theorem dX13_ofCall_133 : decode cX13_ofCall 133 = .ok (.iconst 1, 1) := by decide +kernel
theorem dX13_ofCall_134 : decode cX13_ofCall 134 = .ok (.aload_n 0, 1) := by decide +kernel
theorem dX13_ofCall_135 : decode cX13_ofCall 135 = .ok (.iconst (-1), 1) := by decide +kernel
theorem dX13_ofCall_136 : decode cX13_ofCall 136 = .ok (.aload_n 0, 1) := by decide +kernel
theorem dX13_ofCall_137 : decode cX13_ofCall 137 = .ok (.iload 7, 2) := by decide +kernel
theorem dX13_ofCall_139 : decode cX13_ofCall 139 = .ok (.invokevirtual 848, 3) := by decide +kernel
theorem dX13_ofCall_142 : decode cX13_ofCall 142 = .ok (.iconst (-1), 1) := by decide +kernel
theorem dX13_ofCall_143 : decode cX13_ofCall 143 = .ok (.invokevirtual 785, 3) := by decide +kernel
theorem dX13_ofCall_146 : decode cX13_ofCall 146 = .ok (.iconst (-1), 1) := by decide +kernel
theorem dX13_ofCall_147 : decode cX13_ofCall 147 = .ok (.iconst (-1), 1) := by decide +kernel
theorem dX13_ofCall_148 : decode cX13_ofCall 148 = .ok (.iconst (-1), 1) := by decide +kernel
theorem dX13_ofCall_149 : decode cX13_ofCall 149 = .ok (.invokevirtual 788, 3) := by decide +kernel
theorem dX13_ofCall_152 : decode cX13_ofCall 152 = .ok (.istore 8, 2) := by decide +kernel
theorem dX13_ofCall_154 : decode cX13_ofCall 154 = .ok (.aload_n 0, 1) := by decide +kernel
theorem dX13_ofCall_155 : decode cX13_ofCall 155 = .ok (.iload 8, 2) := by decide +kernel
theorem dX13_ofCall_157 : decode cX13_ofCall 157 = .ok (.aload_n 0, 1) := by decide +kernel
theorem dX13_ofCall_158 : decode cX13_ofCall 158 = .ok (.getfield 151, 3) := by decide +kernel
theorem dX13_ofCall_161 : decode cX13_ofCall 161 = .ok (.iload 4, 2) := by decide +kernel
theorem dX13_ofCall_163 : decode cX13_ofCall 163 = .ok (.iaload, 1) := by decide +kernel
theorem dX13_ofCall_164 : decode cX13_ofCall 164 = .ok (.iload_n 2, 1) := by decide +kernel
theorem dX13_ofCall_165 : decode cX13_ofCall 165 = .ok (.iload_n 3, 1) := by decide +kernel
theorem dX13_ofCall_166 : decode cX13_ofCall 166 = .ok (.invokevirtual 822, 3) := by decide +kernel
theorem dX13_ofCall_169 : decode cX13_ofCall 169 = .ok (.aload_n 0, 1) := by decide +kernel
theorem dX13_ofCall_170 : decode cX13_ofCall 170 = .ok (.getfield 142, 3) := by decide +kernel
theorem dX13_ofCall_173 : decode cX13_ofCall 173 = .ok (.aload_n 0, 1) := by decide +kernel
theorem dX13_ofCall_174 : decode cX13_ofCall 174 = .ok (.getfield 151, 3) := by decide +kernel
theorem dX13_ofCall_177 : decode cX13_ofCall 177 = .ok (.iload 4, 2) := by decide +kernel
theorem dX13_ofCall_179 : decode cX13_ofCall 179 = .ok (.iaload, 1) := by decide +kernel
theorem dX13_ofCall_180 : decode cX13_ofCall 180 = .ok (.iaload, 1) := by decide +kernel
theorem dX13_ofCall_181 : decode cX13_ofCall 181 = .ok (.invokestatic 782, 3) := by decide +kernel
theorem dX13_ofCall_184 : decode cX13_ofCall 184 = .ok (.istore 9, 2) := by decide +kernel
theorem dX13_ofCall_186 : decode cX13_ofCall 186 = .ok (.iload 9, 2) := by decide +kernel
theorem dX13_ofCall_188 : decode cX13_ofCall 188 = .ok (.ifCond .eq 71, 3) := by decide +kernel
theorem dX13_ofCall_191 : decode cX13_ofCall 191 = .ok (.aload_n 0, 1) := by decide +kernel
theorem dX13_ofCall_192 : decode cX13_ofCall 192 = .ok (.iload 7, 2) := by decide +kernel
theorem dX13_ofCall_194 : decode cX13_ofCall 194 = .ok (.invokevirtual 747, 3) := by decide +kernel
theorem dX13_ofCall_197 : decode cX13_ofCall 197 = .ok (.pop, 1) := by decide +kernel
theorem dX13_ofCall_198 : decode cX13_ofCall 198 = .ok (.aload_n 0, 1) := by decide +kernel
theorem dX13_ofCall_199 : decode cX13_ofCall 199 = .ok (.aload_n 0, 1) := by decide +kernel
theorem dX13_ofCall_200 : decode cX13_ofCall 200 = .ok (.getfield 154, 3) := by decide +kernel
theorem dX13_ofCall_203 : decode cX13_ofCall 203 = .ok (.iload 4, 2) := by decide +kernel
theorem dX13_ofCall_205 : decode cX13_ofCall 205 = .ok (.iaload, 1) := by decide +kernel
theorem dX13_ofCall_206 : decode cX13_ofCall 206 = .ok (.aload_n 0, 1) := by decide +kernel
theorem dX13_ofCall_207 : decode cX13_ofCall 207 = .ok (.getfield 148, 3) := by decide +kernel
theorem dX13_ofCall_210 : decode cX13_ofCall 210 = .ok (.iload 4, 2) := by decide +kernel
theorem dX13_ofCall_212 : decode cX13_ofCall 212 = .ok (.iaload, 1) := by decide +kernel
theorem dX13_ofCall_213 : decode cX13_ofCall 213 = .ok (.aload_n 0, 1) := by decide +kernel
theorem dX13_ofCall_214 : decode cX13_ofCall 214 = .ok (.getfield 704, 3) := by decide +kernel
theorem dX13_ofCall_217 : decode cX13_ofCall 217 = .ok (.ifCond .ne 7, 3) := by decide +kernel
theorem dX13_ofCall_220 : decode cX13_ofCall 220 = .ok (.iconst (-1), 1) := by decide +kernel
theorem dX13_ofCall_221 : decode cX13_ofCall 221 = .ok (.goto 9, 3) := by decide +kernel
theorem dX13_ofCall_224 : decode cX13_ofCall 224 = .ok (.aload_n 0, 1) := by decide +kernel
theorem dX13_ofCall_225 : decode cX13_ofCall 225 = .ok (.getfield 131, 3) := by decide +kernel
theorem dX13_ofCall_228 : decode cX13_ofCall 228 = .ok (.iconst 0, 1) := by decide +kernel
theorem dX13_ofCall_229 : decode cX13_ofCall 229 = .ok (.iaload, 1) := by decide +kernel
theorem dX13_ofCall_230 : decode cX13_ofCall 230 = .ok (.aload_n 0, 1) := by decide +kernel
theorem dX13_ofCall_231 : decode cX13_ofCall 231 = .ok (.getfield 704, 3) := by decide +kernel
theorem dX13_ofCall_234 : decode cX13_ofCall 234 = .ok (.ifCond .ne 7, 3) := by decide +kernel
theorem dX13_ofCall_237 : decode cX13_ofCall 237 = .ok (.iconst 0, 1) := by decide +kernel
theorem dX13_ofCall_238 : decode cX13_ofCall 238 = .ok (.goto 9, 3) := by decide +kernel
theorem dX13_ofCall_241 : decode cX13_ofCall 241 = .ok (.aload_n 0, 1) := by decide +kernel
theorem dX13_ofCall_242 : decode cX13_ofCall 242 = .ok (.getfield 134, 3) := by decide +kernel
theorem dX13_ofCall_245 : decode cX13_ofCall 245 = .ok (.iconst 0, 1) := by decide +kernel
theorem dX13_ofCall_246 : decode cX13_ofCall 246 = .ok (.iaload, 1) := by decide +kernel
theorem dX13_ofCall_247 : decode cX13_ofCall 247 = .ok (.aload_n 0, 1) := by decide +kernel
theorem dX13_ofCall_248 : decode cX13_ofCall 248 = .ok (.getfield 707, 3) := by decide +kernel
theorem dX13_ofCall_251 : decode cX13_ofCall 251 = .ok (.invokevirtual 815, 3) := by decide +kernel
theorem dX13_ofCall_254 : decode cX13_ofCall 254 = .ok (.istore 4, 2) := by decide +kernel
theorem dX13_ofCall_256 : decode cX13_ofCall 256 = .ok (.goto 12, 3) := by decide +kernel
theorem dX13_ofCall_259 : decode cX13_ofCall 259 = .ok (.aload_n 0, 1) := by decide +kernel
theorem dX13_ofCall_260 : decode cX13_ofCall 260 = .ok (.getfield 154, 3) := by decide +kernel
theorem dX13_ofCall_263 : decode cX13_ofCall 263 = .ok (.iload 4, 2) := by decide +kernel
theorem dX13_ofCall_265 : decode cX13_ofCall 265 = .ok (.iaload, 1) := by decide +kernel
theorem dX13_ofCall_266 : decode cX13_ofCall 266 = .ok (.istore 4, 2) := by decide +kernel
theorem dX13_ofCall_268 : decode cX13_ofCall 268 = .ok (.iinc 5 1, 3) := by decide +kernel
theorem dX13_ofCall_271 : decode cX13_ofCall 271 = .ok (.goto (-250), 3) := by decide +kernel
theorem dX13_ofCall_274 : decode cX13_ofCall 274 = .ok (.iload 4, 2) := by decide +kernel
theorem dX13_ofCall_276 : decode cX13_ofCall 276 = .ok (.ireturn, 1) := by decide +kernel
theorem dX13_beginBounds_0 : decode cX13_beginBounds 0 = .ok (.iconst 0, 1) := by decide +kernel
theorem dX13_beginBounds_1 : decode cX13_beginBounds 1 = .ok (.istore_n 1, 1) := by decide +kernel
theorem dX13_beginBounds_2 : decode cX13_beginBounds 2 = .ok (.iload_n 1, 1) := by decide +kernel
theorem dX13_beginBounds_3 : decode cX13_beginBounds 3 = .ok (.aload_n 0, 1) := by decide +kernel
theorem dX13_beginBounds_4 : decode cX13_beginBounds 4 = .ok (.getfield 862, 3) := by decide +kernel
theorem dX13_beginBounds_7 : decode cX13_beginBounds 7 = .ok (.if_icmp .ge 21, 3) := by decide +kernel
theorem dX13_beginBounds_10 : decode cX13_beginBounds 10 = .ok (.aload_n 0, 1) := by decide +kernel
theorem dX13_beginBounds_11 : decode cX13_beginBounds 11 = .ok (.getfield 285, 3) := by decide +kernel
theorem dX13_beginBounds_14 : decode cX13_beginBounds 14 = .ok (.aload_n 0, 1) := by decide +kernel
theorem dX13_beginBounds_15 : decode cX13_beginBounds 15 = .ok (.getfield 288, 3) := by decide +kernel
theorem dX13_beginBounds_18 : decode cX13_beginBounds 18 = .ok (.iload_n 1, 1) := by decide +kernel
theorem dX13_beginBounds_19 : decode cX13_beginBounds 19 = .ok (.iaload, 1) := by decide +kernel
theorem dX13_beginBounds_20 : decode cX13_beginBounds 20 = .ok (.iconst (-1), 1) := by decide +kernel
theorem dX13_beginBounds_21 : decode cX13_beginBounds 21 = .ok (.iastore, 1) := by decide +kernel
theorem dX13_beginBounds_22 : decode cX13_beginBounds 22 = .ok (.iinc 1 1, 3) := by decide +kernel
theorem dX13_beginBounds_25 : decode cX13_beginBounds 25 = .ok (.goto (-23), 3) := by decide +kernel
theorem dX13_beginBounds_28 : decode cX13_beginBounds 28 = .ok (.aload_n 0, 1) := by decide +kernel
theorem dX13_beginBounds_29 : decode cX13_beginBounds 29 = .ok (.iconst 0, 1) := by decide +kernel
theorem dX13_beginBounds_30 : decode cX13_beginBounds 30 = .ok (.putfield 862, 3) := by decide +kernel
theorem dX13_beginBounds_33 : decode cX13_beginBounds 33 = .ok (.return_, 1) := by decide +kernel
theorem dX13_atMost_0 : decode cX13_atMost 0 = .ok (.iload_n 3, 1) := by decide +kernel
theorem dX13_atMost_1 : decode cX13_atMost 1 = .ok (.ifCond .ne 21, 3) := by decide +kernel
theorem dX13_atMost_4 : decode cX13_atMost 4 = .ok (.iload 5, 2) := by decide +kernel
theorem dX13_atMost_6 : decode cX13_atMost 6 = .ok (.ifCond .ne 16, 3) := by decide +kernel
theorem dX13_atMost_9 : decode cX13_atMost 9 = .ok (.lload 6, 2) := by decide +kernel
theorem dX13_atMost_11 : decode cX13_atMost 11 = .ok (.lconst 0, 1) := by decide +kernel
theorem dX13_atMost_12 : decode cX13_atMost 12 = .ok (.lcmp, 1) := by decide +kernel
theorem dX13_atMost_13 : decode cX13_atMost 13 = .ok (.ifCond .gt 7, 3) := by decide +kernel
theorem dX13_atMost_16 : decode cX13_atMost 16 = .ok (.iconst 1, 1) := by decide +kernel
theorem dX13_atMost_17 : decode cX13_atMost 17 = .ok (.goto 4, 3) := by decide +kernel
theorem dX13_atMost_20 : decode cX13_atMost 20 = .ok (.iconst 0, 1) := by decide +kernel
theorem dX13_atMost_21 : decode cX13_atMost 21 = .ok (.ireturn, 1) := by decide +kernel
theorem dX13_atMost_22 : decode cX13_atMost 22 = .ok (.iload 5, 2) := by decide +kernel
theorem dX13_atMost_24 : decode cX13_atMost 24 = .ok (.ifCond .eq 7, 3) := by decide +kernel
theorem dX13_atMost_27 : decode cX13_atMost 27 = .ok (.iload_n 3, 1) := by decide +kernel
theorem dX13_atMost_28 : decode cX13_atMost 28 = .ok (.ifCond .ne 93, 3) := by decide +kernel
theorem dX13_atMost_31 : decode cX13_atMost 31 = .ok (.iload 5, 2) := by decide +kernel
theorem dX13_atMost_33 : decode cX13_atMost 33 = .ok (.ifCond .ne 7, 3) := by decide +kernel
theorem dX13_atMost_36 : decode cX13_atMost 36 = .ok (.iload_n 2, 1) := by decide +kernel
theorem dX13_atMost_37 : decode cX13_atMost 37 = .ok (.goto 5, 3) := by decide +kernel
theorem dX13_atMost_40 : decode cX13_atMost 40 = .ok (.iload 4, 2) := by decide +kernel
theorem dX13_atMost_42 : decode cX13_atMost 42 = .ok (.istore 8, 2) := by decide +kernel
theorem dX13_atMost_44 : decode cX13_atMost 44 = .ok (.iload 5, 2) := by decide +kernel
theorem dX13_atMost_46 : decode cX13_atMost 46 = .ok (.ifCond .ne 7, 3) := by decide +kernel
theorem dX13_atMost_49 : decode cX13_atMost 49 = .ok (.iload_n 3, 1) := by decide +kernel
theorem dX13_atMost_50 : decode cX13_atMost 50 = .ok (.goto 5, 3) := by decide +kernel
theorem dX13_atMost_53 : decode cX13_atMost 53 = .ok (.iload 5, 2) := by decide +kernel
theorem dX13_atMost_55 : decode cX13_atMost 55 = .ok (.istore 9, 2) := by decide +kernel
theorem dX13_atMost_57 : decode cX13_atMost 57 = .ok (.lload 6, 2) := by decide +kernel
theorem dX13_atMost_59 : decode cX13_atMost 59 = .ok (.lneg, 1) := by decide +kernel
theorem dX13_atMost_60 : decode cX13_atMost 60 = .ok (.lstore 10, 2) := by decide +kernel
theorem dX13_atMost_62 : decode cX13_atMost 62 = .ok (.iload 9, 2) := by decide +kernel
theorem dX13_atMost_64 : decode cX13_atMost 64 = .ok (.iconst 2, 1) := by decide +kernel
theorem dX13_atMost_65 : decode cX13_atMost 65 = .ok (.if_icmp .eq 10, 3) := by decide +kernel
theorem dX13_atMost_68 : decode cX13_atMost 68 = .ok (.iload 9, 2) := by decide +kernel
theorem dX13_atMost_70 : decode cX13_atMost 70 = .ok (.bipush (-2), 2) := by decide +kernel
theorem dX13_atMost_72 : decode cX13_atMost 72 = .ok (.if_icmp .ne 13, 3) := by decide +kernel
theorem dX13_atMost_75 : decode cX13_atMost 75 = .ok (.lload 10, 2) := by decide +kernel
theorem dX13_atMost_77 : decode cX13_atMost 77 = .ok (.ldc2_w 865, 3) := by decide +kernel
theorem dX13_atMost_80 : decode cX13_atMost 80 = .ok (.invokestatic 867, 3) := by decide +kernel
theorem dX13_atMost_83 : decode cX13_atMost 83 = .ok (.lstore 10, 2) := by decide +kernel
theorem dX13_atMost_85 : decode cX13_atMost 85 = .ok (.iconst 2, 1) := by decide +kernel
theorem dX13_atMost_86 : decode cX13_atMost 86 = .ok (.iload 8, 2) := by decide +kernel
theorem dX13_atMost_88 : decode cX13_atMost 88 = .ok (.imul, 1) := by decide +kernel
theorem dX13_atMost_89 : decode cX13_atMost 89 = .ok (.iload 9, 2) := by decide +kernel
theorem dX13_atMost_91 : decode cX13_atMost 91 = .ok (.ifCond .le 7, 3) := by decide +kernel
theorem dX13_atMost_94 : decode cX13_atMost 94 = .ok (.iconst 0, 1) := by decide +kernel
theorem dX13_atMost_95 : decode cX13_atMost 95 = .ok (.goto 4, 3) := by decide +kernel
theorem dX13_atMost_98 : decode cX13_atMost 98 = .ok (.iconst 1, 1) := by decide +kernel
theorem dX13_atMost_99 : decode cX13_atMost 99 = .ok (.iadd, 1) := by decide +kernel
theorem dX13_atMost_100 : decode cX13_atMost 100 = .ok (.istore 12, 2) := by decide +kernel
theorem dX13_atMost_102 : decode cX13_atMost 102 = .ok (.aload_n 0, 1) := by decide +kernel
theorem dX13_atMost_103 : decode cX13_atMost 103 = .ok (.aload_n 1, 1) := by decide +kernel
theorem dX13_atMost_104 : decode cX13_atMost 104 = .ok (.iload 12, 2) := by decide +kernel
theorem dX13_atMost_106 : decode cX13_atMost 106 = .ok (.iconst 1, 1) := by decide +kernel
theorem dX13_atMost_107 : decode cX13_atMost 107 = .ok (.ixor, 1) := by decide +kernel
theorem dX13_atMost_108 : decode cX13_atMost 108 = .ok (.iload 12, 2) := by decide +kernel
theorem dX13_atMost_110 : decode cX13_atMost 110 = .ok (.ldc2_w 865, 3) := by decide +kernel
theorem dX13_atMost_113 : decode cX13_atMost 113 = .ok (.lload 10, 2) := by decide +kernel
theorem dX13_atMost_115 : decode cX13_atMost 115 = .ok (.lmul, 1) := by decide +kernel
theorem dX13_atMost_116 : decode cX13_atMost 116 = .ok (.invokevirtual 871, 3) := by decide +kernel
theorem dX13_atMost_119 : decode cX13_atMost 119 = .ok (.iconst 1, 1) := by decide +kernel
theorem dX13_atMost_120 : decode cX13_atMost 120 = .ok (.ireturn, 1) := by decide +kernel
theorem dX13_atMost_121 : decode cX13_atMost 121 = .ok (.iconst 2, 1) := by decide +kernel
theorem dX13_atMost_122 : decode cX13_atMost 122 = .ok (.iload_n 2, 1) := by decide +kernel
theorem dX13_atMost_123 : decode cX13_atMost 123 = .ok (.imul, 1) := by decide +kernel
theorem dX13_atMost_124 : decode cX13_atMost 124 = .ok (.iload_n 3, 1) := by decide +kernel
theorem dX13_atMost_125 : decode cX13_atMost 125 = .ok (.ifCond .le 7, 3) := by decide +kernel
theorem dX13_atMost_128 : decode cX13_atMost 128 = .ok (.iconst 0, 1) := by decide +kernel
theorem dX13_atMost_129 : decode cX13_atMost 129 = .ok (.goto 4, 3) := by decide +kernel
theorem dX13_atMost_132 : decode cX13_atMost 132 = .ok (.iconst 1, 1) := by decide +kernel
theorem dX13_atMost_133 : decode cX13_atMost 133 = .ok (.iadd, 1) := by decide +kernel
theorem dX13_atMost_134 : decode cX13_atMost 134 = .ok (.istore 8, 2) := by decide +kernel
theorem dX13_atMost_136 : decode cX13_atMost 136 = .ok (.iconst 2, 1) := by decide +kernel
theorem dX13_atMost_137 : decode cX13_atMost 137 = .ok (.iload 4, 2) := by decide +kernel
theorem dX13_atMost_139 : decode cX13_atMost 139 = .ok (.imul, 1) := by decide +kernel
theorem dX13_atMost_140 : decode cX13_atMost 140 = .ok (.iload 5, 2) := by decide +kernel
theorem dX13_atMost_142 : decode cX13_atMost 142 = .ok (.ifCond .le 7, 3) := by decide +kernel
theorem dX13_atMost_145 : decode cX13_atMost 145 = .ok (.iconst 1, 1) := by decide +kernel
theorem dX13_atMost_146 : decode cX13_atMost 146 = .ok (.goto 4, 3) := by decide +kernel
theorem dX13_atMost_149 : decode cX13_atMost 149 = .ok (.iconst 0, 1) := by decide +kernel
theorem dX13_atMost_150 : decode cX13_atMost 150 = .ok (.iadd, 1) := by decide +kernel
theorem dX13_atMost_151 : decode cX13_atMost 151 = .ok (.istore 9, 2) := by decide +kernel
theorem dX13_atMost_153 : decode cX13_atMost 153 = .ok (.aload_n 0, 1) := by decide +kernel
theorem dX13_atMost_154 : decode cX13_atMost 154 = .ok (.aload_n 1, 1) := by decide +kernel
theorem dX13_atMost_155 : decode cX13_atMost 155 = .ok (.iload 9, 2) := by decide +kernel
theorem dX13_atMost_157 : decode cX13_atMost 157 = .ok (.iload 8, 2) := by decide +kernel
theorem dX13_atMost_159 : decode cX13_atMost 159 = .ok (.lload 6, 2) := by decide +kernel
theorem dX13_atMost_161 : decode cX13_atMost 161 = .ok (.lneg, 1) := by decide +kernel
theorem dX13_atMost_162 : decode cX13_atMost 162 = .ok (.invokevirtual 871, 3) := by decide +kernel
theorem dX13_atMost_165 : decode cX13_atMost 165 = .ok (.aload_n 0, 1) := by decide +kernel
theorem dX13_atMost_166 : decode cX13_atMost 166 = .ok (.aload_n 1, 1) := by decide +kernel
theorem dX13_atMost_167 : decode cX13_atMost 167 = .ok (.iload 8, 2) := by decide +kernel
theorem dX13_atMost_169 : decode cX13_atMost 169 = .ok (.iconst 1, 1) := by decide +kernel
theorem dX13_atMost_170 : decode cX13_atMost 170 = .ok (.ixor, 1) := by decide +kernel
theorem dX13_atMost_171 : decode cX13_atMost 171 = .ok (.iload 9, 2) := by decide +kernel
theorem dX13_atMost_173 : decode cX13_atMost 173 = .ok (.iconst 1, 1) := by decide +kernel
theorem dX13_atMost_174 : decode cX13_atMost 174 = .ok (.ixor, 1) := by decide +kernel
theorem dX13_atMost_175 : decode cX13_atMost 175 = .ok (.lload 6, 2) := by decide +kernel
theorem dX13_atMost_177 : decode cX13_atMost 177 = .ok (.lneg, 1) := by decide +kernel
theorem dX13_atMost_178 : decode cX13_atMost 178 = .ok (.invokevirtual 871, 3) := by decide +kernel
theorem dX13_atMost_181 : decode cX13_atMost 181 = .ok (.iconst 1, 1) := by decide +kernel
theorem dX13_atMost_182 : decode cX13_atMost 182 = .ok (.ireturn, 1) := by decide +kernel
theorem dX13_closes_0 : decode cX13_closes 0 = .ok (.iconst 2, 1) := by decide +kernel
theorem dX13_closes_1 : decode cX13_closes 1 = .ok (.aload_n 0, 1) := by decide +kernel
theorem dX13_closes_2 : decode cX13_closes 2 = .ok (.getfield 862, 3) := by decide +kernel
theorem dX13_closes_5 : decode cX13_closes 5 = .ok (.imul, 1) := by decide +kernel
theorem dX13_closes_6 : decode cX13_closes 6 = .ok (.istore_n 1, 1) := by decide +kernel
theorem dX13_closes_7 : decode cX13_closes 7 = .ok (.iconst 0, 1) := by decide +kernel
theorem dX13_closes_8 : decode cX13_closes 8 = .ok (.istore_n 2, 1) := by decide +kernel
theorem dX13_closes_9 : decode cX13_closes 9 = .ok (.iload_n 2, 1) := by decide +kernel
theorem dX13_closes_10 : decode cX13_closes 10 = .ok (.iload_n 1, 1) := by decide +kernel
theorem dX13_closes_11 : decode cX13_closes 11 = .ok (.if_icmp .ge 135, 3) := by decide +kernel
theorem dX13_closes_14 : decode cX13_closes 14 = .ok (.iconst 0, 1) := by decide +kernel
theorem dX13_closes_15 : decode cX13_closes 15 = .ok (.istore_n 3, 1) := by decide +kernel
theorem dX13_closes_16 : decode cX13_closes 16 = .ok (.iload_n 3, 1) := by decide +kernel
theorem dX13_closes_17 : decode cX13_closes 17 = .ok (.iload_n 1, 1) := by decide +kernel
theorem dX13_closes_18 : decode cX13_closes 18 = .ok (.if_icmp .ge 122, 3) := by decide +kernel
theorem dX13_closes_21 : decode cX13_closes 21 = .ok (.aload_n 0, 1) := by decide +kernel
theorem dX13_closes_22 : decode cX13_closes 22 = .ok (.getfield 282, 3) := by decide +kernel
theorem dX13_closes_25 : decode cX13_closes 25 = .ok (.sipush 160, 3) := by decide +kernel
theorem dX13_closes_28 : decode cX13_closes 28 = .ok (.iload_n 3, 1) := by decide +kernel
theorem dX13_closes_29 : decode cX13_closes 29 = .ok (.imul, 1) := by decide +kernel
theorem dX13_closes_30 : decode cX13_closes 30 = .ok (.iload_n 2, 1) := by decide +kernel
theorem dX13_closes_31 : decode cX13_closes 31 = .ok (.iadd, 1) := by decide +kernel
theorem dX13_closes_32 : decode cX13_closes 32 = .ok (.laload, 1) := by decide +kernel
theorem dX13_closes_33 : decode cX13_closes 33 = .ok (.lstore 4, 2) := by decide +kernel
theorem dX13_closes_35 : decode cX13_closes 35 = .ok (.lload 4, 2) := by decide +kernel
theorem dX13_closes_37 : decode cX13_closes 37 = .ok (.ldc2_w 875, 3) := by decide +kernel
theorem dX13_closes_40 : decode cX13_closes 40 = .ok (.lcmp, 1) := by decide +kernel
theorem dX13_closes_41 : decode cX13_closes 41 = .ok (.ifCond .lt 6, 3) := by decide +kernel
theorem dX13_closes_44 : decode cX13_closes 44 = .ok (.goto 90, 3) := by decide +kernel
theorem dX13_closes_47 : decode cX13_closes 47 = .ok (.iconst 0, 1) := by decide +kernel
theorem dX13_closes_48 : decode cX13_closes 48 = .ok (.istore 6, 2) := by decide +kernel
theorem dX13_closes_50 : decode cX13_closes 50 = .ok (.iload 6, 2) := by decide +kernel
theorem dX13_closes_52 : decode cX13_closes 52 = .ok (.iload_n 1, 1) := by decide +kernel
theorem dX13_closes_53 : decode cX13_closes 53 = .ok (.if_icmp .ge 81, 3) := by decide +kernel
theorem dX13_closes_56 : decode cX13_closes 56 = .ok (.lload 4, 2) := by decide +kernel
theorem dX13_closes_58 : decode cX13_closes 58 = .ok (.aload_n 0, 1) := by decide +kernel
theorem dX13_closes_59 : decode cX13_closes 59 = .ok (.getfield 282, 3) := by decide +kernel
theorem dX13_closes_62 : decode cX13_closes 62 = .ok (.sipush 160, 3) := by decide +kernel
theorem dX13_closes_65 : decode cX13_closes 65 = .ok (.iload_n 2, 1) := by decide +kernel
theorem dX13_closes_66 : decode cX13_closes 66 = .ok (.imul, 1) := by decide +kernel
theorem dX13_closes_67 : decode cX13_closes 67 = .ok (.iload 6, 2) := by decide +kernel
theorem dX13_closes_69 : decode cX13_closes 69 = .ok (.iadd, 1) := by decide +kernel
theorem dX13_closes_70 : decode cX13_closes 70 = .ok (.laload, 1) := by decide +kernel
theorem dX13_closes_71 : decode cX13_closes 71 = .ok (.ladd, 1) := by decide +kernel
theorem dX13_closes_72 : decode cX13_closes 72 = .ok (.lstore 7, 2) := by decide +kernel
theorem dX13_closes_74 : decode cX13_closes 74 = .ok (.lload 7, 2) := by decide +kernel
theorem dX13_closes_76 : decode cX13_closes 76 = .ok (.aload_n 0, 1) := by decide +kernel
theorem dX13_closes_77 : decode cX13_closes 77 = .ok (.getfield 282, 3) := by decide +kernel
theorem dX13_closes_80 : decode cX13_closes 80 = .ok (.sipush 160, 3) := by decide +kernel
theorem dX13_closes_83 : decode cX13_closes 83 = .ok (.iload_n 3, 1) := by decide +kernel
theorem dX13_closes_84 : decode cX13_closes 84 = .ok (.imul, 1) := by decide +kernel
theorem dX13_closes_85 : decode cX13_closes 85 = .ok (.iload 6, 2) := by decide +kernel
theorem dX13_closes_87 : decode cX13_closes 87 = .ok (.iadd, 1) := by decide +kernel
theorem dX13_closes_88 : decode cX13_closes 88 = .ok (.laload, 1) := by decide +kernel
theorem dX13_closes_89 : decode cX13_closes 89 = .ok (.lcmp, 1) := by decide +kernel
theorem dX13_closes_90 : decode cX13_closes 90 = .ok (.ifCond .ge 38, 3) := by decide +kernel
theorem dX13_closes_93 : decode cX13_closes 93 = .ok (.aload_n 0, 1) := by decide +kernel
theorem dX13_closes_94 : decode cX13_closes 94 = .ok (.getfield 282, 3) := by decide +kernel
theorem dX13_closes_97 : decode cX13_closes 97 = .ok (.sipush 160, 3) := by decide +kernel
theorem dX13_closes_100 : decode cX13_closes 100 = .ok (.iload_n 2, 1) := by decide +kernel
theorem dX13_closes_101 : decode cX13_closes 101 = .ok (.imul, 1) := by decide +kernel
theorem dX13_closes_102 : decode cX13_closes 102 = .ok (.iload 6, 2) := by decide +kernel
theorem dX13_closes_104 : decode cX13_closes 104 = .ok (.iadd, 1) := by decide +kernel
theorem dX13_closes_105 : decode cX13_closes 105 = .ok (.laload, 1) := by decide +kernel
theorem dX13_closes_106 : decode cX13_closes 106 = .ok (.ldc2_w 875, 3) := by decide +kernel
theorem dX13_closes_109 : decode cX13_closes 109 = .ok (.lcmp, 1) := by decide +kernel
theorem dX13_closes_110 : decode cX13_closes 110 = .ok (.ifCond .ge 18, 3) := by decide +kernel
theorem dX13_closes_113 : decode cX13_closes 113 = .ok (.aload_n 0, 1) := by decide +kernel
theorem dX13_closes_114 : decode cX13_closes 114 = .ok (.getfield 282, 3) := by decide +kernel
theorem dX13_closes_117 : decode cX13_closes 117 = .ok (.sipush 160, 3) := by decide +kernel
theorem dX13_closes_120 : decode cX13_closes 120 = .ok (.iload_n 3, 1) := by decide +kernel
theorem dX13_closes_121 : decode cX13_closes 121 = .ok (.imul, 1) := by decide +kernel
theorem dX13_closes_122 : decode cX13_closes 122 = .ok (.iload 6, 2) := by decide +kernel
theorem dX13_closes_124 : decode cX13_closes 124 = .ok (.iadd, 1) := by decide +kernel
theorem dX13_closes_125 : decode cX13_closes 125 = .ok (.lload 7, 2) := by decide +kernel
theorem dX13_closes_127 : decode cX13_closes 127 = .ok (.lastore, 1) := by decide +kernel
theorem dX13_closes_128 : decode cX13_closes 128 = .ok (.iinc 6 1, 3) := by decide +kernel
theorem dX13_closes_131 : decode cX13_closes 131 = .ok (.goto (-81), 3) := by decide +kernel
theorem dX13_closes_134 : decode cX13_closes 134 = .ok (.iinc 3 1, 3) := by decide +kernel
theorem dX13_closes_137 : decode cX13_closes 137 = .ok (.goto (-121), 3) := by decide +kernel
theorem dX13_closes_140 : decode cX13_closes 140 = .ok (.iinc 2 1, 3) := by decide +kernel
theorem dX13_closes_143 : decode cX13_closes 143 = .ok (.goto (-134), 3) := by decide +kernel
theorem dX13_closes_146 : decode cX13_closes 146 = .ok (.iconst 0, 1) := by decide +kernel
theorem dX13_closes_147 : decode cX13_closes 147 = .ok (.istore_n 2, 1) := by decide +kernel
theorem dX13_closes_148 : decode cX13_closes 148 = .ok (.iload_n 2, 1) := by decide +kernel
theorem dX13_closes_149 : decode cX13_closes 149 = .ok (.iload_n 1, 1) := by decide +kernel
theorem dX13_closes_150 : decode cX13_closes 150 = .ok (.if_icmp .ge 73, 3) := by decide +kernel
theorem dX13_closes_153 : decode cX13_closes 153 = .ok (.aload_n 0, 1) := by decide +kernel
theorem dX13_closes_154 : decode cX13_closes 154 = .ok (.getfield 282, 3) := by decide +kernel
theorem dX13_closes_157 : decode cX13_closes 157 = .ok (.sipush 160, 3) := by decide +kernel
theorem dX13_closes_160 : decode cX13_closes 160 = .ok (.iload_n 2, 1) := by decide +kernel
theorem dX13_closes_161 : decode cX13_closes 161 = .ok (.imul, 1) := by decide +kernel
theorem dX13_closes_162 : decode cX13_closes 162 = .ok (.iload_n 2, 1) := by decide +kernel
theorem dX13_closes_163 : decode cX13_closes 163 = .ok (.iadd, 1) := by decide +kernel
theorem dX13_closes_164 : decode cX13_closes 164 = .ok (.laload, 1) := by decide +kernel
theorem dX13_closes_165 : decode cX13_closes 165 = .ok (.lconst 0, 1) := by decide +kernel
theorem dX13_closes_166 : decode cX13_closes 166 = .ok (.lcmp, 1) := by decide +kernel
theorem dX13_closes_167 : decode cX13_closes 167 = .ok (.ifCond .ge 5, 3) := by decide +kernel
theorem dX13_closes_170 : decode cX13_closes 170 = .ok (.iconst 0, 1) := by decide +kernel
theorem dX13_closes_171 : decode cX13_closes 171 = .ok (.ireturn, 1) := by decide +kernel
theorem dX13_closes_172 : decode cX13_closes 172 = .ok (.sipush 160, 3) := by decide +kernel
theorem dX13_closes_175 : decode cX13_closes 175 = .ok (.iload_n 2, 1) := by decide +kernel
theorem dX13_closes_176 : decode cX13_closes 176 = .ok (.imul, 1) := by decide +kernel
theorem dX13_closes_177 : decode cX13_closes 177 = .ok (.iload_n 2, 1) := by decide +kernel
theorem dX13_closes_178 : decode cX13_closes 178 = .ok (.iconst 1, 1) := by decide +kernel
theorem dX13_closes_179 : decode cX13_closes 179 = .ok (.ixor, 1) := by decide +kernel
theorem dX13_closes_180 : decode cX13_closes 180 = .ok (.iadd, 1) := by decide +kernel
theorem dX13_closes_181 : decode cX13_closes 181 = .ok (.istore_n 3, 1) := by decide +kernel
theorem dX13_closes_182 : decode cX13_closes 182 = .ok (.aload_n 0, 1) := by decide +kernel
theorem dX13_closes_183 : decode cX13_closes 183 = .ok (.getfield 282, 3) := by decide +kernel
theorem dX13_closes_186 : decode cX13_closes 186 = .ok (.iload_n 3, 1) := by decide +kernel
theorem dX13_closes_187 : decode cX13_closes 187 = .ok (.laload, 1) := by decide +kernel
theorem dX13_closes_188 : decode cX13_closes 188 = .ok (.ldc2_w 875, 3) := by decide +kernel
theorem dX13_closes_191 : decode cX13_closes 191 = .ok (.lcmp, 1) := by decide +kernel
theorem dX13_closes_192 : decode cX13_closes 192 = .ok (.ifCond .ge 25, 3) := by decide +kernel
theorem dX13_closes_195 : decode cX13_closes 195 = .ok (.aload_n 0, 1) := by decide +kernel
theorem dX13_closes_196 : decode cX13_closes 196 = .ok (.getfield 282, 3) := by decide +kernel
theorem dX13_closes_199 : decode cX13_closes 199 = .ok (.iload_n 3, 1) := by decide +kernel
theorem dX13_closes_200 : decode cX13_closes 200 = .ok (.ldc2_w 865, 3) := by decide +kernel
theorem dX13_closes_203 : decode cX13_closes 203 = .ok (.aload_n 0, 1) := by decide +kernel
theorem dX13_closes_204 : decode cX13_closes 204 = .ok (.getfield 282, 3) := by decide +kernel
theorem dX13_closes_207 : decode cX13_closes 207 = .ok (.iload_n 3, 1) := by decide +kernel
theorem dX13_closes_208 : decode cX13_closes 208 = .ok (.laload, 1) := by decide +kernel
theorem dX13_closes_209 : decode cX13_closes 209 = .ok (.ldc2_w 865, 3) := by decide +kernel
theorem dX13_closes_212 : decode cX13_closes 212 = .ok (.invokestatic 867, 3) := by decide +kernel
theorem dX13_closes_215 : decode cX13_closes 215 = .ok (.lmul, 1) := by decide +kernel
theorem dX13_closes_216 : decode cX13_closes 216 = .ok (.lastore, 1) := by decide +kernel
theorem dX13_closes_217 : decode cX13_closes 217 = .ok (.iinc 2 1, 3) := by decide +kernel
theorem dX13_closes_220 : decode cX13_closes 220 = .ok (.goto (-72), 3) := by decide +kernel
theorem dX13_closes_223 : decode cX13_closes 223 = .ok (.iconst 0, 1) := by decide +kernel
theorem dX13_closes_224 : decode cX13_closes 224 = .ok (.istore_n 2, 1) := by decide +kernel
theorem dX13_closes_225 : decode cX13_closes 225 = .ok (.iload_n 2, 1) := by decide +kernel
theorem dX13_closes_226 : decode cX13_closes 226 = .ok (.iload_n 1, 1) := by decide +kernel
theorem dX13_closes_227 : decode cX13_closes 227 = .ok (.if_icmp .ge 68, 3) := by decide +kernel
theorem dX13_closes_230 : decode cX13_closes 230 = .ok (.aload_n 0, 1) := by decide +kernel
theorem dX13_closes_231 : decode cX13_closes 231 = .ok (.getfield 282, 3) := by decide +kernel
theorem dX13_closes_234 : decode cX13_closes 234 = .ok (.sipush 160, 3) := by decide +kernel
theorem dX13_closes_237 : decode cX13_closes 237 = .ok (.iload_n 2, 1) := by decide +kernel
theorem dX13_closes_238 : decode cX13_closes 238 = .ok (.imul, 1) := by decide +kernel
theorem dX13_closes_239 : decode cX13_closes 239 = .ok (.iload_n 2, 1) := by decide +kernel
theorem dX13_closes_240 : decode cX13_closes 240 = .ok (.iconst 1, 1) := by decide +kernel
theorem dX13_closes_241 : decode cX13_closes 241 = .ok (.ixor, 1) := by decide +kernel
theorem dX13_closes_242 : decode cX13_closes 242 = .ok (.iadd, 1) := by decide +kernel
theorem dX13_closes_243 : decode cX13_closes 243 = .ok (.laload, 1) := by decide +kernel
theorem dX13_closes_244 : decode cX13_closes 244 = .ok (.lstore_n 3, 1) := by decide +kernel
theorem dX13_closes_245 : decode cX13_closes 245 = .ok (.aload_n 0, 1) := by decide +kernel
theorem dX13_closes_246 : decode cX13_closes 246 = .ok (.getfield 282, 3) := by decide +kernel
theorem dX13_closes_249 : decode cX13_closes 249 = .ok (.sipush 160, 3) := by decide +kernel
theorem dX13_closes_252 : decode cX13_closes 252 = .ok (.iload_n 2, 1) := by decide +kernel
theorem dX13_closes_253 : decode cX13_closes 253 = .ok (.iconst 1, 1) := by decide +kernel
theorem dX13_closes_254 : decode cX13_closes 254 = .ok (.ixor, 1) := by decide +kernel
theorem dX13_closes_255 : decode cX13_closes 255 = .ok (.imul, 1) := by decide +kernel
theorem dX13_closes_256 : decode cX13_closes 256 = .ok (.iload_n 2, 1) := by decide +kernel
theorem dX13_closes_257 : decode cX13_closes 257 = .ok (.iadd, 1) := by decide +kernel
theorem dX13_closes_258 : decode cX13_closes 258 = .ok (.laload, 1) := by decide +kernel
theorem dX13_closes_259 : decode cX13_closes 259 = .ok (.lstore 5, 2) := by decide +kernel
theorem dX13_closes_261 : decode cX13_closes 261 = .ok (.lload_n 3, 1) := by decide +kernel
theorem dX13_closes_262 : decode cX13_closes 262 = .ok (.ldc2_w 875, 3) := by decide +kernel
theorem dX13_closes_265 : decode cX13_closes 265 = .ok (.lcmp, 1) := by decide +kernel
theorem dX13_closes_266 : decode cX13_closes 266 = .ok (.ifCond .ge 23, 3) := by decide +kernel
theorem dX13_closes_269 : decode cX13_closes 269 = .ok (.lload 5, 2) := by decide +kernel
theorem dX13_closes_271 : decode cX13_closes 271 = .ok (.ldc2_w 875, 3) := by decide +kernel
theorem dX13_closes_274 : decode cX13_closes 274 = .ok (.lcmp, 1) := by decide +kernel
theorem dX13_closes_275 : decode cX13_closes 275 = .ok (.ifCond .ge 14, 3) := by decide +kernel
theorem dX13_closes_278 : decode cX13_closes 278 = .ok (.lload_n 3, 1) := by decide +kernel
theorem dX13_closes_279 : decode cX13_closes 279 = .ok (.lload 5, 2) := by decide +kernel
theorem dX13_closes_281 : decode cX13_closes 281 = .ok (.ladd, 1) := by decide +kernel
theorem dX13_closes_282 : decode cX13_closes 282 = .ok (.lconst 0, 1) := by decide +kernel
theorem dX13_closes_283 : decode cX13_closes 283 = .ok (.lcmp, 1) := by decide +kernel
theorem dX13_closes_284 : decode cX13_closes 284 = .ok (.ifCond .ge 5, 3) := by decide +kernel
theorem dX13_closes_287 : decode cX13_closes 287 = .ok (.iconst 0, 1) := by decide +kernel
theorem dX13_closes_288 : decode cX13_closes 288 = .ok (.ireturn, 1) := by decide +kernel
theorem dX13_closes_289 : decode cX13_closes 289 = .ok (.iinc 2 1, 3) := by decide +kernel
theorem dX13_closes_292 : decode cX13_closes 292 = .ok (.goto (-67), 3) := by decide +kernel
theorem dX13_closes_295 : decode cX13_closes 295 = .ok (.iconst 0, 1) := by decide +kernel
theorem dX13_closes_296 : decode cX13_closes 296 = .ok (.istore_n 2, 1) := by decide +kernel
theorem dX13_closes_297 : decode cX13_closes 297 = .ok (.iload_n 2, 1) := by decide +kernel
theorem dX13_closes_298 : decode cX13_closes 298 = .ok (.iload_n 1, 1) := by decide +kernel
theorem dX13_closes_299 : decode cX13_closes 299 = .ok (.if_icmp .ge 91, 3) := by decide +kernel
theorem dX13_closes_302 : decode cX13_closes 302 = .ok (.iconst 0, 1) := by decide +kernel
theorem dX13_closes_303 : decode cX13_closes 303 = .ok (.istore_n 3, 1) := by decide +kernel
theorem dX13_closes_304 : decode cX13_closes 304 = .ok (.iload_n 3, 1) := by decide +kernel
theorem dX13_closes_305 : decode cX13_closes 305 = .ok (.iload_n 1, 1) := by decide +kernel
theorem dX13_closes_306 : decode cX13_closes 306 = .ok (.if_icmp .ge 78, 3) := by decide +kernel
theorem dX13_closes_309 : decode cX13_closes 309 = .ok (.aload_n 0, 1) := by decide +kernel
theorem dX13_closes_310 : decode cX13_closes 310 = .ok (.getfield 282, 3) := by decide +kernel
theorem dX13_closes_313 : decode cX13_closes 313 = .ok (.sipush 160, 3) := by decide +kernel
theorem dX13_closes_316 : decode cX13_closes 316 = .ok (.iload_n 2, 1) := by decide +kernel
theorem dX13_closes_317 : decode cX13_closes 317 = .ok (.imul, 1) := by decide +kernel
theorem dX13_closes_318 : decode cX13_closes 318 = .ok (.iload_n 2, 1) := by decide +kernel
theorem dX13_closes_319 : decode cX13_closes 319 = .ok (.iconst 1, 1) := by decide +kernel
theorem dX13_closes_320 : decode cX13_closes 320 = .ok (.ixor, 1) := by decide +kernel
theorem dX13_closes_321 : decode cX13_closes 321 = .ok (.iadd, 1) := by decide +kernel
theorem dX13_closes_322 : decode cX13_closes 322 = .ok (.laload, 1) := by decide +kernel
theorem dX13_closes_323 : decode cX13_closes 323 = .ok (.lstore 4, 2) := by decide +kernel
theorem dX13_closes_325 : decode cX13_closes 325 = .ok (.aload_n 0, 1) := by decide +kernel
theorem dX13_closes_326 : decode cX13_closes 326 = .ok (.getfield 282, 3) := by decide +kernel
theorem dX13_closes_329 : decode cX13_closes 329 = .ok (.sipush 160, 3) := by decide +kernel
theorem dX13_closes_332 : decode cX13_closes 332 = .ok (.iload_n 3, 1) := by decide +kernel
theorem dX13_closes_333 : decode cX13_closes 333 = .ok (.iconst 1, 1) := by decide +kernel
theorem dX13_closes_334 : decode cX13_closes 334 = .ok (.ixor, 1) := by decide +kernel
theorem dX13_closes_335 : decode cX13_closes 335 = .ok (.imul, 1) := by decide +kernel
theorem dX13_closes_336 : decode cX13_closes 336 = .ok (.iload_n 3, 1) := by decide +kernel
theorem dX13_closes_337 : decode cX13_closes 337 = .ok (.iadd, 1) := by decide +kernel
theorem dX13_closes_338 : decode cX13_closes 338 = .ok (.laload, 1) := by decide +kernel
theorem dX13_closes_339 : decode cX13_closes 339 = .ok (.lstore 6, 2) := by decide +kernel
theorem dX13_closes_341 : decode cX13_closes 341 = .ok (.lload 4, 2) := by decide +kernel
theorem dX13_closes_343 : decode cX13_closes 343 = .ok (.ldc2_w 875, 3) := by decide +kernel
theorem dX13_closes_346 : decode cX13_closes 346 = .ok (.lcmp, 1) := by decide +kernel
theorem dX13_closes_347 : decode cX13_closes 347 = .ok (.ifCond .ge 31, 3) := by decide +kernel
theorem dX13_closes_350 : decode cX13_closes 350 = .ok (.lload 6, 2) := by decide +kernel
theorem dX13_closes_352 : decode cX13_closes 352 = .ok (.ldc2_w 875, 3) := by decide +kernel
theorem dX13_closes_355 : decode cX13_closes 355 = .ok (.lcmp, 1) := by decide +kernel
theorem dX13_closes_356 : decode cX13_closes 356 = .ok (.ifCond .ge 22, 3) := by decide +kernel
theorem dX13_closes_359 : decode cX13_closes 359 = .ok (.aload_n 0, 1) := by decide +kernel
theorem dX13_closes_360 : decode cX13_closes 360 = .ok (.aload_n 0, 1) := by decide +kernel
theorem dX13_closes_361 : decode cX13_closes 361 = .ok (.getfield 282, 3) := by decide +kernel
theorem dX13_closes_364 : decode cX13_closes 364 = .ok (.iload_n 2, 1) := by decide +kernel
theorem dX13_closes_365 : decode cX13_closes 365 = .ok (.iload_n 3, 1) := by decide +kernel
theorem dX13_closes_366 : decode cX13_closes 366 = .ok (.lload 4, 2) := by decide +kernel
theorem dX13_closes_368 : decode cX13_closes 368 = .ok (.lload 6, 2) := by decide +kernel
theorem dX13_closes_370 : decode cX13_closes 370 = .ok (.ladd, 1) := by decide +kernel
theorem dX13_closes_371 : decode cX13_closes 371 = .ok (.ldc2_w 865, 3) := by decide +kernel
theorem dX13_closes_374 : decode cX13_closes 374 = .ok (.ldiv, 1) := by decide +kernel
theorem dX13_closes_375 : decode cX13_closes 375 = .ok (.invokevirtual 871, 3) := by decide +kernel
theorem dX13_closes_378 : decode cX13_closes 378 = .ok (.iinc 3 1, 3) := by decide +kernel
theorem dX13_closes_381 : decode cX13_closes 381 = .ok (.goto (-77), 3) := by decide +kernel
theorem dX13_closes_384 : decode cX13_closes 384 = .ok (.iinc 2 1, 3) := by decide +kernel
theorem dX13_closes_387 : decode cX13_closes 387 = .ok (.goto (-90), 3) := by decide +kernel
theorem dX13_closes_390 : decode cX13_closes 390 = .ok (.iconst 1, 1) := by decide +kernel
theorem dX13_closes_391 : decode cX13_closes 391 = .ok (.ireturn, 1) := by decide +kernel
theorem dX13_says_0 : decode cX13_says 0 = .ok (.iload_n 2, 1) := by decide +kernel
theorem dX13_says_1 : decode cX13_says 1 = .ok (.ifCond .ne 21, 3) := by decide +kernel
theorem dX13_says_4 : decode cX13_says 4 = .ok (.iload 4, 2) := by decide +kernel
theorem dX13_says_6 : decode cX13_says 6 = .ok (.ifCond .ne 16, 3) := by decide +kernel
theorem dX13_says_9 : decode cX13_says 9 = .ok (.lload 5, 2) := by decide +kernel
theorem dX13_says_11 : decode cX13_says 11 = .ok (.lconst 0, 1) := by decide +kernel
theorem dX13_says_12 : decode cX13_says 12 = .ok (.lcmp, 1) := by decide +kernel
theorem dX13_says_13 : decode cX13_says 13 = .ok (.ifCond .gt 7, 3) := by decide +kernel
theorem dX13_says_16 : decode cX13_says 16 = .ok (.iconst 1, 1) := by decide +kernel
theorem dX13_says_17 : decode cX13_says 17 = .ok (.goto 4, 3) := by decide +kernel
theorem dX13_says_20 : decode cX13_says 20 = .ok (.iconst 0, 1) := by decide +kernel
theorem dX13_says_21 : decode cX13_says 21 = .ok (.ireturn, 1) := by decide +kernel
theorem dX13_says_22 : decode cX13_says 22 = .ok (.iload 4, 2) := by decide +kernel
theorem dX13_says_24 : decode cX13_says 24 = .ok (.ifCond .eq 7, 3) := by decide +kernel
theorem dX13_says_27 : decode cX13_says 27 = .ok (.iload_n 2, 1) := by decide +kernel
theorem dX13_says_28 : decode cX13_says 28 = .ok (.ifCond .ne 105, 3) := by decide +kernel
theorem dX13_says_31 : decode cX13_says 31 = .ok (.iload 4, 2) := by decide +kernel
theorem dX13_says_33 : decode cX13_says 33 = .ok (.ifCond .ne 7, 3) := by decide +kernel
theorem dX13_says_36 : decode cX13_says 36 = .ok (.iload_n 1, 1) := by decide +kernel
theorem dX13_says_37 : decode cX13_says 37 = .ok (.goto 4, 3) := by decide +kernel
theorem dX13_says_40 : decode cX13_says 40 = .ok (.iload_n 3, 1) := by decide +kernel
theorem dX13_says_41 : decode cX13_says 41 = .ok (.istore 7, 2) := by decide +kernel
theorem dX13_says_43 : decode cX13_says 43 = .ok (.iload 4, 2) := by decide +kernel
theorem dX13_says_45 : decode cX13_says 45 = .ok (.ifCond .ne 7, 3) := by decide +kernel
theorem dX13_says_48 : decode cX13_says 48 = .ok (.iload_n 2, 1) := by decide +kernel
theorem dX13_says_49 : decode cX13_says 49 = .ok (.goto 5, 3) := by decide +kernel
theorem dX13_says_52 : decode cX13_says 52 = .ok (.iload 4, 2) := by decide +kernel
theorem dX13_says_54 : decode cX13_says 54 = .ok (.istore 8, 2) := by decide +kernel
theorem dX13_says_56 : decode cX13_says 56 = .ok (.lload 5, 2) := by decide +kernel
theorem dX13_says_58 : decode cX13_says 58 = .ok (.lneg, 1) := by decide +kernel
theorem dX13_says_59 : decode cX13_says 59 = .ok (.lstore 9, 2) := by decide +kernel
theorem dX13_says_61 : decode cX13_says 61 = .ok (.iload 8, 2) := by decide +kernel
theorem dX13_says_63 : decode cX13_says 63 = .ok (.iconst 2, 1) := by decide +kernel
theorem dX13_says_64 : decode cX13_says 64 = .ok (.if_icmp .eq 10, 3) := by decide +kernel
theorem dX13_says_67 : decode cX13_says 67 = .ok (.iload 8, 2) := by decide +kernel
theorem dX13_says_69 : decode cX13_says 69 = .ok (.bipush (-2), 2) := by decide +kernel
theorem dX13_says_71 : decode cX13_says 71 = .ok (.if_icmp .ne 13, 3) := by decide +kernel
theorem dX13_says_74 : decode cX13_says 74 = .ok (.lload 9, 2) := by decide +kernel
theorem dX13_says_76 : decode cX13_says 76 = .ok (.ldc2_w 865, 3) := by decide +kernel
theorem dX13_says_79 : decode cX13_says 79 = .ok (.invokestatic 867, 3) := by decide +kernel
theorem dX13_says_82 : decode cX13_says 82 = .ok (.lstore 9, 2) := by decide +kernel
theorem dX13_says_84 : decode cX13_says 84 = .ok (.iconst 2, 1) := by decide +kernel
theorem dX13_says_85 : decode cX13_says 85 = .ok (.iload 7, 2) := by decide +kernel
theorem dX13_says_87 : decode cX13_says 87 = .ok (.imul, 1) := by decide +kernel
theorem dX13_says_88 : decode cX13_says 88 = .ok (.iload 8, 2) := by decide +kernel
theorem dX13_says_90 : decode cX13_says 90 = .ok (.ifCond .le 7, 3) := by decide +kernel
theorem dX13_says_93 : decode cX13_says 93 = .ok (.iconst 0, 1) := by decide +kernel
theorem dX13_says_94 : decode cX13_says 94 = .ok (.goto 4, 3) := by decide +kernel
theorem dX13_says_97 : decode cX13_says 97 = .ok (.iconst 1, 1) := by decide +kernel
theorem dX13_says_98 : decode cX13_says 98 = .ok (.iadd, 1) := by decide +kernel
theorem dX13_says_99 : decode cX13_says 99 = .ok (.istore 11, 2) := by decide +kernel
theorem dX13_says_101 : decode cX13_says 101 = .ok (.aload_n 0, 1) := by decide +kernel
theorem dX13_says_102 : decode cX13_says 102 = .ok (.getfield 282, 3) := by decide +kernel
theorem dX13_says_105 : decode cX13_says 105 = .ok (.sipush 160, 3) := by decide +kernel
theorem dX13_says_108 : decode cX13_says 108 = .ok (.iload 11, 2) := by decide +kernel
theorem dX13_says_110 : decode cX13_says 110 = .ok (.iconst 1, 1) := by decide +kernel
theorem dX13_says_111 : decode cX13_says 111 = .ok (.ixor, 1) := by decide +kernel
theorem dX13_says_112 : decode cX13_says 112 = .ok (.imul, 1) := by decide +kernel
theorem dX13_says_113 : decode cX13_says 113 = .ok (.iload 11, 2) := by decide +kernel
theorem dX13_says_115 : decode cX13_says 115 = .ok (.iadd, 1) := by decide +kernel
theorem dX13_says_116 : decode cX13_says 116 = .ok (.laload, 1) := by decide +kernel
theorem dX13_says_117 : decode cX13_says 117 = .ok (.ldc2_w 865, 3) := by decide +kernel
theorem dX13_says_120 : decode cX13_says 120 = .ok (.lload 9, 2) := by decide +kernel
theorem dX13_says_122 : decode cX13_says 122 = .ok (.lmul, 1) := by decide +kernel
theorem dX13_says_123 : decode cX13_says 123 = .ok (.lcmp, 1) := by decide +kernel
theorem dX13_says_124 : decode cX13_says 124 = .ok (.ifCond .gt 7, 3) := by decide +kernel
theorem dX13_says_127 : decode cX13_says 127 = .ok (.iconst 1, 1) := by decide +kernel
theorem dX13_says_128 : decode cX13_says 128 = .ok (.goto 4, 3) := by decide +kernel
theorem dX13_says_131 : decode cX13_says 131 = .ok (.iconst 0, 1) := by decide +kernel
theorem dX13_says_132 : decode cX13_says 132 = .ok (.ireturn, 1) := by decide +kernel
theorem dX13_says_133 : decode cX13_says 133 = .ok (.iconst 2, 1) := by decide +kernel
theorem dX13_says_134 : decode cX13_says 134 = .ok (.iload_n 1, 1) := by decide +kernel
theorem dX13_says_135 : decode cX13_says 135 = .ok (.imul, 1) := by decide +kernel
theorem dX13_says_136 : decode cX13_says 136 = .ok (.iload_n 2, 1) := by decide +kernel
theorem dX13_says_137 : decode cX13_says 137 = .ok (.ifCond .le 7, 3) := by decide +kernel
theorem dX13_says_140 : decode cX13_says 140 = .ok (.iconst 0, 1) := by decide +kernel
theorem dX13_says_141 : decode cX13_says 141 = .ok (.goto 4, 3) := by decide +kernel
theorem dX13_says_144 : decode cX13_says 144 = .ok (.iconst 1, 1) := by decide +kernel
theorem dX13_says_145 : decode cX13_says 145 = .ok (.iadd, 1) := by decide +kernel
theorem dX13_says_146 : decode cX13_says 146 = .ok (.istore 7, 2) := by decide +kernel
theorem dX13_says_148 : decode cX13_says 148 = .ok (.iconst 2, 1) := by decide +kernel
theorem dX13_says_149 : decode cX13_says 149 = .ok (.iload_n 3, 1) := by decide +kernel
theorem dX13_says_150 : decode cX13_says 150 = .ok (.imul, 1) := by decide +kernel
theorem dX13_says_151 : decode cX13_says 151 = .ok (.iload 4, 2) := by decide +kernel
theorem dX13_says_153 : decode cX13_says 153 = .ok (.ifCond .le 7, 3) := by decide +kernel
theorem dX13_says_156 : decode cX13_says 156 = .ok (.iconst 1, 1) := by decide +kernel
theorem dX13_says_157 : decode cX13_says 157 = .ok (.goto 4, 3) := by decide +kernel
theorem dX13_says_160 : decode cX13_says 160 = .ok (.iconst 0, 1) := by decide +kernel
theorem dX13_says_161 : decode cX13_says 161 = .ok (.iadd, 1) := by decide +kernel
theorem dX13_says_162 : decode cX13_says 162 = .ok (.istore 8, 2) := by decide +kernel
theorem dX13_says_164 : decode cX13_says 164 = .ok (.aload_n 0, 1) := by decide +kernel
theorem dX13_says_165 : decode cX13_says 165 = .ok (.getfield 282, 3) := by decide +kernel
theorem dX13_says_168 : decode cX13_says 168 = .ok (.sipush 160, 3) := by decide +kernel
theorem dX13_says_171 : decode cX13_says 171 = .ok (.iload 8, 2) := by decide +kernel
theorem dX13_says_173 : decode cX13_says 173 = .ok (.imul, 1) := by decide +kernel
theorem dX13_says_174 : decode cX13_says 174 = .ok (.iload 7, 2) := by decide +kernel
theorem dX13_says_176 : decode cX13_says 176 = .ok (.iadd, 1) := by decide +kernel
theorem dX13_says_177 : decode cX13_says 177 = .ok (.laload, 1) := by decide +kernel
theorem dX13_says_178 : decode cX13_says 178 = .ok (.lload 5, 2) := by decide +kernel
theorem dX13_says_180 : decode cX13_says 180 = .ok (.lneg, 1) := by decide +kernel
theorem dX13_says_181 : decode cX13_says 181 = .ok (.lcmp, 1) := by decide +kernel
theorem dX13_says_182 : decode cX13_says 182 = .ok (.ifCond .gt 7, 3) := by decide +kernel
theorem dX13_says_185 : decode cX13_says 185 = .ok (.iconst 1, 1) := by decide +kernel
theorem dX13_says_186 : decode cX13_says 186 = .ok (.goto 4, 3) := by decide +kernel
theorem dX13_says_189 : decode cX13_says 189 = .ok (.iconst 0, 1) := by decide +kernel
theorem dX13_says_190 : decode cX13_says 190 = .ok (.ireturn, 1) := by decide +kernel
theorem dX13_putIn_0 : decode cX13_putIn 0 = .ok (.iload_n 1, 1) := by decide +kernel
theorem dX13_putIn_1 : decode cX13_putIn 1 = .ok (.ifCond .ge 4, 3) := by decide +kernel
theorem dX13_putIn_4 : decode cX13_putIn 4 = .ok (.return_, 1) := by decide +kernel
theorem dX13_putIn_5 : decode cX13_putIn 5 = .ok (.aload_n 0, 1) := by decide +kernel
theorem dX13_putIn_6 : decode cX13_putIn 6 = .ok (.aload_n 0, 1) := by decide +kernel
theorem dX13_putIn_7 : decode cX13_putIn 7 = .ok (.getfield 191, 3) := by decide +kernel
theorem dX13_putIn_10 : decode cX13_putIn 10 = .ok (.iload_n 1, 1) := by decide +kernel
theorem dX13_putIn_11 : decode cX13_putIn 11 = .ok (.iaload, 1) := by decide +kernel
theorem dX13_putIn_12 : decode cX13_putIn 12 = .ok (.invokevirtual 877, 3) := by decide +kernel
theorem dX13_putIn_15 : decode cX13_putIn 15 = .ok (.aload_n 0, 1) := by decide +kernel
theorem dX13_putIn_16 : decode cX13_putIn 16 = .ok (.getfield 880, 3) := by decide +kernel
theorem dX13_putIn_19 : decode cX13_putIn 19 = .ok (.ifCond .ne 23, 3) := by decide +kernel
theorem dX13_putIn_22 : decode cX13_putIn 22 = .ok (.aload_n 0, 1) := by decide +kernel
theorem dX13_putIn_23 : decode cX13_putIn 23 = .ok (.getfield 883, 3) := by decide +kernel
theorem dX13_putIn_26 : decode cX13_putIn 26 = .ok (.ifCond .eq 16, 3) := by decide +kernel
theorem dX13_putIn_29 : decode cX13_putIn 29 = .ok (.aload_n 0, 1) := by decide +kernel
theorem dX13_putIn_30 : decode cX13_putIn 30 = .ok (.getfield 886, 3) := by decide +kernel
theorem dX13_putIn_33 : decode cX13_putIn 33 = .ok (.aload_n 0, 1) := by decide +kernel
theorem dX13_putIn_34 : decode cX13_putIn 34 = .ok (.getfield 182, 3) := by decide +kernel
theorem dX13_putIn_37 : decode cX13_putIn 37 = .ok (.iload_n 1, 1) := by decide +kernel
theorem dX13_putIn_38 : decode cX13_putIn 38 = .ok (.iaload, 1) := by decide +kernel
theorem dX13_putIn_39 : decode cX13_putIn 39 = .ok (.if_icmp .eq 4, 3) := by decide +kernel
theorem dX13_putIn_42 : decode cX13_putIn 42 = .ok (.return_, 1) := by decide +kernel
theorem dX13_putIn_43 : decode cX13_putIn 43 = .ok (.aload_n 0, 1) := by decide +kernel
theorem dX13_putIn_44 : decode cX13_putIn 44 = .ok (.iconst 1, 1) := by decide +kernel
theorem dX13_putIn_45 : decode cX13_putIn 45 = .ok (.putfield 880, 3) := by decide +kernel
theorem dX13_putIn_48 : decode cX13_putIn 48 = .ok (.aload_n 0, 1) := by decide +kernel
theorem dX13_putIn_49 : decode cX13_putIn 49 = .ok (.dup, 1) := by decide +kernel
theorem dX13_putIn_50 : decode cX13_putIn 50 = .ok (.getfield 889, 3) := by decide +kernel
theorem dX13_putIn_53 : decode cX13_putIn 53 = .ok (.aload_n 0, 1) := by decide +kernel
theorem dX13_putIn_54 : decode cX13_putIn 54 = .ok (.getfield 883, 3) := by decide +kernel
theorem dX13_putIn_57 : decode cX13_putIn 57 = .ok (.i2l, 1) := by decide +kernel
theorem dX13_putIn_58 : decode cX13_putIn 58 = .ok (.aload_n 0, 1) := by decide +kernel
theorem dX13_putIn_59 : decode cX13_putIn 59 = .ok (.getfield 194, 3) := by decide +kernel
theorem dX13_putIn_62 : decode cX13_putIn 62 = .ok (.iload_n 1, 1) := by decide +kernel
theorem dX13_putIn_63 : decode cX13_putIn 63 = .ok (.laload, 1) := by decide +kernel
theorem dX13_putIn_64 : decode cX13_putIn 64 = .ok (.lmul, 1) := by decide +kernel
theorem dX13_putIn_65 : decode cX13_putIn 65 = .ok (.ladd, 1) := by decide +kernel
theorem dX13_putIn_66 : decode cX13_putIn 66 = .ok (.putfield 889, 3) := by decide +kernel
theorem dX13_putIn_69 : decode cX13_putIn 69 = .ok (.aload_n 0, 1) := by decide +kernel
theorem dX13_putIn_70 : decode cX13_putIn 70 = .ok (.aload_n 0, 1) := by decide +kernel
theorem dX13_putIn_71 : decode cX13_putIn 71 = .ok (.getfield 883, 3) := by decide +kernel
theorem dX13_putIn_74 : decode cX13_putIn 74 = .ok (.aload_n 0, 1) := by decide +kernel
theorem dX13_putIn_75 : decode cX13_putIn 75 = .ok (.getfield 188, 3) := by decide +kernel
theorem dX13_putIn_78 : decode cX13_putIn 78 = .ok (.iload_n 1, 1) := by decide +kernel
theorem dX13_putIn_79 : decode cX13_putIn 79 = .ok (.iaload, 1) := by decide +kernel
theorem dX13_putIn_80 : decode cX13_putIn 80 = .ok (.imul, 1) := by decide +kernel
theorem dX13_putIn_81 : decode cX13_putIn 81 = .ok (.putfield 883, 3) := by decide +kernel
theorem dX13_putIn_84 : decode cX13_putIn 84 = .ok (.aload_n 0, 1) := by decide +kernel
theorem dX13_putIn_85 : decode cX13_putIn 85 = .ok (.aload_n 0, 1) := by decide +kernel
theorem dX13_putIn_86 : decode cX13_putIn 86 = .ok (.getfield 883, 3) := by decide +kernel
theorem dX13_putIn_89 : decode cX13_putIn 89 = .ok (.ifCond .ne 7, 3) := by decide +kernel
theorem dX13_putIn_92 : decode cX13_putIn 92 = .ok (.iconst (-1), 1) := by decide +kernel
theorem dX13_putIn_93 : decode cX13_putIn 93 = .ok (.goto 9, 3) := by decide +kernel
theorem dX13_putIn_96 : decode cX13_putIn 96 = .ok (.aload_n 0, 1) := by decide +kernel
theorem dX13_putIn_97 : decode cX13_putIn 97 = .ok (.getfield 185, 3) := by decide +kernel
theorem dX13_putIn_100 : decode cX13_putIn 100 = .ok (.iload_n 1, 1) := by decide +kernel
theorem dX13_putIn_101 : decode cX13_putIn 101 = .ok (.iaload, 1) := by decide +kernel
theorem dX13_putIn_102 : decode cX13_putIn 102 = .ok (.putfield 886, 3) := by decide +kernel
theorem dX13_putIn_105 : decode cX13_putIn 105 = .ok (.return_, 1) := by decide +kernel
theorem dX13_termOf_0 : decode cX13_termOf 0 = .ok (.aload_n 0, 1) := by decide +kernel
theorem dX13_termOf_1 : decode cX13_termOf 1 = .ok (.iload_n 1, 1) := by decide +kernel
theorem dX13_termOf_2 : decode cX13_termOf 2 = .ok (.putfield 886, 3) := by decide +kernel
theorem dX13_termOf_5 : decode cX13_termOf 5 = .ok (.aload_n 0, 1) := by decide +kernel
theorem dX13_termOf_6 : decode cX13_termOf 6 = .ok (.iload_n 1, 1) := by decide +kernel
theorem dX13_termOf_7 : decode cX13_termOf 7 = .ok (.ifCond .ge 7, 3) := by decide +kernel
theorem dX13_termOf_10 : decode cX13_termOf 10 = .ok (.iconst 0, 1) := by decide +kernel
theorem dX13_termOf_11 : decode cX13_termOf 11 = .ok (.goto 4, 3) := by decide +kernel
theorem dX13_termOf_14 : decode cX13_termOf 14 = .ok (.iload_n 2, 1) := by decide +kernel
theorem dX13_termOf_15 : decode cX13_termOf 15 = .ok (.putfield 883, 3) := by decide +kernel
theorem dX13_termOf_18 : decode cX13_termOf 18 = .ok (.aload_n 0, 1) := by decide +kernel
theorem dX13_termOf_19 : decode cX13_termOf 19 = .ok (.lload_n 3, 1) := by decide +kernel
theorem dX13_termOf_20 : decode cX13_termOf 20 = .ok (.putfield 889, 3) := by decide +kernel
theorem dX13_termOf_23 : decode cX13_termOf 23 = .ok (.aload_n 0, 1) := by decide +kernel
theorem dX13_termOf_24 : decode cX13_termOf 24 = .ok (.iconst 0, 1) := by decide +kernel
theorem dX13_termOf_25 : decode cX13_termOf 25 = .ok (.putfield 880, 3) := by decide +kernel
theorem dX13_termOf_28 : decode cX13_termOf 28 = .ok (.aload_n 0, 1) := by decide +kernel
theorem dX13_termOf_29 : decode cX13_termOf 29 = .ok (.iload 5, 2) := by decide +kernel
theorem dX13_termOf_31 : decode cX13_termOf 31 = .ok (.invokevirtual 877, 3) := by decide +kernel
theorem dX13_termOf_34 : decode cX13_termOf 34 = .ok (.return_, 1) := by decide +kernel
theorem dX13_instanceTerm_0 : decode cX13_instanceTerm 0 = .ok (.aload_n 0, 1) := by decide +kernel
theorem dX13_instanceTerm_1 : decode cX13_instanceTerm 1 = .ok (.getfield 206, 3) := by decide +kernel
theorem dX13_instanceTerm_4 : decode cX13_instanceTerm 4 = .ok (.iload_n 1, 1) := by decide +kernel
theorem dX13_instanceTerm_5 : decode cX13_instanceTerm 5 = .ok (.iaload, 1) := by decide +kernel
theorem dX13_instanceTerm_6 : decode cX13_instanceTerm 6 = .ok (.istore_n 3, 1) := by decide +kernel
theorem dX13_instanceTerm_7 : decode cX13_instanceTerm 7 = .ok (.aload_n 0, 1) := by decide +kernel
theorem dX13_instanceTerm_8 : decode cX13_instanceTerm 8 = .ok (.getfield 86, 3) := by decide +kernel
theorem dX13_instanceTerm_11 : decode cX13_instanceTerm 11 = .ok (.iload_n 3, 1) := by decide +kernel
theorem dX13_instanceTerm_12 : decode cX13_instanceTerm 12 = .ok (.iaload, 1) := by decide +kernel
theorem dX13_instanceTerm_13 : decode cX13_instanceTerm 13 = .ok (.iconst 1, 1) := by decide +kernel
theorem dX13_instanceTerm_14 : decode cX13_instanceTerm 14 = .ok (.if_icmp .ne 39, 3) := by decide +kernel
theorem dX13_instanceTerm_17 : decode cX13_instanceTerm 17 = .ok (.aload_n 0, 1) := by decide +kernel
theorem dX13_instanceTerm_18 : decode cX13_instanceTerm 18 = .ok (.aload_n 0, 1) := by decide +kernel
theorem dX13_instanceTerm_19 : decode cX13_instanceTerm 19 = .ok (.getfield 209, 3) := by decide +kernel
theorem dX13_instanceTerm_22 : decode cX13_instanceTerm 22 = .ok (.iload_n 1, 1) := by decide +kernel
theorem dX13_instanceTerm_23 : decode cX13_instanceTerm 23 = .ok (.iaload, 1) := by decide +kernel
theorem dX13_instanceTerm_24 : decode cX13_instanceTerm 24 = .ok (.aload_n 0, 1) := by decide +kernel
theorem dX13_instanceTerm_25 : decode cX13_instanceTerm 25 = .ok (.getfield 83, 3) := by decide +kernel
theorem dX13_instanceTerm_28 : decode cX13_instanceTerm 28 = .ok (.iload_n 3, 1) := by decide +kernel
theorem dX13_instanceTerm_29 : decode cX13_instanceTerm 29 = .ok (.iaload, 1) := by decide +kernel
theorem dX13_instanceTerm_30 : decode cX13_instanceTerm 30 = .ok (.iconst 1, 1) := by decide +kernel
theorem dX13_instanceTerm_31 : decode cX13_instanceTerm 31 = .ok (.if_icmp .ne 7, 3) := by decide +kernel
theorem dX13_instanceTerm_34 : decode cX13_instanceTerm 34 = .ok (.iconst (-1), 1) := by decide +kernel
theorem dX13_instanceTerm_35 : decode cX13_instanceTerm 35 = .ok (.goto 4, 3) := by decide +kernel
theorem dX13_instanceTerm_38 : decode cX13_instanceTerm 38 = .ok (.iconst 1, 1) := by decide +kernel
theorem dX13_instanceTerm_39 : decode cX13_instanceTerm 39 = .ok (.aload_n 0, 1) := by decide +kernel
theorem dX13_instanceTerm_40 : decode cX13_instanceTerm 40 = .ok (.getfield 89, 3) := by decide +kernel
theorem dX13_instanceTerm_43 : decode cX13_instanceTerm 43 = .ok (.iload_n 3, 1) := by decide +kernel
theorem dX13_instanceTerm_44 : decode cX13_instanceTerm 44 = .ok (.iaload, 1) := by decide +kernel
theorem dX13_instanceTerm_45 : decode cX13_instanceTerm 45 = .ok (.i2l, 1) := by decide +kernel
theorem dX13_instanceTerm_46 : decode cX13_instanceTerm 46 = .ok (.iload_n 2, 1) := by decide +kernel
theorem dX13_instanceTerm_47 : decode cX13_instanceTerm 47 = .ok (.invokevirtual 892, 3) := by decide +kernel
theorem dX13_instanceTerm_50 : decode cX13_instanceTerm 50 = .ok (.goto 17, 3) := by decide +kernel
theorem dX13_instanceTerm_53 : decode cX13_instanceTerm 53 = .ok (.aload_n 0, 1) := by decide +kernel
theorem dX13_instanceTerm_54 : decode cX13_instanceTerm 54 = .ok (.iconst (-1), 1) := by decide +kernel
theorem dX13_instanceTerm_55 : decode cX13_instanceTerm 55 = .ok (.iconst 0, 1) := by decide +kernel
theorem dX13_instanceTerm_56 : decode cX13_instanceTerm 56 = .ok (.aload_n 0, 1) := by decide +kernel
theorem dX13_instanceTerm_57 : decode cX13_instanceTerm 57 = .ok (.getfield 89, 3) := by decide +kernel
theorem dX13_instanceTerm_60 : decode cX13_instanceTerm 60 = .ok (.iload_n 3, 1) := by decide +kernel
theorem dX13_instanceTerm_61 : decode cX13_instanceTerm 61 = .ok (.iaload, 1) := by decide +kernel
theorem dX13_instanceTerm_62 : decode cX13_instanceTerm 62 = .ok (.i2l, 1) := by decide +kernel
theorem dX13_instanceTerm_63 : decode cX13_instanceTerm 63 = .ok (.iload_n 2, 1) := by decide +kernel
theorem dX13_instanceTerm_64 : decode cX13_instanceTerm 64 = .ok (.invokevirtual 892, 3) := by decide +kernel
theorem dX13_instanceTerm_67 : decode cX13_instanceTerm 67 = .ok (.return_, 1) := by decide +kernel
theorem dX13_saysOf_0 : decode cX13_saysOf 0 = .ok (.iconst 1, 1) := by decide +kernel
theorem dX13_saysOf_1 : decode cX13_saysOf 1 = .ok (.istore_n 3, 1) := by decide +kernel
theorem dX13_saysOf_2 : decode cX13_saysOf 2 = .ok (.aload_n 0, 1) := by decide +kernel
theorem dX13_saysOf_3 : decode cX13_saysOf 3 = .ok (.getfield 160, 3) := by decide +kernel
theorem dX13_saysOf_6 : decode cX13_saysOf 6 = .ok (.iload_n 1, 1) := by decide +kernel
theorem dX13_saysOf_7 : decode cX13_saysOf 7 = .ok (.iaload, 1) := by decide +kernel
theorem dX13_saysOf_8 : decode cX13_saysOf 8 = .ok (.istore 4, 2) := by decide +kernel
theorem dX13_saysOf_10 : decode cX13_saysOf 10 = .ok (.iload 4, 2) := by decide +kernel
theorem dX13_saysOf_12 : decode cX13_saysOf 12 = .ok (.ifCond .lt 71, 3) := by decide +kernel
theorem dX13_saysOf_15 : decode cX13_saysOf 15 = .ok (.aload_n 0, 1) := by decide +kernel
theorem dX13_saysOf_16 : decode cX13_saysOf 16 = .ok (.aload_n 0, 1) := by decide +kernel
theorem dX13_saysOf_17 : decode cX13_saysOf 17 = .ok (.getfield 169, 3) := by decide +kernel
theorem dX13_saysOf_20 : decode cX13_saysOf 20 = .ok (.iload 4, 2) := by decide +kernel
theorem dX13_saysOf_22 : decode cX13_saysOf 22 = .ok (.iaload, 1) := by decide +kernel
theorem dX13_saysOf_23 : decode cX13_saysOf 23 = .ok (.aload_n 0, 1) := by decide +kernel
theorem dX13_saysOf_24 : decode cX13_saysOf 24 = .ok (.getfield 172, 3) := by decide +kernel
theorem dX13_saysOf_27 : decode cX13_saysOf 27 = .ok (.iload 4, 2) := by decide +kernel
theorem dX13_saysOf_29 : decode cX13_saysOf 29 = .ok (.iaload, 1) := by decide +kernel
theorem dX13_saysOf_30 : decode cX13_saysOf 30 = .ok (.aload_n 0, 1) := by decide +kernel
theorem dX13_saysOf_31 : decode cX13_saysOf 31 = .ok (.getfield 178, 3) := by decide +kernel
theorem dX13_saysOf_34 : decode cX13_saysOf 34 = .ok (.iload 4, 2) := by decide +kernel
theorem dX13_saysOf_36 : decode cX13_saysOf 36 = .ok (.laload, 1) := by decide +kernel
theorem dX13_saysOf_37 : decode cX13_saysOf 37 = .ok (.aload_n 0, 1) := by decide +kernel
theorem dX13_saysOf_38 : decode cX13_saysOf 38 = .ok (.getfield 163, 3) := by decide +kernel
theorem dX13_saysOf_41 : decode cX13_saysOf 41 = .ok (.iload_n 1, 1) := by decide +kernel
theorem dX13_saysOf_42 : decode cX13_saysOf 42 = .ok (.iaload, 1) := by decide +kernel
theorem dX13_saysOf_43 : decode cX13_saysOf 43 = .ok (.invokevirtual 892, 3) := by decide +kernel
theorem dX13_saysOf_46 : decode cX13_saysOf 46 = .ok (.aload_n 0, 1) := by decide +kernel
theorem dX13_saysOf_47 : decode cX13_saysOf 47 = .ok (.iload_n 2, 1) := by decide +kernel
theorem dX13_saysOf_48 : decode cX13_saysOf 48 = .ok (.aload_n 0, 1) := by decide +kernel
theorem dX13_saysOf_49 : decode cX13_saysOf 49 = .ok (.getfield 166, 3) := by decide +kernel
theorem dX13_saysOf_52 : decode cX13_saysOf 52 = .ok (.iload 4, 2) := by decide +kernel
theorem dX13_saysOf_54 : decode cX13_saysOf 54 = .ok (.iaload, 1) := by decide +kernel
theorem dX13_saysOf_55 : decode cX13_saysOf 55 = .ok (.invokevirtual 896, 3) := by decide +kernel
theorem dX13_saysOf_58 : decode cX13_saysOf 58 = .ok (.ifCond .eq 11, 3) := by decide +kernel
theorem dX13_saysOf_61 : decode cX13_saysOf 61 = .ok (.iload_n 3, 1) := by decide +kernel
theorem dX13_saysOf_62 : decode cX13_saysOf 62 = .ok (.ifCond .eq 7, 3) := by decide +kernel
theorem dX13_saysOf_65 : decode cX13_saysOf 65 = .ok (.iconst 1, 1) := by decide +kernel
theorem dX13_saysOf_66 : decode cX13_saysOf 66 = .ok (.goto 4, 3) := by decide +kernel
theorem dX13_saysOf_69 : decode cX13_saysOf 69 = .ok (.iconst 0, 1) := by decide +kernel
theorem dX13_saysOf_70 : decode cX13_saysOf 70 = .ok (.istore_n 3, 1) := by decide +kernel
theorem dX13_saysOf_71 : decode cX13_saysOf 71 = .ok (.aload_n 0, 1) := by decide +kernel
theorem dX13_saysOf_72 : decode cX13_saysOf 72 = .ok (.getfield 175, 3) := by decide +kernel
theorem dX13_saysOf_75 : decode cX13_saysOf 75 = .ok (.iload 4, 2) := by decide +kernel
theorem dX13_saysOf_77 : decode cX13_saysOf 77 = .ok (.iaload, 1) := by decide +kernel
theorem dX13_saysOf_78 : decode cX13_saysOf 78 = .ok (.istore 4, 2) := by decide +kernel
theorem dX13_saysOf_80 : decode cX13_saysOf 80 = .ok (.goto (-70), 3) := by decide +kernel
theorem dX13_saysOf_83 : decode cX13_saysOf 83 = .ok (.aload_n 0, 1) := by decide +kernel
theorem dX13_saysOf_84 : decode cX13_saysOf 84 = .ok (.getfield 157, 3) := by decide +kernel
theorem dX13_saysOf_87 : decode cX13_saysOf 87 = .ok (.iload_n 1, 1) := by decide +kernel
theorem dX13_saysOf_88 : decode cX13_saysOf 88 = .ok (.iaload, 1) := by decide +kernel
theorem dX13_saysOf_89 : decode cX13_saysOf 89 = .ok (.istore 4, 2) := by decide +kernel
theorem dX13_saysOf_91 : decode cX13_saysOf 91 = .ok (.iload 4, 2) := by decide +kernel
theorem dX13_saysOf_93 : decode cX13_saysOf 93 = .ok (.ifCond .ge 5, 3) := by decide +kernel
theorem dX13_saysOf_96 : decode cX13_saysOf 96 = .ok (.iload_n 3, 1) := by decide +kernel
theorem dX13_saysOf_97 : decode cX13_saysOf 97 = .ok (.ireturn, 1) := by decide +kernel
theorem dX13_saysOf_98 : decode cX13_saysOf 98 = .ok (.aload_n 0, 1) := by decide +kernel
theorem dX13_saysOf_99 : decode cX13_saysOf 99 = .ok (.getfield 200, 3) := by decide +kernel
theorem dX13_saysOf_102 : decode cX13_saysOf 102 = .ok (.iload 4, 2) := by decide +kernel
theorem dX13_saysOf_104 : decode cX13_saysOf 104 = .ok (.iaload, 1) := by decide +kernel
theorem dX13_saysOf_105 : decode cX13_saysOf 105 = .ok (.istore 5, 2) := by decide +kernel
theorem dX13_saysOf_107 : decode cX13_saysOf 107 = .ok (.iload 5, 2) := by decide +kernel
theorem dX13_saysOf_109 : decode cX13_saysOf 109 = .ok (.aload_n 0, 1) := by decide +kernel
theorem dX13_saysOf_110 : decode cX13_saysOf 110 = .ok (.getfield 203, 3) := by decide +kernel
theorem dX13_saysOf_113 : decode cX13_saysOf 113 = .ok (.iload 4, 2) := by decide +kernel
theorem dX13_saysOf_115 : decode cX13_saysOf 115 = .ok (.iaload, 1) := by decide +kernel
theorem dX13_saysOf_116 : decode cX13_saysOf 116 = .ok (.if_icmp .ge 64, 3) := by decide +kernel
theorem dX13_saysOf_119 : decode cX13_saysOf 119 = .ok (.aload_n 0, 1) := by decide +kernel
theorem dX13_saysOf_120 : decode cX13_saysOf 120 = .ok (.getfield 212, 3) := by decide +kernel
theorem dX13_saysOf_123 : decode cX13_saysOf 123 = .ok (.iload 5, 2) := by decide +kernel
theorem dX13_saysOf_125 : decode cX13_saysOf 125 = .ok (.baload, 1) := by decide +kernel
theorem dX13_saysOf_126 : decode cX13_saysOf 126 = .ok (.ifCond .ne 6, 3) := by decide +kernel
theorem dX13_saysOf_129 : decode cX13_saysOf 129 = .ok (.goto 45, 3) := by decide +kernel
theorem dX13_saysOf_132 : decode cX13_saysOf 132 = .ok (.aload_n 0, 1) := by decide +kernel
theorem dX13_saysOf_133 : decode cX13_saysOf 133 = .ok (.iload 5, 2) := by decide +kernel
theorem dX13_saysOf_135 : decode cX13_saysOf 135 = .ok (.aload_n 0, 1) := by decide +kernel
theorem dX13_saysOf_136 : decode cX13_saysOf 136 = .ok (.getfield 163, 3) := by decide +kernel
theorem dX13_saysOf_139 : decode cX13_saysOf 139 = .ok (.iload_n 1, 1) := by decide +kernel
theorem dX13_saysOf_140 : decode cX13_saysOf 140 = .ok (.iaload, 1) := by decide +kernel
theorem dX13_saysOf_141 : decode cX13_saysOf 141 = .ok (.invokevirtual 899, 3) := by decide +kernel
theorem dX13_saysOf_144 : decode cX13_saysOf 144 = .ok (.aload_n 0, 1) := by decide +kernel
theorem dX13_saysOf_145 : decode cX13_saysOf 145 = .ok (.iload_n 2, 1) := by decide +kernel
theorem dX13_saysOf_146 : decode cX13_saysOf 146 = .ok (.aload_n 0, 1) := by decide +kernel
theorem dX13_saysOf_147 : decode cX13_saysOf 147 = .ok (.getfield 80, 3) := by decide +kernel
theorem dX13_saysOf_150 : decode cX13_saysOf 150 = .ok (.aload_n 0, 1) := by decide +kernel
theorem dX13_saysOf_151 : decode cX13_saysOf 151 = .ok (.getfield 206, 3) := by decide +kernel
theorem dX13_saysOf_154 : decode cX13_saysOf 154 = .ok (.iload 5, 2) := by decide +kernel
theorem dX13_saysOf_156 : decode cX13_saysOf 156 = .ok (.iaload, 1) := by decide +kernel
theorem dX13_saysOf_157 : decode cX13_saysOf 157 = .ok (.iaload, 1) := by decide +kernel
theorem dX13_saysOf_158 : decode cX13_saysOf 158 = .ok (.invokevirtual 896, 3) := by decide +kernel
theorem dX13_saysOf_161 : decode cX13_saysOf 161 = .ok (.ifCond .eq 11, 3) := by decide +kernel
theorem dX13_saysOf_164 : decode cX13_saysOf 164 = .ok (.iload_n 3, 1) := by decide +kernel
theorem dX13_saysOf_165 : decode cX13_saysOf 165 = .ok (.ifCond .eq 7, 3) := by decide +kernel
theorem dX13_saysOf_168 : decode cX13_saysOf 168 = .ok (.iconst 1, 1) := by decide +kernel
theorem dX13_saysOf_169 : decode cX13_saysOf 169 = .ok (.goto 4, 3) := by decide +kernel
theorem dX13_saysOf_172 : decode cX13_saysOf 172 = .ok (.iconst 0, 1) := by decide +kernel
theorem dX13_saysOf_173 : decode cX13_saysOf 173 = .ok (.istore_n 3, 1) := by decide +kernel
theorem dX13_saysOf_174 : decode cX13_saysOf 174 = .ok (.iinc 5 1, 3) := by decide +kernel
theorem dX13_saysOf_177 : decode cX13_saysOf 177 = .ok (.goto (-70), 3) := by decide +kernel
theorem dX13_saysOf_180 : decode cX13_saysOf 180 = .ok (.iload_n 3, 1) := by decide +kernel
theorem dX13_saysOf_181 : decode cX13_saysOf 181 = .ok (.ireturn, 1) := by decide +kernel
theorem dX13_relates_0 : decode cX13_relates 0 = .ok (.aload_n 0, 1) := by decide +kernel
theorem dX13_relates_1 : decode cX13_relates 1 = .ok (.iload_n 1, 1) := by decide +kernel
theorem dX13_relates_2 : decode cX13_relates 2 = .ok (.invokevirtual 902, 3) := by decide +kernel
theorem dX13_relates_5 : decode cX13_relates 5 = .ok (.istore_n 3, 1) := by decide +kernel
theorem dX13_relates_6 : decode cX13_relates 6 = .ok (.aload_n 0, 1) := by decide +kernel
theorem dX13_relates_7 : decode cX13_relates 7 = .ok (.getfield 883, 3) := by decide +kernel
theorem dX13_relates_10 : decode cX13_relates 10 = .ok (.ifCond .ne 7, 3) := by decide +kernel
theorem dX13_relates_13 : decode cX13_relates 13 = .ok (.iconst 0, 1) := by decide +kernel
theorem dX13_relates_14 : decode cX13_relates 14 = .ok (.goto 11, 3) := by decide +kernel
theorem dX13_relates_17 : decode cX13_relates 17 = .ok (.aload_n 0, 1) := by decide +kernel
theorem dX13_relates_18 : decode cX13_relates 18 = .ok (.aload_n 0, 1) := by decide +kernel
theorem dX13_relates_19 : decode cX13_relates 19 = .ok (.getfield 886, 3) := by decide +kernel
theorem dX13_relates_22 : decode cX13_relates 22 = .ok (.invokevirtual 902, 3) := by decide +kernel
theorem dX13_relates_25 : decode cX13_relates 25 = .ok (.istore 4, 2) := by decide +kernel
theorem dX13_relates_27 : decode cX13_relates 27 = .ok (.iconst 1, 1) := by decide +kernel
theorem dX13_relates_28 : decode cX13_relates 28 = .ok (.istore 5, 2) := by decide +kernel
theorem dX13_relates_30 : decode cX13_relates 30 = .ok (.iconst 1, 1) := by decide +kernel
theorem dX13_relates_31 : decode cX13_relates 31 = .ok (.istore 6, 2) := by decide +kernel
theorem dX13_relates_33 : decode cX13_relates 33 = .ok (.aload_n 0, 1) := by decide +kernel
theorem dX13_relates_34 : decode cX13_relates 34 = .ok (.getfield 883, 3) := by decide +kernel
theorem dX13_relates_37 : decode cX13_relates 37 = .ok (.ineg, 1) := by decide +kernel
theorem dX13_relates_38 : decode cX13_relates 38 = .ok (.istore 7, 2) := by decide +kernel
theorem dX13_relates_40 : decode cX13_relates 40 = .ok (.aload_n 0, 1) := by decide +kernel
theorem dX13_relates_41 : decode cX13_relates 41 = .ok (.getfield 883, 3) := by decide +kernel
theorem dX13_relates_44 : decode cX13_relates 44 = .ok (.ifCond .eq 22, 3) := by decide +kernel
theorem dX13_relates_47 : decode cX13_relates 47 = .ok (.aload_n 0, 1) := by decide +kernel
theorem dX13_relates_48 : decode cX13_relates 48 = .ok (.getfield 886, 3) := by decide +kernel
theorem dX13_relates_51 : decode cX13_relates 51 = .ok (.iload_n 1, 1) := by decide +kernel
theorem dX13_relates_52 : decode cX13_relates 52 = .ok (.if_icmp .ne 14, 3) := by decide +kernel
theorem dX13_relates_55 : decode cX13_relates 55 = .ok (.iconst 1, 1) := by decide +kernel
theorem dX13_relates_56 : decode cX13_relates 56 = .ok (.aload_n 0, 1) := by decide +kernel
theorem dX13_relates_57 : decode cX13_relates 57 = .ok (.getfield 883, 3) := by decide +kernel
theorem dX13_relates_60 : decode cX13_relates 60 = .ok (.isub, 1) := by decide +kernel
theorem dX13_relates_61 : decode cX13_relates 61 = .ok (.istore 6, 2) := by decide +kernel
theorem dX13_relates_63 : decode cX13_relates 63 = .ok (.iconst 0, 1) := by decide +kernel
theorem dX13_relates_64 : decode cX13_relates 64 = .ok (.istore 7, 2) := by decide +kernel
theorem dX13_relates_66 : decode cX13_relates 66 = .ok (.iload_n 2, 1) := by decide +kernel
theorem dX13_relates_67 : decode cX13_relates 67 = .ok (.ifCond .eq 13, 3) := by decide +kernel
theorem dX13_relates_70 : decode cX13_relates 70 = .ok (.iload_n 2, 1) := by decide +kernel
theorem dX13_relates_71 : decode cX13_relates 71 = .ok (.iconst 1, 1) := by decide +kernel
theorem dX13_relates_72 : decode cX13_relates 72 = .ok (.if_icmp .eq 8, 3) := by decide +kernel
theorem dX13_relates_75 : decode cX13_relates 75 = .ok (.iload_n 2, 1) := by decide +kernel
theorem dX13_relates_76 : decode cX13_relates 76 = .ok (.iconst 2, 1) := by decide +kernel
theorem dX13_relates_77 : decode cX13_relates 77 = .ok (.if_icmp .ne 36, 3) := by decide +kernel
theorem dX13_relates_80 : decode cX13_relates 80 = .ok (.aload_n 0, 1) := by decide +kernel
theorem dX13_relates_81 : decode cX13_relates 81 = .ok (.aload_n 0, 1) := by decide +kernel
theorem dX13_relates_82 : decode cX13_relates 82 = .ok (.getfield 279, 3) := by decide +kernel
theorem dX13_relates_85 : decode cX13_relates 85 = .ok (.iload_n 3, 1) := by decide +kernel
theorem dX13_relates_86 : decode cX13_relates 86 = .ok (.iload 6, 2) := by decide +kernel
theorem dX13_relates_88 : decode cX13_relates 88 = .ok (.iload 4, 2) := by decide +kernel
theorem dX13_relates_90 : decode cX13_relates 90 = .ok (.iload 7, 2) := by decide +kernel
theorem dX13_relates_92 : decode cX13_relates 92 = .ok (.aload_n 0, 1) := by decide +kernel
theorem dX13_relates_93 : decode cX13_relates 93 = .ok (.getfield 889, 3) := by decide +kernel
theorem dX13_relates_96 : decode cX13_relates 96 = .ok (.lneg, 1) := by decide +kernel
theorem dX13_relates_97 : decode cX13_relates 97 = .ok (.iload_n 2, 1) := by decide +kernel
theorem dX13_relates_98 : decode cX13_relates 98 = .ok (.iconst 1, 1) := by decide +kernel
theorem dX13_relates_99 : decode cX13_relates 99 = .ok (.if_icmp .ne 7, 3) := by decide +kernel
theorem dX13_relates_102 : decode cX13_relates 102 = .ok (.lconst 1, 1) := by decide +kernel
theorem dX13_relates_103 : decode cX13_relates 103 = .ok (.goto 4, 3) := by decide +kernel
theorem dX13_relates_106 : decode cX13_relates 106 = .ok (.lconst 0, 1) := by decide +kernel
theorem dX13_relates_107 : decode cX13_relates 107 = .ok (.ladd, 1) := by decide +kernel
theorem dX13_relates_108 : decode cX13_relates 108 = .ok (.invokevirtual 905, 3) := by decide +kernel
theorem dX13_relates_111 : decode cX13_relates 111 = .ok (.istore 5, 2) := by decide +kernel
theorem dX13_relates_113 : decode cX13_relates 113 = .ok (.iload_n 2, 1) := by decide +kernel
theorem dX13_relates_114 : decode cX13_relates 114 = .ok (.ifCond .eq 8, 3) := by decide +kernel
theorem dX13_relates_117 : decode cX13_relates 117 = .ok (.iload_n 2, 1) := by decide +kernel
theorem dX13_relates_118 : decode cX13_relates 118 = .ok (.iconst 2, 1) := by decide +kernel
theorem dX13_relates_119 : decode cX13_relates 119 = .ok (.if_icmp .le 50, 3) := by decide +kernel
theorem dX13_relates_122 : decode cX13_relates 122 = .ok (.aload_n 0, 1) := by decide +kernel
theorem dX13_relates_123 : decode cX13_relates 123 = .ok (.aload_n 0, 1) := by decide +kernel
theorem dX13_relates_124 : decode cX13_relates 124 = .ok (.getfield 279, 3) := by decide +kernel
theorem dX13_relates_127 : decode cX13_relates 127 = .ok (.iload_n 3, 1) := by decide +kernel
theorem dX13_relates_128 : decode cX13_relates 128 = .ok (.iload 6, 2) := by decide +kernel
theorem dX13_relates_130 : decode cX13_relates 130 = .ok (.ineg, 1) := by decide +kernel
theorem dX13_relates_131 : decode cX13_relates 131 = .ok (.iload 4, 2) := by decide +kernel
theorem dX13_relates_133 : decode cX13_relates 133 = .ok (.iload 7, 2) := by decide +kernel
theorem dX13_relates_135 : decode cX13_relates 135 = .ok (.ineg, 1) := by decide +kernel
theorem dX13_relates_136 : decode cX13_relates 136 = .ok (.aload_n 0, 1) := by decide +kernel
theorem dX13_relates_137 : decode cX13_relates 137 = .ok (.getfield 889, 3) := by decide +kernel
theorem dX13_relates_140 : decode cX13_relates 140 = .ok (.iload_n 2, 1) := by decide +kernel
theorem dX13_relates_141 : decode cX13_relates 141 = .ok (.iconst 3, 1) := by decide +kernel
theorem dX13_relates_142 : decode cX13_relates 142 = .ok (.if_icmp .ne 7, 3) := by decide +kernel
theorem dX13_relates_145 : decode cX13_relates 145 = .ok (.lconst 1, 1) := by decide +kernel
theorem dX13_relates_146 : decode cX13_relates 146 = .ok (.goto 4, 3) := by decide +kernel
theorem dX13_relates_149 : decode cX13_relates 149 = .ok (.lconst 0, 1) := by decide +kernel
theorem dX13_relates_150 : decode cX13_relates 150 = .ok (.ladd, 1) := by decide +kernel
theorem dX13_relates_151 : decode cX13_relates 151 = .ok (.invokevirtual 905, 3) := by decide +kernel
theorem dX13_relates_154 : decode cX13_relates 154 = .ok (.ifCond .eq 12, 3) := by decide +kernel
theorem dX13_relates_157 : decode cX13_relates 157 = .ok (.iload 5, 2) := by decide +kernel
theorem dX13_relates_159 : decode cX13_relates 159 = .ok (.ifCond .eq 7, 3) := by decide +kernel
theorem dX13_relates_162 : decode cX13_relates 162 = .ok (.iconst 1, 1) := by decide +kernel
theorem dX13_relates_163 : decode cX13_relates 163 = .ok (.goto 4, 3) := by decide +kernel
theorem dX13_relates_166 : decode cX13_relates 166 = .ok (.iconst 0, 1) := by decide +kernel
theorem dX13_relates_167 : decode cX13_relates 167 = .ok (.istore 5, 2) := by decide +kernel
theorem dX13_relates_169 : decode cX13_relates 169 = .ok (.iload 5, 2) := by decide +kernel
theorem dX13_relates_171 : decode cX13_relates 171 = .ok (.ireturn, 1) := by decide +kernel
theorem dX13_lineWay_0 : decode cX13_lineWay 0 = .ok (.aload_n 0, 1) := by decide +kernel
theorem dX13_lineWay_1 : decode cX13_lineWay 1 = .ok (.getfield 704, 3) := by decide +kernel
theorem dX13_lineWay_4 : decode cX13_lineWay 4 = .ok (.ifCond .le 16, 3) := by decide +kernel
theorem dX13_lineWay_7 : decode cX13_lineWay 7 = .ok (.aload_n 0, 1) := by decide +kernel
theorem dX13_lineWay_8 : decode cX13_lineWay 8 = .ok (.aload_n 0, 1) := by decide +kernel
theorem dX13_lineWay_9 : decode cX13_lineWay 9 = .ok (.getfield 131, 3) := by decide +kernel
theorem dX13_lineWay_12 : decode cX13_lineWay 12 = .ok (.iconst 0, 1) := by decide +kernel
theorem dX13_lineWay_13 : decode cX13_lineWay 13 = .ok (.iaload, 1) := by decide +kernel
theorem dX13_lineWay_14 : decode cX13_lineWay 14 = .ok (.invokevirtual 902, 3) := by decide +kernel
theorem dX13_lineWay_17 : decode cX13_lineWay 17 = .ok (.goto 4, 3) := by decide +kernel
theorem dX13_lineWay_20 : decode cX13_lineWay 20 = .ok (.iconst 0, 1) := by decide +kernel
theorem dX13_lineWay_21 : decode cX13_lineWay 21 = .ok (.istore 4, 2) := by decide +kernel
theorem dX13_lineWay_23 : decode cX13_lineWay 23 = .ok (.aload_n 0, 1) := by decide +kernel
theorem dX13_lineWay_24 : decode cX13_lineWay 24 = .ok (.getfield 704, 3) := by decide +kernel
theorem dX13_lineWay_27 : decode cX13_lineWay 27 = .ok (.iconst 1, 1) := by decide +kernel
theorem dX13_lineWay_28 : decode cX13_lineWay 28 = .ok (.if_icmp .le 16, 3) := by decide +kernel
theorem dX13_lineWay_31 : decode cX13_lineWay 31 = .ok (.aload_n 0, 1) := by decide +kernel
theorem dX13_lineWay_32 : decode cX13_lineWay 32 = .ok (.aload_n 0, 1) := by decide +kernel
theorem dX13_lineWay_33 : decode cX13_lineWay 33 = .ok (.getfield 131, 3) := by decide +kernel
theorem dX13_lineWay_36 : decode cX13_lineWay 36 = .ok (.iconst 1, 1) := by decide +kernel
theorem dX13_lineWay_37 : decode cX13_lineWay 37 = .ok (.iaload, 1) := by decide +kernel
theorem dX13_lineWay_38 : decode cX13_lineWay 38 = .ok (.invokevirtual 902, 3) := by decide +kernel
theorem dX13_lineWay_41 : decode cX13_lineWay 41 = .ok (.goto 4, 3) := by decide +kernel
theorem dX13_lineWay_44 : decode cX13_lineWay 44 = .ok (.iconst 0, 1) := by decide +kernel
theorem dX13_lineWay_45 : decode cX13_lineWay 45 = .ok (.istore 5, 2) := by decide +kernel
theorem dX13_lineWay_47 : decode cX13_lineWay 47 = .ok (.aload_n 0, 1) := by decide +kernel
theorem dX13_lineWay_48 : decode cX13_lineWay 48 = .ok (.iload 4, 2) := by decide +kernel
theorem dX13_lineWay_50 : decode cX13_lineWay 50 = .ok (.aload_n 0, 1) := by decide +kernel
theorem dX13_lineWay_51 : decode cX13_lineWay 51 = .ok (.getfield 704, 3) := by decide +kernel
theorem dX13_lineWay_54 : decode cX13_lineWay 54 = .ok (.ifCond .le 14, 3) := by decide +kernel
theorem dX13_lineWay_57 : decode cX13_lineWay 57 = .ok (.iload_n 1, 1) := by decide +kernel
theorem dX13_lineWay_58 : decode cX13_lineWay 58 = .ok (.aload_n 0, 1) := by decide +kernel
theorem dX13_lineWay_59 : decode cX13_lineWay 59 = .ok (.getfield 134, 3) := by decide +kernel
theorem dX13_lineWay_62 : decode cX13_lineWay 62 = .ok (.iconst 0, 1) := by decide +kernel
theorem dX13_lineWay_63 : decode cX13_lineWay 63 = .ok (.iaload, 1) := by decide +kernel
theorem dX13_lineWay_64 : decode cX13_lineWay 64 = .ok (.imul, 1) := by decide +kernel
theorem dX13_lineWay_65 : decode cX13_lineWay 65 = .ok (.goto 4, 3) := by decide +kernel
theorem dX13_lineWay_68 : decode cX13_lineWay 68 = .ok (.iconst 0, 1) := by decide +kernel
theorem dX13_lineWay_69 : decode cX13_lineWay 69 = .ok (.iload 5, 2) := by decide +kernel
theorem dX13_lineWay_71 : decode cX13_lineWay 71 = .ok (.aload_n 0, 1) := by decide +kernel
theorem dX13_lineWay_72 : decode cX13_lineWay 72 = .ok (.getfield 704, 3) := by decide +kernel
theorem dX13_lineWay_75 : decode cX13_lineWay 75 = .ok (.iconst 1, 1) := by decide +kernel
theorem dX13_lineWay_76 : decode cX13_lineWay 76 = .ok (.if_icmp .le 14, 3) := by decide +kernel
theorem dX13_lineWay_79 : decode cX13_lineWay 79 = .ok (.iload_n 1, 1) := by decide +kernel
theorem dX13_lineWay_80 : decode cX13_lineWay 80 = .ok (.aload_n 0, 1) := by decide +kernel
theorem dX13_lineWay_81 : decode cX13_lineWay 81 = .ok (.getfield 134, 3) := by decide +kernel
theorem dX13_lineWay_84 : decode cX13_lineWay 84 = .ok (.iconst 1, 1) := by decide +kernel
theorem dX13_lineWay_85 : decode cX13_lineWay 85 = .ok (.iaload, 1) := by decide +kernel
theorem dX13_lineWay_86 : decode cX13_lineWay 86 = .ok (.imul, 1) := by decide +kernel
theorem dX13_lineWay_87 : decode cX13_lineWay 87 = .ok (.goto 4, 3) := by decide +kernel
theorem dX13_lineWay_90 : decode cX13_lineWay 90 = .ok (.iconst 0, 1) := by decide +kernel
theorem dX13_lineWay_91 : decode cX13_lineWay 91 = .ok (.iload_n 1, 1) := by decide +kernel
theorem dX13_lineWay_92 : decode cX13_lineWay 92 = .ok (.i2l, 1) := by decide +kernel
theorem dX13_lineWay_93 : decode cX13_lineWay 93 = .ok (.aload_n 0, 1) := by decide +kernel
theorem dX13_lineWay_94 : decode cX13_lineWay 94 = .ok (.getfield 707, 3) := by decide +kernel
theorem dX13_lineWay_97 : decode cX13_lineWay 97 = .ok (.lmul, 1) := by decide +kernel
theorem dX13_lineWay_98 : decode cX13_lineWay 98 = .ok (.lload_n 2, 1) := by decide +kernel
theorem dX13_lineWay_99 : decode cX13_lineWay 99 = .ok (.ladd, 1) := by decide +kernel
theorem dX13_lineWay_100 : decode cX13_lineWay 100 = .ok (.invokevirtual 912, 3) := by decide +kernel
theorem dX13_lineWay_103 : decode cX13_lineWay 103 = .ok (.return_, 1) := by decide +kernel
theorem dX13_leaf_0 : decode cX13_leaf 0 = .ok (.iconst 2, 1) := by decide +kernel
theorem dX13_leaf_1 : decode cX13_leaf 1 = .ok (.aload_n 0, 1) := by decide +kernel
theorem dX13_leaf_2 : decode cX13_leaf 2 = .ok (.getfield 862, 3) := by decide +kernel
theorem dX13_leaf_5 : decode cX13_leaf 5 = .ok (.imul, 1) := by decide +kernel
theorem dX13_leaf_6 : decode cX13_leaf 6 = .ok (.istore_n 1, 1) := by decide +kernel
theorem dX13_leaf_7 : decode cX13_leaf 7 = .ok (.iconst 0, 1) := by decide +kernel
theorem dX13_leaf_8 : decode cX13_leaf 8 = .ok (.istore_n 2, 1) := by decide +kernel
theorem dX13_leaf_9 : decode cX13_leaf 9 = .ok (.iload_n 2, 1) := by decide +kernel
theorem dX13_leaf_10 : decode cX13_leaf 10 = .ok (.iload_n 1, 1) := by decide +kernel
theorem dX13_leaf_11 : decode cX13_leaf 11 = .ok (.if_icmp .ge 46, 3) := by decide +kernel
theorem dX13_leaf_14 : decode cX13_leaf 14 = .ok (.iconst 0, 1) := by decide +kernel
theorem dX13_leaf_15 : decode cX13_leaf 15 = .ok (.istore_n 3, 1) := by decide +kernel
theorem dX13_leaf_16 : decode cX13_leaf 16 = .ok (.iload_n 3, 1) := by decide +kernel
theorem dX13_leaf_17 : decode cX13_leaf 17 = .ok (.iload_n 1, 1) := by decide +kernel
theorem dX13_leaf_18 : decode cX13_leaf 18 = .ok (.if_icmp .ge 33, 3) := by decide +kernel
theorem dX13_leaf_21 : decode cX13_leaf 21 = .ok (.aload_n 0, 1) := by decide +kernel
theorem dX13_leaf_22 : decode cX13_leaf 22 = .ok (.getfield 282, 3) := by decide +kernel
theorem dX13_leaf_25 : decode cX13_leaf 25 = .ok (.sipush 160, 3) := by decide +kernel
theorem dX13_leaf_28 : decode cX13_leaf 28 = .ok (.iload_n 2, 1) := by decide +kernel
theorem dX13_leaf_29 : decode cX13_leaf 29 = .ok (.imul, 1) := by decide +kernel
theorem dX13_leaf_30 : decode cX13_leaf 30 = .ok (.iload_n 3, 1) := by decide +kernel
theorem dX13_leaf_31 : decode cX13_leaf 31 = .ok (.iadd, 1) := by decide +kernel
theorem dX13_leaf_32 : decode cX13_leaf 32 = .ok (.aload_n 0, 1) := by decide +kernel
theorem dX13_leaf_33 : decode cX13_leaf 33 = .ok (.getfield 279, 3) := by decide +kernel
theorem dX13_leaf_36 : decode cX13_leaf 36 = .ok (.sipush 160, 3) := by decide +kernel
theorem dX13_leaf_39 : decode cX13_leaf 39 = .ok (.iload_n 2, 1) := by decide +kernel
theorem dX13_leaf_40 : decode cX13_leaf 40 = .ok (.imul, 1) := by decide +kernel
theorem dX13_leaf_41 : decode cX13_leaf 41 = .ok (.iload_n 3, 1) := by decide +kernel
theorem dX13_leaf_42 : decode cX13_leaf 42 = .ok (.iadd, 1) := by decide +kernel
theorem dX13_leaf_43 : decode cX13_leaf 43 = .ok (.laload, 1) := by decide +kernel
theorem dX13_leaf_44 : decode cX13_leaf 44 = .ok (.lastore, 1) := by decide +kernel
theorem dX13_leaf_45 : decode cX13_leaf 45 = .ok (.iinc 3 1, 3) := by decide +kernel
theorem dX13_leaf_48 : decode cX13_leaf 48 = .ok (.goto (-32), 3) := by decide +kernel
theorem dX13_leaf_51 : decode cX13_leaf 51 = .ok (.iinc 2 1, 3) := by decide +kernel
theorem dX13_leaf_54 : decode cX13_leaf 54 = .ok (.goto (-45), 3) := by decide +kernel
theorem dX13_leaf_57 : decode cX13_leaf 57 = .ok (.iconst 0, 1) := by decide +kernel
theorem dX13_leaf_58 : decode cX13_leaf 58 = .ok (.istore_n 2, 1) := by decide +kernel
theorem dX13_leaf_59 : decode cX13_leaf 59 = .ok (.iload_n 2, 1) := by decide +kernel
theorem dX13_leaf_60 : decode cX13_leaf 60 = .ok (.aload_n 0, 1) := by decide +kernel
theorem dX13_leaf_61 : decode cX13_leaf 61 = .ok (.getfield 909, 3) := by decide +kernel
theorem dX13_leaf_64 : decode cX13_leaf 64 = .ok (.if_icmp .ge 51, 3) := by decide +kernel
theorem dX13_leaf_67 : decode cX13_leaf 67 = .ok (.aload_n 0, 1) := by decide +kernel
theorem dX13_leaf_68 : decode cX13_leaf 68 = .ok (.aload_n 0, 1) := by decide +kernel
theorem dX13_leaf_69 : decode cX13_leaf 69 = .ok (.getfield 282, 3) := by decide +kernel
theorem dX13_leaf_72 : decode cX13_leaf 72 = .ok (.aload_n 0, 1) := by decide +kernel
theorem dX13_leaf_73 : decode cX13_leaf 73 = .ok (.getfield 297, 3) := by decide +kernel
theorem dX13_leaf_76 : decode cX13_leaf 76 = .ok (.iload_n 2, 1) := by decide +kernel
theorem dX13_leaf_77 : decode cX13_leaf 77 = .ok (.iaload, 1) := by decide +kernel
theorem dX13_leaf_78 : decode cX13_leaf 78 = .ok (.aload_n 0, 1) := by decide +kernel
theorem dX13_leaf_79 : decode cX13_leaf 79 = .ok (.getfield 300, 3) := by decide +kernel
theorem dX13_leaf_82 : decode cX13_leaf 82 = .ok (.iload_n 2, 1) := by decide +kernel
theorem dX13_leaf_83 : decode cX13_leaf 83 = .ok (.iaload, 1) := by decide +kernel
theorem dX13_leaf_84 : decode cX13_leaf 84 = .ok (.aload_n 0, 1) := by decide +kernel
theorem dX13_leaf_85 : decode cX13_leaf 85 = .ok (.getfield 303, 3) := by decide +kernel
theorem dX13_leaf_88 : decode cX13_leaf 88 = .ok (.iload_n 2, 1) := by decide +kernel
theorem dX13_leaf_89 : decode cX13_leaf 89 = .ok (.iaload, 1) := by decide +kernel
theorem dX13_leaf_90 : decode cX13_leaf 90 = .ok (.aload_n 0, 1) := by decide +kernel
theorem dX13_leaf_91 : decode cX13_leaf 91 = .ok (.getfield 306, 3) := by decide +kernel
theorem dX13_leaf_94 : decode cX13_leaf 94 = .ok (.iload_n 2, 1) := by decide +kernel
theorem dX13_leaf_95 : decode cX13_leaf 95 = .ok (.iaload, 1) := by decide +kernel
theorem dX13_leaf_96 : decode cX13_leaf 96 = .ok (.aload_n 0, 1) := by decide +kernel
theorem dX13_leaf_97 : decode cX13_leaf 97 = .ok (.getfield 315, 3) := by decide +kernel
theorem dX13_leaf_100 : decode cX13_leaf 100 = .ok (.iload_n 2, 1) := by decide +kernel
theorem dX13_leaf_101 : decode cX13_leaf 101 = .ok (.laload, 1) := by decide +kernel
theorem dX13_leaf_102 : decode cX13_leaf 102 = .ok (.invokevirtual 905, 3) := by decide +kernel
theorem dX13_leaf_105 : decode cX13_leaf 105 = .ok (.ifCond .ne 4, 3) := by decide +kernel
theorem dX13_leaf_108 : decode cX13_leaf 108 = .ok (.return_, 1) := by decide +kernel
theorem dX13_leaf_109 : decode cX13_leaf 109 = .ok (.iinc 2 1, 3) := by decide +kernel
theorem dX13_leaf_112 : decode cX13_leaf 112 = .ok (.goto (-53), 3) := by decide +kernel
theorem dX13_leaf_115 : decode cX13_leaf 115 = .ok (.aload_n 0, 1) := by decide +kernel
theorem dX13_leaf_116 : decode cX13_leaf 116 = .ok (.invokevirtual 945, 3) := by decide +kernel
theorem dX13_leaf_119 : decode cX13_leaf 119 = .ok (.ifCond .ne 4, 3) := by decide +kernel
theorem dX13_leaf_122 : decode cX13_leaf 122 = .ok (.return_, 1) := by decide +kernel
theorem dX13_leaf_123 : decode cX13_leaf 123 = .ok (.aload_n 0, 1) := by decide +kernel
theorem dX13_leaf_124 : decode cX13_leaf 124 = .ok (.iconst 1, 1) := by decide +kernel
theorem dX13_leaf_125 : decode cX13_leaf 125 = .ok (.putfield 948, 3) := by decide +kernel
theorem dX13_leaf_128 : decode cX13_leaf 128 = .ok (.aload_n 0, 1) := by decide +kernel
theorem dX13_leaf_129 : decode cX13_leaf 129 = .ok (.getfield 951, 3) := by decide +kernel
theorem dX13_leaf_132 : decode cX13_leaf 132 = .ok (.ifCond .ge 4, 3) := by decide +kernel
theorem dX13_leaf_135 : decode cX13_leaf 135 = .ok (.return_, 1) := by decide +kernel
theorem dX13_leaf_136 : decode cX13_leaf 136 = .ok (.aload_n 0, 1) := by decide +kernel
theorem dX13_leaf_137 : decode cX13_leaf 137 = .ok (.getfield 157, 3) := by decide +kernel
theorem dX13_leaf_140 : decode cX13_leaf 140 = .ok (.aload_n 0, 1) := by decide +kernel
theorem dX13_leaf_141 : decode cX13_leaf 141 = .ok (.getfield 951, 3) := by decide +kernel
theorem dX13_leaf_144 : decode cX13_leaf 144 = .ok (.iaload, 1) := by decide +kernel
theorem dX13_leaf_145 : decode cX13_leaf 145 = .ok (.istore_n 2, 1) := by decide +kernel
theorem dX13_leaf_146 : decode cX13_leaf 146 = .ok (.aload_n 0, 1) := by decide +kernel
theorem dX13_leaf_147 : decode cX13_leaf 147 = .ok (.getfield 200, 3) := by decide +kernel
theorem dX13_leaf_150 : decode cX13_leaf 150 = .ok (.iload_n 2, 1) := by decide +kernel
theorem dX13_leaf_151 : decode cX13_leaf 151 = .ok (.iaload, 1) := by decide +kernel
theorem dX13_leaf_152 : decode cX13_leaf 152 = .ok (.istore_n 3, 1) := by decide +kernel
theorem dX13_leaf_153 : decode cX13_leaf 153 = .ok (.iload_n 3, 1) := by decide +kernel
theorem dX13_leaf_154 : decode cX13_leaf 154 = .ok (.aload_n 0, 1) := by decide +kernel
theorem dX13_leaf_155 : decode cX13_leaf 155 = .ok (.getfield 203, 3) := by decide +kernel
theorem dX13_leaf_158 : decode cX13_leaf 158 = .ok (.iload_n 2, 1) := by decide +kernel
theorem dX13_leaf_159 : decode cX13_leaf 159 = .ok (.iaload, 1) := by decide +kernel
theorem dX13_leaf_160 : decode cX13_leaf 160 = .ok (.if_icmp .ge 200, 3) := by decide +kernel
theorem dX13_leaf_163 : decode cX13_leaf 163 = .ok (.aload_n 0, 1) := by decide +kernel
theorem dX13_leaf_164 : decode cX13_leaf 164 = .ok (.getfield 212, 3) := by decide +kernel
theorem dX13_leaf_167 : decode cX13_leaf 167 = .ok (.iload_n 3, 1) := by decide +kernel
theorem dX13_leaf_168 : decode cX13_leaf 168 = .ok (.baload, 1) := by decide +kernel
theorem dX13_leaf_169 : decode cX13_leaf 169 = .ok (.ifCond .eq 185, 3) := by decide +kernel
theorem dX13_leaf_172 : decode cX13_leaf 172 = .ok (.aload_n 0, 1) := by decide +kernel
theorem dX13_leaf_173 : decode cX13_leaf 173 = .ok (.getfield 318, 3) := by decide +kernel
theorem dX13_leaf_176 : decode cX13_leaf 176 = .ok (.iload_n 3, 1) := by decide +kernel
theorem dX13_leaf_177 : decode cX13_leaf 177 = .ok (.baload, 1) := by decide +kernel
theorem dX13_leaf_178 : decode cX13_leaf 178 = .ok (.ifCond .eq 6, 3) := by decide +kernel
theorem dX13_leaf_181 : decode cX13_leaf 181 = .ok (.goto 173, 3) := by decide +kernel
theorem dX13_leaf_184 : decode cX13_leaf 184 = .ok (.aload_n 0, 1) := by decide +kernel
theorem dX13_leaf_185 : decode cX13_leaf 185 = .ok (.iload_n 3, 1) := by decide +kernel
theorem dX13_leaf_186 : decode cX13_leaf 186 = .ok (.aload_n 0, 1) := by decide +kernel
theorem dX13_leaf_187 : decode cX13_leaf 187 = .ok (.getfield 163, 3) := by decide +kernel
theorem dX13_leaf_190 : decode cX13_leaf 190 = .ok (.aload_n 0, 1) := by decide +kernel
theorem dX13_leaf_191 : decode cX13_leaf 191 = .ok (.getfield 951, 3) := by decide +kernel
theorem dX13_leaf_194 : decode cX13_leaf 194 = .ok (.iaload, 1) := by decide +kernel
theorem dX13_leaf_195 : decode cX13_leaf 195 = .ok (.invokevirtual 899, 3) := by decide +kernel
theorem dX13_leaf_198 : decode cX13_leaf 198 = .ok (.aload_n 0, 1) := by decide +kernel
theorem dX13_leaf_199 : decode cX13_leaf 199 = .ok (.getfield 80, 3) := by decide +kernel
theorem dX13_leaf_202 : decode cX13_leaf 202 = .ok (.aload_n 0, 1) := by decide +kernel
theorem dX13_leaf_203 : decode cX13_leaf 203 = .ok (.getfield 206, 3) := by decide +kernel
theorem dX13_leaf_206 : decode cX13_leaf 206 = .ok (.iload_n 3, 1) := by decide +kernel
theorem dX13_leaf_207 : decode cX13_leaf 207 = .ok (.iaload, 1) := by decide +kernel
theorem dX13_leaf_208 : decode cX13_leaf 208 = .ok (.iaload, 1) := by decide +kernel
theorem dX13_leaf_209 : decode cX13_leaf 209 = .ok (.istore 4, 2) := by decide +kernel
theorem dX13_leaf_211 : decode cX13_leaf 211 = .ok (.aload_n 0, 1) := by decide +kernel
theorem dX13_leaf_212 : decode cX13_leaf 212 = .ok (.sipush 1500, 3) := by decide +kernel
theorem dX13_leaf_215 : decode cX13_leaf 215 = .ok (.invokevirtual 902, 3) := by decide +kernel
theorem dX13_leaf_218 : decode cX13_leaf 218 = .ok (.istore 5, 2) := by decide +kernel
theorem dX13_leaf_220 : decode cX13_leaf 220 = .ok (.aload_n 0, 1) := by decide +kernel
theorem dX13_leaf_221 : decode cX13_leaf 221 = .ok (.getfield 883, 3) := by decide +kernel
theorem dX13_leaf_224 : decode cX13_leaf 224 = .ok (.ifCond .ne 7, 3) := by decide +kernel
theorem dX13_leaf_227 : decode cX13_leaf 227 = .ok (.iconst 0, 1) := by decide +kernel
theorem dX13_leaf_228 : decode cX13_leaf 228 = .ok (.goto 11, 3) := by decide +kernel
theorem dX13_leaf_231 : decode cX13_leaf 231 = .ok (.aload_n 0, 1) := by decide +kernel
theorem dX13_leaf_232 : decode cX13_leaf 232 = .ok (.aload_n 0, 1) := by decide +kernel
theorem dX13_leaf_233 : decode cX13_leaf 233 = .ok (.getfield 886, 3) := by decide +kernel
theorem dX13_leaf_236 : decode cX13_leaf 236 = .ok (.invokevirtual 902, 3) := by decide +kernel
theorem dX13_leaf_239 : decode cX13_leaf 239 = .ok (.istore 6, 2) := by decide +kernel
theorem dX13_leaf_241 : decode cX13_leaf 241 = .ok (.iconst 1, 1) := by decide +kernel
theorem dX13_leaf_242 : decode cX13_leaf 242 = .ok (.istore 7, 2) := by decide +kernel
theorem dX13_leaf_244 : decode cX13_leaf 244 = .ok (.iload 4, 2) := by decide +kernel
theorem dX13_leaf_246 : decode cX13_leaf 246 = .ok (.iconst 3, 1) := by decide +kernel
theorem dX13_leaf_247 : decode cX13_leaf 247 = .ok (.if_icmp .ge 36, 3) := by decide +kernel
theorem dX13_leaf_250 : decode cX13_leaf 250 = .ok (.aload_n 0, 1) := by decide +kernel
theorem dX13_leaf_251 : decode cX13_leaf 251 = .ok (.iload 5, 2) := by decide +kernel
theorem dX13_leaf_253 : decode cX13_leaf 253 = .ok (.iconst 1, 1) := by decide +kernel
theorem dX13_leaf_254 : decode cX13_leaf 254 = .ok (.iload 6, 2) := by decide +kernel
theorem dX13_leaf_256 : decode cX13_leaf 256 = .ok (.aload_n 0, 1) := by decide +kernel
theorem dX13_leaf_257 : decode cX13_leaf 257 = .ok (.getfield 883, 3) := by decide +kernel
theorem dX13_leaf_260 : decode cX13_leaf 260 = .ok (.ineg, 1) := by decide +kernel
theorem dX13_leaf_261 : decode cX13_leaf 261 = .ok (.aload_n 0, 1) := by decide +kernel
theorem dX13_leaf_262 : decode cX13_leaf 262 = .ok (.getfield 889, 3) := by decide +kernel
theorem dX13_leaf_265 : decode cX13_leaf 265 = .ok (.lneg, 1) := by decide +kernel
theorem dX13_leaf_266 : decode cX13_leaf 266 = .ok (.iload 4, 2) := by decide +kernel
theorem dX13_leaf_268 : decode cX13_leaf 268 = .ok (.iconst 1, 1) := by decide +kernel
theorem dX13_leaf_269 : decode cX13_leaf 269 = .ok (.if_icmp .ne 7, 3) := by decide +kernel
theorem dX13_leaf_272 : decode cX13_leaf 272 = .ok (.lconst 1, 1) := by decide +kernel
theorem dX13_leaf_273 : decode cX13_leaf 273 = .ok (.goto 4, 3) := by decide +kernel
theorem dX13_leaf_276 : decode cX13_leaf 276 = .ok (.lconst 0, 1) := by decide +kernel
theorem dX13_leaf_277 : decode cX13_leaf 277 = .ok (.ladd, 1) := by decide +kernel
theorem dX13_leaf_278 : decode cX13_leaf 278 = .ok (.invokevirtual 954, 3) := by decide +kernel
theorem dX13_leaf_281 : decode cX13_leaf 281 = .ok (.istore 7, 2) := by decide +kernel
theorem dX13_leaf_283 : decode cX13_leaf 283 = .ok (.iload 4, 2) := by decide +kernel
theorem dX13_leaf_285 : decode cX13_leaf 285 = .ok (.ifCond .eq 9, 3) := by decide +kernel
theorem dX13_leaf_288 : decode cX13_leaf 288 = .ok (.iload 4, 2) := by decide +kernel
theorem dX13_leaf_290 : decode cX13_leaf 290 = .ok (.iconst 2, 1) := by decide +kernel
theorem dX13_leaf_291 : decode cX13_leaf 291 = .ok (.if_icmp .le 47, 3) := by decide +kernel
theorem dX13_leaf_294 : decode cX13_leaf 294 = .ok (.aload_n 0, 1) := by decide +kernel
theorem dX13_leaf_295 : decode cX13_leaf 295 = .ok (.iload 5, 2) := by decide +kernel
theorem dX13_leaf_297 : decode cX13_leaf 297 = .ok (.iconst (-1), 1) := by decide +kernel
theorem dX13_leaf_298 : decode cX13_leaf 298 = .ok (.iload 6, 2) := by decide +kernel
theorem dX13_leaf_300 : decode cX13_leaf 300 = .ok (.aload_n 0, 1) := by decide +kernel
theorem dX13_leaf_301 : decode cX13_leaf 301 = .ok (.getfield 883, 3) := by decide +kernel
theorem dX13_leaf_304 : decode cX13_leaf 304 = .ok (.aload_n 0, 1) := by decide +kernel
theorem dX13_leaf_305 : decode cX13_leaf 305 = .ok (.getfield 889, 3) := by decide +kernel
theorem dX13_leaf_308 : decode cX13_leaf 308 = .ok (.iload 4, 2) := by decide +kernel
theorem dX13_leaf_310 : decode cX13_leaf 310 = .ok (.iconst 3, 1) := by decide +kernel
theorem dX13_leaf_311 : decode cX13_leaf 311 = .ok (.if_icmp .ne 7, 3) := by decide +kernel
theorem dX13_leaf_314 : decode cX13_leaf 314 = .ok (.lconst 1, 1) := by decide +kernel
theorem dX13_leaf_315 : decode cX13_leaf 315 = .ok (.goto 4, 3) := by decide +kernel
theorem dX13_leaf_318 : decode cX13_leaf 318 = .ok (.lconst 0, 1) := by decide +kernel
theorem dX13_leaf_319 : decode cX13_leaf 319 = .ok (.ladd, 1) := by decide +kernel
theorem dX13_leaf_320 : decode cX13_leaf 320 = .ok (.invokevirtual 954, 3) := by decide +kernel
theorem dX13_leaf_323 : decode cX13_leaf 323 = .ok (.ifCond .eq 12, 3) := by decide +kernel
theorem dX13_leaf_326 : decode cX13_leaf 326 = .ok (.iload 7, 2) := by decide +kernel
theorem dX13_leaf_328 : decode cX13_leaf 328 = .ok (.ifCond .eq 7, 3) := by decide +kernel
theorem dX13_leaf_331 : decode cX13_leaf 331 = .ok (.iconst 1, 1) := by decide +kernel
theorem dX13_leaf_332 : decode cX13_leaf 332 = .ok (.goto 4, 3) := by decide +kernel
theorem dX13_leaf_335 : decode cX13_leaf 335 = .ok (.iconst 0, 1) := by decide +kernel
theorem dX13_leaf_336 : decode cX13_leaf 336 = .ok (.istore 7, 2) := by decide +kernel
theorem dX13_leaf_338 : decode cX13_leaf 338 = .ok (.aload_n 0, 1) := by decide +kernel
theorem dX13_leaf_339 : decode cX13_leaf 339 = .ok (.getfield 318, 3) := by decide +kernel
theorem dX13_leaf_342 : decode cX13_leaf 342 = .ok (.iload_n 3, 1) := by decide +kernel
theorem dX13_leaf_343 : decode cX13_leaf 343 = .ok (.iload 7, 2) := by decide +kernel
theorem dX13_leaf_345 : decode cX13_leaf 345 = .ok (.ifCond .ne 7, 3) := by decide +kernel
theorem dX13_leaf_348 : decode cX13_leaf 348 = .ok (.iconst 1, 1) := by decide +kernel
theorem dX13_leaf_349 : decode cX13_leaf 349 = .ok (.goto 4, 3) := by decide +kernel
theorem dX13_leaf_352 : decode cX13_leaf 352 = .ok (.iconst 0, 1) := by decide +kernel
theorem dX13_leaf_353 : decode cX13_leaf 353 = .ok (.bastore, 1) := by decide +kernel
theorem dX13_leaf_354 : decode cX13_leaf 354 = .ok (.iinc 3 1, 3) := by decide +kernel
theorem dX13_leaf_357 : decode cX13_leaf 357 = .ok (.goto (-204), 3) := by decide +kernel
theorem dX13_leaf_360 : decode cX13_leaf 360 = .ok (.return_, 1) := by decide +kernel
