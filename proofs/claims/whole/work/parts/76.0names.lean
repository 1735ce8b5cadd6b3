theorem dX13_go_0 : decode cX13_go 0 = .ok (.aload_n 0, 1) := by decide +kernel
theorem dX13_go_1 : decode cX13_go 1 = .ok (.getfield 916, 3) := by decide +kernel
theorem dX13_go_4 : decode cX13_go 4 = .ok (.ifCond .ne 8, 3) := by decide +kernel
theorem dX13_go_7 : decode cX13_go 7 = .ok (.aload_n 0, 1) := by decide +kernel
theorem dX13_go_8 : decode cX13_go 8 = .ok (.invokevirtual 919, 3) := by decide +kernel
theorem dX13_go_11 : decode cX13_go 11 = .ok (.return_, 1) := by decide +kernel
theorem dX13_go_12 : decode cX13_go 12 = .ok (.aload_n 0, 1) := by decide +kernel
theorem dX13_go_13 : decode cX13_go 13 = .ok (.dup, 1) := by decide +kernel
theorem dX13_go_14 : decode cX13_go 14 = .ok (.getfield 916, 3) := by decide +kernel
theorem dX13_go_17 : decode cX13_go 17 = .ok (.iconst 1, 1) := by decide +kernel
theorem dX13_go_18 : decode cX13_go 18 = .ok (.isub, 1) := by decide +kernel
theorem dX13_go_19 : decode cX13_go 19 = .ok (.putfield 916, 3) := by decide +kernel
theorem dX13_go_22 : decode cX13_go 22 = .ok (.aload_n 0, 1) := by decide +kernel
theorem dX13_go_23 : decode cX13_go 23 = .ok (.getfield 291, 3) := by decide +kernel
theorem dX13_go_26 : decode cX13_go 26 = .ok (.aload_n 0, 1) := by decide +kernel
theorem dX13_go_27 : decode cX13_go 27 = .ok (.getfield 916, 3) := by decide +kernel
theorem dX13_go_30 : decode cX13_go 30 = .ok (.iaload, 1) := by decide +kernel
theorem dX13_go_31 : decode cX13_go 31 = .ok (.istore_n 1, 1) := by decide +kernel
theorem dX13_go_32 : decode cX13_go 32 = .ok (.aload_n 0, 1) := by decide +kernel
theorem dX13_go_33 : decode cX13_go 33 = .ok (.getfield 294, 3) := by decide +kernel
theorem dX13_go_36 : decode cX13_go 36 = .ok (.aload_n 0, 1) := by decide +kernel
theorem dX13_go_37 : decode cX13_go 37 = .ok (.getfield 916, 3) := by decide +kernel
theorem dX13_go_40 : decode cX13_go 40 = .ok (.iaload, 1) := by decide +kernel
theorem dX13_go_41 : decode cX13_go 41 = .ok (.iconst 1, 1) := by decide +kernel
theorem dX13_go_42 : decode cX13_go 42 = .ok (.if_icmp .ne 7, 3) := by decide +kernel
theorem dX13_go_45 : decode cX13_go 45 = .ok (.iconst 1, 1) := by decide +kernel
theorem dX13_go_46 : decode cX13_go 46 = .ok (.goto 4, 3) := by decide +kernel
theorem dX13_go_49 : decode cX13_go 49 = .ok (.iconst 0, 1) := by decide +kernel
theorem dX13_go_50 : decode cX13_go 50 = .ok (.istore_n 2, 1) := by decide +kernel
theorem dX13_go_51 : decode cX13_go 51 = .ok (.iload_n 1, 1) := by decide +kernel
theorem dX13_go_52 : decode cX13_go 52 = .ok (.ifCond .ge 51, 3) := by decide +kernel
theorem dX13_go_55 : decode cX13_go 55 = .ok (.aload_n 0, 1) := by decide +kernel
theorem dX13_go_56 : decode cX13_go 56 = .ok (.bipush (-2), 2) := by decide +kernel
theorem dX13_go_58 : decode cX13_go 58 = .ok (.iload_n 1, 1) := by decide +kernel
theorem dX13_go_59 : decode cX13_go 59 = .ok (.isub, 1) := by decide +kernel
theorem dX13_go_60 : decode cX13_go 60 = .ok (.iload_n 2, 1) := by decide +kernel
theorem dX13_go_61 : decode cX13_go 61 = .ok (.invokevirtual 922, 3) := by decide +kernel
theorem dX13_go_64 : decode cX13_go 64 = .ok (.aload_n 0, 1) := by decide +kernel
theorem dX13_go_65 : decode cX13_go 65 = .ok (.getfield 291, 3) := by decide +kernel
theorem dX13_go_68 : decode cX13_go 68 = .ok (.aload_n 0, 1) := by decide +kernel
theorem dX13_go_69 : decode cX13_go 69 = .ok (.getfield 916, 3) := by decide +kernel
theorem dX13_go_72 : decode cX13_go 72 = .ok (.iload_n 1, 1) := by decide +kernel
theorem dX13_go_73 : decode cX13_go 73 = .ok (.iastore, 1) := by decide +kernel
theorem dX13_go_74 : decode cX13_go 74 = .ok (.aload_n 0, 1) := by decide +kernel
theorem dX13_go_75 : decode cX13_go 75 = .ok (.getfield 294, 3) := by decide +kernel
theorem dX13_go_78 : decode cX13_go 78 = .ok (.aload_n 0, 1) := by decide +kernel
theorem dX13_go_79 : decode cX13_go 79 = .ok (.getfield 916, 3) := by decide +kernel
theorem dX13_go_82 : decode cX13_go 82 = .ok (.iload_n 2, 1) := by decide +kernel
theorem dX13_go_83 : decode cX13_go 83 = .ok (.ifCond .eq 7, 3) := by decide +kernel
theorem dX13_go_86 : decode cX13_go 86 = .ok (.iconst 1, 1) := by decide +kernel
theorem dX13_go_87 : decode cX13_go 87 = .ok (.goto 4, 3) := by decide +kernel
theorem dX13_go_90 : decode cX13_go 90 = .ok (.iconst 0, 1) := by decide +kernel
theorem dX13_go_91 : decode cX13_go 91 = .ok (.iastore, 1) := by decide +kernel
theorem dX13_go_92 : decode cX13_go 92 = .ok (.aload_n 0, 1) := by decide +kernel
theorem dX13_go_93 : decode cX13_go 93 = .ok (.dup, 1) := by decide +kernel
theorem dX13_go_94 : decode cX13_go 94 = .ok (.getfield 916, 3) := by decide +kernel
theorem dX13_go_97 : decode cX13_go 97 = .ok (.iconst 1, 1) := by decide +kernel
theorem dX13_go_98 : decode cX13_go 98 = .ok (.iadd, 1) := by decide +kernel
theorem dX13_go_99 : decode cX13_go 99 = .ok (.putfield 916, 3) := by decide +kernel
theorem dX13_go_102 : decode cX13_go 102 = .ok (.return_, 1) := by decide +kernel
theorem dX13_go_103 : decode cX13_go 103 = .ok (.aload_n 0, 1) := by decide +kernel
theorem dX13_go_104 : decode cX13_go 104 = .ok (.getfield 29, 3) := by decide +kernel
theorem dX13_go_107 : decode cX13_go 107 = .ok (.iload_n 1, 1) := by decide +kernel
theorem dX13_go_108 : decode cX13_go 108 = .ok (.iaload, 1) := by decide +kernel
theorem dX13_go_109 : decode cX13_go 109 = .ok (.tableswitch 228 20 24 #[35, 35, 147, 183, 209], 35) := by decide +kernel
theorem dX13_go_144 : decode cX13_go 144 = .ok (.aload_n 0, 1) := by decide +kernel
theorem dX13_go_145 : decode cX13_go 145 = .ok (.getfield 29, 3) := by decide +kernel
theorem dX13_go_148 : decode cX13_go 148 = .ok (.iload_n 1, 1) := by decide +kernel
theorem dX13_go_149 : decode cX13_go 149 = .ok (.iaload, 1) := by decide +kernel
theorem dX13_go_150 : decode cX13_go 150 = .ok (.bipush 21, 2) := by decide +kernel
theorem dX13_go_152 : decode cX13_go 152 = .ok (.if_icmp .ne 7, 3) := by decide +kernel
theorem dX13_go_155 : decode cX13_go 155 = .ok (.iconst 1, 1) := by decide +kernel
theorem dX13_go_156 : decode cX13_go 156 = .ok (.goto 4, 3) := by decide +kernel
theorem dX13_go_159 : decode cX13_go 159 = .ok (.iconst 0, 1) := by decide +kernel
theorem dX13_go_160 : decode cX13_go 160 = .ok (.iload_n 2, 1) := by decide +kernel
theorem dX13_go_161 : decode cX13_go 161 = .ok (.if_icmp .ne 42, 3) := by decide +kernel
theorem dX13_go_164 : decode cX13_go 164 = .ok (.aload_n 0, 1) := by decide +kernel
theorem dX13_go_165 : decode cX13_go 165 = .ok (.aload_n 0, 1) := by decide +kernel
theorem dX13_go_166 : decode cX13_go 166 = .ok (.getfield 38, 3) := by decide +kernel
theorem dX13_go_169 : decode cX13_go 169 = .ok (.iload_n 1, 1) := by decide +kernel
theorem dX13_go_170 : decode cX13_go 170 = .ok (.iaload, 1) := by decide +kernel
theorem dX13_go_171 : decode cX13_go 171 = .ok (.iload_n 2, 1) := by decide +kernel
theorem dX13_go_172 : decode cX13_go 172 = .ok (.invokevirtual 926, 3) := by decide +kernel
theorem dX13_go_175 : decode cX13_go 175 = .ok (.aload_n 0, 1) := by decide +kernel
theorem dX13_go_176 : decode cX13_go 176 = .ok (.aload_n 0, 1) := by decide +kernel
theorem dX13_go_177 : decode cX13_go 177 = .ok (.getfield 41, 3) := by decide +kernel
theorem dX13_go_180 : decode cX13_go 180 = .ok (.iload_n 1, 1) := by decide +kernel
theorem dX13_go_181 : decode cX13_go 181 = .ok (.iaload, 1) := by decide +kernel
theorem dX13_go_182 : decode cX13_go 182 = .ok (.iload_n 2, 1) := by decide +kernel
theorem dX13_go_183 : decode cX13_go 183 = .ok (.invokevirtual 926, 3) := by decide +kernel
theorem dX13_go_186 : decode cX13_go 186 = .ok (.aload_n 0, 1) := by decide +kernel
theorem dX13_go_187 : decode cX13_go 187 = .ok (.invokevirtual 929, 3) := by decide +kernel
theorem dX13_go_190 : decode cX13_go 190 = .ok (.aload_n 0, 1) := by decide +kernel
theorem dX13_go_191 : decode cX13_go 191 = .ok (.dup, 1) := by decide +kernel
theorem dX13_go_192 : decode cX13_go 192 = .ok (.getfield 916, 3) := by decide +kernel
theorem dX13_go_195 : decode cX13_go 195 = .ok (.iconst 2, 1) := by decide +kernel
theorem dX13_go_196 : decode cX13_go 196 = .ok (.isub, 1) := by decide +kernel
theorem dX13_go_197 : decode cX13_go 197 = .ok (.putfield 916, 3) := by decide +kernel
theorem dX13_go_200 : decode cX13_go 200 = .ok (.goto 143, 3) := by decide +kernel
theorem dX13_go_203 : decode cX13_go 203 = .ok (.aload_n 0, 1) := by decide +kernel
theorem dX13_go_204 : decode cX13_go 204 = .ok (.aload_n 0, 1) := by decide +kernel
theorem dX13_go_205 : decode cX13_go 205 = .ok (.getfield 38, 3) := by decide +kernel
theorem dX13_go_208 : decode cX13_go 208 = .ok (.iload_n 1, 1) := by decide +kernel
theorem dX13_go_209 : decode cX13_go 209 = .ok (.iaload, 1) := by decide +kernel
theorem dX13_go_210 : decode cX13_go 210 = .ok (.iload_n 2, 1) := by decide +kernel
theorem dX13_go_211 : decode cX13_go 211 = .ok (.invokevirtual 926, 3) := by decide +kernel
theorem dX13_go_214 : decode cX13_go 214 = .ok (.aload_n 0, 1) := by decide +kernel
theorem dX13_go_215 : decode cX13_go 215 = .ok (.invokevirtual 929, 3) := by decide +kernel
theorem dX13_go_218 : decode cX13_go 218 = .ok (.aload_n 0, 1) := by decide +kernel
theorem dX13_go_219 : decode cX13_go 219 = .ok (.dup, 1) := by decide +kernel
theorem dX13_go_220 : decode cX13_go 220 = .ok (.getfield 916, 3) := by decide +kernel
theorem dX13_go_223 : decode cX13_go 223 = .ok (.iconst 1, 1) := by decide +kernel
theorem dX13_go_224 : decode cX13_go 224 = .ok (.isub, 1) := by decide +kernel
theorem dX13_go_225 : decode cX13_go 225 = .ok (.putfield 916, 3) := by decide +kernel
theorem dX13_go_228 : decode cX13_go 228 = .ok (.aload_n 0, 1) := by decide +kernel
theorem dX13_go_229 : decode cX13_go 229 = .ok (.aload_n 0, 1) := by decide +kernel
theorem dX13_go_230 : decode cX13_go 230 = .ok (.getfield 41, 3) := by decide +kernel
theorem dX13_go_233 : decode cX13_go 233 = .ok (.iload_n 1, 1) := by decide +kernel
theorem dX13_go_234 : decode cX13_go 234 = .ok (.iaload, 1) := by decide +kernel
theorem dX13_go_235 : decode cX13_go 235 = .ok (.iload_n 2, 1) := by decide +kernel
theorem dX13_go_236 : decode cX13_go 236 = .ok (.invokevirtual 926, 3) := by decide +kernel
theorem dX13_go_239 : decode cX13_go 239 = .ok (.aload_n 0, 1) := by decide +kernel
theorem dX13_go_240 : decode cX13_go 240 = .ok (.invokevirtual 929, 3) := by decide +kernel
theorem dX13_go_243 : decode cX13_go 243 = .ok (.aload_n 0, 1) := by decide +kernel
theorem dX13_go_244 : decode cX13_go 244 = .ok (.dup, 1) := by decide +kernel
theorem dX13_go_245 : decode cX13_go 245 = .ok (.getfield 916, 3) := by decide +kernel
theorem dX13_go_248 : decode cX13_go 248 = .ok (.iconst 1, 1) := by decide +kernel
theorem dX13_go_249 : decode cX13_go 249 = .ok (.isub, 1) := by decide +kernel
theorem dX13_go_250 : decode cX13_go 250 = .ok (.putfield 916, 3) := by decide +kernel
theorem dX13_go_253 : decode cX13_go 253 = .ok (.goto 90, 3) := by decide +kernel
theorem dX13_go_256 : decode cX13_go 256 = .ok (.aload_n 0, 1) := by decide +kernel
theorem dX13_go_257 : decode cX13_go 257 = .ok (.aload_n 0, 1) := by decide +kernel
theorem dX13_go_258 : decode cX13_go 258 = .ok (.getfield 38, 3) := by decide +kernel
theorem dX13_go_261 : decode cX13_go 261 = .ok (.iload_n 1, 1) := by decide +kernel
theorem dX13_go_262 : decode cX13_go 262 = .ok (.iaload, 1) := by decide +kernel
theorem dX13_go_263 : decode cX13_go 263 = .ok (.iload_n 2, 1) := by decide +kernel
theorem dX13_go_264 : decode cX13_go 264 = .ok (.ifCond .ne 7, 3) := by decide +kernel
theorem dX13_go_267 : decode cX13_go 267 = .ok (.iconst 1, 1) := by decide +kernel
theorem dX13_go_268 : decode cX13_go 268 = .ok (.goto 4, 3) := by decide +kernel
theorem dX13_go_271 : decode cX13_go 271 = .ok (.iconst 0, 1) := by decide +kernel
theorem dX13_go_272 : decode cX13_go 272 = .ok (.invokevirtual 926, 3) := by decide +kernel
theorem dX13_go_275 : decode cX13_go 275 = .ok (.aload_n 0, 1) := by decide +kernel
theorem dX13_go_276 : decode cX13_go 276 = .ok (.invokevirtual 929, 3) := by decide +kernel
theorem dX13_go_279 : decode cX13_go 279 = .ok (.aload_n 0, 1) := by decide +kernel
theorem dX13_go_280 : decode cX13_go 280 = .ok (.dup, 1) := by decide +kernel
theorem dX13_go_281 : decode cX13_go 281 = .ok (.getfield 916, 3) := by decide +kernel
theorem dX13_go_284 : decode cX13_go 284 = .ok (.iconst 1, 1) := by decide +kernel
theorem dX13_go_285 : decode cX13_go 285 = .ok (.isub, 1) := by decide +kernel
theorem dX13_go_286 : decode cX13_go 286 = .ok (.putfield 916, 3) := by decide +kernel
theorem dX13_go_289 : decode cX13_go 289 = .ok (.goto 54, 3) := by decide +kernel
theorem dX13_go_292 : decode cX13_go 292 = .ok (.aload_n 0, 1) := by decide +kernel
theorem dX13_go_293 : decode cX13_go 293 = .ok (.getfield 38, 3) := by decide +kernel
theorem dX13_go_296 : decode cX13_go 296 = .ok (.iload_n 1, 1) := by decide +kernel
theorem dX13_go_297 : decode cX13_go 297 = .ok (.iaload, 1) := by decide +kernel
theorem dX13_go_298 : decode cX13_go 298 = .ok (.iconst 1, 1) := by decide +kernel
theorem dX13_go_299 : decode cX13_go 299 = .ok (.if_icmp .ne 7, 3) := by decide +kernel
theorem dX13_go_302 : decode cX13_go 302 = .ok (.iconst 1, 1) := by decide +kernel
theorem dX13_go_303 : decode cX13_go 303 = .ok (.goto 4, 3) := by decide +kernel
theorem dX13_go_306 : decode cX13_go 306 = .ok (.iconst 0, 1) := by decide +kernel
theorem dX13_go_307 : decode cX13_go 307 = .ok (.iload_n 2, 1) := by decide +kernel
theorem dX13_go_308 : decode cX13_go 308 = .ok (.if_icmp .ne 35, 3) := by decide +kernel
theorem dX13_go_311 : decode cX13_go 311 = .ok (.aload_n 0, 1) := by decide +kernel
theorem dX13_go_312 : decode cX13_go 312 = .ok (.invokevirtual 929, 3) := by decide +kernel
theorem dX13_go_315 : decode cX13_go 315 = .ok (.goto 28, 3) := by decide +kernel
theorem dX13_go_318 : decode cX13_go 318 = .ok (.aload_n 0, 1) := by decide +kernel
theorem dX13_go_319 : decode cX13_go 319 = .ok (.aload_n 0, 1) := by decide +kernel
theorem dX13_go_320 : decode cX13_go 320 = .ok (.getfield 107, 3) := by decide +kernel
theorem dX13_go_323 : decode cX13_go 323 = .ok (.aload_n 0, 1) := by decide +kernel
theorem dX13_go_324 : decode cX13_go 324 = .ok (.getfield 38, 3) := by decide +kernel
theorem dX13_go_327 : decode cX13_go 327 = .ok (.iload_n 1, 1) := by decide +kernel
theorem dX13_go_328 : decode cX13_go 328 = .ok (.iaload, 1) := by decide +kernel
theorem dX13_go_329 : decode cX13_go 329 = .ok (.iaload, 1) := by decide +kernel
theorem dX13_go_330 : decode cX13_go 330 = .ok (.iload_n 2, 1) := by decide +kernel
theorem dX13_go_331 : decode cX13_go 331 = .ok (.invokevirtual 932, 3) := by decide +kernel
theorem dX13_go_334 : decode cX13_go 334 = .ok (.goto 9, 3) := by decide +kernel
theorem dX13_go_337 : decode cX13_go 337 = .ok (.aload_n 0, 1) := by decide +kernel
theorem dX13_go_338 : decode cX13_go 338 = .ok (.iload_n 1, 1) := by decide +kernel
theorem dX13_go_339 : decode cX13_go 339 = .ok (.iload_n 2, 1) := by decide +kernel
theorem dX13_go_340 : decode cX13_go 340 = .ok (.invokevirtual 935, 3) := by decide +kernel
theorem dX13_go_343 : decode cX13_go 343 = .ok (.aload_n 0, 1) := by decide +kernel
theorem dX13_go_344 : decode cX13_go 344 = .ok (.getfield 291, 3) := by decide +kernel
theorem dX13_go_347 : decode cX13_go 347 = .ok (.aload_n 0, 1) := by decide +kernel
theorem dX13_go_348 : decode cX13_go 348 = .ok (.getfield 916, 3) := by decide +kernel
theorem dX13_go_351 : decode cX13_go 351 = .ok (.iload_n 1, 1) := by decide +kernel
theorem dX13_go_352 : decode cX13_go 352 = .ok (.iastore, 1) := by decide +kernel
theorem dX13_go_353 : decode cX13_go 353 = .ok (.aload_n 0, 1) := by decide +kernel
theorem dX13_go_354 : decode cX13_go 354 = .ok (.getfield 294, 3) := by decide +kernel
theorem dX13_go_357 : decode cX13_go 357 = .ok (.aload_n 0, 1) := by decide +kernel
theorem dX13_go_358 : decode cX13_go 358 = .ok (.getfield 916, 3) := by decide +kernel
theorem dX13_go_361 : decode cX13_go 361 = .ok (.iload_n 2, 1) := by decide +kernel
theorem dX13_go_362 : decode cX13_go 362 = .ok (.ifCond .eq 7, 3) := by decide +kernel
theorem dX13_go_365 : decode cX13_go 365 = .ok (.iconst 1, 1) := by decide +kernel
theorem dX13_go_366 : decode cX13_go 366 = .ok (.goto 4, 3) := by decide +kernel
theorem dX13_go_369 : decode cX13_go 369 = .ok (.iconst 0, 1) := by decide +kernel
theorem dX13_go_370 : decode cX13_go 370 = .ok (.iastore, 1) := by decide +kernel
theorem dX13_go_371 : decode cX13_go 371 = .ok (.aload_n 0, 1) := by decide +kernel
theorem dX13_go_372 : decode cX13_go 372 = .ok (.dup, 1) := by decide +kernel
theorem dX13_go_373 : decode cX13_go 373 = .ok (.getfield 916, 3) := by decide +kernel
theorem dX13_go_376 : decode cX13_go 376 = .ok (.iconst 1, 1) := by decide +kernel
theorem dX13_go_377 : decode cX13_go 377 = .ok (.iadd, 1) := by decide +kernel
theorem dX13_go_378 : decode cX13_go 378 = .ok (.putfield 916, 3) := by decide +kernel
theorem dX13_go_381 : decode cX13_go 381 = .ok (.return_, 1) := by decide +kernel
theorem dX13_sized_0 : decode cX13_sized 0 = .ok (.aload_n 0, 1) := by decide +kernel
theorem dX13_sized_1 : decode cX13_sized 1 = .ok (.getfield 909, 3) := by decide +kernel
theorem dX13_sized_4 : decode cX13_sized 4 = .ok (.istore_n 3, 1) := by decide +kernel
theorem dX13_sized_5 : decode cX13_sized 5 = .ok (.aload_n 0, 1) := by decide +kernel
theorem dX13_sized_6 : decode cX13_sized 6 = .ok (.iload_n 1, 1) := by decide +kernel
theorem dX13_sized_7 : decode cX13_sized 7 = .ok (.invokevirtual 902, 3) := by decide +kernel
theorem dX13_sized_10 : decode cX13_sized 10 = .ok (.istore 4, 2) := by decide +kernel
theorem dX13_sized_12 : decode cX13_sized 12 = .ok (.iload_n 2, 1) := by decide +kernel
theorem dX13_sized_13 : decode cX13_sized 13 = .ok (.ifCond .eq 16, 3) := by decide +kernel
theorem dX13_sized_16 : decode cX13_sized 16 = .ok (.aload_n 0, 1) := by decide +kernel
theorem dX13_sized_17 : decode cX13_sized 17 = .ok (.iload 4, 2) := by decide +kernel
theorem dX13_sized_19 : decode cX13_sized 19 = .ok (.iconst 1, 1) := by decide +kernel
theorem dX13_sized_20 : decode cX13_sized 20 = .ok (.iconst 0, 1) := by decide +kernel
theorem dX13_sized_21 : decode cX13_sized 21 = .ok (.iconst 0, 1) := by decide +kernel
theorem dX13_sized_22 : decode cX13_sized 22 = .ok (.lconst 0, 1) := by decide +kernel
theorem dX13_sized_23 : decode cX13_sized 23 = .ok (.invokevirtual 912, 3) := by decide +kernel
theorem dX13_sized_26 : decode cX13_sized 26 = .ok (.goto 13, 3) := by decide +kernel
theorem dX13_sized_29 : decode cX13_sized 29 = .ok (.aload_n 0, 1) := by decide +kernel
theorem dX13_sized_30 : decode cX13_sized 30 = .ok (.iload 4, 2) := by decide +kernel
theorem dX13_sized_32 : decode cX13_sized 32 = .ok (.iconst (-1), 1) := by decide +kernel
theorem dX13_sized_33 : decode cX13_sized 33 = .ok (.iconst 0, 1) := by decide +kernel
theorem dX13_sized_34 : decode cX13_sized 34 = .ok (.iconst 0, 1) := by decide +kernel
theorem dX13_sized_35 : decode cX13_sized 35 = .ok (.lconst 1, 1) := by decide +kernel
theorem dX13_sized_36 : decode cX13_sized 36 = .ok (.invokevirtual 912, 3) := by decide +kernel
theorem dX13_sized_39 : decode cX13_sized 39 = .ok (.aload_n 0, 1) := by decide +kernel
theorem dX13_sized_40 : decode cX13_sized 40 = .ok (.invokevirtual 929, 3) := by decide +kernel
theorem dX13_sized_43 : decode cX13_sized 43 = .ok (.aload_n 0, 1) := by decide +kernel
theorem dX13_sized_44 : decode cX13_sized 44 = .ok (.iload_n 3, 1) := by decide +kernel
theorem dX13_sized_45 : decode cX13_sized 45 = .ok (.putfield 909, 3) := by decide +kernel
theorem dX13_sized_48 : decode cX13_sized 48 = .ok (.return_, 1) := by decide +kernel
theorem dX13_truth_0 : decode cX13_truth 0 = .ok (.iconst 0, 1) := by decide +kernel
theorem dX13_truth_1 : decode cX13_truth 1 = .ok (.istore_n 3, 1) := by decide +kernel
theorem dX13_truth_2 : decode cX13_truth 2 = .ok (.iload_n 3, 1) := by decide +kernel
theorem dX13_truth_3 : decode cX13_truth 3 = .ok (.aload_n 0, 1) := by decide +kernel
theorem dX13_truth_4 : decode cX13_truth 4 = .ok (.getfield 938, 3) := by decide +kernel
theorem dX13_truth_7 : decode cX13_truth 7 = .ok (.if_icmp .ge 46, 3) := by decide +kernel
theorem dX13_truth_10 : decode cX13_truth 10 = .ok (.aload_n 0, 1) := by decide +kernel
theorem dX13_truth_11 : decode cX13_truth 11 = .ok (.getfield 309, 3) := by decide +kernel
theorem dX13_truth_14 : decode cX13_truth 14 = .ok (.iload_n 3, 1) := by decide +kernel
theorem dX13_truth_15 : decode cX13_truth 15 = .ok (.iaload, 1) := by decide +kernel
theorem dX13_truth_16 : decode cX13_truth 16 = .ok (.iload_n 1, 1) := by decide +kernel
theorem dX13_truth_17 : decode cX13_truth 17 = .ok (.if_icmp .eq 6, 3) := by decide +kernel
theorem dX13_truth_20 : decode cX13_truth 20 = .ok (.goto 27, 3) := by decide +kernel
theorem dX13_truth_23 : decode cX13_truth 23 = .ok (.aload_n 0, 1) := by decide +kernel
theorem dX13_truth_24 : decode cX13_truth 24 = .ok (.getfield 312, 3) := by decide +kernel
theorem dX13_truth_27 : decode cX13_truth 27 = .ok (.iload_n 3, 1) := by decide +kernel
theorem dX13_truth_28 : decode cX13_truth 28 = .ok (.iaload, 1) := by decide +kernel
theorem dX13_truth_29 : decode cX13_truth 29 = .ok (.iconst 1, 1) := by decide +kernel
theorem dX13_truth_30 : decode cX13_truth 30 = .ok (.if_icmp .ne 7, 3) := by decide +kernel
theorem dX13_truth_33 : decode cX13_truth 33 = .ok (.iconst 1, 1) := by decide +kernel
theorem dX13_truth_34 : decode cX13_truth 34 = .ok (.goto 4, 3) := by decide +kernel
theorem dX13_truth_37 : decode cX13_truth 37 = .ok (.iconst 0, 1) := by decide +kernel
theorem dX13_truth_38 : decode cX13_truth 38 = .ok (.iload_n 2, 1) := by decide +kernel
theorem dX13_truth_39 : decode cX13_truth 39 = .ok (.if_icmp .ne 7, 3) := by decide +kernel
theorem dX13_truth_42 : decode cX13_truth 42 = .ok (.aload_n 0, 1) := by decide +kernel
theorem dX13_truth_43 : decode cX13_truth 43 = .ok (.invokevirtual 929, 3) := by decide +kernel
theorem dX13_truth_46 : decode cX13_truth 46 = .ok (.return_, 1) := by decide +kernel
theorem dX13_truth_47 : decode cX13_truth 47 = .ok (.iinc 3 1, 3) := by decide +kernel
theorem dX13_truth_50 : decode cX13_truth 50 = .ok (.goto (-48), 3) := by decide +kernel
theorem dX13_truth_53 : decode cX13_truth 53 = .ok (.aload_n 0, 1) := by decide +kernel
theorem dX13_truth_54 : decode cX13_truth 54 = .ok (.getfield 309, 3) := by decide +kernel
theorem dX13_truth_57 : decode cX13_truth 57 = .ok (.aload_n 0, 1) := by decide +kernel
theorem dX13_truth_58 : decode cX13_truth 58 = .ok (.getfield 938, 3) := by decide +kernel
theorem dX13_truth_61 : decode cX13_truth 61 = .ok (.iload_n 1, 1) := by decide +kernel
theorem dX13_truth_62 : decode cX13_truth 62 = .ok (.iastore, 1) := by decide +kernel
theorem dX13_truth_63 : decode cX13_truth 63 = .ok (.aload_n 0, 1) := by decide +kernel
theorem dX13_truth_64 : decode cX13_truth 64 = .ok (.getfield 312, 3) := by decide +kernel
theorem dX13_truth_67 : decode cX13_truth 67 = .ok (.aload_n 0, 1) := by decide +kernel
theorem dX13_truth_68 : decode cX13_truth 68 = .ok (.getfield 938, 3) := by decide +kernel
theorem dX13_truth_71 : decode cX13_truth 71 = .ok (.iload_n 2, 1) := by decide +kernel
theorem dX13_truth_72 : decode cX13_truth 72 = .ok (.ifCond .eq 7, 3) := by decide +kernel
theorem dX13_truth_75 : decode cX13_truth 75 = .ok (.iconst 1, 1) := by decide +kernel
theorem dX13_truth_76 : decode cX13_truth 76 = .ok (.goto 4, 3) := by decide +kernel
theorem dX13_truth_79 : decode cX13_truth 79 = .ok (.iconst 0, 1) := by decide +kernel
theorem dX13_truth_80 : decode cX13_truth 80 = .ok (.iastore, 1) := by decide +kernel
theorem dX13_truth_81 : decode cX13_truth 81 = .ok (.aload_n 0, 1) := by decide +kernel
theorem dX13_truth_82 : decode cX13_truth 82 = .ok (.dup, 1) := by decide +kernel
theorem dX13_truth_83 : decode cX13_truth 83 = .ok (.getfield 938, 3) := by decide +kernel
theorem dX13_truth_86 : decode cX13_truth 86 = .ok (.iconst 1, 1) := by decide +kernel
theorem dX13_truth_87 : decode cX13_truth 87 = .ok (.iadd, 1) := by decide +kernel
theorem dX13_truth_88 : decode cX13_truth 88 = .ok (.putfield 938, 3) := by decide +kernel
theorem dX13_truth_91 : decode cX13_truth 91 = .ok (.aload_n 0, 1) := by decide +kernel
theorem dX13_truth_92 : decode cX13_truth 92 = .ok (.invokevirtual 929, 3) := by decide +kernel
theorem dX13_truth_95 : decode cX13_truth 95 = .ok (.aload_n 0, 1) := by decide +kernel
theorem dX13_truth_96 : decode cX13_truth 96 = .ok (.dup, 1) := by decide +kernel
theorem dX13_truth_97 : decode cX13_truth 97 = .ok (.getfield 938, 3) := by decide +kernel
theorem dX13_truth_100 : decode cX13_truth 100 = .ok (.iconst 1, 1) := by decide +kernel
theorem dX13_truth_101 : decode cX13_truth 101 = .ok (.isub, 1) := by decide +kernel
theorem dX13_truth_102 : decode cX13_truth 102 = .ok (.putfield 938, 3) := by decide +kernel
theorem dX13_truth_105 : decode cX13_truth 105 = .ok (.return_, 1) := by decide +kernel
theorem dX13_compares_0 : decode cX13_compares 0 = .ok (.aload_n 0, 1) := by decide +kernel
theorem dX13_compares_1 : decode cX13_compares 1 = .ok (.getfield 44, 3) := by decide +kernel
theorem dX13_compares_4 : decode cX13_compares 4 = .ok (.iload_n 1, 1) := by decide +kernel
theorem dX13_compares_5 : decode cX13_compares 5 = .ok (.iaload, 1) := by decide +kernel
theorem dX13_compares_6 : decode cX13_compares 6 = .ok (.istore_n 3, 1) := by decide +kernel
theorem dX13_compares_7 : decode cX13_compares 7 = .ok (.iload_n 2, 1) := by decide +kernel
theorem dX13_compares_8 : decode cX13_compares 8 = .ok (.ifCond .ne 49, 3) := by decide +kernel
theorem dX13_compares_11 : decode cX13_compares 11 = .ok (.iload_n 3, 1) := by decide +kernel
theorem dX13_compares_12 : decode cX13_compares 12 = .ok (.ifCond .ne 7, 3) := by decide +kernel
theorem dX13_compares_15 : decode cX13_compares 15 = .ok (.iconst 5, 1) := by decide +kernel
theorem dX13_compares_16 : decode cX13_compares 16 = .ok (.goto 40, 3) := by decide +kernel
theorem dX13_compares_19 : decode cX13_compares 19 = .ok (.iload_n 3, 1) := by decide +kernel
theorem dX13_compares_20 : decode cX13_compares 20 = .ok (.iconst 5, 1) := by decide +kernel
theorem dX13_compares_21 : decode cX13_compares 21 = .ok (.if_icmp .ne 7, 3) := by decide +kernel
theorem dX13_compares_24 : decode cX13_compares 24 = .ok (.iconst 0, 1) := by decide +kernel
theorem dX13_compares_25 : decode cX13_compares 25 = .ok (.goto 31, 3) := by decide +kernel
theorem dX13_compares_28 : decode cX13_compares 28 = .ok (.iload_n 3, 1) := by decide +kernel
theorem dX13_compares_29 : decode cX13_compares 29 = .ok (.iconst 1, 1) := by decide +kernel
theorem dX13_compares_30 : decode cX13_compares 30 = .ok (.if_icmp .ne 7, 3) := by decide +kernel
theorem dX13_compares_33 : decode cX13_compares 33 = .ok (.iconst 4, 1) := by decide +kernel
theorem dX13_compares_34 : decode cX13_compares 34 = .ok (.goto 22, 3) := by decide +kernel
theorem dX13_compares_37 : decode cX13_compares 37 = .ok (.iload_n 3, 1) := by decide +kernel
theorem dX13_compares_38 : decode cX13_compares 38 = .ok (.iconst 4, 1) := by decide +kernel
theorem dX13_compares_39 : decode cX13_compares 39 = .ok (.if_icmp .ne 7, 3) := by decide +kernel
theorem dX13_compares_42 : decode cX13_compares 42 = .ok (.iconst 1, 1) := by decide +kernel
theorem dX13_compares_43 : decode cX13_compares 43 = .ok (.goto 13, 3) := by decide +kernel
theorem dX13_compares_46 : decode cX13_compares 46 = .ok (.iload_n 3, 1) := by decide +kernel
theorem dX13_compares_47 : decode cX13_compares 47 = .ok (.iconst 2, 1) := by decide +kernel
theorem dX13_compares_48 : decode cX13_compares 48 = .ok (.if_icmp .ne 7, 3) := by decide +kernel
theorem dX13_compares_51 : decode cX13_compares 51 = .ok (.iconst 3, 1) := by decide +kernel
theorem dX13_compares_52 : decode cX13_compares 52 = .ok (.goto 4, 3) := by decide +kernel
theorem dX13_compares_55 : decode cX13_compares 55 = .ok (.iconst 2, 1) := by decide +kernel
theorem dX13_compares_56 : decode cX13_compares 56 = .ok (.istore_n 3, 1) := by decide +kernel
theorem dX13_compares_57 : decode cX13_compares 57 = .ok (.aload_n 0, 1) := by decide +kernel
theorem dX13_compares_58 : decode cX13_compares 58 = .ok (.invokevirtual 714, 3) := by decide +kernel
theorem dX13_compares_61 : decode cX13_compares 61 = .ok (.aload_n 0, 1) := by decide +kernel
theorem dX13_compares_62 : decode cX13_compares 62 = .ok (.aload_n 0, 1) := by decide +kernel
theorem dX13_compares_63 : decode cX13_compares 63 = .ok (.getfield 38, 3) := by decide +kernel
theorem dX13_compares_66 : decode cX13_compares 66 = .ok (.iload_n 1, 1) := by decide +kernel
theorem dX13_compares_67 : decode cX13_compares 67 = .ok (.iaload, 1) := by decide +kernel
theorem dX13_compares_68 : decode cX13_compares 68 = .ok (.iconst 1, 1) := by decide +kernel
theorem dX13_compares_69 : decode cX13_compares 69 = .ok (.invokevirtual 717, 3) := by decide +kernel
theorem dX13_compares_72 : decode cX13_compares 72 = .ok (.aload_n 0, 1) := by decide +kernel
theorem dX13_compares_73 : decode cX13_compares 73 = .ok (.aload_n 0, 1) := by decide +kernel
theorem dX13_compares_74 : decode cX13_compares 74 = .ok (.getfield 41, 3) := by decide +kernel
theorem dX13_compares_77 : decode cX13_compares 77 = .ok (.iload_n 1, 1) := by decide +kernel
theorem dX13_compares_78 : decode cX13_compares 78 = .ok (.iaload, 1) := by decide +kernel
theorem dX13_compares_79 : decode cX13_compares 79 = .ok (.iconst (-1), 1) := by decide +kernel
theorem dX13_compares_80 : decode cX13_compares 80 = .ok (.invokevirtual 717, 3) := by decide +kernel
theorem dX13_compares_83 : decode cX13_compares 83 = .ok (.aload_n 0, 1) := by decide +kernel
theorem dX13_compares_84 : decode cX13_compares 84 = .ok (.getfield 909, 3) := by decide +kernel
theorem dX13_compares_87 : decode cX13_compares 87 = .ok (.istore 4, 2) := by decide +kernel
theorem dX13_compares_89 : decode cX13_compares 89 = .ok (.iload_n 3, 1) := by decide +kernel
theorem dX13_compares_90 : decode cX13_compares 90 = .ok (.iconst 5, 1) := by decide +kernel
theorem dX13_compares_91 : decode cX13_compares 91 = .ok (.if_icmp .ne 58, 3) := by decide +kernel
theorem dX13_compares_94 : decode cX13_compares 94 = .ok (.aload_n 0, 1) := by decide +kernel
theorem dX13_compares_95 : decode cX13_compares 95 = .ok (.iconst 1, 1) := by decide +kernel
theorem dX13_compares_96 : decode cX13_compares 96 = .ok (.lconst 1, 1) := by decide +kernel
theorem dX13_compares_97 : decode cX13_compares 97 = .ok (.invokevirtual 941, 3) := by decide +kernel
theorem dX13_compares_100 : decode cX13_compares 100 = .ok (.aload_n 0, 1) := by decide +kernel
theorem dX13_compares_101 : decode cX13_compares 101 = .ok (.invokevirtual 929, 3) := by decide +kernel
theorem dX13_compares_104 : decode cX13_compares 104 = .ok (.aload_n 0, 1) := by decide +kernel
theorem dX13_compares_105 : decode cX13_compares 105 = .ok (.iload 4, 2) := by decide +kernel
theorem dX13_compares_107 : decode cX13_compares 107 = .ok (.putfield 909, 3) := by decide +kernel
theorem dX13_compares_110 : decode cX13_compares 110 = .ok (.aload_n 0, 1) := by decide +kernel
theorem dX13_compares_111 : decode cX13_compares 111 = .ok (.invokevirtual 714, 3) := by decide +kernel
theorem dX13_compares_114 : decode cX13_compares 114 = .ok (.aload_n 0, 1) := by decide +kernel
theorem dX13_compares_115 : decode cX13_compares 115 = .ok (.aload_n 0, 1) := by decide +kernel
theorem dX13_compares_116 : decode cX13_compares 116 = .ok (.getfield 38, 3) := by decide +kernel
theorem dX13_compares_119 : decode cX13_compares 119 = .ok (.iload_n 1, 1) := by decide +kernel
theorem dX13_compares_120 : decode cX13_compares 120 = .ok (.iaload, 1) := by decide +kernel
theorem dX13_compares_121 : decode cX13_compares 121 = .ok (.iconst 1, 1) := by decide +kernel
theorem dX13_compares_122 : decode cX13_compares 122 = .ok (.invokevirtual 717, 3) := by decide +kernel
theorem dX13_compares_125 : decode cX13_compares 125 = .ok (.aload_n 0, 1) := by decide +kernel
theorem dX13_compares_126 : decode cX13_compares 126 = .ok (.aload_n 0, 1) := by decide +kernel
theorem dX13_compares_127 : decode cX13_compares 127 = .ok (.getfield 41, 3) := by decide +kernel
theorem dX13_compares_130 : decode cX13_compares 130 = .ok (.iload_n 1, 1) := by decide +kernel
theorem dX13_compares_131 : decode cX13_compares 131 = .ok (.iaload, 1) := by decide +kernel
theorem dX13_compares_132 : decode cX13_compares 132 = .ok (.iconst (-1), 1) := by decide +kernel
theorem dX13_compares_133 : decode cX13_compares 133 = .ok (.invokevirtual 717, 3) := by decide +kernel
theorem dX13_compares_136 : decode cX13_compares 136 = .ok (.aload_n 0, 1) := by decide +kernel
theorem dX13_compares_137 : decode cX13_compares 137 = .ok (.iconst (-1), 1) := by decide +kernel
theorem dX13_compares_138 : decode cX13_compares 138 = .ok (.lconst 1, 1) := by decide +kernel
theorem dX13_compares_139 : decode cX13_compares 139 = .ok (.invokevirtual 941, 3) := by decide +kernel
theorem dX13_compares_142 : decode cX13_compares 142 = .ok (.aload_n 0, 1) := by decide +kernel
theorem dX13_compares_143 : decode cX13_compares 143 = .ok (.invokevirtual 929, 3) := by decide +kernel
theorem dX13_compares_146 : decode cX13_compares 146 = .ok (.goto 51, 3) := by decide +kernel
theorem dX13_compares_149 : decode cX13_compares 149 = .ok (.iload_n 3, 1) := by decide +kernel
theorem dX13_compares_150 : decode cX13_compares 150 = .ok (.iconst 3, 1) := by decide +kernel
theorem dX13_compares_151 : decode cX13_compares 151 = .ok (.if_icmp .ge 18, 3) := by decide +kernel
theorem dX13_compares_154 : decode cX13_compares 154 = .ok (.aload_n 0, 1) := by decide +kernel
theorem dX13_compares_155 : decode cX13_compares 155 = .ok (.iconst 1, 1) := by decide +kernel
theorem dX13_compares_156 : decode cX13_compares 156 = .ok (.iload_n 3, 1) := by decide +kernel
theorem dX13_compares_157 : decode cX13_compares 157 = .ok (.iconst 1, 1) := by decide +kernel
theorem dX13_compares_158 : decode cX13_compares 158 = .ok (.if_icmp .ne 7, 3) := by decide +kernel
theorem dX13_compares_161 : decode cX13_compares 161 = .ok (.lconst 1, 1) := by decide +kernel
theorem dX13_compares_162 : decode cX13_compares 162 = .ok (.goto 4, 3) := by decide +kernel
theorem dX13_compares_165 : decode cX13_compares 165 = .ok (.lconst 0, 1) := by decide +kernel
theorem dX13_compares_166 : decode cX13_compares 166 = .ok (.invokevirtual 941, 3) := by decide +kernel
theorem dX13_compares_169 : decode cX13_compares 169 = .ok (.iload_n 3, 1) := by decide +kernel
theorem dX13_compares_170 : decode cX13_compares 170 = .ok (.ifCond .eq 8, 3) := by decide +kernel
theorem dX13_compares_173 : decode cX13_compares 173 = .ok (.iload_n 3, 1) := by decide +kernel
theorem dX13_compares_174 : decode cX13_compares 174 = .ok (.iconst 2, 1) := by decide +kernel
theorem dX13_compares_175 : decode cX13_compares 175 = .ok (.if_icmp .le 18, 3) := by decide +kernel
theorem dX13_compares_178 : decode cX13_compares 178 = .ok (.aload_n 0, 1) := by decide +kernel
theorem dX13_compares_179 : decode cX13_compares 179 = .ok (.iconst (-1), 1) := by decide +kernel
theorem dX13_compares_180 : decode cX13_compares 180 = .ok (.iload_n 3, 1) := by decide +kernel
theorem dX13_compares_181 : decode cX13_compares 181 = .ok (.iconst 3, 1) := by decide +kernel
theorem dX13_compares_182 : decode cX13_compares 182 = .ok (.if_icmp .ne 7, 3) := by decide +kernel
theorem dX13_compares_185 : decode cX13_compares 185 = .ok (.lconst 1, 1) := by decide +kernel
theorem dX13_compares_186 : decode cX13_compares 186 = .ok (.goto 4, 3) := by decide +kernel
theorem dX13_compares_189 : decode cX13_compares 189 = .ok (.lconst 0, 1) := by decide +kernel
theorem dX13_compares_190 : decode cX13_compares 190 = .ok (.invokevirtual 941, 3) := by decide +kernel
theorem dX13_compares_193 : decode cX13_compares 193 = .ok (.aload_n 0, 1) := by decide +kernel
theorem dX13_compares_194 : decode cX13_compares 194 = .ok (.invokevirtual 929, 3) := by decide +kernel
theorem dX13_compares_197 : decode cX13_compares 197 = .ok (.aload_n 0, 1) := by decide +kernel
theorem dX13_compares_198 : decode cX13_compares 198 = .ok (.iload 4, 2) := by decide +kernel
theorem dX13_compares_200 : decode cX13_compares 200 = .ok (.putfield 909, 3) := by decide +kernel
theorem dX13_compares_203 : decode cX13_compares 203 = .ok (.return_, 1) := by decide +kernel
theorem dX13_under_0 : decode cX13_under 0 = .ok (.aload_n 0, 1) := by decide +kernel
theorem dX13_under_1 : decode cX13_under 1 = .ok (.invokevirtual 958, 3) := by decide +kernel
theorem dX13_under_4 : decode cX13_under 4 = .ok (.aload_n 0, 1) := by decide +kernel
theorem dX13_under_5 : decode cX13_under 5 = .ok (.sipush 1500, 3) := by decide +kernel
theorem dX13_under_8 : decode cX13_under 8 = .ok (.invokevirtual 902, 3) := by decide +kernel
theorem dX13_under_11 : decode cX13_under 11 = .ok (.pop, 1) := by decide +kernel
theorem dX13_under_12 : decode cX13_under 12 = .ok (.iload_n 1, 1) := by decide +kernel
theorem dX13_under_13 : decode cX13_under 13 = .ok (.istore 4, 2) := by decide +kernel
theorem dX13_under_15 : decode cX13_under 15 = .ok (.iload 4, 2) := by decide +kernel
theorem dX13_under_17 : decode cX13_under 17 = .ok (.ifCond .lt 45, 3) := by decide +kernel
theorem dX13_under_20 : decode cX13_under 20 = .ok (.aload_n 0, 1) := by decide +kernel
theorem dX13_under_21 : decode cX13_under 21 = .ok (.getfield 142, 3) := by decide +kernel
theorem dX13_under_24 : decode cX13_under 24 = .ok (.aload_n 0, 1) := by decide +kernel
theorem dX13_under_25 : decode cX13_under 25 = .ok (.getfield 225, 3) := by decide +kernel
theorem dX13_under_28 : decode cX13_under 28 = .ok (.iload 4, 2) := by decide +kernel
theorem dX13_under_30 : decode cX13_under 30 = .ok (.iaload, 1) := by decide +kernel
theorem dX13_under_31 : decode cX13_under 31 = .ok (.iaload, 1) := by decide +kernel
theorem dX13_under_32 : decode cX13_under 32 = .ok (.invokestatic 782, 3) := by decide +kernel
theorem dX13_under_35 : decode cX13_under 35 = .ok (.ifCond .eq 15, 3) := by decide +kernel
theorem dX13_under_38 : decode cX13_under 38 = .ok (.aload_n 0, 1) := by decide +kernel
theorem dX13_under_39 : decode cX13_under 39 = .ok (.aload_n 0, 1) := by decide +kernel
theorem dX13_under_40 : decode cX13_under 40 = .ok (.getfield 222, 3) := by decide +kernel
theorem dX13_under_43 : decode cX13_under 43 = .ok (.iload 4, 2) := by decide +kernel
theorem dX13_under_45 : decode cX13_under 45 = .ok (.iaload, 1) := by decide +kernel
theorem dX13_under_46 : decode cX13_under 46 = .ok (.invokevirtual 902, 3) := by decide +kernel
theorem dX13_under_49 : decode cX13_under 49 = .ok (.pop, 1) := by decide +kernel
theorem dX13_under_50 : decode cX13_under 50 = .ok (.aload_n 0, 1) := by decide +kernel
theorem dX13_under_51 : decode cX13_under 51 = .ok (.getfield 228, 3) := by decide +kernel
theorem dX13_under_54 : decode cX13_under 54 = .ok (.iload 4, 2) := by decide +kernel
theorem dX13_under_56 : decode cX13_under 56 = .ok (.iaload, 1) := by decide +kernel
theorem dX13_under_57 : decode cX13_under 57 = .ok (.istore 4, 2) := by decide +kernel
theorem dX13_under_59 : decode cX13_under 59 = .ok (.goto (-44), 3) := by decide +kernel
theorem dX13_under_62 : decode cX13_under 62 = .ok (.aload_n 0, 1) := by decide +kernel
theorem dX13_under_63 : decode cX13_under 63 = .ok (.iload_n 3, 1) := by decide +kernel
theorem dX13_under_64 : decode cX13_under 64 = .ok (.invokevirtual 961, 3) := by decide +kernel
theorem dX13_under_67 : decode cX13_under 67 = .ok (.iload_n 1, 1) := by decide +kernel
theorem dX13_under_68 : decode cX13_under 68 = .ok (.istore 4, 2) := by decide +kernel
theorem dX13_under_70 : decode cX13_under 70 = .ok (.iload 4, 2) := by decide +kernel
theorem dX13_under_72 : decode cX13_under 72 = .ok (.ifCond .lt 26, 3) := by decide +kernel
theorem dX13_under_75 : decode cX13_under 75 = .ok (.aload_n 0, 1) := by decide +kernel
theorem dX13_under_76 : decode cX13_under 76 = .ok (.aload_n 0, 1) := by decide +kernel
theorem dX13_under_77 : decode cX13_under 77 = .ok (.getfield 225, 3) := by decide +kernel
theorem dX13_under_80 : decode cX13_under 80 = .ok (.iload 4, 2) := by decide +kernel
theorem dX13_under_82 : decode cX13_under 82 = .ok (.iaload, 1) := by decide +kernel
theorem dX13_under_83 : decode cX13_under 83 = .ok (.invokevirtual 961, 3) := by decide +kernel
theorem dX13_under_86 : decode cX13_under 86 = .ok (.aload_n 0, 1) := by decide +kernel
theorem dX13_under_87 : decode cX13_under 87 = .ok (.getfield 228, 3) := by decide +kernel
theorem dX13_under_90 : decode cX13_under 90 = .ok (.iload 4, 2) := by decide +kernel
theorem dX13_under_92 : decode cX13_under 92 = .ok (.iaload, 1) := by decide +kernel
theorem dX13_under_93 : decode cX13_under 93 = .ok (.istore 4, 2) := by decide +kernel
theorem dX13_under_95 : decode cX13_under 95 = .ok (.goto (-25), 3) := by decide +kernel
theorem dX13_under_98 : decode cX13_under 98 = .ok (.iload_n 2, 1) := by decide +kernel
theorem dX13_under_99 : decode cX13_under 99 = .ok (.istore 4, 2) := by decide +kernel
theorem dX13_under_101 : decode cX13_under 101 = .ok (.iload 4, 2) := by decide +kernel
theorem dX13_under_103 : decode cX13_under 103 = .ok (.ifCond .lt 26, 3) := by decide +kernel
theorem dX13_under_106 : decode cX13_under 106 = .ok (.aload_n 0, 1) := by decide +kernel
theorem dX13_under_107 : decode cX13_under 107 = .ok (.aload_n 0, 1) := by decide +kernel
theorem dX13_under_108 : decode cX13_under 108 = .ok (.getfield 231, 3) := by decide +kernel
theorem dX13_under_111 : decode cX13_under 111 = .ok (.iload 4, 2) := by decide +kernel
theorem dX13_under_113 : decode cX13_under 113 = .ok (.iaload, 1) := by decide +kernel
theorem dX13_under_114 : decode cX13_under 114 = .ok (.invokevirtual 964, 3) := by decide +kernel
theorem dX13_under_117 : decode cX13_under 117 = .ok (.aload_n 0, 1) := by decide +kernel
theorem dX13_under_118 : decode cX13_under 118 = .ok (.getfield 237, 3) := by decide +kernel
theorem dX13_under_121 : decode cX13_under 121 = .ok (.iload 4, 2) := by decide +kernel
theorem dX13_under_123 : decode cX13_under 123 = .ok (.iaload, 1) := by decide +kernel
theorem dX13_under_124 : decode cX13_under 124 = .ok (.istore 4, 2) := by decide +kernel
theorem dX13_under_126 : decode cX13_under 126 = .ok (.goto (-25), 3) := by decide +kernel
theorem dX13_under_129 : decode cX13_under 129 = .ok (.aload_n 0, 1) := by decide +kernel
theorem dX13_under_130 : decode cX13_under 130 = .ok (.getfield 951, 3) := by decide +kernel
theorem dX13_under_133 : decode cX13_under 133 = .ok (.ifCond .lt 11, 3) := by decide +kernel
theorem dX13_under_136 : decode cX13_under 136 = .ok (.aload_n 0, 1) := by decide +kernel
theorem dX13_under_137 : decode cX13_under 137 = .ok (.aload_n 0, 1) := by decide +kernel
theorem dX13_under_138 : decode cX13_under 138 = .ok (.getfield 951, 3) := by decide +kernel
theorem dX13_under_141 : decode cX13_under 141 = .ok (.invokevirtual 967, 3) := by decide +kernel
theorem dX13_under_144 : decode cX13_under 144 = .ok (.iconst 2, 1) := by decide +kernel
theorem dX13_under_145 : decode cX13_under 145 = .ok (.aload_n 0, 1) := by decide +kernel
theorem dX13_under_146 : decode cX13_under 146 = .ok (.getfield 862, 3) := by decide +kernel
theorem dX13_under_149 : decode cX13_under 149 = .ok (.imul, 1) := by decide +kernel
theorem dX13_under_150 : decode cX13_under 150 = .ok (.istore 4, 2) := by decide +kernel
theorem dX13_under_152 : decode cX13_under 152 = .ok (.iconst 0, 1) := by decide +kernel
theorem dX13_under_153 : decode cX13_under 153 = .ok (.istore 5, 2) := by decide +kernel
theorem dX13_under_155 : decode cX13_under 155 = .ok (.iload 5, 2) := by decide +kernel
theorem dX13_under_157 : decode cX13_under 157 = .ok (.iload 4, 2) := by decide +kernel
theorem dX13_under_159 : decode cX13_under 159 = .ok (.if_icmp .ge 53, 3) := by decide +kernel
theorem dX13_under_162 : decode cX13_under 162 = .ok (.iconst 0, 1) := by decide +kernel
theorem dX13_under_163 : decode cX13_under 163 = .ok (.istore 6, 2) := by decide +kernel
theorem dX13_under_165 : decode cX13_under 165 = .ok (.iload 6, 2) := by decide +kernel
theorem dX13_under_167 : decode cX13_under 167 = .ok (.iload 4, 2) := by decide +kernel
theorem dX13_under_169 : decode cX13_under 169 = .ok (.if_icmp .ge 37, 3) := by decide +kernel
theorem dX13_under_172 : decode cX13_under 172 = .ok (.aload_n 0, 1) := by decide +kernel
theorem dX13_under_173 : decode cX13_under 173 = .ok (.getfield 279, 3) := by decide +kernel
theorem dX13_under_176 : decode cX13_under 176 = .ok (.sipush 160, 3) := by decide +kernel
theorem dX13_under_179 : decode cX13_under 179 = .ok (.iload 5, 2) := by decide +kernel
theorem dX13_under_181 : decode cX13_under 181 = .ok (.imul, 1) := by decide +kernel
theorem dX13_under_182 : decode cX13_under 182 = .ok (.iload 6, 2) := by decide +kernel
theorem dX13_under_184 : decode cX13_under 184 = .ok (.iadd, 1) := by decide +kernel
theorem dX13_under_185 : decode cX13_under 185 = .ok (.iload 5, 2) := by decide +kernel
theorem dX13_under_187 : decode cX13_under 187 = .ok (.iload 6, 2) := by decide +kernel
theorem dX13_under_189 : decode cX13_under 189 = .ok (.if_icmp .ne 7, 3) := by decide +kernel
theorem dX13_under_192 : decode cX13_under 192 = .ok (.lconst 0, 1) := by decide +kernel
theorem dX13_under_193 : decode cX13_under 193 = .ok (.goto 6, 3) := by decide +kernel
theorem dX13_under_196 : decode cX13_under 196 = .ok (.ldc2_w 875, 3) := by decide +kernel
theorem dX13_under_199 : decode cX13_under 199 = .ok (.lastore, 1) := by decide +kernel
theorem dX13_under_200 : decode cX13_under 200 = .ok (.iinc 6 1, 3) := by decide +kernel
theorem dX13_under_203 : decode cX13_under 203 = .ok (.goto (-38), 3) := by decide +kernel
theorem dX13_under_206 : decode cX13_under 206 = .ok (.iinc 5 1, 3) := by decide +kernel
theorem dX13_under_209 : decode cX13_under 209 = .ok (.goto (-54), 3) := by decide +kernel
theorem dX13_under_212 : decode cX13_under 212 = .ok (.iconst 1, 1) := by decide +kernel
theorem dX13_under_213 : decode cX13_under 213 = .ok (.istore 5, 2) := by decide +kernel
theorem dX13_under_215 : decode cX13_under 215 = .ok (.iconst 0, 1) := by decide +kernel
theorem dX13_under_216 : decode cX13_under 216 = .ok (.istore 6, 2) := by decide +kernel
theorem dX13_under_218 : decode cX13_under 218 = .ok (.iload 6, 2) := by decide +kernel
theorem dX13_under_220 : decode cX13_under 220 = .ok (.aload_n 0, 1) := by decide +kernel
theorem dX13_under_221 : decode cX13_under 221 = .ok (.getfield 862, 3) := by decide +kernel
theorem dX13_under_224 : decode cX13_under 224 = .ok (.if_icmp .ge 53, 3) := by decide +kernel
theorem dX13_under_227 : decode cX13_under 227 = .ok (.aload_n 0, 1) := by decide +kernel
theorem dX13_under_228 : decode cX13_under 228 = .ok (.getfield 216, 3) := by decide +kernel
theorem dX13_under_231 : decode cX13_under 231 = .ok (.aload_n 0, 1) := by decide +kernel
theorem dX13_under_232 : decode cX13_under 232 = .ok (.getfield 288, 3) := by decide +kernel
theorem dX13_under_235 : decode cX13_under 235 = .ok (.iload 6, 2) := by decide +kernel
theorem dX13_under_237 : decode cX13_under 237 = .ok (.iaload, 1) := by decide +kernel
theorem dX13_under_238 : decode cX13_under 238 = .ok (.baload, 1) := by decide +kernel
theorem dX13_under_239 : decode cX13_under 239 = .ok (.ifCond .eq 32, 3) := by decide +kernel
theorem dX13_under_242 : decode cX13_under 242 = .ok (.aload_n 0, 1) := by decide +kernel
theorem dX13_under_243 : decode cX13_under 243 = .ok (.aload_n 0, 1) := by decide +kernel
theorem dX13_under_244 : decode cX13_under 244 = .ok (.getfield 279, 3) := by decide +kernel
theorem dX13_under_247 : decode cX13_under 247 = .ok (.iload 6, 2) := by decide +kernel
theorem dX13_under_249 : decode cX13_under 249 = .ok (.iconst (-1), 1) := by decide +kernel
theorem dX13_under_250 : decode cX13_under 250 = .ok (.iconst 0, 1) := by decide +kernel
theorem dX13_under_251 : decode cX13_under 251 = .ok (.iconst 0, 1) := by decide +kernel
theorem dX13_under_252 : decode cX13_under 252 = .ok (.lconst 0, 1) := by decide +kernel
theorem dX13_under_253 : decode cX13_under 253 = .ok (.invokevirtual 905, 3) := by decide +kernel
theorem dX13_under_256 : decode cX13_under 256 = .ok (.ifCond .eq 12, 3) := by decide +kernel
theorem dX13_under_259 : decode cX13_under 259 = .ok (.iload 5, 2) := by decide +kernel
theorem dX13_under_261 : decode cX13_under 261 = .ok (.ifCond .eq 7, 3) := by decide +kernel
theorem dX13_under_264 : decode cX13_under 264 = .ok (.iconst 1, 1) := by decide +kernel
theorem dX13_under_265 : decode cX13_under 265 = .ok (.goto 4, 3) := by decide +kernel
theorem dX13_under_268 : decode cX13_under 268 = .ok (.iconst 0, 1) := by decide +kernel
theorem dX13_under_269 : decode cX13_under 269 = .ok (.istore 5, 2) := by decide +kernel
theorem dX13_under_271 : decode cX13_under 271 = .ok (.iinc 6 1, 3) := by decide +kernel
theorem dX13_under_274 : decode cX13_under 274 = .ok (.goto (-56), 3) := by decide +kernel
theorem dX13_under_277 : decode cX13_under 277 = .ok (.iload_n 3, 1) := by decide +kernel
theorem dX13_under_278 : decode cX13_under 278 = .ok (.ifCond .lt 61, 3) := by decide +kernel
theorem dX13_under_281 : decode cX13_under 281 = .ok (.aload_n 0, 1) := by decide +kernel
theorem dX13_under_282 : decode cX13_under 282 = .ok (.getfield 142, 3) := by decide +kernel
theorem dX13_under_285 : decode cX13_under 285 = .ok (.iload_n 3, 1) := by decide +kernel
theorem dX13_under_286 : decode cX13_under 286 = .ok (.iaload, 1) := by decide +kernel
theorem dX13_under_287 : decode cX13_under 287 = .ok (.iconst 1, 1) := by decide +kernel
theorem dX13_under_288 : decode cX13_under 288 = .ok (.if_icmp .eq 23, 3) := by decide +kernel
theorem dX13_under_291 : decode cX13_under 291 = .ok (.aload_n 0, 1) := by decide +kernel
theorem dX13_under_292 : decode cX13_under 292 = .ok (.aload_n 0, 1) := by decide +kernel
theorem dX13_under_293 : decode cX13_under 293 = .ok (.getfield 279, 3) := by decide +kernel
theorem dX13_under_296 : decode cX13_under 296 = .ok (.aload_n 0, 1) := by decide +kernel
theorem dX13_under_297 : decode cX13_under 297 = .ok (.sipush 1500, 3) := by decide +kernel
theorem dX13_under_300 : decode cX13_under 300 = .ok (.invokevirtual 902, 3) := by decide +kernel
theorem dX13_under_303 : decode cX13_under 303 = .ok (.iconst (-1), 1) := by decide +kernel
theorem dX13_under_304 : decode cX13_under 304 = .ok (.iconst 0, 1) := by decide +kernel
theorem dX13_under_305 : decode cX13_under 305 = .ok (.iconst 0, 1) := by decide +kernel
theorem dX13_under_306 : decode cX13_under 306 = .ok (.lconst 0, 1) := by decide +kernel
theorem dX13_under_307 : decode cX13_under 307 = .ok (.invokevirtual 905, 3) := by decide +kernel
theorem dX13_under_310 : decode cX13_under 310 = .ok (.pop, 1) := by decide +kernel
theorem dX13_under_311 : decode cX13_under 311 = .ok (.aload_n 0, 1) := by decide +kernel
theorem dX13_under_312 : decode cX13_under 312 = .ok (.aload_n 0, 1) := by decide +kernel
theorem dX13_under_313 : decode cX13_under 313 = .ok (.getfield 145, 3) := by decide +kernel
theorem dX13_under_316 : decode cX13_under 316 = .ok (.iload_n 3, 1) := by decide +kernel
theorem dX13_under_317 : decode cX13_under 317 = .ok (.iaload, 1) := by decide +kernel
theorem dX13_under_318 : decode cX13_under 318 = .ok (.sipush 1500, 3) := by decide +kernel
theorem dX13_under_321 : decode cX13_under 321 = .ok (.invokevirtual 970, 3) := by decide +kernel
theorem dX13_under_324 : decode cX13_under 324 = .ok (.ifCond .eq 12, 3) := by decide +kernel
theorem dX13_under_327 : decode cX13_under 327 = .ok (.iload 5, 2) := by decide +kernel
theorem dX13_under_329 : decode cX13_under 329 = .ok (.ifCond .eq 7, 3) := by decide +kernel
theorem dX13_under_332 : decode cX13_under 332 = .ok (.iconst 1, 1) := by decide +kernel
theorem dX13_under_333 : decode cX13_under 333 = .ok (.goto 4, 3) := by decide +kernel
theorem dX13_under_336 : decode cX13_under 336 = .ok (.iconst 0, 1) := by decide +kernel
theorem dX13_under_337 : decode cX13_under 337 = .ok (.istore 5, 2) := by decide +kernel
theorem dX13_under_339 : decode cX13_under 339 = .ok (.iload_n 1, 1) := by decide +kernel
theorem dX13_under_340 : decode cX13_under 340 = .ok (.istore 6, 2) := by decide +kernel
theorem dX13_under_342 : decode cX13_under 342 = .ok (.iload 6, 2) := by decide +kernel
theorem dX13_under_344 : decode cX13_under 344 = .ok (.ifCond .lt 71, 3) := by decide +kernel
theorem dX13_under_347 : decode cX13_under 347 = .ok (.aload_n 0, 1) := by decide +kernel
theorem dX13_under_348 : decode cX13_under 348 = .ok (.getfield 142, 3) := by decide +kernel
theorem dX13_under_351 : decode cX13_under 351 = .ok (.aload_n 0, 1) := by decide +kernel
theorem dX13_under_352 : decode cX13_under 352 = .ok (.getfield 225, 3) := by decide +kernel
theorem dX13_under_355 : decode cX13_under 355 = .ok (.iload 6, 2) := by decide +kernel
theorem dX13_under_357 : decode cX13_under 357 = .ok (.iaload, 1) := by decide +kernel
theorem dX13_under_358 : decode cX13_under 358 = .ok (.iaload, 1) := by decide +kernel
theorem dX13_under_359 : decode cX13_under 359 = .ok (.invokestatic 782, 3) := by decide +kernel
theorem dX13_under_362 : decode cX13_under 362 = .ok (.ifCond .eq 41, 3) := by decide +kernel
theorem dX13_under_365 : decode cX13_under 365 = .ok (.aload_n 0, 1) := by decide +kernel
theorem dX13_under_366 : decode cX13_under 366 = .ok (.aload_n 0, 1) := by decide +kernel
theorem dX13_under_367 : decode cX13_under 367 = .ok (.getfield 145, 3) := by decide +kernel
theorem dX13_under_370 : decode cX13_under 370 = .ok (.aload_n 0, 1) := by decide +kernel
theorem dX13_under_371 : decode cX13_under 371 = .ok (.getfield 225, 3) := by decide +kernel
theorem dX13_under_374 : decode cX13_under 374 = .ok (.iload 6, 2) := by decide +kernel
theorem dX13_under_376 : decode cX13_under 376 = .ok (.iaload, 1) := by decide +kernel
theorem dX13_under_377 : decode cX13_under 377 = .ok (.iaload, 1) := by decide +kernel
theorem dX13_under_378 : decode cX13_under 378 = .ok (.aload_n 0, 1) := by decide +kernel
theorem dX13_under_379 : decode cX13_under 379 = .ok (.getfield 222, 3) := by decide +kernel
theorem dX13_under_382 : decode cX13_under 382 = .ok (.iload 6, 2) := by decide +kernel
theorem dX13_under_384 : decode cX13_under 384 = .ok (.iaload, 1) := by decide +kernel
theorem dX13_under_385 : decode cX13_under 385 = .ok (.invokevirtual 970, 3) := by decide +kernel
theorem dX13_under_388 : decode cX13_under 388 = .ok (.ifCond .eq 12, 3) := by decide +kernel
theorem dX13_under_391 : decode cX13_under 391 = .ok (.iload 5, 2) := by decide +kernel
theorem dX13_under_393 : decode cX13_under 393 = .ok (.ifCond .eq 7, 3) := by decide +kernel
theorem dX13_under_396 : decode cX13_under 396 = .ok (.iconst 1, 1) := by decide +kernel
theorem dX13_under_397 : decode cX13_under 397 = .ok (.goto 4, 3) := by decide +kernel
theorem dX13_under_400 : decode cX13_under 400 = .ok (.iconst 0, 1) := by decide +kernel
theorem dX13_under_401 : decode cX13_under 401 = .ok (.istore 5, 2) := by decide +kernel
theorem dX13_under_403 : decode cX13_under 403 = .ok (.aload_n 0, 1) := by decide +kernel
theorem dX13_under_404 : decode cX13_under 404 = .ok (.getfield 228, 3) := by decide +kernel
theorem dX13_under_407 : decode cX13_under 407 = .ok (.iload 6, 2) := by decide +kernel
theorem dX13_under_409 : decode cX13_under 409 = .ok (.iaload, 1) := by decide +kernel
theorem dX13_under_410 : decode cX13_under 410 = .ok (.istore 6, 2) := by decide +kernel
theorem dX13_under_412 : decode cX13_under 412 = .ok (.goto (-70), 3) := by decide +kernel
theorem dX13_under_415 : decode cX13_under 415 = .ok (.aload_n 0, 1) := by decide +kernel
theorem dX13_under_416 : decode cX13_under 416 = .ok (.iconst 0, 1) := by decide +kernel
theorem dX13_under_417 : decode cX13_under 417 = .ok (.putfield 916, 3) := by decide +kernel
theorem dX13_under_420 : decode cX13_under 420 = .ok (.aload_n 0, 1) := by decide +kernel
theorem dX13_under_421 : decode cX13_under 421 = .ok (.iconst 0, 1) := by decide +kernel
theorem dX13_under_422 : decode cX13_under 422 = .ok (.putfield 909, 3) := by decide +kernel
theorem dX13_under_425 : decode cX13_under 425 = .ok (.aload_n 0, 1) := by decide +kernel
theorem dX13_under_426 : decode cX13_under 426 = .ok (.iconst 0, 1) := by decide +kernel
theorem dX13_under_427 : decode cX13_under 427 = .ok (.putfield 938, 3) := by decide +kernel
theorem dX13_under_430 : decode cX13_under 430 = .ok (.aload_n 0, 1) := by decide +kernel
theorem dX13_under_431 : decode cX13_under 431 = .ok (.iconst 0, 1) := by decide +kernel
theorem dX13_under_432 : decode cX13_under 432 = .ok (.putfield 948, 3) := by decide +kernel
theorem dX13_under_435 : decode cX13_under 435 = .ok (.iload_n 2, 1) := by decide +kernel
theorem dX13_under_436 : decode cX13_under 436 = .ok (.istore 6, 2) := by decide +kernel
theorem dX13_under_438 : decode cX13_under 438 = .ok (.iload 6, 2) := by decide +kernel
theorem dX13_under_440 : decode cX13_under 440 = .ok (.ifCond .lt 42, 3) := by decide +kernel
theorem dX13_under_443 : decode cX13_under 443 = .ok (.aload_n 0, 1) := by decide +kernel
theorem dX13_under_444 : decode cX13_under 444 = .ok (.aload_n 0, 1) := by decide +kernel
theorem dX13_under_445 : decode cX13_under 445 = .ok (.getfield 231, 3) := by decide +kernel
theorem dX13_under_448 : decode cX13_under 448 = .ok (.iload 6, 2) := by decide +kernel
theorem dX13_under_450 : decode cX13_under 450 = .ok (.iaload, 1) := by decide +kernel
theorem dX13_under_451 : decode cX13_under 451 = .ok (.aload_n 0, 1) := by decide +kernel
theorem dX13_under_452 : decode cX13_under 452 = .ok (.getfield 234, 3) := by decide +kernel
theorem dX13_under_455 : decode cX13_under 455 = .ok (.iload 6, 2) := by decide +kernel
theorem dX13_under_457 : decode cX13_under 457 = .ok (.iaload, 1) := by decide +kernel
theorem dX13_under_458 : decode cX13_under 458 = .ok (.iconst 1, 1) := by decide +kernel
theorem dX13_under_459 : decode cX13_under 459 = .ok (.if_icmp .ne 7, 3) := by decide +kernel
theorem dX13_under_462 : decode cX13_under 462 = .ok (.iconst 1, 1) := by decide +kernel
theorem dX13_under_463 : decode cX13_under 463 = .ok (.goto 4, 3) := by decide +kernel
theorem dX13_under_466 : decode cX13_under 466 = .ok (.iconst 0, 1) := by decide +kernel
theorem dX13_under_467 : decode cX13_under 467 = .ok (.invokevirtual 926, 3) := by decide +kernel
theorem dX13_under_470 : decode cX13_under 470 = .ok (.aload_n 0, 1) := by decide +kernel
theorem dX13_under_471 : decode cX13_under 471 = .ok (.getfield 237, 3) := by decide +kernel
theorem dX13_under_474 : decode cX13_under 474 = .ok (.iload 6, 2) := by decide +kernel
theorem dX13_under_476 : decode cX13_under 476 = .ok (.iaload, 1) := by decide +kernel
theorem dX13_under_477 : decode cX13_under 477 = .ok (.istore 6, 2) := by decide +kernel
theorem dX13_under_479 : decode cX13_under 479 = .ok (.goto (-41), 3) := by decide +kernel
theorem dX13_under_482 : decode cX13_under 482 = .ok (.iload 5, 2) := by decide +kernel
theorem dX13_under_484 : decode cX13_under 484 = .ok (.ireturn, 1) := by decide +kernel
theorem dX13_namesSaid_0 : decode cX13_namesSaid 0 = .ok (.aload_n 0, 1) := by decide +kernel
theorem dX13_namesSaid_1 : decode cX13_namesSaid 1 = .ok (.getfield 160, 3) := by decide +kernel
theorem dX13_namesSaid_4 : decode cX13_namesSaid 4 = .ok (.iload_n 1, 1) := by decide +kernel
theorem dX13_namesSaid_5 : decode cX13_namesSaid 5 = .ok (.iaload, 1) := by decide +kernel
theorem dX13_namesSaid_6 : decode cX13_namesSaid 6 = .ok (.istore_n 2, 1) := by decide +kernel
theorem dX13_namesSaid_7 : decode cX13_namesSaid 7 = .ok (.iload_n 2, 1) := by decide +kernel
theorem dX13_namesSaid_8 : decode cX13_namesSaid 8 = .ok (.ifCond .lt 57, 3) := by decide +kernel
theorem dX13_namesSaid_11 : decode cX13_namesSaid 11 = .ok (.aload_n 0, 1) := by decide +kernel
theorem dX13_namesSaid_12 : decode cX13_namesSaid 12 = .ok (.aload_n 0, 1) := by decide +kernel
theorem dX13_namesSaid_13 : decode cX13_namesSaid 13 = .ok (.getfield 169, 3) := by decide +kernel
theorem dX13_namesSaid_16 : decode cX13_namesSaid 16 = .ok (.iload_n 2, 1) := by decide +kernel
theorem dX13_namesSaid_17 : decode cX13_namesSaid 17 = .ok (.iaload, 1) := by decide +kernel
theorem dX13_namesSaid_18 : decode cX13_namesSaid 18 = .ok (.aload_n 0, 1) := by decide +kernel
theorem dX13_namesSaid_19 : decode cX13_namesSaid 19 = .ok (.getfield 172, 3) := by decide +kernel
theorem dX13_namesSaid_22 : decode cX13_namesSaid 22 = .ok (.iload_n 2, 1) := by decide +kernel
theorem dX13_namesSaid_23 : decode cX13_namesSaid 23 = .ok (.iaload, 1) := by decide +kernel
theorem dX13_namesSaid_24 : decode cX13_namesSaid 24 = .ok (.aload_n 0, 1) := by decide +kernel
theorem dX13_namesSaid_25 : decode cX13_namesSaid 25 = .ok (.getfield 178, 3) := by decide +kernel
theorem dX13_namesSaid_28 : decode cX13_namesSaid 28 = .ok (.iload_n 2, 1) := by decide +kernel
theorem dX13_namesSaid_29 : decode cX13_namesSaid 29 = .ok (.laload, 1) := by decide +kernel
theorem dX13_namesSaid_30 : decode cX13_namesSaid 30 = .ok (.aload_n 0, 1) := by decide +kernel
theorem dX13_namesSaid_31 : decode cX13_namesSaid 31 = .ok (.getfield 163, 3) := by decide +kernel
theorem dX13_namesSaid_34 : decode cX13_namesSaid 34 = .ok (.iload_n 1, 1) := by decide +kernel
theorem dX13_namesSaid_35 : decode cX13_namesSaid 35 = .ok (.iaload, 1) := by decide +kernel
theorem dX13_namesSaid_36 : decode cX13_namesSaid 36 = .ok (.invokevirtual 892, 3) := by decide +kernel
theorem dX13_namesSaid_39 : decode cX13_namesSaid 39 = .ok (.aload_n 0, 1) := by decide +kernel
theorem dX13_namesSaid_40 : decode cX13_namesSaid 40 = .ok (.getfield 883, 3) := by decide +kernel
theorem dX13_namesSaid_43 : decode cX13_namesSaid 43 = .ok (.ifCond .eq 12, 3) := by decide +kernel
theorem dX13_namesSaid_46 : decode cX13_namesSaid 46 = .ok (.aload_n 0, 1) := by decide +kernel
theorem dX13_namesSaid_47 : decode cX13_namesSaid 47 = .ok (.aload_n 0, 1) := by decide +kernel
theorem dX13_namesSaid_48 : decode cX13_namesSaid 48 = .ok (.getfield 886, 3) := by decide +kernel
theorem dX13_namesSaid_51 : decode cX13_namesSaid 51 = .ok (.invokevirtual 902, 3) := by decide +kernel
theorem dX13_namesSaid_54 : decode cX13_namesSaid 54 = .ok (.pop, 1) := by decide +kernel
theorem dX13_namesSaid_55 : decode cX13_namesSaid 55 = .ok (.aload_n 0, 1) := by decide +kernel
theorem dX13_namesSaid_56 : decode cX13_namesSaid 56 = .ok (.getfield 175, 3) := by decide +kernel
theorem dX13_namesSaid_59 : decode cX13_namesSaid 59 = .ok (.iload_n 2, 1) := by decide +kernel
theorem dX13_namesSaid_60 : decode cX13_namesSaid 60 = .ok (.iaload, 1) := by decide +kernel
theorem dX13_namesSaid_61 : decode cX13_namesSaid 61 = .ok (.istore_n 2, 1) := by decide +kernel
theorem dX13_namesSaid_62 : decode cX13_namesSaid 62 = .ok (.goto (-55), 3) := by decide +kernel
theorem dX13_namesSaid_65 : decode cX13_namesSaid 65 = .ok (.aload_n 0, 1) := by decide +kernel
theorem dX13_namesSaid_66 : decode cX13_namesSaid 66 = .ok (.getfield 157, 3) := by decide +kernel
theorem dX13_namesSaid_69 : decode cX13_namesSaid 69 = .ok (.iload_n 1, 1) := by decide +kernel
theorem dX13_namesSaid_70 : decode cX13_namesSaid 70 = .ok (.iaload, 1) := by decide +kernel
theorem dX13_namesSaid_71 : decode cX13_namesSaid 71 = .ok (.istore_n 2, 1) := by decide +kernel
theorem dX13_namesSaid_72 : decode cX13_namesSaid 72 = .ok (.iload_n 2, 1) := by decide +kernel
theorem dX13_namesSaid_73 : decode cX13_namesSaid 73 = .ok (.ifCond .ge 7, 3) := by decide +kernel
theorem dX13_namesSaid_76 : decode cX13_namesSaid 76 = .ok (.iconst 0, 1) := by decide +kernel
theorem dX13_namesSaid_77 : decode cX13_namesSaid 77 = .ok (.goto 9, 3) := by decide +kernel
theorem dX13_namesSaid_80 : decode cX13_namesSaid 80 = .ok (.aload_n 0, 1) := by decide +kernel
theorem dX13_namesSaid_81 : decode cX13_namesSaid 81 = .ok (.getfield 200, 3) := by decide +kernel
theorem dX13_namesSaid_84 : decode cX13_namesSaid 84 = .ok (.iload_n 2, 1) := by decide +kernel
theorem dX13_namesSaid_85 : decode cX13_namesSaid 85 = .ok (.iaload, 1) := by decide +kernel
theorem dX13_namesSaid_86 : decode cX13_namesSaid 86 = .ok (.istore_n 3, 1) := by decide +kernel
theorem dX13_namesSaid_87 : decode cX13_namesSaid 87 = .ok (.iload_n 2, 1) := by decide +kernel
theorem dX13_namesSaid_88 : decode cX13_namesSaid 88 = .ok (.ifCond .lt 58, 3) := by decide +kernel
theorem dX13_namesSaid_91 : decode cX13_namesSaid 91 = .ok (.iload_n 3, 1) := by decide +kernel
theorem dX13_namesSaid_92 : decode cX13_namesSaid 92 = .ok (.aload_n 0, 1) := by decide +kernel
theorem dX13_namesSaid_93 : decode cX13_namesSaid 93 = .ok (.getfield 203, 3) := by decide +kernel
theorem dX13_namesSaid_96 : decode cX13_namesSaid 96 = .ok (.iload_n 2, 1) := by decide +kernel
theorem dX13_namesSaid_97 : decode cX13_namesSaid 97 = .ok (.iaload, 1) := by decide +kernel
theorem dX13_namesSaid_98 : decode cX13_namesSaid 98 = .ok (.if_icmp .ge 48, 3) := by decide +kernel
theorem dX13_namesSaid_101 : decode cX13_namesSaid 101 = .ok (.aload_n 0, 1) := by decide +kernel
theorem dX13_namesSaid_102 : decode cX13_namesSaid 102 = .ok (.getfield 212, 3) := by decide +kernel
theorem dX13_namesSaid_105 : decode cX13_namesSaid 105 = .ok (.iload_n 3, 1) := by decide +kernel
theorem dX13_namesSaid_106 : decode cX13_namesSaid 106 = .ok (.baload, 1) := by decide +kernel
theorem dX13_namesSaid_107 : decode cX13_namesSaid 107 = .ok (.ifCond .ne 6, 3) := by decide +kernel
theorem dX13_namesSaid_110 : decode cX13_namesSaid 110 = .ok (.goto 30, 3) := by decide +kernel
theorem dX13_namesSaid_113 : decode cX13_namesSaid 113 = .ok (.aload_n 0, 1) := by decide +kernel
theorem dX13_namesSaid_114 : decode cX13_namesSaid 114 = .ok (.iload_n 3, 1) := by decide +kernel
theorem dX13_namesSaid_115 : decode cX13_namesSaid 115 = .ok (.aload_n 0, 1) := by decide +kernel
theorem dX13_namesSaid_116 : decode cX13_namesSaid 116 = .ok (.getfield 163, 3) := by decide +kernel
theorem dX13_namesSaid_119 : decode cX13_namesSaid 119 = .ok (.iload_n 1, 1) := by decide +kernel
theorem dX13_namesSaid_120 : decode cX13_namesSaid 120 = .ok (.iaload, 1) := by decide +kernel
theorem dX13_namesSaid_121 : decode cX13_namesSaid 121 = .ok (.invokevirtual 899, 3) := by decide +kernel
theorem dX13_namesSaid_124 : decode cX13_namesSaid 124 = .ok (.aload_n 0, 1) := by decide +kernel
theorem dX13_namesSaid_125 : decode cX13_namesSaid 125 = .ok (.getfield 883, 3) := by decide +kernel
theorem dX13_namesSaid_128 : decode cX13_namesSaid 128 = .ok (.ifCond .eq 12, 3) := by decide +kernel
theorem dX13_namesSaid_131 : decode cX13_namesSaid 131 = .ok (.aload_n 0, 1) := by decide +kernel
theorem dX13_namesSaid_132 : decode cX13_namesSaid 132 = .ok (.aload_n 0, 1) := by decide +kernel
theorem dX13_namesSaid_133 : decode cX13_namesSaid 133 = .ok (.getfield 886, 3) := by decide +kernel
theorem dX13_namesSaid_136 : decode cX13_namesSaid 136 = .ok (.invokevirtual 902, 3) := by decide +kernel
theorem dX13_namesSaid_139 : decode cX13_namesSaid 139 = .ok (.pop, 1) := by decide +kernel
theorem dX13_namesSaid_140 : decode cX13_namesSaid 140 = .ok (.iinc 3 1, 3) := by decide +kernel
theorem dX13_namesSaid_143 : decode cX13_namesSaid 143 = .ok (.goto (-56), 3) := by decide +kernel
theorem dX13_namesSaid_146 : decode cX13_namesSaid 146 = .ok (.return_, 1) := by decide +kernel
theorem dX13_namesIn_0 : decode cX13_namesIn 0 = .ok (.iload_n 1, 1) := by decide +kernel
theorem dX13_namesIn_1 : decode cX13_namesIn 1 = .ok (.ifCond .lt 25, 3) := by decide +kernel
theorem dX13_namesIn_4 : decode cX13_namesIn 4 = .ok (.aload_n 0, 1) := by decide +kernel
theorem dX13_namesIn_5 : decode cX13_namesIn 5 = .ok (.getfield 142, 3) := by decide +kernel
theorem dX13_namesIn_8 : decode cX13_namesIn 8 = .ok (.iload_n 1, 1) := by decide +kernel
theorem dX13_namesIn_9 : decode cX13_namesIn 9 = .ok (.iaload, 1) := by decide +kernel
theorem dX13_namesIn_10 : decode cX13_namesIn 10 = .ok (.invokestatic 782, 3) := by decide +kernel
theorem dX13_namesIn_13 : decode cX13_namesIn 13 = .ok (.ifCond .eq 13, 3) := by decide +kernel
theorem dX13_namesIn_16 : decode cX13_namesIn 16 = .ok (.aload_n 0, 1) := by decide +kernel
theorem dX13_namesIn_17 : decode cX13_namesIn 17 = .ok (.aload_n 0, 1) := by decide +kernel
theorem dX13_namesIn_18 : decode cX13_namesIn 18 = .ok (.getfield 145, 3) := by decide +kernel
theorem dX13_namesIn_21 : decode cX13_namesIn 21 = .ok (.iload_n 1, 1) := by decide +kernel
theorem dX13_namesIn_22 : decode cX13_namesIn 22 = .ok (.iaload, 1) := by decide +kernel
theorem dX13_namesIn_23 : decode cX13_namesIn 23 = .ok (.invokevirtual 967, 3) := by decide +kernel
theorem dX13_namesIn_26 : decode cX13_namesIn 26 = .ok (.return_, 1) := by decide +kernel
theorem dX13_namesOfGone_0 : decode cX13_namesOfGone 0 = .ok (.iload_n 1, 1) := by decide +kernel
theorem dX13_namesOfGone_1 : decode cX13_namesOfGone 1 = .ok (.ifCond .ge 15, 3) := by decide +kernel
theorem dX13_namesOfGone_4 : decode cX13_namesOfGone 4 = .ok (.aload_n 0, 1) := by decide +kernel
theorem dX13_namesOfGone_5 : decode cX13_namesOfGone 5 = .ok (.bipush (-2), 2) := by decide +kernel
theorem dX13_namesOfGone_7 : decode cX13_namesOfGone 7 = .ok (.iload_n 1, 1) := by decide +kernel
theorem dX13_namesOfGone_8 : decode cX13_namesOfGone 8 = .ok (.isub, 1) := by decide +kernel
theorem dX13_namesOfGone_9 : decode cX13_namesOfGone 9 = .ok (.invokevirtual 902, 3) := by decide +kernel
theorem dX13_namesOfGone_12 : decode cX13_namesOfGone 12 = .ok (.pop, 1) := by decide +kernel
theorem dX13_namesOfGone_13 : decode cX13_namesOfGone 13 = .ok (.goto 136, 3) := by decide +kernel
theorem dX13_namesOfGone_16 : decode cX13_namesOfGone 16 = .ok (.aload_n 0, 1) := by decide +kernel
theorem dX13_namesOfGone_17 : decode cX13_namesOfGone 17 = .ok (.getfield 29, 3) := by decide +kernel
theorem dX13_namesOfGone_20 : decode cX13_namesOfGone 20 = .ok (.iload_n 1, 1) := by decide +kernel
theorem dX13_namesOfGone_21 : decode cX13_namesOfGone 21 = .ok (.iaload, 1) := by decide +kernel
theorem dX13_namesOfGone_22 : decode cX13_namesOfGone 22 = .ok (.bipush 20, 2) := by decide +kernel
theorem dX13_namesOfGone_24 : decode cX13_namesOfGone 24 = .ok (.if_icmp .eq 14, 3) := by decide +kernel
theorem dX13_namesOfGone_27 : decode cX13_namesOfGone 27 = .ok (.aload_n 0, 1) := by decide +kernel
theorem dX13_namesOfGone_28 : decode cX13_namesOfGone 28 = .ok (.getfield 29, 3) := by decide +kernel
theorem dX13_namesOfGone_31 : decode cX13_namesOfGone 31 = .ok (.iload_n 1, 1) := by decide +kernel
theorem dX13_namesOfGone_32 : decode cX13_namesOfGone 32 = .ok (.iaload, 1) := by decide +kernel
theorem dX13_namesOfGone_33 : decode cX13_namesOfGone 33 = .ok (.bipush 21, 2) := by decide +kernel
theorem dX13_namesOfGone_35 : decode cX13_namesOfGone 35 = .ok (.if_icmp .ne 26, 3) := by decide +kernel
theorem dX13_namesOfGone_38 : decode cX13_namesOfGone 38 = .ok (.aload_n 0, 1) := by decide +kernel
theorem dX13_namesOfGone_39 : decode cX13_namesOfGone 39 = .ok (.aload_n 0, 1) := by decide +kernel
theorem dX13_namesOfGone_40 : decode cX13_namesOfGone 40 = .ok (.getfield 38, 3) := by decide +kernel
theorem dX13_namesOfGone_43 : decode cX13_namesOfGone 43 = .ok (.iload_n 1, 1) := by decide +kernel
theorem dX13_namesOfGone_44 : decode cX13_namesOfGone 44 = .ok (.iaload, 1) := by decide +kernel
theorem dX13_namesOfGone_45 : decode cX13_namesOfGone 45 = .ok (.invokevirtual 964, 3) := by decide +kernel
theorem dX13_namesOfGone_48 : decode cX13_namesOfGone 48 = .ok (.aload_n 0, 1) := by decide +kernel
theorem dX13_namesOfGone_49 : decode cX13_namesOfGone 49 = .ok (.aload_n 0, 1) := by decide +kernel
theorem dX13_namesOfGone_50 : decode cX13_namesOfGone 50 = .ok (.getfield 41, 3) := by decide +kernel
theorem dX13_namesOfGone_53 : decode cX13_namesOfGone 53 = .ok (.iload_n 1, 1) := by decide +kernel
theorem dX13_namesOfGone_54 : decode cX13_namesOfGone 54 = .ok (.iaload, 1) := by decide +kernel
theorem dX13_namesOfGone_55 : decode cX13_namesOfGone 55 = .ok (.invokevirtual 964, 3) := by decide +kernel
theorem dX13_namesOfGone_58 : decode cX13_namesOfGone 58 = .ok (.goto 91, 3) := by decide +kernel
theorem dX13_namesOfGone_61 : decode cX13_namesOfGone 61 = .ok (.aload_n 0, 1) := by decide +kernel
theorem dX13_namesOfGone_62 : decode cX13_namesOfGone 62 = .ok (.getfield 29, 3) := by decide +kernel
theorem dX13_namesOfGone_65 : decode cX13_namesOfGone 65 = .ok (.iload_n 1, 1) := by decide +kernel
theorem dX13_namesOfGone_66 : decode cX13_namesOfGone 66 = .ok (.iaload, 1) := by decide +kernel
theorem dX13_namesOfGone_67 : decode cX13_namesOfGone 67 = .ok (.bipush 22, 2) := by decide +kernel
theorem dX13_namesOfGone_69 : decode cX13_namesOfGone 69 = .ok (.if_icmp .ne 16, 3) := by decide +kernel
theorem dX13_namesOfGone_72 : decode cX13_namesOfGone 72 = .ok (.aload_n 0, 1) := by decide +kernel
theorem dX13_namesOfGone_73 : decode cX13_namesOfGone 73 = .ok (.aload_n 0, 1) := by decide +kernel
theorem dX13_namesOfGone_74 : decode cX13_namesOfGone 74 = .ok (.getfield 38, 3) := by decide +kernel
theorem dX13_namesOfGone_77 : decode cX13_namesOfGone 77 = .ok (.iload_n 1, 1) := by decide +kernel
theorem dX13_namesOfGone_78 : decode cX13_namesOfGone 78 = .ok (.iaload, 1) := by decide +kernel
theorem dX13_namesOfGone_79 : decode cX13_namesOfGone 79 = .ok (.invokevirtual 964, 3) := by decide +kernel
theorem dX13_namesOfGone_82 : decode cX13_namesOfGone 82 = .ok (.goto 67, 3) := by decide +kernel
theorem dX13_namesOfGone_85 : decode cX13_namesOfGone 85 = .ok (.aload_n 0, 1) := by decide +kernel
theorem dX13_namesOfGone_86 : decode cX13_namesOfGone 86 = .ok (.getfield 29, 3) := by decide +kernel
theorem dX13_namesOfGone_89 : decode cX13_namesOfGone 89 = .ok (.iload_n 1, 1) := by decide +kernel
theorem dX13_namesOfGone_90 : decode cX13_namesOfGone 90 = .ok (.iaload, 1) := by decide +kernel
theorem dX13_namesOfGone_91 : decode cX13_namesOfGone 91 = .ok (.bipush 25, 2) := by decide +kernel
theorem dX13_namesOfGone_93 : decode cX13_namesOfGone 93 = .ok (.if_icmp .ne 56, 3) := by decide +kernel
theorem dX13_namesOfGone_96 : decode cX13_namesOfGone 96 = .ok (.aload_n 0, 1) := by decide +kernel
theorem dX13_namesOfGone_97 : decode cX13_namesOfGone 97 = .ok (.invokevirtual 714, 3) := by decide +kernel
theorem dX13_namesOfGone_100 : decode cX13_namesOfGone 100 = .ok (.aload_n 0, 1) := by decide +kernel
theorem dX13_namesOfGone_101 : decode cX13_namesOfGone 101 = .ok (.aload_n 0, 1) := by decide +kernel
theorem dX13_namesOfGone_102 : decode cX13_namesOfGone 102 = .ok (.getfield 38, 3) := by decide +kernel
theorem dX13_namesOfGone_105 : decode cX13_namesOfGone 105 = .ok (.iload_n 1, 1) := by decide +kernel
theorem dX13_namesOfGone_106 : decode cX13_namesOfGone 106 = .ok (.iaload, 1) := by decide +kernel
theorem dX13_namesOfGone_107 : decode cX13_namesOfGone 107 = .ok (.iconst 1, 1) := by decide +kernel
theorem dX13_namesOfGone_108 : decode cX13_namesOfGone 108 = .ok (.invokevirtual 717, 3) := by decide +kernel
theorem dX13_namesOfGone_111 : decode cX13_namesOfGone 111 = .ok (.aload_n 0, 1) := by decide +kernel
theorem dX13_namesOfGone_112 : decode cX13_namesOfGone 112 = .ok (.aload_n 0, 1) := by decide +kernel
theorem dX13_namesOfGone_113 : decode cX13_namesOfGone 113 = .ok (.getfield 41, 3) := by decide +kernel
theorem dX13_namesOfGone_116 : decode cX13_namesOfGone 116 = .ok (.iload_n 1, 1) := by decide +kernel
theorem dX13_namesOfGone_117 : decode cX13_namesOfGone 117 = .ok (.iaload, 1) := by decide +kernel
theorem dX13_namesOfGone_118 : decode cX13_namesOfGone 118 = .ok (.iconst (-1), 1) := by decide +kernel
theorem dX13_namesOfGone_119 : decode cX13_namesOfGone 119 = .ok (.invokevirtual 717, 3) := by decide +kernel
theorem dX13_namesOfGone_122 : decode cX13_namesOfGone 122 = .ok (.iconst 0, 1) := by decide +kernel
theorem dX13_namesOfGone_123 : decode cX13_namesOfGone 123 = .ok (.istore_n 2, 1) := by decide +kernel
theorem dX13_namesOfGone_124 : decode cX13_namesOfGone 124 = .ok (.iload_n 2, 1) := by decide +kernel
theorem dX13_namesOfGone_125 : decode cX13_namesOfGone 125 = .ok (.aload_n 0, 1) := by decide +kernel
theorem dX13_namesOfGone_126 : decode cX13_namesOfGone 126 = .ok (.getfield 704, 3) := by decide +kernel
theorem dX13_namesOfGone_129 : decode cX13_namesOfGone 129 = .ok (.if_icmp .ge 20, 3) := by decide +kernel
theorem dX13_namesOfGone_132 : decode cX13_namesOfGone 132 = .ok (.aload_n 0, 1) := by decide +kernel
theorem dX13_namesOfGone_133 : decode cX13_namesOfGone 133 = .ok (.aload_n 0, 1) := by decide +kernel
theorem dX13_namesOfGone_134 : decode cX13_namesOfGone 134 = .ok (.getfield 131, 3) := by decide +kernel
theorem dX13_namesOfGone_137 : decode cX13_namesOfGone 137 = .ok (.iload_n 2, 1) := by decide +kernel
theorem dX13_namesOfGone_138 : decode cX13_namesOfGone 138 = .ok (.iaload, 1) := by decide +kernel
theorem dX13_namesOfGone_139 : decode cX13_namesOfGone 139 = .ok (.invokevirtual 902, 3) := by decide +kernel
theorem dX13_namesOfGone_142 : decode cX13_namesOfGone 142 = .ok (.pop, 1) := by decide +kernel
theorem dX13_namesOfGone_143 : decode cX13_namesOfGone 143 = .ok (.iinc 2 1, 3) := by decide +kernel
theorem dX13_namesOfGone_146 : decode cX13_namesOfGone 146 = .ok (.goto (-22), 3) := by decide +kernel
theorem dX13_namesOfGone_149 : decode cX13_namesOfGone 149 = .ok (.return_, 1) := by decide +kernel
theorem dX13_fit_0 : decode cX13_fit 0 = .ok (.aload_n 0, 1) := by decide +kernel
theorem dX13_fit_1 : decode cX13_fit 1 = .ok (.getfield 145, 3) := by decide +kernel
theorem dX13_fit_4 : decode cX13_fit 4 = .ok (.aload_n 0, 1) := by decide +kernel
theorem dX13_fit_5 : decode cX13_fit 5 = .ok (.getfield 246, 3) := by decide +kernel
theorem dX13_fit_8 : decode cX13_fit 8 = .ok (.iload_n 1, 1) := by decide +kernel
theorem dX13_fit_9 : decode cX13_fit 9 = .ok (.iaload, 1) := by decide +kernel
theorem dX13_fit_10 : decode cX13_fit 10 = .ok (.iaload, 1) := by decide +kernel
theorem dX13_fit_11 : decode cX13_fit 11 = .ok (.istore_n 2, 1) := by decide +kernel
theorem dX13_fit_12 : decode cX13_fit 12 = .ok (.aload_n 0, 1) := by decide +kernel
theorem dX13_fit_13 : decode cX13_fit 13 = .ok (.getfield 157, 3) := by decide +kernel
theorem dX13_fit_16 : decode cX13_fit 16 = .ok (.iload_n 2, 1) := by decide +kernel
theorem dX13_fit_17 : decode cX13_fit 17 = .ok (.iaload, 1) := by decide +kernel
theorem dX13_fit_18 : decode cX13_fit 18 = .ok (.istore_n 3, 1) := by decide +kernel
theorem dX13_fit_19 : decode cX13_fit 19 = .ok (.iload_n 3, 1) := by decide +kernel
theorem dX13_fit_20 : decode cX13_fit 20 = .ok (.ifCond .ge 5, 3) := by decide +kernel
theorem dX13_fit_23 : decode cX13_fit 23 = .ok (.iconst 0, 1) := by decide +kernel
theorem dX13_fit_24 : decode cX13_fit 24 = .ok (.ireturn, 1) := by decide +kernel
theorem dX13_fit_25 : decode cX13_fit 25 = .ok (.aload_n 0, 1) := by decide +kernel
theorem dX13_fit_26 : decode cX13_fit 26 = .ok (.iload_n 2, 1) := by decide +kernel
theorem dX13_fit_27 : decode cX13_fit 27 = .ok (.putfield 951, 3) := by decide +kernel
theorem dX13_fit_30 : decode cX13_fit 30 = .ok (.aload_n 0, 1) := by decide +kernel
theorem dX13_fit_31 : decode cX13_fit 31 = .ok (.getfield 200, 3) := by decide +kernel
theorem dX13_fit_34 : decode cX13_fit 34 = .ok (.iload_n 3, 1) := by decide +kernel
theorem dX13_fit_35 : decode cX13_fit 35 = .ok (.iaload, 1) := by decide +kernel
theorem dX13_fit_36 : decode cX13_fit 36 = .ok (.istore 4, 2) := by decide +kernel
theorem dX13_fit_38 : decode cX13_fit 38 = .ok (.iload 4, 2) := by decide +kernel
theorem dX13_fit_40 : decode cX13_fit 40 = .ok (.aload_n 0, 1) := by decide +kernel
theorem dX13_fit_41 : decode cX13_fit 41 = .ok (.getfield 203, 3) := by decide +kernel
theorem dX13_fit_44 : decode cX13_fit 44 = .ok (.iload_n 3, 1) := by decide +kernel
theorem dX13_fit_45 : decode cX13_fit 45 = .ok (.iaload, 1) := by decide +kernel
theorem dX13_fit_46 : decode cX13_fit 46 = .ok (.if_icmp .ge 17, 3) := by decide +kernel
theorem dX13_fit_49 : decode cX13_fit 49 = .ok (.aload_n 0, 1) := by decide +kernel
theorem dX13_fit_50 : decode cX13_fit 50 = .ok (.getfield 318, 3) := by decide +kernel
theorem dX13_fit_53 : decode cX13_fit 53 = .ok (.iload 4, 2) := by decide +kernel
theorem dX13_fit_55 : decode cX13_fit 55 = .ok (.iconst 0, 1) := by decide +kernel
theorem dX13_fit_56 : decode cX13_fit 56 = .ok (.bastore, 1) := by decide +kernel
theorem dX13_fit_57 : decode cX13_fit 57 = .ok (.iinc 4 1, 3) := by decide +kernel
theorem dX13_fit_60 : decode cX13_fit 60 = .ok (.goto (-22), 3) := by decide +kernel
theorem dX13_fit_63 : decode cX13_fit 63 = .ok (.aload_n 0, 1) := by decide +kernel
theorem dX13_fit_64 : decode cX13_fit 64 = .ok (.aload_n 0, 1) := by decide +kernel
theorem dX13_fit_65 : decode cX13_fit 65 = .ok (.getfield 249, 3) := by decide +kernel
theorem dX13_fit_68 : decode cX13_fit 68 = .ok (.iload_n 1, 1) := by decide +kernel
theorem dX13_fit_69 : decode cX13_fit 69 = .ok (.iaload, 1) := by decide +kernel
theorem dX13_fit_70 : decode cX13_fit 70 = .ok (.aload_n 0, 1) := by decide +kernel
theorem dX13_fit_71 : decode cX13_fit 71 = .ok (.getfield 252, 3) := by decide +kernel
theorem dX13_fit_74 : decode cX13_fit 74 = .ok (.iload_n 1, 1) := by decide +kernel
theorem dX13_fit_75 : decode cX13_fit 75 = .ok (.iaload, 1) := by decide +kernel
theorem dX13_fit_76 : decode cX13_fit 76 = .ok (.aload_n 0, 1) := by decide +kernel
theorem dX13_fit_77 : decode cX13_fit 77 = .ok (.getfield 243, 3) := by decide +kernel
theorem dX13_fit_80 : decode cX13_fit 80 = .ok (.iload_n 1, 1) := by decide +kernel
theorem dX13_fit_81 : decode cX13_fit 81 = .ok (.iaload, 1) := by decide +kernel
theorem dX13_fit_82 : decode cX13_fit 82 = .ok (.invokevirtual 973, 3) := by decide +kernel
theorem dX13_fit_85 : decode cX13_fit 85 = .ok (.ifCond .eq 7, 3) := by decide +kernel
theorem dX13_fit_88 : decode cX13_fit 88 = .ok (.aload_n 0, 1) := by decide +kernel
theorem dX13_fit_89 : decode cX13_fit 89 = .ok (.invokevirtual 929, 3) := by decide +kernel
theorem dX13_fit_92 : decode cX13_fit 92 = .ok (.iconst 0, 1) := by decide +kernel
theorem dX13_fit_93 : decode cX13_fit 93 = .ok (.istore 4, 2) := by decide +kernel
theorem dX13_fit_95 : decode cX13_fit 95 = .ok (.aload_n 0, 1) := by decide +kernel
theorem dX13_fit_96 : decode cX13_fit 96 = .ok (.getfield 200, 3) := by decide +kernel
theorem dX13_fit_99 : decode cX13_fit 99 = .ok (.iload_n 3, 1) := by decide +kernel
theorem dX13_fit_100 : decode cX13_fit 100 = .ok (.iaload, 1) := by decide +kernel
theorem dX13_fit_101 : decode cX13_fit 101 = .ok (.istore 5, 2) := by decide +kernel
theorem dX13_fit_103 : decode cX13_fit 103 = .ok (.iload 5, 2) := by decide +kernel
theorem dX13_fit_105 : decode cX13_fit 105 = .ok (.aload_n 0, 1) := by decide +kernel
theorem dX13_fit_106 : decode cX13_fit 106 = .ok (.getfield 203, 3) := by decide +kernel
theorem dX13_fit_109 : decode cX13_fit 109 = .ok (.iload_n 3, 1) := by decide +kernel
theorem dX13_fit_110 : decode cX13_fit 110 = .ok (.iaload, 1) := by decide +kernel
theorem dX13_fit_111 : decode cX13_fit 111 = .ok (.if_icmp .ge 43, 3) := by decide +kernel
theorem dX13_fit_114 : decode cX13_fit 114 = .ok (.aload_n 0, 1) := by decide +kernel
theorem dX13_fit_115 : decode cX13_fit 115 = .ok (.getfield 212, 3) := by decide +kernel
theorem dX13_fit_118 : decode cX13_fit 118 = .ok (.iload 5, 2) := by decide +kernel
theorem dX13_fit_120 : decode cX13_fit 120 = .ok (.baload, 1) := by decide +kernel
theorem dX13_fit_121 : decode cX13_fit 121 = .ok (.ifCond .eq 27, 3) := by decide +kernel
theorem dX13_fit_124 : decode cX13_fit 124 = .ok (.aload_n 0, 1) := by decide +kernel
theorem dX13_fit_125 : decode cX13_fit 125 = .ok (.getfield 318, 3) := by decide +kernel
theorem dX13_fit_128 : decode cX13_fit 128 = .ok (.iload 5, 2) := by decide +kernel
theorem dX13_fit_130 : decode cX13_fit 130 = .ok (.baload, 1) := by decide +kernel
theorem dX13_fit_131 : decode cX13_fit 131 = .ok (.ifCond .ne 6, 3) := by decide +kernel
theorem dX13_fit_134 : decode cX13_fit 134 = .ok (.goto 14, 3) := by decide +kernel
theorem dX13_fit_137 : decode cX13_fit 137 = .ok (.aload_n 0, 1) := by decide +kernel
theorem dX13_fit_138 : decode cX13_fit 138 = .ok (.getfield 212, 3) := by decide +kernel
theorem dX13_fit_141 : decode cX13_fit 141 = .ok (.iload 5, 2) := by decide +kernel
theorem dX13_fit_143 : decode cX13_fit 143 = .ok (.iconst 0, 1) := by decide +kernel
theorem dX13_fit_144 : decode cX13_fit 144 = .ok (.bastore, 1) := by decide +kernel
theorem dX13_fit_145 : decode cX13_fit 145 = .ok (.iconst 1, 1) := by decide +kernel
theorem dX13_fit_146 : decode cX13_fit 146 = .ok (.istore 4, 2) := by decide +kernel
theorem dX13_fit_148 : decode cX13_fit 148 = .ok (.iinc 5 1, 3) := by decide +kernel
theorem dX13_fit_151 : decode cX13_fit 151 = .ok (.goto (-48), 3) := by decide +kernel
theorem dX13_fit_154 : decode cX13_fit 154 = .ok (.iload 4, 2) := by decide +kernel
theorem dX13_fit_156 : decode cX13_fit 156 = .ok (.ireturn, 1) := by decide +kernel
theorem dX13_isSo_0 : decode cX13_isSo 0 = .ok (.aload_n 0, 1) := by decide +kernel
theorem dX13_isSo_1 : decode cX13_isSo 1 = .ok (.iconst (-1), 1) := by decide +kernel
theorem dX13_isSo_2 : decode cX13_isSo 2 = .ok (.putfield 951, 3) := by decide +kernel
theorem dX13_isSo_5 : decode cX13_isSo 5 = .ok (.aload_n 0, 1) := by decide +kernel
theorem dX13_isSo_6 : decode cX13_isSo 6 = .ok (.getfield 264, 3) := by decide +kernel
theorem dX13_isSo_9 : decode cX13_isSo 9 = .ok (.iload_n 1, 1) := by decide +kernel
theorem dX13_isSo_10 : decode cX13_isSo 10 = .ok (.iaload, 1) := by decide +kernel
theorem dX13_isSo_11 : decode cX13_isSo 11 = .ok (.istore_n 2, 1) := by decide +kernel
theorem dX13_isSo_12 : decode cX13_isSo 12 = .ok (.aload_n 0, 1) := by decide +kernel
theorem dX13_isSo_13 : decode cX13_isSo 13 = .ok (.getfield 267, 3) := by decide +kernel
theorem dX13_isSo_16 : decode cX13_isSo 16 = .ok (.iload_n 1, 1) := by decide +kernel
theorem dX13_isSo_17 : decode cX13_isSo 17 = .ok (.iaload, 1) := by decide +kernel
theorem dX13_isSo_18 : decode cX13_isSo 18 = .ok (.istore_n 3, 1) := by decide +kernel
theorem dX13_isSo_19 : decode cX13_isSo 19 = .ok (.aload_n 0, 1) := by decide +kernel
theorem dX13_isSo_20 : decode cX13_isSo 20 = .ok (.getfield 255, 3) := by decide +kernel
theorem dX13_isSo_23 : decode cX13_isSo 23 = .ok (.iload_n 1, 1) := by decide +kernel
theorem dX13_isSo_24 : decode cX13_isSo 24 = .ok (.iaload, 1) := by decide +kernel
theorem dX13_isSo_25 : decode cX13_isSo 25 = .ok (.ifCond .ne 45, 3) := by decide +kernel
theorem dX13_isSo_28 : decode cX13_isSo 28 = .ok (.aload_n 0, 1) := by decide +kernel
theorem dX13_isSo_29 : decode cX13_isSo 29 = .ok (.iload_n 3, 1) := by decide +kernel
theorem dX13_isSo_30 : decode cX13_isSo 30 = .ok (.aload_n 0, 1) := by decide +kernel
theorem dX13_isSo_31 : decode cX13_isSo 31 = .ok (.getfield 258, 3) := by decide +kernel
theorem dX13_isSo_34 : decode cX13_isSo 34 = .ok (.iload_n 1, 1) := by decide +kernel
theorem dX13_isSo_35 : decode cX13_isSo 35 = .ok (.iaload, 1) := by decide +kernel
theorem dX13_isSo_36 : decode cX13_isSo 36 = .ok (.iconst 0, 1) := by decide +kernel
theorem dX13_isSo_37 : decode cX13_isSo 37 = .ok (.invokevirtual 841, 3) := by decide +kernel
theorem dX13_isSo_40 : decode cX13_isSo 40 = .ok (.istore 4, 2) := by decide +kernel
theorem dX13_isSo_42 : decode cX13_isSo 42 = .ok (.aload_n 0, 1) := by decide +kernel
theorem dX13_isSo_43 : decode cX13_isSo 43 = .ok (.iload_n 2, 1) := by decide +kernel
theorem dX13_isSo_44 : decode cX13_isSo 44 = .ok (.iload 4, 2) := by decide +kernel
theorem dX13_isSo_46 : decode cX13_isSo 46 = .ok (.iconst (-1), 1) := by decide +kernel
theorem dX13_isSo_47 : decode cX13_isSo 47 = .ok (.invokevirtual 973, 3) := by decide +kernel
theorem dX13_isSo_50 : decode cX13_isSo 50 = .ok (.ifCond .eq 7, 3) := by decide +kernel
theorem dX13_isSo_53 : decode cX13_isSo 53 = .ok (.aload_n 0, 1) := by decide +kernel
theorem dX13_isSo_54 : decode cX13_isSo 54 = .ok (.invokevirtual 929, 3) := by decide +kernel
theorem dX13_isSo_57 : decode cX13_isSo 57 = .ok (.aload_n 0, 1) := by decide +kernel
theorem dX13_isSo_58 : decode cX13_isSo 58 = .ok (.getfield 948, 3) := by decide +kernel
theorem dX13_isSo_61 : decode cX13_isSo 61 = .ok (.ifCond .ne 7, 3) := by decide +kernel
theorem dX13_isSo_64 : decode cX13_isSo 64 = .ok (.iconst 1, 1) := by decide +kernel
theorem dX13_isSo_65 : decode cX13_isSo 65 = .ok (.goto 4, 3) := by decide +kernel
theorem dX13_isSo_68 : decode cX13_isSo 68 = .ok (.iconst 0, 1) := by decide +kernel
theorem dX13_isSo_69 : decode cX13_isSo 69 = .ok (.ireturn, 1) := by decide +kernel
theorem dX13_isSo_70 : decode cX13_isSo 70 = .ok (.aload_n 0, 1) := by decide +kernel
theorem dX13_isSo_71 : decode cX13_isSo 71 = .ok (.invokevirtual 714, 3) := by decide +kernel
theorem dX13_isSo_74 : decode cX13_isSo 74 = .ok (.aload_n 0, 1) := by decide +kernel
theorem dX13_isSo_75 : decode cX13_isSo 75 = .ok (.aload_n 0, 1) := by decide +kernel
theorem dX13_isSo_76 : decode cX13_isSo 76 = .ok (.getfield 258, 3) := by decide +kernel
theorem dX13_isSo_79 : decode cX13_isSo 79 = .ok (.iload_n 1, 1) := by decide +kernel
theorem dX13_isSo_80 : decode cX13_isSo 80 = .ok (.iaload, 1) := by decide +kernel
theorem dX13_isSo_81 : decode cX13_isSo 81 = .ok (.iconst 1, 1) := by decide +kernel
theorem dX13_isSo_82 : decode cX13_isSo 82 = .ok (.invokevirtual 717, 3) := by decide +kernel
theorem dX13_isSo_85 : decode cX13_isSo 85 = .ok (.aload_n 0, 1) := by decide +kernel
theorem dX13_isSo_86 : decode cX13_isSo 86 = .ok (.getfield 255, 3) := by decide +kernel
theorem dX13_isSo_89 : decode cX13_isSo 89 = .ok (.iload_n 1, 1) := by decide +kernel
theorem dX13_isSo_90 : decode cX13_isSo 90 = .ok (.iaload, 1) := by decide +kernel
theorem dX13_isSo_91 : decode cX13_isSo 91 = .ok (.iconst 3, 1) := by decide +kernel
theorem dX13_isSo_92 : decode cX13_isSo 92 = .ok (.if_icmp .ne 14, 3) := by decide +kernel
theorem dX13_isSo_95 : decode cX13_isSo 95 = .ok (.aload_n 0, 1) := by decide +kernel
theorem dX13_isSo_96 : decode cX13_isSo 96 = .ok (.aload_n 0, 1) := by decide +kernel
theorem dX13_isSo_97 : decode cX13_isSo 97 = .ok (.getfield 261, 3) := by decide +kernel
theorem dX13_isSo_100 : decode cX13_isSo 100 = .ok (.iload_n 1, 1) := by decide +kernel
theorem dX13_isSo_101 : decode cX13_isSo 101 = .ok (.iaload, 1) := by decide +kernel
theorem dX13_isSo_102 : decode cX13_isSo 102 = .ok (.iconst (-1), 1) := by decide +kernel
theorem dX13_isSo_103 : decode cX13_isSo 103 = .ok (.invokevirtual 711, 3) := by decide +kernel
theorem dX13_isSo_106 : decode cX13_isSo 106 = .ok (.aload_n 0, 1) := by decide +kernel
theorem dX13_isSo_107 : decode cX13_isSo 107 = .ok (.invokevirtual 726, 3) := by decide +kernel
theorem dX13_isSo_110 : decode cX13_isSo 110 = .ok (.ifCond .ne 5, 3) := by decide +kernel
theorem dX13_isSo_113 : decode cX13_isSo 113 = .ok (.iconst 0, 1) := by decide +kernel
theorem dX13_isSo_114 : decode cX13_isSo 114 = .ok (.ireturn, 1) := by decide +kernel
theorem dX13_isSo_115 : decode cX13_isSo 115 = .ok (.aload_n 0, 1) := by decide +kernel
theorem dX13_isSo_116 : decode cX13_isSo 116 = .ok (.iload_n 2, 1) := by decide +kernel
theorem dX13_isSo_117 : decode cX13_isSo 117 = .ok (.iload_n 3, 1) := by decide +kernel
theorem dX13_isSo_118 : decode cX13_isSo 118 = .ok (.iconst (-1), 1) := by decide +kernel
theorem dX13_isSo_119 : decode cX13_isSo 119 = .ok (.invokevirtual 973, 3) := by decide +kernel
theorem dX13_isSo_122 : decode cX13_isSo 122 = .ok (.istore 4, 2) := by decide +kernel
theorem dX13_isSo_124 : decode cX13_isSo 124 = .ok (.aload_n 0, 1) := by decide +kernel
theorem dX13_isSo_125 : decode cX13_isSo 125 = .ok (.invokevirtual 714, 3) := by decide +kernel
theorem dX13_isSo_128 : decode cX13_isSo 128 = .ok (.aload_n 0, 1) := by decide +kernel
theorem dX13_isSo_129 : decode cX13_isSo 129 = .ok (.aload_n 0, 1) := by decide +kernel
theorem dX13_isSo_130 : decode cX13_isSo 130 = .ok (.getfield 258, 3) := by decide +kernel
theorem dX13_isSo_133 : decode cX13_isSo 133 = .ok (.iload_n 1, 1) := by decide +kernel
theorem dX13_isSo_134 : decode cX13_isSo 134 = .ok (.iaload, 1) := by decide +kernel
theorem dX13_isSo_135 : decode cX13_isSo 135 = .ok (.iconst 1, 1) := by decide +kernel
theorem dX13_isSo_136 : decode cX13_isSo 136 = .ok (.invokevirtual 717, 3) := by decide +kernel
theorem dX13_isSo_139 : decode cX13_isSo 139 = .ok (.aload_n 0, 1) := by decide +kernel
theorem dX13_isSo_140 : decode cX13_isSo 140 = .ok (.getfield 255, 3) := by decide +kernel
theorem dX13_isSo_143 : decode cX13_isSo 143 = .ok (.iload_n 1, 1) := by decide +kernel
theorem dX13_isSo_144 : decode cX13_isSo 144 = .ok (.iaload, 1) := by decide +kernel
theorem dX13_isSo_145 : decode cX13_isSo 145 = .ok (.iconst 3, 1) := by decide +kernel
theorem dX13_isSo_146 : decode cX13_isSo 146 = .ok (.if_icmp .ne 14, 3) := by decide +kernel
theorem dX13_isSo_149 : decode cX13_isSo 149 = .ok (.aload_n 0, 1) := by decide +kernel
theorem dX13_isSo_150 : decode cX13_isSo 150 = .ok (.aload_n 0, 1) := by decide +kernel
theorem dX13_isSo_151 : decode cX13_isSo 151 = .ok (.getfield 261, 3) := by decide +kernel
theorem dX13_isSo_154 : decode cX13_isSo 154 = .ok (.iload_n 1, 1) := by decide +kernel
theorem dX13_isSo_155 : decode cX13_isSo 155 = .ok (.iaload, 1) := by decide +kernel
theorem dX13_isSo_156 : decode cX13_isSo 156 = .ok (.iconst (-1), 1) := by decide +kernel
theorem dX13_isSo_157 : decode cX13_isSo 157 = .ok (.invokevirtual 711, 3) := by decide +kernel
theorem dX13_isSo_160 : decode cX13_isSo 160 = .ok (.aload_n 0, 1) := by decide +kernel
theorem dX13_isSo_161 : decode cX13_isSo 161 = .ok (.getfield 255, 3) := by decide +kernel
theorem dX13_isSo_164 : decode cX13_isSo 164 = .ok (.iload_n 1, 1) := by decide +kernel
theorem dX13_isSo_165 : decode cX13_isSo 165 = .ok (.iaload, 1) := by decide +kernel
theorem dX13_isSo_166 : decode cX13_isSo 166 = .ok (.iconst 1, 1) := by decide +kernel
theorem dX13_isSo_167 : decode cX13_isSo 167 = .ok (.if_icmp .ne 18, 3) := by decide +kernel
theorem dX13_isSo_170 : decode cX13_isSo 170 = .ok (.aload_n 0, 1) := by decide +kernel
theorem dX13_isSo_171 : decode cX13_isSo 171 = .ok (.iconst 1, 1) := by decide +kernel
theorem dX13_isSo_172 : decode cX13_isSo 172 = .ok (.lconst 0, 1) := by decide +kernel
theorem dX13_isSo_173 : decode cX13_isSo 173 = .ok (.invokevirtual 941, 3) := by decide +kernel
theorem dX13_isSo_176 : decode cX13_isSo 176 = .ok (.aload_n 0, 1) := by decide +kernel
theorem dX13_isSo_177 : decode cX13_isSo 177 = .ok (.iconst (-1), 1) := by decide +kernel
theorem dX13_isSo_178 : decode cX13_isSo 178 = .ok (.lconst 0, 1) := by decide +kernel
theorem dX13_isSo_179 : decode cX13_isSo 179 = .ok (.invokevirtual 941, 3) := by decide +kernel
theorem dX13_isSo_182 : decode cX13_isSo 182 = .ok (.goto 28, 3) := by decide +kernel
theorem dX13_isSo_185 : decode cX13_isSo 185 = .ok (.aload_n 0, 1) := by decide +kernel
theorem dX13_isSo_186 : decode cX13_isSo 186 = .ok (.getfield 255, 3) := by decide +kernel
theorem dX13_isSo_189 : decode cX13_isSo 189 = .ok (.iload_n 1, 1) := by decide +kernel
theorem dX13_isSo_190 : decode cX13_isSo 190 = .ok (.iaload, 1) := by decide +kernel
theorem dX13_isSo_191 : decode cX13_isSo 191 = .ok (.iconst 2, 1) := by decide +kernel
theorem dX13_isSo_192 : decode cX13_isSo 192 = .ok (.if_icmp .ne 12, 3) := by decide +kernel
theorem dX13_isSo_195 : decode cX13_isSo 195 = .ok (.aload_n 0, 1) := by decide +kernel
theorem dX13_isSo_196 : decode cX13_isSo 196 = .ok (.iconst 1, 1) := by decide +kernel
theorem dX13_isSo_197 : decode cX13_isSo 197 = .ok (.lconst 1, 1) := by decide +kernel
theorem dX13_isSo_198 : decode cX13_isSo 198 = .ok (.invokevirtual 941, 3) := by decide +kernel
theorem dX13_isSo_201 : decode cX13_isSo 201 = .ok (.goto 9, 3) := by decide +kernel
theorem dX13_isSo_204 : decode cX13_isSo 204 = .ok (.aload_n 0, 1) := by decide +kernel
theorem dX13_isSo_205 : decode cX13_isSo 205 = .ok (.iconst (-1), 1) := by decide +kernel
theorem dX13_isSo_206 : decode cX13_isSo 206 = .ok (.lconst 0, 1) := by decide +kernel
theorem dX13_isSo_207 : decode cX13_isSo 207 = .ok (.invokevirtual 941, 3) := by decide +kernel
theorem dX13_isSo_210 : decode cX13_isSo 210 = .ok (.iload 4, 2) := by decide +kernel
theorem dX13_isSo_212 : decode cX13_isSo 212 = .ok (.ifCond .eq 7, 3) := by decide +kernel
theorem dX13_isSo_215 : decode cX13_isSo 215 = .ok (.aload_n 0, 1) := by decide +kernel
theorem dX13_isSo_216 : decode cX13_isSo 216 = .ok (.invokevirtual 929, 3) := by decide +kernel
theorem dX13_isSo_219 : decode cX13_isSo 219 = .ok (.aload_n 0, 1) := by decide +kernel
theorem dX13_isSo_220 : decode cX13_isSo 220 = .ok (.getfield 948, 3) := by decide +kernel
theorem dX13_isSo_223 : decode cX13_isSo 223 = .ok (.ifCond .ne 7, 3) := by decide +kernel
theorem dX13_isSo_226 : decode cX13_isSo 226 = .ok (.iconst 1, 1) := by decide +kernel
theorem dX13_isSo_227 : decode cX13_isSo 227 = .ok (.goto 4, 3) := by decide +kernel
theorem dX13_isSo_230 : decode cX13_isSo 230 = .ok (.iconst 0, 1) := by decide +kernel
theorem dX13_isSo_231 : decode cX13_isSo 231 = .ok (.ireturn, 1) := by decide +kernel
theorem dX13_accepted_9 : decode cX13_accepted 9 = .ok (.aload_n 0, 1) := by decide +kernel
theorem dX13_accepted_10 : decode cX13_accepted 10 = .ok (.getfield 754, 3) := by decide +kernel
theorem dX13_accepted_13 : decode cX13_accepted 13 = .ok (.ifCond .ne 7, 3) := by decide +kernel
theorem dX13_accepted_16 : decode cX13_accepted 16 = .ok (.aload_n 0, 1) := by decide +kernel
theorem dX13_accepted_17 : decode cX13_accepted 17 = .ok (.invokevirtual 977, 3) := by decide +kernel
theorem dX13_accepted_20 : decode cX13_accepted 20 = .ok (.aload_n 0, 1) := by decide +kernel
theorem dX13_accepted_21 : decode cX13_accepted 21 = .ok (.iconst 1, 1) := by decide +kernel
theorem dX13_accepted_22 : decode cX13_accepted 22 = .ok (.putfield 754, 3) := by decide +kernel
theorem dX13_accepted_25 : decode cX13_accepted 25 = .ok (.aload_n 0, 1) := by decide +kernel
theorem dX13_accepted_26 : decode cX13_accepted 26 = .ok (.getfield 980, 3) := by decide +kernel
theorem dX13_accepted_29 : decode cX13_accepted 29 = .ok (.ireturn, 1) := by decide +kernel
theorem dX13_decide_0 : decode cX13_decide 0 = .ok (.aload_n 0, 1) := by decide +kernel
theorem dX13_decide_1 : decode cX13_decide 1 = .ok (.iconst 0, 1) := by decide +kernel
theorem dX13_decide_2 : decode cX13_decide 2 = .ok (.putfield 769, 3) := by decide +kernel
theorem dX13_decide_5 : decode cX13_decide 5 = .ok (.aload_n 0, 1) := by decide +kernel
theorem dX13_decide_6 : decode cX13_decide 6 = .ok (.iconst 0, 1) := by decide +kernel
theorem dX13_decide_7 : decode cX13_decide 7 = .ok (.putfield 772, 3) := by decide +kernel
theorem dX13_decide_10 : decode cX13_decide 10 = .ok (.aload_n 0, 1) := by decide +kernel
theorem dX13_decide_11 : decode cX13_decide 11 = .ok (.iconst 0, 1) := by decide +kernel
theorem dX13_decide_12 : decode cX13_decide 12 = .ok (.putfield 775, 3) := by decide +kernel
theorem dX13_decide_15 : decode cX13_decide 15 = .ok (.aload_n 0, 1) := by decide +kernel
theorem dX13_decide_16 : decode cX13_decide 16 = .ok (.iconst 0, 1) := by decide +kernel
theorem dX13_decide_17 : decode cX13_decide 17 = .ok (.putfield 819, 3) := by decide +kernel
theorem dX13_decide_20 : decode cX13_decide 20 = .ok (.aload_n 0, 1) := by decide +kernel
theorem dX13_decide_21 : decode cX13_decide 21 = .ok (.iconst 0, 1) := by decide +kernel
theorem dX13_decide_22 : decode cX13_decide 22 = .ok (.putfield 809, 3) := by decide +kernel
theorem dX13_decide_25 : decode cX13_decide 25 = .ok (.aload_n 0, 1) := by decide +kernel
theorem dX13_decide_26 : decode cX13_decide 26 = .ok (.iconst 0, 1) := by decide +kernel
theorem dX13_decide_27 : decode cX13_decide 27 = .ok (.putfield 812, 3) := by decide +kernel
theorem dX13_decide_30 : decode cX13_decide 30 = .ok (.aload_n 0, 1) := by decide +kernel
theorem dX13_decide_31 : decode cX13_decide 31 = .ok (.iconst 0, 1) := by decide +kernel
theorem dX13_decide_32 : decode cX13_decide 32 = .ok (.putfield 803, 3) := by decide +kernel
theorem dX13_decide_35 : decode cX13_decide 35 = .ok (.aload_n 0, 1) := by decide +kernel
theorem dX13_decide_36 : decode cX13_decide 36 = .ok (.iconst 0, 1) := by decide +kernel
theorem dX13_decide_37 : decode cX13_decide 37 = .ok (.putfield 791, 3) := by decide +kernel
theorem dX13_decide_40 : decode cX13_decide 40 = .ok (.aload_n 0, 1) := by decide +kernel
theorem dX13_decide_41 : decode cX13_decide 41 = .ok (.iconst 0, 1) := by decide +kernel
theorem dX13_decide_42 : decode cX13_decide 42 = .ok (.putfield 794, 3) := by decide +kernel
theorem dX13_decide_45 : decode cX13_decide 45 = .ok (.aload_n 0, 1) := by decide +kernel
theorem dX13_decide_46 : decode cX13_decide 46 = .ok (.iconst 0, 1) := by decide +kernel
theorem dX13_decide_47 : decode cX13_decide 47 = .ok (.putfield 829, 3) := by decide +kernel
theorem dX13_decide_50 : decode cX13_decide 50 = .ok (.aload_n 0, 1) := by decide +kernel
theorem dX13_decide_51 : decode cX13_decide 51 = .ok (.iconst 0, 1) := by decide +kernel
theorem dX13_decide_52 : decode cX13_decide 52 = .ok (.putfield 832, 3) := by decide +kernel
theorem dX13_decide_55 : decode cX13_decide 55 = .ok (.aload_n 0, 1) := by decide +kernel
theorem dX13_decide_56 : decode cX13_decide 56 = .ok (.iconst 0, 1) := by decide +kernel
theorem dX13_decide_57 : decode cX13_decide 57 = .ok (.putfield 862, 3) := by decide +kernel
theorem dX13_decide_60 : decode cX13_decide 60 = .ok (.iconst 0, 1) := by decide +kernel
theorem dX13_decide_61 : decode cX13_decide 61 = .ok (.istore_n 1, 1) := by decide +kernel
theorem dX13_decide_62 : decode cX13_decide 62 = .ok (.iload_n 1, 1) := by decide +kernel
theorem dX13_decide_63 : decode cX13_decide 63 = .ok (.sipush 1501, 3) := by decide +kernel
theorem dX13_decide_66 : decode cX13_decide 66 = .ok (.if_icmp .ge 16, 3) := by decide +kernel
theorem dX13_decide_69 : decode cX13_decide 69 = .ok (.aload_n 0, 1) := by decide +kernel
theorem dX13_decide_70 : decode cX13_decide 70 = .ok (.getfield 285, 3) := by decide +kernel
theorem dX13_decide_73 : decode cX13_decide 73 = .ok (.iload_n 1, 1) := by decide +kernel
theorem dX13_decide_74 : decode cX13_decide 74 = .ok (.iconst (-1), 1) := by decide +kernel
theorem dX13_decide_75 : decode cX13_decide 75 = .ok (.iastore, 1) := by decide +kernel
theorem dX13_decide_76 : decode cX13_decide 76 = .ok (.iinc 1 1, 3) := by decide +kernel
theorem dX13_decide_79 : decode cX13_decide 79 = .ok (.goto (-17), 3) := by decide +kernel
theorem dX13_decide_82 : decode cX13_decide 82 = .ok (.iconst 0, 1) := by decide +kernel
theorem dX13_decide_83 : decode cX13_decide 83 = .ok (.istore_n 1, 1) := by decide +kernel
theorem dX13_decide_84 : decode cX13_decide 84 = .ok (.iload_n 1, 1) := by decide +kernel
theorem dX13_decide_85 : decode cX13_decide 85 = .ok (.sipush 1501, 3) := by decide +kernel
theorem dX13_decide_88 : decode cX13_decide 88 = .ok (.if_icmp .ge 16, 3) := by decide +kernel
theorem dX13_decide_91 : decode cX13_decide 91 = .ok (.aload_n 0, 1) := by decide +kernel
theorem dX13_decide_92 : decode cX13_decide 92 = .ok (.getfield 216, 3) := by decide +kernel
theorem dX13_decide_95 : decode cX13_decide 95 = .ok (.iload_n 1, 1) := by decide +kernel
theorem dX13_decide_96 : decode cX13_decide 96 = .ok (.iconst 0, 1) := by decide +kernel
theorem dX13_decide_97 : decode cX13_decide 97 = .ok (.bastore, 1) := by decide +kernel
theorem dX13_decide_98 : decode cX13_decide 98 = .ok (.iinc 1 1, 3) := by decide +kernel
theorem dX13_decide_101 : decode cX13_decide 101 = .ok (.goto (-17), 3) := by decide +kernel
theorem dX13_decide_104 : decode cX13_decide 104 = .ok (.iconst (-1), 1) := by decide +kernel
theorem dX13_decide_105 : decode cX13_decide 105 = .ok (.istore_n 1, 1) := by decide +kernel
theorem dX13_decide_106 : decode cX13_decide 106 = .ok (.iconst 0, 1) := by decide +kernel
theorem dX13_decide_107 : decode cX13_decide 107 = .ok (.istore_n 2, 1) := by decide +kernel
theorem dX13_decide_108 : decode cX13_decide 108 = .ok (.iload_n 2, 1) := by decide +kernel
theorem dX13_decide_109 : decode cX13_decide 109 = .ok (.aload_n 0, 1) := by decide +kernel
theorem dX13_decide_110 : decode cX13_decide 110 = .ok (.getfield 481, 3) := by decide +kernel
theorem dX13_decide_113 : decode cX13_decide 113 = .ok (.if_icmp .ge 60, 3) := by decide +kernel
theorem dX13_decide_116 : decode cX13_decide 116 = .ok (.aload_n 0, 1) := by decide +kernel
theorem dX13_decide_117 : decode cX13_decide 117 = .ok (.getfield 240, 3) := by decide +kernel
theorem dX13_decide_120 : decode cX13_decide 120 = .ok (.iload_n 2, 1) := by decide +kernel
theorem dX13_decide_121 : decode cX13_decide 121 = .ok (.aload_n 0, 1) := by decide +kernel
theorem dX13_decide_122 : decode cX13_decide 122 = .ok (.aload_n 0, 1) := by decide +kernel
theorem dX13_decide_123 : decode cX13_decide 123 = .ok (.getfield 95, 3) := by decide +kernel
theorem dX13_decide_126 : decode cX13_decide 126 = .ok (.iload_n 2, 1) := by decide +kernel
theorem dX13_decide_127 : decode cX13_decide 127 = .ok (.iaload, 1) := by decide +kernel
theorem dX13_decide_128 : decode cX13_decide 128 = .ok (.ifCond .ne 7, 3) := by decide +kernel
theorem dX13_decide_131 : decode cX13_decide 131 = .ok (.iconst 1, 1) := by decide +kernel
theorem dX13_decide_132 : decode cX13_decide 132 = .ok (.goto 18, 3) := by decide +kernel
theorem dX13_decide_135 : decode cX13_decide 135 = .ok (.aload_n 0, 1) := by decide +kernel
theorem dX13_decide_136 : decode cX13_decide 136 = .ok (.getfield 95, 3) := by decide +kernel
theorem dX13_decide_139 : decode cX13_decide 139 = .ok (.iload_n 2, 1) := by decide +kernel
theorem dX13_decide_140 : decode cX13_decide 140 = .ok (.iaload, 1) := by decide +kernel
theorem dX13_decide_141 : decode cX13_decide 141 = .ok (.iconst 1, 1) := by decide +kernel
theorem dX13_decide_142 : decode cX13_decide 142 = .ok (.if_icmp .ne 7, 3) := by decide +kernel
theorem dX13_decide_145 : decode cX13_decide 145 = .ok (.iconst 2, 1) := by decide +kernel
theorem dX13_decide_146 : decode cX13_decide 146 = .ok (.goto 4, 3) := by decide +kernel
theorem dX13_decide_149 : decode cX13_decide 149 = .ok (.iconst 3, 1) := by decide +kernel
theorem dX13_decide_150 : decode cX13_decide 150 = .ok (.invokevirtual 800, 3) := by decide +kernel
theorem dX13_decide_153 : decode cX13_decide 153 = .ok (.iastore, 1) := by decide +kernel
theorem dX13_decide_154 : decode cX13_decide 154 = .ok (.aload_n 0, 1) := by decide +kernel
theorem dX13_decide_155 : decode cX13_decide 155 = .ok (.iload_n 1, 1) := by decide +kernel
theorem dX13_decide_156 : decode cX13_decide 156 = .ok (.iload_n 2, 1) := by decide +kernel
theorem dX13_decide_157 : decode cX13_decide 157 = .ok (.aload_n 0, 1) := by decide +kernel
theorem dX13_decide_158 : decode cX13_decide 158 = .ok (.getfield 240, 3) := by decide +kernel
theorem dX13_decide_161 : decode cX13_decide 161 = .ok (.iload_n 2, 1) := by decide +kernel
theorem dX13_decide_162 : decode cX13_decide 162 = .ok (.iaload, 1) := by decide +kernel
theorem dX13_decide_163 : decode cX13_decide 163 = .ok (.invokevirtual 826, 3) := by decide +kernel
theorem dX13_decide_166 : decode cX13_decide 166 = .ok (.istore_n 1, 1) := by decide +kernel
theorem dX13_decide_167 : decode cX13_decide 167 = .ok (.iinc 2 1, 3) := by decide +kernel
theorem dX13_decide_170 : decode cX13_decide 170 = .ok (.goto (-62), 3) := by decide +kernel
theorem dX13_decide_173 : decode cX13_decide 173 = .ok (.aload_n 0, 1) := by decide +kernel
theorem dX13_decide_174 : decode cX13_decide 174 = .ok (.aload_n 0, 1) := by decide +kernel
theorem dX13_decide_175 : decode cX13_decide 175 = .ok (.getfield 527, 3) := by decide +kernel
theorem dX13_decide_178 : decode cX13_decide 178 = .ok (.iload_n 1, 1) := by decide +kernel
theorem dX13_decide_179 : decode cX13_decide 179 = .ok (.iconst (-1), 1) := by decide +kernel
theorem dX13_decide_180 : decode cX13_decide 180 = .ok (.invokevirtual 838, 3) := by decide +kernel
theorem dX13_decide_183 : decode cX13_decide 183 = .ok (.pop, 1) := by decide +kernel
theorem dX13_decide_184 : decode cX13_decide 184 = .ok (.iconst 1, 1) := by decide +kernel
theorem dX13_decide_185 : decode cX13_decide 185 = .ok (.istore_n 2, 1) := by decide +kernel
theorem dX13_decide_186 : decode cX13_decide 186 = .ok (.iload_n 2, 1) := by decide +kernel
theorem dX13_decide_187 : decode cX13_decide 187 = .ok (.ifCond .eq 42, 3) := by decide +kernel
theorem dX13_decide_190 : decode cX13_decide 190 = .ok (.iconst 0, 1) := by decide +kernel
theorem dX13_decide_191 : decode cX13_decide 191 = .ok (.istore_n 2, 1) := by decide +kernel
theorem dX13_decide_192 : decode cX13_decide 192 = .ok (.iconst 0, 1) := by decide +kernel
theorem dX13_decide_193 : decode cX13_decide 193 = .ok (.istore_n 3, 1) := by decide +kernel
theorem dX13_decide_194 : decode cX13_decide 194 = .ok (.iload_n 3, 1) := by decide +kernel
theorem dX13_decide_195 : decode cX13_decide 195 = .ok (.aload_n 0, 1) := by decide +kernel
theorem dX13_decide_196 : decode cX13_decide 196 = .ok (.getfield 829, 3) := by decide +kernel
theorem dX13_decide_199 : decode cX13_decide 199 = .ok (.if_icmp .ge 27, 3) := by decide +kernel
theorem dX13_decide_202 : decode cX13_decide 202 = .ok (.aload_n 0, 1) := by decide +kernel
theorem dX13_decide_203 : decode cX13_decide 203 = .ok (.iload_n 3, 1) := by decide +kernel
theorem dX13_decide_204 : decode cX13_decide 204 = .ok (.invokevirtual 983, 3) := by decide +kernel
theorem dX13_decide_207 : decode cX13_decide 207 = .ok (.ifCond .ne 7, 3) := by decide +kernel
theorem dX13_decide_210 : decode cX13_decide 210 = .ok (.iload_n 2, 1) := by decide +kernel
theorem dX13_decide_211 : decode cX13_decide 211 = .ok (.ifCond .eq 7, 3) := by decide +kernel
theorem dX13_decide_214 : decode cX13_decide 214 = .ok (.iconst 1, 1) := by decide +kernel
theorem dX13_decide_215 : decode cX13_decide 215 = .ok (.goto 4, 3) := by decide +kernel
theorem dX13_decide_218 : decode cX13_decide 218 = .ok (.iconst 0, 1) := by decide +kernel
theorem dX13_decide_219 : decode cX13_decide 219 = .ok (.istore_n 2, 1) := by decide +kernel
theorem dX13_decide_220 : decode cX13_decide 220 = .ok (.iinc 3 1, 3) := by decide +kernel
theorem dX13_decide_223 : decode cX13_decide 223 = .ok (.goto (-29), 3) := by decide +kernel
theorem dX13_decide_226 : decode cX13_decide 226 = .ok (.goto (-40), 3) := by decide +kernel
theorem dX13_decide_229 : decode cX13_decide 229 = .ok (.aload_n 0, 1) := by decide +kernel
theorem dX13_decide_230 : decode cX13_decide 230 = .ok (.iconst (-1), 1) := by decide +kernel
theorem dX13_decide_231 : decode cX13_decide 231 = .ok (.putfield 137, 3) := by decide +kernel
theorem dX13_decide_234 : decode cX13_decide 234 = .ok (.iconst 0, 1) := by decide +kernel
theorem dX13_decide_235 : decode cX13_decide 235 = .ok (.istore_n 3, 1) := by decide +kernel
theorem dX13_decide_236 : decode cX13_decide 236 = .ok (.iload_n 3, 1) := by decide +kernel
theorem dX13_decide_237 : decode cX13_decide 237 = .ok (.aload_n 0, 1) := by decide +kernel
theorem dX13_decide_238 : decode cX13_decide 238 = .ok (.getfield 832, 3) := by decide +kernel
theorem dX13_decide_241 : decode cX13_decide 241 = .ok (.if_icmp .ge 47, 3) := by decide +kernel
theorem dX13_decide_244 : decode cX13_decide 244 = .ok (.aload_n 0, 1) := by decide +kernel
theorem dX13_decide_245 : decode cX13_decide 245 = .ok (.getfield 137, 3) := by decide +kernel
theorem dX13_decide_248 : decode cX13_decide 248 = .ok (.ifCond .lt 16, 3) := by decide +kernel
theorem dX13_decide_251 : decode cX13_decide 251 = .ok (.aload_n 0, 1) := by decide +kernel
theorem dX13_decide_252 : decode cX13_decide 252 = .ok (.getfield 270, 3) := by decide +kernel
theorem dX13_decide_255 : decode cX13_decide 255 = .ok (.iload_n 3, 1) := by decide +kernel
theorem dX13_decide_256 : decode cX13_decide 256 = .ok (.iaload, 1) := by decide +kernel
theorem dX13_decide_257 : decode cX13_decide 257 = .ok (.aload_n 0, 1) := by decide +kernel
theorem dX13_decide_258 : decode cX13_decide 258 = .ok (.getfield 137, 3) := by decide +kernel
theorem dX13_decide_261 : decode cX13_decide 261 = .ok (.if_icmp .ge 21, 3) := by decide +kernel
theorem dX13_decide_264 : decode cX13_decide 264 = .ok (.aload_n 0, 1) := by decide +kernel
theorem dX13_decide_265 : decode cX13_decide 265 = .ok (.iload_n 3, 1) := by decide +kernel
theorem dX13_decide_266 : decode cX13_decide 266 = .ok (.invokevirtual 986, 3) := by decide +kernel
theorem dX13_decide_269 : decode cX13_decide 269 = .ok (.ifCond .ne 13, 3) := by decide +kernel
theorem dX13_decide_272 : decode cX13_decide 272 = .ok (.aload_n 0, 1) := by decide +kernel
theorem dX13_decide_273 : decode cX13_decide 273 = .ok (.aload_n 0, 1) := by decide +kernel
theorem dX13_decide_274 : decode cX13_decide 274 = .ok (.getfield 270, 3) := by decide +kernel
theorem dX13_decide_277 : decode cX13_decide 277 = .ok (.iload_n 3, 1) := by decide +kernel
theorem dX13_decide_278 : decode cX13_decide 278 = .ok (.iaload, 1) := by decide +kernel
theorem dX13_decide_279 : decode cX13_decide 279 = .ok (.putfield 137, 3) := by decide +kernel
theorem dX13_decide_282 : decode cX13_decide 282 = .ok (.iinc 3 1, 3) := by decide +kernel
theorem dX13_decide_285 : decode cX13_decide 285 = .ok (.goto (-49), 3) := by decide +kernel
theorem dX13_decide_288 : decode cX13_decide 288 = .ok (.aload_n 0, 1) := by decide +kernel
theorem dX13_decide_289 : decode cX13_decide 289 = .ok (.aload_n 0, 1) := by decide +kernel
theorem dX13_decide_290 : decode cX13_decide 290 = .ok (.getfield 137, 3) := by decide +kernel
theorem dX13_decide_293 : decode cX13_decide 293 = .ok (.ifCond .ge 7, 3) := by decide +kernel
theorem dX13_decide_296 : decode cX13_decide 296 = .ok (.iconst 1, 1) := by decide +kernel
theorem dX13_decide_297 : decode cX13_decide 297 = .ok (.goto 4, 3) := by decide +kernel
theorem dX13_decide_300 : decode cX13_decide 300 = .ok (.iconst 0, 1) := by decide +kernel
theorem dX13_decide_301 : decode cX13_decide 301 = .ok (.putfield 980, 3) := by decide +kernel
theorem dX13_decide_304 : decode cX13_decide 304 = .ok (.return_, 1) := by decide +kernel
theorem dX13_sayWord_0 : decode cX13_sayWord 0 = .ok (.iconst 0, 1) := by decide +kernel
theorem dX13_sayWord_1 : decode cX13_sayWord 1 = .ok (.istore_n 2, 1) := by decide +kernel
theorem dX13_sayWord_2 : decode cX13_sayWord 2 = .ok (.iload_n 2, 1) := by decide +kernel
theorem dX13_sayWord_3 : decode cX13_sayWord 3 = .ok (.aload_n 1, 1) := by decide +kernel
theorem dX13_sayWord_4 : decode cX13_sayWord 4 = .ok (.invokevirtual 401, 3) := by decide +kernel
theorem dX13_sayWord_7 : decode cX13_sayWord 7 = .ok (.if_icmp .ge 18, 3) := by decide +kernel
theorem dX13_sayWord_10 : decode cX13_sayWord 10 = .ok (.aload_n 0, 1) := by decide +kernel
theorem dX13_sayWord_11 : decode cX13_sayWord 11 = .ok (.aload_n 1, 1) := by decide +kernel
theorem dX13_sayWord_12 : decode cX13_sayWord 12 = .ok (.iload_n 2, 1) := by decide +kernel
theorem dX13_sayWord_13 : decode cX13_sayWord 13 = .ok (.invokevirtual 406, 3) := by decide +kernel
theorem dX13_sayWord_16 : decode cX13_sayWord 16 = .ok (.invokevirtual 992, 3) := by decide +kernel
theorem dX13_sayWord_19 : decode cX13_sayWord 19 = .ok (.iinc 2 1, 3) := by decide +kernel
theorem dX13_sayWord_22 : decode cX13_sayWord 22 = .ok (.goto (-20), 3) := by decide +kernel
theorem dX13_sayWord_25 : decode cX13_sayWord 25 = .ok (.return_, 1) := by decide +kernel
theorem dX13_sayNumber_0 : decode cX13_sayNumber 0 = .ok (.lload_n 1, 1) := by decide +kernel
theorem dX13_sayNumber_1 : decode cX13_sayNumber 1 = .ok (.lconst 0, 1) := by decide +kernel
theorem dX13_sayNumber_2 : decode cX13_sayNumber 2 = .ok (.lcmp, 1) := by decide +kernel
theorem dX13_sayNumber_3 : decode cX13_sayNumber 3 = .ok (.ifCond .ge 9, 3) := by decide +kernel
theorem dX13_sayNumber_6 : decode cX13_sayNumber 6 = .ok (.aload_n 0, 1) := by decide +kernel
theorem dX13_sayNumber_7 : decode cX13_sayNumber 7 = .ok (.bipush 45, 2) := by decide +kernel
theorem dX13_sayNumber_9 : decode cX13_sayNumber 9 = .ok (.invokevirtual 992, 3) := by decide +kernel
theorem dX13_sayNumber_12 : decode cX13_sayNumber 12 = .ok (.lload_n 1, 1) := by decide +kernel
theorem dX13_sayNumber_13 : decode cX13_sayNumber 13 = .ok (.lconst 0, 1) := by decide +kernel
theorem dX13_sayNumber_14 : decode cX13_sayNumber 14 = .ok (.lcmp, 1) := by decide +kernel
theorem dX13_sayNumber_15 : decode cX13_sayNumber 15 = .ok (.ifCond .ge 8, 3) := by decide +kernel
theorem dX13_sayNumber_18 : decode cX13_sayNumber 18 = .ok (.lload_n 1, 1) := by decide +kernel
theorem dX13_sayNumber_19 : decode cX13_sayNumber 19 = .ok (.lneg, 1) := by decide +kernel
theorem dX13_sayNumber_20 : decode cX13_sayNumber 20 = .ok (.goto 4, 3) := by decide +kernel
theorem dX13_sayNumber_23 : decode cX13_sayNumber 23 = .ok (.lload_n 1, 1) := by decide +kernel
theorem dX13_sayNumber_24 : decode cX13_sayNumber 24 = .ok (.lstore_n 3, 1) := by decide +kernel
theorem dX13_sayNumber_25 : decode cX13_sayNumber 25 = .ok (.lconst 1, 1) := by decide +kernel
theorem dX13_sayNumber_26 : decode cX13_sayNumber 26 = .ok (.lstore 5, 2) := by decide +kernel
theorem dX13_sayNumber_28 : decode cX13_sayNumber 28 = .ok (.lload_n 3, 1) := by decide +kernel
theorem dX13_sayNumber_29 : decode cX13_sayNumber 29 = .ok (.lload 5, 2) := by decide +kernel
theorem dX13_sayNumber_31 : decode cX13_sayNumber 31 = .ok (.ldiv, 1) := by decide +kernel
theorem dX13_sayNumber_32 : decode cX13_sayNumber 32 = .ok (.ldc2_w 995, 3) := by decide +kernel
theorem dX13_sayNumber_35 : decode cX13_sayNumber 35 = .ok (.lcmp, 1) := by decide +kernel
theorem dX13_sayNumber_36 : decode cX13_sayNumber 36 = .ok (.ifCond .le 14, 3) := by decide +kernel
theorem dX13_sayNumber_39 : decode cX13_sayNumber 39 = .ok (.lload 5, 2) := by decide +kernel
theorem dX13_sayNumber_41 : decode cX13_sayNumber 41 = .ok (.ldc2_w 997, 3) := by decide +kernel
theorem dX13_sayNumber_44 : decode cX13_sayNumber 44 = .ok (.lmul, 1) := by decide +kernel
theorem dX13_sayNumber_45 : decode cX13_sayNumber 45 = .ok (.lstore 5, 2) := by decide +kernel
theorem dX13_sayNumber_47 : decode cX13_sayNumber 47 = .ok (.goto (-19), 3) := by decide +kernel
theorem dX13_sayNumber_50 : decode cX13_sayNumber 50 = .ok (.lload 5, 2) := by decide +kernel
theorem dX13_sayNumber_52 : decode cX13_sayNumber 52 = .ok (.lconst 0, 1) := by decide +kernel
theorem dX13_sayNumber_53 : decode cX13_sayNumber 53 = .ok (.lcmp, 1) := by decide +kernel
theorem dX13_sayNumber_54 : decode cX13_sayNumber 54 = .ok (.ifCond .le 31, 3) := by decide +kernel
theorem dX13_sayNumber_57 : decode cX13_sayNumber 57 = .ok (.aload_n 0, 1) := by decide +kernel
theorem dX13_sayNumber_58 : decode cX13_sayNumber 58 = .ok (.ldc2_w 999, 3) := by decide +kernel
theorem dX13_sayNumber_61 : decode cX13_sayNumber 61 = .ok (.lload_n 3, 1) := by decide +kernel
theorem dX13_sayNumber_62 : decode cX13_sayNumber 62 = .ok (.lload 5, 2) := by decide +kernel
theorem dX13_sayNumber_64 : decode cX13_sayNumber 64 = .ok (.ldiv, 1) := by decide +kernel
theorem dX13_sayNumber_65 : decode cX13_sayNumber 65 = .ok (.ldc2_w 997, 3) := by decide +kernel
theorem dX13_sayNumber_68 : decode cX13_sayNumber 68 = .ok (.lrem, 1) := by decide +kernel
theorem dX13_sayNumber_69 : decode cX13_sayNumber 69 = .ok (.ladd, 1) := by decide +kernel
theorem dX13_sayNumber_70 : decode cX13_sayNumber 70 = .ok (.l2i, 1) := by decide +kernel
theorem dX13_sayNumber_71 : decode cX13_sayNumber 71 = .ok (.invokevirtual 992, 3) := by decide +kernel
theorem dX13_sayNumber_74 : decode cX13_sayNumber 74 = .ok (.lload 5, 2) := by decide +kernel
theorem dX13_sayNumber_76 : decode cX13_sayNumber 76 = .ok (.ldc2_w 997, 3) := by decide +kernel
theorem dX13_sayNumber_79 : decode cX13_sayNumber 79 = .ok (.ldiv, 1) := by decide +kernel
theorem dX13_sayNumber_80 : decode cX13_sayNumber 80 = .ok (.lstore 5, 2) := by decide +kernel
theorem dX13_sayNumber_82 : decode cX13_sayNumber 82 = .ok (.goto (-32), 3) := by decide +kernel
theorem dX13_sayNumber_85 : decode cX13_sayNumber 85 = .ok (.return_, 1) := by decide +kernel
theorem dX13_sayName_0 : decode cX13_sayName 0 = .ok (.iload_n 1, 1) := by decide +kernel
theorem dX13_sayName_1 : decode cX13_sayName 1 = .ok (.sipush 700, 3) := by decide +kernel
theorem dX13_sayName_4 : decode cX13_sayName 4 = .ok (.if_icmp .ge 47, 3) := by decide +kernel
theorem dX13_sayName_7 : decode cX13_sayName 7 = .ok (.aload_n 0, 1) := by decide +kernel
theorem dX13_sayName_8 : decode cX13_sayName 8 = .ok (.getfield 23, 3) := by decide +kernel
theorem dX13_sayName_11 : decode cX13_sayName 11 = .ok (.aload_n 0, 1) := by decide +kernel
theorem dX13_sayName_12 : decode cX13_sayName 12 = .ok (.getfield 101, 3) := by decide +kernel
theorem dX13_sayName_15 : decode cX13_sayName 15 = .ok (.iload_n 1, 1) := by decide +kernel
theorem dX13_sayName_16 : decode cX13_sayName 16 = .ok (.iaload, 1) := by decide +kernel
theorem dX13_sayName_17 : decode cX13_sayName 17 = .ok (.iaload, 1) := by decide +kernel
theorem dX13_sayName_18 : decode cX13_sayName 18 = .ok (.istore_n 2, 1) := by decide +kernel
theorem dX13_sayName_19 : decode cX13_sayName 19 = .ok (.iload_n 2, 1) := by decide +kernel
theorem dX13_sayName_20 : decode cX13_sayName 20 = .ok (.aload_n 0, 1) := by decide +kernel
theorem dX13_sayName_21 : decode cX13_sayName 21 = .ok (.getfield 26, 3) := by decide +kernel
theorem dX13_sayName_24 : decode cX13_sayName 24 = .ok (.aload_n 0, 1) := by decide +kernel
theorem dX13_sayName_25 : decode cX13_sayName 25 = .ok (.getfield 101, 3) := by decide +kernel
theorem dX13_sayName_28 : decode cX13_sayName 28 = .ok (.iload_n 1, 1) := by decide +kernel
theorem dX13_sayName_29 : decode cX13_sayName 29 = .ok (.iaload, 1) := by decide +kernel
theorem dX13_sayName_30 : decode cX13_sayName 30 = .ok (.iaload, 1) := by decide +kernel
theorem dX13_sayName_31 : decode cX13_sayName 31 = .ok (.if_icmp .ge 19, 3) := by decide +kernel
theorem dX13_sayName_34 : decode cX13_sayName 34 = .ok (.aload_n 0, 1) := by decide +kernel
theorem dX13_sayName_35 : decode cX13_sayName 35 = .ok (.aload_n 0, 1) := by decide +kernel
theorem dX13_sayName_36 : decode cX13_sayName 36 = .ok (.getfield 13, 3) := by decide +kernel
theorem dX13_sayName_39 : decode cX13_sayName 39 = .ok (.iload_n 2, 1) := by decide +kernel
theorem dX13_sayName_40 : decode cX13_sayName 40 = .ok (.baload, 1) := by decide +kernel
theorem dX13_sayName_41 : decode cX13_sayName 41 = .ok (.invokevirtual 992, 3) := by decide +kernel
theorem dX13_sayName_44 : decode cX13_sayName 44 = .ok (.iinc 2 1, 3) := by decide +kernel
theorem dX13_sayName_47 : decode cX13_sayName 47 = .ok (.goto (-28), 3) := by decide +kernel
theorem dX13_sayName_50 : decode cX13_sayName 50 = .ok (.return_, 1) := by decide +kernel
theorem dX13_sayName_51 : decode cX13_sayName 51 = .ok (.aload_n 0, 1) := by decide +kernel
theorem dX13_sayName_52 : decode cX13_sayName 52 = .ok (.getfield 324, 3) := by decide +kernel
theorem dX13_sayName_55 : decode cX13_sayName 55 = .ok (.iload_n 1, 1) := by decide +kernel
theorem dX13_sayName_56 : decode cX13_sayName 56 = .ok (.sipush 700, 3) := by decide +kernel
theorem dX13_sayName_59 : decode cX13_sayName 59 = .ok (.isub, 1) := by decide +kernel
theorem dX13_sayName_60 : decode cX13_sayName 60 = .ok (.iaload, 1) := by decide +kernel
theorem dX13_sayName_61 : decode cX13_sayName 61 = .ok (.ifCond .ge 27, 3) := by decide +kernel
theorem dX13_sayName_64 : decode cX13_sayName 64 = .ok (.aload_n 0, 1) := by decide +kernel
theorem dX13_sayName_65 : decode cX13_sayName 65 = .ok (.getfield 324, 3) := by decide +kernel
theorem dX13_sayName_68 : decode cX13_sayName 68 = .ok (.iload_n 1, 1) := by decide +kernel
theorem dX13_sayName_69 : decode cX13_sayName 69 = .ok (.sipush 700, 3) := by decide +kernel
theorem dX13_sayName_72 : decode cX13_sayName 72 = .ok (.isub, 1) := by decide +kernel
theorem dX13_sayName_73 : decode cX13_sayName 73 = .ok (.aload_n 0, 1) := by decide +kernel
theorem dX13_sayName_74 : decode cX13_sayName 74 = .ok (.getfield 1001, 3) := by decide +kernel
theorem dX13_sayName_77 : decode cX13_sayName 77 = .ok (.iastore, 1) := by decide +kernel
theorem dX13_sayName_78 : decode cX13_sayName 78 = .ok (.aload_n 0, 1) := by decide +kernel
theorem dX13_sayName_79 : decode cX13_sayName 79 = .ok (.dup, 1) := by decide +kernel
theorem dX13_sayName_80 : decode cX13_sayName 80 = .ok (.getfield 1001, 3) := by decide +kernel
theorem dX13_sayName_83 : decode cX13_sayName 83 = .ok (.iconst 1, 1) := by decide +kernel
theorem dX13_sayName_84 : decode cX13_sayName 84 = .ok (.iadd, 1) := by decide +kernel
theorem dX13_sayName_85 : decode cX13_sayName 85 = .ok (.putfield 1001, 3) := by decide +kernel
theorem dX13_sayName_88 : decode cX13_sayName 88 = .ok (.aload_n 0, 1) := by decide +kernel
theorem dX13_sayName_89 : decode cX13_sayName 89 = .ok (.bipush 36, 2) := by decide +kernel
theorem dX13_sayName_91 : decode cX13_sayName 91 = .ok (.invokevirtual 992, 3) := by decide +kernel
theorem dX13_sayName_94 : decode cX13_sayName 94 = .ok (.aload_n 0, 1) := by decide +kernel
theorem dX13_sayName_95 : decode cX13_sayName 95 = .ok (.aload_n 0, 1) := by decide +kernel
theorem dX13_sayName_96 : decode cX13_sayName 96 = .ok (.getfield 324, 3) := by decide +kernel
theorem dX13_sayName_99 : decode cX13_sayName 99 = .ok (.iload_n 1, 1) := by decide +kernel
theorem dX13_sayName_100 : decode cX13_sayName 100 = .ok (.sipush 700, 3) := by decide +kernel
theorem dX13_sayName_103 : decode cX13_sayName 103 = .ok (.isub, 1) := by decide +kernel
theorem dX13_sayName_104 : decode cX13_sayName 104 = .ok (.iaload, 1) := by decide +kernel
theorem dX13_sayName_105 : decode cX13_sayName 105 = .ok (.i2l, 1) := by decide +kernel
theorem dX13_sayName_106 : decode cX13_sayName 106 = .ok (.invokevirtual 1004, 3) := by decide +kernel
theorem dX13_sayName_109 : decode cX13_sayName 109 = .ok (.return_, 1) := by decide +kernel
theorem dX13_sayFact_0 : decode cX13_sayFact 0 = .ok (.iload_n 2, 1) := by decide +kernel
theorem dX13_sayFact_1 : decode cX13_sayFact 1 = .ok (.ifCond .ne 9, 3) := by decide +kernel
theorem dX13_sayFact_4 : decode cX13_sayFact 4 = .ok (.aload_n 0, 1) := by decide +kernel
theorem dX13_sayFact_5 : decode cX13_sayFact 5 = .ok (.bipush 38, 2) := by decide +kernel
theorem dX13_sayFact_7 : decode cX13_sayFact 7 = .ok (.invokevirtual 992, 3) := by decide +kernel
theorem dX13_sayFact_10 : decode cX13_sayFact 10 = .ok (.aload_n 0, 1) := by decide +kernel
theorem dX13_sayFact_11 : decode cX13_sayFact 11 = .ok (.bipush 118, 2) := by decide +kernel
theorem dX13_sayFact_13 : decode cX13_sayFact 13 = .ok (.invokevirtual 992, 3) := by decide +kernel
theorem dX13_sayFact_16 : decode cX13_sayFact 16 = .ok (.aload_n 0, 1) := by decide +kernel
theorem dX13_sayFact_17 : decode cX13_sayFact 17 = .ok (.iload_n 1, 1) := by decide +kernel
theorem dX13_sayFact_18 : decode cX13_sayFact 18 = .ok (.ifCond .ne 9, 3) := by decide +kernel
theorem dX13_sayFact_21 : decode cX13_sayFact 21 = .ok (.ldc_w 457, 3) := by decide +kernel
theorem dX13_sayFact_24 : decode cX13_sayFact 24 = .ok (.goto 39, 3) := by decide +kernel
theorem dX13_sayFact_27 : decode cX13_sayFact 27 = .ok (.iload_n 1, 1) := by decide +kernel
theorem dX13_sayFact_28 : decode cX13_sayFact 28 = .ok (.iconst 1, 1) := by decide +kernel
theorem dX13_sayFact_29 : decode cX13_sayFact 29 = .ok (.if_icmp .ne 9, 3) := by decide +kernel
theorem dX13_sayFact_32 : decode cX13_sayFact 32 = .ok (.ldc_w 459, 3) := by decide +kernel
theorem dX13_sayFact_35 : decode cX13_sayFact 35 = .ok (.goto 28, 3) := by decide +kernel
theorem dX13_sayFact_38 : decode cX13_sayFact 38 = .ok (.iload_n 1, 1) := by decide +kernel
theorem dX13_sayFact_39 : decode cX13_sayFact 39 = .ok (.iconst 2, 1) := by decide +kernel
theorem dX13_sayFact_40 : decode cX13_sayFact 40 = .ok (.if_icmp .ne 9, 3) := by decide +kernel
theorem dX13_sayFact_43 : decode cX13_sayFact 43 = .ok (.ldc_w 461, 3) := by decide +kernel
theorem dX13_sayFact_46 : decode cX13_sayFact 46 = .ok (.goto 17, 3) := by decide +kernel
theorem dX13_sayFact_49 : decode cX13_sayFact 49 = .ok (.iload_n 1, 1) := by decide +kernel
theorem dX13_sayFact_50 : decode cX13_sayFact 50 = .ok (.iconst 3, 1) := by decide +kernel
theorem dX13_sayFact_51 : decode cX13_sayFact 51 = .ok (.if_icmp .ne 9, 3) := by decide +kernel
theorem dX13_sayFact_54 : decode cX13_sayFact 54 = .ok (.ldc_w 463, 3) := by decide +kernel
theorem dX13_sayFact_57 : decode cX13_sayFact 57 = .ok (.goto 6, 3) := by decide +kernel
theorem dX13_sayFact_60 : decode cX13_sayFact 60 = .ok (.ldc_w 465, 3) := by decide +kernel
theorem dX13_sayFact_63 : decode cX13_sayFact 63 = .ok (.invokevirtual 1008, 3) := by decide +kernel
theorem dX13_sayFact_66 : decode cX13_sayFact 66 = .ok (.aload_n 0, 1) := by decide +kernel
theorem dX13_sayFact_67 : decode cX13_sayFact 67 = .ok (.getfield 883, 3) := by decide +kernel
theorem dX13_sayFact_70 : decode cX13_sayFact 70 = .ok (.ifCond .ne 12, 3) := by decide +kernel
theorem dX13_sayFact_73 : decode cX13_sayFact 73 = .ok (.aload_n 0, 1) := by decide +kernel
theorem dX13_sayFact_74 : decode cX13_sayFact 74 = .ok (.aload_n 0, 1) := by decide +kernel
theorem dX13_sayFact_75 : decode cX13_sayFact 75 = .ok (.getfield 889, 3) := by decide +kernel
theorem dX13_sayFact_78 : decode cX13_sayFact 78 = .ok (.invokevirtual 1004, 3) := by decide +kernel
theorem dX13_sayFact_81 : decode cX13_sayFact 81 = .ok (.return_, 1) := by decide +kernel
theorem dX13_sayFact_82 : decode cX13_sayFact 82 = .ok (.aload_n 0, 1) := by decide +kernel
theorem dX13_sayFact_83 : decode cX13_sayFact 83 = .ok (.getfield 883, 3) := by decide +kernel
theorem dX13_sayFact_86 : decode cX13_sayFact 86 = .ok (.ifCond .ge 9, 3) := by decide +kernel
theorem dX13_sayFact_89 : decode cX13_sayFact 89 = .ok (.aload_n 0, 1) := by decide +kernel
theorem dX13_sayFact_90 : decode cX13_sayFact 90 = .ok (.bipush 45, 2) := by decide +kernel
theorem dX13_sayFact_92 : decode cX13_sayFact 92 = .ok (.invokevirtual 992, 3) := by decide +kernel
theorem dX13_sayFact_95 : decode cX13_sayFact 95 = .ok (.aload_n 0, 1) := by decide +kernel
theorem dX13_sayFact_96 : decode cX13_sayFact 96 = .ok (.getfield 216, 3) := by decide +kernel
theorem dX13_sayFact_99 : decode cX13_sayFact 99 = .ok (.aload_n 0, 1) := by decide +kernel
theorem dX13_sayFact_100 : decode cX13_sayFact 100 = .ok (.getfield 886, 3) := by decide +kernel
theorem dX13_sayFact_103 : decode cX13_sayFact 103 = .ok (.baload, 1) := by decide +kernel
theorem dX13_sayFact_104 : decode cX13_sayFact 104 = .ok (.ifCond .eq 28, 3) := by decide +kernel
theorem dX13_sayFact_107 : decode cX13_sayFact 107 = .ok (.aload_n 0, 1) := by decide +kernel
theorem dX13_sayFact_108 : decode cX13_sayFact 108 = .ok (.aload_n 0, 1) := by decide +kernel
theorem dX13_sayFact_109 : decode cX13_sayFact 109 = .ok (.getfield 219, 3) := by decide +kernel
theorem dX13_sayFact_112 : decode cX13_sayFact 112 = .ok (.aload_n 0, 1) := by decide +kernel
theorem dX13_sayFact_113 : decode cX13_sayFact 113 = .ok (.getfield 886, 3) := by decide +kernel
theorem dX13_sayFact_116 : decode cX13_sayFact 116 = .ok (.baload, 1) := by decide +kernel
theorem dX13_sayFact_117 : decode cX13_sayFact 117 = .ok (.ifCond .eq 9, 3) := by decide +kernel
theorem dX13_sayFact_120 : decode cX13_sayFact 120 = .ok (.ldc_w 1011, 3) := by decide +kernel
theorem dX13_sayFact_123 : decode cX13_sayFact 123 = .ok (.goto 6, 3) := by decide +kernel
theorem dX13_sayFact_126 : decode cX13_sayFact 126 = .ok (.ldc_w 1013, 3) := by decide +kernel
theorem dX13_sayFact_129 : decode cX13_sayFact 129 = .ok (.invokevirtual 1008, 3) := by decide +kernel
theorem dX13_sayFact_132 : decode cX13_sayFact 132 = .ok (.aload_n 0, 1) := by decide +kernel
theorem dX13_sayFact_133 : decode cX13_sayFact 133 = .ok (.aload_n 0, 1) := by decide +kernel
theorem dX13_sayFact_134 : decode cX13_sayFact 134 = .ok (.getfield 886, 3) := by decide +kernel
theorem dX13_sayFact_137 : decode cX13_sayFact 137 = .ok (.invokevirtual 1015, 3) := by decide +kernel
theorem dX13_sayFact_140 : decode cX13_sayFact 140 = .ok (.aload_n 0, 1) := by decide +kernel
theorem dX13_sayFact_141 : decode cX13_sayFact 141 = .ok (.getfield 889, 3) := by decide +kernel
theorem dX13_sayFact_144 : decode cX13_sayFact 144 = .ok (.lconst 0, 1) := by decide +kernel
theorem dX13_sayFact_145 : decode cX13_sayFact 145 = .ok (.lcmp, 1) := by decide +kernel
theorem dX13_sayFact_146 : decode cX13_sayFact 146 = .ok (.ifCond .le 9, 3) := by decide +kernel
theorem dX13_sayFact_149 : decode cX13_sayFact 149 = .ok (.aload_n 0, 1) := by decide +kernel
theorem dX13_sayFact_150 : decode cX13_sayFact 150 = .ok (.bipush 43, 2) := by decide +kernel
theorem dX13_sayFact_152 : decode cX13_sayFact 152 = .ok (.invokevirtual 992, 3) := by decide +kernel
theorem dX13_sayFact_155 : decode cX13_sayFact 155 = .ok (.aload_n 0, 1) := by decide +kernel
theorem dX13_sayFact_156 : decode cX13_sayFact 156 = .ok (.getfield 889, 3) := by decide +kernel
theorem dX13_sayFact_159 : decode cX13_sayFact 159 = .ok (.lconst 0, 1) := by decide +kernel
theorem dX13_sayFact_160 : decode cX13_sayFact 160 = .ok (.lcmp, 1) := by decide +kernel
theorem dX13_sayFact_161 : decode cX13_sayFact 161 = .ok (.ifCond .eq 11, 3) := by decide +kernel
theorem dX13_sayFact_164 : decode cX13_sayFact 164 = .ok (.aload_n 0, 1) := by decide +kernel
theorem dX13_sayFact_165 : decode cX13_sayFact 165 = .ok (.aload_n 0, 1) := by decide +kernel
theorem dX13_sayFact_166 : decode cX13_sayFact 166 = .ok (.getfield 889, 3) := by decide +kernel
theorem dX13_sayFact_169 : decode cX13_sayFact 169 = .ok (.invokevirtual 1004, 3) := by decide +kernel
theorem dX13_sayFact_172 : decode cX13_sayFact 172 = .ok (.return_, 1) := by decide +kernel
theorem dX13_sayType_0 : decode cX13_sayType 0 = .ok (.aload_n 0, 1) := by decide +kernel
theorem dX13_sayType_1 : decode cX13_sayType 1 = .ok (.getfield 142, 3) := by decide +kernel
theorem dX13_sayType_4 : decode cX13_sayType 4 = .ok (.iload_n 1, 1) := by decide +kernel
theorem dX13_sayType_5 : decode cX13_sayType 5 = .ok (.iaload, 1) := by decide +kernel
theorem dX13_sayType_6 : decode cX13_sayType 6 = .ok (.iconst 2, 1) := by decide +kernel
theorem dX13_sayType_7 : decode cX13_sayType 7 = .ok (.if_icmp .ne 11, 3) := by decide +kernel
theorem dX13_sayType_10 : decode cX13_sayType 10 = .ok (.aload_n 0, 1) := by decide +kernel
theorem dX13_sayType_11 : decode cX13_sayType 11 = .ok (.ldc_w 522, 3) := by decide +kernel
theorem dX13_sayType_14 : decode cX13_sayType 14 = .ok (.invokevirtual 1008, 3) := by decide +kernel
theorem dX13_sayType_17 : decode cX13_sayType 17 = .ok (.return_, 1) := by decide +kernel
theorem dX13_sayType_18 : decode cX13_sayType 18 = .ok (.aload_n 0, 1) := by decide +kernel
theorem dX13_sayType_19 : decode cX13_sayType 19 = .ok (.getfield 142, 3) := by decide +kernel
theorem dX13_sayType_22 : decode cX13_sayType 22 = .ok (.iload_n 1, 1) := by decide +kernel
theorem dX13_sayType_23 : decode cX13_sayType 23 = .ok (.iaload, 1) := by decide +kernel
theorem dX13_sayType_24 : decode cX13_sayType 24 = .ok (.iconst 4, 1) := by decide +kernel
theorem dX13_sayType_25 : decode cX13_sayType 25 = .ok (.if_icmp .ne 88, 3) := by decide +kernel
theorem dX13_sayType_28 : decode cX13_sayType 28 = .ok (.aload_n 0, 1) := by decide +kernel
theorem dX13_sayType_29 : decode cX13_sayType 29 = .ok (.aload_n 0, 1) := by decide +kernel
theorem dX13_sayType_30 : decode cX13_sayType 30 = .ok (.getfield 148, 3) := by decide +kernel
theorem dX13_sayType_33 : decode cX13_sayType 33 = .ok (.iload_n 1, 1) := by decide +kernel
theorem dX13_sayType_34 : decode cX13_sayType 34 = .ok (.iaload, 1) := by decide +kernel
theorem dX13_sayType_35 : decode cX13_sayType 35 = .ok (.invokevirtual 1015, 3) := by decide +kernel
theorem dX13_sayType_38 : decode cX13_sayType 38 = .ok (.aload_n 0, 1) := by decide +kernel
theorem dX13_sayType_39 : decode cX13_sayType 39 = .ok (.bipush 58, 2) := by decide +kernel
theorem dX13_sayType_41 : decode cX13_sayType 41 = .ok (.invokevirtual 992, 3) := by decide +kernel
theorem dX13_sayType_44 : decode cX13_sayType 44 = .ok (.aload_n 0, 1) := by decide +kernel
theorem dX13_sayType_45 : decode cX13_sayType 45 = .ok (.getfield 142, 3) := by decide +kernel
theorem dX13_sayType_48 : decode cX13_sayType 48 = .ok (.aload_n 0, 1) := by decide +kernel
theorem dX13_sayType_49 : decode cX13_sayType 49 = .ok (.getfield 151, 3) := by decide +kernel
theorem dX13_sayType_52 : decode cX13_sayType 52 = .ok (.iload_n 1, 1) := by decide +kernel
theorem dX13_sayType_53 : decode cX13_sayType 53 = .ok (.iaload, 1) := by decide +kernel
theorem dX13_sayType_54 : decode cX13_sayType 54 = .ok (.iaload, 1) := by decide +kernel
theorem dX13_sayType_55 : decode cX13_sayType 55 = .ok (.iconst 4, 1) := by decide +kernel
theorem dX13_sayType_56 : decode cX13_sayType 56 = .ok (.if_icmp .ne 7, 3) := by decide +kernel
theorem dX13_sayType_59 : decode cX13_sayType 59 = .ok (.iconst 1, 1) := by decide +kernel
theorem dX13_sayType_60 : decode cX13_sayType 60 = .ok (.goto 4, 3) := by decide +kernel
theorem dX13_sayType_63 : decode cX13_sayType 63 = .ok (.iconst 0, 1) := by decide +kernel
theorem dX13_sayType_64 : decode cX13_sayType 64 = .ok (.istore_n 2, 1) := by decide +kernel
theorem dX13_sayType_65 : decode cX13_sayType 65 = .ok (.iload_n 2, 1) := by decide +kernel
theorem dX13_sayType_66 : decode cX13_sayType 66 = .ok (.ifCond .eq 9, 3) := by decide +kernel
theorem dX13_sayType_69 : decode cX13_sayType 69 = .ok (.aload_n 0, 1) := by decide +kernel
theorem dX13_sayType_70 : decode cX13_sayType 70 = .ok (.bipush 40, 2) := by decide +kernel
theorem dX13_sayType_72 : decode cX13_sayType 72 = .ok (.invokevirtual 992, 3) := by decide +kernel
theorem dX13_sayType_75 : decode cX13_sayType 75 = .ok (.aload_n 0, 1) := by decide +kernel
theorem dX13_sayType_76 : decode cX13_sayType 76 = .ok (.aload_n 0, 1) := by decide +kernel
theorem dX13_sayType_77 : decode cX13_sayType 77 = .ok (.getfield 151, 3) := by decide +kernel
theorem dX13_sayType_80 : decode cX13_sayType 80 = .ok (.iload_n 1, 1) := by decide +kernel
theorem dX13_sayType_81 : decode cX13_sayType 81 = .ok (.iaload, 1) := by decide +kernel
theorem dX13_sayType_82 : decode cX13_sayType 82 = .ok (.invokevirtual 1018, 3) := by decide +kernel
theorem dX13_sayType_85 : decode cX13_sayType 85 = .ok (.iload_n 2, 1) := by decide +kernel
theorem dX13_sayType_86 : decode cX13_sayType 86 = .ok (.ifCond .eq 9, 3) := by decide +kernel
theorem dX13_sayType_89 : decode cX13_sayType 89 = .ok (.aload_n 0, 1) := by decide +kernel
theorem dX13_sayType_90 : decode cX13_sayType 90 = .ok (.bipush 41, 2) := by decide +kernel
theorem dX13_sayType_92 : decode cX13_sayType 92 = .ok (.invokevirtual 992, 3) := by decide +kernel
theorem dX13_sayType_95 : decode cX13_sayType 95 = .ok (.aload_n 0, 1) := by decide +kernel
theorem dX13_sayType_96 : decode cX13_sayType 96 = .ok (.ldc_w 545, 3) := by decide +kernel
theorem dX13_sayType_99 : decode cX13_sayType 99 = .ok (.invokevirtual 1008, 3) := by decide +kernel
theorem dX13_sayType_102 : decode cX13_sayType 102 = .ok (.aload_n 0, 1) := by decide +kernel
theorem dX13_sayType_103 : decode cX13_sayType 103 = .ok (.aload_n 0, 1) := by decide +kernel
theorem dX13_sayType_104 : decode cX13_sayType 104 = .ok (.getfield 154, 3) := by decide +kernel
theorem dX13_sayType_107 : decode cX13_sayType 107 = .ok (.iload_n 1, 1) := by decide +kernel
theorem dX13_sayType_108 : decode cX13_sayType 108 = .ok (.iaload, 1) := by decide +kernel
theorem dX13_sayType_109 : decode cX13_sayType 109 = .ok (.invokevirtual 1018, 3) := by decide +kernel
theorem dX13_sayType_112 : decode cX13_sayType 112 = .ok (.return_, 1) := by decide +kernel
theorem dX13_sayType_113 : decode cX13_sayType 113 = .ok (.aload_n 0, 1) := by decide +kernel
theorem dX13_sayType_114 : decode cX13_sayType 114 = .ok (.getfield 145, 3) := by decide +kernel
theorem dX13_sayType_117 : decode cX13_sayType 117 = .ok (.iload_n 1, 1) := by decide +kernel
theorem dX13_sayType_118 : decode cX13_sayType 118 = .ok (.iaload, 1) := by decide +kernel
theorem dX13_sayType_119 : decode cX13_sayType 119 = .ok (.istore_n 2, 1) := by decide +kernel
theorem dX13_sayType_120 : decode cX13_sayType 120 = .ok (.iconst 1, 1) := by decide +kernel
theorem dX13_sayType_121 : decode cX13_sayType 121 = .ok (.istore_n 3, 1) := by decide +kernel
theorem dX13_sayType_122 : decode cX13_sayType 122 = .ok (.aload_n 0, 1) := by decide +kernel
theorem dX13_sayType_123 : decode cX13_sayType 123 = .ok (.getfield 160, 3) := by decide +kernel
theorem dX13_sayType_126 : decode cX13_sayType 126 = .ok (.iload_n 2, 1) := by decide +kernel
theorem dX13_sayType_127 : decode cX13_sayType 127 = .ok (.iaload, 1) := by decide +kernel
theorem dX13_sayType_128 : decode cX13_sayType 128 = .ok (.istore 4, 2) := by decide +kernel
theorem dX13_sayType_130 : decode cX13_sayType 130 = .ok (.iload 4, 2) := by decide +kernel
theorem dX13_sayType_132 : decode cX13_sayType 132 = .ok (.ifCond .lt 70, 3) := by decide +kernel
theorem dX13_sayType_135 : decode cX13_sayType 135 = .ok (.iload_n 3, 1) := by decide +kernel
theorem dX13_sayType_136 : decode cX13_sayType 136 = .ok (.ifCond .eq 9, 3) := by decide +kernel
theorem dX13_sayType_139 : decode cX13_sayType 139 = .ok (.aload_n 0, 1) := by decide +kernel
theorem dX13_sayType_140 : decode cX13_sayType 140 = .ok (.bipush 123, 2) := by decide +kernel
theorem dX13_sayType_142 : decode cX13_sayType 142 = .ok (.invokevirtual 992, 3) := by decide +kernel
theorem dX13_sayType_145 : decode cX13_sayType 145 = .ok (.aload_n 0, 1) := by decide +kernel
theorem dX13_sayType_146 : decode cX13_sayType 146 = .ok (.aload_n 0, 1) := by decide +kernel
theorem dX13_sayType_147 : decode cX13_sayType 147 = .ok (.getfield 169, 3) := by decide +kernel
theorem dX13_sayType_150 : decode cX13_sayType 150 = .ok (.iload 4, 2) := by decide +kernel
theorem dX13_sayType_152 : decode cX13_sayType 152 = .ok (.iaload, 1) := by decide +kernel
theorem dX13_sayType_153 : decode cX13_sayType 153 = .ok (.aload_n 0, 1) := by decide +kernel
theorem dX13_sayType_154 : decode cX13_sayType 154 = .ok (.getfield 172, 3) := by decide +kernel
theorem dX13_sayType_157 : decode cX13_sayType 157 = .ok (.iload 4, 2) := by decide +kernel
theorem dX13_sayType_159 : decode cX13_sayType 159 = .ok (.iaload, 1) := by decide +kernel
theorem dX13_sayType_160 : decode cX13_sayType 160 = .ok (.aload_n 0, 1) := by decide +kernel
theorem dX13_sayType_161 : decode cX13_sayType 161 = .ok (.getfield 178, 3) := by decide +kernel
theorem dX13_sayType_164 : decode cX13_sayType 164 = .ok (.iload 4, 2) := by decide +kernel
theorem dX13_sayType_166 : decode cX13_sayType 166 = .ok (.laload, 1) := by decide +kernel
theorem dX13_sayType_167 : decode cX13_sayType 167 = .ok (.aload_n 0, 1) := by decide +kernel
theorem dX13_sayType_168 : decode cX13_sayType 168 = .ok (.getfield 163, 3) := by decide +kernel
theorem dX13_sayType_171 : decode cX13_sayType 171 = .ok (.iload_n 2, 1) := by decide +kernel
theorem dX13_sayType_172 : decode cX13_sayType 172 = .ok (.iaload, 1) := by decide +kernel
theorem dX13_sayType_173 : decode cX13_sayType 173 = .ok (.invokevirtual 892, 3) := by decide +kernel
theorem dX13_sayType_176 : decode cX13_sayType 176 = .ok (.aload_n 0, 1) := by decide +kernel
theorem dX13_sayType_177 : decode cX13_sayType 177 = .ok (.aload_n 0, 1) := by decide +kernel
theorem dX13_sayType_178 : decode cX13_sayType 178 = .ok (.getfield 166, 3) := by decide +kernel
theorem dX13_sayType_181 : decode cX13_sayType 181 = .ok (.iload 4, 2) := by decide +kernel
theorem dX13_sayType_183 : decode cX13_sayType 183 = .ok (.iaload, 1) := by decide +kernel
theorem dX13_sayType_184 : decode cX13_sayType 184 = .ok (.iload_n 3, 1) := by decide +kernel
theorem dX13_sayType_185 : decode cX13_sayType 185 = .ok (.invokevirtual 1021, 3) := by decide +kernel
theorem dX13_sayType_188 : decode cX13_sayType 188 = .ok (.iconst 0, 1) := by decide +kernel
theorem dX13_sayType_189 : decode cX13_sayType 189 = .ok (.istore_n 3, 1) := by decide +kernel
theorem dX13_sayType_190 : decode cX13_sayType 190 = .ok (.aload_n 0, 1) := by decide +kernel
theorem dX13_sayType_191 : decode cX13_sayType 191 = .ok (.getfield 175, 3) := by decide +kernel
theorem dX13_sayType_194 : decode cX13_sayType 194 = .ok (.iload 4, 2) := by decide +kernel
theorem dX13_sayType_196 : decode cX13_sayType 196 = .ok (.iaload, 1) := by decide +kernel
theorem dX13_sayType_197 : decode cX13_sayType 197 = .ok (.istore 4, 2) := by decide +kernel
theorem dX13_sayType_199 : decode cX13_sayType 199 = .ok (.goto (-69), 3) := by decide +kernel
theorem dX13_sayType_202 : decode cX13_sayType 202 = .ok (.aload_n 0, 1) := by decide +kernel
theorem dX13_sayType_203 : decode cX13_sayType 203 = .ok (.getfield 157, 3) := by decide +kernel
theorem dX13_sayType_206 : decode cX13_sayType 206 = .ok (.iload_n 2, 1) := by decide +kernel
theorem dX13_sayType_207 : decode cX13_sayType 207 = .ok (.iaload, 1) := by decide +kernel
theorem dX13_sayType_208 : decode cX13_sayType 208 = .ok (.istore 4, 2) := by decide +kernel
theorem dX13_sayType_210 : decode cX13_sayType 210 = .ok (.iload 4, 2) := by decide +kernel
theorem dX13_sayType_212 : decode cX13_sayType 212 = .ok (.ifCond .ge 7, 3) := by decide +kernel
theorem dX13_sayType_215 : decode cX13_sayType 215 = .ok (.iconst 0, 1) := by decide +kernel
theorem dX13_sayType_216 : decode cX13_sayType 216 = .ok (.goto 10, 3) := by decide +kernel
theorem dX13_sayType_219 : decode cX13_sayType 219 = .ok (.aload_n 0, 1) := by decide +kernel
theorem dX13_sayType_220 : decode cX13_sayType 220 = .ok (.getfield 200, 3) := by decide +kernel
theorem dX13_sayType_223 : decode cX13_sayType 223 = .ok (.iload 4, 2) := by decide +kernel
theorem dX13_sayType_225 : decode cX13_sayType 225 = .ok (.iaload, 1) := by decide +kernel
theorem dX13_sayType_226 : decode cX13_sayType 226 = .ok (.istore 5, 2) := by decide +kernel
theorem dX13_sayType_228 : decode cX13_sayType 228 = .ok (.iload 4, 2) := by decide +kernel
theorem dX13_sayType_230 : decode cX13_sayType 230 = .ok (.ifCond .lt 75, 3) := by decide +kernel
theorem dX13_sayType_233 : decode cX13_sayType 233 = .ok (.iload 5, 2) := by decide +kernel
theorem dX13_sayType_235 : decode cX13_sayType 235 = .ok (.aload_n 0, 1) := by decide +kernel
theorem dX13_sayType_236 : decode cX13_sayType 236 = .ok (.getfield 203, 3) := by decide +kernel
theorem dX13_sayType_239 : decode cX13_sayType 239 = .ok (.iload 4, 2) := by decide +kernel
theorem dX13_sayType_241 : decode cX13_sayType 241 = .ok (.iaload, 1) := by decide +kernel
theorem dX13_sayType_242 : decode cX13_sayType 242 = .ok (.if_icmp .ge 63, 3) := by decide +kernel
theorem dX13_sayType_245 : decode cX13_sayType 245 = .ok (.aload_n 0, 1) := by decide +kernel
theorem dX13_sayType_246 : decode cX13_sayType 246 = .ok (.getfield 212, 3) := by decide +kernel
theorem dX13_sayType_249 : decode cX13_sayType 249 = .ok (.iload 5, 2) := by decide +kernel
theorem dX13_sayType_251 : decode cX13_sayType 251 = .ok (.baload, 1) := by decide +kernel
theorem dX13_sayType_252 : decode cX13_sayType 252 = .ok (.ifCond .ne 6, 3) := by decide +kernel
theorem dX13_sayType_255 : decode cX13_sayType 255 = .ok (.goto 44, 3) := by decide +kernel
theorem dX13_sayType_258 : decode cX13_sayType 258 = .ok (.iload_n 3, 1) := by decide +kernel
theorem dX13_sayType_259 : decode cX13_sayType 259 = .ok (.ifCond .eq 9, 3) := by decide +kernel
theorem dX13_sayType_262 : decode cX13_sayType 262 = .ok (.aload_n 0, 1) := by decide +kernel
theorem dX13_sayType_263 : decode cX13_sayType 263 = .ok (.bipush 123, 2) := by decide +kernel
theorem dX13_sayType_265 : decode cX13_sayType 265 = .ok (.invokevirtual 992, 3) := by decide +kernel
theorem dX13_sayType_268 : decode cX13_sayType 268 = .ok (.aload_n 0, 1) := by decide +kernel
theorem dX13_sayType_269 : decode cX13_sayType 269 = .ok (.iload 5, 2) := by decide +kernel
theorem dX13_sayType_271 : decode cX13_sayType 271 = .ok (.aload_n 0, 1) := by decide +kernel
theorem dX13_sayType_272 : decode cX13_sayType 272 = .ok (.getfield 163, 3) := by decide +kernel
theorem dX13_sayType_275 : decode cX13_sayType 275 = .ok (.iload_n 2, 1) := by decide +kernel
theorem dX13_sayType_276 : decode cX13_sayType 276 = .ok (.iaload, 1) := by decide +kernel
theorem dX13_sayType_277 : decode cX13_sayType 277 = .ok (.invokevirtual 899, 3) := by decide +kernel
theorem dX13_sayType_280 : decode cX13_sayType 280 = .ok (.aload_n 0, 1) := by decide +kernel
theorem dX13_sayType_281 : decode cX13_sayType 281 = .ok (.aload_n 0, 1) := by decide +kernel
theorem dX13_sayType_282 : decode cX13_sayType 282 = .ok (.getfield 80, 3) := by decide +kernel
theorem dX13_sayType_285 : decode cX13_sayType 285 = .ok (.aload_n 0, 1) := by decide +kernel
theorem dX13_sayType_286 : decode cX13_sayType 286 = .ok (.getfield 206, 3) := by decide +kernel
theorem dX13_sayType_289 : decode cX13_sayType 289 = .ok (.iload 5, 2) := by decide +kernel
theorem dX13_sayType_291 : decode cX13_sayType 291 = .ok (.iaload, 1) := by decide +kernel
theorem dX13_sayType_292 : decode cX13_sayType 292 = .ok (.iaload, 1) := by decide +kernel
theorem dX13_sayType_293 : decode cX13_sayType 293 = .ok (.iload_n 3, 1) := by decide +kernel
theorem dX13_sayType_294 : decode cX13_sayType 294 = .ok (.invokevirtual 1021, 3) := by decide +kernel
theorem dX13_sayType_297 : decode cX13_sayType 297 = .ok (.iconst 0, 1) := by decide +kernel
theorem dX13_sayType_298 : decode cX13_sayType 298 = .ok (.istore_n 3, 1) := by decide +kernel
theorem dX13_sayType_299 : decode cX13_sayType 299 = .ok (.iinc 5 1, 3) := by decide +kernel
theorem dX13_sayType_302 : decode cX13_sayType 302 = .ok (.goto (-74), 3) := by decide +kernel
theorem dX13_sayType_305 : decode cX13_sayType 305 = .ok (.iload_n 3, 1) := by decide +kernel
theorem dX13_sayType_306 : decode cX13_sayType 306 = .ok (.ifCond .ne 9, 3) := by decide +kernel
theorem dX13_sayType_309 : decode cX13_sayType 309 = .ok (.aload_n 0, 1) := by decide +kernel
theorem dX13_sayType_310 : decode cX13_sayType 310 = .ok (.bipush 125, 2) := by decide +kernel
theorem dX13_sayType_312 : decode cX13_sayType 312 = .ok (.invokevirtual 992, 3) := by decide +kernel
theorem dX13_sayType_315 : decode cX13_sayType 315 = .ok (.aload_n 0, 1) := by decide +kernel
theorem dX13_sayType_316 : decode cX13_sayType 316 = .ok (.aload_n 0, 1) := by decide +kernel
theorem dX13_sayType_317 : decode cX13_sayType 317 = .ok (.getfield 142, 3) := by decide +kernel
theorem dX13_sayType_320 : decode cX13_sayType 320 = .ok (.iload_n 1, 1) := by decide +kernel
theorem dX13_sayType_321 : decode cX13_sayType 321 = .ok (.iaload, 1) := by decide +kernel
theorem dX13_sayType_322 : decode cX13_sayType 322 = .ok (.iconst 3, 1) := by decide +kernel
theorem dX13_sayType_323 : decode cX13_sayType 323 = .ok (.if_icmp .ne 9, 3) := by decide +kernel
theorem dX13_sayType_326 : decode cX13_sayType 326 = .ok (.ldc_w 489, 3) := by decide +kernel
theorem dX13_sayType_329 : decode cX13_sayType 329 = .ok (.goto 22, 3) := by decide +kernel
theorem dX13_sayType_332 : decode cX13_sayType 332 = .ok (.aload_n 0, 1) := by decide +kernel
theorem dX13_sayType_333 : decode cX13_sayType 333 = .ok (.getfield 142, 3) := by decide +kernel
theorem dX13_sayType_336 : decode cX13_sayType 336 = .ok (.iload_n 1, 1) := by decide +kernel
theorem dX13_sayType_337 : decode cX13_sayType 337 = .ok (.iaload, 1) := by decide +kernel
theorem dX13_sayType_338 : decode cX13_sayType 338 = .ok (.iconst 5, 1) := by decide +kernel
theorem dX13_sayType_339 : decode cX13_sayType 339 = .ok (.if_icmp .ne 9, 3) := by decide +kernel
theorem dX13_sayType_342 : decode cX13_sayType 342 = .ok (.ldc_w 491, 3) := by decide +kernel
theorem dX13_sayType_345 : decode cX13_sayType 345 = .ok (.goto 6, 3) := by decide +kernel
theorem dX13_sayType_348 : decode cX13_sayType 348 = .ok (.ldc_w 493, 3) := by decide +kernel
theorem dX13_sayType_351 : decode cX13_sayType 351 = .ok (.invokevirtual 1008, 3) := by decide +kernel
theorem dX13_sayType_354 : decode cX13_sayType 354 = .ok (.return_, 1) := by decide +kernel
theorem dX13_type_7 : decode cX13_type 7 = .ok (.aload_n 0, 1) := by decide +kernel
theorem dX13_type_8 : decode cX13_type 8 = .ok (.getfield 754, 3) := by decide +kernel
theorem dX13_type_11 : decode cX13_type 11 = .ok (.ifCond .eq 15, 3) := by decide +kernel
theorem dX13_type_14 : decode cX13_type 14 = .ok (.iload_n 1, 1) := by decide +kernel
theorem dX13_type_15 : decode cX13_type 15 = .ok (.ifCond .lt 11, 3) := by decide +kernel
theorem dX13_type_18 : decode cX13_type 18 = .ok (.iload_n 1, 1) := by decide +kernel
theorem dX13_type_19 : decode cX13_type 19 = .ok (.aload_n 0, 1) := by decide +kernel
theorem dX13_type_20 : decode cX13_type 20 = .ok (.getfield 627, 3) := by decide +kernel
theorem dX13_type_23 : decode cX13_type 23 = .ok (.if_icmp .lt 5, 3) := by decide +kernel
theorem dX13_type_28 : decode cX13_type 28 = .ok (.aload_n 0, 1) := by decide +kernel
theorem dX13_type_29 : decode cX13_type 29 = .ok (.iconst 0, 1) := by decide +kernel
theorem dX13_type_30 : decode cX13_type 30 = .ok (.putfield 989, 3) := by decide +kernel
theorem dX13_type_33 : decode cX13_type 33 = .ok (.aload_n 0, 1) := by decide +kernel
theorem dX13_type_34 : decode cX13_type 34 = .ok (.iconst 0, 1) := by decide +kernel
theorem dX13_type_35 : decode cX13_type 35 = .ok (.putfield 1001, 3) := by decide +kernel
theorem dX13_type_38 : decode cX13_type 38 = .ok (.iconst 0, 1) := by decide +kernel
theorem dX13_type_39 : decode cX13_type 39 = .ok (.istore_n 2, 1) := by decide +kernel
theorem dX13_type_40 : decode cX13_type 40 = .ok (.iload_n 2, 1) := by decide +kernel
theorem dX13_type_41 : decode cX13_type 41 = .ok (.sipush 800, 3) := by decide +kernel
theorem dX13_type_44 : decode cX13_type 44 = .ok (.if_icmp .ge 16, 3) := by decide +kernel
theorem dX13_type_47 : decode cX13_type 47 = .ok (.aload_n 0, 1) := by decide +kernel
theorem dX13_type_48 : decode cX13_type 48 = .ok (.getfield 324, 3) := by decide +kernel
theorem dX13_type_51 : decode cX13_type 51 = .ok (.iload_n 2, 1) := by decide +kernel
theorem dX13_type_52 : decode cX13_type 52 = .ok (.iconst (-1), 1) := by decide +kernel
theorem dX13_type_53 : decode cX13_type 53 = .ok (.iastore, 1) := by decide +kernel
theorem dX13_type_54 : decode cX13_type 54 = .ok (.iinc 2 1, 3) := by decide +kernel
theorem dX13_type_57 : decode cX13_type 57 = .ok (.goto (-17), 3) := by decide +kernel
theorem dX13_type_60 : decode cX13_type 60 = .ok (.aload_n 0, 1) := by decide +kernel
theorem dX13_type_61 : decode cX13_type 61 = .ok (.aload_n 0, 1) := by decide +kernel
theorem dX13_type_62 : decode cX13_type 62 = .ok (.getfield 240, 3) := by decide +kernel
theorem dX13_type_65 : decode cX13_type 65 = .ok (.iload_n 1, 1) := by decide +kernel
theorem dX13_type_66 : decode cX13_type 66 = .ok (.iaload, 1) := by decide +kernel
theorem dX13_type_67 : decode cX13_type 67 = .ok (.invokevirtual 1018, 3) := by decide +kernel
theorem dX13_type_70 : decode cX13_type 70 = .ok (.aload_n 0, 1) := by decide +kernel
theorem dX13_type_71 : decode cX13_type 71 = .ok (.getfield 989, 3) := by decide +kernel
theorem dX13_type_74 : decode cX13_type 74 = .ok (.sipush 16000, 3) := by decide +kernel
theorem dX13_type_77 : decode cX13_type 77 = .ok (.if_icmp .le 5, 3) := by decide +kernel
theorem dX13_type_80 : decode cX13_type 80 = .ok (.iconst (-1), 1) := by decide +kernel
theorem dX13_type_81 : decode cX13_type 81 = .ok (.ireturn, 1) := by decide +kernel
theorem dX13_type_82 : decode cX13_type 82 = .ok (.iconst 0, 1) := by decide +kernel
theorem dX13_type_83 : decode cX13_type 83 = .ok (.istore_n 2, 1) := by decide +kernel
theorem dX13_type_84 : decode cX13_type 84 = .ok (.iload_n 2, 1) := by decide +kernel
theorem dX13_type_85 : decode cX13_type 85 = .ok (.aload_n 0, 1) := by decide +kernel
theorem dX13_type_86 : decode cX13_type 86 = .ok (.getfield 989, 3) := by decide +kernel
theorem dX13_type_89 : decode cX13_type 89 = .ok (.if_icmp .ge 21, 3) := by decide +kernel
theorem dX13_type_92 : decode cX13_type 92 = .ok (.aload_n 0, 1) := by decide +kernel
theorem dX13_type_93 : decode cX13_type 93 = .ok (.getfield 16, 3) := by decide +kernel
theorem dX13_type_96 : decode cX13_type 96 = .ok (.iload_n 2, 1) := by decide +kernel
theorem dX13_type_97 : decode cX13_type 97 = .ok (.aload_n 0, 1) := by decide +kernel
theorem dX13_type_98 : decode cX13_type 98 = .ok (.getfield 321, 3) := by decide +kernel
theorem dX13_type_101 : decode cX13_type 101 = .ok (.iload_n 2, 1) := by decide +kernel
theorem dX13_type_102 : decode cX13_type 102 = .ok (.baload, 1) := by decide +kernel
theorem dX13_type_103 : decode cX13_type 103 = .ok (.bastore, 1) := by decide +kernel
theorem dX13_type_104 : decode cX13_type 104 = .ok (.iinc 2 1, 3) := by decide +kernel
theorem dX13_type_107 : decode cX13_type 107 = .ok (.goto (-23), 3) := by decide +kernel
theorem dX13_type_110 : decode cX13_type 110 = .ok (.aload_n 0, 1) := by decide +kernel
theorem dX13_type_111 : decode cX13_type 111 = .ok (.aload_n 0, 1) := by decide +kernel
theorem dX13_type_112 : decode cX13_type 112 = .ok (.getfield 989, 3) := by decide +kernel
theorem dX13_type_115 : decode cX13_type 115 = .ok (.putfield 389, 3) := by decide +kernel
theorem dX13_type_118 : decode cX13_type 118 = .ok (.aload_n 0, 1) := by decide +kernel
theorem dX13_type_119 : decode cX13_type 119 = .ok (.getfield 389, 3) := by decide +kernel
theorem dX13_type_122 : decode cX13_type 122 = .ok (.ireturn, 1) := by decide +kernel
theorem dX13_give_7 : decode cX13_give 7 = .ok (.iload_n 1, 1) := by decide +kernel
theorem dX13_give_8 : decode cX13_give 8 = .ok (.ifCond .lt 32, 3) := by decide +kernel
theorem dX13_give_11 : decode cX13_give 11 = .ok (.iload_n 1, 1) := by decide +kernel
theorem dX13_give_12 : decode cX13_give 12 = .ok (.aload_n 0, 1) := by decide +kernel
theorem dX13_give_13 : decode cX13_give 13 = .ok (.getfield 481, 3) := by decide +kernel
theorem dX13_give_16 : decode cX13_give 16 = .ok (.if_icmp .ge 24, 3) := by decide +kernel
theorem dX13_give_19 : decode cX13_give 19 = .ok (.aload_n 0, 1) := by decide +kernel
theorem dX13_give_20 : decode cX13_give 20 = .ok (.getfield 95, 3) := by decide +kernel
theorem dX13_give_23 : decode cX13_give 23 = .ok (.iload_n 1, 1) := by decide +kernel
theorem dX13_give_24 : decode cX13_give 24 = .ok (.iaload, 1) := by decide +kernel
theorem dX13_give_25 : decode cX13_give 25 = .ok (.iconst 2, 1) := by decide +kernel
theorem dX13_give_26 : decode cX13_give 26 = .ok (.if_icmp .ne 16, 3) := by decide +kernel
theorem dX13_give_29 : decode cX13_give 29 = .ok (.iload_n 2, 1) := by decide +kernel
theorem dX13_give_30 : decode cX13_give 30 = .ok (.ifCond .lt 10, 3) := by decide +kernel
theorem dX13_give_33 : decode cX13_give 33 = .ok (.iload_n 2, 1) := by decide +kernel
theorem dX13_give_34 : decode cX13_give 34 = .ok (.sipush 1000, 3) := by decide +kernel
theorem dX13_give_37 : decode cX13_give 37 = .ok (.if_icmp .le 5, 3) := by decide +kernel
theorem dX13_give_42 : decode cX13_give 42 = .ok (.aload_n 0, 1) := by decide +kernel
theorem dX13_give_43 : decode cX13_give 43 = .ok (.getfield 327, 3) := by decide +kernel
theorem dX13_give_46 : decode cX13_give 46 = .ok (.iload_n 1, 1) := by decide +kernel
theorem dX13_give_47 : decode cX13_give 47 = .ok (.aload_n 0, 1) := by decide +kernel
theorem dX13_give_48 : decode cX13_give 48 = .ok (.getfield 95, 3) := by decide +kernel
theorem dX13_give_51 : decode cX13_give 51 = .ok (.iload_n 1, 1) := by decide +kernel
theorem dX13_give_52 : decode cX13_give 52 = .ok (.iaload, 1) := by decide +kernel
theorem dX13_give_53 : decode cX13_give 53 = .ok (.iconst 1, 1) := by decide +kernel
theorem dX13_give_54 : decode cX13_give 54 = .ok (.if_icmp .ne 15, 3) := by decide +kernel
theorem dX13_give_57 : decode cX13_give 57 = .ok (.iload_n 2, 1) := by decide +kernel
theorem dX13_give_58 : decode cX13_give 58 = .ok (.ifCond .eq 7, 3) := by decide +kernel
theorem dX13_give_61 : decode cX13_give 61 = .ok (.lconst 1, 1) := by decide +kernel
theorem dX13_give_62 : decode cX13_give 62 = .ok (.goto 9, 3) := by decide +kernel
theorem dX13_give_65 : decode cX13_give 65 = .ok (.lconst 0, 1) := by decide +kernel
theorem dX13_give_66 : decode cX13_give 66 = .ok (.goto 5, 3) := by decide +kernel
theorem dX13_give_69 : decode cX13_give 69 = .ok (.iload_n 2, 1) := by decide +kernel
theorem dX13_give_70 : decode cX13_give 70 = .ok (.i2l, 1) := by decide +kernel
theorem dX13_give_71 : decode cX13_give 71 = .ok (.lastore, 1) := by decide +kernel
theorem dX13_give_72 : decode cX13_give 72 = .ok (.aload_n 0, 1) := by decide +kernel
theorem dX13_give_73 : decode cX13_give 73 = .ok (.getfield 95, 3) := by decide +kernel
theorem dX13_give_76 : decode cX13_give 76 = .ok (.iload_n 1, 1) := by decide +kernel
theorem dX13_give_77 : decode cX13_give 77 = .ok (.iaload, 1) := by decide +kernel
theorem dX13_give_78 : decode cX13_give 78 = .ok (.iconst 2, 1) := by decide +kernel
theorem dX13_give_79 : decode cX13_give 79 = .ok (.if_icmp .ne 31, 3) := by decide +kernel
theorem dX13_give_82 : decode cX13_give 82 = .ok (.iconst 0, 1) := by decide +kernel
theorem dX13_give_83 : decode cX13_give 83 = .ok (.istore_n 3, 1) := by decide +kernel
theorem dX13_give_84 : decode cX13_give 84 = .ok (.iload_n 3, 1) := by decide +kernel
theorem dX13_give_85 : decode cX13_give 85 = .ok (.sipush 1000, 3) := by decide +kernel
theorem dX13_give_88 : decode cX13_give 88 = .ok (.if_icmp .ge 22, 3) := by decide +kernel
theorem dX13_give_91 : decode cX13_give 91 = .ok (.aload_n 0, 1) := by decide +kernel
theorem dX13_give_92 : decode cX13_give 92 = .ok (.getfield 330, 3) := by decide +kernel
theorem dX13_give_95 : decode cX13_give 95 = .ok (.sipush 1000, 3) := by decide +kernel
theorem dX13_give_98 : decode cX13_give 98 = .ok (.iload_n 1, 1) := by decide +kernel
theorem dX13_give_99 : decode cX13_give 99 = .ok (.imul, 1) := by decide +kernel
theorem dX13_give_100 : decode cX13_give 100 = .ok (.iload_n 3, 1) := by decide +kernel
theorem dX13_give_101 : decode cX13_give 101 = .ok (.iadd, 1) := by decide +kernel
theorem dX13_give_102 : decode cX13_give 102 = .ok (.lconst 0, 1) := by decide +kernel
theorem dX13_give_103 : decode cX13_give 103 = .ok (.lastore, 1) := by decide +kernel
theorem dX13_give_104 : decode cX13_give 104 = .ok (.iinc 3 1, 3) := by decide +kernel
theorem dX13_give_107 : decode cX13_give 107 = .ok (.goto (-23), 3) := by decide +kernel
theorem dX13_give_110 : decode cX13_give 110 = .ok (.iconst 1, 1) := by decide +kernel
theorem dX13_give_111 : decode cX13_give 111 = .ok (.ireturn, 1) := by decide +kernel
