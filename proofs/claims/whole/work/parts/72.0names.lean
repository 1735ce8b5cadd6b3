theorem dX13_program_45 : decode cX13_program 45 = .ok (.aload_n 0, 1) := by decide +kernel
theorem dX13_program_46 : decode cX13_program 46 = .ok (.getfield 478, 3) := by decide +kernel
theorem dX13_program_49 : decode cX13_program 49 = .ok (.bipush 6, 2) := by decide +kernel
theorem dX13_program_51 : decode cX13_program 51 = .ok (.if_icmp .ne 7, 3) := by decide +kernel
theorem dX13_program_54 : decode cX13_program 54 = .ok (.aload_n 0, 1) := by decide +kernel
theorem dX13_program_55 : decode cX13_program 55 = .ok (.invokevirtual 450, 3) := by decide +kernel
theorem dX13_program_58 : decode cX13_program 58 = .ok (.aload_n 0, 1) := by decide +kernel
theorem dX13_program_59 : decode cX13_program 59 = .ok (.getfield 392, 3) := by decide +kernel
theorem dX13_program_62 : decode cX13_program 62 = .ok (.ifCond .eq 4, 3) := by decide +kernel
theorem dX13_program_65 : decode cX13_program 65 = .ok (.return_, 1) := by decide +kernel
theorem dX13_program_66 : decode cX13_program 66 = .ok (.aload_n 0, 1) := by decide +kernel
theorem dX13_program_67 : decode cX13_program 67 = .ok (.dup, 1) := by decide +kernel
theorem dX13_program_68 : decode cX13_program 68 = .ok (.getfield 433, 3) := by decide +kernel
theorem dX13_program_71 : decode cX13_program 71 = .ok (.iconst 1, 1) := by decide +kernel
theorem dX13_program_72 : decode cX13_program 72 = .ok (.iadd, 1) := by decide +kernel
theorem dX13_program_73 : decode cX13_program 73 = .ok (.putfield 433, 3) := by decide +kernel
theorem dX13_program_76 : decode cX13_program 76 = .ok (.aload_n 0, 1) := by decide +kernel
theorem dX13_program_77 : decode cX13_program 77 = .ok (.getfield 77, 3) := by decide +kernel
theorem dX13_program_80 : decode cX13_program 80 = .ok (.aload_n 0, 1) := by decide +kernel
theorem dX13_program_81 : decode cX13_program 81 = .ok (.getfield 478, 3) := by decide +kernel
theorem dX13_program_84 : decode cX13_program 84 = .ok (.aload_n 0, 1) := by decide +kernel
theorem dX13_program_85 : decode cX13_program 85 = .ok (.ldc_w 489, 3) := by decide +kernel
theorem dX13_program_88 : decode cX13_program 88 = .ok (.invokevirtual 443, 3) := by decide +kernel
theorem dX13_program_91 : decode cX13_program 91 = .ok (.ifCond .eq 7, 3) := by decide +kernel
theorem dX13_program_94 : decode cX13_program 94 = .ok (.iconst 1, 1) := by decide +kernel
theorem dX13_program_95 : decode cX13_program 95 = .ok (.goto 18, 3) := by decide +kernel
theorem dX13_program_98 : decode cX13_program 98 = .ok (.aload_n 0, 1) := by decide +kernel
theorem dX13_program_99 : decode cX13_program 99 = .ok (.ldc_w 491, 3) := by decide +kernel
theorem dX13_program_102 : decode cX13_program 102 = .ok (.invokevirtual 443, 3) := by decide +kernel
theorem dX13_program_105 : decode cX13_program 105 = .ok (.ifCond .eq 7, 3) := by decide +kernel
theorem dX13_program_108 : decode cX13_program 108 = .ok (.iconst 2, 1) := by decide +kernel
theorem dX13_program_109 : decode cX13_program 109 = .ok (.goto 4, 3) := by decide +kernel
theorem dX13_program_112 : decode cX13_program 112 = .ok (.iconst 0, 1) := by decide +kernel
theorem dX13_program_113 : decode cX13_program 113 = .ok (.iastore, 1) := by decide +kernel
theorem dX13_program_114 : decode cX13_program 114 = .ok (.aload_n 0, 1) := by decide +kernel
theorem dX13_program_115 : decode cX13_program 115 = .ok (.ldc_w 493, 3) := by decide +kernel
theorem dX13_program_118 : decode cX13_program 118 = .ok (.invokevirtual 443, 3) := by decide +kernel
theorem dX13_program_121 : decode cX13_program 121 = .ok (.ifCond .ne 23, 3) := by decide +kernel
theorem dX13_program_124 : decode cX13_program 124 = .ok (.aload_n 0, 1) := by decide +kernel
theorem dX13_program_125 : decode cX13_program 125 = .ok (.ldc_w 489, 3) := by decide +kernel
theorem dX13_program_128 : decode cX13_program 128 = .ok (.invokevirtual 443, 3) := by decide +kernel
theorem dX13_program_131 : decode cX13_program 131 = .ok (.ifCond .ne 13, 3) := by decide +kernel
theorem dX13_program_134 : decode cX13_program 134 = .ok (.aload_n 0, 1) := by decide +kernel
theorem dX13_program_135 : decode cX13_program 135 = .ok (.ldc_w 491, 3) := by decide +kernel
theorem dX13_program_138 : decode cX13_program 138 = .ok (.invokevirtual 443, 3) := by decide +kernel
theorem dX13_program_141 : decode cX13_program 141 = .ok (.ifCond .eq 16, 3) := by decide +kernel
theorem dX13_program_144 : decode cX13_program 144 = .ok (.aload_n 0, 1) := by decide +kernel
theorem dX13_program_145 : decode cX13_program 145 = .ok (.dup, 1) := by decide +kernel
theorem dX13_program_146 : decode cX13_program 146 = .ok (.getfield 433, 3) := by decide +kernel
theorem dX13_program_149 : decode cX13_program 149 = .ok (.iconst 1, 1) := by decide +kernel
theorem dX13_program_150 : decode cX13_program 150 = .ok (.iadd, 1) := by decide +kernel
theorem dX13_program_151 : decode cX13_program 151 = .ok (.putfield 433, 3) := by decide +kernel
theorem dX13_program_154 : decode cX13_program 154 = .ok (.goto 7, 3) := by decide +kernel
theorem dX13_program_157 : decode cX13_program 157 = .ok (.aload_n 0, 1) := by decide +kernel
theorem dX13_program_158 : decode cX13_program 158 = .ok (.invokevirtual 450, 3) := by decide +kernel
theorem dX13_program_161 : decode cX13_program 161 = .ok (.aload_n 0, 1) := by decide +kernel
theorem dX13_program_162 : decode cX13_program 162 = .ok (.ldc_w 495, 3) := by decide +kernel
theorem dX13_program_165 : decode cX13_program 165 = .ok (.invokevirtual 497, 3) := by decide +kernel
theorem dX13_program_168 : decode cX13_program 168 = .ok (.aload_n 0, 1) := by decide +kernel
theorem dX13_program_169 : decode cX13_program 169 = .ok (.ldc_w 501, 3) := by decide +kernel
theorem dX13_program_172 : decode cX13_program 172 = .ok (.invokevirtual 497, 3) := by decide +kernel
theorem dX13_program_175 : decode cX13_program 175 = .ok (.aload_n 0, 1) := by decide +kernel
theorem dX13_program_176 : decode cX13_program 176 = .ok (.invokevirtual 503, 3) := by decide +kernel
theorem dX13_program_179 : decode cX13_program 179 = .ok (.istore_n 1, 1) := by decide +kernel
theorem dX13_program_180 : decode cX13_program 180 = .ok (.iload_n 1, 1) := by decide +kernel
theorem dX13_program_181 : decode cX13_program 181 = .ok (.ifCond .lt 8, 3) := by decide +kernel
theorem dX13_program_184 : decode cX13_program 184 = .ok (.iload_n 1, 1) := by decide +kernel
theorem dX13_program_185 : decode cX13_program 185 = .ok (.iconst 5, 1) := by decide +kernel
theorem dX13_program_186 : decode cX13_program 186 = .ok (.if_icmp .ne 7, 3) := by decide +kernel
theorem dX13_program_189 : decode cX13_program 189 = .ok (.aload_n 0, 1) := by decide +kernel
theorem dX13_program_190 : decode cX13_program 190 = .ok (.invokevirtual 450, 3) := by decide +kernel
theorem dX13_program_193 : decode cX13_program 193 = .ok (.aload_n 0, 1) := by decide +kernel
theorem dX13_program_194 : decode cX13_program 194 = .ok (.dup, 1) := by decide +kernel
theorem dX13_program_195 : decode cX13_program 195 = .ok (.getfield 433, 3) := by decide +kernel
theorem dX13_program_198 : decode cX13_program 198 = .ok (.iconst 1, 1) := by decide +kernel
theorem dX13_program_199 : decode cX13_program 199 = .ok (.iadd, 1) := by decide +kernel
theorem dX13_program_200 : decode cX13_program 200 = .ok (.putfield 433, 3) := by decide +kernel
theorem dX13_program_203 : decode cX13_program 203 = .ok (.aload_n 0, 1) := by decide +kernel
theorem dX13_program_204 : decode cX13_program 204 = .ok (.getfield 80, 3) := by decide +kernel
theorem dX13_program_207 : decode cX13_program 207 = .ok (.aload_n 0, 1) := by decide +kernel
theorem dX13_program_208 : decode cX13_program 208 = .ok (.getfield 478, 3) := by decide +kernel
theorem dX13_program_211 : decode cX13_program 211 = .ok (.iload_n 1, 1) := by decide +kernel
theorem dX13_program_212 : decode cX13_program 212 = .ok (.iastore, 1) := by decide +kernel
theorem dX13_program_213 : decode cX13_program 213 = .ok (.aload_n 0, 1) := by decide +kernel
theorem dX13_program_214 : decode cX13_program 214 = .ok (.getfield 83, 3) := by decide +kernel
theorem dX13_program_217 : decode cX13_program 217 = .ok (.aload_n 0, 1) := by decide +kernel
theorem dX13_program_218 : decode cX13_program 218 = .ok (.getfield 478, 3) := by decide +kernel
theorem dX13_program_221 : decode cX13_program 221 = .ok (.aload_n 0, 1) := by decide +kernel
theorem dX13_program_222 : decode cX13_program 222 = .ok (.ldc_w 506, 3) := by decide +kernel
theorem dX13_program_225 : decode cX13_program 225 = .ok (.invokevirtual 447, 3) := by decide +kernel
theorem dX13_program_228 : decode cX13_program 228 = .ok (.ifCond .eq 7, 3) := by decide +kernel
theorem dX13_program_231 : decode cX13_program 231 = .ok (.iconst 1, 1) := by decide +kernel
theorem dX13_program_232 : decode cX13_program 232 = .ok (.goto 4, 3) := by decide +kernel
theorem dX13_program_235 : decode cX13_program 235 = .ok (.iconst 0, 1) := by decide +kernel
theorem dX13_program_236 : decode cX13_program 236 = .ok (.iastore, 1) := by decide +kernel
theorem dX13_program_237 : decode cX13_program 237 = .ok (.aload_n 0, 1) := by decide +kernel
theorem dX13_program_238 : decode cX13_program 238 = .ok (.getfield 86, 3) := by decide +kernel
theorem dX13_program_241 : decode cX13_program 241 = .ok (.aload_n 0, 1) := by decide +kernel
theorem dX13_program_242 : decode cX13_program 242 = .ok (.getfield 478, 3) := by decide +kernel
theorem dX13_program_245 : decode cX13_program 245 = .ok (.aload_n 0, 1) := by decide +kernel
theorem dX13_program_246 : decode cX13_program 246 = .ok (.ldc_w 508, 3) := by decide +kernel
theorem dX13_program_249 : decode cX13_program 249 = .ok (.invokevirtual 447, 3) := by decide +kernel
theorem dX13_program_252 : decode cX13_program 252 = .ok (.ifCond .eq 7, 3) := by decide +kernel
theorem dX13_program_255 : decode cX13_program 255 = .ok (.iconst 1, 1) := by decide +kernel
theorem dX13_program_256 : decode cX13_program 256 = .ok (.goto 4, 3) := by decide +kernel
theorem dX13_program_259 : decode cX13_program 259 = .ok (.iconst 0, 1) := by decide +kernel
theorem dX13_program_260 : decode cX13_program 260 = .ok (.iastore, 1) := by decide +kernel
theorem dX13_program_261 : decode cX13_program 261 = .ok (.aload_n 0, 1) := by decide +kernel
theorem dX13_program_262 : decode cX13_program 262 = .ok (.getfield 89, 3) := by decide +kernel
theorem dX13_program_265 : decode cX13_program 265 = .ok (.aload_n 0, 1) := by decide +kernel
theorem dX13_program_266 : decode cX13_program 266 = .ok (.getfield 478, 3) := by decide +kernel
theorem dX13_program_269 : decode cX13_program 269 = .ok (.iconst 0, 1) := by decide +kernel
theorem dX13_program_270 : decode cX13_program 270 = .ok (.iastore, 1) := by decide +kernel
theorem dX13_program_271 : decode cX13_program 271 = .ok (.aload_n 0, 1) := by decide +kernel
theorem dX13_program_272 : decode cX13_program 272 = .ok (.getfield 86, 3) := by decide +kernel
theorem dX13_program_275 : decode cX13_program 275 = .ok (.aload_n 0, 1) := by decide +kernel
theorem dX13_program_276 : decode cX13_program 276 = .ok (.getfield 478, 3) := by decide +kernel
theorem dX13_program_279 : decode cX13_program 279 = .ok (.iaload, 1) := by decide +kernel
theorem dX13_program_280 : decode cX13_program 280 = .ok (.iconst 1, 1) := by decide +kernel
theorem dX13_program_281 : decode cX13_program 281 = .ok (.if_icmp .ne 62, 3) := by decide +kernel
theorem dX13_program_284 : decode cX13_program 284 = .ok (.aload_n 0, 1) := by decide +kernel
theorem dX13_program_285 : decode cX13_program 285 = .ok (.ldc_w 506, 3) := by decide +kernel
theorem dX13_program_288 : decode cX13_program 288 = .ok (.invokevirtual 443, 3) := by decide +kernel
theorem dX13_program_291 : decode cX13_program 291 = .ok (.istore_n 2, 1) := by decide +kernel
theorem dX13_program_292 : decode cX13_program 292 = .ok (.iload_n 2, 1) := by decide +kernel
theorem dX13_program_293 : decode cX13_program 293 = .ok (.ifCond .ne 13, 3) := by decide +kernel
theorem dX13_program_296 : decode cX13_program 296 = .ok (.aload_n 0, 1) := by decide +kernel
theorem dX13_program_297 : decode cX13_program 297 = .ok (.ldc_w 510, 3) := by decide +kernel
theorem dX13_program_300 : decode cX13_program 300 = .ok (.invokevirtual 443, 3) := by decide +kernel
theorem dX13_program_303 : decode cX13_program 303 = .ok (.ifCond .eq 37, 3) := by decide +kernel
theorem dX13_program_306 : decode cX13_program 306 = .ok (.aload_n 0, 1) := by decide +kernel
theorem dX13_program_307 : decode cX13_program 307 = .ok (.dup, 1) := by decide +kernel
theorem dX13_program_308 : decode cX13_program 308 = .ok (.getfield 433, 3) := by decide +kernel
theorem dX13_program_311 : decode cX13_program 311 = .ok (.iconst 1, 1) := by decide +kernel
theorem dX13_program_312 : decode cX13_program 312 = .ok (.iadd, 1) := by decide +kernel
theorem dX13_program_313 : decode cX13_program 313 = .ok (.putfield 433, 3) := by decide +kernel
theorem dX13_program_316 : decode cX13_program 316 = .ok (.aload_n 0, 1) := by decide +kernel
theorem dX13_program_317 : decode cX13_program 317 = .ok (.invokevirtual 512, 3) := by decide +kernel
theorem dX13_program_320 : decode cX13_program 320 = .ok (.istore_n 3, 1) := by decide +kernel
theorem dX13_program_321 : decode cX13_program 321 = .ok (.aload_n 0, 1) := by decide +kernel
theorem dX13_program_322 : decode cX13_program 322 = .ok (.getfield 89, 3) := by decide +kernel
theorem dX13_program_325 : decode cX13_program 325 = .ok (.aload_n 0, 1) := by decide +kernel
theorem dX13_program_326 : decode cX13_program 326 = .ok (.getfield 478, 3) := by decide +kernel
theorem dX13_program_329 : decode cX13_program 329 = .ok (.iload_n 2, 1) := by decide +kernel
theorem dX13_program_330 : decode cX13_program 330 = .ok (.ifCond .eq 8, 3) := by decide +kernel
theorem dX13_program_333 : decode cX13_program 333 = .ok (.iload_n 3, 1) := by decide +kernel
theorem dX13_program_334 : decode cX13_program 334 = .ok (.ineg, 1) := by decide +kernel
theorem dX13_program_335 : decode cX13_program 335 = .ok (.goto 4, 3) := by decide +kernel
theorem dX13_program_338 : decode cX13_program 338 = .ok (.iload_n 3, 1) := by decide +kernel
theorem dX13_program_339 : decode cX13_program 339 = .ok (.iastore, 1) := by decide +kernel
theorem dX13_program_340 : decode cX13_program 340 = .ok (.goto 36, 3) := by decide +kernel
theorem dX13_program_343 : decode cX13_program 343 = .ok (.aload_n 0, 1) := by decide +kernel
theorem dX13_program_344 : decode cX13_program 344 = .ok (.invokevirtual 512, 3) := by decide +kernel
theorem dX13_program_347 : decode cX13_program 347 = .ok (.istore_n 2, 1) := by decide +kernel
theorem dX13_program_348 : decode cX13_program 348 = .ok (.aload_n 0, 1) := by decide +kernel
theorem dX13_program_349 : decode cX13_program 349 = .ok (.getfield 89, 3) := by decide +kernel
theorem dX13_program_352 : decode cX13_program 352 = .ok (.aload_n 0, 1) := by decide +kernel
theorem dX13_program_353 : decode cX13_program 353 = .ok (.getfield 478, 3) := by decide +kernel
theorem dX13_program_356 : decode cX13_program 356 = .ok (.aload_n 0, 1) := by decide +kernel
theorem dX13_program_357 : decode cX13_program 357 = .ok (.getfield 83, 3) := by decide +kernel
theorem dX13_program_360 : decode cX13_program 360 = .ok (.aload_n 0, 1) := by decide +kernel
theorem dX13_program_361 : decode cX13_program 361 = .ok (.getfield 478, 3) := by decide +kernel
theorem dX13_program_364 : decode cX13_program 364 = .ok (.iaload, 1) := by decide +kernel
theorem dX13_program_365 : decode cX13_program 365 = .ok (.iconst 1, 1) := by decide +kernel
theorem dX13_program_366 : decode cX13_program 366 = .ok (.if_icmp .ne 8, 3) := by decide +kernel
theorem dX13_program_369 : decode cX13_program 369 = .ok (.iload_n 2, 1) := by decide +kernel
theorem dX13_program_370 : decode cX13_program 370 = .ok (.ineg, 1) := by decide +kernel
theorem dX13_program_371 : decode cX13_program 371 = .ok (.goto 4, 3) := by decide +kernel
theorem dX13_program_374 : decode cX13_program 374 = .ok (.iload_n 2, 1) := by decide +kernel
theorem dX13_program_375 : decode cX13_program 375 = .ok (.iastore, 1) := by decide +kernel
theorem dX13_program_376 : decode cX13_program 376 = .ok (.aload_n 0, 1) := by decide +kernel
theorem dX13_program_377 : decode cX13_program 377 = .ok (.ldc_w 515, 3) := by decide +kernel
theorem dX13_program_380 : decode cX13_program 380 = .ok (.invokevirtual 497, 3) := by decide +kernel
theorem dX13_program_383 : decode cX13_program 383 = .ok (.aload_n 0, 1) := by decide +kernel
theorem dX13_program_384 : decode cX13_program 384 = .ok (.dup, 1) := by decide +kernel
theorem dX13_program_385 : decode cX13_program 385 = .ok (.getfield 478, 3) := by decide +kernel
theorem dX13_program_388 : decode cX13_program 388 = .ok (.iconst 1, 1) := by decide +kernel
theorem dX13_program_389 : decode cX13_program 389 = .ok (.iadd, 1) := by decide +kernel
theorem dX13_program_390 : decode cX13_program 390 = .ok (.putfield 478, 3) := by decide +kernel
theorem dX13_program_393 : decode cX13_program 393 = .ok (.goto (-358), 3) := by decide +kernel
theorem dX13_program_406 : decode cX13_program 406 = .ok (.aload_n 0, 1) := by decide +kernel
theorem dX13_program_407 : decode cX13_program 407 = .ok (.getfield 481, 3) := by decide +kernel
theorem dX13_program_410 : decode cX13_program 410 = .ok (.bipush 6, 2) := by decide +kernel
theorem dX13_program_412 : decode cX13_program 412 = .ok (.if_icmp .ne 7, 3) := by decide +kernel
theorem dX13_program_415 : decode cX13_program 415 = .ok (.aload_n 0, 1) := by decide +kernel
theorem dX13_program_416 : decode cX13_program 416 = .ok (.invokevirtual 450, 3) := by decide +kernel
theorem dX13_program_419 : decode cX13_program 419 = .ok (.aload_n 0, 1) := by decide +kernel
theorem dX13_program_420 : decode cX13_program 420 = .ok (.getfield 392, 3) := by decide +kernel
theorem dX13_program_423 : decode cX13_program 423 = .ok (.ifCond .eq 4, 3) := by decide +kernel
theorem dX13_program_426 : decode cX13_program 426 = .ok (.return_, 1) := by decide +kernel
theorem dX13_program_427 : decode cX13_program 427 = .ok (.aload_n 0, 1) := by decide +kernel
theorem dX13_program_428 : decode cX13_program 428 = .ok (.dup, 1) := by decide +kernel
theorem dX13_program_429 : decode cX13_program 429 = .ok (.getfield 433, 3) := by decide +kernel
theorem dX13_program_432 : decode cX13_program 432 = .ok (.iconst 1, 1) := by decide +kernel
theorem dX13_program_433 : decode cX13_program 433 = .ok (.iadd, 1) := by decide +kernel
theorem dX13_program_434 : decode cX13_program 434 = .ok (.putfield 433, 3) := by decide +kernel
theorem dX13_program_437 : decode cX13_program 437 = .ok (.aload_n 0, 1) := by decide +kernel
theorem dX13_program_438 : decode cX13_program 438 = .ok (.getfield 92, 3) := by decide +kernel
theorem dX13_program_441 : decode cX13_program 441 = .ok (.aload_n 0, 1) := by decide +kernel
theorem dX13_program_442 : decode cX13_program 442 = .ok (.getfield 481, 3) := by decide +kernel
theorem dX13_program_445 : decode cX13_program 445 = .ok (.aload_n 0, 1) := by decide +kernel
theorem dX13_program_446 : decode cX13_program 446 = .ok (.invokevirtual 519, 3) := by decide +kernel
theorem dX13_program_449 : decode cX13_program 449 = .ok (.iastore, 1) := by decide +kernel
theorem dX13_program_450 : decode cX13_program 450 = .ok (.aload_n 0, 1) := by decide +kernel
theorem dX13_program_451 : decode cX13_program 451 = .ok (.ldc_w 495, 3) := by decide +kernel
theorem dX13_program_454 : decode cX13_program 454 = .ok (.invokevirtual 497, 3) := by decide +kernel
theorem dX13_program_457 : decode cX13_program 457 = .ok (.aload_n 0, 1) := by decide +kernel
theorem dX13_program_458 : decode cX13_program 458 = .ok (.getfield 95, 3) := by decide +kernel
theorem dX13_program_461 : decode cX13_program 461 = .ok (.aload_n 0, 1) := by decide +kernel
theorem dX13_program_462 : decode cX13_program 462 = .ok (.getfield 481, 3) := by decide +kernel
theorem dX13_program_465 : decode cX13_program 465 = .ok (.aload_n 0, 1) := by decide +kernel
theorem dX13_program_466 : decode cX13_program 466 = .ok (.ldc_w 493, 3) := by decide +kernel
theorem dX13_program_469 : decode cX13_program 469 = .ok (.invokevirtual 443, 3) := by decide +kernel
theorem dX13_program_472 : decode cX13_program 472 = .ok (.ifCond .eq 7, 3) := by decide +kernel
theorem dX13_program_475 : decode cX13_program 475 = .ok (.iconst 0, 1) := by decide +kernel
theorem dX13_program_476 : decode cX13_program 476 = .ok (.goto 18, 3) := by decide +kernel
theorem dX13_program_479 : decode cX13_program 479 = .ok (.aload_n 0, 1) := by decide +kernel
theorem dX13_program_480 : decode cX13_program 480 = .ok (.ldc_w 522, 3) := by decide +kernel
theorem dX13_program_483 : decode cX13_program 483 = .ok (.invokevirtual 443, 3) := by decide +kernel
theorem dX13_program_486 : decode cX13_program 486 = .ok (.ifCond .eq 7, 3) := by decide +kernel
theorem dX13_program_489 : decode cX13_program 489 = .ok (.iconst 1, 1) := by decide +kernel
theorem dX13_program_490 : decode cX13_program 490 = .ok (.goto 4, 3) := by decide +kernel
theorem dX13_program_493 : decode cX13_program 493 = .ok (.iconst 2, 1) := by decide +kernel
theorem dX13_program_494 : decode cX13_program 494 = .ok (.iastore, 1) := by decide +kernel
theorem dX13_program_495 : decode cX13_program 495 = .ok (.aload_n 0, 1) := by decide +kernel
theorem dX13_program_496 : decode cX13_program 496 = .ok (.ldc_w 493, 3) := by decide +kernel
theorem dX13_program_499 : decode cX13_program 499 = .ok (.invokevirtual 443, 3) := by decide +kernel
theorem dX13_program_502 : decode cX13_program 502 = .ok (.ifCond .ne 23, 3) := by decide +kernel
theorem dX13_program_505 : decode cX13_program 505 = .ok (.aload_n 0, 1) := by decide +kernel
theorem dX13_program_506 : decode cX13_program 506 = .ok (.ldc_w 522, 3) := by decide +kernel
theorem dX13_program_509 : decode cX13_program 509 = .ok (.invokevirtual 443, 3) := by decide +kernel
theorem dX13_program_512 : decode cX13_program 512 = .ok (.ifCond .ne 13, 3) := by decide +kernel
theorem dX13_program_515 : decode cX13_program 515 = .ok (.aload_n 0, 1) := by decide +kernel
theorem dX13_program_516 : decode cX13_program 516 = .ok (.ldc_w 489, 3) := by decide +kernel
theorem dX13_program_519 : decode cX13_program 519 = .ok (.invokevirtual 443, 3) := by decide +kernel
theorem dX13_program_522 : decode cX13_program 522 = .ok (.ifCond .eq 16, 3) := by decide +kernel
theorem dX13_program_525 : decode cX13_program 525 = .ok (.aload_n 0, 1) := by decide +kernel
theorem dX13_program_526 : decode cX13_program 526 = .ok (.dup, 1) := by decide +kernel
theorem dX13_program_527 : decode cX13_program 527 = .ok (.getfield 433, 3) := by decide +kernel
theorem dX13_program_530 : decode cX13_program 530 = .ok (.iconst 1, 1) := by decide +kernel
theorem dX13_program_531 : decode cX13_program 531 = .ok (.iadd, 1) := by decide +kernel
theorem dX13_program_532 : decode cX13_program 532 = .ok (.putfield 433, 3) := by decide +kernel
theorem dX13_program_535 : decode cX13_program 535 = .ok (.goto 7, 3) := by decide +kernel
theorem dX13_program_538 : decode cX13_program 538 = .ok (.aload_n 0, 1) := by decide +kernel
theorem dX13_program_539 : decode cX13_program 539 = .ok (.invokevirtual 450, 3) := by decide +kernel
theorem dX13_program_542 : decode cX13_program 542 = .ok (.aload_n 0, 1) := by decide +kernel
theorem dX13_program_543 : decode cX13_program 543 = .ok (.ldc_w 515, 3) := by decide +kernel
theorem dX13_program_546 : decode cX13_program 546 = .ok (.invokevirtual 497, 3) := by decide +kernel
theorem dX13_program_549 : decode cX13_program 549 = .ok (.aload_n 0, 1) := by decide +kernel
theorem dX13_program_550 : decode cX13_program 550 = .ok (.dup, 1) := by decide +kernel
theorem dX13_program_551 : decode cX13_program 551 = .ok (.getfield 481, 3) := by decide +kernel
theorem dX13_program_554 : decode cX13_program 554 = .ok (.iconst 1, 1) := by decide +kernel
theorem dX13_program_555 : decode cX13_program 555 = .ok (.iadd, 1) := by decide +kernel
theorem dX13_program_556 : decode cX13_program 556 = .ok (.putfield 481, 3) := by decide +kernel
theorem dX13_program_559 : decode cX13_program 559 = .ok (.goto (-163), 3) := by decide +kernel
theorem dX13_program_577 : decode cX13_program 577 = .ok (.aload_n 0, 1) := by decide +kernel
theorem dX13_program_578 : decode cX13_program 578 = .ok (.getfield 19, 3) := by decide +kernel
theorem dX13_program_581 : decode cX13_program 581 = .ok (.aload_n 0, 1) := by decide +kernel
theorem dX13_program_582 : decode cX13_program 582 = .ok (.getfield 433, 3) := by decide +kernel
theorem dX13_program_585 : decode cX13_program 585 = .ok (.iaload, 1) := by decide +kernel
theorem dX13_program_586 : decode cX13_program 586 = .ok (.ifCond .eq 7, 3) := by decide +kernel
theorem dX13_program_589 : decode cX13_program 589 = .ok (.aload_n 0, 1) := by decide +kernel
theorem dX13_program_590 : decode cX13_program 590 = .ok (.invokevirtual 450, 3) := by decide +kernel
theorem dX13_within_0 : decode cX13_within 0 = .ok (.aload_n 0, 1) := by decide +kernel
theorem dX13_within_1 : decode cX13_within 1 = .ok (.dup, 1) := by decide +kernel
theorem dX13_within_2 : decode cX13_within 2 = .ok (.getfield 484, 3) := by decide +kernel
theorem dX13_within_5 : decode cX13_within 5 = .ok (.iconst 1, 1) := by decide +kernel
theorem dX13_within_6 : decode cX13_within 6 = .ok (.iadd, 1) := by decide +kernel
theorem dX13_within_7 : decode cX13_within 7 = .ok (.putfield 484, 3) := by decide +kernel
theorem dX13_within_10 : decode cX13_within 10 = .ok (.aload_n 0, 1) := by decide +kernel
theorem dX13_within_11 : decode cX13_within 11 = .ok (.invokevirtual 524, 3) := by decide +kernel
theorem dX13_within_14 : decode cX13_within 14 = .ok (.istore_n 1, 1) := by decide +kernel
theorem dX13_within_15 : decode cX13_within 15 = .ok (.aload_n 0, 1) := by decide +kernel
theorem dX13_within_16 : decode cX13_within 16 = .ok (.dup, 1) := by decide +kernel
theorem dX13_within_17 : decode cX13_within 17 = .ok (.getfield 484, 3) := by decide +kernel
theorem dX13_within_20 : decode cX13_within 20 = .ok (.iconst 1, 1) := by decide +kernel
theorem dX13_within_21 : decode cX13_within 21 = .ok (.isub, 1) := by decide +kernel
theorem dX13_within_22 : decode cX13_within 22 = .ok (.putfield 484, 3) := by decide +kernel
theorem dX13_within_25 : decode cX13_within 25 = .ok (.iload_n 1, 1) := by decide +kernel
theorem dX13_within_26 : decode cX13_within 26 = .ok (.ireturn, 1) := by decide +kernel
theorem dX13_expression_9 : decode cX13_expression 9 = .ok (.aload_n 0, 1) := by decide +kernel
theorem dX13_expression_10 : decode cX13_expression 10 = .ok (.invokevirtual 450, 3) := by decide +kernel
theorem dX13_expression_20 : decode cX13_expression 20 = .ok (.iconst 0, 1) := by decide +kernel
theorem dX13_expression_21 : decode cX13_expression 21 = .ok (.ireturn, 1) := by decide +kernel
theorem dX13_expression_42 : decode cX13_expression 42 = .ok (.aload_n 0, 1) := by decide +kernel
theorem dX13_expression_43 : decode cX13_expression 43 = .ok (.ldc_w 532, 3) := by decide +kernel
theorem dX13_expression_46 : decode cX13_expression 46 = .ok (.invokevirtual 447, 3) := by decide +kernel
theorem dX13_expression_49 : decode cX13_expression 49 = .ok (.ifCond .eq 88, 3) := by decide +kernel
theorem dX13_expression_52 : decode cX13_expression 52 = .ok (.aload_n 0, 1) := by decide +kernel
theorem dX13_expression_53 : decode cX13_expression 53 = .ok (.iconst 2, 1) := by decide +kernel
theorem dX13_expression_54 : decode cX13_expression 54 = .ok (.iload_n 1, 1) := by decide +kernel
theorem dX13_expression_55 : decode cX13_expression 55 = .ok (.invokevirtual 534, 3) := by decide +kernel
theorem dX13_expression_58 : decode cX13_expression 58 = .ok (.istore_n 2, 1) := by decide +kernel
theorem dX13_expression_59 : decode cX13_expression 59 = .ok (.aload_n 0, 1) := by decide +kernel
theorem dX13_expression_60 : decode cX13_expression 60 = .ok (.getfield 38, 3) := by decide +kernel
theorem dX13_expression_63 : decode cX13_expression 63 = .ok (.iload_n 2, 1) := by decide +kernel
theorem dX13_expression_64 : decode cX13_expression 64 = .ok (.aload_n 0, 1) := by decide +kernel
theorem dX13_expression_65 : decode cX13_expression 65 = .ok (.invokevirtual 519, 3) := by decide +kernel
theorem dX13_expression_68 : decode cX13_expression 68 = .ok (.iastore, 1) := by decide +kernel
theorem dX13_expression_69 : decode cX13_expression 69 = .ok (.aload_n 0, 1) := by decide +kernel
theorem dX13_expression_70 : decode cX13_expression 70 = .ok (.getfield 41, 3) := by decide +kernel
theorem dX13_expression_73 : decode cX13_expression 73 = .ok (.iload_n 2, 1) := by decide +kernel
theorem dX13_expression_74 : decode cX13_expression 74 = .ok (.aload_n 0, 1) := by decide +kernel
theorem dX13_expression_75 : decode cX13_expression 75 = .ok (.getfield 433, 3) := by decide +kernel
theorem dX13_expression_78 : decode cX13_expression 78 = .ok (.iastore, 1) := by decide +kernel
theorem dX13_expression_79 : decode cX13_expression 79 = .ok (.iconst 0, 1) := by decide +kernel
theorem dX13_expression_80 : decode cX13_expression 80 = .ok (.istore_n 3, 1) := by decide +kernel
theorem dX13_expression_81 : decode cX13_expression 81 = .ok (.aload_n 0, 1) := by decide +kernel
theorem dX13_expression_82 : decode cX13_expression 82 = .ok (.getfield 392, 3) := by decide +kernel
theorem dX13_expression_85 : decode cX13_expression 85 = .ok (.ifCond .ne 41, 3) := by decide +kernel
theorem dX13_expression_88 : decode cX13_expression 88 = .ok (.aload_n 0, 1) := by decide +kernel
theorem dX13_expression_89 : decode cX13_expression 89 = .ok (.getfield 19, 3) := by decide +kernel
theorem dX13_expression_92 : decode cX13_expression 92 = .ok (.aload_n 0, 1) := by decide +kernel
theorem dX13_expression_93 : decode cX13_expression 93 = .ok (.getfield 433, 3) := by decide +kernel
theorem dX13_expression_96 : decode cX13_expression 96 = .ok (.iaload, 1) := by decide +kernel
theorem dX13_expression_97 : decode cX13_expression 97 = .ok (.iconst 1, 1) := by decide +kernel
theorem dX13_expression_98 : decode cX13_expression 98 = .ok (.if_icmp .ne 28, 3) := by decide +kernel
theorem dX13_expression_101 : decode cX13_expression 101 = .ok (.iload_n 3, 1) := by decide +kernel
theorem dX13_expression_102 : decode cX13_expression 102 = .ok (.iconst 4, 1) := by decide +kernel
theorem dX13_expression_103 : decode cX13_expression 103 = .ok (.if_icmp .ne 7, 3) := by decide +kernel
theorem dX13_expression_106 : decode cX13_expression 106 = .ok (.aload_n 0, 1) := by decide +kernel
theorem dX13_expression_107 : decode cX13_expression 107 = .ok (.invokevirtual 450, 3) := by decide +kernel
theorem dX13_expression_110 : decode cX13_expression 110 = .ok (.iinc 3 1, 3) := by decide +kernel
theorem dX13_expression_113 : decode cX13_expression 113 = .ok (.aload_n 0, 1) := by decide +kernel
theorem dX13_expression_114 : decode cX13_expression 114 = .ok (.dup, 1) := by decide +kernel
theorem dX13_expression_115 : decode cX13_expression 115 = .ok (.getfield 433, 3) := by decide +kernel
theorem dX13_expression_118 : decode cX13_expression 118 = .ok (.iconst 1, 1) := by decide +kernel
theorem dX13_expression_119 : decode cX13_expression 119 = .ok (.iadd, 1) := by decide +kernel
theorem dX13_expression_120 : decode cX13_expression 120 = .ok (.putfield 433, 3) := by decide +kernel
theorem dX13_expression_123 : decode cX13_expression 123 = .ok (.goto (-42), 3) := by decide +kernel
theorem dX13_expression_126 : decode cX13_expression 126 = .ok (.iload_n 3, 1) := by decide +kernel
theorem dX13_expression_127 : decode cX13_expression 127 = .ok (.ifCond .ne 7, 3) := by decide +kernel
theorem dX13_expression_130 : decode cX13_expression 130 = .ok (.aload_n 0, 1) := by decide +kernel
theorem dX13_expression_131 : decode cX13_expression 131 = .ok (.invokevirtual 450, 3) := by decide +kernel
theorem dX13_expression_134 : decode cX13_expression 134 = .ok (.goto 20, 3) := by decide +kernel
theorem dX13_expression_137 : decode cX13_expression 137 = .ok (.aload_n 0, 1) := by decide +kernel
theorem dX13_expression_138 : decode cX13_expression 138 = .ok (.iconst 1, 1) := by decide +kernel
theorem dX13_expression_139 : decode cX13_expression 139 = .ok (.iload_n 1, 1) := by decide +kernel
theorem dX13_expression_140 : decode cX13_expression 140 = .ok (.invokevirtual 534, 3) := by decide +kernel
theorem dX13_expression_143 : decode cX13_expression 143 = .ok (.istore_n 2, 1) := by decide +kernel
theorem dX13_expression_144 : decode cX13_expression 144 = .ok (.aload_n 0, 1) := by decide +kernel
theorem dX13_expression_145 : decode cX13_expression 145 = .ok (.getfield 38, 3) := by decide +kernel
theorem dX13_expression_148 : decode cX13_expression 148 = .ok (.iload_n 2, 1) := by decide +kernel
theorem dX13_expression_149 : decode cX13_expression 149 = .ok (.aload_n 0, 1) := by decide +kernel
theorem dX13_expression_150 : decode cX13_expression 150 = .ok (.invokevirtual 519, 3) := by decide +kernel
theorem dX13_expression_153 : decode cX13_expression 153 = .ok (.iastore, 1) := by decide +kernel
theorem dX13_expression_154 : decode cX13_expression 154 = .ok (.aload_n 0, 1) := by decide +kernel
theorem dX13_expression_155 : decode cX13_expression 155 = .ok (.ldc_w 457, 3) := by decide +kernel
theorem dX13_expression_158 : decode cX13_expression 158 = .ok (.invokevirtual 497, 3) := by decide +kernel
theorem dX13_expression_161 : decode cX13_expression 161 = .ok (.aload_n 0, 1) := by decide +kernel
theorem dX13_expression_162 : decode cX13_expression 162 = .ok (.getfield 44, 3) := by decide +kernel
theorem dX13_expression_165 : decode cX13_expression 165 = .ok (.iload_n 2, 1) := by decide +kernel
theorem dX13_expression_166 : decode cX13_expression 166 = .ok (.aload_n 0, 1) := by decide +kernel
theorem dX13_expression_167 : decode cX13_expression 167 = .ok (.invokevirtual 538, 3) := by decide +kernel
theorem dX13_expression_170 : decode cX13_expression 170 = .ok (.iastore, 1) := by decide +kernel
theorem dX13_expression_171 : decode cX13_expression 171 = .ok (.aload_n 0, 1) := by decide +kernel
theorem dX13_expression_172 : decode cX13_expression 172 = .ok (.ldc_w 541, 3) := by decide +kernel
theorem dX13_expression_175 : decode cX13_expression 175 = .ok (.invokevirtual 497, 3) := by decide +kernel
theorem dX13_expression_178 : decode cX13_expression 178 = .ok (.aload_n 0, 1) := by decide +kernel
theorem dX13_expression_179 : decode cX13_expression 179 = .ok (.getfield 47, 3) := by decide +kernel
theorem dX13_expression_182 : decode cX13_expression 182 = .ok (.iload_n 2, 1) := by decide +kernel
theorem dX13_expression_183 : decode cX13_expression 183 = .ok (.aload_n 0, 1) := by decide +kernel
theorem dX13_expression_184 : decode cX13_expression 184 = .ok (.invokevirtual 538, 3) := by decide +kernel
theorem dX13_expression_187 : decode cX13_expression 187 = .ok (.iastore, 1) := by decide +kernel
theorem dX13_expression_188 : decode cX13_expression 188 = .ok (.goto 507, 3) := by decide +kernel
theorem dX13_expression_201 : decode cX13_expression 201 = .ok (.aload_n 0, 1) := by decide +kernel
theorem dX13_expression_202 : decode cX13_expression 202 = .ok (.iconst 3, 1) := by decide +kernel
theorem dX13_expression_203 : decode cX13_expression 203 = .ok (.iload_n 1, 1) := by decide +kernel
theorem dX13_expression_204 : decode cX13_expression 204 = .ok (.invokevirtual 534, 3) := by decide +kernel
theorem dX13_expression_207 : decode cX13_expression 207 = .ok (.istore_n 2, 1) := by decide +kernel
theorem dX13_expression_208 : decode cX13_expression 208 = .ok (.aload_n 0, 1) := by decide +kernel
theorem dX13_expression_209 : decode cX13_expression 209 = .ok (.getfield 38, 3) := by decide +kernel
theorem dX13_expression_212 : decode cX13_expression 212 = .ok (.iload_n 2, 1) := by decide +kernel
theorem dX13_expression_213 : decode cX13_expression 213 = .ok (.aload_n 0, 1) := by decide +kernel
theorem dX13_expression_214 : decode cX13_expression 214 = .ok (.invokevirtual 519, 3) := by decide +kernel
theorem dX13_expression_217 : decode cX13_expression 217 = .ok (.iastore, 1) := by decide +kernel
theorem dX13_expression_218 : decode cX13_expression 218 = .ok (.aload_n 0, 1) := by decide +kernel
theorem dX13_expression_219 : decode cX13_expression 219 = .ok (.ldc_w 545, 3) := by decide +kernel
theorem dX13_expression_222 : decode cX13_expression 222 = .ok (.invokevirtual 497, 3) := by decide +kernel
theorem dX13_expression_225 : decode cX13_expression 225 = .ok (.aload_n 0, 1) := by decide +kernel
theorem dX13_expression_226 : decode cX13_expression 226 = .ok (.getfield 44, 3) := by decide +kernel
theorem dX13_expression_229 : decode cX13_expression 229 = .ok (.iload_n 2, 1) := by decide +kernel
theorem dX13_expression_230 : decode cX13_expression 230 = .ok (.aload_n 0, 1) := by decide +kernel
theorem dX13_expression_231 : decode cX13_expression 231 = .ok (.invokevirtual 538, 3) := by decide +kernel
theorem dX13_expression_234 : decode cX13_expression 234 = .ok (.iastore, 1) := by decide +kernel
theorem dX13_expression_235 : decode cX13_expression 235 = .ok (.goto 460, 3) := by decide +kernel
theorem dX13_expression_248 : decode cX13_expression 248 = .ok (.aload_n 0, 1) := by decide +kernel
theorem dX13_expression_249 : decode cX13_expression 249 = .ok (.iconst 4, 1) := by decide +kernel
theorem dX13_expression_250 : decode cX13_expression 250 = .ok (.iload_n 1, 1) := by decide +kernel
theorem dX13_expression_251 : decode cX13_expression 251 = .ok (.invokevirtual 534, 3) := by decide +kernel
theorem dX13_expression_254 : decode cX13_expression 254 = .ok (.istore_n 2, 1) := by decide +kernel
theorem dX13_expression_255 : decode cX13_expression 255 = .ok (.aload_n 0, 1) := by decide +kernel
theorem dX13_expression_256 : decode cX13_expression 256 = .ok (.getfield 35, 3) := by decide +kernel
theorem dX13_expression_259 : decode cX13_expression 259 = .ok (.iload_n 2, 1) := by decide +kernel
theorem dX13_expression_260 : decode cX13_expression 260 = .ok (.aload_n 0, 1) := by decide +kernel
theorem dX13_expression_261 : decode cX13_expression 261 = .ok (.getfield 23, 3) := by decide +kernel
theorem dX13_expression_264 : decode cX13_expression 264 = .ok (.aload_n 0, 1) := by decide +kernel
theorem dX13_expression_265 : decode cX13_expression 265 = .ok (.getfield 433, 3) := by decide +kernel
theorem dX13_expression_268 : decode cX13_expression 268 = .ok (.iaload, 1) := by decide +kernel
theorem dX13_expression_269 : decode cX13_expression 269 = .ok (.iastore, 1) := by decide +kernel
theorem dX13_expression_270 : decode cX13_expression 270 = .ok (.aload_n 0, 1) := by decide +kernel
theorem dX13_expression_271 : decode cX13_expression 271 = .ok (.getfield 38, 3) := by decide +kernel
theorem dX13_expression_274 : decode cX13_expression 274 = .ok (.iload_n 2, 1) := by decide +kernel
theorem dX13_expression_275 : decode cX13_expression 275 = .ok (.aload_n 0, 1) := by decide +kernel
theorem dX13_expression_276 : decode cX13_expression 276 = .ok (.invokevirtual 549, 3) := by decide +kernel
theorem dX13_expression_279 : decode cX13_expression 279 = .ok (.iastore, 1) := by decide +kernel
theorem dX13_expression_280 : decode cX13_expression 280 = .ok (.aload_n 0, 1) := by decide +kernel
theorem dX13_expression_281 : decode cX13_expression 281 = .ok (.ldc_w 552, 3) := by decide +kernel
theorem dX13_expression_284 : decode cX13_expression 284 = .ok (.invokevirtual 497, 3) := by decide +kernel
theorem dX13_expression_287 : decode cX13_expression 287 = .ok (.aload_n 0, 1) := by decide +kernel
theorem dX13_expression_288 : decode cX13_expression 288 = .ok (.getfield 44, 3) := by decide +kernel
theorem dX13_expression_291 : decode cX13_expression 291 = .ok (.iload_n 2, 1) := by decide +kernel
theorem dX13_expression_292 : decode cX13_expression 292 = .ok (.aload_n 0, 1) := by decide +kernel
theorem dX13_expression_293 : decode cX13_expression 293 = .ok (.invokevirtual 538, 3) := by decide +kernel
theorem dX13_expression_296 : decode cX13_expression 296 = .ok (.iastore, 1) := by decide +kernel
theorem dX13_expression_297 : decode cX13_expression 297 = .ok (.aload_n 0, 1) := by decide +kernel
theorem dX13_expression_298 : decode cX13_expression 298 = .ok (.ldc_w 554, 3) := by decide +kernel
theorem dX13_expression_301 : decode cX13_expression 301 = .ok (.invokevirtual 497, 3) := by decide +kernel
theorem dX13_expression_304 : decode cX13_expression 304 = .ok (.aload_n 0, 1) := by decide +kernel
theorem dX13_expression_305 : decode cX13_expression 305 = .ok (.getfield 47, 3) := by decide +kernel
theorem dX13_expression_308 : decode cX13_expression 308 = .ok (.iload_n 2, 1) := by decide +kernel
theorem dX13_expression_309 : decode cX13_expression 309 = .ok (.aload_n 0, 1) := by decide +kernel
theorem dX13_expression_310 : decode cX13_expression 310 = .ok (.invokevirtual 538, 3) := by decide +kernel
theorem dX13_expression_313 : decode cX13_expression 313 = .ok (.iastore, 1) := by decide +kernel
theorem dX13_expression_314 : decode cX13_expression 314 = .ok (.goto 381, 3) := by decide +kernel
theorem dX13_expression_327 : decode cX13_expression 327 = .ok (.aload_n 0, 1) := by decide +kernel
theorem dX13_expression_328 : decode cX13_expression 328 = .ok (.iconst 5, 1) := by decide +kernel
theorem dX13_expression_329 : decode cX13_expression 329 = .ok (.iload_n 1, 1) := by decide +kernel
theorem dX13_expression_330 : decode cX13_expression 330 = .ok (.invokevirtual 534, 3) := by decide +kernel
theorem dX13_expression_333 : decode cX13_expression 333 = .ok (.istore_n 2, 1) := by decide +kernel
theorem dX13_expression_334 : decode cX13_expression 334 = .ok (.aload_n 0, 1) := by decide +kernel
theorem dX13_expression_335 : decode cX13_expression 335 = .ok (.getfield 35, 3) := by decide +kernel
theorem dX13_expression_338 : decode cX13_expression 338 = .ok (.iload_n 2, 1) := by decide +kernel
theorem dX13_expression_339 : decode cX13_expression 339 = .ok (.aload_n 0, 1) := by decide +kernel
theorem dX13_expression_340 : decode cX13_expression 340 = .ok (.getfield 23, 3) := by decide +kernel
theorem dX13_expression_343 : decode cX13_expression 343 = .ok (.aload_n 0, 1) := by decide +kernel
theorem dX13_expression_344 : decode cX13_expression 344 = .ok (.getfield 433, 3) := by decide +kernel
theorem dX13_expression_347 : decode cX13_expression 347 = .ok (.iaload, 1) := by decide +kernel
theorem dX13_expression_348 : decode cX13_expression 348 = .ok (.iastore, 1) := by decide +kernel
theorem dX13_expression_349 : decode cX13_expression 349 = .ok (.aload_n 0, 1) := by decide +kernel
theorem dX13_expression_350 : decode cX13_expression 350 = .ok (.getfield 38, 3) := by decide +kernel
theorem dX13_expression_353 : decode cX13_expression 353 = .ok (.iload_n 2, 1) := by decide +kernel
theorem dX13_expression_354 : decode cX13_expression 354 = .ok (.aload_n 0, 1) := by decide +kernel
theorem dX13_expression_355 : decode cX13_expression 355 = .ok (.invokevirtual 549, 3) := by decide +kernel
theorem dX13_expression_358 : decode cX13_expression 358 = .ok (.iastore, 1) := by decide +kernel
theorem dX13_expression_359 : decode cX13_expression 359 = .ok (.aload_n 0, 1) := by decide +kernel
theorem dX13_expression_360 : decode cX13_expression 360 = .ok (.ldc_w 515, 3) := by decide +kernel
theorem dX13_expression_363 : decode cX13_expression 363 = .ok (.invokevirtual 497, 3) := by decide +kernel
theorem dX13_expression_366 : decode cX13_expression 366 = .ok (.aload_n 0, 1) := by decide +kernel
theorem dX13_expression_367 : decode cX13_expression 367 = .ok (.getfield 44, 3) := by decide +kernel
theorem dX13_expression_370 : decode cX13_expression 370 = .ok (.iload_n 2, 1) := by decide +kernel
theorem dX13_expression_371 : decode cX13_expression 371 = .ok (.aload_n 0, 1) := by decide +kernel
theorem dX13_expression_372 : decode cX13_expression 372 = .ok (.invokevirtual 538, 3) := by decide +kernel
theorem dX13_expression_375 : decode cX13_expression 375 = .ok (.iastore, 1) := by decide +kernel
theorem dX13_expression_376 : decode cX13_expression 376 = .ok (.goto 319, 3) := by decide +kernel
theorem dX13_expression_389 : decode cX13_expression 389 = .ok (.aload_n 0, 1) := by decide +kernel
theorem dX13_expression_390 : decode cX13_expression 390 = .ok (.bipush 6, 2) := by decide +kernel
theorem dX13_expression_392 : decode cX13_expression 392 = .ok (.iload_n 1, 1) := by decide +kernel
theorem dX13_expression_393 : decode cX13_expression 393 = .ok (.invokevirtual 534, 3) := by decide +kernel
theorem dX13_expression_396 : decode cX13_expression 396 = .ok (.istore_n 2, 1) := by decide +kernel
theorem dX13_expression_397 : decode cX13_expression 397 = .ok (.aload_n 0, 1) := by decide +kernel
theorem dX13_expression_398 : decode cX13_expression 398 = .ok (.getfield 38, 3) := by decide +kernel
theorem dX13_expression_401 : decode cX13_expression 401 = .ok (.iload_n 2, 1) := by decide +kernel
theorem dX13_expression_402 : decode cX13_expression 402 = .ok (.aload_n 0, 1) := by decide +kernel
theorem dX13_expression_403 : decode cX13_expression 403 = .ok (.invokevirtual 519, 3) := by decide +kernel
theorem dX13_expression_406 : decode cX13_expression 406 = .ok (.iastore, 1) := by decide +kernel
theorem dX13_expression_407 : decode cX13_expression 407 = .ok (.aload_n 0, 1) := by decide +kernel
theorem dX13_expression_408 : decode cX13_expression 408 = .ok (.getfield 35, 3) := by decide +kernel
theorem dX13_expression_411 : decode cX13_expression 411 = .ok (.iload_n 2, 1) := by decide +kernel
theorem dX13_expression_412 : decode cX13_expression 412 = .ok (.aload_n 0, 1) := by decide +kernel
theorem dX13_expression_413 : decode cX13_expression 413 = .ok (.getfield 23, 3) := by decide +kernel
theorem dX13_expression_416 : decode cX13_expression 416 = .ok (.aload_n 0, 1) := by decide +kernel
theorem dX13_expression_417 : decode cX13_expression 417 = .ok (.getfield 433, 3) := by decide +kernel
theorem dX13_expression_420 : decode cX13_expression 420 = .ok (.iaload, 1) := by decide +kernel
theorem dX13_expression_421 : decode cX13_expression 421 = .ok (.iastore, 1) := by decide +kernel
theorem dX13_expression_422 : decode cX13_expression 422 = .ok (.aload_n 0, 1) := by decide +kernel
theorem dX13_expression_423 : decode cX13_expression 423 = .ok (.ldc_w 560, 3) := by decide +kernel
theorem dX13_expression_426 : decode cX13_expression 426 = .ok (.invokevirtual 497, 3) := by decide +kernel
theorem dX13_expression_429 : decode cX13_expression 429 = .ok (.aload_n 0, 1) := by decide +kernel
theorem dX13_expression_430 : decode cX13_expression 430 = .ok (.getfield 41, 3) := by decide +kernel
theorem dX13_expression_433 : decode cX13_expression 433 = .ok (.iload_n 2, 1) := by decide +kernel
theorem dX13_expression_434 : decode cX13_expression 434 = .ok (.aload_n 0, 1) := by decide +kernel
theorem dX13_expression_435 : decode cX13_expression 435 = .ok (.invokevirtual 562, 3) := by decide +kernel
theorem dX13_expression_438 : decode cX13_expression 438 = .ok (.iastore, 1) := by decide +kernel
theorem dX13_expression_439 : decode cX13_expression 439 = .ok (.aload_n 0, 1) := by decide +kernel
theorem dX13_expression_440 : decode cX13_expression 440 = .ok (.ldc_w 565, 3) := by decide +kernel
theorem dX13_expression_443 : decode cX13_expression 443 = .ok (.invokevirtual 497, 3) := by decide +kernel
theorem dX13_expression_446 : decode cX13_expression 446 = .ok (.aload_n 0, 1) := by decide +kernel
theorem dX13_expression_447 : decode cX13_expression 447 = .ok (.ldc_w 457, 3) := by decide +kernel
theorem dX13_expression_450 : decode cX13_expression 450 = .ok (.invokevirtual 497, 3) := by decide +kernel
theorem dX13_expression_453 : decode cX13_expression 453 = .ok (.aload_n 0, 1) := by decide +kernel
theorem dX13_expression_454 : decode cX13_expression 454 = .ok (.getfield 44, 3) := by decide +kernel
theorem dX13_expression_457 : decode cX13_expression 457 = .ok (.iload_n 2, 1) := by decide +kernel
theorem dX13_expression_458 : decode cX13_expression 458 = .ok (.aload_n 0, 1) := by decide +kernel
theorem dX13_expression_459 : decode cX13_expression 459 = .ok (.invokevirtual 562, 3) := by decide +kernel
theorem dX13_expression_462 : decode cX13_expression 462 = .ok (.iastore, 1) := by decide +kernel
theorem dX13_expression_463 : decode cX13_expression 463 = .ok (.aload_n 0, 1) := by decide +kernel
theorem dX13_expression_464 : decode cX13_expression 464 = .ok (.ldc_w 515, 3) := by decide +kernel
theorem dX13_expression_467 : decode cX13_expression 467 = .ok (.invokevirtual 497, 3) := by decide +kernel
theorem dX13_expression_470 : decode cX13_expression 470 = .ok (.aload_n 0, 1) := by decide +kernel
theorem dX13_expression_471 : decode cX13_expression 471 = .ok (.getfield 47, 3) := by decide +kernel
theorem dX13_expression_474 : decode cX13_expression 474 = .ok (.iload_n 2, 1) := by decide +kernel
theorem dX13_expression_475 : decode cX13_expression 475 = .ok (.aload_n 0, 1) := by decide +kernel
theorem dX13_expression_476 : decode cX13_expression 476 = .ok (.invokevirtual 538, 3) := by decide +kernel
theorem dX13_expression_479 : decode cX13_expression 479 = .ok (.iastore, 1) := by decide +kernel
theorem dX13_expression_480 : decode cX13_expression 480 = .ok (.goto 215, 3) := by decide +kernel
theorem dX13_expression_493 : decode cX13_expression 493 = .ok (.aload_n 0, 1) := by decide +kernel
theorem dX13_expression_494 : decode cX13_expression 494 = .ok (.bipush 7, 2) := by decide +kernel
theorem dX13_expression_496 : decode cX13_expression 496 = .ok (.iload_n 1, 1) := by decide +kernel
theorem dX13_expression_497 : decode cX13_expression 497 = .ok (.invokevirtual 534, 3) := by decide +kernel
theorem dX13_expression_500 : decode cX13_expression 500 = .ok (.istore_n 2, 1) := by decide +kernel
theorem dX13_expression_501 : decode cX13_expression 501 = .ok (.aload_n 0, 1) := by decide +kernel
theorem dX13_expression_502 : decode cX13_expression 502 = .ok (.getfield 41, 3) := by decide +kernel
theorem dX13_expression_505 : decode cX13_expression 505 = .ok (.iload_n 2, 1) := by decide +kernel
theorem dX13_expression_506 : decode cX13_expression 506 = .ok (.aload_n 0, 1) := by decide +kernel
theorem dX13_expression_507 : decode cX13_expression 507 = .ok (.invokevirtual 562, 3) := by decide +kernel
theorem dX13_expression_510 : decode cX13_expression 510 = .ok (.iastore, 1) := by decide +kernel
theorem dX13_expression_511 : decode cX13_expression 511 = .ok (.goto 184, 3) := by decide +kernel
theorem dX13_expression_524 : decode cX13_expression 524 = .ok (.aload_n 0, 1) := by decide +kernel
theorem dX13_expression_525 : decode cX13_expression 525 = .ok (.bipush 17, 2) := by decide +kernel
theorem dX13_expression_527 : decode cX13_expression 527 = .ok (.iload_n 1, 1) := by decide +kernel
theorem dX13_expression_528 : decode cX13_expression 528 = .ok (.invokevirtual 534, 3) := by decide +kernel
theorem dX13_expression_531 : decode cX13_expression 531 = .ok (.istore_n 2, 1) := by decide +kernel
theorem dX13_expression_532 : decode cX13_expression 532 = .ok (.goto 163, 3) := by decide +kernel
theorem dX13_expression_545 : decode cX13_expression 545 = .ok (.aload_n 0, 1) := by decide +kernel
theorem dX13_expression_546 : decode cX13_expression 546 = .ok (.bipush 18, 2) := by decide +kernel
theorem dX13_expression_548 : decode cX13_expression 548 = .ok (.iload_n 1, 1) := by decide +kernel
theorem dX13_expression_549 : decode cX13_expression 549 = .ok (.invokevirtual 534, 3) := by decide +kernel
theorem dX13_expression_552 : decode cX13_expression 552 = .ok (.istore_n 2, 1) := by decide +kernel
theorem dX13_expression_553 : decode cX13_expression 553 = .ok (.aload_n 0, 1) := by decide +kernel
theorem dX13_expression_554 : decode cX13_expression 554 = .ok (.getfield 41, 3) := by decide +kernel
theorem dX13_expression_557 : decode cX13_expression 557 = .ok (.iload_n 2, 1) := by decide +kernel
theorem dX13_expression_558 : decode cX13_expression 558 = .ok (.aload_n 0, 1) := by decide +kernel
theorem dX13_expression_559 : decode cX13_expression 559 = .ok (.invokevirtual 562, 3) := by decide +kernel
theorem dX13_expression_562 : decode cX13_expression 562 = .ok (.iastore, 1) := by decide +kernel
theorem dX13_expression_563 : decode cX13_expression 563 = .ok (.aload_n 0, 1) := by decide +kernel
theorem dX13_expression_564 : decode cX13_expression 564 = .ok (.getfield 38, 3) := by decide +kernel
theorem dX13_expression_567 : decode cX13_expression 567 = .ok (.iload_n 2, 1) := by decide +kernel
theorem dX13_expression_568 : decode cX13_expression 568 = .ok (.aload_n 0, 1) := by decide +kernel
theorem dX13_expression_569 : decode cX13_expression 569 = .ok (.invokevirtual 519, 3) := by decide +kernel
theorem dX13_expression_572 : decode cX13_expression 572 = .ok (.iastore, 1) := by decide +kernel
theorem dX13_expression_573 : decode cX13_expression 573 = .ok (.goto 122, 3) := by decide +kernel
theorem dX13_expression_586 : decode cX13_expression 586 = .ok (.aload_n 0, 1) := by decide +kernel
theorem dX13_expression_587 : decode cX13_expression 587 = .ok (.iload_n 1, 1) := by decide +kernel
theorem dX13_expression_588 : decode cX13_expression 588 = .ok (.invokevirtual 575, 3) := by decide +kernel
theorem dX13_expression_591 : decode cX13_expression 591 = .ok (.istore_n 2, 1) := by decide +kernel
theorem dX13_expression_592 : decode cX13_expression 592 = .ok (.goto 103, 3) := by decide +kernel
theorem dX13_expression_615 : decode cX13_expression 615 = .ok (.aload_n 0, 1) := by decide +kernel
theorem dX13_expression_616 : decode cX13_expression 616 = .ok (.aload_n 0, 1) := by decide +kernel
theorem dX13_expression_617 : decode cX13_expression 617 = .ok (.ldc_w 578, 3) := by decide +kernel
theorem dX13_expression_620 : decode cX13_expression 620 = .ok (.invokevirtual 443, 3) := by decide +kernel
theorem dX13_expression_623 : decode cX13_expression 623 = .ok (.ifCond .eq 8, 3) := by decide +kernel
theorem dX13_expression_626 : decode cX13_expression 626 = .ok (.bipush 8, 2) := by decide +kernel
theorem dX13_expression_628 : decode cX13_expression 628 = .ok (.goto 5, 3) := by decide +kernel
theorem dX13_expression_631 : decode cX13_expression 631 = .ok (.bipush 9, 2) := by decide +kernel
theorem dX13_expression_633 : decode cX13_expression 633 = .ok (.iload_n 1, 1) := by decide +kernel
theorem dX13_expression_634 : decode cX13_expression 634 = .ok (.invokevirtual 534, 3) := by decide +kernel
theorem dX13_expression_637 : decode cX13_expression 637 = .ok (.istore_n 2, 1) := by decide +kernel
theorem dX13_expression_638 : decode cX13_expression 638 = .ok (.aload_n 0, 1) := by decide +kernel
theorem dX13_expression_639 : decode cX13_expression 639 = .ok (.dup, 1) := by decide +kernel
theorem dX13_expression_640 : decode cX13_expression 640 = .ok (.getfield 433, 3) := by decide +kernel
theorem dX13_expression_643 : decode cX13_expression 643 = .ok (.iconst 1, 1) := by decide +kernel
theorem dX13_expression_644 : decode cX13_expression 644 = .ok (.iadd, 1) := by decide +kernel
theorem dX13_expression_645 : decode cX13_expression 645 = .ok (.putfield 433, 3) := by decide +kernel
theorem dX13_expression_648 : decode cX13_expression 648 = .ok (.goto 47, 3) := by decide +kernel
theorem dX13_expression_661 : decode cX13_expression 661 = .ok (.aload_n 0, 1) := by decide +kernel
theorem dX13_expression_662 : decode cX13_expression 662 = .ok (.bipush 16, 2) := by decide +kernel
theorem dX13_expression_664 : decode cX13_expression 664 = .ok (.iload_n 1, 1) := by decide +kernel
theorem dX13_expression_665 : decode cX13_expression 665 = .ok (.invokevirtual 534, 3) := by decide +kernel
theorem dX13_expression_668 : decode cX13_expression 668 = .ok (.istore_n 2, 1) := by decide +kernel
theorem dX13_expression_669 : decode cX13_expression 669 = .ok (.aload_n 0, 1) := by decide +kernel
theorem dX13_expression_670 : decode cX13_expression 670 = .ok (.getfield 44, 3) := by decide +kernel
theorem dX13_expression_673 : decode cX13_expression 673 = .ok (.iload_n 2, 1) := by decide +kernel
theorem dX13_expression_674 : decode cX13_expression 674 = .ok (.aload_n 0, 1) := by decide +kernel
theorem dX13_expression_675 : decode cX13_expression 675 = .ok (.invokevirtual 538, 3) := by decide +kernel
theorem dX13_expression_678 : decode cX13_expression 678 = .ok (.iastore, 1) := by decide +kernel
theorem dX13_expression_679 : decode cX13_expression 679 = .ok (.aload_n 0, 1) := by decide +kernel
theorem dX13_expression_680 : decode cX13_expression 680 = .ok (.ldc_w 584, 3) := by decide +kernel
theorem dX13_expression_683 : decode cX13_expression 683 = .ok (.invokevirtual 497, 3) := by decide +kernel
theorem dX13_expression_686 : decode cX13_expression 686 = .ok (.goto 9, 3) := by decide +kernel
theorem dX13_matching_0 : decode cX13_matching 0 = .ok (.aload_n 0, 1) := by decide +kernel
theorem dX13_matching_1 : decode cX13_matching 1 = .ok (.bipush 19, 2) := by decide +kernel
theorem dX13_matching_3 : decode cX13_matching 3 = .ok (.iload_n 1, 1) := by decide +kernel
theorem dX13_matching_4 : decode cX13_matching 4 = .ok (.invokevirtual 534, 3) := by decide +kernel
theorem dX13_matching_7 : decode cX13_matching 7 = .ok (.istore_n 2, 1) := by decide +kernel
theorem dX13_matching_8 : decode cX13_matching 8 = .ok (.aload_n 0, 1) := by decide +kernel
theorem dX13_matching_9 : decode cX13_matching 9 = .ok (.getfield 38, 3) := by decide +kernel
theorem dX13_matching_12 : decode cX13_matching 12 = .ok (.iload_n 2, 1) := by decide +kernel
theorem dX13_matching_13 : decode cX13_matching 13 = .ok (.aload_n 0, 1) := by decide +kernel
theorem dX13_matching_14 : decode cX13_matching 14 = .ok (.invokevirtual 519, 3) := by decide +kernel
theorem dX13_matching_17 : decode cX13_matching 17 = .ok (.iastore, 1) := by decide +kernel
theorem dX13_matching_18 : decode cX13_matching 18 = .ok (.aload_n 0, 1) := by decide +kernel
theorem dX13_matching_19 : decode cX13_matching 19 = .ok (.ldc_w 589, 3) := by decide +kernel
theorem dX13_matching_22 : decode cX13_matching 22 = .ok (.invokevirtual 497, 3) := by decide +kernel
theorem dX13_matching_25 : decode cX13_matching 25 = .ok (.aload_n 0, 1) := by decide +kernel
theorem dX13_matching_26 : decode cX13_matching 26 = .ok (.ldc_w 569, 3) := by decide +kernel
theorem dX13_matching_29 : decode cX13_matching 29 = .ok (.invokevirtual 497, 3) := by decide +kernel
theorem dX13_matching_32 : decode cX13_matching 32 = .ok (.aload_n 0, 1) := by decide +kernel
theorem dX13_matching_33 : decode cX13_matching 33 = .ok (.ldc_w 545, 3) := by decide +kernel
theorem dX13_matching_36 : decode cX13_matching 36 = .ok (.invokevirtual 497, 3) := by decide +kernel
theorem dX13_matching_39 : decode cX13_matching 39 = .ok (.aload_n 0, 1) := by decide +kernel
theorem dX13_matching_40 : decode cX13_matching 40 = .ok (.getfield 44, 3) := by decide +kernel
theorem dX13_matching_43 : decode cX13_matching 43 = .ok (.iload_n 2, 1) := by decide +kernel
theorem dX13_matching_44 : decode cX13_matching 44 = .ok (.aload_n 0, 1) := by decide +kernel
theorem dX13_matching_45 : decode cX13_matching 45 = .ok (.invokevirtual 538, 3) := by decide +kernel
theorem dX13_matching_48 : decode cX13_matching 48 = .ok (.iastore, 1) := by decide +kernel
theorem dX13_matching_49 : decode cX13_matching 49 = .ok (.aload_n 0, 1) := by decide +kernel
theorem dX13_matching_50 : decode cX13_matching 50 = .ok (.ldc_w 515, 3) := by decide +kernel
theorem dX13_matching_53 : decode cX13_matching 53 = .ok (.invokevirtual 497, 3) := by decide +kernel
theorem dX13_matching_56 : decode cX13_matching 56 = .ok (.aload_n 0, 1) := by decide +kernel
theorem dX13_matching_57 : decode cX13_matching 57 = .ok (.getfield 41, 3) := by decide +kernel
theorem dX13_matching_60 : decode cX13_matching 60 = .ok (.iload_n 2, 1) := by decide +kernel
theorem dX13_matching_61 : decode cX13_matching 61 = .ok (.aload_n 0, 1) := by decide +kernel
theorem dX13_matching_62 : decode cX13_matching 62 = .ok (.invokevirtual 519, 3) := by decide +kernel
theorem dX13_matching_65 : decode cX13_matching 65 = .ok (.iastore, 1) := by decide +kernel
theorem dX13_matching_66 : decode cX13_matching 66 = .ok (.aload_n 0, 1) := by decide +kernel
theorem dX13_matching_67 : decode cX13_matching 67 = .ok (.invokevirtual 519, 3) := by decide +kernel
theorem dX13_matching_70 : decode cX13_matching 70 = .ok (.pop, 1) := by decide +kernel
theorem dX13_matching_71 : decode cX13_matching 71 = .ok (.aload_n 0, 1) := by decide +kernel
theorem dX13_matching_72 : decode cX13_matching 72 = .ok (.ldc_w 545, 3) := by decide +kernel
theorem dX13_matching_75 : decode cX13_matching 75 = .ok (.invokevirtual 497, 3) := by decide +kernel
theorem dX13_matching_78 : decode cX13_matching 78 = .ok (.aload_n 0, 1) := by decide +kernel
theorem dX13_matching_79 : decode cX13_matching 79 = .ok (.getfield 47, 3) := by decide +kernel
theorem dX13_matching_82 : decode cX13_matching 82 = .ok (.iload_n 2, 1) := by decide +kernel
theorem dX13_matching_83 : decode cX13_matching 83 = .ok (.aload_n 0, 1) := by decide +kernel
theorem dX13_matching_84 : decode cX13_matching 84 = .ok (.invokevirtual 538, 3) := by decide +kernel
theorem dX13_matching_87 : decode cX13_matching 87 = .ok (.iastore, 1) := by decide +kernel
theorem dX13_matching_88 : decode cX13_matching 88 = .ok (.iload_n 2, 1) := by decide +kernel
theorem dX13_matching_89 : decode cX13_matching 89 = .ok (.ireturn, 1) := by decide +kernel
theorem dX13_simple_13 : decode cX13_simple 13 = .ok (.aload_n 0, 1) := by decide +kernel
theorem dX13_simple_14 : decode cX13_simple 14 = .ok (.aload_n 0, 1) := by decide +kernel
theorem dX13_simple_15 : decode cX13_simple 15 = .ok (.getfield 433, 3) := by decide +kernel
theorem dX13_simple_18 : decode cX13_simple 18 = .ok (.iconst 1, 1) := by decide +kernel
theorem dX13_simple_19 : decode cX13_simple 19 = .ok (.iadd, 1) := by decide +kernel
theorem dX13_simple_20 : decode cX13_simple 20 = .ok (.ldc_w 560, 3) := by decide +kernel
theorem dX13_simple_23 : decode cX13_simple 23 = .ok (.invokevirtual 439, 3) := by decide +kernel
theorem dX13_simple_26 : decode cX13_simple 26 = .ok (.ifCond .eq 65, 3) := by decide +kernel
theorem dX13_simple_29 : decode cX13_simple 29 = .ok (.aload_n 0, 1) := by decide +kernel
theorem dX13_simple_30 : decode cX13_simple 30 = .ok (.bipush 14, 2) := by decide +kernel
theorem dX13_simple_32 : decode cX13_simple 32 = .ok (.iload_n 1, 1) := by decide +kernel
theorem dX13_simple_33 : decode cX13_simple 33 = .ok (.invokevirtual 534, 3) := by decide +kernel
theorem dX13_simple_36 : decode cX13_simple 36 = .ok (.istore_n 2, 1) := by decide +kernel
theorem dX13_simple_37 : decode cX13_simple 37 = .ok (.aload_n 0, 1) := by decide +kernel
theorem dX13_simple_38 : decode cX13_simple 38 = .ok (.getfield 38, 3) := by decide +kernel
theorem dX13_simple_41 : decode cX13_simple 41 = .ok (.iload_n 2, 1) := by decide +kernel
theorem dX13_simple_42 : decode cX13_simple 42 = .ok (.aload_n 0, 1) := by decide +kernel
theorem dX13_simple_43 : decode cX13_simple 43 = .ok (.invokevirtual 519, 3) := by decide +kernel
theorem dX13_simple_46 : decode cX13_simple 46 = .ok (.iastore, 1) := by decide +kernel
theorem dX13_simple_47 : decode cX13_simple 47 = .ok (.aload_n 0, 1) := by decide +kernel
theorem dX13_simple_48 : decode cX13_simple 48 = .ok (.getfield 35, 3) := by decide +kernel
theorem dX13_simple_51 : decode cX13_simple 51 = .ok (.iload_n 2, 1) := by decide +kernel
theorem dX13_simple_52 : decode cX13_simple 52 = .ok (.aload_n 0, 1) := by decide +kernel
theorem dX13_simple_53 : decode cX13_simple 53 = .ok (.getfield 23, 3) := by decide +kernel
theorem dX13_simple_56 : decode cX13_simple 56 = .ok (.aload_n 0, 1) := by decide +kernel
theorem dX13_simple_57 : decode cX13_simple 57 = .ok (.getfield 433, 3) := by decide +kernel
theorem dX13_simple_60 : decode cX13_simple 60 = .ok (.iaload, 1) := by decide +kernel
theorem dX13_simple_61 : decode cX13_simple 61 = .ok (.iastore, 1) := by decide +kernel
theorem dX13_simple_62 : decode cX13_simple 62 = .ok (.aload_n 0, 1) := by decide +kernel
theorem dX13_simple_63 : decode cX13_simple 63 = .ok (.dup, 1) := by decide +kernel
theorem dX13_simple_64 : decode cX13_simple 64 = .ok (.getfield 433, 3) := by decide +kernel
theorem dX13_simple_67 : decode cX13_simple 67 = .ok (.iconst 1, 1) := by decide +kernel
theorem dX13_simple_68 : decode cX13_simple 68 = .ok (.iadd, 1) := by decide +kernel
theorem dX13_simple_69 : decode cX13_simple 69 = .ok (.putfield 433, 3) := by decide +kernel
theorem dX13_simple_72 : decode cX13_simple 72 = .ok (.aload_n 0, 1) := by decide +kernel
theorem dX13_simple_73 : decode cX13_simple 73 = .ok (.getfield 41, 3) := by decide +kernel
theorem dX13_simple_76 : decode cX13_simple 76 = .ok (.iload_n 2, 1) := by decide +kernel
theorem dX13_simple_77 : decode cX13_simple 77 = .ok (.aload_n 0, 1) := by decide +kernel
theorem dX13_simple_78 : decode cX13_simple 78 = .ok (.invokevirtual 562, 3) := by decide +kernel
theorem dX13_simple_81 : decode cX13_simple 81 = .ok (.iastore, 1) := by decide +kernel
theorem dX13_simple_82 : decode cX13_simple 82 = .ok (.aload_n 0, 1) := by decide +kernel
theorem dX13_simple_83 : decode cX13_simple 83 = .ok (.ldc_w 565, 3) := by decide +kernel
theorem dX13_simple_86 : decode cX13_simple 86 = .ok (.invokevirtual 497, 3) := by decide +kernel
theorem dX13_simple_89 : decode cX13_simple 89 = .ok (.iload_n 2, 1) := by decide +kernel
theorem dX13_simple_90 : decode cX13_simple 90 = .ok (.ireturn, 1) := by decide +kernel
theorem dX13_simple_104 : decode cX13_simple 104 = .ok (.aload_n 0, 1) := by decide +kernel
theorem dX13_simple_105 : decode cX13_simple 105 = .ok (.dup, 1) := by decide +kernel
theorem dX13_simple_106 : decode cX13_simple 106 = .ok (.getfield 433, 3) := by decide +kernel
theorem dX13_simple_109 : decode cX13_simple 109 = .ok (.iconst 1, 1) := by decide +kernel
theorem dX13_simple_110 : decode cX13_simple 110 = .ok (.iadd, 1) := by decide +kernel
theorem dX13_simple_111 : decode cX13_simple 111 = .ok (.putfield 433, 3) := by decide +kernel
theorem dX13_simple_114 : decode cX13_simple 114 = .ok (.aload_n 0, 1) := by decide +kernel
theorem dX13_simple_115 : decode cX13_simple 115 = .ok (.invokevirtual 591, 3) := by decide +kernel
theorem dX13_simple_118 : decode cX13_simple 118 = .ok (.istore_n 2, 1) := by decide +kernel
theorem dX13_simple_119 : decode cX13_simple 119 = .ok (.aload_n 0, 1) := by decide +kernel
theorem dX13_simple_120 : decode cX13_simple 120 = .ok (.dup, 1) := by decide +kernel
theorem dX13_simple_121 : decode cX13_simple 121 = .ok (.getfield 433, 3) := by decide +kernel
theorem dX13_simple_124 : decode cX13_simple 124 = .ok (.iconst 1, 1) := by decide +kernel
theorem dX13_simple_125 : decode cX13_simple 125 = .ok (.isub, 1) := by decide +kernel
theorem dX13_simple_126 : decode cX13_simple 126 = .ok (.putfield 433, 3) := by decide +kernel
theorem dX13_simple_129 : decode cX13_simple 129 = .ok (.iload_n 2, 1) := by decide +kernel
theorem dX13_simple_130 : decode cX13_simple 130 = .ok (.ifCond .eq 9, 3) := by decide +kernel
theorem dX13_simple_133 : decode cX13_simple 133 = .ok (.aload_n 0, 1) := by decide +kernel
theorem dX13_simple_134 : decode cX13_simple 134 = .ok (.iload_n 1, 1) := by decide +kernel
theorem dX13_simple_135 : decode cX13_simple 135 = .ok (.invokevirtual 595, 3) := by decide +kernel
theorem dX13_simple_138 : decode cX13_simple 138 = .ok (.ireturn, 1) := by decide +kernel
theorem dX13_simple_187 : decode cX13_simple 187 = .ok (.aload_n 0, 1) := by decide +kernel
theorem dX13_simple_188 : decode cX13_simple 188 = .ok (.getfield 29, 3) := by decide +kernel
theorem dX13_simple_191 : decode cX13_simple 191 = .ok (.iload_n 2, 1) := by decide +kernel
theorem dX13_simple_192 : decode cX13_simple 192 = .ok (.aload_n 0, 1) := by decide +kernel
theorem dX13_simple_193 : decode cX13_simple 193 = .ok (.ldc_w 508, 3) := by decide +kernel
theorem dX13_simple_196 : decode cX13_simple 196 = .ok (.invokevirtual 443, 3) := by decide +kernel
theorem dX13_simple_199 : decode cX13_simple 199 = .ok (.ifCond .eq 8, 3) := by decide +kernel
theorem dX13_simple_202 : decode cX13_simple 202 = .ok (.bipush 11, 2) := by decide +kernel
theorem dX13_simple_204 : decode cX13_simple 204 = .ok (.goto 20, 3) := by decide +kernel
theorem dX13_simple_207 : decode cX13_simple 207 = .ok (.aload_n 0, 1) := by decide +kernel
theorem dX13_simple_208 : decode cX13_simple 208 = .ok (.ldc_w 598, 3) := by decide +kernel
theorem dX13_simple_211 : decode cX13_simple 211 = .ok (.invokevirtual 443, 3) := by decide +kernel
theorem dX13_simple_214 : decode cX13_simple 214 = .ok (.ifCond .eq 8, 3) := by decide +kernel
theorem dX13_simple_217 : decode cX13_simple 217 = .ok (.bipush 12, 2) := by decide +kernel
theorem dX13_simple_219 : decode cX13_simple 219 = .ok (.goto 5, 3) := by decide +kernel
theorem dX13_simple_222 : decode cX13_simple 222 = .ok (.bipush 13, 2) := by decide +kernel
theorem dX13_simple_224 : decode cX13_simple 224 = .ok (.iastore, 1) := by decide +kernel
theorem dX13_simple_225 : decode cX13_simple 225 = .ok (.aload_n 0, 1) := by decide +kernel
theorem dX13_simple_226 : decode cX13_simple 226 = .ok (.getfield 35, 3) := by decide +kernel
theorem dX13_simple_229 : decode cX13_simple 229 = .ok (.iload_n 2, 1) := by decide +kernel
theorem dX13_simple_230 : decode cX13_simple 230 = .ok (.aload_n 0, 1) := by decide +kernel
theorem dX13_simple_231 : decode cX13_simple 231 = .ok (.getfield 23, 3) := by decide +kernel
theorem dX13_simple_234 : decode cX13_simple 234 = .ok (.aload_n 0, 1) := by decide +kernel
theorem dX13_simple_235 : decode cX13_simple 235 = .ok (.getfield 433, 3) := by decide +kernel
theorem dX13_simple_238 : decode cX13_simple 238 = .ok (.iaload, 1) := by decide +kernel
theorem dX13_simple_239 : decode cX13_simple 239 = .ok (.iastore, 1) := by decide +kernel
theorem dX13_simple_240 : decode cX13_simple 240 = .ok (.aload_n 0, 1) := by decide +kernel
theorem dX13_simple_241 : decode cX13_simple 241 = .ok (.dup, 1) := by decide +kernel
theorem dX13_simple_242 : decode cX13_simple 242 = .ok (.getfield 433, 3) := by decide +kernel
theorem dX13_simple_245 : decode cX13_simple 245 = .ok (.iconst 1, 1) := by decide +kernel
theorem dX13_simple_246 : decode cX13_simple 246 = .ok (.iadd, 1) := by decide +kernel
theorem dX13_simple_247 : decode cX13_simple 247 = .ok (.putfield 433, 3) := by decide +kernel
theorem dX13_simple_250 : decode cX13_simple 250 = .ok (.aload_n 0, 1) := by decide +kernel
theorem dX13_simple_251 : decode cX13_simple 251 = .ok (.getfield 44, 3) := by decide +kernel
theorem dX13_simple_254 : decode cX13_simple 254 = .ok (.iload_n 2, 1) := by decide +kernel
theorem dX13_simple_255 : decode cX13_simple 255 = .ok (.aload_n 0, 1) := by decide +kernel
theorem dX13_simple_256 : decode cX13_simple 256 = .ok (.invokevirtual 562, 3) := by decide +kernel
theorem dX13_simple_259 : decode cX13_simple 259 = .ok (.iastore, 1) := by decide +kernel
theorem dX13_call_0 : decode cX13_call 0 = .ok (.aload_n 0, 1) := by decide +kernel
theorem dX13_call_1 : decode cX13_call 1 = .ok (.bipush 15, 2) := by decide +kernel
theorem dX13_call_3 : decode cX13_call 3 = .ok (.iload_n 1, 1) := by decide +kernel
theorem dX13_call_4 : decode cX13_call 4 = .ok (.invokevirtual 534, 3) := by decide +kernel
theorem dX13_call_7 : decode cX13_call 7 = .ok (.istore_n 2, 1) := by decide +kernel
theorem dX13_call_8 : decode cX13_call 8 = .ok (.aload_n 0, 1) := by decide +kernel
theorem dX13_call_9 : decode cX13_call 9 = .ok (.getfield 38, 3) := by decide +kernel
theorem dX13_call_12 : decode cX13_call 12 = .ok (.iload_n 2, 1) := by decide +kernel
theorem dX13_call_13 : decode cX13_call 13 = .ok (.aload_n 0, 1) := by decide +kernel
theorem dX13_call_14 : decode cX13_call 14 = .ok (.invokevirtual 519, 3) := by decide +kernel
theorem dX13_call_17 : decode cX13_call 17 = .ok (.iastore, 1) := by decide +kernel
theorem dX13_call_18 : decode cX13_call 18 = .ok (.aload_n 0, 1) := by decide +kernel
theorem dX13_call_19 : decode cX13_call 19 = .ok (.getfield 98, 3) := by decide +kernel
theorem dX13_call_22 : decode cX13_call 22 = .ok (.astore_n 3, 1) := by decide +kernel
theorem dX13_call_23 : decode cX13_call 23 = .ok (.aload_n 0, 1) := by decide +kernel
theorem dX13_call_24 : decode cX13_call 24 = .ok (.getfield 602, 3) := by decide +kernel
theorem dX13_call_27 : decode cX13_call 27 = .ok (.istore 4, 2) := by decide +kernel
theorem dX13_call_29 : decode cX13_call 29 = .ok (.iconst 0, 1) := by decide +kernel
theorem dX13_call_30 : decode cX13_call 30 = .ok (.istore 5, 2) := by decide +kernel
theorem dX13_call_32 : decode cX13_call 32 = .ok (.aload_n 0, 1) := by decide +kernel
theorem dX13_call_33 : decode cX13_call 33 = .ok (.invokevirtual 591, 3) := by decide +kernel
theorem dX13_call_36 : decode cX13_call 36 = .ok (.ifCond .eq 309, 3) := by decide +kernel
theorem dX13_call_39 : decode cX13_call 39 = .ok (.iload 5, 2) := by decide +kernel
theorem dX13_call_41 : decode cX13_call 41 = .ok (.iconst 4, 1) := by decide +kernel
theorem dX13_call_42 : decode cX13_call 42 = .ok (.if_icmp .ne 7, 3) := by decide +kernel
theorem dX13_call_45 : decode cX13_call 45 = .ok (.aload_n 0, 1) := by decide +kernel
theorem dX13_call_46 : decode cX13_call 46 = .ok (.invokevirtual 450, 3) := by decide +kernel
theorem dX13_call_49 : decode cX13_call 49 = .ok (.aload_n 0, 1) := by decide +kernel
theorem dX13_call_50 : decode cX13_call 50 = .ok (.getfield 392, 3) := by decide +kernel
theorem dX13_call_53 : decode cX13_call 53 = .ok (.ifCond .eq 6, 3) := by decide +kernel
theorem dX13_call_56 : decode cX13_call 56 = .ok (.goto 289, 3) := by decide +kernel
theorem dX13_call_59 : decode cX13_call 59 = .ok (.aload_n 0, 1) := by decide +kernel
theorem dX13_call_60 : decode cX13_call 60 = .ok (.getfield 23, 3) := by decide +kernel
theorem dX13_call_63 : decode cX13_call 63 = .ok (.aload_n 0, 1) := by decide +kernel
theorem dX13_call_64 : decode cX13_call 64 = .ok (.getfield 433, 3) := by decide +kernel
theorem dX13_call_67 : decode cX13_call 67 = .ok (.iaload, 1) := by decide +kernel
theorem dX13_call_68 : decode cX13_call 68 = .ok (.istore 6, 2) := by decide +kernel
theorem dX13_call_70 : decode cX13_call 70 = .ok (.iconst 0, 1) := by decide +kernel
theorem dX13_call_71 : decode cX13_call 71 = .ok (.istore 7, 2) := by decide +kernel
theorem dX13_call_73 : decode cX13_call 73 = .ok (.iconst 0, 1) := by decide +kernel
theorem dX13_call_74 : decode cX13_call 74 = .ok (.istore 8, 2) := by decide +kernel
theorem dX13_call_76 : decode cX13_call 76 = .ok (.aload_n 0, 1) := by decide +kernel
theorem dX13_call_77 : decode cX13_call 77 = .ok (.ldc_w 578, 3) := by decide +kernel
theorem dX13_call_80 : decode cX13_call 80 = .ok (.invokevirtual 443, 3) := by decide +kernel
theorem dX13_call_83 : decode cX13_call 83 = .ok (.ifCond .ne 13, 3) := by decide +kernel
theorem dX13_call_86 : decode cX13_call 86 = .ok (.aload_n 0, 1) := by decide +kernel
theorem dX13_call_87 : decode cX13_call 87 = .ok (.ldc_w 580, 3) := by decide +kernel
theorem dX13_call_90 : decode cX13_call 90 = .ok (.invokevirtual 443, 3) := by decide +kernel
theorem dX13_call_93 : decode cX13_call 93 = .ok (.ifCond .eq 33, 3) := by decide +kernel
theorem dX13_call_96 : decode cX13_call 96 = .ok (.aload_n 0, 1) := by decide +kernel
theorem dX13_call_97 : decode cX13_call 97 = .ok (.ldc_w 578, 3) := by decide +kernel
theorem dX13_call_100 : decode cX13_call 100 = .ok (.invokevirtual 443, 3) := by decide +kernel
theorem dX13_call_103 : decode cX13_call 103 = .ok (.ifCond .eq 7, 3) := by decide +kernel
theorem dX13_call_106 : decode cX13_call 106 = .ok (.iconst 2, 1) := by decide +kernel
theorem dX13_call_107 : decode cX13_call 107 = .ok (.goto 4, 3) := by decide +kernel
theorem dX13_call_110 : decode cX13_call 110 = .ok (.iconst 3, 1) := by decide +kernel
theorem dX13_call_111 : decode cX13_call 111 = .ok (.istore 7, 2) := by decide +kernel
theorem dX13_call_113 : decode cX13_call 113 = .ok (.aload_n 0, 1) := by decide +kernel
theorem dX13_call_114 : decode cX13_call 114 = .ok (.dup, 1) := by decide +kernel
theorem dX13_call_115 : decode cX13_call 115 = .ok (.getfield 433, 3) := by decide +kernel
theorem dX13_call_118 : decode cX13_call 118 = .ok (.iconst 1, 1) := by decide +kernel
theorem dX13_call_119 : decode cX13_call 119 = .ok (.iadd, 1) := by decide +kernel
theorem dX13_call_120 : decode cX13_call 120 = .ok (.putfield 433, 3) := by decide +kernel
theorem dX13_call_123 : decode cX13_call 123 = .ok (.goto 178, 3) := by decide +kernel
theorem dX13_call_126 : decode cX13_call 126 = .ok (.aload_n 0, 1) := by decide +kernel
theorem dX13_call_127 : decode cX13_call 127 = .ok (.ldc_w 582, 3) := by decide +kernel
theorem dX13_call_130 : decode cX13_call 130 = .ok (.invokevirtual 443, 3) := by decide +kernel
theorem dX13_call_133 : decode cX13_call 133 = .ok (.ifCond .eq 51, 3) := by decide +kernel
theorem dX13_call_136 : decode cX13_call 136 = .ok (.aload_n 0, 1) := by decide +kernel
theorem dX13_call_137 : decode cX13_call 137 = .ok (.dup, 1) := by decide +kernel
theorem dX13_call_138 : decode cX13_call 138 = .ok (.getfield 433, 3) := by decide +kernel
theorem dX13_call_141 : decode cX13_call 141 = .ok (.iconst 1, 1) := by decide +kernel
theorem dX13_call_142 : decode cX13_call 142 = .ok (.iadd, 1) := by decide +kernel
theorem dX13_call_143 : decode cX13_call 143 = .ok (.putfield 433, 3) := by decide +kernel
theorem dX13_call_146 : decode cX13_call 146 = .ok (.aload_n 0, 1) := by decide +kernel
theorem dX13_call_147 : decode cX13_call 147 = .ok (.ldc_w 543, 3) := by decide +kernel
theorem dX13_call_150 : decode cX13_call 150 = .ok (.invokevirtual 443, 3) := by decide +kernel
theorem dX13_call_153 : decode cX13_call 153 = .ok (.ifCond .eq 15, 3) := by decide +kernel
theorem dX13_call_156 : decode cX13_call 156 = .ok (.iconst 1, 1) := by decide +kernel
theorem dX13_call_157 : decode cX13_call 157 = .ok (.istore 7, 2) := by decide +kernel
theorem dX13_call_159 : decode cX13_call 159 = .ok (.aload_n 0, 1) := by decide +kernel
theorem dX13_call_160 : decode cX13_call 160 = .ok (.invokevirtual 538, 3) := by decide +kernel
theorem dX13_call_163 : decode cX13_call 163 = .ok (.istore 8, 2) := by decide +kernel
theorem dX13_call_165 : decode cX13_call 165 = .ok (.goto 9, 3) := by decide +kernel
theorem dX13_call_168 : decode cX13_call 168 = .ok (.aload_n 0, 1) := by decide +kernel
theorem dX13_call_169 : decode cX13_call 169 = .ok (.invokevirtual 562, 3) := by decide +kernel
theorem dX13_call_172 : decode cX13_call 172 = .ok (.istore 8, 2) := by decide +kernel
theorem dX13_call_174 : decode cX13_call 174 = .ok (.aload_n 0, 1) := by decide +kernel
theorem dX13_call_175 : decode cX13_call 175 = .ok (.ldc_w 584, 3) := by decide +kernel
theorem dX13_call_178 : decode cX13_call 178 = .ok (.invokevirtual 497, 3) := by decide +kernel
theorem dX13_call_181 : decode cX13_call 181 = .ok (.goto 120, 3) := by decide +kernel
theorem dX13_call_184 : decode cX13_call 184 = .ok (.aload_n 0, 1) := by decide +kernel
theorem dX13_call_185 : decode cX13_call 185 = .ok (.getfield 469, 3) := by decide +kernel
theorem dX13_call_188 : decode cX13_call 188 = .ok (.istore 8, 2) := by decide +kernel
theorem dX13_call_190 : decode cX13_call 190 = .ok (.aload_n 0, 1) := by decide +kernel
theorem dX13_call_191 : decode cX13_call 191 = .ok (.dup, 1) := by decide +kernel
theorem dX13_call_192 : decode cX13_call 192 = .ok (.getfield 469, 3) := by decide +kernel
theorem dX13_call_195 : decode cX13_call 195 = .ok (.iconst 1, 1) := by decide +kernel
theorem dX13_call_196 : decode cX13_call 196 = .ok (.iadd, 1) := by decide +kernel
theorem dX13_call_197 : decode cX13_call 197 = .ok (.putfield 469, 3) := by decide +kernel
theorem dX13_call_200 : decode cX13_call 200 = .ok (.aload_n 0, 1) := by decide +kernel
theorem dX13_call_201 : decode cX13_call 201 = .ok (.getfield 56, 3) := by decide +kernel
theorem dX13_call_204 : decode cX13_call 204 = .ok (.iload 8, 2) := by decide +kernel
theorem dX13_call_206 : decode cX13_call 206 = .ok (.iload 6, 2) := by decide +kernel
theorem dX13_call_208 : decode cX13_call 208 = .ok (.iastore, 1) := by decide +kernel
theorem dX13_call_209 : decode cX13_call 209 = .ok (.aload_n 0, 1) := by decide +kernel
theorem dX13_call_210 : decode cX13_call 210 = .ok (.getfield 50, 3) := by decide +kernel
theorem dX13_call_213 : decode cX13_call 213 = .ok (.iload 8, 2) := by decide +kernel
theorem dX13_call_215 : decode cX13_call 215 = .ok (.aload_n 0, 1) := by decide +kernel
theorem dX13_call_216 : decode cX13_call 216 = .ok (.getfield 472, 3) := by decide +kernel
theorem dX13_call_219 : decode cX13_call 219 = .ok (.iastore, 1) := by decide +kernel
theorem dX13_call_220 : decode cX13_call 220 = .ok (.aload_n 0, 1) := by decide +kernel
theorem dX13_call_221 : decode cX13_call 221 = .ok (.getfield 59, 3) := by decide +kernel
theorem dX13_call_224 : decode cX13_call 224 = .ok (.aload_n 0, 1) := by decide +kernel
theorem dX13_call_225 : decode cX13_call 225 = .ok (.getfield 472, 3) := by decide +kernel
theorem dX13_call_228 : decode cX13_call 228 = .ok (.aload_n 0, 1) := by decide +kernel
theorem dX13_call_229 : decode cX13_call 229 = .ok (.getfield 19, 3) := by decide +kernel
theorem dX13_call_232 : decode cX13_call 232 = .ok (.aload_n 0, 1) := by decide +kernel
theorem dX13_call_233 : decode cX13_call 233 = .ok (.getfield 433, 3) := by decide +kernel
theorem dX13_call_236 : decode cX13_call 236 = .ok (.iaload, 1) := by decide +kernel
theorem dX13_call_237 : decode cX13_call 237 = .ok (.iconst 2, 1) := by decide +kernel
theorem dX13_call_238 : decode cX13_call 238 = .ok (.if_icmp .ne 7, 3) := by decide +kernel
theorem dX13_call_241 : decode cX13_call 241 = .ok (.iconst 0, 1) := by decide +kernel
theorem dX13_call_242 : decode cX13_call 242 = .ok (.goto 4, 3) := by decide +kernel
theorem dX13_call_245 : decode cX13_call 245 = .ok (.iconst 1, 1) := by decide +kernel
theorem dX13_call_246 : decode cX13_call 246 = .ok (.iastore, 1) := by decide +kernel
theorem dX13_call_247 : decode cX13_call 247 = .ok (.aload_n 0, 1) := by decide +kernel
theorem dX13_call_248 : decode cX13_call 248 = .ok (.getfield 62, 3) := by decide +kernel
theorem dX13_call_251 : decode cX13_call 251 = .ok (.aload_n 0, 1) := by decide +kernel
theorem dX13_call_252 : decode cX13_call 252 = .ok (.getfield 472, 3) := by decide +kernel
theorem dX13_call_255 : decode cX13_call 255 = .ok (.iconst 1, 1) := by decide +kernel
theorem dX13_call_256 : decode cX13_call 256 = .ok (.iastore, 1) := by decide +kernel
theorem dX13_call_257 : decode cX13_call 257 = .ok (.aload_n 0, 1) := by decide +kernel
theorem dX13_call_258 : decode cX13_call 258 = .ok (.getfield 65, 3) := by decide +kernel
theorem dX13_call_261 : decode cX13_call 261 = .ok (.aload_n 0, 1) := by decide +kernel
theorem dX13_call_262 : decode cX13_call 262 = .ok (.getfield 472, 3) := by decide +kernel
theorem dX13_call_265 : decode cX13_call 265 = .ok (.aload_n 0, 1) := by decide +kernel
theorem dX13_call_266 : decode cX13_call 266 = .ok (.getfield 433, 3) := by decide +kernel
theorem dX13_call_269 : decode cX13_call 269 = .ok (.iastore, 1) := by decide +kernel
theorem dX13_call_270 : decode cX13_call 270 = .ok (.aload_n 0, 1) := by decide +kernel
theorem dX13_call_271 : decode cX13_call 271 = .ok (.dup, 1) := by decide +kernel
theorem dX13_call_272 : decode cX13_call 272 = .ok (.getfield 472, 3) := by decide +kernel
theorem dX13_call_275 : decode cX13_call 275 = .ok (.iconst 1, 1) := by decide +kernel
theorem dX13_call_276 : decode cX13_call 276 = .ok (.iadd, 1) := by decide +kernel
theorem dX13_call_277 : decode cX13_call 277 = .ok (.putfield 472, 3) := by decide +kernel
theorem dX13_call_280 : decode cX13_call 280 = .ok (.aload_n 0, 1) := by decide +kernel
theorem dX13_call_281 : decode cX13_call 281 = .ok (.getfield 53, 3) := by decide +kernel
theorem dX13_call_284 : decode cX13_call 284 = .ok (.iload 8, 2) := by decide +kernel
theorem dX13_call_286 : decode cX13_call 286 = .ok (.aload_n 0, 1) := by decide +kernel
theorem dX13_call_287 : decode cX13_call 287 = .ok (.getfield 472, 3) := by decide +kernel
theorem dX13_call_290 : decode cX13_call 290 = .ok (.iastore, 1) := by decide +kernel
theorem dX13_call_291 : decode cX13_call 291 = .ok (.aload_n 0, 1) := by decide +kernel
theorem dX13_call_292 : decode cX13_call 292 = .ok (.dup, 1) := by decide +kernel
theorem dX13_call_293 : decode cX13_call 293 = .ok (.getfield 433, 3) := by decide +kernel
theorem dX13_call_296 : decode cX13_call 296 = .ok (.iconst 1, 1) := by decide +kernel
theorem dX13_call_297 : decode cX13_call 297 = .ok (.iadd, 1) := by decide +kernel
theorem dX13_call_298 : decode cX13_call 298 = .ok (.putfield 433, 3) := by decide +kernel
theorem dX13_call_301 : decode cX13_call 301 = .ok (.aload_n 3, 1) := by decide +kernel
theorem dX13_call_302 : decode cX13_call 302 = .ok (.aload_n 0, 1) := by decide +kernel
theorem dX13_call_303 : decode cX13_call 303 = .ok (.getfield 602, 3) := by decide +kernel
theorem dX13_call_306 : decode cX13_call 306 = .ok (.iload 7, 2) := by decide +kernel
theorem dX13_call_308 : decode cX13_call 308 = .ok (.iastore, 1) := by decide +kernel
theorem dX13_call_309 : decode cX13_call 309 = .ok (.aload_n 3, 1) := by decide +kernel
theorem dX13_call_310 : decode cX13_call 310 = .ok (.aload_n 0, 1) := by decide +kernel
theorem dX13_call_311 : decode cX13_call 311 = .ok (.getfield 602, 3) := by decide +kernel
theorem dX13_call_314 : decode cX13_call 314 = .ok (.iconst 1, 1) := by decide +kernel
theorem dX13_call_315 : decode cX13_call 315 = .ok (.iadd, 1) := by decide +kernel
theorem dX13_call_316 : decode cX13_call 316 = .ok (.iload 8, 2) := by decide +kernel
theorem dX13_call_318 : decode cX13_call 318 = .ok (.iastore, 1) := by decide +kernel
theorem dX13_call_319 : decode cX13_call 319 = .ok (.aload_n 3, 1) := by decide +kernel
theorem dX13_call_320 : decode cX13_call 320 = .ok (.aload_n 0, 1) := by decide +kernel
theorem dX13_call_321 : decode cX13_call 321 = .ok (.getfield 602, 3) := by decide +kernel
theorem dX13_call_324 : decode cX13_call 324 = .ok (.iconst 2, 1) := by decide +kernel
theorem dX13_call_325 : decode cX13_call 325 = .ok (.iadd, 1) := by decide +kernel
theorem dX13_call_326 : decode cX13_call 326 = .ok (.iload 6, 2) := by decide +kernel
theorem dX13_call_328 : decode cX13_call 328 = .ok (.iastore, 1) := by decide +kernel
theorem dX13_call_329 : decode cX13_call 329 = .ok (.aload_n 0, 1) := by decide +kernel
theorem dX13_call_330 : decode cX13_call 330 = .ok (.dup, 1) := by decide +kernel
theorem dX13_call_331 : decode cX13_call 331 = .ok (.getfield 602, 3) := by decide +kernel
theorem dX13_call_334 : decode cX13_call 334 = .ok (.iconst 3, 1) := by decide +kernel
theorem dX13_call_335 : decode cX13_call 335 = .ok (.iadd, 1) := by decide +kernel
theorem dX13_call_336 : decode cX13_call 336 = .ok (.putfield 602, 3) := by decide +kernel
theorem dX13_call_339 : decode cX13_call 339 = .ok (.iinc 5 1, 3) := by decide +kernel
theorem dX13_call_342 : decode cX13_call 342 = .ok (.goto (-310), 3) := by decide +kernel
theorem dX13_call_345 : decode cX13_call 345 = .ok (.aload_n 0, 1) := by decide +kernel
theorem dX13_call_346 : decode cX13_call 346 = .ok (.getfield 41, 3) := by decide +kernel
theorem dX13_call_349 : decode cX13_call 349 = .ok (.iload_n 2, 1) := by decide +kernel
theorem dX13_call_350 : decode cX13_call 350 = .ok (.aload_n 0, 1) := by decide +kernel
theorem dX13_call_351 : decode cX13_call 351 = .ok (.getfield 475, 3) := by decide +kernel
theorem dX13_call_354 : decode cX13_call 354 = .ok (.iastore, 1) := by decide +kernel
theorem dX13_call_355 : decode cX13_call 355 = .ok (.aload_n 0, 1) := by decide +kernel
theorem dX13_call_356 : decode cX13_call 356 = .ok (.getfield 44, 3) := by decide +kernel
theorem dX13_call_359 : decode cX13_call 359 = .ok (.iload_n 2, 1) := by decide +kernel
theorem dX13_call_360 : decode cX13_call 360 = .ok (.iload 5, 2) := by decide +kernel
theorem dX13_call_362 : decode cX13_call 362 = .ok (.iastore, 1) := by decide +kernel
theorem dX13_call_363 : decode cX13_call 363 = .ok (.iconst 0, 1) := by decide +kernel
theorem dX13_call_364 : decode cX13_call 364 = .ok (.istore 6, 2) := by decide +kernel
theorem dX13_call_366 : decode cX13_call 366 = .ok (.iload 6, 2) := by decide +kernel
theorem dX13_call_368 : decode cX13_call 368 = .ok (.iload 5, 2) := by decide +kernel
theorem dX13_call_370 : decode cX13_call 370 = .ok (.if_icmp .ge 77, 3) := by decide +kernel
theorem dX13_call_373 : decode cX13_call 373 = .ok (.aload_n 0, 1) := by decide +kernel
theorem dX13_call_374 : decode cX13_call 374 = .ok (.getfield 68, 3) := by decide +kernel
theorem dX13_call_377 : decode cX13_call 377 = .ok (.aload_n 0, 1) := by decide +kernel
theorem dX13_call_378 : decode cX13_call 378 = .ok (.getfield 475, 3) := by decide +kernel
theorem dX13_call_381 : decode cX13_call 381 = .ok (.aload_n 3, 1) := by decide +kernel
theorem dX13_call_382 : decode cX13_call 382 = .ok (.iload 4, 2) := by decide +kernel
theorem dX13_call_384 : decode cX13_call 384 = .ok (.iconst 3, 1) := by decide +kernel
theorem dX13_call_385 : decode cX13_call 385 = .ok (.iload 6, 2) := by decide +kernel
theorem dX13_call_387 : decode cX13_call 387 = .ok (.imul, 1) := by decide +kernel
theorem dX13_call_388 : decode cX13_call 388 = .ok (.iadd, 1) := by decide +kernel
theorem dX13_call_389 : decode cX13_call 389 = .ok (.iaload, 1) := by decide +kernel
theorem dX13_call_390 : decode cX13_call 390 = .ok (.iastore, 1) := by decide +kernel
theorem dX13_call_391 : decode cX13_call 391 = .ok (.aload_n 0, 1) := by decide +kernel
theorem dX13_call_392 : decode cX13_call 392 = .ok (.getfield 71, 3) := by decide +kernel
theorem dX13_call_395 : decode cX13_call 395 = .ok (.aload_n 0, 1) := by decide +kernel
theorem dX13_call_396 : decode cX13_call 396 = .ok (.getfield 475, 3) := by decide +kernel
theorem dX13_call_399 : decode cX13_call 399 = .ok (.aload_n 3, 1) := by decide +kernel
theorem dX13_call_400 : decode cX13_call 400 = .ok (.iload 4, 2) := by decide +kernel
theorem dX13_call_402 : decode cX13_call 402 = .ok (.iconst 3, 1) := by decide +kernel
theorem dX13_call_403 : decode cX13_call 403 = .ok (.iload 6, 2) := by decide +kernel
theorem dX13_call_405 : decode cX13_call 405 = .ok (.imul, 1) := by decide +kernel
theorem dX13_call_406 : decode cX13_call 406 = .ok (.iadd, 1) := by decide +kernel
theorem dX13_call_407 : decode cX13_call 407 = .ok (.iconst 1, 1) := by decide +kernel
theorem dX13_call_408 : decode cX13_call 408 = .ok (.iadd, 1) := by decide +kernel
theorem dX13_call_409 : decode cX13_call 409 = .ok (.iaload, 1) := by decide +kernel
theorem dX13_call_410 : decode cX13_call 410 = .ok (.iastore, 1) := by decide +kernel
theorem dX13_call_411 : decode cX13_call 411 = .ok (.aload_n 0, 1) := by decide +kernel
theorem dX13_call_412 : decode cX13_call 412 = .ok (.getfield 74, 3) := by decide +kernel
theorem dX13_call_415 : decode cX13_call 415 = .ok (.aload_n 0, 1) := by decide +kernel
theorem dX13_call_416 : decode cX13_call 416 = .ok (.getfield 475, 3) := by decide +kernel
theorem dX13_call_419 : decode cX13_call 419 = .ok (.aload_n 3, 1) := by decide +kernel
theorem dX13_call_420 : decode cX13_call 420 = .ok (.iload 4, 2) := by decide +kernel
theorem dX13_call_422 : decode cX13_call 422 = .ok (.iconst 3, 1) := by decide +kernel
theorem dX13_call_423 : decode cX13_call 423 = .ok (.iload 6, 2) := by decide +kernel
theorem dX13_call_425 : decode cX13_call 425 = .ok (.imul, 1) := by decide +kernel
theorem dX13_call_426 : decode cX13_call 426 = .ok (.iadd, 1) := by decide +kernel
theorem dX13_call_427 : decode cX13_call 427 = .ok (.iconst 2, 1) := by decide +kernel
theorem dX13_call_428 : decode cX13_call 428 = .ok (.iadd, 1) := by decide +kernel
theorem dX13_call_429 : decode cX13_call 429 = .ok (.iaload, 1) := by decide +kernel
theorem dX13_call_430 : decode cX13_call 430 = .ok (.iastore, 1) := by decide +kernel
theorem dX13_call_431 : decode cX13_call 431 = .ok (.aload_n 0, 1) := by decide +kernel
theorem dX13_call_432 : decode cX13_call 432 = .ok (.dup, 1) := by decide +kernel
theorem dX13_call_433 : decode cX13_call 433 = .ok (.getfield 475, 3) := by decide +kernel
theorem dX13_call_436 : decode cX13_call 436 = .ok (.iconst 1, 1) := by decide +kernel
theorem dX13_call_437 : decode cX13_call 437 = .ok (.iadd, 1) := by decide +kernel
theorem dX13_call_438 : decode cX13_call 438 = .ok (.putfield 475, 3) := by decide +kernel
theorem dX13_call_441 : decode cX13_call 441 = .ok (.iinc 6 1, 3) := by decide +kernel
theorem dX13_call_444 : decode cX13_call 444 = .ok (.goto (-78), 3) := by decide +kernel
theorem dX13_call_447 : decode cX13_call 447 = .ok (.aload_n 0, 1) := by decide +kernel
theorem dX13_call_448 : decode cX13_call 448 = .ok (.iload 4, 2) := by decide +kernel
theorem dX13_call_450 : decode cX13_call 450 = .ok (.putfield 602, 3) := by decide +kernel
theorem dX13_call_453 : decode cX13_call 453 = .ok (.iload_n 2, 1) := by decide +kernel
theorem dX13_call_454 : decode cX13_call 454 = .ok (.ireturn, 1) := by decide +kernel
theorem dX13_sum_50 : decode cX13_sum 50 = .ok (.iconst (-1), 1) := by decide +kernel
theorem dX13_sum_51 : decode cX13_sum 51 = .ok (.goto 4, 3) := by decide +kernel
theorem dX13_sum_81 : decode cX13_sum 81 = .ok (.aload_n 0, 1) := by decide +kernel
theorem dX13_sum_82 : decode cX13_sum 82 = .ok (.ldc_w 506, 3) := by decide +kernel
theorem dX13_sum_85 : decode cX13_sum 85 = .ok (.invokevirtual 443, 3) := by decide +kernel
theorem dX13_sum_88 : decode cX13_sum 88 = .ok (.ifCond .eq 7, 3) := by decide +kernel
theorem dX13_sum_91 : decode cX13_sum 91 = .ok (.iconst (-1), 1) := by decide +kernel
theorem dX13_sum_92 : decode cX13_sum 92 = .ok (.goto 4, 3) := by decide +kernel
theorem dX13_sum_95 : decode cX13_sum 95 = .ok (.iconst 1, 1) := by decide +kernel
theorem dX13_sum_96 : decode cX13_sum 96 = .ok (.istore_n 2, 1) := by decide +kernel
theorem dX13_sum_97 : decode cX13_sum 97 = .ok (.aload_n 0, 1) := by decide +kernel
theorem dX13_sum_98 : decode cX13_sum 98 = .ok (.dup, 1) := by decide +kernel
theorem dX13_sum_99 : decode cX13_sum 99 = .ok (.getfield 433, 3) := by decide +kernel
theorem dX13_sum_102 : decode cX13_sum 102 = .ok (.iconst 1, 1) := by decide +kernel
theorem dX13_sum_103 : decode cX13_sum 103 = .ok (.iadd, 1) := by decide +kernel
theorem dX13_sum_104 : decode cX13_sum 104 = .ok (.putfield 433, 3) := by decide +kernel
theorem dX13_sum_107 : decode cX13_sum 107 = .ok (.aload_n 0, 1) := by decide +kernel
theorem dX13_sum_108 : decode cX13_sum 108 = .ok (.iload_n 2, 1) := by decide +kernel
theorem dX13_sum_109 : decode cX13_sum 109 = .ok (.invokevirtual 605, 3) := by decide +kernel
theorem dX13_sum_112 : decode cX13_sum 112 = .ok (.goto (-51), 3) := by decide +kernel
theorem dX13_part_7 : decode cX13_part 7 = .ok (.return_, 1) := by decide +kernel
theorem dX13_part_20 : decode cX13_part 20 = .ok (.iconst 2, 1) := by decide +kernel
theorem dX13_part_21 : decode cX13_part 21 = .ok (.istore_n 2, 1) := by decide +kernel
theorem dX13_part_22 : decode cX13_part 22 = .ok (.goto 33, 3) := by decide +kernel
theorem dX13_part_35 : decode cX13_part 35 = .ok (.iconst 3, 1) := by decide +kernel
theorem dX13_part_36 : decode cX13_part 36 = .ok (.istore_n 2, 1) := by decide +kernel
theorem dX13_part_37 : decode cX13_part 37 = .ok (.goto 18, 3) := by decide +kernel
theorem dX13_part_53 : decode cX13_part 53 = .ok (.iconst 0, 1) := by decide +kernel
theorem dX13_part_54 : decode cX13_part 54 = .ok (.istore_n 2, 1) := by decide +kernel
theorem dX13_part_77 : decode cX13_part 77 = .ok (.aload_n 0, 1) := by decide +kernel
theorem dX13_part_78 : decode cX13_part 78 = .ok (.getfield 59, 3) := by decide +kernel
theorem dX13_part_81 : decode cX13_part 81 = .ok (.aload_n 0, 1) := by decide +kernel
theorem dX13_part_82 : decode cX13_part 82 = .ok (.getfield 472, 3) := by decide +kernel
theorem dX13_part_85 : decode cX13_part 85 = .ok (.iload_n 2, 1) := by decide +kernel
theorem dX13_part_86 : decode cX13_part 86 = .ok (.iastore, 1) := by decide +kernel
theorem dX13_part_87 : decode cX13_part 87 = .ok (.aload_n 0, 1) := by decide +kernel
theorem dX13_part_88 : decode cX13_part 88 = .ok (.getfield 62, 3) := by decide +kernel
theorem dX13_part_91 : decode cX13_part 91 = .ok (.aload_n 0, 1) := by decide +kernel
theorem dX13_part_92 : decode cX13_part 92 = .ok (.getfield 472, 3) := by decide +kernel
theorem dX13_part_95 : decode cX13_part 95 = .ok (.iload_n 1, 1) := by decide +kernel
theorem dX13_part_96 : decode cX13_part 96 = .ok (.iastore, 1) := by decide +kernel
theorem dX13_part_97 : decode cX13_part 97 = .ok (.aload_n 0, 1) := by decide +kernel
theorem dX13_part_98 : decode cX13_part 98 = .ok (.getfield 65, 3) := by decide +kernel
theorem dX13_part_101 : decode cX13_part 101 = .ok (.aload_n 0, 1) := by decide +kernel
theorem dX13_part_102 : decode cX13_part 102 = .ok (.getfield 472, 3) := by decide +kernel
theorem dX13_part_105 : decode cX13_part 105 = .ok (.aload_n 0, 1) := by decide +kernel
theorem dX13_part_106 : decode cX13_part 106 = .ok (.getfield 433, 3) := by decide +kernel
theorem dX13_part_109 : decode cX13_part 109 = .ok (.iastore, 1) := by decide +kernel
theorem dX13_part_110 : decode cX13_part 110 = .ok (.aload_n 0, 1) := by decide +kernel
theorem dX13_part_111 : decode cX13_part 111 = .ok (.dup, 1) := by decide +kernel
theorem dX13_part_112 : decode cX13_part 112 = .ok (.getfield 472, 3) := by decide +kernel
theorem dX13_part_115 : decode cX13_part 115 = .ok (.iconst 1, 1) := by decide +kernel
theorem dX13_part_116 : decode cX13_part 116 = .ok (.iadd, 1) := by decide +kernel
theorem dX13_part_117 : decode cX13_part 117 = .ok (.putfield 472, 3) := by decide +kernel
theorem dX13_part_120 : decode cX13_part 120 = .ok (.aload_n 0, 1) := by decide +kernel
theorem dX13_part_121 : decode cX13_part 121 = .ok (.dup, 1) := by decide +kernel
theorem dX13_part_122 : decode cX13_part 122 = .ok (.getfield 433, 3) := by decide +kernel
theorem dX13_part_125 : decode cX13_part 125 = .ok (.iconst 1, 1) := by decide +kernel
theorem dX13_part_126 : decode cX13_part 126 = .ok (.iadd, 1) := by decide +kernel
theorem dX13_part_127 : decode cX13_part 127 = .ok (.putfield 433, 3) := by decide +kernel
theorem dX13_part_130 : decode cX13_part 130 = .ok (.return_, 1) := by decide +kernel
theorem dX13_condition_0 : decode cX13_condition 0 = .ok (.aload_n 0, 1) := by decide +kernel
theorem dX13_condition_1 : decode cX13_condition 1 = .ok (.invokevirtual 612, 3) := by decide +kernel
theorem dX13_condition_4 : decode cX13_condition 4 = .ok (.istore_n 1, 1) := by decide +kernel
theorem dX13_condition_5 : decode cX13_condition 5 = .ok (.aload_n 0, 1) := by decide +kernel
theorem dX13_condition_6 : decode cX13_condition 6 = .ok (.ldc_w 615, 3) := by decide +kernel
theorem dX13_condition_9 : decode cX13_condition 9 = .ok (.invokevirtual 443, 3) := by decide +kernel
theorem dX13_condition_12 : decode cX13_condition 12 = .ok (.ifCond .eq 48, 3) := by decide +kernel
theorem dX13_condition_15 : decode cX13_condition 15 = .ok (.aload_n 0, 1) := by decide +kernel
theorem dX13_condition_16 : decode cX13_condition 16 = .ok (.bipush 20, 2) := by decide +kernel
theorem dX13_condition_18 : decode cX13_condition 18 = .ok (.aload_n 0, 1) := by decide +kernel
theorem dX13_condition_19 : decode cX13_condition 19 = .ok (.getfield 32, 3) := by decide +kernel
theorem dX13_condition_22 : decode cX13_condition 22 = .ok (.iload_n 1, 1) := by decide +kernel
theorem dX13_condition_23 : decode cX13_condition 23 = .ok (.iaload, 1) := by decide +kernel
theorem dX13_condition_24 : decode cX13_condition 24 = .ok (.invokevirtual 534, 3) := by decide +kernel
theorem dX13_condition_27 : decode cX13_condition 27 = .ok (.istore_n 2, 1) := by decide +kernel
theorem dX13_condition_28 : decode cX13_condition 28 = .ok (.aload_n 0, 1) := by decide +kernel
theorem dX13_condition_29 : decode cX13_condition 29 = .ok (.dup, 1) := by decide +kernel
theorem dX13_condition_30 : decode cX13_condition 30 = .ok (.getfield 433, 3) := by decide +kernel
theorem dX13_condition_33 : decode cX13_condition 33 = .ok (.iconst 1, 1) := by decide +kernel
theorem dX13_condition_34 : decode cX13_condition 34 = .ok (.iadd, 1) := by decide +kernel
theorem dX13_condition_35 : decode cX13_condition 35 = .ok (.putfield 433, 3) := by decide +kernel
theorem dX13_condition_38 : decode cX13_condition 38 = .ok (.aload_n 0, 1) := by decide +kernel
theorem dX13_condition_39 : decode cX13_condition 39 = .ok (.getfield 38, 3) := by decide +kernel
theorem dX13_condition_42 : decode cX13_condition 42 = .ok (.iload_n 2, 1) := by decide +kernel
theorem dX13_condition_43 : decode cX13_condition 43 = .ok (.iload_n 1, 1) := by decide +kernel
theorem dX13_condition_44 : decode cX13_condition 44 = .ok (.iastore, 1) := by decide +kernel
theorem dX13_condition_45 : decode cX13_condition 45 = .ok (.aload_n 0, 1) := by decide +kernel
theorem dX13_condition_46 : decode cX13_condition 46 = .ok (.getfield 41, 3) := by decide +kernel
theorem dX13_condition_49 : decode cX13_condition 49 = .ok (.iload_n 2, 1) := by decide +kernel
theorem dX13_condition_50 : decode cX13_condition 50 = .ok (.aload_n 0, 1) := by decide +kernel
theorem dX13_condition_51 : decode cX13_condition 51 = .ok (.invokevirtual 612, 3) := by decide +kernel
theorem dX13_condition_54 : decode cX13_condition 54 = .ok (.iastore, 1) := by decide +kernel
theorem dX13_condition_55 : decode cX13_condition 55 = .ok (.iload_n 2, 1) := by decide +kernel
theorem dX13_condition_56 : decode cX13_condition 56 = .ok (.istore_n 1, 1) := by decide +kernel
theorem dX13_condition_57 : decode cX13_condition 57 = .ok (.goto (-52), 3) := by decide +kernel
theorem dX13_condition_60 : decode cX13_condition 60 = .ok (.iload_n 1, 1) := by decide +kernel
theorem dX13_condition_61 : decode cX13_condition 61 = .ok (.ireturn, 1) := by decide +kernel
theorem dX13_both_0 : decode cX13_both 0 = .ok (.aload_n 0, 1) := by decide +kernel
theorem dX13_both_1 : decode cX13_both 1 = .ok (.invokevirtual 617, 3) := by decide +kernel
theorem dX13_both_4 : decode cX13_both 4 = .ok (.istore_n 1, 1) := by decide +kernel
theorem dX13_both_5 : decode cX13_both 5 = .ok (.aload_n 0, 1) := by decide +kernel
theorem dX13_both_6 : decode cX13_both 6 = .ok (.ldc_w 620, 3) := by decide +kernel
theorem dX13_both_9 : decode cX13_both 9 = .ok (.invokevirtual 443, 3) := by decide +kernel
theorem dX13_both_12 : decode cX13_both 12 = .ok (.ifCond .eq 48, 3) := by decide +kernel
theorem dX13_both_15 : decode cX13_both 15 = .ok (.aload_n 0, 1) := by decide +kernel
theorem dX13_both_16 : decode cX13_both 16 = .ok (.bipush 21, 2) := by decide +kernel
theorem dX13_both_18 : decode cX13_both 18 = .ok (.aload_n 0, 1) := by decide +kernel
theorem dX13_both_19 : decode cX13_both 19 = .ok (.getfield 32, 3) := by decide +kernel
theorem dX13_both_22 : decode cX13_both 22 = .ok (.iload_n 1, 1) := by decide +kernel
theorem dX13_both_23 : decode cX13_both 23 = .ok (.iaload, 1) := by decide +kernel
theorem dX13_both_24 : decode cX13_both 24 = .ok (.invokevirtual 534, 3) := by decide +kernel
theorem dX13_both_27 : decode cX13_both 27 = .ok (.istore_n 2, 1) := by decide +kernel
theorem dX13_both_28 : decode cX13_both 28 = .ok (.aload_n 0, 1) := by decide +kernel
theorem dX13_both_29 : decode cX13_both 29 = .ok (.dup, 1) := by decide +kernel
theorem dX13_both_30 : decode cX13_both 30 = .ok (.getfield 433, 3) := by decide +kernel
theorem dX13_both_33 : decode cX13_both 33 = .ok (.iconst 1, 1) := by decide +kernel
theorem dX13_both_34 : decode cX13_both 34 = .ok (.iadd, 1) := by decide +kernel
theorem dX13_both_35 : decode cX13_both 35 = .ok (.putfield 433, 3) := by decide +kernel
theorem dX13_both_38 : decode cX13_both 38 = .ok (.aload_n 0, 1) := by decide +kernel
theorem dX13_both_39 : decode cX13_both 39 = .ok (.getfield 38, 3) := by decide +kernel
theorem dX13_both_42 : decode cX13_both 42 = .ok (.iload_n 2, 1) := by decide +kernel
theorem dX13_both_43 : decode cX13_both 43 = .ok (.iload_n 1, 1) := by decide +kernel
theorem dX13_both_44 : decode cX13_both 44 = .ok (.iastore, 1) := by decide +kernel
theorem dX13_both_45 : decode cX13_both 45 = .ok (.aload_n 0, 1) := by decide +kernel
theorem dX13_both_46 : decode cX13_both 46 = .ok (.getfield 41, 3) := by decide +kernel
theorem dX13_both_49 : decode cX13_both 49 = .ok (.iload_n 2, 1) := by decide +kernel
theorem dX13_both_50 : decode cX13_both 50 = .ok (.aload_n 0, 1) := by decide +kernel
theorem dX13_both_51 : decode cX13_both 51 = .ok (.invokevirtual 617, 3) := by decide +kernel
theorem dX13_both_54 : decode cX13_both 54 = .ok (.iastore, 1) := by decide +kernel
theorem dX13_both_55 : decode cX13_both 55 = .ok (.iload_n 2, 1) := by decide +kernel
theorem dX13_both_56 : decode cX13_both 56 = .ok (.istore_n 1, 1) := by decide +kernel
theorem dX13_both_57 : decode cX13_both 57 = .ok (.goto (-52), 3) := by decide +kernel
theorem dX13_both_60 : decode cX13_both 60 = .ok (.iload_n 1, 1) := by decide +kernel
theorem dX13_both_61 : decode cX13_both 61 = .ok (.ireturn, 1) := by decide +kernel
theorem dX13_single_0 : decode cX13_single 0 = .ok (.aload_n 0, 1) := by decide +kernel
theorem dX13_single_1 : decode cX13_single 1 = .ok (.getfield 392, 3) := by decide +kernel
theorem dX13_single_4 : decode cX13_single 4 = .ok (.ifCond .eq 5, 3) := by decide +kernel
theorem dX13_single_7 : decode cX13_single 7 = .ok (.iconst 0, 1) := by decide +kernel
theorem dX13_single_8 : decode cX13_single 8 = .ok (.ireturn, 1) := by decide +kernel
theorem dX13_single_9 : decode cX13_single 9 = .ok (.aload_n 0, 1) := by decide +kernel
theorem dX13_single_10 : decode cX13_single 10 = .ok (.getfield 23, 3) := by decide +kernel
theorem dX13_single_13 : decode cX13_single 13 = .ok (.aload_n 0, 1) := by decide +kernel
theorem dX13_single_14 : decode cX13_single 14 = .ok (.getfield 433, 3) := by decide +kernel
theorem dX13_single_17 : decode cX13_single 17 = .ok (.iaload, 1) := by decide +kernel
theorem dX13_single_18 : decode cX13_single 18 = .ok (.istore_n 1, 1) := by decide +kernel
theorem dX13_single_19 : decode cX13_single 19 = .ok (.aload_n 0, 1) := by decide +kernel
theorem dX13_single_20 : decode cX13_single 20 = .ok (.ldc_w 622, 3) := by decide +kernel
theorem dX13_single_23 : decode cX13_single 23 = .ok (.invokevirtual 443, 3) := by decide +kernel
theorem dX13_single_26 : decode cX13_single 26 = .ok (.ifCond .ne 13, 3) := by decide +kernel
theorem dX13_single_29 : decode cX13_single 29 = .ok (.aload_n 0, 1) := by decide +kernel
theorem dX13_single_30 : decode cX13_single 30 = .ok (.ldc_w 582, 3) := by decide +kernel
theorem dX13_single_33 : decode cX13_single 33 = .ok (.invokevirtual 443, 3) := by decide +kernel
theorem dX13_single_36 : decode cX13_single 36 = .ok (.ifCond .eq 115, 3) := by decide +kernel
theorem dX13_single_39 : decode cX13_single 39 = .ok (.aload_n 0, 1) := by decide +kernel
theorem dX13_single_40 : decode cX13_single 40 = .ok (.ldc_w 622, 3) := by decide +kernel
theorem dX13_single_43 : decode cX13_single 43 = .ok (.invokevirtual 443, 3) := by decide +kernel
theorem dX13_single_46 : decode cX13_single 46 = .ok (.istore_n 2, 1) := by decide +kernel
theorem dX13_single_47 : decode cX13_single 47 = .ok (.aload_n 0, 1) := by decide +kernel
theorem dX13_single_48 : decode cX13_single 48 = .ok (.dup, 1) := by decide +kernel
theorem dX13_single_49 : decode cX13_single 49 = .ok (.getfield 433, 3) := by decide +kernel
theorem dX13_single_52 : decode cX13_single 52 = .ok (.iconst 1, 1) := by decide +kernel
theorem dX13_single_53 : decode cX13_single 53 = .ok (.iadd, 1) := by decide +kernel
theorem dX13_single_54 : decode cX13_single 54 = .ok (.putfield 433, 3) := by decide +kernel
theorem dX13_single_57 : decode cX13_single 57 = .ok (.aload_n 0, 1) := by decide +kernel
theorem dX13_single_58 : decode cX13_single 58 = .ok (.dup, 1) := by decide +kernel
theorem dX13_single_59 : decode cX13_single 59 = .ok (.getfield 484, 3) := by decide +kernel
theorem dX13_single_62 : decode cX13_single 62 = .ok (.iconst 1, 1) := by decide +kernel
theorem dX13_single_63 : decode cX13_single 63 = .ok (.iadd, 1) := by decide +kernel
theorem dX13_single_64 : decode cX13_single 64 = .ok (.putfield 484, 3) := by decide +kernel
theorem dX13_single_67 : decode cX13_single 67 = .ok (.aload_n 0, 1) := by decide +kernel
theorem dX13_single_68 : decode cX13_single 68 = .ok (.getfield 484, 3) := by decide +kernel
theorem dX13_single_71 : decode cX13_single 71 = .ok (.bipush 30, 2) := by decide +kernel
theorem dX13_single_73 : decode cX13_single 73 = .ok (.if_icmp .le 7, 3) := by decide +kernel
theorem dX13_single_76 : decode cX13_single 76 = .ok (.aload_n 0, 1) := by decide +kernel
theorem dX13_single_77 : decode cX13_single 77 = .ok (.invokevirtual 450, 3) := by decide +kernel
theorem dX13_single_80 : decode cX13_single 80 = .ok (.iload_n 2, 1) := by decide +kernel
theorem dX13_single_81 : decode cX13_single 81 = .ok (.ifCond .eq 10, 3) := by decide +kernel
theorem dX13_single_84 : decode cX13_single 84 = .ok (.aload_n 0, 1) := by decide +kernel
theorem dX13_single_85 : decode cX13_single 85 = .ok (.invokevirtual 617, 3) := by decide +kernel
theorem dX13_single_88 : decode cX13_single 88 = .ok (.goto 7, 3) := by decide +kernel
theorem dX13_single_91 : decode cX13_single 91 = .ok (.aload_n 0, 1) := by decide +kernel
theorem dX13_single_92 : decode cX13_single 92 = .ok (.invokevirtual 549, 3) := by decide +kernel
theorem dX13_single_95 : decode cX13_single 95 = .ok (.istore_n 3, 1) := by decide +kernel
theorem dX13_single_96 : decode cX13_single 96 = .ok (.aload_n 0, 1) := by decide +kernel
theorem dX13_single_97 : decode cX13_single 97 = .ok (.dup, 1) := by decide +kernel
theorem dX13_single_98 : decode cX13_single 98 = .ok (.getfield 484, 3) := by decide +kernel
theorem dX13_single_101 : decode cX13_single 101 = .ok (.iconst 1, 1) := by decide +kernel
theorem dX13_single_102 : decode cX13_single 102 = .ok (.isub, 1) := by decide +kernel
theorem dX13_single_103 : decode cX13_single 103 = .ok (.putfield 484, 3) := by decide +kernel
theorem dX13_single_106 : decode cX13_single 106 = .ok (.iload_n 2, 1) := by decide +kernel
theorem dX13_single_107 : decode cX13_single 107 = .ok (.ifCond .ne 24, 3) := by decide +kernel
theorem dX13_single_110 : decode cX13_single 110 = .ok (.aload_n 0, 1) := by decide +kernel
theorem dX13_single_111 : decode cX13_single 111 = .ok (.ldc_w 584, 3) := by decide +kernel
theorem dX13_single_114 : decode cX13_single 114 = .ok (.invokevirtual 497, 3) := by decide +kernel
theorem dX13_single_117 : decode cX13_single 117 = .ok (.aload_n 0, 1) := by decide +kernel
theorem dX13_single_118 : decode cX13_single 118 = .ok (.getfield 32, 3) := by decide +kernel
theorem dX13_single_121 : decode cX13_single 121 = .ok (.iload_n 3, 1) := by decide +kernel
theorem dX13_single_122 : decode cX13_single 122 = .ok (.aload_n 0, 1) := by decide +kernel
theorem dX13_single_123 : decode cX13_single 123 = .ok (.getfield 32, 3) := by decide +kernel
theorem dX13_single_126 : decode cX13_single 126 = .ok (.iload_n 3, 1) := by decide +kernel
theorem dX13_single_127 : decode cX13_single 127 = .ok (.iaload, 1) := by decide +kernel
theorem dX13_single_128 : decode cX13_single 128 = .ok (.iastore, 1) := by decide +kernel
theorem dX13_single_129 : decode cX13_single 129 = .ok (.iload_n 3, 1) := by decide +kernel
theorem dX13_single_130 : decode cX13_single 130 = .ok (.ireturn, 1) := by decide +kernel
theorem dX13_single_131 : decode cX13_single 131 = .ok (.aload_n 0, 1) := by decide +kernel
theorem dX13_single_132 : decode cX13_single 132 = .ok (.bipush 22, 2) := by decide +kernel
theorem dX13_single_134 : decode cX13_single 134 = .ok (.iload_n 1, 1) := by decide +kernel
theorem dX13_single_135 : decode cX13_single 135 = .ok (.invokevirtual 534, 3) := by decide +kernel
theorem dX13_single_138 : decode cX13_single 138 = .ok (.istore 4, 2) := by decide +kernel
theorem dX13_single_140 : decode cX13_single 140 = .ok (.aload_n 0, 1) := by decide +kernel
theorem dX13_single_141 : decode cX13_single 141 = .ok (.getfield 38, 3) := by decide +kernel
theorem dX13_single_144 : decode cX13_single 144 = .ok (.iload 4, 2) := by decide +kernel
theorem dX13_single_146 : decode cX13_single 146 = .ok (.iload_n 3, 1) := by decide +kernel
theorem dX13_single_147 : decode cX13_single 147 = .ok (.iastore, 1) := by decide +kernel
theorem dX13_single_148 : decode cX13_single 148 = .ok (.iload 4, 2) := by decide +kernel
theorem dX13_single_150 : decode cX13_single 150 = .ok (.ireturn, 1) := by decide +kernel
theorem dX13_single_151 : decode cX13_single 151 = .ok (.aload_n 0, 1) := by decide +kernel
theorem dX13_single_152 : decode cX13_single 152 = .ok (.ldc_w 578, 3) := by decide +kernel
theorem dX13_single_155 : decode cX13_single 155 = .ok (.invokevirtual 443, 3) := by decide +kernel
theorem dX13_single_158 : decode cX13_single 158 = .ok (.ifCond .ne 13, 3) := by decide +kernel
theorem dX13_single_161 : decode cX13_single 161 = .ok (.aload_n 0, 1) := by decide +kernel
theorem dX13_single_162 : decode cX13_single 162 = .ok (.ldc_w 580, 3) := by decide +kernel
theorem dX13_single_165 : decode cX13_single 165 = .ok (.invokevirtual 443, 3) := by decide +kernel
theorem dX13_single_168 : decode cX13_single 168 = .ok (.ifCond .eq 44, 3) := by decide +kernel
theorem dX13_single_171 : decode cX13_single 171 = .ok (.aload_n 0, 1) := by decide +kernel
theorem dX13_single_172 : decode cX13_single 172 = .ok (.bipush 23, 2) := by decide +kernel
theorem dX13_single_174 : decode cX13_single 174 = .ok (.iload_n 1, 1) := by decide +kernel
theorem dX13_single_175 : decode cX13_single 175 = .ok (.invokevirtual 534, 3) := by decide +kernel
theorem dX13_single_178 : decode cX13_single 178 = .ok (.istore_n 2, 1) := by decide +kernel
theorem dX13_single_179 : decode cX13_single 179 = .ok (.aload_n 0, 1) := by decide +kernel
theorem dX13_single_180 : decode cX13_single 180 = .ok (.getfield 38, 3) := by decide +kernel
theorem dX13_single_183 : decode cX13_single 183 = .ok (.iload_n 2, 1) := by decide +kernel
theorem dX13_single_184 : decode cX13_single 184 = .ok (.aload_n 0, 1) := by decide +kernel
theorem dX13_single_185 : decode cX13_single 185 = .ok (.ldc_w 578, 3) := by decide +kernel
theorem dX13_single_188 : decode cX13_single 188 = .ok (.invokevirtual 443, 3) := by decide +kernel
theorem dX13_single_191 : decode cX13_single 191 = .ok (.ifCond .eq 7, 3) := by decide +kernel
theorem dX13_single_194 : decode cX13_single 194 = .ok (.iconst 1, 1) := by decide +kernel
theorem dX13_single_195 : decode cX13_single 195 = .ok (.goto 4, 3) := by decide +kernel
theorem dX13_single_198 : decode cX13_single 198 = .ok (.iconst 0, 1) := by decide +kernel
theorem dX13_single_199 : decode cX13_single 199 = .ok (.iastore, 1) := by decide +kernel
theorem dX13_single_200 : decode cX13_single 200 = .ok (.aload_n 0, 1) := by decide +kernel
theorem dX13_single_201 : decode cX13_single 201 = .ok (.dup, 1) := by decide +kernel
theorem dX13_single_202 : decode cX13_single 202 = .ok (.getfield 433, 3) := by decide +kernel
theorem dX13_single_205 : decode cX13_single 205 = .ok (.iconst 1, 1) := by decide +kernel
theorem dX13_single_206 : decode cX13_single 206 = .ok (.iadd, 1) := by decide +kernel
theorem dX13_single_207 : decode cX13_single 207 = .ok (.putfield 433, 3) := by decide +kernel
theorem dX13_single_210 : decode cX13_single 210 = .ok (.iload_n 2, 1) := by decide +kernel
theorem dX13_single_211 : decode cX13_single 211 = .ok (.ireturn, 1) := by decide +kernel
theorem dX13_single_212 : decode cX13_single 212 = .ok (.aload_n 0, 1) := by decide +kernel
theorem dX13_single_213 : decode cX13_single 213 = .ok (.invokevirtual 562, 3) := by decide +kernel
theorem dX13_single_216 : decode cX13_single 216 = .ok (.istore_n 2, 1) := by decide +kernel
theorem dX13_single_217 : decode cX13_single 217 = .ok (.aload_n 0, 1) := by decide +kernel
theorem dX13_single_218 : decode cX13_single 218 = .ok (.invokevirtual 503, 3) := by decide +kernel
theorem dX13_single_221 : decode cX13_single 221 = .ok (.istore_n 3, 1) := by decide +kernel
theorem dX13_single_222 : decode cX13_single 222 = .ok (.iload_n 3, 1) := by decide +kernel
theorem dX13_single_223 : decode cX13_single 223 = .ok (.ifCond .ge 113, 3) := by decide +kernel
theorem dX13_single_226 : decode cX13_single 226 = .ok (.aload_n 0, 1) := by decide +kernel
theorem dX13_single_227 : decode cX13_single 227 = .ok (.getfield 392, 3) := by decide +kernel
theorem dX13_single_230 : decode cX13_single 230 = .ok (.ifCond .ne 100, 3) := by decide +kernel
theorem dX13_single_233 : decode cX13_single 233 = .ok (.aload_n 0, 1) := by decide +kernel
theorem dX13_single_234 : decode cX13_single 234 = .ok (.getfield 53, 3) := by decide +kernel
theorem dX13_single_237 : decode cX13_single 237 = .ok (.iload_n 2, 1) := by decide +kernel
theorem dX13_single_238 : decode cX13_single 238 = .ok (.iaload, 1) := by decide +kernel
theorem dX13_single_239 : decode cX13_single 239 = .ok (.aload_n 0, 1) := by decide +kernel
theorem dX13_single_240 : decode cX13_single 240 = .ok (.getfield 50, 3) := by decide +kernel
theorem dX13_single_243 : decode cX13_single 243 = .ok (.iload_n 2, 1) := by decide +kernel
theorem dX13_single_244 : decode cX13_single 244 = .ok (.iaload, 1) := by decide +kernel
theorem dX13_single_245 : decode cX13_single 245 = .ok (.isub, 1) := by decide +kernel
theorem dX13_single_246 : decode cX13_single 246 = .ok (.iconst 1, 1) := by decide +kernel
theorem dX13_single_247 : decode cX13_single 247 = .ok (.if_icmp .ne 83, 3) := by decide +kernel
theorem dX13_single_250 : decode cX13_single 250 = .ok (.aload_n 0, 1) := by decide +kernel
theorem dX13_single_251 : decode cX13_single 251 = .ok (.getfield 59, 3) := by decide +kernel
theorem dX13_single_254 : decode cX13_single 254 = .ok (.aload_n 0, 1) := by decide +kernel
theorem dX13_single_255 : decode cX13_single 255 = .ok (.getfield 50, 3) := by decide +kernel
theorem dX13_single_258 : decode cX13_single 258 = .ok (.iload_n 2, 1) := by decide +kernel
theorem dX13_single_259 : decode cX13_single 259 = .ok (.iaload, 1) := by decide +kernel
theorem dX13_single_260 : decode cX13_single 260 = .ok (.iaload, 1) := by decide +kernel
theorem dX13_single_261 : decode cX13_single 261 = .ok (.iconst 1, 1) := by decide +kernel
theorem dX13_single_262 : decode cX13_single 262 = .ok (.if_icmp .ne 68, 3) := by decide +kernel
theorem dX13_single_265 : decode cX13_single 265 = .ok (.aload_n 0, 1) := by decide +kernel
theorem dX13_single_266 : decode cX13_single 266 = .ok (.getfield 62, 3) := by decide +kernel
theorem dX13_single_269 : decode cX13_single 269 = .ok (.aload_n 0, 1) := by decide +kernel
theorem dX13_single_270 : decode cX13_single 270 = .ok (.getfield 50, 3) := by decide +kernel
theorem dX13_single_273 : decode cX13_single 273 = .ok (.iload_n 2, 1) := by decide +kernel
theorem dX13_single_274 : decode cX13_single 274 = .ok (.iaload, 1) := by decide +kernel
theorem dX13_single_275 : decode cX13_single 275 = .ok (.iaload, 1) := by decide +kernel
theorem dX13_single_276 : decode cX13_single 276 = .ok (.iconst 1, 1) := by decide +kernel
theorem dX13_single_277 : decode cX13_single 277 = .ok (.if_icmp .ne 53, 3) := by decide +kernel
theorem dX13_single_280 : decode cX13_single 280 = .ok (.aload_n 0, 1) := by decide +kernel
theorem dX13_single_281 : decode cX13_single 281 = .ok (.getfield 23, 3) := by decide +kernel
theorem dX13_single_284 : decode cX13_single 284 = .ok (.aload_n 0, 1) := by decide +kernel
theorem dX13_single_285 : decode cX13_single 285 = .ok (.getfield 65, 3) := by decide +kernel
theorem dX13_single_288 : decode cX13_single 288 = .ok (.aload_n 0, 1) := by decide +kernel
theorem dX13_single_289 : decode cX13_single 289 = .ok (.getfield 50, 3) := by decide +kernel
theorem dX13_single_292 : decode cX13_single 292 = .ok (.iload_n 2, 1) := by decide +kernel
theorem dX13_single_293 : decode cX13_single 293 = .ok (.iaload, 1) := by decide +kernel
theorem dX13_single_294 : decode cX13_single 294 = .ok (.iaload, 1) := by decide +kernel
theorem dX13_single_295 : decode cX13_single 295 = .ok (.iaload, 1) := by decide +kernel
theorem dX13_single_296 : decode cX13_single 296 = .ok (.iload_n 1, 1) := by decide +kernel
theorem dX13_single_297 : decode cX13_single 297 = .ok (.if_icmp .ne 33, 3) := by decide +kernel
theorem dX13_single_300 : decode cX13_single 300 = .ok (.aload_n 0, 1) := by decide +kernel
theorem dX13_single_301 : decode cX13_single 301 = .ok (.bipush 24, 2) := by decide +kernel
theorem dX13_single_303 : decode cX13_single 303 = .ok (.iload_n 1, 1) := by decide +kernel
theorem dX13_single_304 : decode cX13_single 304 = .ok (.invokevirtual 534, 3) := by decide +kernel
theorem dX13_single_307 : decode cX13_single 307 = .ok (.istore 4, 2) := by decide +kernel
theorem dX13_single_309 : decode cX13_single 309 = .ok (.aload_n 0, 1) := by decide +kernel
theorem dX13_single_310 : decode cX13_single 310 = .ok (.getfield 38, 3) := by decide +kernel
theorem dX13_single_313 : decode cX13_single 313 = .ok (.iload 4, 2) := by decide +kernel
theorem dX13_single_315 : decode cX13_single 315 = .ok (.aload_n 0, 1) := by decide +kernel
theorem dX13_single_316 : decode cX13_single 316 = .ok (.getfield 65, 3) := by decide +kernel
theorem dX13_single_319 : decode cX13_single 319 = .ok (.aload_n 0, 1) := by decide +kernel
theorem dX13_single_320 : decode cX13_single 320 = .ok (.getfield 50, 3) := by decide +kernel
theorem dX13_single_323 : decode cX13_single 323 = .ok (.iload_n 2, 1) := by decide +kernel
theorem dX13_single_324 : decode cX13_single 324 = .ok (.iaload, 1) := by decide +kernel
theorem dX13_single_325 : decode cX13_single 325 = .ok (.iaload, 1) := by decide +kernel
theorem dX13_single_326 : decode cX13_single 326 = .ok (.iastore, 1) := by decide +kernel
theorem dX13_single_327 : decode cX13_single 327 = .ok (.iload 4, 2) := by decide +kernel
theorem dX13_single_329 : decode cX13_single 329 = .ok (.ireturn, 1) := by decide +kernel
theorem dX13_single_330 : decode cX13_single 330 = .ok (.aload_n 0, 1) := by decide +kernel
theorem dX13_single_331 : decode cX13_single 331 = .ok (.invokevirtual 450, 3) := by decide +kernel
theorem dX13_single_334 : decode cX13_single 334 = .ok (.iconst 0, 1) := by decide +kernel
theorem dX13_single_335 : decode cX13_single 335 = .ok (.ireturn, 1) := by decide +kernel
theorem dX13_single_336 : decode cX13_single 336 = .ok (.aload_n 0, 1) := by decide +kernel
theorem dX13_single_337 : decode cX13_single 337 = .ok (.bipush 25, 2) := by decide +kernel
theorem dX13_single_339 : decode cX13_single 339 = .ok (.iload_n 1, 1) := by decide +kernel
theorem dX13_single_340 : decode cX13_single 340 = .ok (.invokevirtual 534, 3) := by decide +kernel
theorem dX13_single_343 : decode cX13_single 343 = .ok (.istore 4, 2) := by decide +kernel
theorem dX13_single_345 : decode cX13_single 345 = .ok (.aload_n 0, 1) := by decide +kernel
theorem dX13_single_346 : decode cX13_single 346 = .ok (.getfield 35, 3) := by decide +kernel
theorem dX13_single_349 : decode cX13_single 349 = .ok (.iload 4, 2) := by decide +kernel
theorem dX13_single_351 : decode cX13_single 351 = .ok (.aload_n 0, 1) := by decide +kernel
theorem dX13_single_352 : decode cX13_single 352 = .ok (.getfield 23, 3) := by decide +kernel
theorem dX13_single_355 : decode cX13_single 355 = .ok (.aload_n 0, 1) := by decide +kernel
theorem dX13_single_356 : decode cX13_single 356 = .ok (.getfield 433, 3) := by decide +kernel
theorem dX13_single_359 : decode cX13_single 359 = .ok (.iaload, 1) := by decide +kernel
theorem dX13_single_360 : decode cX13_single 360 = .ok (.iastore, 1) := by decide +kernel
theorem dX13_single_361 : decode cX13_single 361 = .ok (.aload_n 0, 1) := by decide +kernel
theorem dX13_single_362 : decode cX13_single 362 = .ok (.dup, 1) := by decide +kernel
theorem dX13_single_363 : decode cX13_single 363 = .ok (.getfield 433, 3) := by decide +kernel
theorem dX13_single_366 : decode cX13_single 366 = .ok (.iconst 1, 1) := by decide +kernel
theorem dX13_single_367 : decode cX13_single 367 = .ok (.iadd, 1) := by decide +kernel
theorem dX13_single_368 : decode cX13_single 368 = .ok (.putfield 433, 3) := by decide +kernel
theorem dX13_single_371 : decode cX13_single 371 = .ok (.aload_n 0, 1) := by decide +kernel
theorem dX13_single_372 : decode cX13_single 372 = .ok (.getfield 38, 3) := by decide +kernel
theorem dX13_single_375 : decode cX13_single 375 = .ok (.iload 4, 2) := by decide +kernel
theorem dX13_single_377 : decode cX13_single 377 = .ok (.iload_n 2, 1) := by decide +kernel
theorem dX13_single_378 : decode cX13_single 378 = .ok (.iastore, 1) := by decide +kernel
theorem dX13_single_379 : decode cX13_single 379 = .ok (.aload_n 0, 1) := by decide +kernel
theorem dX13_single_380 : decode cX13_single 380 = .ok (.getfield 44, 3) := by decide +kernel
theorem dX13_single_383 : decode cX13_single 383 = .ok (.iload 4, 2) := by decide +kernel
theorem dX13_single_385 : decode cX13_single 385 = .ok (.iload_n 3, 1) := by decide +kernel
theorem dX13_single_386 : decode cX13_single 386 = .ok (.iastore, 1) := by decide +kernel
theorem dX13_single_387 : decode cX13_single 387 = .ok (.aload_n 0, 1) := by decide +kernel
theorem dX13_single_388 : decode cX13_single 388 = .ok (.getfield 41, 3) := by decide +kernel
theorem dX13_single_391 : decode cX13_single 391 = .ok (.iload 4, 2) := by decide +kernel
theorem dX13_single_393 : decode cX13_single 393 = .ok (.aload_n 0, 1) := by decide +kernel
theorem dX13_single_394 : decode cX13_single 394 = .ok (.invokevirtual 562, 3) := by decide +kernel
theorem dX13_single_397 : decode cX13_single 397 = .ok (.iastore, 1) := by decide +kernel
theorem dX13_single_398 : decode cX13_single 398 = .ok (.iload 4, 2) := by decide +kernel
theorem dX13_single_400 : decode cX13_single 400 = .ok (.ireturn, 1) := by decide +kernel
theorem dX13_sameWord_0 : decode cX13_sameWord 0 = .ok (.aload_n 0, 1) := by decide +kernel
theorem dX13_sameWord_1 : decode cX13_sameWord 1 = .ok (.getfield 26, 3) := by decide +kernel
theorem dX13_sameWord_4 : decode cX13_sameWord 4 = .ok (.iload_n 1, 1) := by decide +kernel
theorem dX13_sameWord_5 : decode cX13_sameWord 5 = .ok (.iaload, 1) := by decide +kernel
theorem dX13_sameWord_6 : decode cX13_sameWord 6 = .ok (.aload_n 0, 1) := by decide +kernel
theorem dX13_sameWord_7 : decode cX13_sameWord 7 = .ok (.getfield 23, 3) := by decide +kernel
theorem dX13_sameWord_10 : decode cX13_sameWord 10 = .ok (.iload_n 1, 1) := by decide +kernel
theorem dX13_sameWord_11 : decode cX13_sameWord 11 = .ok (.iaload, 1) := by decide +kernel
theorem dX13_sameWord_12 : decode cX13_sameWord 12 = .ok (.isub, 1) := by decide +kernel
theorem dX13_sameWord_13 : decode cX13_sameWord 13 = .ok (.aload_n 0, 1) := by decide +kernel
theorem dX13_sameWord_14 : decode cX13_sameWord 14 = .ok (.getfield 26, 3) := by decide +kernel
theorem dX13_sameWord_17 : decode cX13_sameWord 17 = .ok (.iload_n 2, 1) := by decide +kernel
theorem dX13_sameWord_18 : decode cX13_sameWord 18 = .ok (.iaload, 1) := by decide +kernel
theorem dX13_sameWord_19 : decode cX13_sameWord 19 = .ok (.aload_n 0, 1) := by decide +kernel
theorem dX13_sameWord_20 : decode cX13_sameWord 20 = .ok (.getfield 23, 3) := by decide +kernel
theorem dX13_sameWord_23 : decode cX13_sameWord 23 = .ok (.iload_n 2, 1) := by decide +kernel
theorem dX13_sameWord_24 : decode cX13_sameWord 24 = .ok (.iaload, 1) := by decide +kernel
theorem dX13_sameWord_25 : decode cX13_sameWord 25 = .ok (.isub, 1) := by decide +kernel
theorem dX13_sameWord_26 : decode cX13_sameWord 26 = .ok (.if_icmp .eq 5, 3) := by decide +kernel
theorem dX13_sameWord_29 : decode cX13_sameWord 29 = .ok (.iconst 0, 1) := by decide +kernel
theorem dX13_sameWord_30 : decode cX13_sameWord 30 = .ok (.ireturn, 1) := by decide +kernel
theorem dX13_sameWord_31 : decode cX13_sameWord 31 = .ok (.iconst 0, 1) := by decide +kernel
theorem dX13_sameWord_32 : decode cX13_sameWord 32 = .ok (.istore_n 3, 1) := by decide +kernel
theorem dX13_sameWord_33 : decode cX13_sameWord 33 = .ok (.iload_n 3, 1) := by decide +kernel
theorem dX13_sameWord_34 : decode cX13_sameWord 34 = .ok (.aload_n 0, 1) := by decide +kernel
theorem dX13_sameWord_35 : decode cX13_sameWord 35 = .ok (.getfield 26, 3) := by decide +kernel
theorem dX13_sameWord_38 : decode cX13_sameWord 38 = .ok (.iload_n 1, 1) := by decide +kernel
theorem dX13_sameWord_39 : decode cX13_sameWord 39 = .ok (.iaload, 1) := by decide +kernel
theorem dX13_sameWord_40 : decode cX13_sameWord 40 = .ok (.aload_n 0, 1) := by decide +kernel
theorem dX13_sameWord_41 : decode cX13_sameWord 41 = .ok (.getfield 23, 3) := by decide +kernel
theorem dX13_sameWord_44 : decode cX13_sameWord 44 = .ok (.iload_n 1, 1) := by decide +kernel
theorem dX13_sameWord_45 : decode cX13_sameWord 45 = .ok (.iaload, 1) := by decide +kernel
theorem dX13_sameWord_46 : decode cX13_sameWord 46 = .ok (.isub, 1) := by decide +kernel
theorem dX13_sameWord_47 : decode cX13_sameWord 47 = .ok (.if_icmp .ge 40, 3) := by decide +kernel
theorem dX13_sameWord_50 : decode cX13_sameWord 50 = .ok (.aload_n 0, 1) := by decide +kernel
theorem dX13_sameWord_51 : decode cX13_sameWord 51 = .ok (.getfield 13, 3) := by decide +kernel
theorem dX13_sameWord_54 : decode cX13_sameWord 54 = .ok (.aload_n 0, 1) := by decide +kernel
theorem dX13_sameWord_55 : decode cX13_sameWord 55 = .ok (.getfield 23, 3) := by decide +kernel
theorem dX13_sameWord_58 : decode cX13_sameWord 58 = .ok (.iload_n 1, 1) := by decide +kernel
theorem dX13_sameWord_59 : decode cX13_sameWord 59 = .ok (.iaload, 1) := by decide +kernel
theorem dX13_sameWord_60 : decode cX13_sameWord 60 = .ok (.iload_n 3, 1) := by decide +kernel
theorem dX13_sameWord_61 : decode cX13_sameWord 61 = .ok (.iadd, 1) := by decide +kernel
theorem dX13_sameWord_62 : decode cX13_sameWord 62 = .ok (.baload, 1) := by decide +kernel
theorem dX13_sameWord_63 : decode cX13_sameWord 63 = .ok (.aload_n 0, 1) := by decide +kernel
theorem dX13_sameWord_64 : decode cX13_sameWord 64 = .ok (.getfield 13, 3) := by decide +kernel
theorem dX13_sameWord_67 : decode cX13_sameWord 67 = .ok (.aload_n 0, 1) := by decide +kernel
theorem dX13_sameWord_68 : decode cX13_sameWord 68 = .ok (.getfield 23, 3) := by decide +kernel
theorem dX13_sameWord_71 : decode cX13_sameWord 71 = .ok (.iload_n 2, 1) := by decide +kernel
theorem dX13_sameWord_72 : decode cX13_sameWord 72 = .ok (.iaload, 1) := by decide +kernel
theorem dX13_sameWord_73 : decode cX13_sameWord 73 = .ok (.iload_n 3, 1) := by decide +kernel
theorem dX13_sameWord_74 : decode cX13_sameWord 74 = .ok (.iadd, 1) := by decide +kernel
theorem dX13_sameWord_75 : decode cX13_sameWord 75 = .ok (.baload, 1) := by decide +kernel
theorem dX13_sameWord_76 : decode cX13_sameWord 76 = .ok (.if_icmp .eq 5, 3) := by decide +kernel
theorem dX13_sameWord_79 : decode cX13_sameWord 79 = .ok (.iconst 0, 1) := by decide +kernel
theorem dX13_sameWord_80 : decode cX13_sameWord 80 = .ok (.ireturn, 1) := by decide +kernel
theorem dX13_sameWord_81 : decode cX13_sameWord 81 = .ok (.iinc 3 1, 3) := by decide +kernel
theorem dX13_sameWord_84 : decode cX13_sameWord 84 = .ok (.goto (-51), 3) := by decide +kernel
theorem dX13_sameWord_87 : decode cX13_sameWord 87 = .ok (.iconst 1, 1) := by decide +kernel
theorem dX13_sameWord_88 : decode cX13_sameWord 88 = .ok (.ireturn, 1) := by decide +kernel
theorem dX13_counts_0 : decode cX13_counts 0 = .ok (.iconst 0, 1) := by decide +kernel
theorem dX13_counts_1 : decode cX13_counts 1 = .ok (.istore_n 2, 1) := by decide +kernel
theorem dX13_counts_2 : decode cX13_counts 2 = .ok (.iload_n 2, 1) := by decide +kernel
theorem dX13_counts_3 : decode cX13_counts 3 = .ok (.aload_n 0, 1) := by decide +kernel
theorem dX13_counts_4 : decode cX13_counts 4 = .ok (.getfield 630, 3) := by decide +kernel
theorem dX13_counts_7 : decode cX13_counts 7 = .ok (.if_icmp .ge 46, 3) := by decide +kernel
theorem dX13_counts_10 : decode cX13_counts 10 = .ok (.aload_n 0, 1) := by decide +kernel
theorem dX13_counts_11 : decode cX13_counts 11 = .ok (.aload_n 0, 1) := by decide +kernel
theorem dX13_counts_12 : decode cX13_counts 12 = .ok (.getfield 101, 3) := by decide +kernel
theorem dX13_counts_15 : decode cX13_counts 15 = .ok (.aload_n 0, 1) := by decide +kernel
theorem dX13_counts_16 : decode cX13_counts 16 = .ok (.getfield 110, 3) := by decide +kernel
theorem dX13_counts_19 : decode cX13_counts 19 = .ok (.iload_n 2, 1) := by decide +kernel
theorem dX13_counts_20 : decode cX13_counts 20 = .ok (.iaload, 1) := by decide +kernel
theorem dX13_counts_21 : decode cX13_counts 21 = .ok (.iaload, 1) := by decide +kernel
theorem dX13_counts_22 : decode cX13_counts 22 = .ok (.aload_n 0, 1) := by decide +kernel
theorem dX13_counts_23 : decode cX13_counts 23 = .ok (.getfield 101, 3) := by decide +kernel
theorem dX13_counts_26 : decode cX13_counts 26 = .ok (.iload_n 1, 1) := by decide +kernel
theorem dX13_counts_27 : decode cX13_counts 27 = .ok (.iaload, 1) := by decide +kernel
theorem dX13_counts_28 : decode cX13_counts 28 = .ok (.invokevirtual 633, 3) := by decide +kernel
theorem dX13_counts_31 : decode cX13_counts 31 = .ok (.ifCond .eq 16, 3) := by decide +kernel
theorem dX13_counts_34 : decode cX13_counts 34 = .ok (.aload_n 0, 1) := by decide +kernel
theorem dX13_counts_35 : decode cX13_counts 35 = .ok (.aload_n 0, 1) := by decide +kernel
theorem dX13_counts_36 : decode cX13_counts 36 = .ok (.getfield 101, 3) := by decide +kernel
theorem dX13_counts_39 : decode cX13_counts 39 = .ok (.iload_n 1, 1) := by decide +kernel
theorem dX13_counts_40 : decode cX13_counts 40 = .ok (.iaload, 1) := by decide +kernel
theorem dX13_counts_41 : decode cX13_counts 41 = .ok (.invokevirtual 637, 3) := by decide +kernel
theorem dX13_counts_44 : decode cX13_counts 44 = .ok (.goto 9, 3) := by decide +kernel
theorem dX13_counts_47 : decode cX13_counts 47 = .ok (.iinc 2 1, 3) := by decide +kernel
theorem dX13_counts_50 : decode cX13_counts 50 = .ok (.goto (-48), 3) := by decide +kernel
theorem dX13_counts_53 : decode cX13_counts 53 = .ok (.aload_n 0, 1) := by decide +kernel
theorem dX13_counts_54 : decode cX13_counts 54 = .ok (.getfield 630, 3) := by decide +kernel
theorem dX13_counts_57 : decode cX13_counts 57 = .ok (.bipush 12, 2) := by decide +kernel
theorem dX13_counts_59 : decode cX13_counts 59 = .ok (.if_icmp .lt 13, 3) := by decide +kernel
theorem dX13_counts_62 : decode cX13_counts 62 = .ok (.aload_n 0, 1) := by decide +kernel
theorem dX13_counts_63 : decode cX13_counts 63 = .ok (.aload_n 0, 1) := by decide +kernel
theorem dX13_counts_64 : decode cX13_counts 64 = .ok (.getfield 101, 3) := by decide +kernel
theorem dX13_counts_67 : decode cX13_counts 67 = .ok (.iload_n 1, 1) := by decide +kernel
theorem dX13_counts_68 : decode cX13_counts 68 = .ok (.iaload, 1) := by decide +kernel
theorem dX13_counts_69 : decode cX13_counts 69 = .ok (.invokevirtual 637, 3) := by decide +kernel
theorem dX13_counts_72 : decode cX13_counts 72 = .ok (.aload_n 0, 1) := by decide +kernel
theorem dX13_counts_73 : decode cX13_counts 73 = .ok (.getfield 110, 3) := by decide +kernel
theorem dX13_counts_76 : decode cX13_counts 76 = .ok (.aload_n 0, 1) := by decide +kernel
theorem dX13_counts_77 : decode cX13_counts 77 = .ok (.getfield 630, 3) := by decide +kernel
theorem dX13_counts_80 : decode cX13_counts 80 = .ok (.iload_n 1, 1) := by decide +kernel
theorem dX13_counts_81 : decode cX13_counts 81 = .ok (.iastore, 1) := by decide +kernel
theorem dX13_counts_82 : decode cX13_counts 82 = .ok (.aload_n 0, 1) := by decide +kernel
theorem dX13_counts_83 : decode cX13_counts 83 = .ok (.dup, 1) := by decide +kernel
theorem dX13_counts_84 : decode cX13_counts 84 = .ok (.getfield 630, 3) := by decide +kernel
theorem dX13_counts_87 : decode cX13_counts 87 = .ok (.iconst 1, 1) := by decide +kernel
theorem dX13_counts_88 : decode cX13_counts 88 = .ok (.iadd, 1) := by decide +kernel
theorem dX13_counts_89 : decode cX13_counts 89 = .ok (.putfield 630, 3) := by decide +kernel
theorem dX13_counts_92 : decode cX13_counts 92 = .ok (.return_, 1) := by decide +kernel
theorem dX13_uses_0 : decode cX13_uses 0 = .ok (.aload_n 0, 1) := by decide +kernel
theorem dX13_uses_1 : decode cX13_uses 1 = .ok (.getfield 630, 3) := by decide +kernel
theorem dX13_uses_4 : decode cX13_uses 4 = .ok (.iconst 1, 1) := by decide +kernel
theorem dX13_uses_5 : decode cX13_uses 5 = .ok (.isub, 1) := by decide +kernel
theorem dX13_uses_6 : decode cX13_uses 6 = .ok (.istore_n 2, 1) := by decide +kernel
theorem dX13_uses_7 : decode cX13_uses 7 = .ok (.iload_n 2, 1) := by decide +kernel
theorem dX13_uses_8 : decode cX13_uses 8 = .ok (.ifCond .lt 44, 3) := by decide +kernel
theorem dX13_uses_11 : decode cX13_uses 11 = .ok (.aload_n 0, 1) := by decide +kernel
theorem dX13_uses_12 : decode cX13_uses 12 = .ok (.aload_n 0, 1) := by decide +kernel
theorem dX13_uses_13 : decode cX13_uses 13 = .ok (.getfield 101, 3) := by decide +kernel
theorem dX13_uses_16 : decode cX13_uses 16 = .ok (.aload_n 0, 1) := by decide +kernel
theorem dX13_uses_17 : decode cX13_uses 17 = .ok (.getfield 110, 3) := by decide +kernel
theorem dX13_uses_20 : decode cX13_uses 20 = .ok (.iload_n 2, 1) := by decide +kernel
theorem dX13_uses_21 : decode cX13_uses 21 = .ok (.iaload, 1) := by decide +kernel
theorem dX13_uses_22 : decode cX13_uses 22 = .ok (.iaload, 1) := by decide +kernel
theorem dX13_uses_23 : decode cX13_uses 23 = .ok (.iload_n 1, 1) := by decide +kernel
theorem dX13_uses_24 : decode cX13_uses 24 = .ok (.invokevirtual 633, 3) := by decide +kernel
theorem dX13_uses_27 : decode cX13_uses 27 = .ok (.ifCond .ne 6, 3) := by decide +kernel
theorem dX13_uses_30 : decode cX13_uses 30 = .ok (.goto 16, 3) := by decide +kernel
theorem dX13_uses_33 : decode cX13_uses 33 = .ok (.aload_n 0, 1) := by decide +kernel
theorem dX13_uses_34 : decode cX13_uses 34 = .ok (.getfield 107, 3) := by decide +kernel
theorem dX13_uses_37 : decode cX13_uses 37 = .ok (.iload_n 1, 1) := by decide +kernel
theorem dX13_uses_38 : decode cX13_uses 38 = .ok (.aload_n 0, 1) := by decide +kernel
theorem dX13_uses_39 : decode cX13_uses 39 = .ok (.getfield 110, 3) := by decide +kernel
theorem dX13_uses_42 : decode cX13_uses 42 = .ok (.iload_n 2, 1) := by decide +kernel
theorem dX13_uses_43 : decode cX13_uses 43 = .ok (.iaload, 1) := by decide +kernel
theorem dX13_uses_44 : decode cX13_uses 44 = .ok (.iastore, 1) := by decide +kernel
theorem dX13_uses_45 : decode cX13_uses 45 = .ok (.return_, 1) := by decide +kernel
theorem dX13_uses_46 : decode cX13_uses 46 = .ok (.iinc 2 (-1), 3) := by decide +kernel
theorem dX13_uses_49 : decode cX13_uses 49 = .ok (.goto (-42), 3) := by decide +kernel
theorem dX13_uses_52 : decode cX13_uses 52 = .ok (.aload_n 0, 1) := by decide +kernel
theorem dX13_uses_53 : decode cX13_uses 53 = .ok (.getfield 107, 3) := by decide +kernel
theorem dX13_uses_56 : decode cX13_uses 56 = .ok (.iload_n 1, 1) := by decide +kernel
theorem dX13_uses_57 : decode cX13_uses 57 = .ok (.iconst (-1), 1) := by decide +kernel
theorem dX13_uses_58 : decode cX13_uses 58 = .ok (.iastore, 1) := by decide +kernel
theorem dX13_uses_59 : decode cX13_uses 59 = .ok (.aload_n 0, 1) := by decide +kernel
theorem dX13_uses_60 : decode cX13_uses 60 = .ok (.iload_n 1, 1) := by decide +kernel
theorem dX13_uses_61 : decode cX13_uses 61 = .ok (.invokevirtual 637, 3) := by decide +kernel
theorem dX13_uses_64 : decode cX13_uses 64 = .ok (.return_, 1) := by decide +kernel
theorem dX13_namesOfSum_0 : decode cX13_namesOfSum 0 = .ok (.aload_n 0, 1) := by decide +kernel
theorem dX13_namesOfSum_1 : decode cX13_namesOfSum 1 = .ok (.getfield 50, 3) := by decide +kernel
theorem dX13_namesOfSum_4 : decode cX13_namesOfSum 4 = .ok (.iload_n 1, 1) := by decide +kernel
theorem dX13_namesOfSum_5 : decode cX13_namesOfSum 5 = .ok (.iaload, 1) := by decide +kernel
theorem dX13_namesOfSum_6 : decode cX13_namesOfSum 6 = .ok (.istore_n 2, 1) := by decide +kernel
theorem dX13_namesOfSum_7 : decode cX13_namesOfSum 7 = .ok (.iload_n 2, 1) := by decide +kernel
theorem dX13_namesOfSum_8 : decode cX13_namesOfSum 8 = .ok (.aload_n 0, 1) := by decide +kernel
theorem dX13_namesOfSum_9 : decode cX13_namesOfSum 9 = .ok (.getfield 53, 3) := by decide +kernel
theorem dX13_namesOfSum_12 : decode cX13_namesOfSum 12 = .ok (.iload_n 1, 1) := by decide +kernel
theorem dX13_namesOfSum_13 : decode cX13_namesOfSum 13 = .ok (.iaload, 1) := by decide +kernel
theorem dX13_namesOfSum_14 : decode cX13_namesOfSum 14 = .ok (.if_icmp .ge 28, 3) := by decide +kernel
theorem dX13_namesOfSum_17 : decode cX13_namesOfSum 17 = .ok (.aload_n 0, 1) := by decide +kernel
theorem dX13_namesOfSum_18 : decode cX13_namesOfSum 18 = .ok (.getfield 59, 3) := by decide +kernel
theorem dX13_namesOfSum_21 : decode cX13_namesOfSum 21 = .ok (.iload_n 2, 1) := by decide +kernel
theorem dX13_namesOfSum_22 : decode cX13_namesOfSum 22 = .ok (.iaload, 1) := by decide +kernel
theorem dX13_namesOfSum_23 : decode cX13_namesOfSum 23 = .ok (.ifCond .le 13, 3) := by decide +kernel
theorem dX13_namesOfSum_26 : decode cX13_namesOfSum 26 = .ok (.aload_n 0, 1) := by decide +kernel
theorem dX13_namesOfSum_27 : decode cX13_namesOfSum 27 = .ok (.aload_n 0, 1) := by decide +kernel
theorem dX13_namesOfSum_28 : decode cX13_namesOfSum 28 = .ok (.getfield 65, 3) := by decide +kernel
theorem dX13_namesOfSum_31 : decode cX13_namesOfSum 31 = .ok (.iload_n 2, 1) := by decide +kernel
theorem dX13_namesOfSum_32 : decode cX13_namesOfSum 32 = .ok (.iaload, 1) := by decide +kernel
theorem dX13_namesOfSum_33 : decode cX13_namesOfSum 33 = .ok (.invokevirtual 640, 3) := by decide +kernel
theorem dX13_namesOfSum_36 : decode cX13_namesOfSum 36 = .ok (.iinc 2 1, 3) := by decide +kernel
theorem dX13_namesOfSum_39 : decode cX13_namesOfSum 39 = .ok (.goto (-32), 3) := by decide +kernel
theorem dX13_namesOfSum_42 : decode cX13_namesOfSum 42 = .ok (.return_, 1) := by decide +kernel
theorem dX13_namesOfCondition_0 : decode cX13_namesOfCondition 0 = .ok (.aload_n 0, 1) := by decide +kernel
theorem dX13_namesOfCondition_1 : decode cX13_namesOfCondition 1 = .ok (.getfield 29, 3) := by decide +kernel
theorem dX13_namesOfCondition_4 : decode cX13_namesOfCondition 4 = .ok (.iload_n 1, 1) := by decide +kernel
theorem dX13_namesOfCondition_5 : decode cX13_namesOfCondition 5 = .ok (.iaload, 1) := by decide +kernel
theorem dX13_namesOfCondition_6 : decode cX13_namesOfCondition 6 = .ok (.tableswitch 110 20 25 #[38, 38, 61, 110, 74, 87], 38) := by decide +kernel
theorem dX13_namesOfCondition_44 : decode cX13_namesOfCondition 44 = .ok (.aload_n 0, 1) := by decide +kernel
theorem dX13_namesOfCondition_45 : decode cX13_namesOfCondition 45 = .ok (.aload_n 0, 1) := by decide +kernel
theorem dX13_namesOfCondition_46 : decode cX13_namesOfCondition 46 = .ok (.getfield 38, 3) := by decide +kernel
theorem dX13_namesOfCondition_49 : decode cX13_namesOfCondition 49 = .ok (.iload_n 1, 1) := by decide +kernel
theorem dX13_namesOfCondition_50 : decode cX13_namesOfCondition 50 = .ok (.iaload, 1) := by decide +kernel
theorem dX13_namesOfCondition_51 : decode cX13_namesOfCondition 51 = .ok (.invokevirtual 643, 3) := by decide +kernel
theorem dX13_namesOfCondition_54 : decode cX13_namesOfCondition 54 = .ok (.aload_n 0, 1) := by decide +kernel
theorem dX13_namesOfCondition_55 : decode cX13_namesOfCondition 55 = .ok (.aload_n 0, 1) := by decide +kernel
theorem dX13_namesOfCondition_56 : decode cX13_namesOfCondition 56 = .ok (.getfield 41, 3) := by decide +kernel
theorem dX13_namesOfCondition_59 : decode cX13_namesOfCondition 59 = .ok (.iload_n 1, 1) := by decide +kernel
theorem dX13_namesOfCondition_60 : decode cX13_namesOfCondition 60 = .ok (.iaload, 1) := by decide +kernel
theorem dX13_namesOfCondition_61 : decode cX13_namesOfCondition 61 = .ok (.invokevirtual 643, 3) := by decide +kernel
theorem dX13_namesOfCondition_64 : decode cX13_namesOfCondition 64 = .ok (.goto 52, 3) := by decide +kernel
theorem dX13_namesOfCondition_67 : decode cX13_namesOfCondition 67 = .ok (.aload_n 0, 1) := by decide +kernel
theorem dX13_namesOfCondition_68 : decode cX13_namesOfCondition 68 = .ok (.aload_n 0, 1) := by decide +kernel
theorem dX13_namesOfCondition_69 : decode cX13_namesOfCondition 69 = .ok (.getfield 38, 3) := by decide +kernel
theorem dX13_namesOfCondition_72 : decode cX13_namesOfCondition 72 = .ok (.iload_n 1, 1) := by decide +kernel
theorem dX13_namesOfCondition_73 : decode cX13_namesOfCondition 73 = .ok (.iaload, 1) := by decide +kernel
theorem dX13_namesOfCondition_74 : decode cX13_namesOfCondition 74 = .ok (.invokevirtual 643, 3) := by decide +kernel
theorem dX13_namesOfCondition_77 : decode cX13_namesOfCondition 77 = .ok (.goto 39, 3) := by decide +kernel
theorem dX13_namesOfCondition_80 : decode cX13_namesOfCondition 80 = .ok (.aload_n 0, 1) := by decide +kernel
theorem dX13_namesOfCondition_81 : decode cX13_namesOfCondition 81 = .ok (.aload_n 0, 1) := by decide +kernel
theorem dX13_namesOfCondition_82 : decode cX13_namesOfCondition 82 = .ok (.getfield 38, 3) := by decide +kernel
theorem dX13_namesOfCondition_85 : decode cX13_namesOfCondition 85 = .ok (.iload_n 1, 1) := by decide +kernel
theorem dX13_namesOfCondition_86 : decode cX13_namesOfCondition 86 = .ok (.iaload, 1) := by decide +kernel
theorem dX13_namesOfCondition_87 : decode cX13_namesOfCondition 87 = .ok (.invokevirtual 640, 3) := by decide +kernel
theorem dX13_namesOfCondition_90 : decode cX13_namesOfCondition 90 = .ok (.goto 26, 3) := by decide +kernel
theorem dX13_namesOfCondition_93 : decode cX13_namesOfCondition 93 = .ok (.aload_n 0, 1) := by decide +kernel
theorem dX13_namesOfCondition_94 : decode cX13_namesOfCondition 94 = .ok (.aload_n 0, 1) := by decide +kernel
theorem dX13_namesOfCondition_95 : decode cX13_namesOfCondition 95 = .ok (.getfield 38, 3) := by decide +kernel
theorem dX13_namesOfCondition_98 : decode cX13_namesOfCondition 98 = .ok (.iload_n 1, 1) := by decide +kernel
theorem dX13_namesOfCondition_99 : decode cX13_namesOfCondition 99 = .ok (.iaload, 1) := by decide +kernel
theorem dX13_namesOfCondition_100 : decode cX13_namesOfCondition 100 = .ok (.invokevirtual 646, 3) := by decide +kernel
theorem dX13_namesOfCondition_103 : decode cX13_namesOfCondition 103 = .ok (.aload_n 0, 1) := by decide +kernel
theorem dX13_namesOfCondition_104 : decode cX13_namesOfCondition 104 = .ok (.aload_n 0, 1) := by decide +kernel
theorem dX13_namesOfCondition_105 : decode cX13_namesOfCondition 105 = .ok (.getfield 41, 3) := by decide +kernel
theorem dX13_namesOfCondition_108 : decode cX13_namesOfCondition 108 = .ok (.iload_n 1, 1) := by decide +kernel
theorem dX13_namesOfCondition_109 : decode cX13_namesOfCondition 109 = .ok (.iaload, 1) := by decide +kernel
theorem dX13_namesOfCondition_110 : decode cX13_namesOfCondition 110 = .ok (.invokevirtual 646, 3) := by decide +kernel
theorem dX13_namesOfCondition_113 : decode cX13_namesOfCondition 113 = .ok (.goto 3, 3) := by decide +kernel
theorem dX13_namesOfCondition_116 : decode cX13_namesOfCondition 116 = .ok (.return_, 1) := by decide +kernel
theorem dX13_parameters_0 : decode cX13_parameters 0 = .ok (.iconst 0, 1) := by decide +kernel
theorem dX13_parameters_1 : decode cX13_parameters 1 = .ok (.istore_n 2, 1) := by decide +kernel
theorem dX13_parameters_2 : decode cX13_parameters 2 = .ok (.aload_n 0, 1) := by decide +kernel
theorem dX13_parameters_3 : decode cX13_parameters 3 = .ok (.getfield 19, 3) := by decide +kernel
theorem dX13_parameters_6 : decode cX13_parameters 6 = .ok (.aload_n 0, 1) := by decide +kernel
theorem dX13_parameters_7 : decode cX13_parameters 7 = .ok (.getfield 41, 3) := by decide +kernel
theorem dX13_parameters_10 : decode cX13_parameters 10 = .ok (.iload_n 1, 1) := by decide +kernel
theorem dX13_parameters_11 : decode cX13_parameters 11 = .ok (.iaload, 1) := by decide +kernel
theorem dX13_parameters_12 : decode cX13_parameters 12 = .ok (.iload_n 2, 1) := by decide +kernel
theorem dX13_parameters_13 : decode cX13_parameters 13 = .ok (.iadd, 1) := by decide +kernel
theorem dX13_parameters_14 : decode cX13_parameters 14 = .ok (.iaload, 1) := by decide +kernel
theorem dX13_parameters_15 : decode cX13_parameters 15 = .ok (.iconst 1, 1) := by decide +kernel
theorem dX13_parameters_16 : decode cX13_parameters 16 = .ok (.if_icmp .ne 9, 3) := by decide +kernel
theorem dX13_parameters_19 : decode cX13_parameters 19 = .ok (.iinc 2 1, 3) := by decide +kernel
theorem dX13_parameters_22 : decode cX13_parameters 22 = .ok (.goto (-20), 3) := by decide +kernel
theorem dX13_parameters_25 : decode cX13_parameters 25 = .ok (.iload_n 2, 1) := by decide +kernel
theorem dX13_parameters_26 : decode cX13_parameters 26 = .ok (.ireturn, 1) := by decide +kernel
theorem dX13_namesOf_0 : decode cX13_namesOf 0 = .ok (.aload_n 0, 1) := by decide +kernel
theorem dX13_namesOf_1 : decode cX13_namesOf 1 = .ok (.getfield 630, 3) := by decide +kernel
theorem dX13_namesOf_4 : decode cX13_namesOf 4 = .ok (.istore_n 2, 1) := by decide +kernel
theorem dX13_namesOf_5 : decode cX13_namesOf 5 = .ok (.aload_n 0, 1) := by decide +kernel
theorem dX13_namesOf_6 : decode cX13_namesOf 6 = .ok (.getfield 29, 3) := by decide +kernel
theorem dX13_namesOf_9 : decode cX13_namesOf 9 = .ok (.iload_n 1, 1) := by decide +kernel
theorem dX13_namesOf_10 : decode cX13_namesOf 10 = .ok (.iaload, 1) := by decide +kernel
theorem dX13_namesOf_11 : decode cX13_namesOf 11 = .ok (.tableswitch 585 1 19 #[89, 128, 214, 241, 274, 297, 340, 585, 585, 340, 353, 353, 353, 376, 399, 572, 585, 486, 509], 89) := by decide +kernel
theorem dX13_namesOf_100 : decode cX13_namesOf 100 = .ok (.aload_n 0, 1) := by decide +kernel
theorem dX13_namesOf_101 : decode cX13_namesOf 101 = .ok (.aload_n 0, 1) := by decide +kernel
theorem dX13_namesOf_102 : decode cX13_namesOf 102 = .ok (.getfield 38, 3) := by decide +kernel
theorem dX13_namesOf_105 : decode cX13_namesOf 105 = .ok (.iload_n 1, 1) := by decide +kernel
theorem dX13_namesOf_106 : decode cX13_namesOf 106 = .ok (.iaload, 1) := by decide +kernel
theorem dX13_namesOf_107 : decode cX13_namesOf 107 = .ok (.invokevirtual 649, 3) := by decide +kernel
theorem dX13_namesOf_110 : decode cX13_namesOf 110 = .ok (.istore_n 3, 1) := by decide +kernel
theorem dX13_namesOf_111 : decode cX13_namesOf 111 = .ok (.aload_n 0, 1) := by decide +kernel
theorem dX13_namesOf_112 : decode cX13_namesOf 112 = .ok (.aload_n 0, 1) := by decide +kernel
theorem dX13_namesOf_113 : decode cX13_namesOf 113 = .ok (.getfield 44, 3) := by decide +kernel
theorem dX13_namesOf_116 : decode cX13_namesOf 116 = .ok (.iload_n 1, 1) := by decide +kernel
theorem dX13_namesOf_117 : decode cX13_namesOf 117 = .ok (.iaload, 1) := by decide +kernel
theorem dX13_namesOf_118 : decode cX13_namesOf 118 = .ok (.invokevirtual 652, 3) := by decide +kernel
theorem dX13_namesOf_121 : decode cX13_namesOf 121 = .ok (.aload_n 0, 1) := by decide +kernel
theorem dX13_namesOf_122 : decode cX13_namesOf 122 = .ok (.iload_n 3, 1) := by decide +kernel
theorem dX13_namesOf_123 : decode cX13_namesOf 123 = .ok (.invokevirtual 655, 3) := by decide +kernel
theorem dX13_namesOf_126 : decode cX13_namesOf 126 = .ok (.aload_n 0, 1) := by decide +kernel
theorem dX13_namesOf_127 : decode cX13_namesOf 127 = .ok (.aload_n 0, 1) := by decide +kernel
theorem dX13_namesOf_128 : decode cX13_namesOf 128 = .ok (.getfield 47, 3) := by decide +kernel
theorem dX13_namesOf_131 : decode cX13_namesOf 131 = .ok (.iload_n 1, 1) := by decide +kernel
theorem dX13_namesOf_132 : decode cX13_namesOf 132 = .ok (.iaload, 1) := by decide +kernel
theorem dX13_namesOf_133 : decode cX13_namesOf 133 = .ok (.invokevirtual 652, 3) := by decide +kernel
theorem dX13_namesOf_136 : decode cX13_namesOf 136 = .ok (.goto 460, 3) := by decide +kernel
theorem dX13_namesOf_139 : decode cX13_namesOf 139 = .ok (.aload_n 0, 1) := by decide +kernel
theorem dX13_namesOf_140 : decode cX13_namesOf 140 = .ok (.aload_n 0, 1) := by decide +kernel
theorem dX13_namesOf_141 : decode cX13_namesOf 141 = .ok (.getfield 38, 3) := by decide +kernel
theorem dX13_namesOf_144 : decode cX13_namesOf 144 = .ok (.iload_n 1, 1) := by decide +kernel
theorem dX13_namesOf_145 : decode cX13_namesOf 145 = .ok (.iaload, 1) := by decide +kernel
theorem dX13_namesOf_146 : decode cX13_namesOf 146 = .ok (.invokevirtual 649, 3) := by decide +kernel
theorem dX13_namesOf_149 : decode cX13_namesOf 149 = .ok (.istore_n 3, 1) := by decide +kernel
theorem dX13_namesOf_150 : decode cX13_namesOf 150 = .ok (.aload_n 0, 1) := by decide +kernel
theorem dX13_namesOf_151 : decode cX13_namesOf 151 = .ok (.iload_n 1, 1) := by decide +kernel
theorem dX13_namesOf_152 : decode cX13_namesOf 152 = .ok (.invokevirtual 658, 3) := by decide +kernel
theorem dX13_namesOf_155 : decode cX13_namesOf 155 = .ok (.istore 4, 2) := by decide +kernel
theorem dX13_namesOf_157 : decode cX13_namesOf 157 = .ok (.aload_n 0, 1) := by decide +kernel
theorem dX13_namesOf_158 : decode cX13_namesOf 158 = .ok (.iload_n 3, 1) := by decide +kernel
theorem dX13_namesOf_159 : decode cX13_namesOf 159 = .ok (.invokevirtual 655, 3) := by decide +kernel
theorem dX13_namesOf_162 : decode cX13_namesOf 162 = .ok (.iconst 0, 1) := by decide +kernel
theorem dX13_namesOf_163 : decode cX13_namesOf 163 = .ok (.istore 5, 2) := by decide +kernel
theorem dX13_namesOf_165 : decode cX13_namesOf 165 = .ok (.iload 5, 2) := by decide +kernel
theorem dX13_namesOf_167 : decode cX13_namesOf 167 = .ok (.iload 4, 2) := by decide +kernel
theorem dX13_namesOf_169 : decode cX13_namesOf 169 = .ok (.if_icmp .ge 26, 3) := by decide +kernel
theorem dX13_namesOf_172 : decode cX13_namesOf 172 = .ok (.aload_n 0, 1) := by decide +kernel
theorem dX13_namesOf_173 : decode cX13_namesOf 173 = .ok (.aload_n 0, 1) := by decide +kernel
theorem dX13_namesOf_174 : decode cX13_namesOf 174 = .ok (.aload_n 0, 1) := by decide +kernel
theorem dX13_namesOf_175 : decode cX13_namesOf 175 = .ok (.getfield 41, 3) := by decide +kernel
theorem dX13_namesOf_178 : decode cX13_namesOf 178 = .ok (.iload_n 1, 1) := by decide +kernel
theorem dX13_namesOf_179 : decode cX13_namesOf 179 = .ok (.iaload, 1) := by decide +kernel
theorem dX13_namesOf_180 : decode cX13_namesOf 180 = .ok (.iload 5, 2) := by decide +kernel
theorem dX13_namesOf_182 : decode cX13_namesOf 182 = .ok (.iadd, 1) := by decide +kernel
theorem dX13_namesOf_183 : decode cX13_namesOf 183 = .ok (.invokevirtual 649, 3) := by decide +kernel
theorem dX13_namesOf_186 : decode cX13_namesOf 186 = .ok (.invokevirtual 655, 3) := by decide +kernel
theorem dX13_namesOf_189 : decode cX13_namesOf 189 = .ok (.iinc 5 1, 3) := by decide +kernel
theorem dX13_namesOf_192 : decode cX13_namesOf 192 = .ok (.goto (-27), 3) := by decide +kernel
theorem dX13_namesOf_195 : decode cX13_namesOf 195 = .ok (.aload_n 0, 1) := by decide +kernel
theorem dX13_namesOf_196 : decode cX13_namesOf 196 = .ok (.aload_n 0, 1) := by decide +kernel
theorem dX13_namesOf_197 : decode cX13_namesOf 197 = .ok (.getfield 44, 3) := by decide +kernel
theorem dX13_namesOf_200 : decode cX13_namesOf 200 = .ok (.iload_n 1, 1) := by decide +kernel
theorem dX13_namesOf_201 : decode cX13_namesOf 201 = .ok (.iaload, 1) := by decide +kernel
theorem dX13_namesOf_202 : decode cX13_namesOf 202 = .ok (.invokevirtual 652, 3) := by decide +kernel
theorem dX13_namesOf_205 : decode cX13_namesOf 205 = .ok (.aload_n 0, 1) := by decide +kernel
theorem dX13_namesOf_206 : decode cX13_namesOf 206 = .ok (.iload_n 2, 1) := by decide +kernel
theorem dX13_namesOf_207 : decode cX13_namesOf 207 = .ok (.iconst 1, 1) := by decide +kernel
theorem dX13_namesOf_208 : decode cX13_namesOf 208 = .ok (.iadd, 1) := by decide +kernel
theorem dX13_namesOf_209 : decode cX13_namesOf 209 = .ok (.putfield 630, 3) := by decide +kernel
theorem dX13_namesOf_212 : decode cX13_namesOf 212 = .ok (.aload_n 0, 1) := by decide +kernel
theorem dX13_namesOf_213 : decode cX13_namesOf 213 = .ok (.aload_n 0, 1) := by decide +kernel
theorem dX13_namesOf_214 : decode cX13_namesOf 214 = .ok (.getfield 47, 3) := by decide +kernel
theorem dX13_namesOf_217 : decode cX13_namesOf 217 = .ok (.iload_n 1, 1) := by decide +kernel
theorem dX13_namesOf_218 : decode cX13_namesOf 218 = .ok (.iaload, 1) := by decide +kernel
theorem dX13_namesOf_219 : decode cX13_namesOf 219 = .ok (.invokevirtual 652, 3) := by decide +kernel
theorem dX13_namesOf_222 : decode cX13_namesOf 222 = .ok (.goto 374, 3) := by decide +kernel
theorem dX13_namesOf_225 : decode cX13_namesOf 225 = .ok (.aload_n 0, 1) := by decide +kernel
theorem dX13_namesOf_226 : decode cX13_namesOf 226 = .ok (.aload_n 0, 1) := by decide +kernel
theorem dX13_namesOf_227 : decode cX13_namesOf 227 = .ok (.aload_n 0, 1) := by decide +kernel
theorem dX13_namesOf_228 : decode cX13_namesOf 228 = .ok (.getfield 38, 3) := by decide +kernel
theorem dX13_namesOf_231 : decode cX13_namesOf 231 = .ok (.iload_n 1, 1) := by decide +kernel
theorem dX13_namesOf_232 : decode cX13_namesOf 232 = .ok (.iaload, 1) := by decide +kernel
theorem dX13_namesOf_233 : decode cX13_namesOf 233 = .ok (.invokevirtual 649, 3) := by decide +kernel
theorem dX13_namesOf_236 : decode cX13_namesOf 236 = .ok (.invokevirtual 655, 3) := by decide +kernel
theorem dX13_namesOf_239 : decode cX13_namesOf 239 = .ok (.aload_n 0, 1) := by decide +kernel
theorem dX13_namesOf_240 : decode cX13_namesOf 240 = .ok (.aload_n 0, 1) := by decide +kernel
theorem dX13_namesOf_241 : decode cX13_namesOf 241 = .ok (.getfield 44, 3) := by decide +kernel
theorem dX13_namesOf_244 : decode cX13_namesOf 244 = .ok (.iload_n 1, 1) := by decide +kernel
theorem dX13_namesOf_245 : decode cX13_namesOf 245 = .ok (.iaload, 1) := by decide +kernel
theorem dX13_namesOf_246 : decode cX13_namesOf 246 = .ok (.invokevirtual 652, 3) := by decide +kernel
theorem dX13_namesOf_249 : decode cX13_namesOf 249 = .ok (.goto 347, 3) := by decide +kernel
theorem dX13_namesOf_252 : decode cX13_namesOf 252 = .ok (.aload_n 0, 1) := by decide +kernel
theorem dX13_namesOf_253 : decode cX13_namesOf 253 = .ok (.aload_n 0, 1) := by decide +kernel
theorem dX13_namesOf_254 : decode cX13_namesOf 254 = .ok (.getfield 38, 3) := by decide +kernel
theorem dX13_namesOf_257 : decode cX13_namesOf 257 = .ok (.iload_n 1, 1) := by decide +kernel
theorem dX13_namesOf_258 : decode cX13_namesOf 258 = .ok (.iaload, 1) := by decide +kernel
theorem dX13_namesOf_259 : decode cX13_namesOf 259 = .ok (.invokevirtual 643, 3) := by decide +kernel
theorem dX13_namesOf_262 : decode cX13_namesOf 262 = .ok (.aload_n 0, 1) := by decide +kernel
theorem dX13_namesOf_263 : decode cX13_namesOf 263 = .ok (.aload_n 0, 1) := by decide +kernel
theorem dX13_namesOf_264 : decode cX13_namesOf 264 = .ok (.getfield 44, 3) := by decide +kernel
theorem dX13_namesOf_267 : decode cX13_namesOf 267 = .ok (.iload_n 1, 1) := by decide +kernel
theorem dX13_namesOf_268 : decode cX13_namesOf 268 = .ok (.iaload, 1) := by decide +kernel
theorem dX13_namesOf_269 : decode cX13_namesOf 269 = .ok (.invokevirtual 652, 3) := by decide +kernel
theorem dX13_namesOf_272 : decode cX13_namesOf 272 = .ok (.aload_n 0, 1) := by decide +kernel
theorem dX13_namesOf_273 : decode cX13_namesOf 273 = .ok (.aload_n 0, 1) := by decide +kernel
theorem dX13_namesOf_274 : decode cX13_namesOf 274 = .ok (.getfield 47, 3) := by decide +kernel
theorem dX13_namesOf_277 : decode cX13_namesOf 277 = .ok (.iload_n 1, 1) := by decide +kernel
theorem dX13_namesOf_278 : decode cX13_namesOf 278 = .ok (.iaload, 1) := by decide +kernel
theorem dX13_namesOf_279 : decode cX13_namesOf 279 = .ok (.invokevirtual 652, 3) := by decide +kernel
theorem dX13_namesOf_282 : decode cX13_namesOf 282 = .ok (.goto 314, 3) := by decide +kernel
theorem dX13_namesOf_285 : decode cX13_namesOf 285 = .ok (.aload_n 0, 1) := by decide +kernel
theorem dX13_namesOf_286 : decode cX13_namesOf 286 = .ok (.aload_n 0, 1) := by decide +kernel
theorem dX13_namesOf_287 : decode cX13_namesOf 287 = .ok (.getfield 38, 3) := by decide +kernel
theorem dX13_namesOf_290 : decode cX13_namesOf 290 = .ok (.iload_n 1, 1) := by decide +kernel
theorem dX13_namesOf_291 : decode cX13_namesOf 291 = .ok (.iaload, 1) := by decide +kernel
theorem dX13_namesOf_292 : decode cX13_namesOf 292 = .ok (.invokevirtual 643, 3) := by decide +kernel
theorem dX13_namesOf_295 : decode cX13_namesOf 295 = .ok (.aload_n 0, 1) := by decide +kernel
theorem dX13_namesOf_296 : decode cX13_namesOf 296 = .ok (.aload_n 0, 1) := by decide +kernel
theorem dX13_namesOf_297 : decode cX13_namesOf 297 = .ok (.getfield 44, 3) := by decide +kernel
theorem dX13_namesOf_300 : decode cX13_namesOf 300 = .ok (.iload_n 1, 1) := by decide +kernel
theorem dX13_namesOf_301 : decode cX13_namesOf 301 = .ok (.iaload, 1) := by decide +kernel
theorem dX13_namesOf_302 : decode cX13_namesOf 302 = .ok (.invokevirtual 652, 3) := by decide +kernel
theorem dX13_namesOf_305 : decode cX13_namesOf 305 = .ok (.goto 291, 3) := by decide +kernel
theorem dX13_namesOf_308 : decode cX13_namesOf 308 = .ok (.aload_n 0, 1) := by decide +kernel
theorem dX13_namesOf_309 : decode cX13_namesOf 309 = .ok (.aload_n 0, 1) := by decide +kernel
theorem dX13_namesOf_310 : decode cX13_namesOf 310 = .ok (.getfield 38, 3) := by decide +kernel
theorem dX13_namesOf_313 : decode cX13_namesOf 313 = .ok (.iload_n 1, 1) := by decide +kernel
theorem dX13_namesOf_314 : decode cX13_namesOf 314 = .ok (.iaload, 1) := by decide +kernel
theorem dX13_namesOf_315 : decode cX13_namesOf 315 = .ok (.invokevirtual 640, 3) := by decide +kernel
theorem dX13_namesOf_318 : decode cX13_namesOf 318 = .ok (.aload_n 0, 1) := by decide +kernel
theorem dX13_namesOf_319 : decode cX13_namesOf 319 = .ok (.aload_n 0, 1) := by decide +kernel
theorem dX13_namesOf_320 : decode cX13_namesOf 320 = .ok (.getfield 41, 3) := by decide +kernel
theorem dX13_namesOf_323 : decode cX13_namesOf 323 = .ok (.iload_n 1, 1) := by decide +kernel
theorem dX13_namesOf_324 : decode cX13_namesOf 324 = .ok (.iaload, 1) := by decide +kernel
theorem dX13_namesOf_325 : decode cX13_namesOf 325 = .ok (.invokevirtual 646, 3) := by decide +kernel
theorem dX13_namesOf_328 : decode cX13_namesOf 328 = .ok (.aload_n 0, 1) := by decide +kernel
theorem dX13_namesOf_329 : decode cX13_namesOf 329 = .ok (.aload_n 0, 1) := by decide +kernel
theorem dX13_namesOf_330 : decode cX13_namesOf 330 = .ok (.getfield 44, 3) := by decide +kernel
theorem dX13_namesOf_333 : decode cX13_namesOf 333 = .ok (.iload_n 1, 1) := by decide +kernel
theorem dX13_namesOf_334 : decode cX13_namesOf 334 = .ok (.iaload, 1) := by decide +kernel
theorem dX13_namesOf_335 : decode cX13_namesOf 335 = .ok (.invokevirtual 646, 3) := by decide +kernel
theorem dX13_namesOf_338 : decode cX13_namesOf 338 = .ok (.aload_n 0, 1) := by decide +kernel
theorem dX13_namesOf_339 : decode cX13_namesOf 339 = .ok (.aload_n 0, 1) := by decide +kernel
theorem dX13_namesOf_340 : decode cX13_namesOf 340 = .ok (.getfield 47, 3) := by decide +kernel
theorem dX13_namesOf_343 : decode cX13_namesOf 343 = .ok (.iload_n 1, 1) := by decide +kernel
theorem dX13_namesOf_344 : decode cX13_namesOf 344 = .ok (.iaload, 1) := by decide +kernel
theorem dX13_namesOf_345 : decode cX13_namesOf 345 = .ok (.invokevirtual 652, 3) := by decide +kernel
theorem dX13_namesOf_348 : decode cX13_namesOf 348 = .ok (.goto 248, 3) := by decide +kernel
theorem dX13_namesOf_351 : decode cX13_namesOf 351 = .ok (.aload_n 0, 1) := by decide +kernel
theorem dX13_namesOf_352 : decode cX13_namesOf 352 = .ok (.aload_n 0, 1) := by decide +kernel
theorem dX13_namesOf_353 : decode cX13_namesOf 353 = .ok (.getfield 41, 3) := by decide +kernel
theorem dX13_namesOf_356 : decode cX13_namesOf 356 = .ok (.iload_n 1, 1) := by decide +kernel
theorem dX13_namesOf_357 : decode cX13_namesOf 357 = .ok (.iaload, 1) := by decide +kernel
theorem dX13_namesOf_358 : decode cX13_namesOf 358 = .ok (.invokevirtual 646, 3) := by decide +kernel
theorem dX13_namesOf_361 : decode cX13_namesOf 361 = .ok (.goto 235, 3) := by decide +kernel
theorem dX13_namesOf_364 : decode cX13_namesOf 364 = .ok (.aload_n 0, 1) := by decide +kernel
theorem dX13_namesOf_365 : decode cX13_namesOf 365 = .ok (.aload_n 0, 1) := by decide +kernel
theorem dX13_namesOf_366 : decode cX13_namesOf 366 = .ok (.getfield 41, 3) := by decide +kernel
theorem dX13_namesOf_369 : decode cX13_namesOf 369 = .ok (.iload_n 1, 1) := by decide +kernel
theorem dX13_namesOf_370 : decode cX13_namesOf 370 = .ok (.iaload, 1) := by decide +kernel
theorem dX13_namesOf_371 : decode cX13_namesOf 371 = .ok (.invokevirtual 646, 3) := by decide +kernel
theorem dX13_namesOf_374 : decode cX13_namesOf 374 = .ok (.aload_n 0, 1) := by decide +kernel
theorem dX13_namesOf_375 : decode cX13_namesOf 375 = .ok (.aload_n 0, 1) := by decide +kernel
theorem dX13_namesOf_376 : decode cX13_namesOf 376 = .ok (.getfield 44, 3) := by decide +kernel
theorem dX13_namesOf_379 : decode cX13_namesOf 379 = .ok (.iload_n 1, 1) := by decide +kernel
theorem dX13_namesOf_380 : decode cX13_namesOf 380 = .ok (.iaload, 1) := by decide +kernel
theorem dX13_namesOf_381 : decode cX13_namesOf 381 = .ok (.invokevirtual 646, 3) := by decide +kernel
theorem dX13_namesOf_384 : decode cX13_namesOf 384 = .ok (.goto 212, 3) := by decide +kernel
theorem dX13_namesOf_387 : decode cX13_namesOf 387 = .ok (.aload_n 0, 1) := by decide +kernel
theorem dX13_namesOf_388 : decode cX13_namesOf 388 = .ok (.aload_n 0, 1) := by decide +kernel
theorem dX13_namesOf_389 : decode cX13_namesOf 389 = .ok (.getfield 38, 3) := by decide +kernel
theorem dX13_namesOf_392 : decode cX13_namesOf 392 = .ok (.iload_n 1, 1) := by decide +kernel
theorem dX13_namesOf_393 : decode cX13_namesOf 393 = .ok (.iaload, 1) := by decide +kernel
theorem dX13_namesOf_394 : decode cX13_namesOf 394 = .ok (.invokevirtual 640, 3) := by decide +kernel
theorem dX13_namesOf_397 : decode cX13_namesOf 397 = .ok (.aload_n 0, 1) := by decide +kernel
theorem dX13_namesOf_398 : decode cX13_namesOf 398 = .ok (.aload_n 0, 1) := by decide +kernel
theorem dX13_namesOf_399 : decode cX13_namesOf 399 = .ok (.getfield 41, 3) := by decide +kernel
theorem dX13_namesOf_402 : decode cX13_namesOf 402 = .ok (.iload_n 1, 1) := by decide +kernel
theorem dX13_namesOf_403 : decode cX13_namesOf 403 = .ok (.iaload, 1) := by decide +kernel
theorem dX13_namesOf_404 : decode cX13_namesOf 404 = .ok (.invokevirtual 646, 3) := by decide +kernel
theorem dX13_namesOf_407 : decode cX13_namesOf 407 = .ok (.goto 189, 3) := by decide +kernel
theorem dX13_namesOf_410 : decode cX13_namesOf 410 = .ok (.aload_n 0, 1) := by decide +kernel
theorem dX13_namesOf_411 : decode cX13_namesOf 411 = .ok (.aload_n 0, 1) := by decide +kernel
theorem dX13_namesOf_412 : decode cX13_namesOf 412 = .ok (.getfield 38, 3) := by decide +kernel
theorem dX13_namesOf_415 : decode cX13_namesOf 415 = .ok (.iload_n 1, 1) := by decide +kernel
theorem dX13_namesOf_416 : decode cX13_namesOf 416 = .ok (.iaload, 1) := by decide +kernel
theorem dX13_namesOf_417 : decode cX13_namesOf 417 = .ok (.invokevirtual 640, 3) := by decide +kernel
theorem dX13_namesOf_420 : decode cX13_namesOf 420 = .ok (.iconst 0, 1) := by decide +kernel
theorem dX13_namesOf_421 : decode cX13_namesOf 421 = .ok (.istore_n 3, 1) := by decide +kernel
theorem dX13_namesOf_422 : decode cX13_namesOf 422 = .ok (.iload_n 3, 1) := by decide +kernel
theorem dX13_namesOf_423 : decode cX13_namesOf 423 = .ok (.aload_n 0, 1) := by decide +kernel
theorem dX13_namesOf_424 : decode cX13_namesOf 424 = .ok (.getfield 44, 3) := by decide +kernel
theorem dX13_namesOf_427 : decode cX13_namesOf 427 = .ok (.iload_n 1, 1) := by decide +kernel
theorem dX13_namesOf_428 : decode cX13_namesOf 428 = .ok (.iaload, 1) := by decide +kernel
theorem dX13_namesOf_429 : decode cX13_namesOf 429 = .ok (.if_icmp .ge 65, 3) := by decide +kernel
theorem dX13_namesOf_432 : decode cX13_namesOf 432 = .ok (.aload_n 0, 1) := by decide +kernel
theorem dX13_namesOf_433 : decode cX13_namesOf 433 = .ok (.getfield 41, 3) := by decide +kernel
theorem dX13_namesOf_436 : decode cX13_namesOf 436 = .ok (.iload_n 1, 1) := by decide +kernel
theorem dX13_namesOf_437 : decode cX13_namesOf 437 = .ok (.iaload, 1) := by decide +kernel
theorem dX13_namesOf_438 : decode cX13_namesOf 438 = .ok (.iload_n 3, 1) := by decide +kernel
theorem dX13_namesOf_439 : decode cX13_namesOf 439 = .ok (.iadd, 1) := by decide +kernel
theorem dX13_namesOf_440 : decode cX13_namesOf 440 = .ok (.istore 4, 2) := by decide +kernel
theorem dX13_namesOf_442 : decode cX13_namesOf 442 = .ok (.aload_n 0, 1) := by decide +kernel
theorem dX13_namesOf_443 : decode cX13_namesOf 443 = .ok (.getfield 68, 3) := by decide +kernel
theorem dX13_namesOf_446 : decode cX13_namesOf 446 = .ok (.iload 4, 2) := by decide +kernel
theorem dX13_namesOf_448 : decode cX13_namesOf 448 = .ok (.iaload, 1) := by decide +kernel
theorem dX13_namesOf_449 : decode cX13_namesOf 449 = .ok (.ifCond .ne 17, 3) := by decide +kernel
theorem dX13_namesOf_452 : decode cX13_namesOf 452 = .ok (.aload_n 0, 1) := by decide +kernel
theorem dX13_namesOf_453 : decode cX13_namesOf 453 = .ok (.aload_n 0, 1) := by decide +kernel
theorem dX13_namesOf_454 : decode cX13_namesOf 454 = .ok (.getfield 71, 3) := by decide +kernel
theorem dX13_namesOf_457 : decode cX13_namesOf 457 = .ok (.iload 4, 2) := by decide +kernel
theorem dX13_namesOf_459 : decode cX13_namesOf 459 = .ok (.iaload, 1) := by decide +kernel
theorem dX13_namesOf_460 : decode cX13_namesOf 460 = .ok (.invokevirtual 646, 3) := by decide +kernel
theorem dX13_namesOf_463 : decode cX13_namesOf 463 = .ok (.goto 25, 3) := by decide +kernel
theorem dX13_namesOf_466 : decode cX13_namesOf 466 = .ok (.aload_n 0, 1) := by decide +kernel
theorem dX13_namesOf_467 : decode cX13_namesOf 467 = .ok (.getfield 68, 3) := by decide +kernel
theorem dX13_namesOf_470 : decode cX13_namesOf 470 = .ok (.iload 4, 2) := by decide +kernel
theorem dX13_namesOf_472 : decode cX13_namesOf 472 = .ok (.iaload, 1) := by decide +kernel
theorem dX13_namesOf_473 : decode cX13_namesOf 473 = .ok (.iconst 1, 1) := by decide +kernel
theorem dX13_namesOf_474 : decode cX13_namesOf 474 = .ok (.if_icmp .ne 14, 3) := by decide +kernel
theorem dX13_namesOf_477 : decode cX13_namesOf 477 = .ok (.aload_n 0, 1) := by decide +kernel
theorem dX13_namesOf_478 : decode cX13_namesOf 478 = .ok (.aload_n 0, 1) := by decide +kernel
theorem dX13_namesOf_479 : decode cX13_namesOf 479 = .ok (.getfield 71, 3) := by decide +kernel
theorem dX13_namesOf_482 : decode cX13_namesOf 482 = .ok (.iload 4, 2) := by decide +kernel
theorem dX13_namesOf_484 : decode cX13_namesOf 484 = .ok (.iaload, 1) := by decide +kernel
theorem dX13_namesOf_485 : decode cX13_namesOf 485 = .ok (.invokevirtual 652, 3) := by decide +kernel
theorem dX13_namesOf_488 : decode cX13_namesOf 488 = .ok (.iinc 3 1, 3) := by decide +kernel
theorem dX13_namesOf_491 : decode cX13_namesOf 491 = .ok (.goto (-69), 3) := by decide +kernel
theorem dX13_namesOf_494 : decode cX13_namesOf 494 = .ok (.goto 102, 3) := by decide +kernel
theorem dX13_namesOf_497 : decode cX13_namesOf 497 = .ok (.aload_n 0, 1) := by decide +kernel
theorem dX13_namesOf_498 : decode cX13_namesOf 498 = .ok (.aload_n 0, 1) := by decide +kernel
theorem dX13_namesOf_499 : decode cX13_namesOf 499 = .ok (.getfield 41, 3) := by decide +kernel
theorem dX13_namesOf_502 : decode cX13_namesOf 502 = .ok (.iload_n 1, 1) := by decide +kernel
theorem dX13_namesOf_503 : decode cX13_namesOf 503 = .ok (.iaload, 1) := by decide +kernel
theorem dX13_namesOf_504 : decode cX13_namesOf 504 = .ok (.invokevirtual 646, 3) := by decide +kernel
theorem dX13_namesOf_507 : decode cX13_namesOf 507 = .ok (.aload_n 0, 1) := by decide +kernel
theorem dX13_namesOf_508 : decode cX13_namesOf 508 = .ok (.aload_n 0, 1) := by decide +kernel
theorem dX13_namesOf_509 : decode cX13_namesOf 509 = .ok (.getfield 38, 3) := by decide +kernel
theorem dX13_namesOf_512 : decode cX13_namesOf 512 = .ok (.iload_n 1, 1) := by decide +kernel
theorem dX13_namesOf_513 : decode cX13_namesOf 513 = .ok (.iaload, 1) := by decide +kernel
theorem dX13_namesOf_514 : decode cX13_namesOf 514 = .ok (.invokevirtual 640, 3) := by decide +kernel
theorem dX13_namesOf_517 : decode cX13_namesOf 517 = .ok (.goto 79, 3) := by decide +kernel
theorem dX13_namesOf_520 : decode cX13_namesOf 520 = .ok (.aload_n 0, 1) := by decide +kernel
theorem dX13_namesOf_521 : decode cX13_namesOf 521 = .ok (.aload_n 0, 1) := by decide +kernel
theorem dX13_namesOf_522 : decode cX13_namesOf 522 = .ok (.getfield 38, 3) := by decide +kernel
theorem dX13_namesOf_525 : decode cX13_namesOf 525 = .ok (.iload_n 1, 1) := by decide +kernel
theorem dX13_namesOf_526 : decode cX13_namesOf 526 = .ok (.iaload, 1) := by decide +kernel
theorem dX13_namesOf_527 : decode cX13_namesOf 527 = .ok (.invokevirtual 640, 3) := by decide +kernel
theorem dX13_namesOf_530 : decode cX13_namesOf 530 = .ok (.aload_n 0, 1) := by decide +kernel
theorem dX13_namesOf_531 : decode cX13_namesOf 531 = .ok (.aload_n 0, 1) := by decide +kernel
theorem dX13_namesOf_532 : decode cX13_namesOf 532 = .ok (.getfield 44, 3) := by decide +kernel
theorem dX13_namesOf_535 : decode cX13_namesOf 535 = .ok (.iload_n 1, 1) := by decide +kernel
theorem dX13_namesOf_536 : decode cX13_namesOf 536 = .ok (.iaload, 1) := by decide +kernel
theorem dX13_namesOf_537 : decode cX13_namesOf 537 = .ok (.invokevirtual 652, 3) := by decide +kernel
theorem dX13_namesOf_540 : decode cX13_namesOf 540 = .ok (.aload_n 0, 1) := by decide +kernel
theorem dX13_namesOf_541 : decode cX13_namesOf 541 = .ok (.aload_n 0, 1) := by decide +kernel
theorem dX13_namesOf_542 : decode cX13_namesOf 542 = .ok (.aload_n 0, 1) := by decide +kernel
theorem dX13_namesOf_543 : decode cX13_namesOf 543 = .ok (.getfield 41, 3) := by decide +kernel
theorem dX13_namesOf_546 : decode cX13_namesOf 546 = .ok (.iload_n 1, 1) := by decide +kernel
theorem dX13_namesOf_547 : decode cX13_namesOf 547 = .ok (.iaload, 1) := by decide +kernel
theorem dX13_namesOf_548 : decode cX13_namesOf 548 = .ok (.invokevirtual 649, 3) := by decide +kernel
theorem dX13_namesOf_551 : decode cX13_namesOf 551 = .ok (.invokevirtual 655, 3) := by decide +kernel
theorem dX13_namesOf_554 : decode cX13_namesOf 554 = .ok (.aload_n 0, 1) := by decide +kernel
theorem dX13_namesOf_555 : decode cX13_namesOf 555 = .ok (.aload_n 0, 1) := by decide +kernel
theorem dX13_namesOf_556 : decode cX13_namesOf 556 = .ok (.aload_n 0, 1) := by decide +kernel
theorem dX13_namesOf_557 : decode cX13_namesOf 557 = .ok (.getfield 41, 3) := by decide +kernel
theorem dX13_namesOf_560 : decode cX13_namesOf 560 = .ok (.iload_n 1, 1) := by decide +kernel
theorem dX13_namesOf_561 : decode cX13_namesOf 561 = .ok (.iaload, 1) := by decide +kernel
theorem dX13_namesOf_562 : decode cX13_namesOf 562 = .ok (.iconst 1, 1) := by decide +kernel
theorem dX13_namesOf_563 : decode cX13_namesOf 563 = .ok (.iadd, 1) := by decide +kernel
theorem dX13_namesOf_564 : decode cX13_namesOf 564 = .ok (.invokevirtual 649, 3) := by decide +kernel
theorem dX13_namesOf_567 : decode cX13_namesOf 567 = .ok (.invokevirtual 655, 3) := by decide +kernel
theorem dX13_namesOf_570 : decode cX13_namesOf 570 = .ok (.aload_n 0, 1) := by decide +kernel
theorem dX13_namesOf_571 : decode cX13_namesOf 571 = .ok (.aload_n 0, 1) := by decide +kernel
theorem dX13_namesOf_572 : decode cX13_namesOf 572 = .ok (.getfield 47, 3) := by decide +kernel
theorem dX13_namesOf_575 : decode cX13_namesOf 575 = .ok (.iload_n 1, 1) := by decide +kernel
theorem dX13_namesOf_576 : decode cX13_namesOf 576 = .ok (.iaload, 1) := by decide +kernel
theorem dX13_namesOf_577 : decode cX13_namesOf 577 = .ok (.invokevirtual 652, 3) := by decide +kernel
theorem dX13_namesOf_580 : decode cX13_namesOf 580 = .ok (.goto 16, 3) := by decide +kernel
theorem dX13_namesOf_583 : decode cX13_namesOf 583 = .ok (.aload_n 0, 1) := by decide +kernel
theorem dX13_namesOf_584 : decode cX13_namesOf 584 = .ok (.aload_n 0, 1) := by decide +kernel
theorem dX13_namesOf_585 : decode cX13_namesOf 585 = .ok (.getfield 44, 3) := by decide +kernel
theorem dX13_namesOf_588 : decode cX13_namesOf 588 = .ok (.iload_n 1, 1) := by decide +kernel
theorem dX13_namesOf_589 : decode cX13_namesOf 589 = .ok (.iaload, 1) := by decide +kernel
theorem dX13_namesOf_590 : decode cX13_namesOf 590 = .ok (.invokevirtual 652, 3) := by decide +kernel
theorem dX13_namesOf_593 : decode cX13_namesOf 593 = .ok (.goto 3, 3) := by decide +kernel
theorem dX13_namesOf_596 : decode cX13_namesOf 596 = .ok (.aload_n 0, 1) := by decide +kernel
theorem dX13_namesOf_597 : decode cX13_namesOf 597 = .ok (.iload_n 2, 1) := by decide +kernel
theorem dX13_namesOf_598 : decode cX13_namesOf 598 = .ok (.putfield 630, 3) := by decide +kernel
theorem dX13_namesOf_601 : decode cX13_namesOf 601 = .ok (.return_, 1) := by decide +kernel
