theorem dX13_isText_0 : decode cX13_isText 0 = .ok (.aload_n 0, 1) := by decide +kernel
theorem dX13_isText_1 : decode cX13_isText 1 = .ok (.getfield 19, 3) := by decide +kernel
theorem dX13_isText_4 : decode cX13_isText 4 = .ok (.iload_n 1, 1) := by decide +kernel
theorem dX13_isText_5 : decode cX13_isText 5 = .ok (.iaload, 1) := by decide +kernel
theorem dX13_isText_6 : decode cX13_isText 6 = .ok (.ifCond .eq 23, 3) := by decide +kernel
theorem dX13_isText_29 : decode cX13_isText 29 = .ok (.iconst 0, 1) := by decide +kernel
theorem dX13_isText_30 : decode cX13_isText 30 = .ok (.ireturn, 1) := by decide +kernel
theorem dX13_readWords_0 : decode cX13_readWords 0 = .ok (.aload_n 0, 1) := by decide +kernel
theorem dX13_readWords_1 : decode cX13_readWords 1 = .ok (.iconst 0, 1) := by decide +kernel
theorem dX13_readWords_2 : decode cX13_readWords 2 = .ok (.putfield 398, 3) := by decide +kernel
theorem dX13_readWords_5 : decode cX13_readWords 5 = .ok (.iconst 0, 1) := by decide +kernel
theorem dX13_readWords_6 : decode cX13_readWords 6 = .ok (.istore_n 1, 1) := by decide +kernel
theorem dX13_readWords_7 : decode cX13_readWords 7 = .ok (.iload_n 1, 1) := by decide +kernel
theorem dX13_readWords_8 : decode cX13_readWords 8 = .ok (.aload_n 0, 1) := by decide +kernel
theorem dX13_readWords_9 : decode cX13_readWords 9 = .ok (.getfield 412, 3) := by decide +kernel
theorem dX13_readWords_12 : decode cX13_readWords 12 = .ok (.if_icmp .ge 431, 3) := by decide +kernel
theorem dX13_readWords_443 : decode cX13_readWords 443 = .ok (.aload_n 0, 1) := by decide +kernel
theorem dX13_readWords_444 : decode cX13_readWords 444 = .ok (.iconst 0, 1) := by decide +kernel
theorem dX13_readWords_445 : decode cX13_readWords 445 = .ok (.aload_n 0, 1) := by decide +kernel
theorem dX13_readWords_446 : decode cX13_readWords 446 = .ok (.getfield 412, 3) := by decide +kernel
theorem dX13_readWords_449 : decode cX13_readWords 449 = .ok (.aload_n 0, 1) := by decide +kernel
theorem dX13_readWords_450 : decode cX13_readWords 450 = .ok (.getfield 412, 3) := by decide +kernel
theorem dX13_readWords_453 : decode cX13_readWords 453 = .ok (.invokevirtual 426, 3) := by decide +kernel
theorem dX13_readWords_456 : decode cX13_readWords 456 = .ok (.aload_n 0, 1) := by decide +kernel
theorem dX13_readWords_457 : decode cX13_readWords 457 = .ok (.iconst 0, 1) := by decide +kernel
theorem dX13_readWords_458 : decode cX13_readWords 458 = .ok (.putfield 433, 3) := by decide +kernel
theorem dX13_readWords_461 : decode cX13_readWords 461 = .ok (.return_, 1) := by decide +kernel
theorem dX13_here_0 : decode cX13_here 0 = .ok (.aload_n 0, 1) := by decide +kernel
theorem dX13_here_1 : decode cX13_here 1 = .ok (.getfield 392, 3) := by decide +kernel
theorem dX13_here_4 : decode cX13_here 4 = .ok (.ifCond .ne 19, 3) := by decide +kernel
theorem dX13_here_7 : decode cX13_here 7 = .ok (.aload_n 0, 1) := by decide +kernel
theorem dX13_here_8 : decode cX13_here 8 = .ok (.aload_n 0, 1) := by decide +kernel
theorem dX13_here_9 : decode cX13_here 9 = .ok (.getfield 433, 3) := by decide +kernel
theorem dX13_here_12 : decode cX13_here 12 = .ok (.aload_n 1, 1) := by decide +kernel
theorem dX13_here_13 : decode cX13_here 13 = .ok (.invokevirtual 439, 3) := by decide +kernel
theorem dX13_here_16 : decode cX13_here 16 = .ok (.ifCond .eq 7, 3) := by decide +kernel
theorem dX13_here_23 : decode cX13_here 23 = .ok (.iconst 0, 1) := by decide +kernel
theorem dX13_here_24 : decode cX13_here 24 = .ok (.ireturn, 1) := by decide +kernel
theorem dX13_skip_0 : decode cX13_skip 0 = .ok (.aload_n 0, 1) := by decide +kernel
theorem dX13_skip_1 : decode cX13_skip 1 = .ok (.aload_n 1, 1) := by decide +kernel
theorem dX13_skip_2 : decode cX13_skip 2 = .ok (.invokevirtual 443, 3) := by decide +kernel
theorem dX13_skip_5 : decode cX13_skip 5 = .ok (.istore_n 2, 1) := by decide +kernel
theorem dX13_skip_6 : decode cX13_skip 6 = .ok (.iload_n 2, 1) := by decide +kernel
theorem dX13_skip_7 : decode cX13_skip 7 = .ok (.ifCond .eq 13, 3) := by decide +kernel
theorem dX13_skip_20 : decode cX13_skip 20 = .ok (.iload_n 2, 1) := by decide +kernel
theorem dX13_skip_21 : decode cX13_skip 21 = .ok (.ireturn, 1) := by decide +kernel
theorem dX13_must_0 : decode cX13_must 0 = .ok (.aload_n 0, 1) := by decide +kernel
theorem dX13_must_1 : decode cX13_must 1 = .ok (.aload_n 1, 1) := by decide +kernel
theorem dX13_must_2 : decode cX13_must 2 = .ok (.invokevirtual 447, 3) := by decide +kernel
theorem dX13_must_5 : decode cX13_must 5 = .ok (.ifCond .ne 7, 3) := by decide +kernel
theorem dX13_must_8 : decode cX13_must 8 = .ok (.aload_n 0, 1) := by decide +kernel
theorem dX13_must_9 : decode cX13_must 9 = .ok (.invokevirtual 450, 3) := by decide +kernel
theorem dX13_must_12 : decode cX13_must 12 = .ok (.return_, 1) := by decide +kernel
theorem dX13_program_0 : decode cX13_program 0 = .ok (.aload_n 0, 1) := by decide +kernel
theorem dX13_program_1 : decode cX13_program 1 = .ok (.iconst 0, 1) := by decide +kernel
theorem dX13_program_2 : decode cX13_program 2 = .ok (.putfield 436, 3) := by decide +kernel
theorem dX13_program_5 : decode cX13_program 5 = .ok (.aload_n 0, 1) := by decide +kernel
theorem dX13_program_6 : decode cX13_program 6 = .ok (.iconst 0, 1) := by decide +kernel
theorem dX13_program_7 : decode cX13_program 7 = .ok (.putfield 469, 3) := by decide +kernel
theorem dX13_program_10 : decode cX13_program 10 = .ok (.aload_n 0, 1) := by decide +kernel
theorem dX13_program_11 : decode cX13_program 11 = .ok (.iconst 0, 1) := by decide +kernel
theorem dX13_program_12 : decode cX13_program 12 = .ok (.putfield 472, 3) := by decide +kernel
theorem dX13_program_15 : decode cX13_program 15 = .ok (.aload_n 0, 1) := by decide +kernel
theorem dX13_program_16 : decode cX13_program 16 = .ok (.iconst 0, 1) := by decide +kernel
theorem dX13_program_17 : decode cX13_program 17 = .ok (.putfield 475, 3) := by decide +kernel
theorem dX13_program_20 : decode cX13_program 20 = .ok (.aload_n 0, 1) := by decide +kernel
theorem dX13_program_21 : decode cX13_program 21 = .ok (.iconst 0, 1) := by decide +kernel
theorem dX13_program_22 : decode cX13_program 22 = .ok (.putfield 478, 3) := by decide +kernel
theorem dX13_program_25 : decode cX13_program 25 = .ok (.aload_n 0, 1) := by decide +kernel
theorem dX13_program_26 : decode cX13_program 26 = .ok (.iconst 0, 1) := by decide +kernel
theorem dX13_program_27 : decode cX13_program 27 = .ok (.putfield 481, 3) := by decide +kernel
theorem dX13_program_30 : decode cX13_program 30 = .ok (.aload_n 0, 1) := by decide +kernel
theorem dX13_program_31 : decode cX13_program 31 = .ok (.iconst 0, 1) := by decide +kernel
theorem dX13_program_32 : decode cX13_program 32 = .ok (.putfield 484, 3) := by decide +kernel
theorem dX13_program_35 : decode cX13_program 35 = .ok (.aload_n 0, 1) := by decide +kernel
theorem dX13_program_36 : decode cX13_program 36 = .ok (.ldc_w 487, 3) := by decide +kernel
theorem dX13_program_39 : decode cX13_program 39 = .ok (.invokevirtual 443, 3) := by decide +kernel
theorem dX13_program_42 : decode cX13_program 42 = .ok (.ifCond .eq 354, 3) := by decide +kernel
theorem dX13_program_396 : decode cX13_program 396 = .ok (.aload_n 0, 1) := by decide +kernel
theorem dX13_program_397 : decode cX13_program 397 = .ok (.ldc_w 517, 3) := by decide +kernel
theorem dX13_program_400 : decode cX13_program 400 = .ok (.invokevirtual 443, 3) := by decide +kernel
theorem dX13_program_403 : decode cX13_program 403 = .ok (.ifCond .eq 159, 3) := by decide +kernel
theorem dX13_program_562 : decode cX13_program 562 = .ok (.aload_n 0, 1) := by decide +kernel
theorem dX13_program_563 : decode cX13_program 563 = .ok (.aload_n 0, 1) := by decide +kernel
theorem dX13_program_564 : decode cX13_program 564 = .ok (.invokevirtual 524, 3) := by decide +kernel
theorem dX13_program_567 : decode cX13_program 567 = .ok (.putfield 527, 3) := by decide +kernel
theorem dX13_program_570 : decode cX13_program 570 = .ok (.aload_n 0, 1) := by decide +kernel
theorem dX13_program_571 : decode cX13_program 571 = .ok (.getfield 392, 3) := by decide +kernel
theorem dX13_program_574 : decode cX13_program 574 = .ok (.ifCond .ne 19, 3) := by decide +kernel
theorem dX13_program_593 : decode cX13_program 593 = .ok (.return_, 1) := by decide +kernel
theorem dX13_expression_0 : decode cX13_expression 0 = .ok (.aload_n 0, 1) := by decide +kernel
theorem dX13_expression_1 : decode cX13_expression 1 = .ok (.getfield 484, 3) := by decide +kernel
theorem dX13_expression_4 : decode cX13_expression 4 = .ok (.bipush 30, 2) := by decide +kernel
theorem dX13_expression_6 : decode cX13_expression 6 = .ok (.if_icmp .le 7, 3) := by decide +kernel
theorem dX13_expression_13 : decode cX13_expression 13 = .ok (.aload_n 0, 1) := by decide +kernel
theorem dX13_expression_14 : decode cX13_expression 14 = .ok (.getfield 392, 3) := by decide +kernel
theorem dX13_expression_17 : decode cX13_expression 17 = .ok (.ifCond .eq 5, 3) := by decide +kernel
theorem dX13_expression_22 : decode cX13_expression 22 = .ok (.aload_n 0, 1) := by decide +kernel
theorem dX13_expression_23 : decode cX13_expression 23 = .ok (.getfield 23, 3) := by decide +kernel
theorem dX13_expression_26 : decode cX13_expression 26 = .ok (.aload_n 0, 1) := by decide +kernel
theorem dX13_expression_27 : decode cX13_expression 27 = .ok (.getfield 433, 3) := by decide +kernel
theorem dX13_expression_30 : decode cX13_expression 30 = .ok (.iaload, 1) := by decide +kernel
theorem dX13_expression_31 : decode cX13_expression 31 = .ok (.istore_n 1, 1) := by decide +kernel
theorem dX13_expression_32 : decode cX13_expression 32 = .ok (.aload_n 0, 1) := by decide +kernel
theorem dX13_expression_33 : decode cX13_expression 33 = .ok (.ldc_w 530, 3) := by decide +kernel
theorem dX13_expression_36 : decode cX13_expression 36 = .ok (.invokevirtual 447, 3) := by decide +kernel
theorem dX13_expression_39 : decode cX13_expression 39 = .ok (.ifCond .eq 152, 3) := by decide +kernel
theorem dX13_expression_191 : decode cX13_expression 191 = .ok (.aload_n 0, 1) := by decide +kernel
theorem dX13_expression_192 : decode cX13_expression 192 = .ok (.ldc_w 543, 3) := by decide +kernel
theorem dX13_expression_195 : decode cX13_expression 195 = .ok (.invokevirtual 447, 3) := by decide +kernel
theorem dX13_expression_198 : decode cX13_expression 198 = .ok (.ifCond .eq 40, 3) := by decide +kernel
theorem dX13_expression_238 : decode cX13_expression 238 = .ok (.aload_n 0, 1) := by decide +kernel
theorem dX13_expression_239 : decode cX13_expression 239 = .ok (.ldc_w 547, 3) := by decide +kernel
theorem dX13_expression_242 : decode cX13_expression 242 = .ok (.invokevirtual 447, 3) := by decide +kernel
theorem dX13_expression_245 : decode cX13_expression 245 = .ok (.ifCond .eq 72, 3) := by decide +kernel
theorem dX13_expression_317 : decode cX13_expression 317 = .ok (.aload_n 0, 1) := by decide +kernel
theorem dX13_expression_318 : decode cX13_expression 318 = .ok (.ldc_w 556, 3) := by decide +kernel
theorem dX13_expression_321 : decode cX13_expression 321 = .ok (.invokevirtual 447, 3) := by decide +kernel
theorem dX13_expression_324 : decode cX13_expression 324 = .ok (.ifCond .eq 55, 3) := by decide +kernel
theorem dX13_expression_379 : decode cX13_expression 379 = .ok (.aload_n 0, 1) := by decide +kernel
theorem dX13_expression_380 : decode cX13_expression 380 = .ok (.ldc_w 558, 3) := by decide +kernel
theorem dX13_expression_383 : decode cX13_expression 383 = .ok (.invokevirtual 447, 3) := by decide +kernel
theorem dX13_expression_386 : decode cX13_expression 386 = .ok (.ifCond .eq 97, 3) := by decide +kernel
theorem dX13_expression_483 : decode cX13_expression 483 = .ok (.aload_n 0, 1) := by decide +kernel
theorem dX13_expression_484 : decode cX13_expression 484 = .ok (.ldc_w 567, 3) := by decide +kernel
theorem dX13_expression_487 : decode cX13_expression 487 = .ok (.invokevirtual 447, 3) := by decide +kernel
theorem dX13_expression_490 : decode cX13_expression 490 = .ok (.ifCond .eq 24, 3) := by decide +kernel
theorem dX13_expression_514 : decode cX13_expression 514 = .ok (.aload_n 0, 1) := by decide +kernel
theorem dX13_expression_515 : decode cX13_expression 515 = .ok (.ldc_w 569, 3) := by decide +kernel
theorem dX13_expression_518 : decode cX13_expression 518 = .ok (.invokevirtual 447, 3) := by decide +kernel
theorem dX13_expression_521 : decode cX13_expression 521 = .ok (.ifCond .eq 14, 3) := by decide +kernel
theorem dX13_expression_535 : decode cX13_expression 535 = .ok (.aload_n 0, 1) := by decide +kernel
theorem dX13_expression_536 : decode cX13_expression 536 = .ok (.ldc_w 571, 3) := by decide +kernel
theorem dX13_expression_539 : decode cX13_expression 539 = .ok (.invokevirtual 447, 3) := by decide +kernel
theorem dX13_expression_542 : decode cX13_expression 542 = .ok (.ifCond .eq 34, 3) := by decide +kernel
theorem dX13_expression_576 : decode cX13_expression 576 = .ok (.aload_n 0, 1) := by decide +kernel
theorem dX13_expression_577 : decode cX13_expression 577 = .ok (.ldc_w 573, 3) := by decide +kernel
theorem dX13_expression_580 : decode cX13_expression 580 = .ok (.invokevirtual 447, 3) := by decide +kernel
theorem dX13_expression_583 : decode cX13_expression 583 = .ok (.ifCond .eq 12, 3) := by decide +kernel
theorem dX13_expression_595 : decode cX13_expression 595 = .ok (.aload_n 0, 1) := by decide +kernel
theorem dX13_expression_596 : decode cX13_expression 596 = .ok (.ldc_w 578, 3) := by decide +kernel
theorem dX13_expression_599 : decode cX13_expression 599 = .ok (.invokevirtual 443, 3) := by decide +kernel
theorem dX13_expression_602 : decode cX13_expression 602 = .ok (.ifCond .ne 13, 3) := by decide +kernel
theorem dX13_expression_605 : decode cX13_expression 605 = .ok (.aload_n 0, 1) := by decide +kernel
theorem dX13_expression_606 : decode cX13_expression 606 = .ok (.ldc_w 580, 3) := by decide +kernel
theorem dX13_expression_609 : decode cX13_expression 609 = .ok (.invokevirtual 443, 3) := by decide +kernel
theorem dX13_expression_612 : decode cX13_expression 612 = .ok (.ifCond .eq 39, 3) := by decide +kernel
theorem dX13_expression_651 : decode cX13_expression 651 = .ok (.aload_n 0, 1) := by decide +kernel
theorem dX13_expression_652 : decode cX13_expression 652 = .ok (.ldc_w 582, 3) := by decide +kernel
theorem dX13_expression_655 : decode cX13_expression 655 = .ok (.invokevirtual 447, 3) := by decide +kernel
theorem dX13_expression_658 : decode cX13_expression 658 = .ok (.ifCond .eq 31, 3) := by decide +kernel
theorem dX13_expression_689 : decode cX13_expression 689 = .ok (.aload_n 0, 1) := by decide +kernel
theorem dX13_expression_690 : decode cX13_expression 690 = .ok (.iload_n 1, 1) := by decide +kernel
theorem dX13_expression_691 : decode cX13_expression 691 = .ok (.invokevirtual 586, 3) := by decide +kernel
theorem dX13_expression_694 : decode cX13_expression 694 = .ok (.istore_n 2, 1) := by decide +kernel
theorem dX13_expression_695 : decode cX13_expression 695 = .ok (.iload_n 2, 1) := by decide +kernel
theorem dX13_expression_696 : decode cX13_expression 696 = .ok (.ireturn, 1) := by decide +kernel
theorem dX13_simple_0 : decode cX13_simple 0 = .ok (.aload_n 0, 1) := by decide +kernel
theorem dX13_simple_1 : decode cX13_simple 1 = .ok (.getfield 19, 3) := by decide +kernel
theorem dX13_simple_4 : decode cX13_simple 4 = .ok (.aload_n 0, 1) := by decide +kernel
theorem dX13_simple_5 : decode cX13_simple 5 = .ok (.getfield 433, 3) := by decide +kernel
theorem dX13_simple_8 : decode cX13_simple 8 = .ok (.iaload, 1) := by decide +kernel
theorem dX13_simple_9 : decode cX13_simple 9 = .ok (.iconst 1, 1) := by decide +kernel
theorem dX13_simple_10 : decode cX13_simple 10 = .ok (.if_icmp .ne 81, 3) := by decide +kernel
theorem dX13_simple_91 : decode cX13_simple 91 = .ok (.aload_n 0, 1) := by decide +kernel
theorem dX13_simple_92 : decode cX13_simple 92 = .ok (.getfield 19, 3) := by decide +kernel
theorem dX13_simple_95 : decode cX13_simple 95 = .ok (.aload_n 0, 1) := by decide +kernel
theorem dX13_simple_96 : decode cX13_simple 96 = .ok (.getfield 433, 3) := by decide +kernel
theorem dX13_simple_99 : decode cX13_simple 99 = .ok (.iaload, 1) := by decide +kernel
theorem dX13_simple_100 : decode cX13_simple 100 = .ok (.iconst 1, 1) := by decide +kernel
theorem dX13_simple_101 : decode cX13_simple 101 = .ok (.if_icmp .ne 38, 3) := by decide +kernel
theorem dX13_simple_139 : decode cX13_simple 139 = .ok (.aload_n 0, 1) := by decide +kernel
theorem dX13_simple_140 : decode cX13_simple 140 = .ok (.bipush 10, 2) := by decide +kernel
theorem dX13_simple_142 : decode cX13_simple 142 = .ok (.iload_n 1, 1) := by decide +kernel
theorem dX13_simple_143 : decode cX13_simple 143 = .ok (.invokevirtual 534, 3) := by decide +kernel
theorem dX13_simple_146 : decode cX13_simple 146 = .ok (.istore_n 2, 1) := by decide +kernel
theorem dX13_simple_147 : decode cX13_simple 147 = .ok (.aload_n 0, 1) := by decide +kernel
theorem dX13_simple_148 : decode cX13_simple 148 = .ok (.getfield 41, 3) := by decide +kernel
theorem dX13_simple_151 : decode cX13_simple 151 = .ok (.iload_n 2, 1) := by decide +kernel
theorem dX13_simple_152 : decode cX13_simple 152 = .ok (.aload_n 0, 1) := by decide +kernel
theorem dX13_simple_153 : decode cX13_simple 153 = .ok (.invokevirtual 562, 3) := by decide +kernel
theorem dX13_simple_156 : decode cX13_simple 156 = .ok (.iastore, 1) := by decide +kernel
theorem dX13_simple_157 : decode cX13_simple 157 = .ok (.aload_n 0, 1) := by decide +kernel
theorem dX13_simple_158 : decode cX13_simple 158 = .ok (.ldc_w 508, 3) := by decide +kernel
theorem dX13_simple_161 : decode cX13_simple 161 = .ok (.invokevirtual 443, 3) := by decide +kernel
theorem dX13_simple_164 : decode cX13_simple 164 = .ok (.ifCond .ne 23, 3) := by decide +kernel
theorem dX13_simple_167 : decode cX13_simple 167 = .ok (.aload_n 0, 1) := by decide +kernel
theorem dX13_simple_168 : decode cX13_simple 168 = .ok (.ldc_w 598, 3) := by decide +kernel
theorem dX13_simple_171 : decode cX13_simple 171 = .ok (.invokevirtual 443, 3) := by decide +kernel
theorem dX13_simple_174 : decode cX13_simple 174 = .ok (.ifCond .ne 13, 3) := by decide +kernel
theorem dX13_simple_177 : decode cX13_simple 177 = .ok (.aload_n 0, 1) := by decide +kernel
theorem dX13_simple_178 : decode cX13_simple 178 = .ok (.ldc_w 600, 3) := by decide +kernel
theorem dX13_simple_181 : decode cX13_simple 181 = .ok (.invokevirtual 443, 3) := by decide +kernel
theorem dX13_simple_184 : decode cX13_simple 184 = .ok (.ifCond .eq 76, 3) := by decide +kernel
theorem dX13_simple_260 : decode cX13_simple 260 = .ok (.iload_n 2, 1) := by decide +kernel
theorem dX13_simple_261 : decode cX13_simple 261 = .ok (.ireturn, 1) := by decide +kernel
theorem dX13_sum_0 : decode cX13_sum 0 = .ok (.aload_n 0, 1) := by decide +kernel
theorem dX13_sum_1 : decode cX13_sum 1 = .ok (.getfield 469, 3) := by decide +kernel
theorem dX13_sum_4 : decode cX13_sum 4 = .ok (.istore_n 1, 1) := by decide +kernel
theorem dX13_sum_5 : decode cX13_sum 5 = .ok (.aload_n 0, 1) := by decide +kernel
theorem dX13_sum_6 : decode cX13_sum 6 = .ok (.dup, 1) := by decide +kernel
theorem dX13_sum_7 : decode cX13_sum 7 = .ok (.getfield 469, 3) := by decide +kernel
theorem dX13_sum_10 : decode cX13_sum 10 = .ok (.iconst 1, 1) := by decide +kernel
theorem dX13_sum_11 : decode cX13_sum 11 = .ok (.iadd, 1) := by decide +kernel
theorem dX13_sum_12 : decode cX13_sum 12 = .ok (.putfield 469, 3) := by decide +kernel
theorem dX13_sum_15 : decode cX13_sum 15 = .ok (.aload_n 0, 1) := by decide +kernel
theorem dX13_sum_16 : decode cX13_sum 16 = .ok (.getfield 56, 3) := by decide +kernel
theorem dX13_sum_19 : decode cX13_sum 19 = .ok (.iload_n 1, 1) := by decide +kernel
theorem dX13_sum_20 : decode cX13_sum 20 = .ok (.aload_n 0, 1) := by decide +kernel
theorem dX13_sum_21 : decode cX13_sum 21 = .ok (.getfield 23, 3) := by decide +kernel
theorem dX13_sum_24 : decode cX13_sum 24 = .ok (.aload_n 0, 1) := by decide +kernel
theorem dX13_sum_25 : decode cX13_sum 25 = .ok (.getfield 433, 3) := by decide +kernel
theorem dX13_sum_28 : decode cX13_sum 28 = .ok (.iaload, 1) := by decide +kernel
theorem dX13_sum_29 : decode cX13_sum 29 = .ok (.iastore, 1) := by decide +kernel
theorem dX13_sum_30 : decode cX13_sum 30 = .ok (.aload_n 0, 1) := by decide +kernel
theorem dX13_sum_31 : decode cX13_sum 31 = .ok (.getfield 50, 3) := by decide +kernel
theorem dX13_sum_34 : decode cX13_sum 34 = .ok (.iload_n 1, 1) := by decide +kernel
theorem dX13_sum_35 : decode cX13_sum 35 = .ok (.aload_n 0, 1) := by decide +kernel
theorem dX13_sum_36 : decode cX13_sum 36 = .ok (.getfield 472, 3) := by decide +kernel
theorem dX13_sum_39 : decode cX13_sum 39 = .ok (.iastore, 1) := by decide +kernel
theorem dX13_sum_40 : decode cX13_sum 40 = .ok (.aload_n 0, 1) := by decide +kernel
theorem dX13_sum_41 : decode cX13_sum 41 = .ok (.ldc_w 506, 3) := by decide +kernel
theorem dX13_sum_44 : decode cX13_sum 44 = .ok (.invokevirtual 447, 3) := by decide +kernel
theorem dX13_sum_47 : decode cX13_sum 47 = .ok (.ifCond .eq 7, 3) := by decide +kernel
theorem dX13_sum_54 : decode cX13_sum 54 = .ok (.iconst 1, 1) := by decide +kernel
theorem dX13_sum_55 : decode cX13_sum 55 = .ok (.istore_n 2, 1) := by decide +kernel
theorem dX13_sum_56 : decode cX13_sum 56 = .ok (.aload_n 0, 1) := by decide +kernel
theorem dX13_sum_57 : decode cX13_sum 57 = .ok (.iload_n 2, 1) := by decide +kernel
theorem dX13_sum_58 : decode cX13_sum 58 = .ok (.invokevirtual 605, 3) := by decide +kernel
theorem dX13_sum_61 : decode cX13_sum 61 = .ok (.aload_n 0, 1) := by decide +kernel
theorem dX13_sum_62 : decode cX13_sum 62 = .ok (.ldc_w 510, 3) := by decide +kernel
theorem dX13_sum_65 : decode cX13_sum 65 = .ok (.invokevirtual 443, 3) := by decide +kernel
theorem dX13_sum_68 : decode cX13_sum 68 = .ok (.ifCond .ne 13, 3) := by decide +kernel
theorem dX13_sum_71 : decode cX13_sum 71 = .ok (.aload_n 0, 1) := by decide +kernel
theorem dX13_sum_72 : decode cX13_sum 72 = .ok (.ldc_w 506, 3) := by decide +kernel
theorem dX13_sum_75 : decode cX13_sum 75 = .ok (.invokevirtual 443, 3) := by decide +kernel
theorem dX13_sum_78 : decode cX13_sum 78 = .ok (.ifCond .eq 37, 3) := by decide +kernel
theorem dX13_sum_115 : decode cX13_sum 115 = .ok (.aload_n 0, 1) := by decide +kernel
theorem dX13_sum_116 : decode cX13_sum 116 = .ok (.getfield 53, 3) := by decide +kernel
theorem dX13_sum_119 : decode cX13_sum 119 = .ok (.iload_n 1, 1) := by decide +kernel
theorem dX13_sum_120 : decode cX13_sum 120 = .ok (.aload_n 0, 1) := by decide +kernel
theorem dX13_sum_121 : decode cX13_sum 121 = .ok (.getfield 472, 3) := by decide +kernel
theorem dX13_sum_124 : decode cX13_sum 124 = .ok (.iastore, 1) := by decide +kernel
theorem dX13_sum_125 : decode cX13_sum 125 = .ok (.iload_n 1, 1) := by decide +kernel
theorem dX13_sum_126 : decode cX13_sum 126 = .ok (.ireturn, 1) := by decide +kernel
theorem dX13_part_0 : decode cX13_part 0 = .ok (.aload_n 0, 1) := by decide +kernel
theorem dX13_part_1 : decode cX13_part 1 = .ok (.getfield 392, 3) := by decide +kernel
theorem dX13_part_4 : decode cX13_part 4 = .ok (.ifCond .eq 4, 3) := by decide +kernel
theorem dX13_part_8 : decode cX13_part 8 = .ok (.iconst 1, 1) := by decide +kernel
theorem dX13_part_9 : decode cX13_part 9 = .ok (.istore_n 2, 1) := by decide +kernel
theorem dX13_part_10 : decode cX13_part 10 = .ok (.aload_n 0, 1) := by decide +kernel
theorem dX13_part_11 : decode cX13_part 11 = .ok (.ldc_w 609, 3) := by decide +kernel
theorem dX13_part_14 : decode cX13_part 14 = .ok (.invokevirtual 447, 3) := by decide +kernel
theorem dX13_part_17 : decode cX13_part 17 = .ok (.ifCond .eq 8, 3) := by decide +kernel
theorem dX13_part_25 : decode cX13_part 25 = .ok (.aload_n 0, 1) := by decide +kernel
theorem dX13_part_26 : decode cX13_part 26 = .ok (.ldc_w 611, 3) := by decide +kernel
theorem dX13_part_29 : decode cX13_part 29 = .ok (.invokevirtual 447, 3) := by decide +kernel
theorem dX13_part_32 : decode cX13_part 32 = .ok (.ifCond .eq 8, 3) := by decide +kernel
theorem dX13_part_40 : decode cX13_part 40 = .ok (.aload_n 0, 1) := by decide +kernel
theorem dX13_part_41 : decode cX13_part 41 = .ok (.getfield 19, 3) := by decide +kernel
theorem dX13_part_44 : decode cX13_part 44 = .ok (.aload_n 0, 1) := by decide +kernel
theorem dX13_part_45 : decode cX13_part 45 = .ok (.getfield 433, 3) := by decide +kernel
theorem dX13_part_48 : decode cX13_part 48 = .ok (.iaload, 1) := by decide +kernel
theorem dX13_part_49 : decode cX13_part 49 = .ok (.iconst 2, 1) := by decide +kernel
theorem dX13_part_50 : decode cX13_part 50 = .ok (.if_icmp .ne 5, 3) := by decide +kernel
theorem dX13_part_55 : decode cX13_part 55 = .ok (.iload_n 2, 1) := by decide +kernel
theorem dX13_part_56 : decode cX13_part 56 = .ok (.ifCond .le 21, 3) := by decide +kernel
theorem dX13_part_59 : decode cX13_part 59 = .ok (.aload_n 0, 1) := by decide +kernel
theorem dX13_part_60 : decode cX13_part 60 = .ok (.getfield 19, 3) := by decide +kernel
theorem dX13_part_63 : decode cX13_part 63 = .ok (.aload_n 0, 1) := by decide +kernel
theorem dX13_part_64 : decode cX13_part 64 = .ok (.getfield 433, 3) := by decide +kernel
theorem dX13_part_67 : decode cX13_part 67 = .ok (.iaload, 1) := by decide +kernel
theorem dX13_part_68 : decode cX13_part 68 = .ok (.iconst 1, 1) := by decide +kernel
theorem dX13_part_69 : decode cX13_part 69 = .ok (.if_icmp .eq 8, 3) := by decide +kernel
theorem dX13_part_72 : decode cX13_part 72 = .ok (.aload_n 0, 1) := by decide +kernel
theorem dX13_part_73 : decode cX13_part 73 = .ok (.invokevirtual 450, 3) := by decide +kernel
theorem dX13_part_76 : decode cX13_part 76 = .ok (.return_, 1) := by decide +kernel
theorem dX13_compile_0 : decode cX13_compile 0 = .ok (.aload_n 0, 1) := by decide +kernel
theorem dX13_compile_1 : decode cX13_compile 1 = .ok (.aload_n 0, 1) := by decide +kernel
theorem dX13_compile_2 : decode cX13_compile 2 = .ok (.getfield 386, 3) := by decide +kernel
theorem dX13_compile_5 : decode cX13_compile 5 = .ok (.putfield 412, 3) := by decide +kernel
theorem dX13_compile_8 : decode cX13_compile 8 = .ok (.aload_n 0, 1) := by decide +kernel
theorem dX13_compile_9 : decode cX13_compile 9 = .ok (.iconst 0, 1) := by decide +kernel
theorem dX13_compile_10 : decode cX13_compile 10 = .ok (.putfield 386, 3) := by decide +kernel
theorem dX13_compile_13 : decode cX13_compile 13 = .ok (.iconst 0, 1) := by decide +kernel
theorem dX13_compile_14 : decode cX13_compile 14 = .ok (.istore_n 1, 1) := by decide +kernel
theorem dX13_compile_15 : decode cX13_compile 15 = .ok (.iload_n 1, 1) := by decide +kernel
theorem dX13_compile_16 : decode cX13_compile 16 = .ok (.aload_n 0, 1) := by decide +kernel
theorem dX13_compile_17 : decode cX13_compile 17 = .ok (.getfield 412, 3) := by decide +kernel
theorem dX13_compile_20 : decode cX13_compile 20 = .ok (.if_icmp .ge 21, 3) := by decide +kernel
theorem dX13_compile_41 : decode cX13_compile 41 = .ok (.aload_n 0, 1) := by decide +kernel
theorem dX13_compile_42 : decode cX13_compile 42 = .ok (.iconst 0, 1) := by decide +kernel
theorem dX13_compile_43 : decode cX13_compile 43 = .ok (.putfield 750, 3) := by decide +kernel
theorem dX13_compile_46 : decode cX13_compile 46 = .ok (.aload_n 0, 1) := by decide +kernel
theorem dX13_compile_47 : decode cX13_compile 47 = .ok (.iconst 0, 1) := by decide +kernel
theorem dX13_compile_48 : decode cX13_compile 48 = .ok (.putfield 754, 3) := by decide +kernel
theorem dX13_compile_51 : decode cX13_compile 51 = .ok (.aload_n 0, 1) := by decide +kernel
theorem dX13_compile_52 : decode cX13_compile 52 = .ok (.iconst (-1), 1) := by decide +kernel
theorem dX13_compile_53 : decode cX13_compile 53 = .ok (.putfield 137, 3) := by decide +kernel
theorem dX13_compile_56 : decode cX13_compile 56 = .ok (.aload_n 0, 1) := by decide +kernel
theorem dX13_compile_57 : decode cX13_compile 57 = .ok (.iconst 0, 1) := by decide +kernel
theorem dX13_compile_58 : decode cX13_compile 58 = .ok (.putfield 757, 3) := by decide +kernel
theorem dX13_compile_61 : decode cX13_compile 61 = .ok (.aload_n 0, 1) := by decide +kernel
theorem dX13_compile_62 : decode cX13_compile 62 = .ok (.iconst 0, 1) := by decide +kernel
theorem dX13_compile_63 : decode cX13_compile 63 = .ok (.putfield 392, 3) := by decide +kernel
theorem dX13_compile_66 : decode cX13_compile 66 = .ok (.aload_n 0, 1) := by decide +kernel
theorem dX13_compile_67 : decode cX13_compile 67 = .ok (.invokevirtual 760, 3) := by decide +kernel
theorem dX13_compile_70 : decode cX13_compile 70 = .ok (.aload_n 0, 1) := by decide +kernel
theorem dX13_compile_71 : decode cX13_compile 71 = .ok (.getfield 392, 3) := by decide +kernel
theorem dX13_compile_74 : decode cX13_compile 74 = .ok (.ifCond .ne 7, 3) := by decide +kernel
theorem dX13_compile_77 : decode cX13_compile 77 = .ok (.aload_n 0, 1) := by decide +kernel
theorem dX13_compile_78 : decode cX13_compile 78 = .ok (.invokevirtual 763, 3) := by decide +kernel
theorem dX13_compile_81 : decode cX13_compile 81 = .ok (.aload_n 0, 1) := by decide +kernel
theorem dX13_compile_82 : decode cX13_compile 82 = .ok (.getfield 392, 3) := by decide +kernel
theorem dX13_compile_85 : decode cX13_compile 85 = .ok (.ifCond .ne 7, 3) := by decide +kernel
theorem dX13_compile_92 : decode cX13_compile 92 = .ok (.aload_n 0, 1) := by decide +kernel
theorem dX13_compile_93 : decode cX13_compile 93 = .ok (.getfield 392, 3) := by decide +kernel
theorem dX13_compile_96 : decode cX13_compile 96 = .ok (.ifCond .eq 16, 3) := by decide +kernel
theorem dX13_compile_99 : decode cX13_compile 99 = .ok (.aload_n 0, 1) := by decide +kernel
theorem dX13_compile_100 : decode cX13_compile 100 = .ok (.aload_n 0, 1) := by decide +kernel
theorem dX13_compile_101 : decode cX13_compile 101 = .ok (.getfield 395, 3) := by decide +kernel
theorem dX13_compile_104 : decode cX13_compile 104 = .ok (.putfield 137, 3) := by decide +kernel
theorem dX13_compile_107 : decode cX13_compile 107 = .ok (.aload_n 0, 1) := by decide +kernel
theorem dX13_compile_108 : decode cX13_compile 108 = .ok (.getfield 392, 3) := by decide +kernel
theorem dX13_compile_111 : decode cX13_compile 111 = .ok (.ireturn, 1) := by decide +kernel
