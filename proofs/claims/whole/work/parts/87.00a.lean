theorem dX0_init_0 : decode cX0_init 0 = .ok (.aload_n 0, 1) := by decide +kernel
theorem dX0_init_1 : decode cX0_init 1 = .ok (.invokespecial 3, 3) := by decide +kernel
theorem dX0_init_4 : decode cX0_init 4 = .ok (.aload_n 0, 1) := by decide +kernel
theorem dX0_init_5 : decode cX0_init 5 = .ok (.new 9, 3) := by decide +kernel
theorem dX0_init_8 : decode cX0_init 8 = .ok (.dup, 1) := by decide +kernel
theorem dX0_init_9 : decode cX0_init 9 = .ok (.invokespecial 11, 3) := by decide +kernel
theorem dX0_init_12 : decode cX0_init 12 = .ok (.putfield 12, 3) := by decide +kernel
theorem dX0_init_15 : decode cX0_init 15 = .ok (.aload_n 0, 1) := by decide +kernel
theorem dX0_init_16 : decode cX0_init 16 = .ok (.new 9, 3) := by decide +kernel
theorem dX0_init_19 : decode cX0_init 19 = .ok (.dup, 1) := by decide +kernel
theorem dX0_init_20 : decode cX0_init 20 = .ok (.invokespecial 11, 3) := by decide +kernel
theorem dX0_init_23 : decode cX0_init 23 = .ok (.putfield 18, 3) := by decide +kernel
theorem dX0_init_26 : decode cX0_init 26 = .ok (.aload_n 0, 1) := by decide +kernel
theorem dX0_init_27 : decode cX0_init 27 = .ok (.new 9, 3) := by decide +kernel
theorem dX0_init_30 : decode cX0_init 30 = .ok (.dup, 1) := by decide +kernel
theorem dX0_init_31 : decode cX0_init 31 = .ok (.invokespecial 11, 3) := by decide +kernel
theorem dX0_init_34 : decode cX0_init 34 = .ok (.putfield 21, 3) := by decide +kernel
theorem dX0_init_37 : decode cX0_init 37 = .ok (.aload_n 0, 1) := by decide +kernel
theorem dX0_init_38 : decode cX0_init 38 = .ok (.new 9, 3) := by decide +kernel
theorem dX0_init_41 : decode cX0_init 41 = .ok (.dup, 1) := by decide +kernel
theorem dX0_init_42 : decode cX0_init 42 = .ok (.invokespecial 11, 3) := by decide +kernel
theorem dX0_init_45 : decode cX0_init 45 = .ok (.putfield 24, 3) := by decide +kernel
theorem dX0_init_48 : decode cX0_init 48 = .ok (.aload_n 0, 1) := by decide +kernel
theorem dX0_init_49 : decode cX0_init 49 = .ok (.bipush 73, 2) := by decide +kernel
theorem dX0_init_51 : decode cX0_init 51 = .ok (.anewarray 27, 3) := by decide +kernel
theorem dX0_init_54 : decode cX0_init 54 = .ok (.putfield 29, 3) := by decide +kernel
theorem dX0_init_57 : decode cX0_init 57 = .ok (.aload_n 0, 1) := by decide +kernel
theorem dX0_init_58 : decode cX0_init 58 = .ok (.iconst (-1), 1) := by decide +kernel
theorem dX0_init_59 : decode cX0_init 59 = .ok (.putfield 33, 3) := by decide +kernel
theorem dX0_init_62 : decode cX0_init 62 = .ok (.aload_n 0, 1) := by decide +kernel
theorem dX0_init_63 : decode cX0_init 63 = .ok (.aload_n 1, 1) := by decide +kernel
theorem dX0_init_64 : decode cX0_init 64 = .ok (.putfield 37, 3) := by decide +kernel
theorem dX0_init_67 : decode cX0_init 67 = .ok (.aload_n 0, 1) := by decide +kernel
theorem dX0_init_68 : decode cX0_init 68 = .ok (.aload_n 2, 1) := by decide +kernel
theorem dX0_init_69 : decode cX0_init 69 = .ok (.putfield 41, 3) := by decide +kernel
theorem dX0_init_72 : decode cX0_init 72 = .ok (.aload_n 0, 1) := by decide +kernel
theorem dX0_init_73 : decode cX0_init 73 = .ok (.aload_n 3, 1) := by decide +kernel
theorem dX0_init_74 : decode cX0_init 74 = .ok (.putfield 45, 3) := by decide +kernel
theorem dX0_init_77 : decode cX0_init 77 = .ok (.return_, 1) := by decide +kernel
theorem dX0_plain_0 : decode cX0_plain 0 = .ok (.aload_n 0, 1) := by decide +kernel
theorem dX0_plain_1 : decode cX0_plain 1 = .ok (.getfield 143, 3) := by decide +kernel
theorem dX0_plain_4 : decode cX0_plain 4 = .ok (.lookupswitch 211 #[(37, 149), (42, 131), (203, 115), (205, 76), (215, 101), (216, 87), (223, 76), (400, 157)], 76) := by decide +kernel
theorem dX0_plain_80 : decode cX0_plain 80 = .ok (.new 61, 3) := by decide +kernel
theorem dX0_plain_83 : decode cX0_plain 83 = .ok (.dup, 1) := by decide +kernel
theorem dX0_plain_84 : decode cX0_plain 84 = .ok (.sipush 202, 3) := by decide +kernel
theorem dX0_plain_87 : decode cX0_plain 87 = .ok (.invokespecial 66, 3) := by decide +kernel
theorem dX0_plain_90 : decode cX0_plain 90 = .ok (.areturn, 1) := by decide +kernel
theorem dX0_plain_91 : decode cX0_plain 91 = .ok (.sipush 213, 3) := by decide +kernel
theorem dX0_plain_94 : decode cX0_plain 94 = .ok (.new 177, 3) := by decide +kernel
theorem dX0_plain_97 : decode cX0_plain 97 = .ok (.dup, 1) := by decide +kernel
theorem dX0_plain_98 : decode cX0_plain 98 = .ok (.invokespecial 179, 3) := by decide +kernel
theorem dX0_plain_101 : decode cX0_plain 101 = .ok (.invokestatic 180, 3) := by decide +kernel
theorem dX0_plain_104 : decode cX0_plain 104 = .ok (.areturn, 1) := by decide +kernel
theorem dX0_plain_105 : decode cX0_plain 105 = .ok (.sipush 200, 3) := by decide +kernel
theorem dX0_plain_108 : decode cX0_plain 108 = .ok (.aload_n 0, 1) := by decide +kernel
theorem dX0_plain_109 : decode cX0_plain 109 = .ok (.getfield 184, 3) := by decide +kernel
theorem dX0_plain_112 : decode cX0_plain 112 = .ok (.getfield 187, 3) := by decide +kernel
theorem dX0_plain_115 : decode cX0_plain 115 = .ok (.invokestatic 180, 3) := by decide +kernel
theorem dX0_plain_118 : decode cX0_plain 118 = .ok (.areturn, 1) := by decide +kernel
theorem dX0_plain_119 : decode cX0_plain 119 = .ok (.sipush 213, 3) := by decide +kernel
theorem dX0_plain_122 : decode cX0_plain 122 = .ok (.aload_n 0, 1) := by decide +kernel
theorem dX0_plain_123 : decode cX0_plain 123 = .ok (.getfield 191, 3) := by decide +kernel
theorem dX0_plain_126 : decode cX0_plain 126 = .ok (.iconst 1, 1) := by decide +kernel
theorem dX0_plain_127 : decode cX0_plain 127 = .ok (.lconst 1, 1) := by decide +kernel
theorem dX0_plain_128 : decode cX0_plain 128 = .ok (.invokestatic 192, 3) := by decide +kernel
theorem dX0_plain_131 : decode cX0_plain 131 = .ok (.invokestatic 180, 3) := by decide +kernel
theorem dX0_plain_134 : decode cX0_plain 134 = .ok (.areturn, 1) := by decide +kernel
theorem dX0_plain_135 : decode cX0_plain 135 = .ok (.aload_n 0, 1) := by decide +kernel
theorem dX0_plain_136 : decode cX0_plain 136 = .ok (.getfield 184, 3) := by decide +kernel
theorem dX0_plain_139 : decode cX0_plain 139 = .ok (.getfield 187, 3) := by decide +kernel
theorem dX0_plain_142 : decode cX0_plain 142 = .ok (.aload_n 0, 1) := by decide +kernel
theorem dX0_plain_143 : decode cX0_plain 143 = .ok (.getfield 195, 3) := by decide +kernel
theorem dX0_plain_146 : decode cX0_plain 146 = .ok (.getfield 187, 3) := by decide +kernel
theorem dX0_plain_149 : decode cX0_plain 149 = .ok (.invokestatic 198, 3) := by decide +kernel
theorem dX0_plain_152 : decode cX0_plain 152 = .ok (.areturn, 1) := by decide +kernel
theorem dX0_plain_153 : decode cX0_plain 153 = .ok (.aload_n 0, 1) := by decide +kernel
theorem dX0_plain_154 : decode cX0_plain 154 = .ok (.getfield 195, 3) := by decide +kernel
theorem dX0_plain_157 : decode cX0_plain 157 = .ok (.invokestatic 202, 3) := by decide +kernel
theorem dX0_plain_160 : decode cX0_plain 160 = .ok (.areturn, 1) := by decide +kernel
theorem dX0_plain_161 : decode cX0_plain 161 = .ok (.aload_n 0, 1) := by decide +kernel
theorem dX0_plain_162 : decode cX0_plain 162 = .ok (.getfield 205, 3) := by decide +kernel
theorem dX0_plain_165 : decode cX0_plain 165 = .ok (.iconst 1, 1) := by decide +kernel
theorem dX0_plain_166 : decode cX0_plain 166 = .ok (.if_icmp .ne 38, 3) := by decide +kernel
theorem dX0_plain_169 : decode cX0_plain 169 = .ok (.aload_n 0, 1) := by decide +kernel
theorem dX0_plain_170 : decode cX0_plain 170 = .ok (.getfield 191, 3) := by decide +kernel
theorem dX0_plain_173 : decode cX0_plain 173 = .ok (.invokevirtual 208, 3) := by decide +kernel
theorem dX0_plain_176 : decode cX0_plain 176 = .ok (.ifCond .eq 20, 3) := by decide +kernel
theorem dX0_plain_179 : decode cX0_plain 179 = .ok (.aload_n 0, 1) := by decide +kernel
theorem dX0_plain_180 : decode cX0_plain 180 = .ok (.getfield 191, 3) := by decide +kernel
theorem dX0_plain_183 : decode cX0_plain 183 = .ok (.getfield 63, 3) := by decide +kernel
theorem dX0_plain_186 : decode cX0_plain 186 = .ok (.aload_n 0, 1) := by decide +kernel
theorem dX0_plain_187 : decode cX0_plain 187 = .ok (.getfield 187, 3) := by decide +kernel
theorem dX0_plain_190 : decode cX0_plain 190 = .ok (.invokestatic 180, 3) := by decide +kernel
theorem dX0_plain_193 : decode cX0_plain 193 = .ok (.goto 10, 3) := by decide +kernel
theorem dX0_plain_196 : decode cX0_plain 196 = .ok (.aload_n 0, 1) := by decide +kernel
theorem dX0_plain_197 : decode cX0_plain 197 = .ok (.getfield 191, 3) := by decide +kernel
theorem dX0_plain_200 : decode cX0_plain 200 = .ok (.getfield 69, 3) := by decide +kernel
theorem dX0_plain_203 : decode cX0_plain 203 = .ok (.areturn, 1) := by decide +kernel
theorem dX0_plain_204 : decode cX0_plain 204 = .ok (.sipush 210, 3) := by decide +kernel
theorem dX0_plain_207 : decode cX0_plain 207 = .ok (.aload_n 0, 1) := by decide +kernel
theorem dX0_plain_208 : decode cX0_plain 208 = .ok (.getfield 187, 3) := by decide +kernel
theorem dX0_plain_211 : decode cX0_plain 211 = .ok (.invokestatic 180, 3) := by decide +kernel
theorem dX0_plain_214 : decode cX0_plain 214 = .ok (.areturn, 1) := by decide +kernel
theorem dX0_plain_215 : decode cX0_plain 215 = .ok (.new 61, 3) := by decide +kernel
theorem dX0_plain_218 : decode cX0_plain 218 = .ok (.dup, 1) := by decide +kernel
theorem dX0_plain_219 : decode cX0_plain 219 = .ok (.sipush 210, 3) := by decide +kernel
theorem dX0_plain_222 : decode cX0_plain 222 = .ok (.invokespecial 66, 3) := by decide +kernel
theorem dX0_plain_225 : decode cX0_plain 225 = .ok (.areturn, 1) := by decide +kernel
theorem dX0_product_0 : decode cX0_product 0 = .ok (.aload_n 0, 1) := by decide +kernel
theorem dX0_product_1 : decode cX0_product 1 = .ok (.getfield 212, 3) := by decide +kernel
theorem dX0_product_4 : decode cX0_product 4 = .ok (.ifCond .ne 14, 3) := by decide +kernel
theorem dX0_product_7 : decode cX0_product 7 = .ok (.aload_n 1, 1) := by decide +kernel
theorem dX0_product_8 : decode cX0_product 8 = .ok (.getfield 212, 3) := by decide +kernel
theorem dX0_product_11 : decode cX0_product 11 = .ok (.ifCond .ne 7, 3) := by decide +kernel
theorem dX0_product_14 : decode cX0_product 14 = .ok (.iconst 1, 1) := by decide +kernel
theorem dX0_product_15 : decode cX0_product 15 = .ok (.goto 4, 3) := by decide +kernel
theorem dX0_product_18 : decode cX0_product 18 = .ok (.iconst 0, 1) := by decide +kernel
theorem dX0_product_19 : decode cX0_product 19 = .ok (.istore_n 2, 1) := by decide +kernel
theorem dX0_product_20 : decode cX0_product 20 = .ok (.sipush 210, 3) := by decide +kernel
theorem dX0_product_23 : decode cX0_product 23 = .ok (.iload_n 2, 1) := by decide +kernel
theorem dX0_product_24 : decode cX0_product 24 = .ok (.ifCond .eq 20, 3) := by decide +kernel
theorem dX0_product_27 : decode cX0_product 27 = .ok (.aconst_null, 1) := by decide +kernel
theorem dX0_product_28 : decode cX0_product 28 = .ok (.iconst 0, 1) := by decide +kernel
theorem dX0_product_29 : decode cX0_product 29 = .ok (.aload_n 0, 1) := by decide +kernel
theorem dX0_product_30 : decode cX0_product 30 = .ok (.getfield 213, 3) := by decide +kernel
theorem dX0_product_33 : decode cX0_product 33 = .ok (.aload_n 1, 1) := by decide +kernel
theorem dX0_product_34 : decode cX0_product 34 = .ok (.getfield 213, 3) := by decide +kernel
theorem dX0_product_37 : decode cX0_product 37 = .ok (.lmul, 1) := by decide +kernel
theorem dX0_product_38 : decode cX0_product 38 = .ok (.invokestatic 192, 3) := by decide +kernel
theorem dX0_product_41 : decode cX0_product 41 = .ok (.goto 4, 3) := by decide +kernel
theorem dX0_product_44 : decode cX0_product 44 = .ok (.aconst_null, 1) := by decide +kernel
theorem dX0_product_45 : decode cX0_product 45 = .ok (.invokestatic 180, 3) := by decide +kernel
theorem dX0_product_48 : decode cX0_product 48 = .ok (.areturn, 1) := by decide +kernel
theorem dX0_remainder_0 : decode cX0_remainder 0 = .ok (.new 61, 3) := by decide +kernel
theorem dX0_remainder_3 : decode cX0_remainder 3 = .ok (.dup, 1) := by decide +kernel
theorem dX0_remainder_4 : decode cX0_remainder 4 = .ok (.sipush 210, 3) := by decide +kernel
theorem dX0_remainder_7 : decode cX0_remainder 7 = .ok (.invokespecial 66, 3) := by decide +kernel
theorem dX0_remainder_10 : decode cX0_remainder 10 = .ok (.astore_n 1, 1) := by decide +kernel
theorem dX0_remainder_11 : decode cX0_remainder 11 = .ok (.aload_n 0, 1) := by decide +kernel
theorem dX0_remainder_12 : decode cX0_remainder 12 = .ok (.getfield 205, 3) := by decide +kernel
theorem dX0_remainder_15 : decode cX0_remainder 15 = .ok (.iconst 2, 1) := by decide +kernel
theorem dX0_remainder_16 : decode cX0_remainder 16 = .ok (.if_icmp .ne 44, 3) := by decide +kernel
theorem dX0_remainder_19 : decode cX0_remainder 19 = .ok (.aload_n 0, 1) := by decide +kernel
theorem dX0_remainder_20 : decode cX0_remainder 20 = .ok (.getfield 187, 3) := by decide +kernel
theorem dX0_remainder_23 : decode cX0_remainder 23 = .ok (.getfield 213, 3) := by decide +kernel
theorem dX0_remainder_26 : decode cX0_remainder 26 = .ok (.lconst 0, 1) := by decide +kernel
theorem dX0_remainder_27 : decode cX0_remainder 27 = .ok (.lcmp, 1) := by decide +kernel
theorem dX0_remainder_28 : decode cX0_remainder 28 = .ok (.ifCond .le 32, 3) := by decide +kernel
theorem dX0_remainder_31 : decode cX0_remainder 31 = .ok (.aload_n 1, 1) := by decide +kernel
theorem dX0_remainder_32 : decode cX0_remainder 32 = .ok (.iconst 2, 1) := by decide +kernel
theorem dX0_remainder_33 : decode cX0_remainder 33 = .ok (.invokevirtual 217, 3) := by decide +kernel
theorem dX0_remainder_36 : decode cX0_remainder 36 = .ok (.aload_n 1, 1) := by decide +kernel
theorem dX0_remainder_37 : decode cX0_remainder 37 = .ok (.sipush 301, 3) := by decide +kernel
theorem dX0_remainder_40 : decode cX0_remainder 40 = .ok (.new 177, 3) := by decide +kernel
theorem dX0_remainder_43 : decode cX0_remainder 43 = .ok (.dup, 1) := by decide +kernel
theorem dX0_remainder_44 : decode cX0_remainder 44 = .ok (.invokespecial 179, 3) := by decide +kernel
theorem dX0_remainder_47 : decode cX0_remainder 47 = .ok (.invokevirtual 220, 3) := by decide +kernel
theorem dX0_remainder_50 : decode cX0_remainder 50 = .ok (.aload_n 1, 1) := by decide +kernel
theorem dX0_remainder_51 : decode cX0_remainder 51 = .ok (.bipush 60, 2) := by decide +kernel
theorem dX0_remainder_53 : decode cX0_remainder 53 = .ok (.aload_n 0, 1) := by decide +kernel
theorem dX0_remainder_54 : decode cX0_remainder 54 = .ok (.getfield 187, 3) := by decide +kernel
theorem dX0_remainder_57 : decode cX0_remainder 57 = .ok (.invokevirtual 220, 3) := by decide +kernel
theorem dX0_remainder_60 : decode cX0_remainder 60 = .ok (.aload_n 1, 1) := by decide +kernel
theorem dX0_remainder_61 : decode cX0_remainder 61 = .ok (.areturn, 1) := by decide +kernel
theorem dX0_fit_0 : decode cX0_fit 0 = .ok (.aload_n 1, 1) := by decide +kernel
theorem dX0_fit_1 : decode cX0_fit 1 = .ok (.astore 4, 2) := by decide +kernel
theorem dX0_fit_3 : decode cX0_fit 3 = .ok (.aload_n 2, 1) := by decide +kernel
theorem dX0_fit_4 : decode cX0_fit 4 = .ok (.astore 5, 2) := by decide +kernel
theorem dX0_fit_6 : decode cX0_fit 6 = .ok (.aload_n 3, 1) := by decide +kernel
theorem dX0_fit_7 : decode cX0_fit 7 = .ok (.astore 6, 2) := by decide +kernel
theorem dX0_fit_9 : decode cX0_fit 9 = .ok (.iconst 0, 1) := by decide +kernel
theorem dX0_fit_10 : decode cX0_fit 10 = .ok (.istore 7, 2) := by decide +kernel
theorem dX0_fit_12 : decode cX0_fit 12 = .ok (.iload 7, 2) := by decide +kernel
theorem dX0_fit_14 : decode cX0_fit 14 = .ok (.bipush 60, 2) := by decide +kernel
theorem dX0_fit_16 : decode cX0_fit 16 = .ok (.if_icmp .gt 130, 3) := by decide +kernel
theorem dX0_fit_19 : decode cX0_fit 19 = .ok (.aload 4, 2) := by decide +kernel
theorem dX0_fit_21 : decode cX0_fit 21 = .ok (.getfield 257, 3) := by decide +kernel
theorem dX0_fit_24 : decode cX0_fit 24 = .ok (.sipush 206, 3) := by decide +kernel
theorem dX0_fit_27 : decode cX0_fit 27 = .ok (.if_icmp .ne 119, 3) := by decide +kernel
theorem dX0_fit_30 : decode cX0_fit 30 = .ok (.aload 5, 2) := by decide +kernel
theorem dX0_fit_32 : decode cX0_fit 32 = .ok (.getfield 257, 3) := by decide +kernel
theorem dX0_fit_35 : decode cX0_fit 35 = .ok (.sipush 206, 3) := by decide +kernel
theorem dX0_fit_38 : decode cX0_fit 38 = .ok (.if_icmp .ne 108, 3) := by decide +kernel
theorem dX0_fit_41 : decode cX0_fit 41 = .ok (.aload 5, 2) := by decide +kernel
theorem dX0_fit_43 : decode cX0_fit 43 = .ok (.invokevirtual 258, 3) := by decide +kernel
theorem dX0_fit_46 : decode cX0_fit 46 = .ok (.astore 8, 2) := by decide +kernel
theorem dX0_fit_48 : decode cX0_fit 48 = .ok (.aload_n 0, 1) := by decide +kernel
theorem dX0_fit_49 : decode cX0_fit 49 = .ok (.aload 8, 2) := by decide +kernel
theorem dX0_fit_51 : decode cX0_fit 51 = .ok (.aload 4, 2) := by decide +kernel
theorem dX0_fit_53 : decode cX0_fit 53 = .ok (.invokevirtual 258, 3) := by decide +kernel
theorem dX0_fit_56 : decode cX0_fit 56 = .ok (.aload 6, 2) := by decide +kernel
theorem dX0_fit_58 : decode cX0_fit 58 = .ok (.invokevirtual 236, 3) := by decide +kernel
theorem dX0_fit_61 : decode cX0_fit 61 = .ok (.aconst_null, 1) := by decide +kernel
theorem dX0_fit_62 : decode cX0_fit 62 = .ok (.astore 9, 2) := by decide +kernel
theorem dX0_fit_64 : decode cX0_fit 64 = .ok (.aload 5, 2) := by decide +kernel
theorem dX0_fit_66 : decode cX0_fit 66 = .ok (.getfield 109, 3) := by decide +kernel
theorem dX0_fit_69 : decode cX0_fit 69 = .ok (.getfield 262, 3) := by decide +kernel
theorem dX0_fit_72 : decode cX0_fit 72 = .ok (.invokevirtual 208, 3) := by decide +kernel
theorem dX0_fit_75 : decode cX0_fit 75 = .ok (.ifCond .eq 47, 3) := by decide +kernel
theorem dX0_fit_78 : decode cX0_fit 78 = .ok (.new 27, 3) := by decide +kernel
theorem dX0_fit_81 : decode cX0_fit 81 = .ok (.dup, 1) := by decide +kernel
theorem dX0_fit_82 : decode cX0_fit 82 = .ok (.aconst_null, 1) := by decide +kernel
theorem dX0_fit_83 : decode cX0_fit 83 = .ok (.aload 8, 2) := by decide +kernel
theorem dX0_fit_85 : decode cX0_fit 85 = .ok (.getfield 257, 3) := by decide +kernel
theorem dX0_fit_88 : decode cX0_fit 88 = .ok (.invokespecial 265, 3) := by decide +kernel
theorem dX0_fit_91 : decode cX0_fit 91 = .ok (.astore 10, 2) := by decide +kernel
theorem dX0_fit_93 : decode cX0_fit 93 = .ok (.aload 10, 2) := by decide +kernel
theorem dX0_fit_95 : decode cX0_fit 95 = .ok (.aload 8, 2) := by decide +kernel
theorem dX0_fit_97 : decode cX0_fit 97 = .ok (.putfield 69, 3) := by decide +kernel
theorem dX0_fit_100 : decode cX0_fit 100 = .ok (.new 73, 3) := by decide +kernel
theorem dX0_fit_103 : decode cX0_fit 103 = .ok (.dup, 1) := by decide +kernel
theorem dX0_fit_104 : decode cX0_fit 104 = .ok (.aload 10, 2) := by decide +kernel
theorem dX0_fit_106 : decode cX0_fit 106 = .ok (.aload 6, 2) := by decide +kernel
theorem dX0_fit_108 : decode cX0_fit 108 = .ok (.invokespecial 75, 3) := by decide +kernel
theorem dX0_fit_111 : decode cX0_fit 111 = .ok (.astore 6, 2) := by decide +kernel
theorem dX0_fit_113 : decode cX0_fit 113 = .ok (.aload 10, 2) := by decide +kernel
theorem dX0_fit_115 : decode cX0_fit 115 = .ok (.iconst 1, 1) := by decide +kernel
theorem dX0_fit_116 : decode cX0_fit 116 = .ok (.lconst 0, 1) := by decide +kernel
theorem dX0_fit_117 : decode cX0_fit 117 = .ok (.invokestatic 192, 3) := by decide +kernel
theorem dX0_fit_120 : decode cX0_fit 120 = .ok (.astore 9, 2) := by decide +kernel
theorem dX0_fit_122 : decode cX0_fit 122 = .ok (.aload 4, 2) := by decide +kernel
theorem dX0_fit_124 : decode cX0_fit 124 = .ok (.aload 9, 2) := by decide +kernel
theorem dX0_fit_126 : decode cX0_fit 126 = .ok (.invokevirtual 248, 3) := by decide +kernel
theorem dX0_fit_129 : decode cX0_fit 129 = .ok (.astore 4, 2) := by decide +kernel
theorem dX0_fit_131 : decode cX0_fit 131 = .ok (.aload 5, 2) := by decide +kernel
theorem dX0_fit_133 : decode cX0_fit 133 = .ok (.aload 9, 2) := by decide +kernel
theorem dX0_fit_135 : decode cX0_fit 135 = .ok (.invokevirtual 248, 3) := by decide +kernel
theorem dX0_fit_138 : decode cX0_fit 138 = .ok (.astore 5, 2) := by decide +kernel
theorem dX0_fit_140 : decode cX0_fit 140 = .ok (.iinc 7 1, 3) := by decide +kernel
theorem dX0_fit_143 : decode cX0_fit 143 = .ok (.goto (-131), 3) := by decide +kernel
theorem dX0_fit_146 : decode cX0_fit 146 = .ok (.aload 5, 2) := by decide +kernel
theorem dX0_fit_148 : decode cX0_fit 148 = .ok (.getfield 257, 3) := by decide +kernel
theorem dX0_fit_151 : decode cX0_fit 151 = .ok (.sipush 202, 3) := by decide +kernel
theorem dX0_fit_154 : decode cX0_fit 154 = .ok (.if_icmp .eq 44, 3) := by decide +kernel
theorem dX0_fit_157 : decode cX0_fit 157 = .ok (.aload 5, 2) := by decide +kernel
theorem dX0_fit_159 : decode cX0_fit 159 = .ok (.getfield 109, 3) := by decide +kernel
theorem dX0_fit_162 : decode cX0_fit 162 = .ok (.getfield 112, 3) := by decide +kernel
theorem dX0_fit_165 : decode cX0_fit 165 = .ok (.ifCond .le 33, 3) := by decide +kernel
theorem dX0_fit_168 : decode cX0_fit 168 = .ok (.aload_n 0, 1) := by decide +kernel
theorem dX0_fit_169 : decode cX0_fit 169 = .ok (.getfield 12, 3) := by decide +kernel
theorem dX0_fit_172 : decode cX0_fit 172 = .ok (.aload 6, 2) := by decide +kernel
theorem dX0_fit_174 : decode cX0_fit 174 = .ok (.invokevirtual 139, 3) := by decide +kernel
theorem dX0_fit_177 : decode cX0_fit 177 = .ok (.pop, 1) := by decide +kernel
theorem dX0_fit_178 : decode cX0_fit 178 = .ok (.aload_n 0, 1) := by decide +kernel
theorem dX0_fit_179 : decode cX0_fit 179 = .ok (.getfield 18, 3) := by decide +kernel
theorem dX0_fit_182 : decode cX0_fit 182 = .ok (.aload 4, 2) := by decide +kernel
theorem dX0_fit_184 : decode cX0_fit 184 = .ok (.invokevirtual 139, 3) := by decide +kernel
theorem dX0_fit_187 : decode cX0_fit 187 = .ok (.pop, 1) := by decide +kernel
theorem dX0_fit_188 : decode cX0_fit 188 = .ok (.aload_n 0, 1) := by decide +kernel
theorem dX0_fit_189 : decode cX0_fit 189 = .ok (.getfield 21, 3) := by decide +kernel
theorem dX0_fit_192 : decode cX0_fit 192 = .ok (.aload 5, 2) := by decide +kernel
theorem dX0_fit_194 : decode cX0_fit 194 = .ok (.invokevirtual 139, 3) := by decide +kernel
theorem dX0_fit_197 : decode cX0_fit 197 = .ok (.pop, 1) := by decide +kernel
theorem dX0_fit_198 : decode cX0_fit 198 = .ok (.return_, 1) := by decide +kernel
theorem dX2_of_0 : decode cX2_of 0 = .ok (.new 8, 3) := by decide +kernel
theorem dX2_of_3 : decode cX2_of 3 = .ok (.dup, 1) := by decide +kernel
theorem dX2_of_4 : decode cX2_of 4 = .ok (.iload_n 0, 1) := by decide +kernel
theorem dX2_of_5 : decode cX2_of 5 = .ok (.invokespecial 25, 3) := by decide +kernel
theorem dX2_of_8 : decode cX2_of 8 = .ok (.astore_n 2, 1) := by decide +kernel
theorem dX2_of_9 : decode cX2_of 9 = .ok (.aload_n 1, 1) := by decide +kernel
theorem dX2_of_10 : decode cX2_of 10 = .ok (.ifnull 22, 3) := by decide +kernel
theorem dX2_of_13 : decode cX2_of 13 = .ok (.aload_n 1, 1) := by decide +kernel
theorem dX2_of_14 : decode cX2_of 14 = .ok (.invokevirtual 28, 3) := by decide +kernel
theorem dX2_of_17 : decode cX2_of 17 = .ok (.ifCond .eq 15, 3) := by decide +kernel
theorem dX2_of_20 : decode cX2_of 20 = .ok (.aload_n 2, 1) := by decide +kernel
theorem dX2_of_21 : decode cX2_of 21 = .ok (.iconst 1, 1) := by decide +kernel
theorem dX2_of_22 : decode cX2_of 22 = .ok (.invokevirtual 34, 3) := by decide +kernel
theorem dX2_of_25 : decode cX2_of 25 = .ok (.aload_n 2, 1) := by decide +kernel
theorem dX2_of_26 : decode cX2_of 26 = .ok (.bipush 61, 2) := by decide +kernel
theorem dX2_of_28 : decode cX2_of 28 = .ok (.aload_n 1, 1) := by decide +kernel
theorem dX2_of_29 : decode cX2_of 29 = .ok (.invokevirtual 37, 3) := by decide +kernel
theorem dX2_of_32 : decode cX2_of 32 = .ok (.aload_n 2, 1) := by decide +kernel
theorem dX2_of_33 : decode cX2_of 33 = .ok (.areturn, 1) := by decide +kernel
theorem dX2_makeRoom_0 : decode cX2_makeRoom 0 = .ok (.aload_n 0, 1) := by decide +kernel
theorem dX2_makeRoom_1 : decode cX2_makeRoom 1 = .ok (.iload_n 1, 1) := by decide +kernel
theorem dX2_makeRoom_2 : decode cX2_makeRoom 2 = .ok (.newarray .int, 2) := by decide +kernel
theorem dX2_makeRoom_4 : decode cX2_makeRoom 4 = .ok (.putfield 41, 3) := by decide +kernel
theorem dX2_makeRoom_7 : decode cX2_makeRoom 7 = .ok (.aload_n 0, 1) := by decide +kernel
theorem dX2_makeRoom_8 : decode cX2_makeRoom 8 = .ok (.iload_n 1, 1) := by decide +kernel
theorem dX2_makeRoom_9 : decode cX2_makeRoom 9 = .ok (.anewarray 29, 3) := by decide +kernel
theorem dX2_makeRoom_12 : decode cX2_makeRoom 12 = .ok (.putfield 45, 3) := by decide +kernel
theorem dX2_makeRoom_15 : decode cX2_makeRoom 15 = .ok (.return_, 1) := by decide +kernel
theorem dX2_say_0 : decode cX2_say 0 = .ok (.aload_n 0, 1) := by decide +kernel
theorem dX2_say_1 : decode cX2_say 1 = .ok (.getfield 41, 3) := by decide +kernel
theorem dX2_say_4 : decode cX2_say 4 = .ok (.ifnull 45, 3) := by decide +kernel
theorem dX2_say_7 : decode cX2_say 7 = .ok (.aload_n 0, 1) := by decide +kernel
theorem dX2_say_8 : decode cX2_say 8 = .ok (.getfield 48, 3) := by decide +kernel
theorem dX2_say_11 : decode cX2_say 11 = .ok (.aload_n 0, 1) := by decide +kernel
theorem dX2_say_12 : decode cX2_say 12 = .ok (.getfield 41, 3) := by decide +kernel
theorem dX2_say_15 : decode cX2_say 15 = .ok (.arraylength, 1) := by decide +kernel
theorem dX2_say_16 : decode cX2_say 16 = .ok (.if_icmp .ge 33, 3) := by decide +kernel
theorem dX2_say_19 : decode cX2_say 19 = .ok (.aload_n 0, 1) := by decide +kernel
theorem dX2_say_20 : decode cX2_say 20 = .ok (.getfield 41, 3) := by decide +kernel
theorem dX2_say_23 : decode cX2_say 23 = .ok (.aload_n 0, 1) := by decide +kernel
theorem dX2_say_24 : decode cX2_say 24 = .ok (.getfield 48, 3) := by decide +kernel
theorem dX2_say_27 : decode cX2_say 27 = .ok (.iload_n 1, 1) := by decide +kernel
theorem dX2_say_28 : decode cX2_say 28 = .ok (.iastore, 1) := by decide +kernel
theorem dX2_say_29 : decode cX2_say 29 = .ok (.aload_n 0, 1) := by decide +kernel
theorem dX2_say_30 : decode cX2_say 30 = .ok (.getfield 45, 3) := by decide +kernel
theorem dX2_say_33 : decode cX2_say 33 = .ok (.aload_n 0, 1) := by decide +kernel
theorem dX2_say_34 : decode cX2_say 34 = .ok (.getfield 48, 3) := by decide +kernel
theorem dX2_say_37 : decode cX2_say 37 = .ok (.aload_n 2, 1) := by decide +kernel
theorem dX2_say_38 : decode cX2_say 38 = .ok (.aastore, 1) := by decide +kernel
theorem dX2_say_39 : decode cX2_say 39 = .ok (.aload_n 0, 1) := by decide +kernel
theorem dX2_say_40 : decode cX2_say 40 = .ok (.dup, 1) := by decide +kernel
theorem dX2_say_41 : decode cX2_say 41 = .ok (.getfield 48, 3) := by decide +kernel
theorem dX2_say_44 : decode cX2_say 44 = .ok (.iconst 1, 1) := by decide +kernel
theorem dX2_say_45 : decode cX2_say 45 = .ok (.iadd, 1) := by decide +kernel
theorem dX2_say_46 : decode cX2_say 46 = .ok (.putfield 48, 3) := by decide +kernel
theorem dX2_say_49 : decode cX2_say 49 = .ok (.return_, 1) := by decide +kernel
theorem dX2_taken_0 : decode cX2_taken 0 = .ok (.aload_n 0, 1) := by decide +kernel
theorem dX2_taken_1 : decode cX2_taken 1 = .ok (.getfield 17, 3) := by decide +kernel
theorem dX2_taken_4 : decode cX2_taken 4 = .ok (.ifnonnull 13, 3) := by decide +kernel
theorem dX2_taken_7 : decode cX2_taken 7 = .ok (.aload_n 0, 1) := by decide +kernel
theorem dX2_taken_8 : decode cX2_taken 8 = .ok (.getfield 13, 3) := by decide +kernel
theorem dX2_taken_11 : decode cX2_taken 11 = .ok (.getfield 76, 3) := by decide +kernel
theorem dX2_taken_14 : decode cX2_taken 14 = .ok (.goto 25, 3) := by decide +kernel
theorem dX2_taken_17 : decode cX2_taken 17 = .ok (.new 8, 3) := by decide +kernel
theorem dX2_taken_20 : decode cX2_taken 20 = .ok (.dup, 1) := by decide +kernel
theorem dX2_taken_21 : decode cX2_taken 21 = .ok (.aload_n 0, 1) := by decide +kernel
theorem dX2_taken_22 : decode cX2_taken 22 = .ok (.getfield 13, 3) := by decide +kernel
theorem dX2_taken_25 : decode cX2_taken 25 = .ok (.getfield 76, 3) := by decide +kernel
theorem dX2_taken_28 : decode cX2_taken 28 = .ok (.aload_n 0, 1) := by decide +kernel
theorem dX2_taken_29 : decode cX2_taken 29 = .ok (.getfield 17, 3) := by decide +kernel
theorem dX2_taken_32 : decode cX2_taken 32 = .ok (.aload_n 0, 1) := by decide +kernel
theorem dX2_taken_33 : decode cX2_taken 33 = .ok (.getfield 21, 3) := by decide +kernel
theorem dX2_taken_36 : decode cX2_taken 36 = .ok (.invokespecial 79, 3) := by decide +kernel
theorem dX2_taken_39 : decode cX2_taken 39 = .ok (.areturn, 1) := by decide +kernel
theorem dX2_answered_0 : decode cX2_answered 0 = .ok (.aload_n 1, 1) := by decide +kernel
theorem dX2_answered_1 : decode cX2_answered 1 = .ok (.ifnonnull 43, 3) := by decide +kernel
theorem dX2_answered_4 : decode cX2_answered 4 = .ok (.aload_n 0, 1) := by decide +kernel
theorem dX2_answered_5 : decode cX2_answered 5 = .ok (.getfield 17, 3) := by decide +kernel
theorem dX2_answered_8 : decode cX2_answered 8 = .ok (.ifnonnull 13, 3) := by decide +kernel
theorem dX2_answered_11 : decode cX2_answered 11 = .ok (.aload_n 0, 1) := by decide +kernel
theorem dX2_answered_12 : decode cX2_answered 12 = .ok (.getfield 13, 3) := by decide +kernel
theorem dX2_answered_15 : decode cX2_answered 15 = .ok (.getfield 82, 3) := by decide +kernel
theorem dX2_answered_18 : decode cX2_answered 18 = .ok (.goto 25, 3) := by decide +kernel
theorem dX2_answered_21 : decode cX2_answered 21 = .ok (.new 8, 3) := by decide +kernel
theorem dX2_answered_24 : decode cX2_answered 24 = .ok (.dup, 1) := by decide +kernel
theorem dX2_answered_25 : decode cX2_answered 25 = .ok (.aload_n 0, 1) := by decide +kernel
theorem dX2_answered_26 : decode cX2_answered 26 = .ok (.getfield 13, 3) := by decide +kernel
theorem dX2_answered_29 : decode cX2_answered 29 = .ok (.getfield 82, 3) := by decide +kernel
theorem dX2_answered_32 : decode cX2_answered 32 = .ok (.aload_n 0, 1) := by decide +kernel
theorem dX2_answered_33 : decode cX2_answered 33 = .ok (.getfield 17, 3) := by decide +kernel
theorem dX2_answered_36 : decode cX2_answered 36 = .ok (.aload_n 0, 1) := by decide +kernel
theorem dX2_answered_37 : decode cX2_answered 37 = .ok (.getfield 21, 3) := by decide +kernel
theorem dX2_answered_40 : decode cX2_answered 40 = .ok (.invokespecial 79, 3) := by decide +kernel
theorem dX2_answered_43 : decode cX2_answered 43 = .ok (.areturn, 1) := by decide +kernel
theorem dX2_answered_44 : decode cX2_answered 44 = .ok (.aload_n 0, 1) := by decide +kernel
theorem dX2_answered_45 : decode cX2_answered 45 = .ok (.getfield 17, 3) := by decide +kernel
theorem dX2_answered_48 : decode cX2_answered 48 = .ok (.ifnonnull 7, 3) := by decide +kernel
theorem dX2_answered_51 : decode cX2_answered 51 = .ok (.iconst 0, 1) := by decide +kernel
theorem dX2_answered_52 : decode cX2_answered 52 = .ok (.goto 8, 3) := by decide +kernel
theorem dX2_answered_55 : decode cX2_answered 55 = .ok (.aload_n 0, 1) := by decide +kernel
theorem dX2_answered_56 : decode cX2_answered 56 = .ok (.getfield 17, 3) := by decide +kernel
theorem dX2_answered_59 : decode cX2_answered 59 = .ok (.arraylength, 1) := by decide +kernel
theorem dX2_answered_60 : decode cX2_answered 60 = .ok (.istore_n 2, 1) := by decide +kernel
theorem dX2_answered_61 : decode cX2_answered 61 = .ok (.iload_n 2, 1) := by decide +kernel
theorem dX2_answered_62 : decode cX2_answered 62 = .ok (.iconst 1, 1) := by decide +kernel
theorem dX2_answered_63 : decode cX2_answered 63 = .ok (.iadd, 1) := by decide +kernel
theorem dX2_answered_64 : decode cX2_answered 64 = .ok (.anewarray 85, 3) := by decide +kernel
theorem dX2_answered_67 : decode cX2_answered 67 = .ok (.astore_n 3, 1) := by decide +kernel
theorem dX2_answered_68 : decode cX2_answered 68 = .ok (.iload_n 2, 1) := by decide +kernel
theorem dX2_answered_69 : decode cX2_answered 69 = .ok (.iconst 1, 1) := by decide +kernel
theorem dX2_answered_70 : decode cX2_answered 70 = .ok (.iadd, 1) := by decide +kernel
theorem dX2_answered_71 : decode cX2_answered 71 = .ok (.anewarray 29, 3) := by decide +kernel
theorem dX2_answered_74 : decode cX2_answered 74 = .ok (.astore 4, 2) := by decide +kernel
theorem dX2_answered_76 : decode cX2_answered 76 = .ok (.iconst 0, 1) := by decide +kernel
theorem dX2_answered_77 : decode cX2_answered 77 = .ok (.istore 5, 2) := by decide +kernel
theorem dX2_answered_79 : decode cX2_answered 79 = .ok (.iload 5, 2) := by decide +kernel
theorem dX2_answered_81 : decode cX2_answered 81 = .ok (.iload_n 2, 1) := by decide +kernel
theorem dX2_answered_82 : decode cX2_answered 82 = .ok (.if_icmp .ge 32, 3) := by decide +kernel
theorem dX2_answered_85 : decode cX2_answered 85 = .ok (.aload_n 3, 1) := by decide +kernel
theorem dX2_answered_86 : decode cX2_answered 86 = .ok (.iload 5, 2) := by decide +kernel
theorem dX2_answered_88 : decode cX2_answered 88 = .ok (.aload_n 0, 1) := by decide +kernel
theorem dX2_answered_89 : decode cX2_answered 89 = .ok (.getfield 17, 3) := by decide +kernel
theorem dX2_answered_92 : decode cX2_answered 92 = .ok (.iload 5, 2) := by decide +kernel
theorem dX2_answered_94 : decode cX2_answered 94 = .ok (.aaload, 1) := by decide +kernel
theorem dX2_answered_95 : decode cX2_answered 95 = .ok (.aastore, 1) := by decide +kernel
theorem dX2_answered_96 : decode cX2_answered 96 = .ok (.aload 4, 2) := by decide +kernel
theorem dX2_answered_98 : decode cX2_answered 98 = .ok (.iload 5, 2) := by decide +kernel
theorem dX2_answered_100 : decode cX2_answered 100 = .ok (.aload_n 0, 1) := by decide +kernel
theorem dX2_answered_101 : decode cX2_answered 101 = .ok (.getfield 21, 3) := by decide +kernel
theorem dX2_answered_104 : decode cX2_answered 104 = .ok (.iload 5, 2) := by decide +kernel
theorem dX2_answered_106 : decode cX2_answered 106 = .ok (.aaload, 1) := by decide +kernel
theorem dX2_answered_107 : decode cX2_answered 107 = .ok (.aastore, 1) := by decide +kernel
theorem dX2_answered_108 : decode cX2_answered 108 = .ok (.iinc 5 1, 3) := by decide +kernel
theorem dX2_answered_111 : decode cX2_answered 111 = .ok (.goto (-32), 3) := by decide +kernel
theorem dX2_answered_114 : decode cX2_answered 114 = .ok (.aload_n 3, 1) := by decide +kernel
theorem dX2_answered_115 : decode cX2_answered 115 = .ok (.iload_n 2, 1) := by decide +kernel
theorem dX2_answered_116 : decode cX2_answered 116 = .ok (.aload_n 0, 1) := by decide +kernel
theorem dX2_answered_117 : decode cX2_answered 117 = .ok (.getfield 13, 3) := by decide +kernel
theorem dX2_answered_120 : decode cX2_answered 120 = .ok (.getfield 87, 3) := by decide +kernel
theorem dX2_answered_123 : decode cX2_answered 123 = .ok (.aastore, 1) := by decide +kernel
theorem dX2_answered_124 : decode cX2_answered 124 = .ok (.aload 4, 2) := by decide +kernel
theorem dX2_answered_126 : decode cX2_answered 126 = .ok (.iload_n 2, 1) := by decide +kernel
theorem dX2_answered_127 : decode cX2_answered 127 = .ok (.aload_n 1, 1) := by decide +kernel
theorem dX2_answered_128 : decode cX2_answered 128 = .ok (.aastore, 1) := by decide +kernel
theorem dX2_answered_129 : decode cX2_answered 129 = .ok (.new 8, 3) := by decide +kernel
theorem dX2_answered_132 : decode cX2_answered 132 = .ok (.dup, 1) := by decide +kernel
theorem dX2_answered_133 : decode cX2_answered 133 = .ok (.aload_n 0, 1) := by decide +kernel
theorem dX2_answered_134 : decode cX2_answered 134 = .ok (.getfield 13, 3) := by decide +kernel
theorem dX2_answered_137 : decode cX2_answered 137 = .ok (.getfield 82, 3) := by decide +kernel
theorem dX2_answered_140 : decode cX2_answered 140 = .ok (.aload_n 3, 1) := by decide +kernel
theorem dX2_answered_141 : decode cX2_answered 141 = .ok (.aload 4, 2) := by decide +kernel
theorem dX2_answered_143 : decode cX2_answered 143 = .ok (.invokespecial 79, 3) := by decide +kernel
theorem dX2_answered_146 : decode cX2_answered 146 = .ok (.areturn, 1) := by decide +kernel
theorem dX9_add_5 : decode cX9_add 5 = .ok (.iconst 0, 1) := by decide +kernel
theorem dX9_add_6 : decode cX9_add 6 = .ok (.istore_n 3, 1) := by decide +kernel
theorem dX9_add_7 : decode cX9_add 7 = .ok (.iload_n 3, 1) := by decide +kernel
theorem dX9_add_8 : decode cX9_add 8 = .ok (.aload_n 0, 1) := by decide +kernel
theorem dX9_add_9 : decode cX9_add 9 = .ok (.getfield 19, 3) := by decide +kernel
theorem dX9_add_12 : decode cX9_add 12 = .ok (.if_icmp .ge 19, 3) := by decide +kernel
theorem dX9_add_15 : decode cX9_add 15 = .ok (.aload_n 0, 1) := by decide +kernel
theorem dX9_add_16 : decode cX9_add 16 = .ok (.getfield 9, 3) := by decide +kernel
theorem dX9_add_19 : decode cX9_add 19 = .ok (.iload_n 3, 1) := by decide +kernel
theorem dX9_add_20 : decode cX9_add 20 = .ok (.aaload, 1) := by decide +kernel
theorem dX9_add_21 : decode cX9_add 21 = .ok (.aload_n 1, 1) := by decide +kernel
theorem dX9_add_22 : decode cX9_add 22 = .ok (.if_acmp .eq 9, 3) := by decide +kernel
theorem dX9_add_25 : decode cX9_add 25 = .ok (.iinc 3 1, 3) := by decide +kernel
theorem dX9_add_28 : decode cX9_add 28 = .ok (.goto (-21), 3) := by decide +kernel
theorem dX9_add_31 : decode cX9_add 31 = .ok (.iload_n 3, 1) := by decide +kernel
theorem dX9_add_32 : decode cX9_add 32 = .ok (.aload_n 0, 1) := by decide +kernel
theorem dX9_add_33 : decode cX9_add 33 = .ok (.getfield 19, 3) := by decide +kernel
theorem dX9_add_36 : decode cX9_add 36 = .ok (.if_icmp .ne 8, 3) := by decide +kernel
theorem dX9_add_39 : decode cX9_add 39 = .ok (.aload_n 0, 1) := by decide +kernel
theorem dX9_add_40 : decode cX9_add 40 = .ok (.aload_n 1, 1) := by decide +kernel
theorem dX9_add_41 : decode cX9_add 41 = .ok (.invokevirtual 23, 3) := by decide +kernel
theorem dX9_add_44 : decode cX9_add 44 = .ok (.aload_n 0, 1) := by decide +kernel
theorem dX9_add_45 : decode cX9_add 45 = .ok (.getfield 15, 3) := by decide +kernel
theorem dX9_add_48 : decode cX9_add 48 = .ok (.iload_n 3, 1) := by decide +kernel
theorem dX9_add_49 : decode cX9_add 49 = .ok (.dup2, 1) := by decide +kernel
theorem dX9_add_50 : decode cX9_add 50 = .ok (.iaload, 1) := by decide +kernel
theorem dX9_add_51 : decode cX9_add 51 = .ok (.iload_n 2, 1) := by decide +kernel
theorem dX9_add_52 : decode cX9_add 52 = .ok (.iadd, 1) := by decide +kernel
theorem dX9_add_53 : decode cX9_add 53 = .ok (.iastore, 1) := by decide +kernel
theorem dX9_add_54 : decode cX9_add 54 = .ok (.aload_n 0, 1) := by decide +kernel
theorem dX9_add_55 : decode cX9_add 55 = .ok (.getfield 15, 3) := by decide +kernel
theorem dX9_add_58 : decode cX9_add 58 = .ok (.iload_n 3, 1) := by decide +kernel
theorem dX9_add_59 : decode cX9_add 59 = .ok (.iaload, 1) := by decide +kernel
theorem dX9_add_60 : decode cX9_add 60 = .ok (.ifCond .ne 43, 3) := by decide +kernel
theorem dX9_add_63 : decode cX9_add 63 = .ok (.aload_n 0, 1) := by decide +kernel
theorem dX9_add_64 : decode cX9_add 64 = .ok (.dup, 1) := by decide +kernel
theorem dX9_add_65 : decode cX9_add 65 = .ok (.getfield 19, 3) := by decide +kernel
theorem dX9_add_68 : decode cX9_add 68 = .ok (.iconst 1, 1) := by decide +kernel
theorem dX9_add_69 : decode cX9_add 69 = .ok (.isub, 1) := by decide +kernel
theorem dX9_add_70 : decode cX9_add 70 = .ok (.putfield 19, 3) := by decide +kernel
theorem dX9_add_73 : decode cX9_add 73 = .ok (.aload_n 0, 1) := by decide +kernel
theorem dX9_add_74 : decode cX9_add 74 = .ok (.getfield 9, 3) := by decide +kernel
theorem dX9_add_77 : decode cX9_add 77 = .ok (.iload_n 3, 1) := by decide +kernel
theorem dX9_add_78 : decode cX9_add 78 = .ok (.aload_n 0, 1) := by decide +kernel
theorem dX9_add_79 : decode cX9_add 79 = .ok (.getfield 9, 3) := by decide +kernel
theorem dX9_add_82 : decode cX9_add 82 = .ok (.aload_n 0, 1) := by decide +kernel
theorem dX9_add_83 : decode cX9_add 83 = .ok (.getfield 19, 3) := by decide +kernel
theorem dX9_add_86 : decode cX9_add 86 = .ok (.aaload, 1) := by decide +kernel
theorem dX9_add_87 : decode cX9_add 87 = .ok (.aastore, 1) := by decide +kernel
theorem dX9_add_88 : decode cX9_add 88 = .ok (.aload_n 0, 1) := by decide +kernel
theorem dX9_add_89 : decode cX9_add 89 = .ok (.getfield 15, 3) := by decide +kernel
theorem dX9_add_92 : decode cX9_add 92 = .ok (.iload_n 3, 1) := by decide +kernel
theorem dX9_add_93 : decode cX9_add 93 = .ok (.aload_n 0, 1) := by decide +kernel
theorem dX9_add_94 : decode cX9_add 94 = .ok (.getfield 15, 3) := by decide +kernel
theorem dX9_add_97 : decode cX9_add 97 = .ok (.aload_n 0, 1) := by decide +kernel
theorem dX9_add_98 : decode cX9_add 98 = .ok (.getfield 19, 3) := by decide +kernel
theorem dX9_add_101 : decode cX9_add 101 = .ok (.iaload, 1) := by decide +kernel
theorem dX9_add_102 : decode cX9_add 102 = .ok (.iastore, 1) := by decide +kernel
theorem dX9_add_103 : decode cX9_add 103 = .ok (.return_, 1) := by decide +kernel
theorem dX9_append_0 : decode cX9_append 0 = .ok (.aload_n 0, 1) := by decide +kernel
theorem dX9_append_1 : decode cX9_append 1 = .ok (.getfield 19, 3) := by decide +kernel
theorem dX9_append_4 : decode cX9_append 4 = .ok (.aload_n 0, 1) := by decide +kernel
theorem dX9_append_5 : decode cX9_append 5 = .ok (.getfield 9, 3) := by decide +kernel
theorem dX9_append_8 : decode cX9_append 8 = .ok (.arraylength, 1) := by decide +kernel
theorem dX9_append_9 : decode cX9_append 9 = .ok (.if_icmp .ne 49, 3) := by decide +kernel
theorem dX9_append_12 : decode cX9_append 12 = .ok (.iconst 2, 1) := by decide +kernel
theorem dX9_append_13 : decode cX9_append 13 = .ok (.aload_n 0, 1) := by decide +kernel
theorem dX9_append_14 : decode cX9_append 14 = .ok (.getfield 19, 3) := by decide +kernel
theorem dX9_append_17 : decode cX9_append 17 = .ok (.imul, 1) := by decide +kernel
theorem dX9_append_18 : decode cX9_append 18 = .ok (.anewarray 7, 3) := by decide +kernel
theorem dX9_append_21 : decode cX9_append 21 = .ok (.astore_n 2, 1) := by decide +kernel
theorem dX9_append_22 : decode cX9_append 22 = .ok (.aload_n 0, 1) := by decide +kernel
theorem dX9_append_23 : decode cX9_append 23 = .ok (.getfield 9, 3) := by decide +kernel
theorem dX9_append_26 : decode cX9_append 26 = .ok (.iconst 0, 1) := by decide +kernel
theorem dX9_append_27 : decode cX9_append 27 = .ok (.aload_n 2, 1) := by decide +kernel
theorem dX9_append_28 : decode cX9_append 28 = .ok (.iconst 0, 1) := by decide +kernel
theorem dX9_append_29 : decode cX9_append 29 = .ok (.aload_n 0, 1) := by decide +kernel
theorem dX9_append_30 : decode cX9_append 30 = .ok (.getfield 19, 3) := by decide +kernel
theorem dX9_append_33 : decode cX9_append 33 = .ok (.invokestatic 27, 3) := by decide +kernel
theorem dX9_append_36 : decode cX9_append 36 = .ok (.aload_n 0, 1) := by decide +kernel
theorem dX9_append_37 : decode cX9_append 37 = .ok (.aload_n 2, 1) := by decide +kernel
theorem dX9_append_38 : decode cX9_append 38 = .ok (.putfield 9, 3) := by decide +kernel
theorem dX9_append_41 : decode cX9_append 41 = .ok (.aload_n 0, 1) := by decide +kernel
theorem dX9_append_42 : decode cX9_append 42 = .ok (.aload_n 0, 1) := by decide +kernel
theorem dX9_append_43 : decode cX9_append 43 = .ok (.getfield 15, 3) := by decide +kernel
theorem dX9_append_46 : decode cX9_append 46 = .ok (.iconst 2, 1) := by decide +kernel
theorem dX9_append_47 : decode cX9_append 47 = .ok (.aload_n 0, 1) := by decide +kernel
theorem dX9_append_48 : decode cX9_append 48 = .ok (.getfield 19, 3) := by decide +kernel
theorem dX9_append_51 : decode cX9_append 51 = .ok (.imul, 1) := by decide +kernel
theorem dX9_append_52 : decode cX9_append 52 = .ok (.invokestatic 33, 3) := by decide +kernel
theorem dX9_append_55 : decode cX9_append 55 = .ok (.putfield 15, 3) := by decide +kernel
theorem dX9_append_58 : decode cX9_append 58 = .ok (.aload_n 0, 1) := by decide +kernel
theorem dX9_append_59 : decode cX9_append 59 = .ok (.getfield 9, 3) := by decide +kernel
theorem dX9_append_62 : decode cX9_append 62 = .ok (.aload_n 0, 1) := by decide +kernel
theorem dX9_append_63 : decode cX9_append 63 = .ok (.getfield 19, 3) := by decide +kernel
theorem dX9_append_66 : decode cX9_append 66 = .ok (.aload_n 1, 1) := by decide +kernel
theorem dX9_append_67 : decode cX9_append 67 = .ok (.aastore, 1) := by decide +kernel
theorem dX9_append_68 : decode cX9_append 68 = .ok (.aload_n 0, 1) := by decide +kernel
theorem dX9_append_69 : decode cX9_append 69 = .ok (.getfield 15, 3) := by decide +kernel
theorem dX9_append_72 : decode cX9_append 72 = .ok (.aload_n 0, 1) := by decide +kernel
theorem dX9_append_73 : decode cX9_append 73 = .ok (.getfield 19, 3) := by decide +kernel
theorem dX9_append_76 : decode cX9_append 76 = .ok (.iconst 0, 1) := by decide +kernel
theorem dX9_append_77 : decode cX9_append 77 = .ok (.iastore, 1) := by decide +kernel
theorem dX9_append_78 : decode cX9_append 78 = .ok (.aload_n 0, 1) := by decide +kernel
theorem dX9_append_79 : decode cX9_append 79 = .ok (.dup, 1) := by decide +kernel
theorem dX9_append_80 : decode cX9_append 80 = .ok (.getfield 19, 3) := by decide +kernel
theorem dX9_append_83 : decode cX9_append 83 = .ok (.iconst 1, 1) := by decide +kernel
theorem dX9_append_84 : decode cX9_append 84 = .ok (.iadd, 1) := by decide +kernel
theorem dX9_append_85 : decode cX9_append 85 = .ok (.putfield 19, 3) := by decide +kernel
theorem dX9_append_88 : decode cX9_append 88 = .ok (.return_, 1) := by decide +kernel
theorem dX9_of_0 : decode cX9_of 0 = .ok (.new 10, 3) := by decide +kernel
theorem dX9_of_3 : decode cX9_of 3 = .ok (.dup, 1) := by decide +kernel
theorem dX9_of_4 : decode cX9_of 4 = .ok (.invokespecial 47, 3) := by decide +kernel
theorem dX9_of_7 : decode cX9_of 7 = .ok (.astore 4, 2) := by decide +kernel
theorem dX9_of_9 : decode cX9_of 9 = .ok (.aload 4, 2) := by decide +kernel
theorem dX9_of_11 : decode cX9_of 11 = .ok (.iload_n 1, 1) := by decide +kernel
theorem dX9_of_12 : decode cX9_of 12 = .ok (.ifCond .ne 7, 3) := by decide +kernel
theorem dX9_of_15 : decode cX9_of 15 = .ok (.aconst_null, 1) := by decide +kernel
theorem dX9_of_16 : decode cX9_of 16 = .ok (.goto 4, 3) := by decide +kernel
theorem dX9_of_19 : decode cX9_of 19 = .ok (.aload_n 0, 1) := by decide +kernel
theorem dX9_of_20 : decode cX9_of 20 = .ok (.iload_n 1, 1) := by decide +kernel
theorem dX9_of_21 : decode cX9_of 21 = .ok (.invokevirtual 39, 3) := by decide +kernel
theorem dX9_of_24 : decode cX9_of 24 = .ok (.aload 4, 2) := by decide +kernel
theorem dX9_of_26 : decode cX9_of 26 = .ok (.lload_n 2, 1) := by decide +kernel
theorem dX9_of_27 : decode cX9_of 27 = .ok (.putfield 43, 3) := by decide +kernel
theorem dX9_of_30 : decode cX9_of 30 = .ok (.aload 4, 2) := by decide +kernel
theorem dX9_of_32 : decode cX9_of 32 = .ok (.areturn, 1) := by decide +kernel
theorem dX9_isTerm_0 : decode cX9_isTerm 0 = .ok (.aload_n 0, 1) := by decide +kernel
theorem dX9_isTerm_1 : decode cX9_isTerm 1 = .ok (.getfield 19, 3) := by decide +kernel
theorem dX9_isTerm_4 : decode cX9_isTerm 4 = .ok (.ifCond .eq 24, 3) := by decide +kernel
theorem dX9_isTerm_7 : decode cX9_isTerm 7 = .ok (.aload_n 0, 1) := by decide +kernel
theorem dX9_isTerm_8 : decode cX9_isTerm 8 = .ok (.getfield 19, 3) := by decide +kernel
theorem dX9_isTerm_11 : decode cX9_isTerm 11 = .ok (.iconst 1, 1) := by decide +kernel
theorem dX9_isTerm_12 : decode cX9_isTerm 12 = .ok (.if_icmp .ne 20, 3) := by decide +kernel
theorem dX9_isTerm_15 : decode cX9_isTerm 15 = .ok (.aload_n 0, 1) := by decide +kernel
theorem dX9_isTerm_16 : decode cX9_isTerm 16 = .ok (.getfield 15, 3) := by decide +kernel
theorem dX9_isTerm_19 : decode cX9_isTerm 19 = .ok (.iconst 0, 1) := by decide +kernel
theorem dX9_isTerm_20 : decode cX9_isTerm 20 = .ok (.iaload, 1) := by decide +kernel
theorem dX9_isTerm_21 : decode cX9_isTerm 21 = .ok (.invokestatic 48, 3) := by decide +kernel
theorem dX9_isTerm_24 : decode cX9_isTerm 24 = .ok (.iconst 1, 1) := by decide +kernel
theorem dX9_isTerm_25 : decode cX9_isTerm 25 = .ok (.if_icmp .ne 7, 3) := by decide +kernel
theorem dX9_isTerm_28 : decode cX9_isTerm 28 = .ok (.iconst 1, 1) := by decide +kernel
theorem dX9_isTerm_29 : decode cX9_isTerm 29 = .ok (.goto 4, 3) := by decide +kernel
theorem dX9_isTerm_32 : decode cX9_isTerm 32 = .ok (.iconst 0, 1) := by decide +kernel
theorem dX9_isTerm_33 : decode cX9_isTerm 33 = .ok (.ireturn, 1) := by decide +kernel
