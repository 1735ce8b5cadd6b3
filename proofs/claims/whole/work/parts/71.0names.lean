theorem dX13_isText_9 : decode cX13_isText 9 = .ok (.aload_n 0, 1) := by decide +kernel
theorem dX13_isText_10 : decode cX13_isText 10 = .ok (.getfield 26, 3) := by decide +kernel
theorem dX13_isText_13 : decode cX13_isText 13 = .ok (.iload_n 1, 1) := by decide +kernel
theorem dX13_isText_14 : decode cX13_isText 14 = .ok (.iaload, 1) := by decide +kernel
theorem dX13_isText_15 : decode cX13_isText 15 = .ok (.aload_n 0, 1) := by decide +kernel
theorem dX13_isText_16 : decode cX13_isText 16 = .ok (.getfield 23, 3) := by decide +kernel
theorem dX13_isText_19 : decode cX13_isText 19 = .ok (.iload_n 1, 1) := by decide +kernel
theorem dX13_isText_20 : decode cX13_isText 20 = .ok (.iaload, 1) := by decide +kernel
theorem dX13_isText_21 : decode cX13_isText 21 = .ok (.isub, 1) := by decide +kernel
theorem dX13_isText_22 : decode cX13_isText 22 = .ok (.aload_n 2, 1) := by decide +kernel
theorem dX13_isText_23 : decode cX13_isText 23 = .ok (.invokevirtual 401, 3) := by decide +kernel
theorem dX13_isText_26 : decode cX13_isText 26 = .ok (.if_icmp .eq 5, 3) := by decide +kernel
theorem dX13_isText_31 : decode cX13_isText 31 = .ok (.iconst 0, 1) := by decide +kernel
theorem dX13_isText_32 : decode cX13_isText 32 = .ok (.istore_n 3, 1) := by decide +kernel
theorem dX13_isText_33 : decode cX13_isText 33 = .ok (.iload_n 3, 1) := by decide +kernel
theorem dX13_isText_34 : decode cX13_isText 34 = .ok (.aload_n 2, 1) := by decide +kernel
theorem dX13_isText_35 : decode cX13_isText 35 = .ok (.invokevirtual 401, 3) := by decide +kernel
theorem dX13_isText_38 : decode cX13_isText 38 = .ok (.if_icmp .ge 32, 3) := by decide +kernel
theorem dX13_isText_41 : decode cX13_isText 41 = .ok (.aload_n 0, 1) := by decide +kernel
theorem dX13_isText_42 : decode cX13_isText 42 = .ok (.getfield 13, 3) := by decide +kernel
theorem dX13_isText_45 : decode cX13_isText 45 = .ok (.aload_n 0, 1) := by decide +kernel
theorem dX13_isText_46 : decode cX13_isText 46 = .ok (.getfield 23, 3) := by decide +kernel
theorem dX13_isText_49 : decode cX13_isText 49 = .ok (.iload_n 1, 1) := by decide +kernel
theorem dX13_isText_50 : decode cX13_isText 50 = .ok (.iaload, 1) := by decide +kernel
theorem dX13_isText_51 : decode cX13_isText 51 = .ok (.iload_n 3, 1) := by decide +kernel
theorem dX13_isText_52 : decode cX13_isText 52 = .ok (.iadd, 1) := by decide +kernel
theorem dX13_isText_53 : decode cX13_isText 53 = .ok (.baload, 1) := by decide +kernel
theorem dX13_isText_54 : decode cX13_isText 54 = .ok (.aload_n 2, 1) := by decide +kernel
theorem dX13_isText_55 : decode cX13_isText 55 = .ok (.iload_n 3, 1) := by decide +kernel
theorem dX13_isText_56 : decode cX13_isText 56 = .ok (.invokevirtual 406, 3) := by decide +kernel
theorem dX13_isText_59 : decode cX13_isText 59 = .ok (.if_icmp .eq 5, 3) := by decide +kernel
theorem dX13_isText_62 : decode cX13_isText 62 = .ok (.iconst 0, 1) := by decide +kernel
theorem dX13_isText_63 : decode cX13_isText 63 = .ok (.ireturn, 1) := by decide +kernel
theorem dX13_isText_64 : decode cX13_isText 64 = .ok (.iinc 3 1, 3) := by decide +kernel
theorem dX13_isText_67 : decode cX13_isText 67 = .ok (.goto (-34), 3) := by decide +kernel
theorem dX13_isText_70 : decode cX13_isText 70 = .ok (.iconst 1, 1) := by decide +kernel
theorem dX13_isText_71 : decode cX13_isText 71 = .ok (.ireturn, 1) := by decide +kernel
theorem dX13_isKey_0 : decode cX13_isKey 0 = .ok (.aload_n 0, 1) := by decide +kernel
theorem dX13_isKey_1 : decode cX13_isKey 1 = .ok (.getfield 26, 3) := by decide +kernel
theorem dX13_isKey_4 : decode cX13_isKey 4 = .ok (.iload_n 1, 1) := by decide +kernel
theorem dX13_isKey_5 : decode cX13_isKey 5 = .ok (.iaload, 1) := by decide +kernel
theorem dX13_isKey_6 : decode cX13_isKey 6 = .ok (.aload_n 0, 1) := by decide +kernel
theorem dX13_isKey_7 : decode cX13_isKey 7 = .ok (.getfield 23, 3) := by decide +kernel
theorem dX13_isKey_10 : decode cX13_isKey 10 = .ok (.iload_n 1, 1) := by decide +kernel
theorem dX13_isKey_11 : decode cX13_isKey 11 = .ok (.iaload, 1) := by decide +kernel
theorem dX13_isKey_12 : decode cX13_isKey 12 = .ok (.isub, 1) := by decide +kernel
theorem dX13_isKey_13 : decode cX13_isKey 13 = .ok (.istore_n 2, 1) := by decide +kernel
theorem dX13_isKey_14 : decode cX13_isKey 14 = .ok (.iconst 0, 1) := by decide +kernel
theorem dX13_isKey_15 : decode cX13_isKey 15 = .ok (.istore_n 3, 1) := by decide +kernel
theorem dX13_isKey_16 : decode cX13_isKey 16 = .ok (.iload_n 3, 1) := by decide +kernel
theorem dX13_isKey_17 : decode cX13_isKey 17 = .ok (.ldc_w 410, 3) := by decide +kernel
theorem dX13_isKey_20 : decode cX13_isKey 20 = .ok (.invokevirtual 401, 3) := by decide +kernel
theorem dX13_isKey_23 : decode cX13_isKey 23 = .ok (.if_icmp .ge 109, 3) := by decide +kernel
theorem dX13_isKey_26 : decode cX13_isKey 26 = .ok (.iload_n 3, 1) := by decide +kernel
theorem dX13_isKey_27 : decode cX13_isKey 27 = .ok (.istore 4, 2) := by decide +kernel
theorem dX13_isKey_29 : decode cX13_isKey 29 = .ok (.ldc_w 410, 3) := by decide +kernel
theorem dX13_isKey_32 : decode cX13_isKey 32 = .ok (.iload 4, 2) := by decide +kernel
theorem dX13_isKey_34 : decode cX13_isKey 34 = .ok (.invokevirtual 406, 3) := by decide +kernel
theorem dX13_isKey_37 : decode cX13_isKey 37 = .ok (.bipush 32, 2) := by decide +kernel
theorem dX13_isKey_39 : decode cX13_isKey 39 = .ok (.if_icmp .eq 9, 3) := by decide +kernel
theorem dX13_isKey_42 : decode cX13_isKey 42 = .ok (.iinc 4 1, 3) := by decide +kernel
theorem dX13_isKey_45 : decode cX13_isKey 45 = .ok (.goto (-16), 3) := by decide +kernel
theorem dX13_isKey_48 : decode cX13_isKey 48 = .ok (.iload 4, 2) := by decide +kernel
theorem dX13_isKey_50 : decode cX13_isKey 50 = .ok (.iload_n 3, 1) := by decide +kernel
theorem dX13_isKey_51 : decode cX13_isKey 51 = .ok (.isub, 1) := by decide +kernel
theorem dX13_isKey_52 : decode cX13_isKey 52 = .ok (.iload_n 2, 1) := by decide +kernel
theorem dX13_isKey_53 : decode cX13_isKey 53 = .ok (.if_icmp .ne 7, 3) := by decide +kernel
theorem dX13_isKey_56 : decode cX13_isKey 56 = .ok (.iconst 1, 1) := by decide +kernel
theorem dX13_isKey_57 : decode cX13_isKey 57 = .ok (.goto 4, 3) := by decide +kernel
theorem dX13_isKey_60 : decode cX13_isKey 60 = .ok (.iconst 0, 1) := by decide +kernel
theorem dX13_isKey_61 : decode cX13_isKey 61 = .ok (.istore 5, 2) := by decide +kernel
theorem dX13_isKey_63 : decode cX13_isKey 63 = .ok (.iconst 0, 1) := by decide +kernel
theorem dX13_isKey_64 : decode cX13_isKey 64 = .ok (.istore 6, 2) := by decide +kernel
theorem dX13_isKey_66 : decode cX13_isKey 66 = .ok (.iload 6, 2) := by decide +kernel
theorem dX13_isKey_68 : decode cX13_isKey 68 = .ok (.iload_n 2, 1) := by decide +kernel
theorem dX13_isKey_69 : decode cX13_isKey 69 = .ok (.if_icmp .ge 48, 3) := by decide +kernel
theorem dX13_isKey_72 : decode cX13_isKey 72 = .ok (.iload 5, 2) := by decide +kernel
theorem dX13_isKey_74 : decode cX13_isKey 74 = .ok (.ifCond .eq 43, 3) := by decide +kernel
theorem dX13_isKey_77 : decode cX13_isKey 77 = .ok (.aload_n 0, 1) := by decide +kernel
theorem dX13_isKey_78 : decode cX13_isKey 78 = .ok (.getfield 13, 3) := by decide +kernel
theorem dX13_isKey_81 : decode cX13_isKey 81 = .ok (.aload_n 0, 1) := by decide +kernel
theorem dX13_isKey_82 : decode cX13_isKey 82 = .ok (.getfield 23, 3) := by decide +kernel
theorem dX13_isKey_85 : decode cX13_isKey 85 = .ok (.iload_n 1, 1) := by decide +kernel
theorem dX13_isKey_86 : decode cX13_isKey 86 = .ok (.iaload, 1) := by decide +kernel
theorem dX13_isKey_87 : decode cX13_isKey 87 = .ok (.iload 6, 2) := by decide +kernel
theorem dX13_isKey_89 : decode cX13_isKey 89 = .ok (.iadd, 1) := by decide +kernel
theorem dX13_isKey_90 : decode cX13_isKey 90 = .ok (.baload, 1) := by decide +kernel
theorem dX13_isKey_91 : decode cX13_isKey 91 = .ok (.ldc_w 410, 3) := by decide +kernel
theorem dX13_isKey_94 : decode cX13_isKey 94 = .ok (.iload_n 3, 1) := by decide +kernel
theorem dX13_isKey_95 : decode cX13_isKey 95 = .ok (.iload 6, 2) := by decide +kernel
theorem dX13_isKey_97 : decode cX13_isKey 97 = .ok (.iadd, 1) := by decide +kernel
theorem dX13_isKey_98 : decode cX13_isKey 98 = .ok (.invokevirtual 406, 3) := by decide +kernel
theorem dX13_isKey_101 : decode cX13_isKey 101 = .ok (.if_icmp .ne 7, 3) := by decide +kernel
theorem dX13_isKey_104 : decode cX13_isKey 104 = .ok (.iconst 1, 1) := by decide +kernel
theorem dX13_isKey_105 : decode cX13_isKey 105 = .ok (.goto 4, 3) := by decide +kernel
theorem dX13_isKey_108 : decode cX13_isKey 108 = .ok (.iconst 0, 1) := by decide +kernel
theorem dX13_isKey_109 : decode cX13_isKey 109 = .ok (.istore 5, 2) := by decide +kernel
theorem dX13_isKey_111 : decode cX13_isKey 111 = .ok (.iinc 6 1, 3) := by decide +kernel
theorem dX13_isKey_114 : decode cX13_isKey 114 = .ok (.goto (-48), 3) := by decide +kernel
theorem dX13_isKey_117 : decode cX13_isKey 117 = .ok (.iload 5, 2) := by decide +kernel
theorem dX13_isKey_119 : decode cX13_isKey 119 = .ok (.ifCond .eq 5, 3) := by decide +kernel
theorem dX13_isKey_122 : decode cX13_isKey 122 = .ok (.iconst 1, 1) := by decide +kernel
theorem dX13_isKey_123 : decode cX13_isKey 123 = .ok (.ireturn, 1) := by decide +kernel
theorem dX13_isKey_124 : decode cX13_isKey 124 = .ok (.iload 4, 2) := by decide +kernel
theorem dX13_isKey_126 : decode cX13_isKey 126 = .ok (.iconst 1, 1) := by decide +kernel
theorem dX13_isKey_127 : decode cX13_isKey 127 = .ok (.iadd, 1) := by decide +kernel
theorem dX13_isKey_128 : decode cX13_isKey 128 = .ok (.istore_n 3, 1) := by decide +kernel
theorem dX13_isKey_129 : decode cX13_isKey 129 = .ok (.goto (-113), 3) := by decide +kernel
theorem dX13_isKey_132 : decode cX13_isKey 132 = .ok (.iconst 0, 1) := by decide +kernel
theorem dX13_isKey_133 : decode cX13_isKey 133 = .ok (.ireturn, 1) := by decide +kernel
theorem dX13_readWords_15 : decode cX13_readWords 15 = .ok (.aload_n 0, 1) := by decide +kernel
theorem dX13_readWords_16 : decode cX13_readWords 16 = .ok (.getfield 392, 3) := by decide +kernel
theorem dX13_readWords_19 : decode cX13_readWords 19 = .ok (.ifCond .ne 424, 3) := by decide +kernel
theorem dX13_readWords_22 : decode cX13_readWords 22 = .ok (.aload_n 0, 1) := by decide +kernel
theorem dX13_readWords_23 : decode cX13_readWords 23 = .ok (.getfield 13, 3) := by decide +kernel
theorem dX13_readWords_26 : decode cX13_readWords 26 = .ok (.iload_n 1, 1) := by decide +kernel
theorem dX13_readWords_27 : decode cX13_readWords 27 = .ok (.baload, 1) := by decide +kernel
theorem dX13_readWords_28 : decode cX13_readWords 28 = .ok (.istore_n 2, 1) := by decide +kernel
theorem dX13_readWords_29 : decode cX13_readWords 29 = .ok (.iload_n 1, 1) := by decide +kernel
theorem dX13_readWords_30 : decode cX13_readWords 30 = .ok (.istore_n 3, 1) := by decide +kernel
theorem dX13_readWords_31 : decode cX13_readWords 31 = .ok (.iload_n 2, 1) := by decide +kernel
theorem dX13_readWords_32 : decode cX13_readWords 32 = .ok (.bipush 32, 2) := by decide +kernel
theorem dX13_readWords_34 : decode cX13_readWords 34 = .ok (.if_icmp .eq 9, 3) := by decide +kernel
theorem dX13_readWords_37 : decode cX13_readWords 37 = .ok (.iload_n 2, 1) := by decide +kernel
theorem dX13_readWords_38 : decode cX13_readWords 38 = .ok (.bipush 10, 2) := by decide +kernel
theorem dX13_readWords_40 : decode cX13_readWords 40 = .ok (.if_icmp .ne 9, 3) := by decide +kernel
theorem dX13_readWords_43 : decode cX13_readWords 43 = .ok (.iinc 1 1, 3) := by decide +kernel
theorem dX13_readWords_46 : decode cX13_readWords 46 = .ok (.goto (-39), 3) := by decide +kernel
theorem dX13_readWords_49 : decode cX13_readWords 49 = .ok (.iload_n 2, 1) := by decide +kernel
theorem dX13_readWords_50 : decode cX13_readWords 50 = .ok (.invokestatic 415, 3) := by decide +kernel
theorem dX13_readWords_53 : decode cX13_readWords 53 = .ok (.ifCond .eq 101, 3) := by decide +kernel
theorem dX13_readWords_56 : decode cX13_readWords 56 = .ok (.iload_n 3, 1) := by decide +kernel
theorem dX13_readWords_57 : decode cX13_readWords 57 = .ok (.aload_n 0, 1) := by decide +kernel
theorem dX13_readWords_58 : decode cX13_readWords 58 = .ok (.getfield 412, 3) := by decide +kernel
theorem dX13_readWords_61 : decode cX13_readWords 61 = .ok (.if_icmp .ge 44, 3) := by decide +kernel
theorem dX13_readWords_64 : decode cX13_readWords 64 = .ok (.aload_n 0, 1) := by decide +kernel
theorem dX13_readWords_65 : decode cX13_readWords 65 = .ok (.getfield 13, 3) := by decide +kernel
theorem dX13_readWords_68 : decode cX13_readWords 68 = .ok (.iload_n 3, 1) := by decide +kernel
theorem dX13_readWords_69 : decode cX13_readWords 69 = .ok (.baload, 1) := by decide +kernel
theorem dX13_readWords_70 : decode cX13_readWords 70 = .ok (.invokestatic 415, 3) := by decide +kernel
theorem dX13_readWords_73 : decode cX13_readWords 73 = .ok (.ifCond .ne 26, 3) := by decide +kernel
theorem dX13_readWords_76 : decode cX13_readWords 76 = .ok (.aload_n 0, 1) := by decide +kernel
theorem dX13_readWords_77 : decode cX13_readWords 77 = .ok (.getfield 13, 3) := by decide +kernel
theorem dX13_readWords_80 : decode cX13_readWords 80 = .ok (.iload_n 3, 1) := by decide +kernel
theorem dX13_readWords_81 : decode cX13_readWords 81 = .ok (.baload, 1) := by decide +kernel
theorem dX13_readWords_82 : decode cX13_readWords 82 = .ok (.invokestatic 419, 3) := by decide +kernel
theorem dX13_readWords_85 : decode cX13_readWords 85 = .ok (.ifCond .ne 14, 3) := by decide +kernel
theorem dX13_readWords_88 : decode cX13_readWords 88 = .ok (.aload_n 0, 1) := by decide +kernel
theorem dX13_readWords_89 : decode cX13_readWords 89 = .ok (.getfield 13, 3) := by decide +kernel
theorem dX13_readWords_92 : decode cX13_readWords 92 = .ok (.iload_n 3, 1) := by decide +kernel
theorem dX13_readWords_93 : decode cX13_readWords 93 = .ok (.baload, 1) := by decide +kernel
theorem dX13_readWords_94 : decode cX13_readWords 94 = .ok (.bipush 95, 2) := by decide +kernel
theorem dX13_readWords_96 : decode cX13_readWords 96 = .ok (.if_icmp .ne 9, 3) := by decide +kernel
theorem dX13_readWords_99 : decode cX13_readWords 99 = .ok (.iinc 3 1, 3) := by decide +kernel
theorem dX13_readWords_102 : decode cX13_readWords 102 = .ok (.goto (-46), 3) := by decide +kernel
theorem dX13_readWords_105 : decode cX13_readWords 105 = .ok (.iload_n 3, 1) := by decide +kernel
theorem dX13_readWords_106 : decode cX13_readWords 106 = .ok (.iload_n 1, 1) := by decide +kernel
theorem dX13_readWords_107 : decode cX13_readWords 107 = .ok (.isub, 1) := by decide +kernel
theorem dX13_readWords_108 : decode cX13_readWords 108 = .ok (.bipush 10, 2) := by decide +kernel
theorem dX13_readWords_110 : decode cX13_readWords 110 = .ok (.if_icmp .le 9, 3) := by decide +kernel
theorem dX13_readWords_113 : decode cX13_readWords 113 = .ok (.aload_n 0, 1) := by decide +kernel
theorem dX13_readWords_114 : decode cX13_readWords 114 = .ok (.iconst 1, 1) := by decide +kernel
theorem dX13_readWords_115 : decode cX13_readWords 115 = .ok (.iload_n 1, 1) := by decide +kernel
theorem dX13_readWords_116 : decode cX13_readWords 116 = .ok (.invokevirtual 422, 3) := by decide +kernel
theorem dX13_readWords_119 : decode cX13_readWords 119 = .ok (.aload_n 0, 1) := by decide +kernel
theorem dX13_readWords_120 : decode cX13_readWords 120 = .ok (.iconst 1, 1) := by decide +kernel
theorem dX13_readWords_121 : decode cX13_readWords 121 = .ok (.iload_n 1, 1) := by decide +kernel
theorem dX13_readWords_122 : decode cX13_readWords 122 = .ok (.iload_n 3, 1) := by decide +kernel
theorem dX13_readWords_123 : decode cX13_readWords 123 = .ok (.invokevirtual 426, 3) := by decide +kernel
theorem dX13_readWords_126 : decode cX13_readWords 126 = .ok (.aload_n 0, 1) := by decide +kernel
theorem dX13_readWords_127 : decode cX13_readWords 127 = .ok (.aload_n 0, 1) := by decide +kernel
theorem dX13_readWords_128 : decode cX13_readWords 128 = .ok (.getfield 398, 3) := by decide +kernel
theorem dX13_readWords_131 : decode cX13_readWords 131 = .ok (.iconst 1, 1) := by decide +kernel
theorem dX13_readWords_132 : decode cX13_readWords 132 = .ok (.isub, 1) := by decide +kernel
theorem dX13_readWords_133 : decode cX13_readWords 133 = .ok (.invokevirtual 430, 3) := by decide +kernel
theorem dX13_readWords_136 : decode cX13_readWords 136 = .ok (.ifCond .eq 302, 3) := by decide +kernel
theorem dX13_readWords_139 : decode cX13_readWords 139 = .ok (.aload_n 0, 1) := by decide +kernel
theorem dX13_readWords_140 : decode cX13_readWords 140 = .ok (.getfield 19, 3) := by decide +kernel
theorem dX13_readWords_143 : decode cX13_readWords 143 = .ok (.aload_n 0, 1) := by decide +kernel
theorem dX13_readWords_144 : decode cX13_readWords 144 = .ok (.getfield 398, 3) := by decide +kernel
theorem dX13_readWords_147 : decode cX13_readWords 147 = .ok (.iconst 1, 1) := by decide +kernel
theorem dX13_readWords_148 : decode cX13_readWords 148 = .ok (.isub, 1) := by decide +kernel
theorem dX13_readWords_149 : decode cX13_readWords 149 = .ok (.iconst 3, 1) := by decide +kernel
theorem dX13_readWords_150 : decode cX13_readWords 150 = .ok (.iastore, 1) := by decide +kernel
theorem dX13_readWords_151 : decode cX13_readWords 151 = .ok (.goto 287, 3) := by decide +kernel
theorem dX13_readWords_154 : decode cX13_readWords 154 = .ok (.iload_n 2, 1) := by decide +kernel
theorem dX13_readWords_155 : decode cX13_readWords 155 = .ok (.invokestatic 419, 3) := by decide +kernel
theorem dX13_readWords_158 : decode cX13_readWords 158 = .ok (.ifCond .eq 52, 3) := by decide +kernel
theorem dX13_readWords_161 : decode cX13_readWords 161 = .ok (.iload_n 3, 1) := by decide +kernel
theorem dX13_readWords_162 : decode cX13_readWords 162 = .ok (.aload_n 0, 1) := by decide +kernel
theorem dX13_readWords_163 : decode cX13_readWords 163 = .ok (.getfield 412, 3) := by decide +kernel
theorem dX13_readWords_166 : decode cX13_readWords 166 = .ok (.if_icmp .ge 21, 3) := by decide +kernel
theorem dX13_readWords_169 : decode cX13_readWords 169 = .ok (.aload_n 0, 1) := by decide +kernel
theorem dX13_readWords_170 : decode cX13_readWords 170 = .ok (.getfield 13, 3) := by decide +kernel
theorem dX13_readWords_173 : decode cX13_readWords 173 = .ok (.iload_n 3, 1) := by decide +kernel
theorem dX13_readWords_174 : decode cX13_readWords 174 = .ok (.baload, 1) := by decide +kernel
theorem dX13_readWords_175 : decode cX13_readWords 175 = .ok (.invokestatic 419, 3) := by decide +kernel
theorem dX13_readWords_178 : decode cX13_readWords 178 = .ok (.ifCond .eq 9, 3) := by decide +kernel
theorem dX13_readWords_181 : decode cX13_readWords 181 = .ok (.iinc 3 1, 3) := by decide +kernel
theorem dX13_readWords_184 : decode cX13_readWords 184 = .ok (.goto (-23), 3) := by decide +kernel
theorem dX13_readWords_187 : decode cX13_readWords 187 = .ok (.iload_n 3, 1) := by decide +kernel
theorem dX13_readWords_188 : decode cX13_readWords 188 = .ok (.iload_n 1, 1) := by decide +kernel
theorem dX13_readWords_189 : decode cX13_readWords 189 = .ok (.isub, 1) := by decide +kernel
theorem dX13_readWords_190 : decode cX13_readWords 190 = .ok (.iconst 4, 1) := by decide +kernel
theorem dX13_readWords_191 : decode cX13_readWords 191 = .ok (.if_icmp .le 9, 3) := by decide +kernel
theorem dX13_readWords_194 : decode cX13_readWords 194 = .ok (.aload_n 0, 1) := by decide +kernel
theorem dX13_readWords_195 : decode cX13_readWords 195 = .ok (.iconst 1, 1) := by decide +kernel
theorem dX13_readWords_196 : decode cX13_readWords 196 = .ok (.iload_n 1, 1) := by decide +kernel
theorem dX13_readWords_197 : decode cX13_readWords 197 = .ok (.invokevirtual 422, 3) := by decide +kernel
theorem dX13_readWords_200 : decode cX13_readWords 200 = .ok (.aload_n 0, 1) := by decide +kernel
theorem dX13_readWords_201 : decode cX13_readWords 201 = .ok (.iconst 2, 1) := by decide +kernel
theorem dX13_readWords_202 : decode cX13_readWords 202 = .ok (.iload_n 1, 1) := by decide +kernel
theorem dX13_readWords_203 : decode cX13_readWords 203 = .ok (.iload_n 3, 1) := by decide +kernel
theorem dX13_readWords_204 : decode cX13_readWords 204 = .ok (.invokevirtual 426, 3) := by decide +kernel
theorem dX13_readWords_207 : decode cX13_readWords 207 = .ok (.goto 231, 3) := by decide +kernel
theorem dX13_readWords_210 : decode cX13_readWords 210 = .ok (.iload_n 1, 1) := by decide +kernel
theorem dX13_readWords_211 : decode cX13_readWords 211 = .ok (.iconst 1, 1) := by decide +kernel
theorem dX13_readWords_212 : decode cX13_readWords 212 = .ok (.iadd, 1) := by decide +kernel
theorem dX13_readWords_213 : decode cX13_readWords 213 = .ok (.aload_n 0, 1) := by decide +kernel
theorem dX13_readWords_214 : decode cX13_readWords 214 = .ok (.getfield 412, 3) := by decide +kernel
theorem dX13_readWords_217 : decode cX13_readWords 217 = .ok (.if_icmp .ge 14, 3) := by decide +kernel
theorem dX13_readWords_220 : decode cX13_readWords 220 = .ok (.aload_n 0, 1) := by decide +kernel
theorem dX13_readWords_221 : decode cX13_readWords 221 = .ok (.getfield 13, 3) := by decide +kernel
theorem dX13_readWords_224 : decode cX13_readWords 224 = .ok (.iload_n 1, 1) := by decide +kernel
theorem dX13_readWords_225 : decode cX13_readWords 225 = .ok (.iconst 1, 1) := by decide +kernel
theorem dX13_readWords_226 : decode cX13_readWords 226 = .ok (.iadd, 1) := by decide +kernel
theorem dX13_readWords_227 : decode cX13_readWords 227 = .ok (.baload, 1) := by decide +kernel
theorem dX13_readWords_228 : decode cX13_readWords 228 = .ok (.goto 4, 3) := by decide +kernel
theorem dX13_readWords_231 : decode cX13_readWords 231 = .ok (.iconst 0, 1) := by decide +kernel
theorem dX13_readWords_232 : decode cX13_readWords 232 = .ok (.istore 4, 2) := by decide +kernel
theorem dX13_readWords_234 : decode cX13_readWords 234 = .ok (.iload_n 2, 1) := by decide +kernel
theorem dX13_readWords_235 : decode cX13_readWords 235 = .ok (.bipush 60, 2) := by decide +kernel
theorem dX13_readWords_237 : decode cX13_readWords 237 = .ok (.if_icmp .eq 9, 3) := by decide +kernel
theorem dX13_readWords_240 : decode cX13_readWords 240 = .ok (.iload_n 2, 1) := by decide +kernel
theorem dX13_readWords_241 : decode cX13_readWords 241 = .ok (.bipush 62, 2) := by decide +kernel
theorem dX13_readWords_243 : decode cX13_readWords 243 = .ok (.if_icmp .ne 10, 3) := by decide +kernel
theorem dX13_readWords_246 : decode cX13_readWords 246 = .ok (.iload 4, 2) := by decide +kernel
theorem dX13_readWords_248 : decode cX13_readWords 248 = .ok (.bipush 61, 2) := by decide +kernel
theorem dX13_readWords_250 : decode cX13_readWords 250 = .ok (.if_icmp .eq 42, 3) := by decide +kernel
theorem dX13_readWords_253 : decode cX13_readWords 253 = .ok (.iload_n 2, 1) := by decide +kernel
theorem dX13_readWords_254 : decode cX13_readWords 254 = .ok (.bipush 38, 2) := by decide +kernel
theorem dX13_readWords_256 : decode cX13_readWords 256 = .ok (.if_icmp .ne 10, 3) := by decide +kernel
theorem dX13_readWords_259 : decode cX13_readWords 259 = .ok (.iload 4, 2) := by decide +kernel
theorem dX13_readWords_261 : decode cX13_readWords 261 = .ok (.bipush 38, 2) := by decide +kernel
theorem dX13_readWords_263 : decode cX13_readWords 263 = .ok (.if_icmp .eq 29, 3) := by decide +kernel
theorem dX13_readWords_266 : decode cX13_readWords 266 = .ok (.iload_n 2, 1) := by decide +kernel
theorem dX13_readWords_267 : decode cX13_readWords 267 = .ok (.bipush 124, 2) := by decide +kernel
theorem dX13_readWords_269 : decode cX13_readWords 269 = .ok (.if_icmp .ne 10, 3) := by decide +kernel
theorem dX13_readWords_272 : decode cX13_readWords 272 = .ok (.iload 4, 2) := by decide +kernel
theorem dX13_readWords_274 : decode cX13_readWords 274 = .ok (.bipush 124, 2) := by decide +kernel
theorem dX13_readWords_276 : decode cX13_readWords 276 = .ok (.if_icmp .eq 16, 3) := by decide +kernel
theorem dX13_readWords_279 : decode cX13_readWords 279 = .ok (.iload_n 2, 1) := by decide +kernel
theorem dX13_readWords_280 : decode cX13_readWords 280 = .ok (.bipush 45, 2) := by decide +kernel
theorem dX13_readWords_282 : decode cX13_readWords 282 = .ok (.if_icmp .ne 14, 3) := by decide +kernel
theorem dX13_readWords_285 : decode cX13_readWords 285 = .ok (.iload 4, 2) := by decide +kernel
theorem dX13_readWords_287 : decode cX13_readWords 287 = .ok (.bipush 62, 2) := by decide +kernel
theorem dX13_readWords_289 : decode cX13_readWords 289 = .ok (.if_icmp .ne 7, 3) := by decide +kernel
theorem dX13_readWords_292 : decode cX13_readWords 292 = .ok (.iconst 1, 1) := by decide +kernel
theorem dX13_readWords_293 : decode cX13_readWords 293 = .ok (.goto 4, 3) := by decide +kernel
theorem dX13_readWords_296 : decode cX13_readWords 296 = .ok (.iconst 0, 1) := by decide +kernel
theorem dX13_readWords_297 : decode cX13_readWords 297 = .ok (.istore 5, 2) := by decide +kernel
theorem dX13_readWords_299 : decode cX13_readWords 299 = .ok (.iload_n 2, 1) := by decide +kernel
theorem dX13_readWords_300 : decode cX13_readWords 300 = .ok (.bipush 40, 2) := by decide +kernel
theorem dX13_readWords_302 : decode cX13_readWords 302 = .ok (.if_icmp .eq 93, 3) := by decide +kernel
theorem dX13_readWords_305 : decode cX13_readWords 305 = .ok (.iload_n 2, 1) := by decide +kernel
theorem dX13_readWords_306 : decode cX13_readWords 306 = .ok (.bipush 41, 2) := by decide +kernel
theorem dX13_readWords_308 : decode cX13_readWords 308 = .ok (.if_icmp .eq 87, 3) := by decide +kernel
theorem dX13_readWords_311 : decode cX13_readWords 311 = .ok (.iload_n 2, 1) := by decide +kernel
theorem dX13_readWords_312 : decode cX13_readWords 312 = .ok (.bipush 91, 2) := by decide +kernel
theorem dX13_readWords_314 : decode cX13_readWords 314 = .ok (.if_icmp .eq 81, 3) := by decide +kernel
theorem dX13_readWords_317 : decode cX13_readWords 317 = .ok (.iload_n 2, 1) := by decide +kernel
theorem dX13_readWords_318 : decode cX13_readWords 318 = .ok (.bipush 93, 2) := by decide +kernel
theorem dX13_readWords_320 : decode cX13_readWords 320 = .ok (.if_icmp .eq 75, 3) := by decide +kernel
theorem dX13_readWords_323 : decode cX13_readWords 323 = .ok (.iload_n 2, 1) := by decide +kernel
theorem dX13_readWords_324 : decode cX13_readWords 324 = .ok (.bipush 44, 2) := by decide +kernel
theorem dX13_readWords_326 : decode cX13_readWords 326 = .ok (.if_icmp .eq 69, 3) := by decide +kernel
theorem dX13_readWords_329 : decode cX13_readWords 329 = .ok (.iload_n 2, 1) := by decide +kernel
theorem dX13_readWords_330 : decode cX13_readWords 330 = .ok (.bipush 59, 2) := by decide +kernel
theorem dX13_readWords_332 : decode cX13_readWords 332 = .ok (.if_icmp .eq 63, 3) := by decide +kernel
theorem dX13_readWords_335 : decode cX13_readWords 335 = .ok (.iload_n 2, 1) := by decide +kernel
theorem dX13_readWords_336 : decode cX13_readWords 336 = .ok (.bipush 58, 2) := by decide +kernel
theorem dX13_readWords_338 : decode cX13_readWords 338 = .ok (.if_icmp .eq 57, 3) := by decide +kernel
theorem dX13_readWords_341 : decode cX13_readWords 341 = .ok (.iload_n 2, 1) := by decide +kernel
theorem dX13_readWords_342 : decode cX13_readWords 342 = .ok (.bipush 61, 2) := by decide +kernel
theorem dX13_readWords_344 : decode cX13_readWords 344 = .ok (.if_icmp .eq 51, 3) := by decide +kernel
theorem dX13_readWords_347 : decode cX13_readWords 347 = .ok (.iload_n 2, 1) := by decide +kernel
theorem dX13_readWords_348 : decode cX13_readWords 348 = .ok (.bipush 35, 2) := by decide +kernel
theorem dX13_readWords_350 : decode cX13_readWords 350 = .ok (.if_icmp .eq 45, 3) := by decide +kernel
theorem dX13_readWords_353 : decode cX13_readWords 353 = .ok (.iload_n 2, 1) := by decide +kernel
theorem dX13_readWords_354 : decode cX13_readWords 354 = .ok (.bipush 60, 2) := by decide +kernel
theorem dX13_readWords_356 : decode cX13_readWords 356 = .ok (.if_icmp .eq 39, 3) := by decide +kernel
theorem dX13_readWords_359 : decode cX13_readWords 359 = .ok (.iload_n 2, 1) := by decide +kernel
theorem dX13_readWords_360 : decode cX13_readWords 360 = .ok (.bipush 62, 2) := by decide +kernel
theorem dX13_readWords_362 : decode cX13_readWords 362 = .ok (.if_icmp .eq 33, 3) := by decide +kernel
theorem dX13_readWords_365 : decode cX13_readWords 365 = .ok (.iload_n 2, 1) := by decide +kernel
theorem dX13_readWords_366 : decode cX13_readWords 366 = .ok (.bipush 43, 2) := by decide +kernel
theorem dX13_readWords_368 : decode cX13_readWords 368 = .ok (.if_icmp .eq 27, 3) := by decide +kernel
theorem dX13_readWords_371 : decode cX13_readWords 371 = .ok (.iload_n 2, 1) := by decide +kernel
theorem dX13_readWords_372 : decode cX13_readWords 372 = .ok (.bipush 45, 2) := by decide +kernel
theorem dX13_readWords_374 : decode cX13_readWords 374 = .ok (.if_icmp .eq 21, 3) := by decide +kernel
theorem dX13_readWords_377 : decode cX13_readWords 377 = .ok (.iload_n 2, 1) := by decide +kernel
theorem dX13_readWords_378 : decode cX13_readWords 378 = .ok (.bipush 42, 2) := by decide +kernel
theorem dX13_readWords_380 : decode cX13_readWords 380 = .ok (.if_icmp .eq 15, 3) := by decide +kernel
theorem dX13_readWords_383 : decode cX13_readWords 383 = .ok (.iload_n 2, 1) := by decide +kernel
theorem dX13_readWords_384 : decode cX13_readWords 384 = .ok (.bipush 47, 2) := by decide +kernel
theorem dX13_readWords_386 : decode cX13_readWords 386 = .ok (.if_icmp .eq 9, 3) := by decide +kernel
theorem dX13_readWords_389 : decode cX13_readWords 389 = .ok (.iload_n 2, 1) := by decide +kernel
theorem dX13_readWords_390 : decode cX13_readWords 390 = .ok (.bipush 37, 2) := by decide +kernel
theorem dX13_readWords_392 : decode cX13_readWords 392 = .ok (.if_icmp .ne 7, 3) := by decide +kernel
theorem dX13_readWords_395 : decode cX13_readWords 395 = .ok (.iconst 1, 1) := by decide +kernel
theorem dX13_readWords_396 : decode cX13_readWords 396 = .ok (.goto 4, 3) := by decide +kernel
theorem dX13_readWords_399 : decode cX13_readWords 399 = .ok (.iconst 0, 1) := by decide +kernel
theorem dX13_readWords_400 : decode cX13_readWords 400 = .ok (.istore 6, 2) := by decide +kernel
theorem dX13_readWords_402 : decode cX13_readWords 402 = .ok (.iload 5, 2) := by decide +kernel
theorem dX13_readWords_404 : decode cX13_readWords 404 = .ok (.ifCond .ne 14, 3) := by decide +kernel
theorem dX13_readWords_407 : decode cX13_readWords 407 = .ok (.iload 6, 2) := by decide +kernel
theorem dX13_readWords_409 : decode cX13_readWords 409 = .ok (.ifCond .ne 9, 3) := by decide +kernel
theorem dX13_readWords_412 : decode cX13_readWords 412 = .ok (.aload_n 0, 1) := by decide +kernel
theorem dX13_readWords_413 : decode cX13_readWords 413 = .ok (.iconst 1, 1) := by decide +kernel
theorem dX13_readWords_414 : decode cX13_readWords 414 = .ok (.iload_n 1, 1) := by decide +kernel
theorem dX13_readWords_415 : decode cX13_readWords 415 = .ok (.invokevirtual 422, 3) := by decide +kernel
theorem dX13_readWords_418 : decode cX13_readWords 418 = .ok (.iload_n 1, 1) := by decide +kernel
theorem dX13_readWords_419 : decode cX13_readWords 419 = .ok (.iload 5, 2) := by decide +kernel
theorem dX13_readWords_421 : decode cX13_readWords 421 = .ok (.ifCond .eq 7, 3) := by decide +kernel
theorem dX13_readWords_424 : decode cX13_readWords 424 = .ok (.iconst 2, 1) := by decide +kernel
theorem dX13_readWords_425 : decode cX13_readWords 425 = .ok (.goto 4, 3) := by decide +kernel
theorem dX13_readWords_428 : decode cX13_readWords 428 = .ok (.iconst 1, 1) := by decide +kernel
theorem dX13_readWords_429 : decode cX13_readWords 429 = .ok (.iadd, 1) := by decide +kernel
theorem dX13_readWords_430 : decode cX13_readWords 430 = .ok (.istore_n 3, 1) := by decide +kernel
theorem dX13_readWords_431 : decode cX13_readWords 431 = .ok (.aload_n 0, 1) := by decide +kernel
theorem dX13_readWords_432 : decode cX13_readWords 432 = .ok (.iconst 3, 1) := by decide +kernel
theorem dX13_readWords_433 : decode cX13_readWords 433 = .ok (.iload_n 1, 1) := by decide +kernel
theorem dX13_readWords_434 : decode cX13_readWords 434 = .ok (.iload_n 3, 1) := by decide +kernel
theorem dX13_readWords_435 : decode cX13_readWords 435 = .ok (.invokevirtual 426, 3) := by decide +kernel
theorem dX13_readWords_438 : decode cX13_readWords 438 = .ok (.iload_n 3, 1) := by decide +kernel
theorem dX13_readWords_439 : decode cX13_readWords 439 = .ok (.istore_n 1, 1) := by decide +kernel
theorem dX13_readWords_440 : decode cX13_readWords 440 = .ok (.goto (-433), 3) := by decide +kernel
theorem dX13_here_19 : decode cX13_here 19 = .ok (.iconst 1, 1) := by decide +kernel
theorem dX13_here_20 : decode cX13_here 20 = .ok (.goto 4, 3) := by decide +kernel
theorem dX13_skip_10 : decode cX13_skip 10 = .ok (.aload_n 0, 1) := by decide +kernel
theorem dX13_skip_11 : decode cX13_skip 11 = .ok (.dup, 1) := by decide +kernel
theorem dX13_skip_12 : decode cX13_skip 12 = .ok (.getfield 433, 3) := by decide +kernel
theorem dX13_skip_15 : decode cX13_skip 15 = .ok (.iconst 1, 1) := by decide +kernel
theorem dX13_skip_16 : decode cX13_skip 16 = .ok (.iadd, 1) := by decide +kernel
theorem dX13_skip_17 : decode cX13_skip 17 = .ok (.putfield 433, 3) := by decide +kernel
theorem dX13_numberOf_0 : decode cX13_numberOf 0 = .ok (.iconst 0, 1) := by decide +kernel
theorem dX13_numberOf_1 : decode cX13_numberOf 1 = .ok (.istore_n 2, 1) := by decide +kernel
theorem dX13_numberOf_2 : decode cX13_numberOf 2 = .ok (.aload_n 0, 1) := by decide +kernel
theorem dX13_numberOf_3 : decode cX13_numberOf 3 = .ok (.getfield 23, 3) := by decide +kernel
theorem dX13_numberOf_6 : decode cX13_numberOf 6 = .ok (.iload_n 1, 1) := by decide +kernel
theorem dX13_numberOf_7 : decode cX13_numberOf 7 = .ok (.iaload, 1) := by decide +kernel
theorem dX13_numberOf_8 : decode cX13_numberOf 8 = .ok (.istore_n 3, 1) := by decide +kernel
theorem dX13_numberOf_9 : decode cX13_numberOf 9 = .ok (.iload_n 3, 1) := by decide +kernel
theorem dX13_numberOf_10 : decode cX13_numberOf 10 = .ok (.aload_n 0, 1) := by decide +kernel
theorem dX13_numberOf_11 : decode cX13_numberOf 11 = .ok (.getfield 26, 3) := by decide +kernel
theorem dX13_numberOf_14 : decode cX13_numberOf 14 = .ok (.iload_n 1, 1) := by decide +kernel
theorem dX13_numberOf_15 : decode cX13_numberOf 15 = .ok (.iaload, 1) := by decide +kernel
theorem dX13_numberOf_16 : decode cX13_numberOf 16 = .ok (.if_icmp .ge 24, 3) := by decide +kernel
theorem dX13_numberOf_19 : decode cX13_numberOf 19 = .ok (.bipush 10, 2) := by decide +kernel
theorem dX13_numberOf_21 : decode cX13_numberOf 21 = .ok (.iload_n 2, 1) := by decide +kernel
theorem dX13_numberOf_22 : decode cX13_numberOf 22 = .ok (.imul, 1) := by decide +kernel
theorem dX13_numberOf_23 : decode cX13_numberOf 23 = .ok (.aload_n 0, 1) := by decide +kernel
theorem dX13_numberOf_24 : decode cX13_numberOf 24 = .ok (.getfield 13, 3) := by decide +kernel
theorem dX13_numberOf_27 : decode cX13_numberOf 27 = .ok (.iload_n 3, 1) := by decide +kernel
theorem dX13_numberOf_28 : decode cX13_numberOf 28 = .ok (.baload, 1) := by decide +kernel
theorem dX13_numberOf_29 : decode cX13_numberOf 29 = .ok (.iadd, 1) := by decide +kernel
theorem dX13_numberOf_30 : decode cX13_numberOf 30 = .ok (.bipush 48, 2) := by decide +kernel
theorem dX13_numberOf_32 : decode cX13_numberOf 32 = .ok (.isub, 1) := by decide +kernel
theorem dX13_numberOf_33 : decode cX13_numberOf 33 = .ok (.istore_n 2, 1) := by decide +kernel
theorem dX13_numberOf_34 : decode cX13_numberOf 34 = .ok (.iinc 3 1, 3) := by decide +kernel
theorem dX13_numberOf_37 : decode cX13_numberOf 37 = .ok (.goto (-28), 3) := by decide +kernel
theorem dX13_numberOf_40 : decode cX13_numberOf 40 = .ok (.iload_n 2, 1) := by decide +kernel
theorem dX13_numberOf_41 : decode cX13_numberOf 41 = .ok (.ireturn, 1) := by decide +kernel
theorem dX13_number_0 : decode cX13_number 0 = .ok (.aload_n 0, 1) := by decide +kernel
theorem dX13_number_1 : decode cX13_number 1 = .ok (.getfield 392, 3) := by decide +kernel
theorem dX13_number_4 : decode cX13_number 4 = .ok (.ifCond .eq 5, 3) := by decide +kernel
theorem dX13_number_7 : decode cX13_number 7 = .ok (.iconst 0, 1) := by decide +kernel
theorem dX13_number_8 : decode cX13_number 8 = .ok (.ireturn, 1) := by decide +kernel
theorem dX13_number_9 : decode cX13_number 9 = .ok (.aload_n 0, 1) := by decide +kernel
theorem dX13_number_10 : decode cX13_number 10 = .ok (.getfield 19, 3) := by decide +kernel
theorem dX13_number_13 : decode cX13_number 13 = .ok (.aload_n 0, 1) := by decide +kernel
theorem dX13_number_14 : decode cX13_number 14 = .ok (.getfield 433, 3) := by decide +kernel
theorem dX13_number_17 : decode cX13_number 17 = .ok (.iaload, 1) := by decide +kernel
theorem dX13_number_18 : decode cX13_number 18 = .ok (.iconst 2, 1) := by decide +kernel
theorem dX13_number_19 : decode cX13_number 19 = .ok (.if_icmp .eq 9, 3) := by decide +kernel
theorem dX13_number_22 : decode cX13_number 22 = .ok (.aload_n 0, 1) := by decide +kernel
theorem dX13_number_23 : decode cX13_number 23 = .ok (.invokevirtual 450, 3) := by decide +kernel
theorem dX13_number_26 : decode cX13_number 26 = .ok (.iconst 0, 1) := by decide +kernel
theorem dX13_number_27 : decode cX13_number 27 = .ok (.ireturn, 1) := by decide +kernel
theorem dX13_number_28 : decode cX13_number 28 = .ok (.aload_n 0, 1) := by decide +kernel
theorem dX13_number_29 : decode cX13_number 29 = .ok (.dup, 1) := by decide +kernel
theorem dX13_number_30 : decode cX13_number 30 = .ok (.getfield 433, 3) := by decide +kernel
theorem dX13_number_33 : decode cX13_number 33 = .ok (.iconst 1, 1) := by decide +kernel
theorem dX13_number_34 : decode cX13_number 34 = .ok (.iadd, 1) := by decide +kernel
theorem dX13_number_35 : decode cX13_number 35 = .ok (.putfield 433, 3) := by decide +kernel
theorem dX13_number_38 : decode cX13_number 38 = .ok (.aload_n 0, 1) := by decide +kernel
theorem dX13_number_39 : decode cX13_number 39 = .ok (.aload_n 0, 1) := by decide +kernel
theorem dX13_number_40 : decode cX13_number 40 = .ok (.getfield 433, 3) := by decide +kernel
theorem dX13_number_43 : decode cX13_number 43 = .ok (.iconst 1, 1) := by decide +kernel
theorem dX13_number_44 : decode cX13_number 44 = .ok (.isub, 1) := by decide +kernel
theorem dX13_number_45 : decode cX13_number 45 = .ok (.invokevirtual 453, 3) := by decide +kernel
theorem dX13_number_48 : decode cX13_number 48 = .ok (.ireturn, 1) := by decide +kernel
theorem dX13_relation_0 : decode cX13_relation 0 = .ok (.aload_n 0, 1) := by decide +kernel
theorem dX13_relation_1 : decode cX13_relation 1 = .ok (.ldc_w 457, 3) := by decide +kernel
theorem dX13_relation_4 : decode cX13_relation 4 = .ok (.invokevirtual 443, 3) := by decide +kernel
theorem dX13_relation_7 : decode cX13_relation 7 = .ok (.ifCond .eq 5, 3) := by decide +kernel
theorem dX13_relation_10 : decode cX13_relation 10 = .ok (.iconst 0, 1) := by decide +kernel
theorem dX13_relation_11 : decode cX13_relation 11 = .ok (.ireturn, 1) := by decide +kernel
theorem dX13_relation_12 : decode cX13_relation 12 = .ok (.aload_n 0, 1) := by decide +kernel
theorem dX13_relation_13 : decode cX13_relation 13 = .ok (.ldc_w 459, 3) := by decide +kernel
theorem dX13_relation_16 : decode cX13_relation 16 = .ok (.invokevirtual 443, 3) := by decide +kernel
theorem dX13_relation_19 : decode cX13_relation 19 = .ok (.ifCond .eq 5, 3) := by decide +kernel
theorem dX13_relation_22 : decode cX13_relation 22 = .ok (.iconst 1, 1) := by decide +kernel
theorem dX13_relation_23 : decode cX13_relation 23 = .ok (.ireturn, 1) := by decide +kernel
theorem dX13_relation_24 : decode cX13_relation 24 = .ok (.aload_n 0, 1) := by decide +kernel
theorem dX13_relation_25 : decode cX13_relation 25 = .ok (.ldc_w 461, 3) := by decide +kernel
theorem dX13_relation_28 : decode cX13_relation 28 = .ok (.invokevirtual 443, 3) := by decide +kernel
theorem dX13_relation_31 : decode cX13_relation 31 = .ok (.ifCond .eq 5, 3) := by decide +kernel
theorem dX13_relation_34 : decode cX13_relation 34 = .ok (.iconst 2, 1) := by decide +kernel
theorem dX13_relation_35 : decode cX13_relation 35 = .ok (.ireturn, 1) := by decide +kernel
theorem dX13_relation_36 : decode cX13_relation 36 = .ok (.aload_n 0, 1) := by decide +kernel
theorem dX13_relation_37 : decode cX13_relation 37 = .ok (.ldc_w 463, 3) := by decide +kernel
theorem dX13_relation_40 : decode cX13_relation 40 = .ok (.invokevirtual 443, 3) := by decide +kernel
theorem dX13_relation_43 : decode cX13_relation 43 = .ok (.ifCond .eq 5, 3) := by decide +kernel
theorem dX13_relation_46 : decode cX13_relation 46 = .ok (.iconst 3, 1) := by decide +kernel
theorem dX13_relation_47 : decode cX13_relation 47 = .ok (.ireturn, 1) := by decide +kernel
theorem dX13_relation_48 : decode cX13_relation 48 = .ok (.aload_n 0, 1) := by decide +kernel
theorem dX13_relation_49 : decode cX13_relation 49 = .ok (.ldc_w 465, 3) := by decide +kernel
theorem dX13_relation_52 : decode cX13_relation 52 = .ok (.invokevirtual 443, 3) := by decide +kernel
theorem dX13_relation_55 : decode cX13_relation 55 = .ok (.ifCond .eq 5, 3) := by decide +kernel
theorem dX13_relation_58 : decode cX13_relation 58 = .ok (.iconst 4, 1) := by decide +kernel
theorem dX13_relation_59 : decode cX13_relation 59 = .ok (.ireturn, 1) := by decide +kernel
theorem dX13_relation_60 : decode cX13_relation 60 = .ok (.aload_n 0, 1) := by decide +kernel
theorem dX13_relation_61 : decode cX13_relation 61 = .ok (.ldc_w 467, 3) := by decide +kernel
theorem dX13_relation_64 : decode cX13_relation 64 = .ok (.invokevirtual 443, 3) := by decide +kernel
theorem dX13_relation_67 : decode cX13_relation 67 = .ok (.ifCond .eq 7, 3) := by decide +kernel
theorem dX13_relation_70 : decode cX13_relation 70 = .ok (.iconst 5, 1) := by decide +kernel
theorem dX13_relation_71 : decode cX13_relation 71 = .ok (.goto 4, 3) := by decide +kernel
theorem dX13_relation_74 : decode cX13_relation 74 = .ok (.iconst (-1), 1) := by decide +kernel
theorem dX13_relation_75 : decode cX13_relation 75 = .ok (.ireturn, 1) := by decide +kernel
theorem dX13_isArgument_0 : decode cX13_isArgument 0 = .ok (.aload_n 0, 1) := by decide +kernel
theorem dX13_isArgument_1 : decode cX13_isArgument 1 = .ok (.getfield 392, 3) := by decide +kernel
theorem dX13_isArgument_4 : decode cX13_isArgument 4 = .ok (.ifCond .ne 63, 3) := by decide +kernel
theorem dX13_isArgument_7 : decode cX13_isArgument 7 = .ok (.aload_n 0, 1) := by decide +kernel
theorem dX13_isArgument_8 : decode cX13_isArgument 8 = .ok (.getfield 19, 3) := by decide +kernel
theorem dX13_isArgument_11 : decode cX13_isArgument 11 = .ok (.aload_n 0, 1) := by decide +kernel
theorem dX13_isArgument_12 : decode cX13_isArgument 12 = .ok (.getfield 433, 3) := by decide +kernel
theorem dX13_isArgument_15 : decode cX13_isArgument 15 = .ok (.iaload, 1) := by decide +kernel
theorem dX13_isArgument_16 : decode cX13_isArgument 16 = .ok (.iconst 1, 1) := by decide +kernel
theorem dX13_isArgument_17 : decode cX13_isArgument 17 = .ok (.if_icmp .eq 46, 3) := by decide +kernel
theorem dX13_isArgument_20 : decode cX13_isArgument 20 = .ok (.aload_n 0, 1) := by decide +kernel
theorem dX13_isArgument_21 : decode cX13_isArgument 21 = .ok (.getfield 19, 3) := by decide +kernel
theorem dX13_isArgument_24 : decode cX13_isArgument 24 = .ok (.aload_n 0, 1) := by decide +kernel
theorem dX13_isArgument_25 : decode cX13_isArgument 25 = .ok (.getfield 433, 3) := by decide +kernel
theorem dX13_isArgument_28 : decode cX13_isArgument 28 = .ok (.iaload, 1) := by decide +kernel
theorem dX13_isArgument_29 : decode cX13_isArgument 29 = .ok (.iconst 2, 1) := by decide +kernel
theorem dX13_isArgument_30 : decode cX13_isArgument 30 = .ok (.if_icmp .eq 33, 3) := by decide +kernel
theorem dX13_isArgument_33 : decode cX13_isArgument 33 = .ok (.aload_n 0, 1) := by decide +kernel
theorem dX13_isArgument_34 : decode cX13_isArgument 34 = .ok (.ldc_w 582, 3) := by decide +kernel
theorem dX13_isArgument_37 : decode cX13_isArgument 37 = .ok (.invokevirtual 443, 3) := by decide +kernel
theorem dX13_isArgument_40 : decode cX13_isArgument 40 = .ok (.ifCond .ne 23, 3) := by decide +kernel
theorem dX13_isArgument_43 : decode cX13_isArgument 43 = .ok (.aload_n 0, 1) := by decide +kernel
theorem dX13_isArgument_44 : decode cX13_isArgument 44 = .ok (.ldc_w 578, 3) := by decide +kernel
theorem dX13_isArgument_47 : decode cX13_isArgument 47 = .ok (.invokevirtual 443, 3) := by decide +kernel
theorem dX13_isArgument_50 : decode cX13_isArgument 50 = .ok (.ifCond .ne 13, 3) := by decide +kernel
theorem dX13_isArgument_53 : decode cX13_isArgument 53 = .ok (.aload_n 0, 1) := by decide +kernel
theorem dX13_isArgument_54 : decode cX13_isArgument 54 = .ok (.ldc_w 580, 3) := by decide +kernel
theorem dX13_isArgument_57 : decode cX13_isArgument 57 = .ok (.invokevirtual 443, 3) := by decide +kernel
theorem dX13_isArgument_60 : decode cX13_isArgument 60 = .ok (.ifCond .eq 7, 3) := by decide +kernel
theorem dX13_isArgument_63 : decode cX13_isArgument 63 = .ok (.iconst 1, 1) := by decide +kernel
theorem dX13_isArgument_64 : decode cX13_isArgument 64 = .ok (.goto 4, 3) := by decide +kernel
theorem dX13_isArgument_67 : decode cX13_isArgument 67 = .ok (.iconst 0, 1) := by decide +kernel
theorem dX13_isArgument_68 : decode cX13_isArgument 68 = .ok (.ireturn, 1) := by decide +kernel
