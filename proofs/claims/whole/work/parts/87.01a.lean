theorem dX0_walk_0 : decode cX0_walk 0 = .ok (.aload_n 1, 1) := by decide +kernel
theorem dX0_walk_1 : decode cX0_walk 1 = .ok (.getfield 99, 3) := by decide +kernel
theorem dX0_walk_4 : decode cX0_walk 4 = .ok (.ifnull 17, 3) := by decide +kernel
theorem dX0_walk_7 : decode cX0_walk 7 = .ok (.aload_n 1, 1) := by decide +kernel
theorem dX0_walk_8 : decode cX0_walk 8 = .ok (.aload_n 2, 1) := by decide +kernel
theorem dX0_walk_9 : decode cX0_walk 9 = .ok (.putfield 95, 3) := by decide +kernel
theorem dX0_walk_12 : decode cX0_walk 12 = .ok (.aload_n 0, 1) := by decide +kernel
theorem dX0_walk_13 : decode cX0_walk 13 = .ok (.getfield 24, 3) := by decide +kernel
theorem dX0_walk_16 : decode cX0_walk 16 = .ok (.aload_n 1, 1) := by decide +kernel
theorem dX0_walk_17 : decode cX0_walk 17 = .ok (.invokevirtual 139, 3) := by decide +kernel
theorem dX0_walk_20 : decode cX0_walk 20 = .ok (.pop, 1) := by decide +kernel
theorem dX0_walk_21 : decode cX0_walk 21 = .ok (.aload_n 1, 1) := by decide +kernel
theorem dX0_walk_22 : decode cX0_walk 22 = .ok (.getfield 143, 3) := by decide +kernel
theorem dX0_walk_25 : decode cX0_walk 25 = .ok (.lookupswitch 157 #[(40, 147), (201, 125), (206, 97), (207, 104), (212, 83), (214, 111), (219, 90), (220, 147), (401, 118)], 83) := by decide +kernel
theorem dX0_walk_108 : decode cX0_walk 108 = .ok (.aload_n 0, 1) := by decide +kernel
theorem dX0_walk_109 : decode cX0_walk 109 = .ok (.aload_n 1, 1) := by decide +kernel
theorem dX0_walk_110 : decode cX0_walk 110 = .ok (.aload_n 2, 1) := by decide +kernel
theorem dX0_walk_111 : decode cX0_walk 111 = .ok (.invokevirtual 146, 3) := by decide +kernel
theorem dX0_walk_114 : decode cX0_walk 114 = .ok (.areturn, 1) := by decide +kernel
theorem dX0_walk_115 : decode cX0_walk 115 = .ok (.aload_n 0, 1) := by decide +kernel
theorem dX0_walk_116 : decode cX0_walk 116 = .ok (.aload_n 1, 1) := by decide +kernel
theorem dX0_walk_117 : decode cX0_walk 117 = .ok (.aload_n 2, 1) := by decide +kernel
theorem dX0_walk_118 : decode cX0_walk 118 = .ok (.invokevirtual 149, 3) := by decide +kernel
theorem dX0_walk_121 : decode cX0_walk 121 = .ok (.areturn, 1) := by decide +kernel
theorem dX0_walk_122 : decode cX0_walk 122 = .ok (.aload_n 0, 1) := by decide +kernel
theorem dX0_walk_123 : decode cX0_walk 123 = .ok (.aload_n 1, 1) := by decide +kernel
theorem dX0_walk_124 : decode cX0_walk 124 = .ok (.aload_n 2, 1) := by decide +kernel
theorem dX0_walk_125 : decode cX0_walk 125 = .ok (.invokevirtual 152, 3) := by decide +kernel
theorem dX0_walk_128 : decode cX0_walk 128 = .ok (.areturn, 1) := by decide +kernel
theorem dX0_walk_129 : decode cX0_walk 129 = .ok (.aload_n 0, 1) := by decide +kernel
theorem dX0_walk_130 : decode cX0_walk 130 = .ok (.aload_n 1, 1) := by decide +kernel
theorem dX0_walk_131 : decode cX0_walk 131 = .ok (.aload_n 2, 1) := by decide +kernel
theorem dX0_walk_132 : decode cX0_walk 132 = .ok (.invokevirtual 155, 3) := by decide +kernel
theorem dX0_walk_135 : decode cX0_walk 135 = .ok (.areturn, 1) := by decide +kernel
theorem dX0_walk_136 : decode cX0_walk 136 = .ok (.aload_n 0, 1) := by decide +kernel
theorem dX0_walk_137 : decode cX0_walk 137 = .ok (.aload_n 1, 1) := by decide +kernel
theorem dX0_walk_138 : decode cX0_walk 138 = .ok (.aload_n 2, 1) := by decide +kernel
theorem dX0_walk_139 : decode cX0_walk 139 = .ok (.invokevirtual 158, 3) := by decide +kernel
theorem dX0_walk_142 : decode cX0_walk 142 = .ok (.areturn, 1) := by decide +kernel
theorem dX0_walk_143 : decode cX0_walk 143 = .ok (.aload_n 0, 1) := by decide +kernel
theorem dX0_walk_144 : decode cX0_walk 144 = .ok (.aload_n 1, 1) := by decide +kernel
theorem dX0_walk_145 : decode cX0_walk 145 = .ok (.aload_n 2, 1) := by decide +kernel
theorem dX0_walk_146 : decode cX0_walk 146 = .ok (.invokevirtual 161, 3) := by decide +kernel
theorem dX0_walk_149 : decode cX0_walk 149 = .ok (.areturn, 1) := by decide +kernel
theorem dX0_walk_150 : decode cX0_walk 150 = .ok (.aload_n 0, 1) := by decide +kernel
theorem dX0_walk_151 : decode cX0_walk 151 = .ok (.aload_n 1, 1) := by decide +kernel
theorem dX0_walk_152 : decode cX0_walk 152 = .ok (.getfield 164, 3) := by decide +kernel
theorem dX0_walk_155 : decode cX0_walk 155 = .ok (.new 73, 3) := by decide +kernel
theorem dX0_walk_158 : decode cX0_walk 158 = .ok (.dup, 1) := by decide +kernel
theorem dX0_walk_159 : decode cX0_walk 159 = .ok (.aload_n 1, 1) := by decide +kernel
theorem dX0_walk_160 : decode cX0_walk 160 = .ok (.getfield 167, 3) := by decide +kernel
theorem dX0_walk_163 : decode cX0_walk 163 = .ok (.iconst 1, 1) := by decide +kernel
theorem dX0_walk_164 : decode cX0_walk 164 = .ok (.aload_n 2, 1) := by decide +kernel
theorem dX0_walk_165 : decode cX0_walk 165 = .ok (.invokespecial 170, 3) := by decide +kernel
theorem dX0_walk_168 : decode cX0_walk 168 = .ok (.invokevirtual 82, 3) := by decide +kernel
theorem dX0_walk_171 : decode cX0_walk 171 = .ok (.areturn, 1) := by decide +kernel
theorem dX0_walk_172 : decode cX0_walk 172 = .ok (.aload_n 0, 1) := by decide +kernel
theorem dX0_walk_173 : decode cX0_walk 173 = .ok (.aload_n 1, 1) := by decide +kernel
theorem dX0_walk_174 : decode cX0_walk 174 = .ok (.getfield 164, 3) := by decide +kernel
theorem dX0_walk_177 : decode cX0_walk 177 = .ok (.aload_n 2, 1) := by decide +kernel
theorem dX0_walk_178 : decode cX0_walk 178 = .ok (.invokevirtual 82, 3) := by decide +kernel
theorem dX0_walk_181 : decode cX0_walk 181 = .ok (.areturn, 1) := by decide +kernel
theorem dX0_walk_182 : decode cX0_walk 182 = .ok (.aload_n 1, 1) := by decide +kernel
theorem dX0_walk_183 : decode cX0_walk 183 = .ok (.invokestatic 173, 3) := by decide +kernel
theorem dX0_walk_186 : decode cX0_walk 186 = .ok (.areturn, 1) := by decide +kernel
theorem dX0_walkLet_0 : decode cX0_walkLet 0 = .ok (.aload_n 1, 1) := by decide +kernel
theorem dX0_walkLet_1 : decode cX0_walkLet 1 = .ok (.getfield 224, 3) := by decide +kernel
theorem dX0_walkLet_4 : decode cX0_walkLet 4 = .ok (.aload_n 0, 1) := by decide +kernel
theorem dX0_walkLet_5 : decode cX0_walkLet 5 = .ok (.aload_n 1, 1) := by decide +kernel
theorem dX0_walkLet_6 : decode cX0_walkLet 6 = .ok (.getfield 164, 3) := by decide +kernel
theorem dX0_walkLet_9 : decode cX0_walkLet 9 = .ok (.aload_n 2, 1) := by decide +kernel
theorem dX0_walkLet_10 : decode cX0_walkLet 10 = .ok (.invokevirtual 82, 3) := by decide +kernel
theorem dX0_walkLet_13 : decode cX0_walkLet 13 = .ok (.putfield 69, 3) := by decide +kernel
theorem dX0_walkLet_16 : decode cX0_walkLet 16 = .ok (.new 73, 3) := by decide +kernel
theorem dX0_walkLet_19 : decode cX0_walkLet 19 = .ok (.dup, 1) := by decide +kernel
theorem dX0_walkLet_20 : decode cX0_walkLet 20 = .ok (.aload_n 1, 1) := by decide +kernel
theorem dX0_walkLet_21 : decode cX0_walkLet 21 = .ok (.getfield 224, 3) := by decide +kernel
theorem dX0_walkLet_24 : decode cX0_walkLet 24 = .ok (.aload_n 2, 1) := by decide +kernel
theorem dX0_walkLet_25 : decode cX0_walkLet 25 = .ok (.invokespecial 75, 3) := by decide +kernel
theorem dX0_walkLet_28 : decode cX0_walkLet 28 = .ok (.astore_n 3, 1) := by decide +kernel
theorem dX0_walkLet_29 : decode cX0_walkLet 29 = .ok (.aload_n 0, 1) := by decide +kernel
theorem dX0_walkLet_30 : decode cX0_walkLet 30 = .ok (.aload_n 1, 1) := by decide +kernel
theorem dX0_walkLet_31 : decode cX0_walkLet 31 = .ok (.getfield 226, 3) := by decide +kernel
theorem dX0_walkLet_34 : decode cX0_walkLet 34 = .ok (.aconst_null, 1) := by decide +kernel
theorem dX0_walkLet_35 : decode cX0_walkLet 35 = .ok (.aload_n 2, 1) := by decide +kernel
theorem dX0_walkLet_36 : decode cX0_walkLet 36 = .ok (.invokevirtual 229, 3) := by decide +kernel
theorem dX0_walkLet_39 : decode cX0_walkLet 39 = .ok (.astore 4, 2) := by decide +kernel
theorem dX0_walkLet_41 : decode cX0_walkLet 41 = .ok (.aload_n 0, 1) := by decide +kernel
theorem dX0_walkLet_42 : decode cX0_walkLet 42 = .ok (.aload_n 0, 1) := by decide +kernel
theorem dX0_walkLet_43 : decode cX0_walkLet 43 = .ok (.aload_n 1, 1) := by decide +kernel
theorem dX0_walkLet_44 : decode cX0_walkLet 44 = .ok (.getfield 233, 3) := by decide +kernel
theorem dX0_walkLet_47 : decode cX0_walkLet 47 = .ok (.aload_n 3, 1) := by decide +kernel
theorem dX0_walkLet_48 : decode cX0_walkLet 48 = .ok (.invokevirtual 82, 3) := by decide +kernel
theorem dX0_walkLet_51 : decode cX0_walkLet 51 = .ok (.aload 4, 2) := by decide +kernel
theorem dX0_walkLet_53 : decode cX0_walkLet 53 = .ok (.aload_n 3, 1) := by decide +kernel
theorem dX0_walkLet_54 : decode cX0_walkLet 54 = .ok (.invokevirtual 236, 3) := by decide +kernel
theorem dX0_walkLet_57 : decode cX0_walkLet 57 = .ok (.aload 4, 2) := by decide +kernel
theorem dX0_walkLet_59 : decode cX0_walkLet 59 = .ok (.areturn, 1) := by decide +kernel
theorem dX0_walkFunction_0 : decode cX0_walkFunction 0 = .ok (.aload_n 0, 1) := by decide +kernel
theorem dX0_walkFunction_1 : decode cX0_walkFunction 1 = .ok (.aload_n 1, 1) := by decide +kernel
theorem dX0_walkFunction_2 : decode cX0_walkFunction 2 = .ok (.getfield 226, 3) := by decide +kernel
theorem dX0_walkFunction_5 : decode cX0_walkFunction 5 = .ok (.aload_n 1, 1) := by decide +kernel
theorem dX0_walkFunction_6 : decode cX0_walkFunction 6 = .ok (.getfield 241, 3) := by decide +kernel
theorem dX0_walkFunction_9 : decode cX0_walkFunction 9 = .ok (.aload_n 2, 1) := by decide +kernel
theorem dX0_walkFunction_10 : decode cX0_walkFunction 10 = .ok (.invokevirtual 229, 3) := by decide +kernel
theorem dX0_walkFunction_13 : decode cX0_walkFunction 13 = .ok (.astore_n 3, 1) := by decide +kernel
theorem dX0_walkFunction_14 : decode cX0_walkFunction 14 = .ok (.aload_n 0, 1) := by decide +kernel
theorem dX0_walkFunction_15 : decode cX0_walkFunction 15 = .ok (.aload_n 1, 1) := by decide +kernel
theorem dX0_walkFunction_16 : decode cX0_walkFunction 16 = .ok (.aload_n 3, 1) := by decide +kernel
theorem dX0_walkFunction_17 : decode cX0_walkFunction 17 = .ok (.aload_n 2, 1) := by decide +kernel
theorem dX0_walkFunction_18 : decode cX0_walkFunction 18 = .ok (.invokevirtual 244, 3) := by decide +kernel
theorem dX0_walkFunction_21 : decode cX0_walkFunction 21 = .ok (.aload_n 3, 1) := by decide +kernel
theorem dX0_walkFunction_22 : decode cX0_walkFunction 22 = .ok (.areturn, 1) := by decide +kernel
theorem dX0_fitBody_0 : decode cX0_fitBody 0 = .ok (.aload_n 3, 1) := by decide +kernel
theorem dX0_fitBody_1 : decode cX0_fitBody 1 = .ok (.astore 4, 2) := by decide +kernel
theorem dX0_fitBody_3 : decode cX0_fitBody 3 = .ok (.aload_n 2, 1) := by decide +kernel
theorem dX0_fitBody_4 : decode cX0_fitBody 4 = .ok (.astore 5, 2) := by decide +kernel
theorem dX0_fitBody_6 : decode cX0_fitBody 6 = .ok (.iconst 0, 1) := by decide +kernel
theorem dX0_fitBody_7 : decode cX0_fitBody 7 = .ok (.istore 6, 2) := by decide +kernel
theorem dX0_fitBody_9 : decode cX0_fitBody 9 = .ok (.iload 6, 2) := by decide +kernel
theorem dX0_fitBody_11 : decode cX0_fitBody 11 = .ok (.aload_n 1, 1) := by decide +kernel
theorem dX0_fitBody_12 : decode cX0_fitBody 12 = .ok (.getfield 241, 3) := by decide +kernel
theorem dX0_fitBody_15 : decode cX0_fitBody 15 = .ok (.invokevirtual 86, 3) := by decide +kernel
theorem dX0_fitBody_18 : decode cX0_fitBody 18 = .ok (.if_icmp .ge 40, 3) := by decide +kernel
theorem dX0_fitBody_21 : decode cX0_fitBody 21 = .ok (.new 73, 3) := by decide +kernel
theorem dX0_fitBody_24 : decode cX0_fitBody 24 = .ok (.dup, 1) := by decide +kernel
theorem dX0_fitBody_25 : decode cX0_fitBody 25 = .ok (.aload_n 1, 1) := by decide +kernel
theorem dX0_fitBody_26 : decode cX0_fitBody 26 = .ok (.getfield 241, 3) := by decide +kernel
theorem dX0_fitBody_29 : decode cX0_fitBody 29 = .ok (.iload 6, 2) := by decide +kernel
theorem dX0_fitBody_31 : decode cX0_fitBody 31 = .ok (.invokevirtual 57, 3) := by decide +kernel
theorem dX0_fitBody_34 : decode cX0_fitBody 34 = .ok (.checkcast 27, 3) := by decide +kernel
theorem dX0_fitBody_37 : decode cX0_fitBody 37 = .ok (.aload 4, 2) := by decide +kernel
theorem dX0_fitBody_39 : decode cX0_fitBody 39 = .ok (.invokespecial 75, 3) := by decide +kernel
theorem dX0_fitBody_42 : decode cX0_fitBody 42 = .ok (.astore 4, 2) := by decide +kernel
theorem dX0_fitBody_44 : decode cX0_fitBody 44 = .ok (.aload 5, 2) := by decide +kernel
theorem dX0_fitBody_46 : decode cX0_fitBody 46 = .ok (.aconst_null, 1) := by decide +kernel
theorem dX0_fitBody_47 : decode cX0_fitBody 47 = .ok (.invokevirtual 248, 3) := by decide +kernel
theorem dX0_fitBody_50 : decode cX0_fitBody 50 = .ok (.astore 5, 2) := by decide +kernel
theorem dX0_fitBody_52 : decode cX0_fitBody 52 = .ok (.iinc 6 1, 3) := by decide +kernel
theorem dX0_fitBody_55 : decode cX0_fitBody 55 = .ok (.goto (-46), 3) := by decide +kernel
theorem dX0_fitBody_58 : decode cX0_fitBody 58 = .ok (.aload_n 0, 1) := by decide +kernel
theorem dX0_fitBody_59 : decode cX0_fitBody 59 = .ok (.aload_n 0, 1) := by decide +kernel
theorem dX0_fitBody_60 : decode cX0_fitBody 60 = .ok (.aload_n 1, 1) := by decide +kernel
theorem dX0_fitBody_61 : decode cX0_fitBody 61 = .ok (.getfield 164, 3) := by decide +kernel
theorem dX0_fitBody_64 : decode cX0_fitBody 64 = .ok (.aload 4, 2) := by decide +kernel
theorem dX0_fitBody_66 : decode cX0_fitBody 66 = .ok (.invokevirtual 82, 3) := by decide +kernel
theorem dX0_fitBody_69 : decode cX0_fitBody 69 = .ok (.aload 5, 2) := by decide +kernel
theorem dX0_fitBody_71 : decode cX0_fitBody 71 = .ok (.aload 4, 2) := by decide +kernel
theorem dX0_fitBody_73 : decode cX0_fitBody 73 = .ok (.invokevirtual 236, 3) := by decide +kernel
theorem dX0_fitBody_76 : decode cX0_fitBody 76 = .ok (.return_, 1) := by decide +kernel
theorem dX0_walkIf_0 : decode cX0_walkIf 0 = .ok (.aload_n 0, 1) := by decide +kernel
theorem dX0_walkIf_1 : decode cX0_walkIf 1 = .ok (.aload_n 1, 1) := by decide +kernel
theorem dX0_walkIf_2 : decode cX0_walkIf 2 = .ok (.getfield 226, 3) := by decide +kernel
theorem dX0_walkIf_5 : decode cX0_walkIf 5 = .ok (.aconst_null, 1) := by decide +kernel
theorem dX0_walkIf_6 : decode cX0_walkIf 6 = .ok (.aload_n 2, 1) := by decide +kernel
theorem dX0_walkIf_7 : decode cX0_walkIf 7 = .ok (.invokevirtual 229, 3) := by decide +kernel
theorem dX0_walkIf_10 : decode cX0_walkIf 10 = .ok (.astore_n 3, 1) := by decide +kernel
theorem dX0_walkIf_11 : decode cX0_walkIf 11 = .ok (.new 73, 3) := by decide +kernel
theorem dX0_walkIf_14 : decode cX0_walkIf 14 = .ok (.dup, 1) := by decide +kernel
theorem dX0_walkIf_15 : decode cX0_walkIf 15 = .ok (.aload_n 1, 1) := by decide +kernel
theorem dX0_walkIf_16 : decode cX0_walkIf 16 = .ok (.getfield 167, 3) := by decide +kernel
theorem dX0_walkIf_19 : decode cX0_walkIf 19 = .ok (.iconst 1, 1) := by decide +kernel
theorem dX0_walkIf_20 : decode cX0_walkIf 20 = .ok (.aload_n 2, 1) := by decide +kernel
theorem dX0_walkIf_21 : decode cX0_walkIf 21 = .ok (.invokespecial 170, 3) := by decide +kernel
theorem dX0_walkIf_24 : decode cX0_walkIf 24 = .ok (.astore 4, 2) := by decide +kernel
theorem dX0_walkIf_26 : decode cX0_walkIf 26 = .ok (.aload_n 0, 1) := by decide +kernel
theorem dX0_walkIf_27 : decode cX0_walkIf 27 = .ok (.aload_n 0, 1) := by decide +kernel
theorem dX0_walkIf_28 : decode cX0_walkIf 28 = .ok (.aload_n 1, 1) := by decide +kernel
theorem dX0_walkIf_29 : decode cX0_walkIf 29 = .ok (.getfield 164, 3) := by decide +kernel
theorem dX0_walkIf_32 : decode cX0_walkIf 32 = .ok (.aload 4, 2) := by decide +kernel
theorem dX0_walkIf_34 : decode cX0_walkIf 34 = .ok (.invokevirtual 82, 3) := by decide +kernel
theorem dX0_walkIf_37 : decode cX0_walkIf 37 = .ok (.aload_n 3, 1) := by decide +kernel
theorem dX0_walkIf_38 : decode cX0_walkIf 38 = .ok (.aload 4, 2) := by decide +kernel
theorem dX0_walkIf_40 : decode cX0_walkIf 40 = .ok (.invokevirtual 236, 3) := by decide +kernel
theorem dX0_walkIf_43 : decode cX0_walkIf 43 = .ok (.new 73, 3) := by decide +kernel
theorem dX0_walkIf_46 : decode cX0_walkIf 46 = .ok (.dup, 1) := by decide +kernel
theorem dX0_walkIf_47 : decode cX0_walkIf 47 = .ok (.aload_n 1, 1) := by decide +kernel
theorem dX0_walkIf_48 : decode cX0_walkIf 48 = .ok (.getfield 167, 3) := by decide +kernel
theorem dX0_walkIf_51 : decode cX0_walkIf 51 = .ok (.iconst 0, 1) := by decide +kernel
theorem dX0_walkIf_52 : decode cX0_walkIf 52 = .ok (.aload_n 2, 1) := by decide +kernel
theorem dX0_walkIf_53 : decode cX0_walkIf 53 = .ok (.invokespecial 170, 3) := by decide +kernel
theorem dX0_walkIf_56 : decode cX0_walkIf 56 = .ok (.astore 5, 2) := by decide +kernel
theorem dX0_walkIf_58 : decode cX0_walkIf 58 = .ok (.aload_n 0, 1) := by decide +kernel
theorem dX0_walkIf_59 : decode cX0_walkIf 59 = .ok (.aload_n 0, 1) := by decide +kernel
theorem dX0_walkIf_60 : decode cX0_walkIf 60 = .ok (.aload_n 1, 1) := by decide +kernel
theorem dX0_walkIf_61 : decode cX0_walkIf 61 = .ok (.getfield 233, 3) := by decide +kernel
theorem dX0_walkIf_64 : decode cX0_walkIf 64 = .ok (.aload 5, 2) := by decide +kernel
theorem dX0_walkIf_66 : decode cX0_walkIf 66 = .ok (.invokevirtual 82, 3) := by decide +kernel
theorem dX0_walkIf_69 : decode cX0_walkIf 69 = .ok (.aload_n 3, 1) := by decide +kernel
theorem dX0_walkIf_70 : decode cX0_walkIf 70 = .ok (.aload 5, 2) := by decide +kernel
theorem dX0_walkIf_72 : decode cX0_walkIf 72 = .ok (.invokevirtual 236, 3) := by decide +kernel
theorem dX0_walkIf_75 : decode cX0_walkIf 75 = .ok (.aload_n 3, 1) := by decide +kernel
theorem dX0_walkIf_76 : decode cX0_walkIf 76 = .ok (.areturn, 1) := by decide +kernel
theorem dX0_walkMatch_0 : decode cX0_walkMatch 0 = .ok (.aload_n 0, 1) := by decide +kernel
theorem dX0_walkMatch_1 : decode cX0_walkMatch 1 = .ok (.aload_n 1, 1) := by decide +kernel
theorem dX0_walkMatch_2 : decode cX0_walkMatch 2 = .ok (.getfield 226, 3) := by decide +kernel
theorem dX0_walkMatch_5 : decode cX0_walkMatch 5 = .ok (.aconst_null, 1) := by decide +kernel
theorem dX0_walkMatch_6 : decode cX0_walkMatch 6 = .ok (.aload_n 2, 1) := by decide +kernel
theorem dX0_walkMatch_7 : decode cX0_walkMatch 7 = .ok (.invokevirtual 229, 3) := by decide +kernel
theorem dX0_walkMatch_10 : decode cX0_walkMatch 10 = .ok (.astore_n 3, 1) := by decide +kernel
theorem dX0_walkMatch_11 : decode cX0_walkMatch 11 = .ok (.new 73, 3) := by decide +kernel
theorem dX0_walkMatch_14 : decode cX0_walkMatch 14 = .ok (.dup, 1) := by decide +kernel
theorem dX0_walkMatch_15 : decode cX0_walkMatch 15 = .ok (.aload_n 1, 1) := by decide +kernel
theorem dX0_walkMatch_16 : decode cX0_walkMatch 16 = .ok (.getfield 167, 3) := by decide +kernel
theorem dX0_walkMatch_19 : decode cX0_walkMatch 19 = .ok (.iconst 1, 1) := by decide +kernel
theorem dX0_walkMatch_20 : decode cX0_walkMatch 20 = .ok (.aload_n 2, 1) := by decide +kernel
theorem dX0_walkMatch_21 : decode cX0_walkMatch 21 = .ok (.invokespecial 170, 3) := by decide +kernel
theorem dX0_walkMatch_24 : decode cX0_walkMatch 24 = .ok (.astore 4, 2) := by decide +kernel
theorem dX0_walkMatch_26 : decode cX0_walkMatch 26 = .ok (.aload_n 0, 1) := by decide +kernel
theorem dX0_walkMatch_27 : decode cX0_walkMatch 27 = .ok (.aload_n 0, 1) := by decide +kernel
theorem dX0_walkMatch_28 : decode cX0_walkMatch 28 = .ok (.aload_n 1, 1) := by decide +kernel
theorem dX0_walkMatch_29 : decode cX0_walkMatch 29 = .ok (.getfield 164, 3) := by decide +kernel
theorem dX0_walkMatch_32 : decode cX0_walkMatch 32 = .ok (.aload 4, 2) := by decide +kernel
theorem dX0_walkMatch_34 : decode cX0_walkMatch 34 = .ok (.invokevirtual 82, 3) := by decide +kernel
theorem dX0_walkMatch_37 : decode cX0_walkMatch 37 = .ok (.aload_n 3, 1) := by decide +kernel
theorem dX0_walkMatch_38 : decode cX0_walkMatch 38 = .ok (.aload 4, 2) := by decide +kernel
theorem dX0_walkMatch_40 : decode cX0_walkMatch 40 = .ok (.invokevirtual 236, 3) := by decide +kernel
theorem dX0_walkMatch_43 : decode cX0_walkMatch 43 = .ok (.new 73, 3) := by decide +kernel
theorem dX0_walkMatch_46 : decode cX0_walkMatch 46 = .ok (.dup, 1) := by decide +kernel
theorem dX0_walkMatch_47 : decode cX0_walkMatch 47 = .ok (.aload_n 1, 1) := by decide +kernel
theorem dX0_walkMatch_48 : decode cX0_walkMatch 48 = .ok (.getfield 167, 3) := by decide +kernel
theorem dX0_walkMatch_51 : decode cX0_walkMatch 51 = .ok (.iconst 0, 1) := by decide +kernel
theorem dX0_walkMatch_52 : decode cX0_walkMatch 52 = .ok (.aload_n 2, 1) := by decide +kernel
theorem dX0_walkMatch_53 : decode cX0_walkMatch 53 = .ok (.invokespecial 170, 3) := by decide +kernel
theorem dX0_walkMatch_56 : decode cX0_walkMatch 56 = .ok (.astore 5, 2) := by decide +kernel
theorem dX0_walkMatch_58 : decode cX0_walkMatch 58 = .ok (.aload_n 1, 1) := by decide +kernel
theorem dX0_walkMatch_59 : decode cX0_walkMatch 59 = .ok (.getfield 241, 3) := by decide +kernel
theorem dX0_walkMatch_62 : decode cX0_walkMatch 62 = .ok (.iconst 0, 1) := by decide +kernel
theorem dX0_walkMatch_63 : decode cX0_walkMatch 63 = .ok (.invokevirtual 57, 3) := by decide +kernel
theorem dX0_walkMatch_66 : decode cX0_walkMatch 66 = .ok (.checkcast 27, 3) := by decide +kernel
theorem dX0_walkMatch_69 : decode cX0_walkMatch 69 = .ok (.new 61, 3) := by decide +kernel
theorem dX0_walkMatch_72 : decode cX0_walkMatch 72 = .ok (.dup, 1) := by decide +kernel
theorem dX0_walkMatch_73 : decode cX0_walkMatch 73 = .ok (.sipush 210, 3) := by decide +kernel
theorem dX0_walkMatch_76 : decode cX0_walkMatch 76 = .ok (.invokespecial 66, 3) := by decide +kernel
theorem dX0_walkMatch_79 : decode cX0_walkMatch 79 = .ok (.putfield 69, 3) := by decide +kernel
theorem dX0_walkMatch_82 : decode cX0_walkMatch 82 = .ok (.new 73, 3) := by decide +kernel
theorem dX0_walkMatch_85 : decode cX0_walkMatch 85 = .ok (.dup, 1) := by decide +kernel
theorem dX0_walkMatch_86 : decode cX0_walkMatch 86 = .ok (.aload_n 1, 1) := by decide +kernel
theorem dX0_walkMatch_87 : decode cX0_walkMatch 87 = .ok (.getfield 241, 3) := by decide +kernel
theorem dX0_walkMatch_90 : decode cX0_walkMatch 90 = .ok (.iconst 0, 1) := by decide +kernel
theorem dX0_walkMatch_91 : decode cX0_walkMatch 91 = .ok (.invokevirtual 57, 3) := by decide +kernel
theorem dX0_walkMatch_94 : decode cX0_walkMatch 94 = .ok (.checkcast 27, 3) := by decide +kernel
theorem dX0_walkMatch_97 : decode cX0_walkMatch 97 = .ok (.aload 5, 2) := by decide +kernel
theorem dX0_walkMatch_99 : decode cX0_walkMatch 99 = .ok (.invokespecial 75, 3) := by decide +kernel
theorem dX0_walkMatch_102 : decode cX0_walkMatch 102 = .ok (.astore 5, 2) := by decide +kernel
theorem dX0_walkMatch_104 : decode cX0_walkMatch 104 = .ok (.aload_n 1, 1) := by decide +kernel
theorem dX0_walkMatch_105 : decode cX0_walkMatch 105 = .ok (.getfield 241, 3) := by decide +kernel
theorem dX0_walkMatch_108 : decode cX0_walkMatch 108 = .ok (.iconst 1, 1) := by decide +kernel
theorem dX0_walkMatch_109 : decode cX0_walkMatch 109 = .ok (.invokevirtual 57, 3) := by decide +kernel
theorem dX0_walkMatch_112 : decode cX0_walkMatch 112 = .ok (.checkcast 27, 3) := by decide +kernel
theorem dX0_walkMatch_115 : decode cX0_walkMatch 115 = .ok (.sipush 213, 3) := by decide +kernel
theorem dX0_walkMatch_118 : decode cX0_walkMatch 118 = .ok (.aload_n 1, 1) := by decide +kernel
theorem dX0_walkMatch_119 : decode cX0_walkMatch 119 = .ok (.getfield 191, 3) := by decide +kernel
theorem dX0_walkMatch_122 : decode cX0_walkMatch 122 = .ok (.iconst 1, 1) := by decide +kernel
theorem dX0_walkMatch_123 : decode cX0_walkMatch 123 = .ok (.ldc2_w 252, 3) := by decide +kernel
theorem dX0_walkMatch_126 : decode cX0_walkMatch 126 = .ok (.invokestatic 192, 3) := by decide +kernel
theorem dX0_walkMatch_129 : decode cX0_walkMatch 129 = .ok (.invokestatic 180, 3) := by decide +kernel
theorem dX0_walkMatch_132 : decode cX0_walkMatch 132 = .ok (.putfield 69, 3) := by decide +kernel
theorem dX0_walkMatch_135 : decode cX0_walkMatch 135 = .ok (.new 73, 3) := by decide +kernel
theorem dX0_walkMatch_138 : decode cX0_walkMatch 138 = .ok (.dup, 1) := by decide +kernel
theorem dX0_walkMatch_139 : decode cX0_walkMatch 139 = .ok (.aload_n 1, 1) := by decide +kernel
theorem dX0_walkMatch_140 : decode cX0_walkMatch 140 = .ok (.getfield 241, 3) := by decide +kernel
theorem dX0_walkMatch_143 : decode cX0_walkMatch 143 = .ok (.iconst 1, 1) := by decide +kernel
theorem dX0_walkMatch_144 : decode cX0_walkMatch 144 = .ok (.invokevirtual 57, 3) := by decide +kernel
theorem dX0_walkMatch_147 : decode cX0_walkMatch 147 = .ok (.checkcast 27, 3) := by decide +kernel
theorem dX0_walkMatch_150 : decode cX0_walkMatch 150 = .ok (.aload 5, 2) := by decide +kernel
theorem dX0_walkMatch_152 : decode cX0_walkMatch 152 = .ok (.invokespecial 75, 3) := by decide +kernel
theorem dX0_walkMatch_155 : decode cX0_walkMatch 155 = .ok (.astore 5, 2) := by decide +kernel
theorem dX0_walkMatch_157 : decode cX0_walkMatch 157 = .ok (.aload_n 0, 1) := by decide +kernel
theorem dX0_walkMatch_158 : decode cX0_walkMatch 158 = .ok (.aload_n 0, 1) := by decide +kernel
theorem dX0_walkMatch_159 : decode cX0_walkMatch 159 = .ok (.aload_n 1, 1) := by decide +kernel
theorem dX0_walkMatch_160 : decode cX0_walkMatch 160 = .ok (.getfield 233, 3) := by decide +kernel
theorem dX0_walkMatch_163 : decode cX0_walkMatch 163 = .ok (.aload 5, 2) := by decide +kernel
theorem dX0_walkMatch_165 : decode cX0_walkMatch 165 = .ok (.invokevirtual 82, 3) := by decide +kernel
theorem dX0_walkMatch_168 : decode cX0_walkMatch 168 = .ok (.aload_n 3, 1) := by decide +kernel
theorem dX0_walkMatch_169 : decode cX0_walkMatch 169 = .ok (.aload 5, 2) := by decide +kernel
theorem dX0_walkMatch_171 : decode cX0_walkMatch 171 = .ok (.invokevirtual 236, 3) := by decide +kernel
theorem dX0_walkMatch_174 : decode cX0_walkMatch 174 = .ok (.aload_n 3, 1) := by decide +kernel
theorem dX0_walkMatch_175 : decode cX0_walkMatch 175 = .ok (.areturn, 1) := by decide +kernel
theorem dX0_walkCall_0 : decode cX0_walkCall 0 = .ok (.aload_n 1, 1) := by decide +kernel
theorem dX0_walkCall_1 : decode cX0_walkCall 1 = .ok (.getfield 191, 3) := by decide +kernel
theorem dX0_walkCall_4 : decode cX0_walkCall 4 = .ok (.getfield 69, 3) := by decide +kernel
theorem dX0_walkCall_7 : decode cX0_walkCall 7 = .ok (.astore_n 3, 1) := by decide +kernel
theorem dX0_walkCall_8 : decode cX0_walkCall 8 = .ok (.iconst 0, 1) := by decide +kernel
theorem dX0_walkCall_9 : decode cX0_walkCall 9 = .ok (.istore 4, 2) := by decide +kernel
theorem dX0_walkCall_11 : decode cX0_walkCall 11 = .ok (.iload 4, 2) := by decide +kernel
theorem dX0_walkCall_13 : decode cX0_walkCall 13 = .ok (.aload_n 1, 1) := by decide +kernel
theorem dX0_walkCall_14 : decode cX0_walkCall 14 = .ok (.getfield 254, 3) := by decide +kernel
theorem dX0_walkCall_17 : decode cX0_walkCall 17 = .ok (.invokevirtual 86, 3) := by decide +kernel
theorem dX0_walkCall_20 : decode cX0_walkCall 20 = .ok (.if_icmp .ge 80, 3) := by decide +kernel
theorem dX0_walkCall_23 : decode cX0_walkCall 23 = .ok (.aload_n 3, 1) := by decide +kernel
theorem dX0_walkCall_24 : decode cX0_walkCall 24 = .ok (.getfield 257, 3) := by decide +kernel
theorem dX0_walkCall_27 : decode cX0_walkCall 27 = .ok (.sipush 206, 3) := by decide +kernel
theorem dX0_walkCall_30 : decode cX0_walkCall 30 = .ok (.if_icmp .ne 70, 3) := by decide +kernel
theorem dX0_walkCall_33 : decode cX0_walkCall 33 = .ok (.aload_n 1, 1) := by decide +kernel
theorem dX0_walkCall_34 : decode cX0_walkCall 34 = .ok (.getfield 254, 3) := by decide +kernel
theorem dX0_walkCall_37 : decode cX0_walkCall 37 = .ok (.iload 4, 2) := by decide +kernel
theorem dX0_walkCall_39 : decode cX0_walkCall 39 = .ok (.invokevirtual 57, 3) := by decide +kernel
theorem dX0_walkCall_42 : decode cX0_walkCall 42 = .ok (.checkcast 90, 3) := by decide +kernel
theorem dX0_walkCall_45 : decode cX0_walkCall 45 = .ok (.astore 5, 2) := by decide +kernel
theorem dX0_walkCall_47 : decode cX0_walkCall 47 = .ok (.aload_n 0, 1) := by decide +kernel
theorem dX0_walkCall_48 : decode cX0_walkCall 48 = .ok (.aload_n 0, 1) := by decide +kernel
theorem dX0_walkCall_49 : decode cX0_walkCall 49 = .ok (.aload 5, 2) := by decide +kernel
theorem dX0_walkCall_51 : decode cX0_walkCall 51 = .ok (.aload_n 2, 1) := by decide +kernel
theorem dX0_walkCall_52 : decode cX0_walkCall 52 = .ok (.invokevirtual 82, 3) := by decide +kernel
theorem dX0_walkCall_55 : decode cX0_walkCall 55 = .ok (.aload_n 3, 1) := by decide +kernel
theorem dX0_walkCall_56 : decode cX0_walkCall 56 = .ok (.invokevirtual 258, 3) := by decide +kernel
theorem dX0_walkCall_59 : decode cX0_walkCall 59 = .ok (.aload_n 2, 1) := by decide +kernel
theorem dX0_walkCall_60 : decode cX0_walkCall 60 = .ok (.invokevirtual 236, 3) := by decide +kernel
theorem dX0_walkCall_63 : decode cX0_walkCall 63 = .ok (.aload_n 3, 1) := by decide +kernel
theorem dX0_walkCall_64 : decode cX0_walkCall 64 = .ok (.getfield 109, 3) := by decide +kernel
theorem dX0_walkCall_67 : decode cX0_walkCall 67 = .ok (.getfield 262, 3) := by decide +kernel
theorem dX0_walkCall_70 : decode cX0_walkCall 70 = .ok (.invokevirtual 208, 3) := by decide +kernel
theorem dX0_walkCall_73 : decode cX0_walkCall 73 = .ok (.istore 6, 2) := by decide +kernel
theorem dX0_walkCall_75 : decode cX0_walkCall 75 = .ok (.aload_n 3, 1) := by decide +kernel
theorem dX0_walkCall_76 : decode cX0_walkCall 76 = .ok (.iload 6, 2) := by decide +kernel
theorem dX0_walkCall_78 : decode cX0_walkCall 78 = .ok (.ifCond .eq 11, 3) := by decide +kernel
theorem dX0_walkCall_81 : decode cX0_walkCall 81 = .ok (.aload 5, 2) := by decide +kernel
theorem dX0_walkCall_83 : decode cX0_walkCall 83 = .ok (.getfield 187, 3) := by decide +kernel
theorem dX0_walkCall_86 : decode cX0_walkCall 86 = .ok (.goto 4, 3) := by decide +kernel
theorem dX0_walkCall_89 : decode cX0_walkCall 89 = .ok (.aconst_null, 1) := by decide +kernel
theorem dX0_walkCall_90 : decode cX0_walkCall 90 = .ok (.invokevirtual 248, 3) := by decide +kernel
theorem dX0_walkCall_93 : decode cX0_walkCall 93 = .ok (.astore_n 3, 1) := by decide +kernel
theorem dX0_walkCall_94 : decode cX0_walkCall 94 = .ok (.iinc 4 1, 3) := by decide +kernel
theorem dX0_walkCall_97 : decode cX0_walkCall 97 = .ok (.goto (-86), 3) := by decide +kernel
theorem dX0_walkCall_100 : decode cX0_walkCall 100 = .ok (.aload_n 3, 1) := by decide +kernel
theorem dX0_walkCall_101 : decode cX0_walkCall 101 = .ok (.areturn, 1) := by decide +kernel
theorem dX0_template_0 : decode cX0_template 0 = .ok (.iconst 0, 1) := by decide +kernel
theorem dX0_template_1 : decode cX0_template 1 = .ok (.istore 4, 2) := by decide +kernel
theorem dX0_template_3 : decode cX0_template 3 = .ok (.aload_n 3, 1) := by decide +kernel
theorem dX0_template_4 : decode cX0_template 4 = .ok (.astore 5, 2) := by decide +kernel
theorem dX0_template_6 : decode cX0_template 6 = .ok (.aload 5, 2) := by decide +kernel
theorem dX0_template_8 : decode cX0_template 8 = .ok (.ifnull 42, 3) := by decide +kernel
theorem dX0_template_11 : decode cX0_template 11 = .ok (.iload 4, 2) := by decide +kernel
theorem dX0_template_13 : decode cX0_template 13 = .ok (.aload 5, 2) := by decide +kernel
theorem dX0_template_15 : decode cX0_template 15 = .ok (.getfield 126, 3) := by decide +kernel
theorem dX0_template_18 : decode cX0_template 18 = .ok (.ifnull 18, 3) := by decide +kernel
theorem dX0_template_21 : decode cX0_template 21 = .ok (.aload 5, 2) := by decide +kernel
theorem dX0_template_23 : decode cX0_template 23 = .ok (.getfield 126, 3) := by decide +kernel
theorem dX0_template_26 : decode cX0_template 26 = .ok (.invokevirtual 208, 3) := by decide +kernel
theorem dX0_template_29 : decode cX0_template 29 = .ok (.ifCond .eq 7, 3) := by decide +kernel
theorem dX0_template_32 : decode cX0_template 32 = .ok (.iconst 1, 1) := by decide +kernel
theorem dX0_template_33 : decode cX0_template 33 = .ok (.goto 4, 3) := by decide +kernel
theorem dX0_template_36 : decode cX0_template 36 = .ok (.iconst 0, 1) := by decide +kernel
theorem dX0_template_37 : decode cX0_template 37 = .ok (.iadd, 1) := by decide +kernel
theorem dX0_template_38 : decode cX0_template 38 = .ok (.istore 4, 2) := by decide +kernel
theorem dX0_template_40 : decode cX0_template 40 = .ok (.aload 5, 2) := by decide +kernel
theorem dX0_template_42 : decode cX0_template 42 = .ok (.getfield 136, 3) := by decide +kernel
theorem dX0_template_45 : decode cX0_template 45 = .ok (.astore 5, 2) := by decide +kernel
theorem dX0_template_47 : decode cX0_template 47 = .ok (.goto (-41), 3) := by decide +kernel
theorem dX0_template_50 : decode cX0_template 50 = .ok (.aload_n 0, 1) := by decide +kernel
theorem dX0_template_51 : decode cX0_template 51 = .ok (.iload 4, 2) := by decide +kernel
theorem dX0_template_53 : decode cX0_template 53 = .ok (.putfield 268, 3) := by decide +kernel
theorem dX0_template_56 : decode cX0_template 56 = .ok (.aload_n 3, 1) := by decide +kernel
theorem dX0_template_57 : decode cX0_template 57 = .ok (.astore 5, 2) := by decide +kernel
theorem dX0_template_59 : decode cX0_template 59 = .ok (.aload 5, 2) := by decide +kernel
theorem dX0_template_61 : decode cX0_template 61 = .ok (.ifnull 52, 3) := by decide +kernel
theorem dX0_template_64 : decode cX0_template 64 = .ok (.aload 5, 2) := by decide +kernel
theorem dX0_template_66 : decode cX0_template 66 = .ok (.getfield 126, 3) := by decide +kernel
theorem dX0_template_69 : decode cX0_template 69 = .ok (.ifnull 34, 3) := by decide +kernel
theorem dX0_template_72 : decode cX0_template 72 = .ok (.aload 5, 2) := by decide +kernel
theorem dX0_template_74 : decode cX0_template 74 = .ok (.getfield 126, 3) := by decide +kernel
theorem dX0_template_77 : decode cX0_template 77 = .ok (.invokevirtual 208, 3) := by decide +kernel
theorem dX0_template_80 : decode cX0_template 80 = .ok (.ifCond .eq 23, 3) := by decide +kernel
theorem dX0_template_83 : decode cX0_template 83 = .ok (.iload 4, 2) := by decide +kernel
theorem dX0_template_85 : decode cX0_template 85 = .ok (.ifCond .le 18, 3) := by decide +kernel
theorem dX0_template_88 : decode cX0_template 88 = .ok (.iinc 4 (-1), 3) := by decide +kernel
theorem dX0_template_91 : decode cX0_template 91 = .ok (.aload_n 0, 1) := by decide +kernel
theorem dX0_template_92 : decode cX0_template 92 = .ok (.getfield 29, 3) := by decide +kernel
theorem dX0_template_95 : decode cX0_template 95 = .ok (.iload 4, 2) := by decide +kernel
theorem dX0_template_97 : decode cX0_template 97 = .ok (.aload 5, 2) := by decide +kernel
theorem dX0_template_99 : decode cX0_template 99 = .ok (.getfield 126, 3) := by decide +kernel
theorem dX0_template_102 : decode cX0_template 102 = .ok (.aastore, 1) := by decide +kernel
theorem dX0_template_103 : decode cX0_template 103 = .ok (.aload 5, 2) := by decide +kernel
theorem dX0_template_105 : decode cX0_template 105 = .ok (.getfield 136, 3) := by decide +kernel
theorem dX0_template_108 : decode cX0_template 108 = .ok (.astore 5, 2) := by decide +kernel
theorem dX0_template_110 : decode cX0_template 110 = .ok (.goto (-51), 3) := by decide +kernel
theorem dX0_template_113 : decode cX0_template 113 = .ok (.aload_n 0, 1) := by decide +kernel
theorem dX0_template_114 : decode cX0_template 114 = .ok (.iload_n 1, 1) := by decide +kernel
theorem dX0_template_115 : decode cX0_template 115 = .ok (.aload_n 2, 1) := by decide +kernel
theorem dX0_template_116 : decode cX0_template 116 = .ok (.iconst 0, 1) := by decide +kernel
theorem dX0_template_117 : decode cX0_template 117 = .ok (.invokevirtual 271, 3) := by decide +kernel
theorem dX0_template_120 : decode cX0_template 120 = .ok (.areturn, 1) := by decide +kernel
theorem dX0_shape_0 : decode cX0_shape 0 = .ok (.new 61, 3) := by decide +kernel
theorem dX0_shape_3 : decode cX0_shape 3 = .ok (.dup, 1) := by decide +kernel
theorem dX0_shape_4 : decode cX0_shape 4 = .ok (.aload_n 0, 1) := by decide +kernel
theorem dX0_shape_5 : decode cX0_shape 5 = .ok (.getfield 41, 3) := by decide +kernel
theorem dX0_shape_8 : decode cX0_shape 8 = .ok (.iload_n 1, 1) := by decide +kernel
theorem dX0_shape_9 : decode cX0_shape 9 = .ok (.invokevirtual 275, 3) := by decide +kernel
theorem dX0_shape_12 : decode cX0_shape 12 = .ok (.invokespecial 66, 3) := by decide +kernel
theorem dX0_shape_15 : decode cX0_shape 15 = .ok (.astore 4, 2) := by decide +kernel
theorem dX0_shape_17 : decode cX0_shape 17 = .ok (.aload 4, 2) := by decide +kernel
theorem dX0_shape_19 : decode cX0_shape 19 = .ok (.getfield 257, 3) := by decide +kernel
theorem dX0_shape_22 : decode cX0_shape 22 = .ok (.sipush 206, 3) := by decide +kernel
theorem dX0_shape_25 : decode cX0_shape 25 = .ok (.if_icmp .ne 180, 3) := by decide +kernel
theorem dX0_shape_28 : decode cX0_shape 28 = .ok (.iload_n 3, 1) := by decide +kernel
theorem dX0_shape_29 : decode cX0_shape 29 = .ok (.bipush 60, 2) := by decide +kernel
theorem dX0_shape_31 : decode cX0_shape 31 = .ok (.if_icmp .gt 174, 3) := by decide +kernel
theorem dX0_shape_34 : decode cX0_shape 34 = .ok (.aload_n 2, 1) := by decide +kernel
theorem dX0_shape_35 : decode cX0_shape 35 = .ok (.ifnull 15, 3) := by decide +kernel
theorem dX0_shape_38 : decode cX0_shape 38 = .ok (.iload_n 3, 1) := by decide +kernel
theorem dX0_shape_39 : decode cX0_shape 39 = .ok (.aload_n 2, 1) := by decide +kernel
theorem dX0_shape_40 : decode cX0_shape 40 = .ok (.invokevirtual 86, 3) := by decide +kernel
theorem dX0_shape_43 : decode cX0_shape 43 = .ok (.if_icmp .ge 7, 3) := by decide +kernel
theorem dX0_shape_46 : decode cX0_shape 46 = .ok (.iconst 1, 1) := by decide +kernel
theorem dX0_shape_47 : decode cX0_shape 47 = .ok (.goto 4, 3) := by decide +kernel
theorem dX0_shape_50 : decode cX0_shape 50 = .ok (.iconst 0, 1) := by decide +kernel
theorem dX0_shape_51 : decode cX0_shape 51 = .ok (.istore 5, 2) := by decide +kernel
theorem dX0_shape_53 : decode cX0_shape 53 = .ok (.aload 4, 2) := by decide +kernel
theorem dX0_shape_55 : decode cX0_shape 55 = .ok (.aload_n 0, 1) := by decide +kernel
theorem dX0_shape_56 : decode cX0_shape 56 = .ok (.aload_n 0, 1) := by decide +kernel
theorem dX0_shape_57 : decode cX0_shape 57 = .ok (.getfield 41, 3) := by decide +kernel
theorem dX0_shape_60 : decode cX0_shape 60 = .ok (.iload_n 1, 1) := by decide +kernel
theorem dX0_shape_61 : decode cX0_shape 61 = .ok (.invokevirtual 280, 3) := by decide +kernel
theorem dX0_shape_64 : decode cX0_shape 64 = .ok (.aconst_null, 1) := by decide +kernel
theorem dX0_shape_65 : decode cX0_shape 65 = .ok (.iconst 0, 1) := by decide +kernel
theorem dX0_shape_66 : decode cX0_shape 66 = .ok (.invokevirtual 271, 3) := by decide +kernel
theorem dX0_shape_69 : decode cX0_shape 69 = .ok (.putfield 283, 3) := by decide +kernel
theorem dX0_shape_72 : decode cX0_shape 72 = .ok (.aload 4, 2) := by decide +kernel
theorem dX0_shape_74 : decode cX0_shape 74 = .ok (.iload 5, 2) := by decide +kernel
theorem dX0_shape_76 : decode cX0_shape 76 = .ok (.ifCond .eq 14, 3) := by decide +kernel
theorem dX0_shape_79 : decode cX0_shape 79 = .ok (.aload_n 2, 1) := by decide +kernel
theorem dX0_shape_80 : decode cX0_shape 80 = .ok (.iload_n 3, 1) := by decide +kernel
theorem dX0_shape_81 : decode cX0_shape 81 = .ok (.invokevirtual 57, 3) := by decide +kernel
theorem dX0_shape_84 : decode cX0_shape 84 = .ok (.checkcast 27, 3) := by decide +kernel
theorem dX0_shape_87 : decode cX0_shape 87 = .ok (.goto 19, 3) := by decide +kernel
theorem dX0_shape_90 : decode cX0_shape 90 = .ok (.new 27, 3) := by decide +kernel
theorem dX0_shape_93 : decode cX0_shape 93 = .ok (.dup, 1) := by decide +kernel
theorem dX0_shape_94 : decode cX0_shape 94 = .ok (.aconst_null, 1) := by decide +kernel
theorem dX0_shape_95 : decode cX0_shape 95 = .ok (.aload 4, 2) := by decide +kernel
theorem dX0_shape_97 : decode cX0_shape 97 = .ok (.getfield 283, 3) := by decide +kernel
theorem dX0_shape_100 : decode cX0_shape 100 = .ok (.getfield 257, 3) := by decide +kernel
theorem dX0_shape_103 : decode cX0_shape 103 = .ok (.invokespecial 265, 3) := by decide +kernel
theorem dX0_shape_106 : decode cX0_shape 106 = .ok (.putfield 262, 3) := by decide +kernel
theorem dX0_shape_109 : decode cX0_shape 109 = .ok (.aload 4, 2) := by decide +kernel
theorem dX0_shape_111 : decode cX0_shape 111 = .ok (.getfield 262, 3) := by decide +kernel
theorem dX0_shape_114 : decode cX0_shape 114 = .ok (.aload 4, 2) := by decide +kernel
theorem dX0_shape_116 : decode cX0_shape 116 = .ok (.getfield 283, 3) := by decide +kernel
theorem dX0_shape_119 : decode cX0_shape 119 = .ok (.putfield 69, 3) := by decide +kernel
theorem dX0_shape_122 : decode cX0_shape 122 = .ok (.aload_n 0, 1) := by decide +kernel
theorem dX0_shape_123 : decode cX0_shape 123 = .ok (.getfield 268, 3) := by decide +kernel
theorem dX0_shape_126 : decode cX0_shape 126 = .ok (.istore 6, 2) := by decide +kernel
theorem dX0_shape_128 : decode cX0_shape 128 = .ok (.aload 4, 2) := by decide +kernel
theorem dX0_shape_130 : decode cX0_shape 130 = .ok (.getfield 262, 3) := by decide +kernel
theorem dX0_shape_133 : decode cX0_shape 133 = .ok (.invokevirtual 208, 3) := by decide +kernel
theorem dX0_shape_136 : decode cX0_shape 136 = .ok (.ifCond .eq 39, 3) := by decide +kernel
theorem dX0_shape_139 : decode cX0_shape 139 = .ok (.aload_n 0, 1) := by decide +kernel
theorem dX0_shape_140 : decode cX0_shape 140 = .ok (.getfield 268, 3) := by decide +kernel
theorem dX0_shape_143 : decode cX0_shape 143 = .ok (.aload_n 0, 1) := by decide +kernel
theorem dX0_shape_144 : decode cX0_shape 144 = .ok (.getfield 29, 3) := by decide +kernel
theorem dX0_shape_147 : decode cX0_shape 147 = .ok (.arraylength, 1) := by decide +kernel
theorem dX0_shape_148 : decode cX0_shape 148 = .ok (.if_icmp .ge 27, 3) := by decide +kernel
theorem dX0_shape_151 : decode cX0_shape 151 = .ok (.aload_n 0, 1) := by decide +kernel
theorem dX0_shape_152 : decode cX0_shape 152 = .ok (.getfield 29, 3) := by decide +kernel
theorem dX0_shape_155 : decode cX0_shape 155 = .ok (.aload_n 0, 1) := by decide +kernel
theorem dX0_shape_156 : decode cX0_shape 156 = .ok (.getfield 268, 3) := by decide +kernel
theorem dX0_shape_159 : decode cX0_shape 159 = .ok (.aload 4, 2) := by decide +kernel
theorem dX0_shape_161 : decode cX0_shape 161 = .ok (.getfield 262, 3) := by decide +kernel
theorem dX0_shape_164 : decode cX0_shape 164 = .ok (.aastore, 1) := by decide +kernel
theorem dX0_shape_165 : decode cX0_shape 165 = .ok (.aload_n 0, 1) := by decide +kernel
theorem dX0_shape_166 : decode cX0_shape 166 = .ok (.dup, 1) := by decide +kernel
theorem dX0_shape_167 : decode cX0_shape 167 = .ok (.getfield 268, 3) := by decide +kernel
theorem dX0_shape_170 : decode cX0_shape 170 = .ok (.iconst 1, 1) := by decide +kernel
theorem dX0_shape_171 : decode cX0_shape 171 = .ok (.iadd, 1) := by decide +kernel
theorem dX0_shape_172 : decode cX0_shape 172 = .ok (.putfield 268, 3) := by decide +kernel
theorem dX0_shape_175 : decode cX0_shape 175 = .ok (.aload 4, 2) := by decide +kernel
theorem dX0_shape_177 : decode cX0_shape 177 = .ok (.aload_n 0, 1) := by decide +kernel
theorem dX0_shape_178 : decode cX0_shape 178 = .ok (.aload_n 0, 1) := by decide +kernel
theorem dX0_shape_179 : decode cX0_shape 179 = .ok (.getfield 41, 3) := by decide +kernel
theorem dX0_shape_182 : decode cX0_shape 182 = .ok (.iload_n 1, 1) := by decide +kernel
theorem dX0_shape_183 : decode cX0_shape 183 = .ok (.invokevirtual 286, 3) := by decide +kernel
theorem dX0_shape_186 : decode cX0_shape 186 = .ok (.aload_n 2, 1) := by decide +kernel
theorem dX0_shape_187 : decode cX0_shape 187 = .ok (.iload_n 3, 1) := by decide +kernel
theorem dX0_shape_188 : decode cX0_shape 188 = .ok (.iconst 1, 1) := by decide +kernel
theorem dX0_shape_189 : decode cX0_shape 189 = .ok (.iadd, 1) := by decide +kernel
theorem dX0_shape_190 : decode cX0_shape 190 = .ok (.invokevirtual 271, 3) := by decide +kernel
theorem dX0_shape_193 : decode cX0_shape 193 = .ok (.putfield 289, 3) := by decide +kernel
theorem dX0_shape_196 : decode cX0_shape 196 = .ok (.aload_n 0, 1) := by decide +kernel
theorem dX0_shape_197 : decode cX0_shape 197 = .ok (.iload 6, 2) := by decide +kernel
theorem dX0_shape_199 : decode cX0_shape 199 = .ok (.putfield 268, 3) := by decide +kernel
theorem dX0_shape_202 : decode cX0_shape 202 = .ok (.goto 20, 3) := by decide +kernel
theorem dX0_shape_205 : decode cX0_shape 205 = .ok (.aload 4, 2) := by decide +kernel
theorem dX0_shape_207 : decode cX0_shape 207 = .ok (.getfield 257, 3) := by decide +kernel
theorem dX0_shape_210 : decode cX0_shape 210 = .ok (.sipush 202, 3) := by decide +kernel
theorem dX0_shape_213 : decode cX0_shape 213 = .ok (.if_icmp .eq 9, 3) := by decide +kernel
theorem dX0_shape_216 : decode cX0_shape 216 = .ok (.aload_n 0, 1) := by decide +kernel
theorem dX0_shape_217 : decode cX0_shape 217 = .ok (.aload 4, 2) := by decide +kernel
theorem dX0_shape_219 : decode cX0_shape 219 = .ok (.invokevirtual 292, 3) := by decide +kernel
theorem dX0_shape_222 : decode cX0_shape 222 = .ok (.aload 4, 2) := by decide +kernel
theorem dX0_shape_224 : decode cX0_shape 224 = .ok (.areturn, 1) := by decide +kernel
theorem dX0_sayInstances_0 : decode cX0_sayInstances 0 = .ok (.iconst 0, 1) := by decide +kernel
theorem dX0_sayInstances_1 : decode cX0_sayInstances 1 = .ok (.istore_n 2, 1) := by decide +kernel
theorem dX0_sayInstances_2 : decode cX0_sayInstances 2 = .ok (.iconst 0, 1) := by decide +kernel
theorem dX0_sayInstances_3 : decode cX0_sayInstances 3 = .ok (.istore_n 3, 1) := by decide +kernel
theorem dX0_sayInstances_4 : decode cX0_sayInstances 4 = .ok (.iload_n 3, 1) := by decide +kernel
theorem dX0_sayInstances_5 : decode cX0_sayInstances 5 = .ok (.aload_n 0, 1) := by decide +kernel
theorem dX0_sayInstances_6 : decode cX0_sayInstances 6 = .ok (.getfield 37, 3) := by decide +kernel
theorem dX0_sayInstances_9 : decode cX0_sayInstances 9 = .ok (.getfield 296, 3) := by decide +kernel
theorem dX0_sayInstances_12 : decode cX0_sayInstances 12 = .ok (.if_icmp .ge 52, 3) := by decide +kernel
theorem dX0_sayInstances_15 : decode cX0_sayInstances 15 = .ok (.iload_n 2, 1) := by decide +kernel
theorem dX0_sayInstances_16 : decode cX0_sayInstances 16 = .ok (.aload_n 0, 1) := by decide +kernel
theorem dX0_sayInstances_17 : decode cX0_sayInstances 17 = .ok (.getfield 37, 3) := by decide +kernel
theorem dX0_sayInstances_20 : decode cX0_sayInstances 20 = .ok (.getfield 299, 3) := by decide +kernel
theorem dX0_sayInstances_23 : decode cX0_sayInstances 23 = .ok (.iload_n 3, 1) := by decide +kernel
theorem dX0_sayInstances_24 : decode cX0_sayInstances 24 = .ok (.iaload, 1) := by decide +kernel
theorem dX0_sayInstances_25 : decode cX0_sayInstances 25 = .ok (.aload_n 1, 1) := by decide +kernel
theorem dX0_sayInstances_26 : decode cX0_sayInstances 26 = .ok (.getfield 257, 3) := by decide +kernel
theorem dX0_sayInstances_29 : decode cX0_sayInstances 29 = .ok (.if_icmp .eq 7, 3) := by decide +kernel
theorem dX0_sayInstances_32 : decode cX0_sayInstances 32 = .ok (.iconst 0, 1) := by decide +kernel
theorem dX0_sayInstances_33 : decode cX0_sayInstances 33 = .ok (.goto 23, 3) := by decide +kernel
theorem dX0_sayInstances_36 : decode cX0_sayInstances 36 = .ok (.aload_n 0, 1) := by decide +kernel
theorem dX0_sayInstances_37 : decode cX0_sayInstances 37 = .ok (.getfield 37, 3) := by decide +kernel
theorem dX0_sayInstances_40 : decode cX0_sayInstances 40 = .ok (.getfield 303, 3) := by decide +kernel
theorem dX0_sayInstances_43 : decode cX0_sayInstances 43 = .ok (.iload_n 3, 1) := by decide +kernel
theorem dX0_sayInstances_44 : decode cX0_sayInstances 44 = .ok (.iaload, 1) := by decide +kernel
theorem dX0_sayInstances_45 : decode cX0_sayInstances 45 = .ok (.ifCond .ne 7, 3) := by decide +kernel
theorem dX0_sayInstances_48 : decode cX0_sayInstances 48 = .ok (.iconst 1, 1) := by decide +kernel
theorem dX0_sayInstances_49 : decode cX0_sayInstances 49 = .ok (.goto 7, 3) := by decide +kernel
theorem dX0_sayInstances_52 : decode cX0_sayInstances 52 = .ok (.aload_n 0, 1) := by decide +kernel
theorem dX0_sayInstances_53 : decode cX0_sayInstances 53 = .ok (.getfield 268, 3) := by decide +kernel
theorem dX0_sayInstances_56 : decode cX0_sayInstances 56 = .ok (.iadd, 1) := by decide +kernel
theorem dX0_sayInstances_57 : decode cX0_sayInstances 57 = .ok (.istore_n 2, 1) := by decide +kernel
theorem dX0_sayInstances_58 : decode cX0_sayInstances 58 = .ok (.iinc 3 1, 3) := by decide +kernel
theorem dX0_sayInstances_61 : decode cX0_sayInstances 61 = .ok (.goto (-57), 3) := by decide +kernel
theorem dX0_sayInstances_64 : decode cX0_sayInstances 64 = .ok (.aload_n 1, 1) := by decide +kernel
theorem dX0_sayInstances_65 : decode cX0_sayInstances 65 = .ok (.iload_n 2, 1) := by decide +kernel
theorem dX0_sayInstances_66 : decode cX0_sayInstances 66 = .ok (.invokevirtual 217, 3) := by decide +kernel
theorem dX0_sayInstances_69 : decode cX0_sayInstances 69 = .ok (.iconst 0, 1) := by decide +kernel
theorem dX0_sayInstances_70 : decode cX0_sayInstances 70 = .ok (.istore_n 3, 1) := by decide +kernel
theorem dX0_sayInstances_71 : decode cX0_sayInstances 71 = .ok (.iload_n 3, 1) := by decide +kernel
theorem dX0_sayInstances_72 : decode cX0_sayInstances 72 = .ok (.aload_n 0, 1) := by decide +kernel
theorem dX0_sayInstances_73 : decode cX0_sayInstances 73 = .ok (.getfield 37, 3) := by decide +kernel
theorem dX0_sayInstances_76 : decode cX0_sayInstances 76 = .ok (.getfield 296, 3) := by decide +kernel
theorem dX0_sayInstances_79 : decode cX0_sayInstances 79 = .ok (.if_icmp .ge 127, 3) := by decide +kernel
theorem dX0_sayInstances_82 : decode cX0_sayInstances 82 = .ok (.aload_n 0, 1) := by decide +kernel
theorem dX0_sayInstances_83 : decode cX0_sayInstances 83 = .ok (.getfield 37, 3) := by decide +kernel
theorem dX0_sayInstances_86 : decode cX0_sayInstances 86 = .ok (.getfield 299, 3) := by decide +kernel
theorem dX0_sayInstances_89 : decode cX0_sayInstances 89 = .ok (.iload_n 3, 1) := by decide +kernel
theorem dX0_sayInstances_90 : decode cX0_sayInstances 90 = .ok (.iaload, 1) := by decide +kernel
theorem dX0_sayInstances_91 : decode cX0_sayInstances 91 = .ok (.aload_n 1, 1) := by decide +kernel
theorem dX0_sayInstances_92 : decode cX0_sayInstances 92 = .ok (.getfield 257, 3) := by decide +kernel
theorem dX0_sayInstances_95 : decode cX0_sayInstances 95 = .ok (.if_icmp .ne 46, 3) := by decide +kernel
theorem dX0_sayInstances_98 : decode cX0_sayInstances 98 = .ok (.aload_n 0, 1) := by decide +kernel
theorem dX0_sayInstances_99 : decode cX0_sayInstances 99 = .ok (.getfield 37, 3) := by decide +kernel
theorem dX0_sayInstances_102 : decode cX0_sayInstances 102 = .ok (.getfield 303, 3) := by decide +kernel
theorem dX0_sayInstances_105 : decode cX0_sayInstances 105 = .ok (.iload_n 3, 1) := by decide +kernel
theorem dX0_sayInstances_106 : decode cX0_sayInstances 106 = .ok (.iaload, 1) := by decide +kernel
theorem dX0_sayInstances_107 : decode cX0_sayInstances 107 = .ok (.ifCond .ne 34, 3) := by decide +kernel
theorem dX0_sayInstances_110 : decode cX0_sayInstances 110 = .ok (.aload_n 1, 1) := by decide +kernel
theorem dX0_sayInstances_111 : decode cX0_sayInstances 111 = .ok (.aload_n 0, 1) := by decide +kernel
theorem dX0_sayInstances_112 : decode cX0_sayInstances 112 = .ok (.getfield 37, 3) := by decide +kernel
theorem dX0_sayInstances_115 : decode cX0_sayInstances 115 = .ok (.getfield 306, 3) := by decide +kernel
theorem dX0_sayInstances_118 : decode cX0_sayInstances 118 = .ok (.iload_n 3, 1) := by decide +kernel
theorem dX0_sayInstances_119 : decode cX0_sayInstances 119 = .ok (.iaload, 1) := by decide +kernel
theorem dX0_sayInstances_120 : decode cX0_sayInstances 120 = .ok (.aconst_null, 1) := by decide +kernel
theorem dX0_sayInstances_121 : decode cX0_sayInstances 121 = .ok (.iconst 0, 1) := by decide +kernel
theorem dX0_sayInstances_122 : decode cX0_sayInstances 122 = .ok (.aload_n 0, 1) := by decide +kernel
theorem dX0_sayInstances_123 : decode cX0_sayInstances 123 = .ok (.getfield 37, 3) := by decide +kernel
theorem dX0_sayInstances_126 : decode cX0_sayInstances 126 = .ok (.getfield 309, 3) := by decide +kernel
theorem dX0_sayInstances_129 : decode cX0_sayInstances 129 = .ok (.iload_n 3, 1) := by decide +kernel
theorem dX0_sayInstances_130 : decode cX0_sayInstances 130 = .ok (.iaload, 1) := by decide +kernel
theorem dX0_sayInstances_131 : decode cX0_sayInstances 131 = .ok (.i2l, 1) := by decide +kernel
theorem dX0_sayInstances_132 : decode cX0_sayInstances 132 = .ok (.invokestatic 192, 3) := by decide +kernel
theorem dX0_sayInstances_135 : decode cX0_sayInstances 135 = .ok (.invokevirtual 220, 3) := by decide +kernel
theorem dX0_sayInstances_138 : decode cX0_sayInstances 138 = .ok (.goto 62, 3) := by decide +kernel
theorem dX0_sayInstances_141 : decode cX0_sayInstances 141 = .ok (.aload_n 0, 1) := by decide +kernel
theorem dX0_sayInstances_142 : decode cX0_sayInstances 142 = .ok (.getfield 37, 3) := by decide +kernel
theorem dX0_sayInstances_145 : decode cX0_sayInstances 145 = .ok (.getfield 299, 3) := by decide +kernel
theorem dX0_sayInstances_148 : decode cX0_sayInstances 148 = .ok (.iload_n 3, 1) := by decide +kernel
theorem dX0_sayInstances_149 : decode cX0_sayInstances 149 = .ok (.iaload, 1) := by decide +kernel
theorem dX0_sayInstances_150 : decode cX0_sayInstances 150 = .ok (.aload_n 1, 1) := by decide +kernel
theorem dX0_sayInstances_151 : decode cX0_sayInstances 151 = .ok (.getfield 257, 3) := by decide +kernel
theorem dX0_sayInstances_154 : decode cX0_sayInstances 154 = .ok (.if_icmp .ne 46, 3) := by decide +kernel
theorem dX0_sayInstances_157 : decode cX0_sayInstances 157 = .ok (.iconst 0, 1) := by decide +kernel
theorem dX0_sayInstances_158 : decode cX0_sayInstances 158 = .ok (.istore 4, 2) := by decide +kernel
theorem dX0_sayInstances_160 : decode cX0_sayInstances 160 = .ok (.iload 4, 2) := by decide +kernel
theorem dX0_sayInstances_162 : decode cX0_sayInstances 162 = .ok (.aload_n 0, 1) := by decide +kernel
theorem dX0_sayInstances_163 : decode cX0_sayInstances 163 = .ok (.getfield 268, 3) := by decide +kernel
theorem dX0_sayInstances_166 : decode cX0_sayInstances 166 = .ok (.if_icmp .ge 34, 3) := by decide +kernel
theorem dX0_sayInstances_169 : decode cX0_sayInstances 169 = .ok (.aload_n 1, 1) := by decide +kernel
theorem dX0_sayInstances_170 : decode cX0_sayInstances 170 = .ok (.aload_n 0, 1) := by decide +kernel
theorem dX0_sayInstances_171 : decode cX0_sayInstances 171 = .ok (.getfield 37, 3) := by decide +kernel
theorem dX0_sayInstances_174 : decode cX0_sayInstances 174 = .ok (.getfield 306, 3) := by decide +kernel
theorem dX0_sayInstances_177 : decode cX0_sayInstances 177 = .ok (.iload_n 3, 1) := by decide +kernel
theorem dX0_sayInstances_178 : decode cX0_sayInstances 178 = .ok (.iaload, 1) := by decide +kernel
theorem dX0_sayInstances_179 : decode cX0_sayInstances 179 = .ok (.aload_n 0, 1) := by decide +kernel
theorem dX0_sayInstances_180 : decode cX0_sayInstances 180 = .ok (.aload_n 0, 1) := by decide +kernel
theorem dX0_sayInstances_181 : decode cX0_sayInstances 181 = .ok (.getfield 29, 3) := by decide +kernel
theorem dX0_sayInstances_184 : decode cX0_sayInstances 184 = .ok (.iload 4, 2) := by decide +kernel
theorem dX0_sayInstances_186 : decode cX0_sayInstances 186 = .ok (.aaload, 1) := by decide +kernel
theorem dX0_sayInstances_187 : decode cX0_sayInstances 187 = .ok (.iload_n 3, 1) := by decide +kernel
theorem dX0_sayInstances_188 : decode cX0_sayInstances 188 = .ok (.invokevirtual 312, 3) := by decide +kernel
theorem dX0_sayInstances_191 : decode cX0_sayInstances 191 = .ok (.invokevirtual 220, 3) := by decide +kernel
theorem dX0_sayInstances_194 : decode cX0_sayInstances 194 = .ok (.iinc 4 1, 3) := by decide +kernel
theorem dX0_sayInstances_197 : decode cX0_sayInstances 197 = .ok (.goto (-37), 3) := by decide +kernel
theorem dX0_sayInstances_200 : decode cX0_sayInstances 200 = .ok (.iinc 3 1, 3) := by decide +kernel
theorem dX0_sayInstances_203 : decode cX0_sayInstances 203 = .ok (.goto (-132), 3) := by decide +kernel
theorem dX0_sayInstances_206 : decode cX0_sayInstances 206 = .ok (.return_, 1) := by decide +kernel
theorem dX0_instance_0 : decode cX0_instance 0 = .ok (.aload_n 1, 1) := by decide +kernel
theorem dX0_instance_1 : decode cX0_instance 1 = .ok (.getfield 316, 3) := by decide +kernel
theorem dX0_instance_4 : decode cX0_instance 4 = .ok (.ifnonnull 12, 3) := by decide +kernel
theorem dX0_instance_7 : decode cX0_instance 7 = .ok (.aload_n 1, 1) := by decide +kernel
theorem dX0_instance_8 : decode cX0_instance 8 = .ok (.bipush 6, 2) := by decide +kernel
theorem dX0_instance_10 : decode cX0_instance 10 = .ok (.anewarray 177, 3) := by decide +kernel
theorem dX0_instance_13 : decode cX0_instance 13 = .ok (.putfield 316, 3) := by decide +kernel
theorem dX0_instance_16 : decode cX0_instance 16 = .ok (.aload_n 1, 1) := by decide +kernel
theorem dX0_instance_17 : decode cX0_instance 17 = .ok (.getfield 316, 3) := by decide +kernel
theorem dX0_instance_20 : decode cX0_instance 20 = .ok (.iload_n 2, 1) := by decide +kernel
theorem dX0_instance_21 : decode cX0_instance 21 = .ok (.aaload, 1) := by decide +kernel
theorem dX0_instance_22 : decode cX0_instance 22 = .ok (.ifnonnull 32, 3) := by decide +kernel
theorem dX0_instance_25 : decode cX0_instance 25 = .ok (.aload_n 1, 1) := by decide +kernel
theorem dX0_instance_26 : decode cX0_instance 26 = .ok (.getfield 316, 3) := by decide +kernel
theorem dX0_instance_29 : decode cX0_instance 29 = .ok (.iload_n 2, 1) := by decide +kernel
theorem dX0_instance_30 : decode cX0_instance 30 = .ok (.aload_n 1, 1) := by decide +kernel
theorem dX0_instance_31 : decode cX0_instance 31 = .ok (.aload_n 0, 1) := by decide +kernel
theorem dX0_instance_32 : decode cX0_instance 32 = .ok (.getfield 37, 3) := by decide +kernel
theorem dX0_instance_35 : decode cX0_instance 35 = .ok (.getfield 303, 3) := by decide +kernel
theorem dX0_instance_38 : decode cX0_instance 38 = .ok (.iload_n 2, 1) := by decide +kernel
theorem dX0_instance_39 : decode cX0_instance 39 = .ok (.iaload, 1) := by decide +kernel
theorem dX0_instance_40 : decode cX0_instance 40 = .ok (.aload_n 0, 1) := by decide +kernel
theorem dX0_instance_41 : decode cX0_instance 41 = .ok (.getfield 37, 3) := by decide +kernel
theorem dX0_instance_44 : decode cX0_instance 44 = .ok (.getfield 309, 3) := by decide +kernel
theorem dX0_instance_47 : decode cX0_instance 47 = .ok (.iload_n 2, 1) := by decide +kernel
theorem dX0_instance_48 : decode cX0_instance 48 = .ok (.iaload, 1) := by decide +kernel
theorem dX0_instance_49 : decode cX0_instance 49 = .ok (.i2l, 1) := by decide +kernel
theorem dX0_instance_50 : decode cX0_instance 50 = .ok (.invokestatic 192, 3) := by decide +kernel
theorem dX0_instance_53 : decode cX0_instance 53 = .ok (.aastore, 1) := by decide +kernel
theorem dX0_instance_54 : decode cX0_instance 54 = .ok (.aload_n 1, 1) := by decide +kernel
theorem dX0_instance_55 : decode cX0_instance 55 = .ok (.getfield 316, 3) := by decide +kernel
theorem dX0_instance_58 : decode cX0_instance 58 = .ok (.iload_n 2, 1) := by decide +kernel
theorem dX0_instance_59 : decode cX0_instance 59 = .ok (.aaload, 1) := by decide +kernel
theorem dX0_instance_60 : decode cX0_instance 60 = .ok (.areturn, 1) := by decide +kernel
theorem dX10_root_0 : decode cX10_root 0 = .ok (.iload_n 1, 1) := by decide +kernel
theorem dX10_root_1 : decode cX10_root 1 = .ok (.istore_n 2, 1) := by decide +kernel
theorem dX10_root_2 : decode cX10_root 2 = .ok (.iconst 0, 1) := by decide +kernel
theorem dX10_root_3 : decode cX10_root 3 = .ok (.istore_n 3, 1) := by decide +kernel
theorem dX10_root_4 : decode cX10_root 4 = .ok (.iload_n 3, 1) := by decide +kernel
theorem dX10_root_5 : decode cX10_root 5 = .ok (.aload_n 0, 1) := by decide +kernel
theorem dX10_root_6 : decode cX10_root 6 = .ok (.getfield 86, 3) := by decide +kernel
theorem dX10_root_9 : decode cX10_root 9 = .ok (.if_icmp .ge 26, 3) := by decide +kernel
theorem dX10_root_12 : decode cX10_root 12 = .ok (.aload_n 0, 1) := by decide +kernel
theorem dX10_root_13 : decode cX10_root 13 = .ok (.getfield 28, 3) := by decide +kernel
theorem dX10_root_16 : decode cX10_root 16 = .ok (.iload_n 2, 1) := by decide +kernel
theorem dX10_root_17 : decode cX10_root 17 = .ok (.iaload, 1) := by decide +kernel
theorem dX10_root_18 : decode cX10_root 18 = .ok (.iload_n 2, 1) := by decide +kernel
theorem dX10_root_19 : decode cX10_root 19 = .ok (.if_icmp .eq 16, 3) := by decide +kernel
theorem dX10_root_22 : decode cX10_root 22 = .ok (.aload_n 0, 1) := by decide +kernel
theorem dX10_root_23 : decode cX10_root 23 = .ok (.getfield 28, 3) := by decide +kernel
theorem dX10_root_26 : decode cX10_root 26 = .ok (.iload_n 2, 1) := by decide +kernel
theorem dX10_root_27 : decode cX10_root 27 = .ok (.iaload, 1) := by decide +kernel
theorem dX10_root_28 : decode cX10_root 28 = .ok (.istore_n 2, 1) := by decide +kernel
theorem dX10_root_29 : decode cX10_root 29 = .ok (.iinc 3 1, 3) := by decide +kernel
theorem dX10_root_32 : decode cX10_root 32 = .ok (.goto (-28), 3) := by decide +kernel
theorem dX10_root_35 : decode cX10_root 35 = .ok (.iload_n 2, 1) := by decide +kernel
theorem dX10_root_36 : decode cX10_root 36 = .ok (.ireturn, 1) := by decide +kernel
theorem dX10_kindOf_0 : decode cX10_kindOf 0 = .ok (.aload_n 0, 1) := by decide +kernel
theorem dX10_kindOf_1 : decode cX10_kindOf 1 = .ok (.getfield 18, 3) := by decide +kernel
theorem dX10_kindOf_4 : decode cX10_kindOf 4 = .ok (.aload_n 0, 1) := by decide +kernel
theorem dX10_kindOf_5 : decode cX10_kindOf 5 = .ok (.iload_n 1, 1) := by decide +kernel
theorem dX10_kindOf_6 : decode cX10_kindOf 6 = .ok (.invokevirtual 89, 3) := by decide +kernel
theorem dX10_kindOf_9 : decode cX10_kindOf 9 = .ok (.iaload, 1) := by decide +kernel
theorem dX10_kindOf_10 : decode cX10_kindOf 10 = .ok (.istore_n 2, 1) := by decide +kernel
theorem dX10_kindOf_11 : decode cX10_kindOf 11 = .ok (.iload_n 2, 1) := by decide +kernel
theorem dX10_kindOf_12 : decode cX10_kindOf 12 = .ok (.ifCond .ne 9, 3) := by decide +kernel
theorem dX10_kindOf_15 : decode cX10_kindOf 15 = .ok (.sipush 210, 3) := by decide +kernel
theorem dX10_kindOf_18 : decode cX10_kindOf 18 = .ok (.goto 4, 3) := by decide +kernel
theorem dX10_kindOf_21 : decode cX10_kindOf 21 = .ok (.iload_n 2, 1) := by decide +kernel
theorem dX10_kindOf_22 : decode cX10_kindOf 22 = .ok (.ireturn, 1) := by decide +kernel
theorem dX10_takenBy_0 : decode cX10_takenBy 0 = .ok (.aload_n 0, 1) := by decide +kernel
theorem dX10_takenBy_1 : decode cX10_takenBy 1 = .ok (.getfield 22, 3) := by decide +kernel
theorem dX10_takenBy_4 : decode cX10_takenBy 4 = .ok (.aload_n 0, 1) := by decide +kernel
theorem dX10_takenBy_5 : decode cX10_takenBy 5 = .ok (.iload_n 1, 1) := by decide +kernel
theorem dX10_takenBy_6 : decode cX10_takenBy 6 = .ok (.invokevirtual 89, 3) := by decide +kernel
theorem dX10_takenBy_9 : decode cX10_takenBy 9 = .ok (.iaload, 1) := by decide +kernel
theorem dX10_takenBy_10 : decode cX10_takenBy 10 = .ok (.ireturn, 1) := by decide +kernel
theorem dX10_answeredBy_0 : decode cX10_answeredBy 0 = .ok (.aload_n 0, 1) := by decide +kernel
theorem dX10_answeredBy_1 : decode cX10_answeredBy 1 = .ok (.getfield 25, 3) := by decide +kernel
theorem dX10_answeredBy_4 : decode cX10_answeredBy 4 = .ok (.aload_n 0, 1) := by decide +kernel
theorem dX10_answeredBy_5 : decode cX10_answeredBy 5 = .ok (.iload_n 1, 1) := by decide +kernel
theorem dX10_answeredBy_6 : decode cX10_answeredBy 6 = .ok (.invokevirtual 89, 3) := by decide +kernel
theorem dX10_answeredBy_9 : decode cX10_answeredBy 9 = .ok (.iaload, 1) := by decide +kernel
theorem dX10_answeredBy_10 : decode cX10_answeredBy 10 = .ok (.ireturn, 1) := by decide +kernel
