theorem dX7_sum__0 : decode cX7_sum_ 0 = .ok (.aload_n 0, 1) := by decide +kernel
theorem dX7_sum__1 : decode cX7_sum_ 1 = .ok (.sipush 400, 3) := by decide +kernel
theorem dX7_sum__4 : decode cX7_sum_ 4 = .ok (.invokevirtual 163, 3) := by decide +kernel
theorem dX7_sum__7 : decode cX7_sum_ 7 = .ok (.astore_n 2, 1) := by decide +kernel
theorem dX7_sum__8 : decode cX7_sum_ 8 = .ok (.aload_n 2, 1) := by decide +kernel
theorem dX7_sum__9 : decode cX7_sum_ 9 = .ok (.new 261, 3) := by decide +kernel
theorem dX7_sum__12 : decode cX7_sum_ 12 = .ok (.dup, 1) := by decide +kernel
theorem dX7_sum__13 : decode cX7_sum_ 13 = .ok (.invokespecial 263, 3) := by decide +kernel
theorem dX7_sum__16 : decode cX7_sum_ 16 = .ok (.putfield 192, 3) := by decide +kernel
theorem dX7_sum__19 : decode cX7_sum_ 19 = .ok (.aload_n 2, 1) := by decide +kernel
theorem dX7_sum__20 : decode cX7_sum_ 20 = .ok (.new 17, 3) := by decide +kernel
theorem dX7_sum__23 : decode cX7_sum_ 23 = .ok (.dup, 1) := by decide +kernel
theorem dX7_sum__24 : decode cX7_sum_ 24 = .ok (.invokespecial 19, 3) := by decide +kernel
theorem dX7_sum__27 : decode cX7_sum_ 27 = .ok (.putfield 271, 3) := by decide +kernel
theorem dX7_sum__30 : decode cX7_sum_ 30 = .ok (.aload_n 2, 1) := by decide +kernel
theorem dX7_sum__31 : decode cX7_sum_ 31 = .ok (.aload_n 0, 1) := by decide +kernel
theorem dX7_sum__32 : decode cX7_sum_ 32 = .ok (.invokevirtual 57, 3) := by decide +kernel
theorem dX7_sum__35 : decode cX7_sum_ 35 = .ok (.putfield 292, 3) := by decide +kernel
theorem dX7_sum__38 : decode cX7_sum_ 38 = .ok (.iconst 1, 1) := by decide +kernel
theorem dX7_sum__39 : decode cX7_sum_ 39 = .ok (.istore_n 3, 1) := by decide +kernel
theorem dX7_sum__40 : decode cX7_sum_ 40 = .ok (.iconst 0, 1) := by decide +kernel
theorem dX7_sum__41 : decode cX7_sum_ 41 = .ok (.istore 4, 2) := by decide +kernel
theorem dX7_sum__43 : decode cX7_sum_ 43 = .ok (.iload 4, 2) := by decide +kernel
theorem dX7_sum__45 : decode cX7_sum_ 45 = .ok (.iload_n 1, 1) := by decide +kernel
theorem dX7_sum__46 : decode cX7_sum_ 46 = .ok (.if_icmp .ge 221, 3) := by decide +kernel
theorem dX7_sum__49 : decode cX7_sum_ 49 = .ok (.iload_n 3, 1) := by decide +kernel
theorem dX7_sum__50 : decode cX7_sum_ 50 = .ok (.ifCond .eq 217, 3) := by decide +kernel
theorem dX7_sum__53 : decode cX7_sum_ 53 = .ok (.aload_n 0, 1) := by decide +kernel
theorem dX7_sum__54 : decode cX7_sum_ 54 = .ok (.invokevirtual 57, 3) := by decide +kernel
theorem dX7_sum__57 : decode cX7_sum_ 57 = .ok (.bipush 45, 2) := by decide +kernel
theorem dX7_sum__59 : decode cX7_sum_ 59 = .ok (.if_icmp .ne 7, 3) := by decide +kernel
theorem dX7_sum__66 : decode cX7_sum_ 66 = .ok (.iconst 1, 1) := by decide +kernel
theorem dX7_sum__67 : decode cX7_sum_ 67 = .ok (.istore 5, 2) := by decide +kernel
theorem dX7_sum__69 : decode cX7_sum_ 69 = .ok (.aload_n 0, 1) := by decide +kernel
theorem dX7_sum__70 : decode cX7_sum_ 70 = .ok (.invokevirtual 57, 3) := by decide +kernel
theorem dX7_sum__73 : decode cX7_sum_ 73 = .ok (.bipush 45, 2) := by decide +kernel
theorem dX7_sum__75 : decode cX7_sum_ 75 = .ok (.if_icmp .eq 8, 3) := by decide +kernel
theorem dX7_sum__78 : decode cX7_sum_ 78 = .ok (.iload 4, 2) := by decide +kernel
theorem dX7_sum__80 : decode cX7_sum_ 80 = .ok (.ifCond .le 12, 3) := by decide +kernel
theorem dX7_sum__92 : decode cX7_sum_ 92 = .ok (.aload_n 0, 1) := by decide +kernel
theorem dX7_sum__93 : decode cX7_sum_ 93 = .ok (.invokevirtual 57, 3) := by decide +kernel
theorem dX7_sum__96 : decode cX7_sum_ 96 = .ok (.istore 6, 2) := by decide +kernel
theorem dX7_sum__98 : decode cX7_sum_ 98 = .ok (.iload 6, 2) := by decide +kernel
theorem dX7_sum__100 : decode cX7_sum_ 100 = .ok (.iconst 2, 1) := by decide +kernel
theorem dX7_sum__101 : decode cX7_sum_ 101 = .ok (.if_icmp .ne 37, 3) := by decide +kernel
theorem dX7_sum__138 : decode cX7_sum_ 138 = .ok (.iload 6, 2) := by decide +kernel
theorem dX7_sum__140 : decode cX7_sum_ 140 = .ok (.sipush 211, 3) := by decide +kernel
theorem dX7_sum__143 : decode cX7_sum_ 143 = .ok (.if_icmp .eq 11, 3) := by decide +kernel
theorem dX7_sum__146 : decode cX7_sum_ 146 = .ok (.iload 6, 2) := by decide +kernel
theorem dX7_sum__148 : decode cX7_sum_ 148 = .ok (.sipush 221, 3) := by decide +kernel
theorem dX7_sum__151 : decode cX7_sum_ 151 = .ok (.if_icmp .ne 7, 3) := by decide +kernel
theorem dX7_sum__158 : decode cX7_sum_ 158 = .ok (.aload_n 0, 1) := by decide +kernel
theorem dX7_sum__159 : decode cX7_sum_ 159 = .ok (.iload 6, 2) := by decide +kernel
theorem dX7_sum__161 : decode cX7_sum_ 161 = .ok (.sipush 211, 3) := by decide +kernel
theorem dX7_sum__164 : decode cX7_sum_ 164 = .ok (.if_icmp .ne 9, 3) := by decide +kernel
theorem dX7_sum__173 : decode cX7_sum_ 173 = .ok (.iload 6, 2) := by decide +kernel
theorem dX7_sum__175 : decode cX7_sum_ 175 = .ok (.sipush 221, 3) := by decide +kernel
theorem dX7_sum__178 : decode cX7_sum_ 178 = .ok (.if_icmp .ne 9, 3) := by decide +kernel
theorem dX7_sum__187 : decode cX7_sum_ 187 = .ok (.sipush 210, 3) := by decide +kernel
theorem dX7_sum__190 : decode cX7_sum_ 190 = .ok (.invokevirtual 163, 3) := by decide +kernel
theorem dX7_sum__193 : decode cX7_sum_ 193 = .ok (.astore 7, 2) := by decide +kernel
theorem dX7_sum__195 : decode cX7_sum_ 195 = .ok (.aload 7, 2) := by decide +kernel
theorem dX7_sum__197 : decode cX7_sum_ 197 = .ok (.aload_n 0, 1) := by decide +kernel
theorem dX7_sum__198 : decode cX7_sum_ 198 = .ok (.invokevirtual 205, 3) := by decide +kernel
theorem dX7_sum__201 : decode cX7_sum_ 201 = .ok (.putfield 208, 3) := by decide +kernel
theorem dX7_sum__204 : decode cX7_sum_ 204 = .ok (.aload_n 2, 1) := by decide +kernel
theorem dX7_sum__205 : decode cX7_sum_ 205 = .ok (.aload 7, 2) := by decide +kernel
theorem dX7_sum__207 : decode cX7_sum_ 207 = .ok (.getfield 208, 3) := by decide +kernel
theorem dX7_sum__210 : decode cX7_sum_ 210 = .ok (.putfield 208, 3) := by decide +kernel
theorem dX7_sum__213 : decode cX7_sum_ 213 = .ok (.aload_n 2, 1) := by decide +kernel
theorem dX7_sum__214 : decode cX7_sum_ 214 = .ok (.getfield 271, 3) := by decide +kernel
theorem dX7_sum__217 : decode cX7_sum_ 217 = .ok (.aload 7, 2) := by decide +kernel
theorem dX7_sum__219 : decode cX7_sum_ 219 = .ok (.invokevirtual 151, 3) := by decide +kernel
theorem dX7_sum__222 : decode cX7_sum_ 222 = .ok (.pop, 1) := by decide +kernel
theorem dX7_sum__223 : decode cX7_sum_ 223 = .ok (.aload_n 2, 1) := by decide +kernel
theorem dX7_sum__224 : decode cX7_sum_ 224 = .ok (.getfield 192, 3) := by decide +kernel
theorem dX7_sum__227 : decode cX7_sum_ 227 = .ok (.aload 7, 2) := by decide +kernel
theorem dX7_sum__229 : decode cX7_sum_ 229 = .ok (.getfield 208, 3) := by decide +kernel
theorem dX7_sum__232 : decode cX7_sum_ 232 = .ok (.iload 5, 2) := by decide +kernel
theorem dX7_sum__234 : decode cX7_sum_ 234 = .ok (.invokevirtual 268, 3) := by decide +kernel
theorem dX7_sum__237 : decode cX7_sum_ 237 = .ok (.aload_n 0, 1) := by decide +kernel
theorem dX7_sum__238 : decode cX7_sum_ 238 = .ok (.invokevirtual 57, 3) := by decide +kernel
theorem dX7_sum__241 : decode cX7_sum_ 241 = .ok (.bipush 43, 2) := by decide +kernel
theorem dX7_sum__243 : decode cX7_sum_ 243 = .ok (.if_icmp .eq 12, 3) := by decide +kernel
theorem dX7_sum__246 : decode cX7_sum_ 246 = .ok (.aload_n 0, 1) := by decide +kernel
theorem dX7_sum__247 : decode cX7_sum_ 247 = .ok (.invokevirtual 57, 3) := by decide +kernel
theorem dX7_sum__250 : decode cX7_sum_ 250 = .ok (.bipush 45, 2) := by decide +kernel
theorem dX7_sum__252 : decode cX7_sum_ 252 = .ok (.if_icmp .ne 7, 3) := by decide +kernel
theorem dX7_sum__259 : decode cX7_sum_ 259 = .ok (.iconst 0, 1) := by decide +kernel
theorem dX7_sum__260 : decode cX7_sum_ 260 = .ok (.istore_n 3, 1) := by decide +kernel
theorem dX7_sum__261 : decode cX7_sum_ 261 = .ok (.iinc 4 1, 3) := by decide +kernel
theorem dX7_sum__264 : decode cX7_sum_ 264 = .ok (.goto (-221), 3) := by decide +kernel
theorem dX7_sum__267 : decode cX7_sum_ 267 = .ok (.aload_n 2, 1) := by decide +kernel
theorem dX7_sum__268 : decode cX7_sum_ 268 = .ok (.areturn, 1) := by decide +kernel
