theorem dX12_compile_0 : decode cX12_compile 0 = .ok (.aload_n 0, 1) := by decide +kernel
theorem dX12_compile_1 : decode cX12_compile 1 = .ok (.getfield 44, 3) := by decide +kernel
theorem dX12_compile_4 : decode cX12_compile 4 = .ok (.newarray .char, 2) := by decide +kernel
theorem dX12_compile_6 : decode cX12_compile 6 = .ok (.astore_n 1, 1) := by decide +kernel
theorem dX12_compile_7 : decode cX12_compile 7 = .ok (.iconst 0, 1) := by decide +kernel
theorem dX12_compile_8 : decode cX12_compile 8 = .ok (.istore_n 2, 1) := by decide +kernel
theorem dX12_compile_9 : decode cX12_compile 9 = .ok (.iload_n 2, 1) := by decide +kernel
theorem dX12_compile_10 : decode cX12_compile 10 = .ok (.aload_n 0, 1) := by decide +kernel
theorem dX12_compile_11 : decode cX12_compile 11 = .ok (.getfield 44, 3) := by decide +kernel
theorem dX12_compile_14 : decode cX12_compile 14 = .ok (.if_icmp .ge 23, 3) := by decide +kernel
theorem dX12_compile_37 : decode cX12_compile 37 = .ok (.aload_n 0, 1) := by decide +kernel
theorem dX12_compile_38 : decode cX12_compile 38 = .ok (.iconst 0, 1) := by decide +kernel
theorem dX12_compile_39 : decode cX12_compile 39 = .ok (.putfield 44, 3) := by decide +kernel
theorem dX12_compile_42 : decode cX12_compile 42 = .ok (.aload_n 0, 1) := by decide +kernel
theorem dX12_compile_43 : decode cX12_compile 43 = .ok (.aconst_null, 1) := by decide +kernel
theorem dX12_compile_44 : decode cX12_compile 44 = .ok (.putfield 51, 3) := by decide +kernel
theorem dX12_compile_47 : decode cX12_compile 47 = .ok (.aload_n 0, 1) := by decide +kernel
theorem dX12_compile_48 : decode cX12_compile 48 = .ok (.aconst_null, 1) := by decide +kernel
theorem dX12_compile_49 : decode cX12_compile 49 = .ok (.putfield 55, 3) := by decide +kernel
theorem dX12_compile_52 : decode cX12_compile 52 = .ok (.aload_n 0, 1) := by decide +kernel
theorem dX12_compile_53 : decode cX12_compile 53 = .ok (.aconst_null, 1) := by decide +kernel
theorem dX12_compile_54 : decode cX12_compile 54 = .ok (.putfield 59, 3) := by decide +kernel
theorem dX12_compile_57 : decode cX12_compile 57 = .ok (.aload_n 0, 1) := by decide +kernel
theorem dX12_compile_58 : decode cX12_compile 58 = .ok (.iconst (-1), 1) := by decide +kernel
theorem dX12_compile_59 : decode cX12_compile 59 = .ok (.putfield 13, 3) := by decide +kernel
theorem dX12_compile_62 : decode cX12_compile 62 = .ok (.aload_n 0, 1) := by decide +kernel
theorem dX12_compile_63 : decode cX12_compile 63 = .ok (.getfield 40, 3) := by decide +kernel
theorem dX12_compile_66 : decode cX12_compile 66 = .ok (.invokevirtual 63, 3) := by decide +kernel
theorem dX12_compile_69 : decode cX12_compile 69 = .ok (.new 66, 3) := by decide +kernel
theorem dX12_compile_72 : decode cX12_compile 72 = .ok (.dup, 1) := by decide +kernel
theorem dX12_compile_73 : decode cX12_compile 73 = .ok (.new 68, 3) := by decide +kernel
theorem dX12_compile_76 : decode cX12_compile 76 = .ok (.dup, 1) := by decide +kernel
theorem dX12_compile_77 : decode cX12_compile 77 = .ok (.aload_n 1, 1) := by decide +kernel
theorem dX12_compile_78 : decode cX12_compile 78 = .ok (.invokespecial 70, 3) := by decide +kernel
theorem dX12_compile_81 : decode cX12_compile 81 = .ok (.invokespecial 73, 3) := by decide +kernel
theorem dX12_compile_84 : decode cX12_compile 84 = .ok (.astore_n 2, 1) := by decide +kernel
theorem dX12_compile_85 : decode cX12_compile 85 = .ok (.aload_n 2, 1) := by decide +kernel
theorem dX12_compile_86 : decode cX12_compile 86 = .ok (.getfield 76, 3) := by decide +kernel
theorem dX12_compile_89 : decode cX12_compile 89 = .ok (.ifCond .lt 13, 3) := by decide +kernel
theorem dX12_compile_102 : decode cX12_compile 102 = .ok (.new 83, 3) := by decide +kernel
theorem dX12_compile_105 : decode cX12_compile 105 = .ok (.dup, 1) := by decide +kernel
theorem dX12_compile_106 : decode cX12_compile 106 = .ok (.aload_n 2, 1) := by decide +kernel
theorem dX12_compile_107 : decode cX12_compile 107 = .ok (.invokespecial 85, 3) := by decide +kernel
theorem dX12_compile_110 : decode cX12_compile 110 = .ok (.astore_n 3, 1) := by decide +kernel
theorem dX12_compile_111 : decode cX12_compile 111 = .ok (.aload_n 3, 1) := by decide +kernel
theorem dX12_compile_112 : decode cX12_compile 112 = .ok (.invokevirtual 88, 3) := by decide +kernel
theorem dX12_compile_115 : decode cX12_compile 115 = .ok (.aload_n 3, 1) := by decide +kernel
theorem dX12_compile_116 : decode cX12_compile 116 = .ok (.getfield 91, 3) := by decide +kernel
theorem dX12_compile_119 : decode cX12_compile 119 = .ok (.ifCond .lt 13, 3) := by decide +kernel
theorem dX12_compile_122 : decode cX12_compile 122 = .ok (.aload_n 0, 1) := by decide +kernel
theorem dX12_compile_123 : decode cX12_compile 123 = .ok (.iconst 2, 1) := by decide +kernel
theorem dX12_compile_124 : decode cX12_compile 124 = .ok (.aload_n 3, 1) := by decide +kernel
theorem dX12_compile_125 : decode cX12_compile 125 = .ok (.getfield 91, 3) := by decide +kernel
theorem dX12_compile_128 : decode cX12_compile 128 = .ok (.invokevirtual 79, 3) := by decide +kernel
theorem dX12_compile_131 : decode cX12_compile 131 = .ok (.ireturn, 1) := by decide +kernel
