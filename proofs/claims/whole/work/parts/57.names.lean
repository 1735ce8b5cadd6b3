theorem dX7_readProgram_0 : decode cX7_readProgram 0 = .ok (.aload_n 0, 1) := by decide +kernel
theorem dX7_readProgram_1 : decode cX7_readProgram 1 = .ok (.getfield 54, 3) := by decide +kernel
theorem dX7_readProgram_4 : decode cX7_readProgram 4 = .ok (.bipush 6, 2) := by decide +kernel
theorem dX7_readProgram_6 : decode cX7_readProgram 6 = .ok (.if_icmp .ge 30, 3) := by decide +kernel
theorem dX7_readProgram_9 : decode cX7_readProgram 9 = .ok (.aload_n 0, 1) := by decide +kernel
theorem dX7_readProgram_10 : decode cX7_readProgram 10 = .ok (.invokevirtual 57, 3) := by decide +kernel
theorem dX7_readProgram_13 : decode cX7_readProgram 13 = .ok (.sipush 218, 3) := by decide +kernel
theorem dX7_readProgram_16 : decode cX7_readProgram 16 = .ok (.if_icmp .ne 20, 3) := by decide +kernel
theorem dX7_readProgram_36 : decode cX7_readProgram 36 = .ok (.aload_n 0, 1) := by decide +kernel
theorem dX7_readProgram_37 : decode cX7_readProgram 37 = .ok (.getfield 64, 3) := by decide +kernel
theorem dX7_readProgram_40 : decode cX7_readProgram 40 = .ok (.bipush 6, 2) := by decide +kernel
theorem dX7_readProgram_42 : decode cX7_readProgram 42 = .ok (.if_icmp .ge 30, 3) := by decide +kernel
theorem dX7_readProgram_45 : decode cX7_readProgram 45 = .ok (.aload_n 0, 1) := by decide +kernel
theorem dX7_readProgram_46 : decode cX7_readProgram 46 = .ok (.invokevirtual 57, 3) := by decide +kernel
theorem dX7_readProgram_49 : decode cX7_readProgram 49 = .ok (.sipush 209, 3) := by decide +kernel
theorem dX7_readProgram_52 : decode cX7_readProgram 52 = .ok (.if_icmp .ne 20, 3) := by decide +kernel
theorem dX7_readProgram_72 : decode cX7_readProgram 72 = .ok (.aload_n 0, 1) := by decide +kernel
theorem dX7_readProgram_73 : decode cX7_readProgram 73 = .ok (.aload_n 0, 1) := by decide +kernel
theorem dX7_readProgram_74 : decode cX7_readProgram 74 = .ok (.iconst 0, 1) := by decide +kernel
theorem dX7_readProgram_75 : decode cX7_readProgram 75 = .ok (.invokevirtual 70, 3) := by decide +kernel
theorem dX7_readProgram_78 : decode cX7_readProgram 78 = .ok (.putfield 74, 3) := by decide +kernel
theorem dX7_readProgram_81 : decode cX7_readProgram 81 = .ok (.aload_n 0, 1) := by decide +kernel
theorem dX7_readProgram_82 : decode cX7_readProgram 82 = .ok (.invokevirtual 57, 3) := by decide +kernel
theorem dX7_readProgram_85 : decode cX7_readProgram 85 = .ok (.ifCond .eq 7, 3) := by decide +kernel
theorem dX7_readProgram_92 : decode cX7_readProgram 92 = .ok (.return_, 1) := by decide +kernel
