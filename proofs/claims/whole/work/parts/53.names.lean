theorem dX7_readOpen_0 : decode cX7_readOpen 0 = .ok (.aload_n 0, 1) := by decide +kernel
theorem dX7_readOpen_1 : decode cX7_readOpen 1 = .ok (.invokevirtual 57, 3) := by decide +kernel
theorem dX7_readOpen_4 : decode cX7_readOpen 4 = .ok (.iconst 1, 1) := by decide +kernel
theorem dX7_readOpen_5 : decode cX7_readOpen 5 = .ok (.if_icmp .ne 20, 3) := by decide +kernel
theorem dX7_readOpen_25 : decode cX7_readOpen 25 = .ok (.iconst 0, 1) := by decide +kernel
theorem dX7_readOpen_26 : decode cX7_readOpen 26 = .ok (.istore_n 2, 1) := by decide +kernel
theorem dX7_readOpen_27 : decode cX7_readOpen 27 = .ok (.iload_n 2, 1) := by decide +kernel
theorem dX7_readOpen_28 : decode cX7_readOpen 28 = .ok (.bipush 91, 2) := by decide +kernel
theorem dX7_readOpen_30 : decode cX7_readOpen 30 = .ok (.if_icmp .ne 17, 3) := by decide +kernel
theorem dX7_readOpen_47 : decode cX7_readOpen 47 = .ok (.iload_n 2, 1) := by decide +kernel
theorem dX7_readOpen_48 : decode cX7_readOpen 48 = .ok (.invokestatic 278, 3) := by decide +kernel
theorem dX7_readOpen_51 : decode cX7_readOpen 51 = .ok (.ifCond .eq 9, 3) := by decide +kernel
theorem dX7_readOpen_60 : decode cX7_readOpen 60 = .ok (.aload_n 0, 1) := by decide +kernel
theorem dX7_readOpen_61 : decode cX7_readOpen 61 = .ok (.invokevirtual 185, 3) := by decide +kernel
theorem dX7_readOpen_64 : decode cX7_readOpen 64 = .ok (.astore_n 3, 1) := by decide +kernel
theorem dX7_readOpen_65 : decode cX7_readOpen 65 = .ok (.aload_n 0, 1) := by decide +kernel
theorem dX7_readOpen_66 : decode cX7_readOpen 66 = .ok (.invokevirtual 57, 3) := by decide +kernel
theorem dX7_readOpen_69 : decode cX7_readOpen 69 = .ok (.bipush 42, 2) := by decide +kernel
theorem dX7_readOpen_71 : decode cX7_readOpen 71 = .ok (.if_icmp .eq 23, 3) := by decide +kernel
theorem dX7_readOpen_74 : decode cX7_readOpen 74 = .ok (.aload_n 0, 1) := by decide +kernel
theorem dX7_readOpen_75 : decode cX7_readOpen 75 = .ok (.invokevirtual 57, 3) := by decide +kernel
theorem dX7_readOpen_78 : decode cX7_readOpen 78 = .ok (.bipush 47, 2) := by decide +kernel
theorem dX7_readOpen_80 : decode cX7_readOpen 80 = .ok (.if_icmp .eq 14, 3) := by decide +kernel
theorem dX7_readOpen_83 : decode cX7_readOpen 83 = .ok (.aload_n 0, 1) := by decide +kernel
theorem dX7_readOpen_84 : decode cX7_readOpen 84 = .ok (.invokevirtual 57, 3) := by decide +kernel
theorem dX7_readOpen_87 : decode cX7_readOpen 87 = .ok (.bipush 37, 2) := by decide +kernel
theorem dX7_readOpen_89 : decode cX7_readOpen 89 = .ok (.if_icmp .eq 5, 3) := by decide +kernel
theorem dX7_readOpen_92 : decode cX7_readOpen 92 = .ok (.aload_n 3, 1) := by decide +kernel
theorem dX7_readOpen_93 : decode cX7_readOpen 93 = .ok (.areturn, 1) := by decide +kernel
