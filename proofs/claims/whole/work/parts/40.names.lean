theorem dX7_use_0 : decode cX7_use 0 = .ok (.aload_n 0, 1) := by decide +kernel
theorem dX7_use_1 : decode cX7_use 1 = .ok (.invokevirtual 57, 3) := by decide +kernel
theorem dX7_use_4 : decode cX7_use 4 = .ok (.iconst 1, 1) := by decide +kernel
theorem dX7_use_5 : decode cX7_use 5 = .ok (.if_icmp .eq 9, 3) := by decide +kernel
theorem dX7_use_8 : decode cX7_use 8 = .ok (.aload_n 0, 1) := by decide +kernel
theorem dX7_use_9 : decode cX7_use 9 = .ok (.invokevirtual 78, 3) := by decide +kernel
theorem dX7_use_12 : decode cX7_use 12 = .ok (.aconst_null, 1) := by decide +kernel
theorem dX7_use_13 : decode cX7_use 13 = .ok (.areturn, 1) := by decide +kernel
theorem dX9_add_0 : decode cX9_add 0 = .ok (.aload_n 1, 1) := by decide +kernel
theorem dX9_add_1 : decode cX9_add 1 = .ok (.ifnonnull 4, 3) := by decide +kernel
theorem dX9_add_4 : decode cX9_add 4 = .ok (.return_, 1) := by decide +kernel
