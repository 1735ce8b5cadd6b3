theorem dX7_sum_0 : decode cX7_sum 0 = .ok (.aload_n 0, 1) := by decide +kernel
theorem dX7_sum_1 : decode cX7_sum 1 = .ok (.ldc_w 302, 3) := by decide +kernel
theorem dX7_sum_4 : decode cX7_sum 4 = .ok (.invokevirtual 290, 3) := by decide +kernel
theorem dX7_sum_7 : decode cX7_sum 7 = .ok (.areturn, 1) := by decide +kernel
