theorem dX7_expression_0 : decode cX7_expression 0 = .ok (.aload_n 0, 1) := by decide +kernel
theorem dX7_expression_1 : decode cX7_expression 1 = .ok (.aload_n 0, 1) := by decide +kernel
theorem dX7_expression_2 : decode cX7_expression 2 = .ok (.invokevirtual 57, 3) := by decide +kernel
theorem dX7_expression_5 : decode cX7_expression 5 = .ok (.invokevirtual 163, 3) := by decide +kernel
theorem dX7_expression_8 : decode cX7_expression 8 = .ok (.astore_n 2, 1) := by decide +kernel
theorem dX7_expression_9 : decode cX7_expression 9 = .ok (.iload_n 1, 1) := by decide +kernel
theorem dX7_expression_10 : decode cX7_expression 10 = .ok (.bipush 30, 2) := by decide +kernel
theorem dX7_expression_12 : decode cX7_expression 12 = .ok (.if_icmp .le 9, 3) := by decide +kernel
theorem dX7_expression_21 : decode cX7_expression 21 = .ok (.aload_n 0, 1) := by decide +kernel
theorem dX7_expression_22 : decode cX7_expression 22 = .ok (.invokevirtual 57, 3) := by decide +kernel
theorem dX7_expression_25 : decode cX7_expression 25 = .ok (.lookupswitch 256 #[(40, 232), (201, 134), (203, 194), (205, 225), (206, 116), (207, 125), (212, 107), (214, 152), (215, 161), (216, 225), (220, 143), (223, 225)], 107) := by decide +kernel
theorem dX7_expression_281 : decode cX7_expression 281 = .ok (.aload_n 0, 1) := by decide +kernel
theorem dX7_expression_282 : decode cX7_expression 282 = .ok (.iload_n 1, 1) := by decide +kernel
theorem dX7_expression_283 : decode cX7_expression 283 = .ok (.invokevirtual 215, 3) := by decide +kernel
theorem dX7_expression_286 : decode cX7_expression 286 = .ok (.areturn, 1) := by decide +kernel
