theorem dX7_node_0 : decode cX7_node 0 = .ok (.new 101, 3) := by decide +kernel
theorem dX7_node_3 : decode cX7_node 3 = .ok (.dup, 1) := by decide +kernel
theorem dX7_node_4 : decode cX7_node 4 = .ok (.iload_n 1, 1) := by decide +kernel
theorem dX7_node_5 : decode cX7_node 5 = .ok (.aload_n 0, 1) := by decide +kernel
theorem dX7_node_6 : decode cX7_node 6 = .ok (.invokevirtual 95, 3) := by decide +kernel
theorem dX7_node_9 : decode cX7_node 9 = .ok (.aload_n 0, 1) := by decide +kernel
theorem dX7_node_10 : decode cX7_node 10 = .ok (.getfield 103, 3) := by decide +kernel
theorem dX7_node_13 : decode cX7_node 13 = .ok (.invokespecial 106, 3) := by decide +kernel
theorem dX7_node_16 : decode cX7_node 16 = .ok (.areturn, 1) := by decide +kernel
