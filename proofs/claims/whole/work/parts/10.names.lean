theorem dX12_accepted_0 : decode cX12_accepted 0 = .ok (.aload_n 0, 1) := by decide +kernel
theorem dX12_accepted_1 : decode cX12_accepted 1 = .ok (.getfield 51, 3) := by decide +kernel
theorem dX12_accepted_4 : decode cX12_accepted 4 = .ok (.ifnonnull 5, 3) := by decide +kernel
theorem dX12_accepted_7 : decode cX12_accepted 7 = .ok (.iconst (-1), 1) := by decide +kernel
theorem dX12_accepted_8 : decode cX12_accepted 8 = .ok (.ireturn, 1) := by decide +kernel
theorem dX12_type_0 : decode cX12_type 0 = .ok (.aload_n 0, 1) := by decide +kernel
theorem dX12_type_1 : decode cX12_type 1 = .ok (.getfield 51, 3) := by decide +kernel
theorem dX12_type_4 : decode cX12_type 4 = .ok (.ifnull 28, 3) := by decide +kernel
theorem dX12_type_32 : decode cX12_type 32 = .ok (.iconst (-1), 1) := by decide +kernel
theorem dX12_type_33 : decode cX12_type 33 = .ok (.ireturn, 1) := by decide +kernel
theorem dX12_give_0 : decode cX12_give 0 = .ok (.aload_n 0, 1) := by decide +kernel
theorem dX12_give_1 : decode cX12_give 1 = .ok (.getfield 51, 3) := by decide +kernel
theorem dX12_give_4 : decode cX12_give 4 = .ok (.ifnull 51, 3) := by decide +kernel
theorem dX12_give_55 : decode cX12_give 55 = .ok (.iconst 0, 1) := by decide +kernel
theorem dX12_give_56 : decode cX12_give 56 = .ok (.ireturn, 1) := by decide +kernel
theorem dX12_element_0 : decode cX12_element 0 = .ok (.aload_n 0, 1) := by decide +kernel
theorem dX12_element_1 : decode cX12_element 1 = .ok (.getfield 51, 3) := by decide +kernel
theorem dX12_element_4 : decode cX12_element 4 = .ok (.ifnull 58, 3) := by decide +kernel
theorem dX12_element_62 : decode cX12_element 62 = .ok (.iconst 0, 1) := by decide +kernel
theorem dX12_element_63 : decode cX12_element 63 = .ok (.ireturn, 1) := by decide +kernel
theorem dX12_run_0 : decode cX12_run 0 = .ok (.aload_n 0, 1) := by decide +kernel
theorem dX12_run_1 : decode cX12_run 1 = .ok (.getfield 51, 3) := by decide +kernel
theorem dX12_run_4 : decode cX12_run 4 = .ok (.ifnull 14, 3) := by decide +kernel
theorem dX12_run_18 : decode cX12_run 18 = .ok (.iconst (-1), 1) := by decide +kernel
theorem dX12_run_19 : decode cX12_run 19 = .ok (.ireturn, 1) := by decide +kernel
theorem dX13_accepted_0 : decode cX13_accepted 0 = .ok (.aload_n 0, 1) := by decide +kernel
theorem dX13_accepted_1 : decode cX13_accepted 1 = .ok (.getfield 750, 3) := by decide +kernel
theorem dX13_accepted_4 : decode cX13_accepted 4 = .ok (.ifCond .ne 5, 3) := by decide +kernel
theorem dX13_accepted_7 : decode cX13_accepted 7 = .ok (.iconst (-1), 1) := by decide +kernel
theorem dX13_accepted_8 : decode cX13_accepted 8 = .ok (.ireturn, 1) := by decide +kernel
theorem dX13_type_0 : decode cX13_type 0 = .ok (.aload_n 0, 1) := by decide +kernel
theorem dX13_type_1 : decode cX13_type 1 = .ok (.getfield 750, 3) := by decide +kernel
theorem dX13_type_4 : decode cX13_type 4 = .ok (.ifCond .eq 22, 3) := by decide +kernel
theorem dX13_type_26 : decode cX13_type 26 = .ok (.iconst (-1), 1) := by decide +kernel
theorem dX13_type_27 : decode cX13_type 27 = .ok (.ireturn, 1) := by decide +kernel
theorem dX13_give_0 : decode cX13_give 0 = .ok (.aload_n 0, 1) := by decide +kernel
theorem dX13_give_1 : decode cX13_give 1 = .ok (.getfield 750, 3) := by decide +kernel
theorem dX13_give_4 : decode cX13_give 4 = .ok (.ifCond .eq 36, 3) := by decide +kernel
theorem dX13_give_40 : decode cX13_give 40 = .ok (.iconst 0, 1) := by decide +kernel
theorem dX13_give_41 : decode cX13_give 41 = .ok (.ireturn, 1) := by decide +kernel
theorem dX13_element_0 : decode cX13_element 0 = .ok (.aload_n 0, 1) := by decide +kernel
theorem dX13_element_1 : decode cX13_element 1 = .ok (.getfield 750, 3) := by decide +kernel
theorem dX13_element_4 : decode cX13_element 4 = .ok (.ifCond .eq 41, 3) := by decide +kernel
theorem dX13_element_45 : decode cX13_element 45 = .ok (.iconst 0, 1) := by decide +kernel
theorem dX13_element_46 : decode cX13_element 46 = .ok (.ireturn, 1) := by decide +kernel
theorem dX13_run_0 : decode cX13_run 0 = .ok (.aload_n 0, 1) := by decide +kernel
theorem dX13_run_1 : decode cX13_run 1 = .ok (.getfield 750, 3) := by decide +kernel
theorem dX13_run_4 : decode cX13_run 4 = .ok (.ifCond .eq 14, 3) := by decide +kernel
theorem dX13_run_18 : decode cX13_run 18 = .ok (.iconst (-1), 1) := by decide +kernel
theorem dX13_run_19 : decode cX13_run 19 = .ok (.ireturn, 1) := by decide +kernel
