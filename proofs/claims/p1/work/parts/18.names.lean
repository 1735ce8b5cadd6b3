def wsX13_fault : List Cond := .code yX13_fault cX13_fault 3 none :: ([.fieldLink RX13 392 "LiquidTongueModel" "bad" "I", .fieldLink RX13 395 "LiquidTongueModel" "badAt" "I"] ++ wsX130)
def wsX13_word : List Cond := .code yX13_word cX13_word 4 none :: ([.fieldLink RX13 19 "LiquidTongueModel" "wKind" "[I", .fieldLink RX13 398 "LiquidTongueModel" "words" "I", .fieldLink RX13 23 "LiquidTongueModel" "wAt" "[I", .fieldLink RX13 26 "LiquidTongueModel" "wEnd" "[I"] ++ wsX130)
def wsX13_node : List Cond := .code yX13_node cX13_node 3 (some .int) :: ([.fieldLink RX13 29 "LiquidTongueModel" "kind" "[I", .fieldLink RX13 436 "LiquidTongueModel" "nodes" "I", .fieldLink RX13 32 "LiquidTongueModel" "at" "[I", .fieldLink RX13 35 "LiquidTongueModel" "sign" "[I"] ++ wsX130)
theorem dX13_fault_0 : decode cX13_fault 0 = .ok (.aload_n 0, 1) := by decide +kernel
theorem dX13_fault_1 : decode cX13_fault 1 = .ok (.getfield 392, 3) := by decide +kernel
theorem dX13_fault_4 : decode cX13_fault 4 = .ok (.ifCond .eq 4, 3) := by decide +kernel
theorem dX13_fault_8 : decode cX13_fault 8 = .ok (.aload_n 0, 1) := by decide +kernel
theorem dX13_fault_9 : decode cX13_fault 9 = .ok (.iload_n 1, 1) := by decide +kernel
theorem dX13_fault_10 : decode cX13_fault 10 = .ok (.putfield 392, 3) := by decide +kernel
theorem dX13_fault_13 : decode cX13_fault 13 = .ok (.aload_n 0, 1) := by decide +kernel
theorem dX13_fault_14 : decode cX13_fault 14 = .ok (.iload_n 2, 1) := by decide +kernel
theorem dX13_fault_15 : decode cX13_fault 15 = .ok (.putfield 395, 3) := by decide +kernel
theorem dX13_fault_18 : decode cX13_fault 18 = .ok (.return_, 1) := by decide +kernel
theorem dX13_word_0 : decode cX13_word 0 = .ok (.aload_n 0, 1) := by decide +kernel
theorem dX13_word_1 : decode cX13_word 1 = .ok (.getfield 19, 3) := by decide +kernel
theorem dX13_word_4 : decode cX13_word 4 = .ok (.aload_n 0, 1) := by decide +kernel
theorem dX13_word_5 : decode cX13_word 5 = .ok (.getfield 398, 3) := by decide +kernel
theorem dX13_word_8 : decode cX13_word 8 = .ok (.iload_n 1, 1) := by decide +kernel
theorem dX13_word_9 : decode cX13_word 9 = .ok (.iastore, 1) := by decide +kernel
theorem dX13_word_10 : decode cX13_word 10 = .ok (.aload_n 0, 1) := by decide +kernel
theorem dX13_word_11 : decode cX13_word 11 = .ok (.getfield 23, 3) := by decide +kernel
theorem dX13_word_14 : decode cX13_word 14 = .ok (.aload_n 0, 1) := by decide +kernel
theorem dX13_word_15 : decode cX13_word 15 = .ok (.getfield 398, 3) := by decide +kernel
theorem dX13_word_18 : decode cX13_word 18 = .ok (.iload_n 2, 1) := by decide +kernel
theorem dX13_word_19 : decode cX13_word 19 = .ok (.iastore, 1) := by decide +kernel
theorem dX13_word_20 : decode cX13_word 20 = .ok (.aload_n 0, 1) := by decide +kernel
theorem dX13_word_21 : decode cX13_word 21 = .ok (.getfield 26, 3) := by decide +kernel
theorem dX13_word_24 : decode cX13_word 24 = .ok (.aload_n 0, 1) := by decide +kernel
theorem dX13_word_25 : decode cX13_word 25 = .ok (.getfield 398, 3) := by decide +kernel
theorem dX13_word_28 : decode cX13_word 28 = .ok (.iload_n 3, 1) := by decide +kernel
theorem dX13_word_29 : decode cX13_word 29 = .ok (.iastore, 1) := by decide +kernel
theorem dX13_word_30 : decode cX13_word 30 = .ok (.aload_n 0, 1) := by decide +kernel
theorem dX13_word_31 : decode cX13_word 31 = .ok (.dup, 1) := by decide +kernel
theorem dX13_word_32 : decode cX13_word 32 = .ok (.getfield 398, 3) := by decide +kernel
theorem dX13_word_35 : decode cX13_word 35 = .ok (.iconst 1, 1) := by decide +kernel
theorem dX13_word_36 : decode cX13_word 36 = .ok (.iadd, 1) := by decide +kernel
theorem dX13_word_37 : decode cX13_word 37 = .ok (.putfield 398, 3) := by decide +kernel
theorem dX13_word_40 : decode cX13_word 40 = .ok (.return_, 1) := by decide +kernel
theorem dX13_node_0 : decode cX13_node 0 = .ok (.aload_n 0, 1) := by decide +kernel
theorem dX13_node_1 : decode cX13_node 1 = .ok (.getfield 29, 3) := by decide +kernel
theorem dX13_node_4 : decode cX13_node 4 = .ok (.aload_n 0, 1) := by decide +kernel
theorem dX13_node_5 : decode cX13_node 5 = .ok (.getfield 436, 3) := by decide +kernel
theorem dX13_node_8 : decode cX13_node 8 = .ok (.iload_n 1, 1) := by decide +kernel
theorem dX13_node_9 : decode cX13_node 9 = .ok (.iastore, 1) := by decide +kernel
theorem dX13_node_10 : decode cX13_node 10 = .ok (.aload_n 0, 1) := by decide +kernel
theorem dX13_node_11 : decode cX13_node 11 = .ok (.getfield 32, 3) := by decide +kernel
theorem dX13_node_14 : decode cX13_node 14 = .ok (.aload_n 0, 1) := by decide +kernel
theorem dX13_node_15 : decode cX13_node 15 = .ok (.getfield 436, 3) := by decide +kernel
theorem dX13_node_18 : decode cX13_node 18 = .ok (.iload_n 2, 1) := by decide +kernel
theorem dX13_node_19 : decode cX13_node 19 = .ok (.iastore, 1) := by decide +kernel
theorem dX13_node_20 : decode cX13_node 20 = .ok (.aload_n 0, 1) := by decide +kernel
theorem dX13_node_21 : decode cX13_node 21 = .ok (.getfield 35, 3) := by decide +kernel
theorem dX13_node_24 : decode cX13_node 24 = .ok (.aload_n 0, 1) := by decide +kernel
theorem dX13_node_25 : decode cX13_node 25 = .ok (.getfield 436, 3) := by decide +kernel
theorem dX13_node_28 : decode cX13_node 28 = .ok (.iload_n 2, 1) := by decide +kernel
theorem dX13_node_29 : decode cX13_node 29 = .ok (.iastore, 1) := by decide +kernel
theorem dX13_node_30 : decode cX13_node 30 = .ok (.aload_n 0, 1) := by decide +kernel
theorem dX13_node_31 : decode cX13_node 31 = .ok (.dup, 1) := by decide +kernel
theorem dX13_node_32 : decode cX13_node 32 = .ok (.getfield 436, 3) := by decide +kernel
theorem dX13_node_35 : decode cX13_node 35 = .ok (.iconst 1, 1) := by decide +kernel
theorem dX13_node_36 : decode cX13_node 36 = .ok (.iadd, 1) := by decide +kernel
theorem dX13_node_37 : decode cX13_node 37 = .ok (.putfield 436, 3) := by decide +kernel
theorem dX13_node_40 : decode cX13_node 40 = .ok (.aload_n 0, 1) := by decide +kernel
theorem dX13_node_41 : decode cX13_node 41 = .ok (.getfield 436, 3) := by decide +kernel
theorem dX13_node_44 : decode cX13_node 44 = .ok (.iconst 1, 1) := by decide +kernel
theorem dX13_node_45 : decode cX13_node 45 = .ok (.isub, 1) := by decide +kernel
theorem dX13_node_46 : decode cX13_node 46 = .ok (.ireturn, 1) := by decide +kernel
