def wsX13_fault : List Cond := .code yX13_fault cX13_fault 3 none :: ([.fieldLink RX13 392 "LiquidTongueModel" "bad" "I", .fieldLink RX13 395 "LiquidTongueModel" "badAt" "I"] ++ wsX130)
def wsX13_isLow : List Cond := .code yX13_isLow cX13_isLow 1 (some .boolean) :: ([])
def wsX13_isDigit : List Cond := .code yX13_isDigit cX13_isDigit 1 (some .boolean) :: ([])
def wsX13_word : List Cond := .code yX13_word cX13_word 4 none :: ([.fieldLink RX13 19 "LiquidTongueModel" "wKind" "[I", .fieldLink RX13 398 "LiquidTongueModel" "words" "I", .fieldLink RX13 23 "LiquidTongueModel" "wAt" "[I", .fieldLink RX13 26 "LiquidTongueModel" "wEnd" "[I"] ++ wsX130)
def wsX13_node : List Cond := .code yX13_node cX13_node 3 (some .int) :: ([.fieldLink RX13 29 "LiquidTongueModel" "kind" "[I", .fieldLink RX13 436 "LiquidTongueModel" "nodes" "I", .fieldLink RX13 32 "LiquidTongueModel" "at" "[I", .fieldLink RX13 35 "LiquidTongueModel" "sign" "[I"] ++ wsX130)
def wsX13_wrongName : List Cond := .code yX13_wrongName cX13_wrongName 2 none :: ([.fieldLink RX13 624 "LiquidTongueModel" "least" "I", .fieldLink RX13 23 "LiquidTongueModel" "wAt" "[I"] ++ wsX130)
def wsX13_clearLine : List Cond := .code yX13_clearLine cX13_clearLine 1 none :: ([.fieldLink RX13 704 "LiquidTongueModel" "lMany" "I", .fieldLink RX13 707 "LiquidTongueModel" "lNumber" "J"] ++ wsX130)
def wsX13_wrongForm : List Cond := .code yX13_wrongForm cX13_wrongForm 2 none :: ([.fieldLink RX13 624 "LiquidTongueModel" "least" "I"] ++ wsX130)
def wsX13_is : List Cond := .code yX13_is cX13_is 4 none :: ([.fieldLink RX13 1061 "LiquidTongueModel" "vKind" "I", .fieldLink RX13 1064 "LiquidTongueModel" "vValue" "J"] ++ wsX130)
def wsX13_then : List Cond := .code yX13_then cX13_then 3 (some .boolean) :: ([.fieldLink RX13 1089 "LiquidTongueModel" "nextNode" "I", .fieldLink RX13 1092 "LiquidTongueModel" "nextSlots" "I"] ++ wsX130)
theorem dX13_fault_0 : decode cX13_fault 0 = .ok (.aload_n 0, 1) := by decide +kernel
theorem dX13_fault_1 : decode cX13_fault 1 = .ok (.getfield 392, 3) := by decide +kernel
theorem dX13_fault_4 : decode cX13_fault 4 = .ok (.ifCond .eq 4, 3) := by decide +kernel
theorem dX13_fault_7 : decode cX13_fault 7 = .ok (.return_, 1) := by decide +kernel
theorem dX13_fault_8 : decode cX13_fault 8 = .ok (.aload_n 0, 1) := by decide +kernel
theorem dX13_fault_9 : decode cX13_fault 9 = .ok (.iload_n 1, 1) := by decide +kernel
theorem dX13_fault_10 : decode cX13_fault 10 = .ok (.putfield 392, 3) := by decide +kernel
theorem dX13_fault_13 : decode cX13_fault 13 = .ok (.aload_n 0, 1) := by decide +kernel
theorem dX13_fault_14 : decode cX13_fault 14 = .ok (.iload_n 2, 1) := by decide +kernel
theorem dX13_fault_15 : decode cX13_fault 15 = .ok (.putfield 395, 3) := by decide +kernel
theorem dX13_fault_18 : decode cX13_fault 18 = .ok (.return_, 1) := by decide +kernel
theorem dX13_isLow_0 : decode cX13_isLow 0 = .ok (.iload_n 0, 1) := by decide +kernel
theorem dX13_isLow_1 : decode cX13_isLow 1 = .ok (.bipush 97, 2) := by decide +kernel
theorem dX13_isLow_3 : decode cX13_isLow 3 = .ok (.if_icmp .lt 13, 3) := by decide +kernel
theorem dX13_isLow_6 : decode cX13_isLow 6 = .ok (.iload_n 0, 1) := by decide +kernel
theorem dX13_isLow_7 : decode cX13_isLow 7 = .ok (.bipush 122, 2) := by decide +kernel
theorem dX13_isLow_9 : decode cX13_isLow 9 = .ok (.if_icmp .gt 7, 3) := by decide +kernel
theorem dX13_isLow_12 : decode cX13_isLow 12 = .ok (.iconst 1, 1) := by decide +kernel
theorem dX13_isLow_13 : decode cX13_isLow 13 = .ok (.goto 4, 3) := by decide +kernel
theorem dX13_isLow_16 : decode cX13_isLow 16 = .ok (.iconst 0, 1) := by decide +kernel
theorem dX13_isLow_17 : decode cX13_isLow 17 = .ok (.ireturn, 1) := by decide +kernel
theorem dX13_isDigit_0 : decode cX13_isDigit 0 = .ok (.iload_n 0, 1) := by decide +kernel
theorem dX13_isDigit_1 : decode cX13_isDigit 1 = .ok (.bipush 48, 2) := by decide +kernel
theorem dX13_isDigit_3 : decode cX13_isDigit 3 = .ok (.if_icmp .lt 13, 3) := by decide +kernel
theorem dX13_isDigit_6 : decode cX13_isDigit 6 = .ok (.iload_n 0, 1) := by decide +kernel
theorem dX13_isDigit_7 : decode cX13_isDigit 7 = .ok (.bipush 57, 2) := by decide +kernel
theorem dX13_isDigit_9 : decode cX13_isDigit 9 = .ok (.if_icmp .gt 7, 3) := by decide +kernel
theorem dX13_isDigit_12 : decode cX13_isDigit 12 = .ok (.iconst 1, 1) := by decide +kernel
theorem dX13_isDigit_13 : decode cX13_isDigit 13 = .ok (.goto 4, 3) := by decide +kernel
theorem dX13_isDigit_16 : decode cX13_isDigit 16 = .ok (.iconst 0, 1) := by decide +kernel
theorem dX13_isDigit_17 : decode cX13_isDigit 17 = .ok (.ireturn, 1) := by decide +kernel
theorem dX13_word_0 : decode cX13_word 0 = .ok (.aload_n 0, 1) := by decide +kernel
theorem dX13_word_1 : decode cX13_word 1 = .ok (.getfield 19, 3) := by decide +kernel
theorem dX13_word_4 : decode cX13_word 4 = .ok (.aload_n 0, 1) := by decide +kernel
theorem dX13_word_5 : decode cX13_word 5 = .ok (.getfield 398, 3) := by decide +kernel
theorem dX13_word_8 : decode cX13_word 8 = .ok (.iload_n 1, 1) := by decide +kernel
theorem dX13_word_9 : decode cX13_word 9 = .ok (.iastore, 1) := by decide +kernel
theorem dX13_word_10 : decode cX13_word 10 = .ok (.aload_n 0, 1) := by decide +kernel
theorem dX13_word_11 : decode cX13_word 11 = .ok (.getfield 23, 3) := by decide +kernel
theorem dX13_word_14 : decode cX13_word 14 = .ok (.aload_n 0, 1) := by decide +kernel
theorem dX13_word_15 : decode cX13_word 15 = .ok (.getfield 398, 3) := by decide +kernel
theorem dX13_word_18 : decode cX13_word 18 = .ok (.iload_n 2, 1) := by decide +kernel
theorem dX13_word_19 : decode cX13_word 19 = .ok (.iastore, 1) := by decide +kernel
theorem dX13_word_20 : decode cX13_word 20 = .ok (.aload_n 0, 1) := by decide +kernel
theorem dX13_word_21 : decode cX13_word 21 = .ok (.getfield 26, 3) := by decide +kernel
theorem dX13_word_24 : decode cX13_word 24 = .ok (.aload_n 0, 1) := by decide +kernel
theorem dX13_word_25 : decode cX13_word 25 = .ok (.getfield 398, 3) := by decide +kernel
theorem dX13_word_28 : decode cX13_word 28 = .ok (.iload_n 3, 1) := by decide +kernel
theorem dX13_word_29 : decode cX13_word 29 = .ok (.iastore, 1) := by decide +kernel
theorem dX13_word_30 : decode cX13_word 30 = .ok (.aload_n 0, 1) := by decide +kernel
theorem dX13_word_31 : decode cX13_word 31 = .ok (.dup, 1) := by decide +kernel
theorem dX13_word_32 : decode cX13_word 32 = .ok (.getfield 398, 3) := by decide +kernel
theorem dX13_word_35 : decode cX13_word 35 = .ok (.iconst 1, 1) := by decide +kernel
theorem dX13_word_36 : decode cX13_word 36 = .ok (.iadd, 1) := by decide +kernel
theorem dX13_word_37 : decode cX13_word 37 = .ok (.putfield 398, 3) := by decide +kernel
theorem dX13_word_40 : decode cX13_word 40 = .ok (.return_, 1) := by decide +kernel
theorem dX13_node_0 : decode cX13_node 0 = .ok (.aload_n 0, 1) := by decide +kernel
theorem dX13_node_1 : decode cX13_node 1 = .ok (.getfield 29, 3) := by decide +kernel
theorem dX13_node_4 : decode cX13_node 4 = .ok (.aload_n 0, 1) := by decide +kernel
theorem dX13_node_5 : decode cX13_node 5 = .ok (.getfield 436, 3) := by decide +kernel
theorem dX13_node_8 : decode cX13_node 8 = .ok (.iload_n 1, 1) := by decide +kernel
theorem dX13_node_9 : decode cX13_node 9 = .ok (.iastore, 1) := by decide +kernel
theorem dX13_node_10 : decode cX13_node 10 = .ok (.aload_n 0, 1) := by decide +kernel
theorem dX13_node_11 : decode cX13_node 11 = .ok (.getfield 32, 3) := by decide +kernel
theorem dX13_node_14 : decode cX13_node 14 = .ok (.aload_n 0, 1) := by decide +kernel
theorem dX13_node_15 : decode cX13_node 15 = .ok (.getfield 436, 3) := by decide +kernel
theorem dX13_node_18 : decode cX13_node 18 = .ok (.iload_n 2, 1) := by decide +kernel
theorem dX13_node_19 : decode cX13_node 19 = .ok (.iastore, 1) := by decide +kernel
theorem dX13_node_20 : decode cX13_node 20 = .ok (.aload_n 0, 1) := by decide +kernel
theorem dX13_node_21 : decode cX13_node 21 = .ok (.getfield 35, 3) := by decide +kernel
theorem dX13_node_24 : decode cX13_node 24 = .ok (.aload_n 0, 1) := by decide +kernel
theorem dX13_node_25 : decode cX13_node 25 = .ok (.getfield 436, 3) := by decide +kernel
theorem dX13_node_28 : decode cX13_node 28 = .ok (.iload_n 2, 1) := by decide +kernel
theorem dX13_node_29 : decode cX13_node 29 = .ok (.iastore, 1) := by decide +kernel
theorem dX13_node_30 : decode cX13_node 30 = .ok (.aload_n 0, 1) := by decide +kernel
theorem dX13_node_31 : decode cX13_node 31 = .ok (.dup, 1) := by decide +kernel
theorem dX13_node_32 : decode cX13_node 32 = .ok (.getfield 436, 3) := by decide +kernel
theorem dX13_node_35 : decode cX13_node 35 = .ok (.iconst 1, 1) := by decide +kernel
theorem dX13_node_36 : decode cX13_node 36 = .ok (.iadd, 1) := by decide +kernel
theorem dX13_node_37 : decode cX13_node 37 = .ok (.putfield 436, 3) := by decide +kernel
theorem dX13_node_40 : decode cX13_node 40 = .ok (.aload_n 0, 1) := by decide +kernel
theorem dX13_node_41 : decode cX13_node 41 = .ok (.getfield 436, 3) := by decide +kernel
theorem dX13_node_44 : decode cX13_node 44 = .ok (.iconst 1, 1) := by decide +kernel
theorem dX13_node_45 : decode cX13_node 45 = .ok (.isub, 1) := by decide +kernel
theorem dX13_node_46 : decode cX13_node 46 = .ok (.ireturn, 1) := by decide +kernel
theorem dX13_wrongName_0 : decode cX13_wrongName 0 = .ok (.aload_n 0, 1) := by decide +kernel
theorem dX13_wrongName_1 : decode cX13_wrongName 1 = .ok (.getfield 624, 3) := by decide +kernel
theorem dX13_wrongName_4 : decode cX13_wrongName 4 = .ok (.ifCond .lt 16, 3) := by decide +kernel
theorem dX13_wrongName_7 : decode cX13_wrongName 7 = .ok (.aload_n 0, 1) := by decide +kernel
theorem dX13_wrongName_8 : decode cX13_wrongName 8 = .ok (.getfield 23, 3) := by decide +kernel
theorem dX13_wrongName_11 : decode cX13_wrongName 11 = .ok (.iload_n 1, 1) := by decide +kernel
theorem dX13_wrongName_12 : decode cX13_wrongName 12 = .ok (.iaload, 1) := by decide +kernel
theorem dX13_wrongName_13 : decode cX13_wrongName 13 = .ok (.aload_n 0, 1) := by decide +kernel
theorem dX13_wrongName_14 : decode cX13_wrongName 14 = .ok (.getfield 624, 3) := by decide +kernel
theorem dX13_wrongName_17 : decode cX13_wrongName 17 = .ok (.if_icmp .ge 13, 3) := by decide +kernel
theorem dX13_wrongName_20 : decode cX13_wrongName 20 = .ok (.aload_n 0, 1) := by decide +kernel
theorem dX13_wrongName_21 : decode cX13_wrongName 21 = .ok (.aload_n 0, 1) := by decide +kernel
theorem dX13_wrongName_22 : decode cX13_wrongName 22 = .ok (.getfield 23, 3) := by decide +kernel
theorem dX13_wrongName_25 : decode cX13_wrongName 25 = .ok (.iload_n 1, 1) := by decide +kernel
theorem dX13_wrongName_26 : decode cX13_wrongName 26 = .ok (.iaload, 1) := by decide +kernel
theorem dX13_wrongName_27 : decode cX13_wrongName 27 = .ok (.putfield 624, 3) := by decide +kernel
theorem dX13_wrongName_30 : decode cX13_wrongName 30 = .ok (.return_, 1) := by decide +kernel
theorem dX13_clearLine_0 : decode cX13_clearLine 0 = .ok (.aload_n 0, 1) := by decide +kernel
theorem dX13_clearLine_1 : decode cX13_clearLine 1 = .ok (.iconst 0, 1) := by decide +kernel
theorem dX13_clearLine_2 : decode cX13_clearLine 2 = .ok (.putfield 704, 3) := by decide +kernel
theorem dX13_clearLine_5 : decode cX13_clearLine 5 = .ok (.aload_n 0, 1) := by decide +kernel
theorem dX13_clearLine_6 : decode cX13_clearLine 6 = .ok (.lconst 0, 1) := by decide +kernel
theorem dX13_clearLine_7 : decode cX13_clearLine 7 = .ok (.putfield 707, 3) := by decide +kernel
theorem dX13_clearLine_10 : decode cX13_clearLine 10 = .ok (.return_, 1) := by decide +kernel
theorem dX13_wrongForm_0 : decode cX13_wrongForm 0 = .ok (.aload_n 0, 1) := by decide +kernel
theorem dX13_wrongForm_1 : decode cX13_wrongForm 1 = .ok (.getfield 624, 3) := by decide +kernel
theorem dX13_wrongForm_4 : decode cX13_wrongForm 4 = .ok (.ifCond .lt 11, 3) := by decide +kernel
theorem dX13_wrongForm_7 : decode cX13_wrongForm 7 = .ok (.iload_n 1, 1) := by decide +kernel
theorem dX13_wrongForm_8 : decode cX13_wrongForm 8 = .ok (.aload_n 0, 1) := by decide +kernel
theorem dX13_wrongForm_9 : decode cX13_wrongForm 9 = .ok (.getfield 624, 3) := by decide +kernel
theorem dX13_wrongForm_12 : decode cX13_wrongForm 12 = .ok (.if_icmp .ge 8, 3) := by decide +kernel
theorem dX13_wrongForm_15 : decode cX13_wrongForm 15 = .ok (.aload_n 0, 1) := by decide +kernel
theorem dX13_wrongForm_16 : decode cX13_wrongForm 16 = .ok (.iload_n 1, 1) := by decide +kernel
theorem dX13_wrongForm_17 : decode cX13_wrongForm 17 = .ok (.putfield 624, 3) := by decide +kernel
theorem dX13_wrongForm_20 : decode cX13_wrongForm 20 = .ok (.return_, 1) := by decide +kernel
theorem dX13_is_0 : decode cX13_is 0 = .ok (.aload_n 0, 1) := by decide +kernel
theorem dX13_is_1 : decode cX13_is 1 = .ok (.iload_n 1, 1) := by decide +kernel
theorem dX13_is_2 : decode cX13_is 2 = .ok (.putfield 1061, 3) := by decide +kernel
theorem dX13_is_5 : decode cX13_is 5 = .ok (.aload_n 0, 1) := by decide +kernel
theorem dX13_is_6 : decode cX13_is 6 = .ok (.lload_n 2, 1) := by decide +kernel
theorem dX13_is_7 : decode cX13_is 7 = .ok (.putfield 1064, 3) := by decide +kernel
theorem dX13_is_10 : decode cX13_is 10 = .ok (.return_, 1) := by decide +kernel
theorem dX13_then_0 : decode cX13_then 0 = .ok (.aload_n 0, 1) := by decide +kernel
theorem dX13_then_1 : decode cX13_then 1 = .ok (.iload_n 1, 1) := by decide +kernel
theorem dX13_then_2 : decode cX13_then 2 = .ok (.putfield 1089, 3) := by decide +kernel
theorem dX13_then_5 : decode cX13_then 5 = .ok (.aload_n 0, 1) := by decide +kernel
theorem dX13_then_6 : decode cX13_then 6 = .ok (.iload_n 2, 1) := by decide +kernel
theorem dX13_then_7 : decode cX13_then 7 = .ok (.putfield 1092, 3) := by decide +kernel
theorem dX13_then_10 : decode cX13_then 10 = .ok (.iconst 1, 1) := by decide +kernel
theorem dX13_then_11 : decode cX13_then 11 = .ok (.ireturn, 1) := by decide +kernel
