def wsX3_forget : List Cond := .code yX3_forget cX3_forget 1 none :: ([.fieldLink RX3 36 "LiquidTongue$Machine" "program" "LLiquidTongue$Parser;", .fieldLink RX3 40 "LiquidTongue$Machine" "gave" "J"] ++ wsX30)
def wsX5_init : List Cond := .code yX5_init cX5_init 4 none :: ([.methodLink RX5 1 objectInit, .instanceMethod objectInit, .code objectInit ⟨#[0xb1]⟩ 1 none, .fieldLink RX5 7 "LiquidTongue$Node" "kind" "I", .fieldLink RX5 13 "LiquidTongue$Node" "place" "I", .fieldLink RX5 16 "LiquidTongue$Node" "counted" "I", .fieldLink RX5 19 "LiquidTongue$Node" "mark" "I"] ++ wsX50)
def wsX7_kind : List Cond := .code yX7_kind cX7_kind 1 (some .int) :: ([.fieldLink RX7 40 "LiquidTongue$Parser" "fault" "I", .fieldLink RX7 50 "LiquidTongue$Parser" "words" "LLiquidTongue$Words;", .fieldLink RX7 81 "LiquidTongue$Words" "kinds" "[I", .fieldLink RX7 86 "LiquidTongue$Parser" "at" "I"] ++ wsX70 ++ wsX110)
def wsX7_here : List Cond := .code yX7_here cX7_here 1 (some .int) :: ([.fieldLink RX7 50 "LiquidTongue$Parser" "words" "LLiquidTongue$Words;", .fieldLink RX7 89 "LiquidTongue$Words" "places" "[I", .fieldLink RX7 86 "LiquidTongue$Parser" "at" "I"] ++ wsX70 ++ wsX110)
def wsX7_beginsArgument : List Cond := .code yX7_beginsArgument cX7_beginsArgument 1 (some .boolean) :: ([])
def wsX12_fault : List Cond := .code yX12_fault cX12_fault 3 (some .int) :: ([.fieldLink RX12 13 "LiquidTongue" "place" "I"] ++ wsX120)
theorem dX3_forget_0 : decode cX3_forget 0 = .ok (.aload_n 0, 1) := by decide +kernel
theorem dX3_forget_1 : decode cX3_forget 1 = .ok (.aconst_null, 1) := by decide +kernel
theorem dX3_forget_2 : decode cX3_forget 2 = .ok (.putfield 36, 3) := by decide +kernel
theorem dX3_forget_5 : decode cX3_forget 5 = .ok (.aload_n 0, 1) := by decide +kernel
theorem dX3_forget_6 : decode cX3_forget 6 = .ok (.lconst 0, 1) := by decide +kernel
theorem dX3_forget_7 : decode cX3_forget 7 = .ok (.putfield 40, 3) := by decide +kernel
theorem dX3_forget_10 : decode cX3_forget 10 = .ok (.return_, 1) := by decide +kernel
theorem dX5_init_0 : decode cX5_init 0 = .ok (.aload_n 0, 1) := by decide +kernel
theorem dX5_init_1 : decode cX5_init 1 = .ok (.invokespecial 1, 3) := by decide +kernel
theorem dX5_init_4 : decode cX5_init 4 = .ok (.aload_n 0, 1) := by decide +kernel
theorem dX5_init_5 : decode cX5_init 5 = .ok (.iload_n 1, 1) := by decide +kernel
theorem dX5_init_6 : decode cX5_init 6 = .ok (.putfield 7, 3) := by decide +kernel
theorem dX5_init_9 : decode cX5_init 9 = .ok (.aload_n 0, 1) := by decide +kernel
theorem dX5_init_10 : decode cX5_init 10 = .ok (.iload_n 2, 1) := by decide +kernel
theorem dX5_init_11 : decode cX5_init 11 = .ok (.putfield 13, 3) := by decide +kernel
theorem dX5_init_14 : decode cX5_init 14 = .ok (.aload_n 0, 1) := by decide +kernel
theorem dX5_init_15 : decode cX5_init 15 = .ok (.iload_n 3, 1) := by decide +kernel
theorem dX5_init_16 : decode cX5_init 16 = .ok (.putfield 16, 3) := by decide +kernel
theorem dX5_init_19 : decode cX5_init 19 = .ok (.aload_n 0, 1) := by decide +kernel
theorem dX5_init_20 : decode cX5_init 20 = .ok (.iload_n 2, 1) := by decide +kernel
theorem dX5_init_21 : decode cX5_init 21 = .ok (.putfield 19, 3) := by decide +kernel
theorem dX5_init_24 : decode cX5_init 24 = .ok (.return_, 1) := by decide +kernel
theorem dX7_kind_0 : decode cX7_kind 0 = .ok (.aload_n 0, 1) := by decide +kernel
theorem dX7_kind_1 : decode cX7_kind 1 = .ok (.getfield 40, 3) := by decide +kernel
theorem dX7_kind_4 : decode cX7_kind 4 = .ok (.ifCond .lt 7, 3) := by decide +kernel
theorem dX7_kind_7 : decode cX7_kind 7 = .ok (.iconst 0, 1) := by decide +kernel
theorem dX7_kind_8 : decode cX7_kind 8 = .ok (.goto 15, 3) := by decide +kernel
theorem dX7_kind_11 : decode cX7_kind 11 = .ok (.aload_n 0, 1) := by decide +kernel
theorem dX7_kind_12 : decode cX7_kind 12 = .ok (.getfield 50, 3) := by decide +kernel
theorem dX7_kind_15 : decode cX7_kind 15 = .ok (.getfield 81, 3) := by decide +kernel
theorem dX7_kind_18 : decode cX7_kind 18 = .ok (.aload_n 0, 1) := by decide +kernel
theorem dX7_kind_19 : decode cX7_kind 19 = .ok (.getfield 86, 3) := by decide +kernel
theorem dX7_kind_22 : decode cX7_kind 22 = .ok (.iaload, 1) := by decide +kernel
theorem dX7_kind_23 : decode cX7_kind 23 = .ok (.ireturn, 1) := by decide +kernel
theorem dX7_here_0 : decode cX7_here 0 = .ok (.aload_n 0, 1) := by decide +kernel
theorem dX7_here_1 : decode cX7_here 1 = .ok (.getfield 50, 3) := by decide +kernel
theorem dX7_here_4 : decode cX7_here 4 = .ok (.getfield 89, 3) := by decide +kernel
theorem dX7_here_7 : decode cX7_here 7 = .ok (.aload_n 0, 1) := by decide +kernel
theorem dX7_here_8 : decode cX7_here 8 = .ok (.getfield 86, 3) := by decide +kernel
theorem dX7_here_11 : decode cX7_here 11 = .ok (.iaload, 1) := by decide +kernel
theorem dX7_here_12 : decode cX7_here 12 = .ok (.ireturn, 1) := by decide +kernel
theorem dX7_beginsArgument_0 : decode cX7_beginsArgument 0 = .ok (.iload_n 0, 1) := by decide +kernel
theorem dX7_beginsArgument_1 : decode cX7_beginsArgument 1 = .ok (.iconst 2, 1) := by decide +kernel
theorem dX7_beginsArgument_2 : decode cX7_beginsArgument 2 = .ok (.if_icmp .eq 28, 3) := by decide +kernel
theorem dX7_beginsArgument_5 : decode cX7_beginsArgument 5 = .ok (.iload_n 0, 1) := by decide +kernel
theorem dX7_beginsArgument_6 : decode cX7_beginsArgument 6 = .ok (.iconst 1, 1) := by decide +kernel
theorem dX7_beginsArgument_7 : decode cX7_beginsArgument 7 = .ok (.if_icmp .eq 23, 3) := by decide +kernel
theorem dX7_beginsArgument_10 : decode cX7_beginsArgument 10 = .ok (.iload_n 0, 1) := by decide +kernel
theorem dX7_beginsArgument_11 : decode cX7_beginsArgument 11 = .ok (.bipush 40, 2) := by decide +kernel
theorem dX7_beginsArgument_13 : decode cX7_beginsArgument 13 = .ok (.if_icmp .eq 17, 3) := by decide +kernel
theorem dX7_beginsArgument_16 : decode cX7_beginsArgument 16 = .ok (.iload_n 0, 1) := by decide +kernel
theorem dX7_beginsArgument_17 : decode cX7_beginsArgument 17 = .ok (.sipush 223, 3) := by decide +kernel
theorem dX7_beginsArgument_20 : decode cX7_beginsArgument 20 = .ok (.if_icmp .eq 10, 3) := by decide +kernel
theorem dX7_beginsArgument_23 : decode cX7_beginsArgument 23 = .ok (.iload_n 0, 1) := by decide +kernel
theorem dX7_beginsArgument_24 : decode cX7_beginsArgument 24 = .ok (.sipush 205, 3) := by decide +kernel
theorem dX7_beginsArgument_27 : decode cX7_beginsArgument 27 = .ok (.if_icmp .ne 7, 3) := by decide +kernel
theorem dX7_beginsArgument_34 : decode cX7_beginsArgument 34 = .ok (.iconst 0, 1) := by decide +kernel
theorem dX7_beginsArgument_35 : decode cX7_beginsArgument 35 = .ok (.ireturn, 1) := by decide +kernel
theorem dX12_fault_0 : decode cX12_fault 0 = .ok (.aload_n 0, 1) := by decide +kernel
theorem dX12_fault_1 : decode cX12_fault 1 = .ok (.iload_n 2, 1) := by decide +kernel
theorem dX12_fault_2 : decode cX12_fault 2 = .ok (.putfield 13, 3) := by decide +kernel
theorem dX12_fault_5 : decode cX12_fault 5 = .ok (.iload_n 1, 1) := by decide +kernel
theorem dX12_fault_6 : decode cX12_fault 6 = .ok (.ireturn, 1) := by decide +kernel
