def wsX2_init : List Cond := .code yX2_init cX2_init 2 none :: ([.methodLink RX2 1 objectInit, .instanceMethod objectInit, .code objectInit ⟨#[0xb1]⟩ 1 none, .fieldLink RX2 7 "LiquidTongue$Known" "kind" "I", .fieldLink RX2 13 "LiquidTongue$Known" "origin" "LLiquidTongue$Known;", .fieldLink RX2 17 "LiquidTongue$Known" "gone" "[LLiquidTongue$Name;", .fieldLink RX2 21 "LiquidTongue$Known" "instead" "[LLiquidTongue$Sum;"] ++ wsX20)
def wsX8_init : List Cond := .code yX8_init cX8_init 3 none :: ([.methodLink RX8 1 objectInit, .instanceMethod objectInit, .code objectInit ⟨#[0xb1]⟩ 1 none, .fieldLink RX8 7 "LiquidTongue$Scope" "name" "LLiquidTongue$Name;", .fieldLink RX8 13 "LiquidTongue$Scope" "test" "LLiquidTongue$Node;", .fieldLink RX8 17 "LiquidTongue$Scope" "holds" "Z", .fieldLink RX8 21 "LiquidTongue$Scope" "outer" "LLiquidTongue$Scope;"] ++ wsX80)
def wsX2_init_ : List Cond := .code yX2_init_ cX2_init_ 4 none :: ([.methodLink RX2 1 objectInit, .instanceMethod objectInit, .code objectInit ⟨#[0xb1]⟩ 1 none, .fieldLink RX2 7 "LiquidTongue$Known" "kind" "I", .fieldLink RX2 13 "LiquidTongue$Known" "origin" "LLiquidTongue$Known;", .fieldLink RX2 17 "LiquidTongue$Known" "gone" "[LLiquidTongue$Name;", .fieldLink RX2 21 "LiquidTongue$Known" "instead" "[LLiquidTongue$Sum;"] ++ wsX20)
def wsX4_isMeasured : List Cond := .code yX4_isMeasured cX4_isMeasured 1 (some .boolean) :: ([.fieldLink RX4 15 "LiquidTongue$Name" "base" "I"] ++ wsX40)
def wsX4_init : List Cond := .code yX4_init cX4_init 3 none :: ([.methodLink RX4 3 objectInit, .instanceMethod objectInit, .code objectInit ⟨#[0xb1]⟩ 1 none, .fieldLink RX4 9 "LiquidTongue$Name" "text" "Ljava/lang/String;", .fieldLink RX4 15 "LiquidTongue$Name" "base" "I"] ++ wsX40)
def wsX8_init_ : List Cond := .code yX8_init_ cX8_init_ 4 none :: ([.methodLink RX8 1 objectInit, .instanceMethod objectInit, .code objectInit ⟨#[0xb1]⟩ 1 none, .fieldLink RX8 7 "LiquidTongue$Scope" "name" "LLiquidTongue$Name;", .fieldLink RX8 13 "LiquidTongue$Scope" "test" "LLiquidTongue$Node;", .fieldLink RX8 17 "LiquidTongue$Scope" "holds" "Z", .fieldLink RX8 21 "LiquidTongue$Scope" "outer" "LLiquidTongue$Scope;"] ++ wsX80)
def wsX1_side : List Cond := .code yX1_side cX1_side 2 (some .int) :: ([.fieldLink RX1 118 "LiquidTongue$Name" "slot" "I"] ++ wsX40)
def wsX6_isLimited : List Cond := .code yX6_isLimited cX6_isLimited 5 (some .boolean) :: ([.fieldLink RX6 7 "LiquidTongue$Octagon" "cells" "[J", .fieldLink RX6 17 "LiquidTongue$Octagon" "base" "I", .fieldLink RX6 13 "LiquidTongue$Octagon" "width" "I"] ++ wsX60)
def wsX1_isDecided : List Cond := .code yX1_isDecided cX1_isDecided 1 (some .boolean) :: ([.fieldLink RX1 47 "LiquidTongue$Judge" "weakened" "LLiquidTongue$Known;", .fieldLink RX1 65 "LiquidTongue$Judge" "possible" "Z", .fieldLink RX1 37 "LiquidTongue$Known" "origin" "LLiquidTongue$Known;", .fieldLink RX1 43 "LiquidTongue$Known" "count" "I"] ++ wsX10 ++ wsX20)
def wsX3_forget : List Cond := .code yX3_forget cX3_forget 1 none :: ([.fieldLink RX3 36 "LiquidTongue$Machine" "program" "LLiquidTongue$Parser;", .fieldLink RX3 40 "LiquidTongue$Machine" "gave" "J"] ++ wsX30)
def wsX5_init : List Cond := .code yX5_init cX5_init 4 none :: ([.methodLink RX5 1 objectInit, .instanceMethod objectInit, .code objectInit ⟨#[0xb1]⟩ 1 none, .fieldLink RX5 7 "LiquidTongue$Node" "kind" "I", .fieldLink RX5 13 "LiquidTongue$Node" "place" "I", .fieldLink RX5 16 "LiquidTongue$Node" "counted" "I", .fieldLink RX5 19 "LiquidTongue$Node" "mark" "I"] ++ wsX50)
def wsX7_kind : List Cond := .code yX7_kind cX7_kind 1 (some .int) :: ([.fieldLink RX7 40 "LiquidTongue$Parser" "fault" "I", .fieldLink RX7 50 "LiquidTongue$Parser" "words" "LLiquidTongue$Words;", .fieldLink RX7 81 "LiquidTongue$Words" "kinds" "[I", .fieldLink RX7 86 "LiquidTongue$Parser" "at" "I"] ++ wsX70 ++ wsX110)
def wsX7_next : List Cond := .code yX7_next cX7_next 1 none :: ([.fieldLink RX7 86 "LiquidTongue$Parser" "at" "I", .fieldLink RX7 50 "LiquidTongue$Parser" "words" "LLiquidTongue$Words;", .fieldLink RX7 92 "LiquidTongue$Words" "count" "I"] ++ wsX70 ++ wsX110)
def wsX7_here : List Cond := .code yX7_here cX7_here 1 (some .int) :: ([.fieldLink RX7 50 "LiquidTongue$Parser" "words" "LLiquidTongue$Words;", .fieldLink RX7 89 "LiquidTongue$Words" "places" "[I", .fieldLink RX7 86 "LiquidTongue$Parser" "at" "I"] ++ wsX70 ++ wsX110)
def wsX7_isRelation : List Cond := .code yX7_isRelation cX7_isRelation 1 (some .boolean) :: ([])
def wsX7_blameForm : List Cond := .code yX7_blameForm cX7_blameForm 2 none :: ([.fieldLink RX7 47 "LiquidTongue$Parser" "formFault" "I"] ++ wsX70)
def wsX7_beginsArgument : List Cond := .code yX7_beginsArgument cX7_beginsArgument 1 (some .boolean) :: ([])
def wsX10_make : List Cond := .code yX10_make cX10_make 2 (some .int) :: ([.fieldLink RX10 86 "LiquidTongue$Typer" "count" "I", .fieldLink RX10 18 "LiquidTongue$Typer" "kinds" "[I", .fieldLink RX10 28 "LiquidTongue$Typer" "same" "[I"] ++ wsX100)
def wsX10_basic : List Cond := .code yX10_basic cX10_basic 1 (some .int) :: ([])
def wsX11_isLetter : List Cond := .code yX11_isLetter cX11_isLetter 1 (some .boolean) :: ([])
def wsX11_isDigit : List Cond := .code yX11_isDigit cX11_isDigit 1 (some .boolean) :: ([])
def wsX12_fault : List Cond := .code yX12_fault cX12_fault 3 (some .int) :: ([.fieldLink RX12 13 "LiquidTongue" "place" "I"] ++ wsX120)
def wsX13_tell : List Cond := .code yX13_tell cX13_tell 2 (some .int) :: ([.fieldLink RX13 101 "LiquidTongueModel" "dWord" "[I", .fieldLink RX13 627 "LiquidTongueModel" "told" "I", .fieldLink RX13 107 "LiquidTongueModel" "whose" "[I"] ++ wsX130)
def wsX13_newType : List Cond := .code yX13_newType cX13_newType 4 (some .int) :: ([.fieldLink RX13 113 "LiquidTongueModel" "tKind" "[I", .fieldLink RX13 661 "LiquidTongueModel" "types" "I", .fieldLink RX13 116 "LiquidTongueModel" "tLeft" "[I", .fieldLink RX13 119 "LiquidTongueModel" "tRight" "[I", .fieldLink RX13 122 "LiquidTongueModel" "tLink" "[I", .fieldLink RX13 125 "LiquidTongueModel" "tSeen" "[I"] ++ wsX130)
def wsX13_isName : List Cond := .code yX13_isName cX13_isName 2 (some .boolean) :: ([.fieldLink RX13 53 "LiquidTongueModel" "sTo" "[I", .fieldLink RX13 50 "LiquidTongueModel" "sFrom" "[I", .fieldLink RX13 59 "LiquidTongueModel" "pKind" "[I", .fieldLink RX13 62 "LiquidTongueModel" "pSign" "[I"] ++ wsX130)
def wsX13_rich : List Cond := .code yX13_rich cX13_rich 6 (some .int) :: ([.fieldLink RX13 142 "LiquidTongueModel" "rKind" "[I", .fieldLink RX13 769 "LiquidTongueModel" "rich" "I", .fieldLink RX13 145 "LiquidTongueModel" "rSaid" "[I", .fieldLink RX13 148 "LiquidTongueModel" "rName" "[I", .fieldLink RX13 151 "LiquidTongueModel" "rLeft" "[I", .fieldLink RX13 154 "LiquidTongueModel" "rRight" "[I"] ++ wsX130)
def wsX13_said : List Cond := .code yX13_said cX13_said 4 (some .int) :: ([.fieldLink RX13 157 "LiquidTongueModel" "saidCase" "[I", .fieldLink RX13 772 "LiquidTongueModel" "saids" "I", .fieldLink RX13 160 "LiquidTongueModel" "saidFact" "[I", .fieldLink RX13 163 "LiquidTongueModel" "saidPut" "[I"] ++ wsX130)
def wsX13_fact : List Cond := .code yX13_fact cX13_fact 7 (some .int) :: ([.fieldLink RX13 166 "LiquidTongueModel" "factRel" "[I", .fieldLink RX13 775 "LiquidTongueModel" "facts" "I", .fieldLink RX13 169 "LiquidTongueModel" "factName" "[I", .fieldLink RX13 172 "LiquidTongueModel" "factTimes" "[I", .fieldLink RX13 178 "LiquidTongueModel" "factNumber" "[J", .fieldLink RX13 175 "LiquidTongueModel" "factNext" "[I"] ++ wsX130)
def wsX13_isSaid : List Cond := .code yX13_isSaid cX13_isSaid 1 (some .boolean) :: ([])
def wsX13_knows : List Cond := .code yX13_knows cX13_knows 4 (some .int) :: ([.fieldLink RX13 222 "LiquidTongueModel" "envName" "[I", .fieldLink RX13 791 "LiquidTongueModel" "envs" "I", .fieldLink RX13 225 "LiquidTongueModel" "envType" "[I", .fieldLink RX13 228 "LiquidTongueModel" "envBefore" "[I", .fieldLink RX13 216 "LiquidTongueModel" "isLength" "[Z", .fieldLink RX13 142 "LiquidTongueModel" "rKind" "[I", .fieldLink RX13 219 "LiquidTongueModel" "isSize" "[Z"] ++ wsX130)
def wsX13_gone : List Cond := .code yX13_gone cX13_gone 4 (some .int) :: ([.fieldLink RX13 231 "LiquidTongueModel" "goneNode" "[I", .fieldLink RX13 794 "LiquidTongueModel" "gones" "I", .fieldLink RX13 234 "LiquidTongueModel" "goneIs" "[I", .fieldLink RX13 237 "LiquidTongueModel" "goneBefore" "[I"] ++ wsX130)
def wsX13_mustBeSo : List Cond := .code yX13_mustBeSo cX13_mustBeSo 7 none :: ([.fieldLink RX13 255 "LiquidTongueModel" "soKind" "[I", .fieldLink RX13 832 "LiquidTongueModel" "sos" "I", .fieldLink RX13 258 "LiquidTongueModel" "soWhat" "[I", .fieldLink RX13 261 "LiquidTongueModel" "soName" "[I", .fieldLink RX13 264 "LiquidTongueModel" "soEnv" "[I", .fieldLink RX13 267 "LiquidTongueModel" "soGone" "[I", .fieldLink RX13 270 "LiquidTongueModel" "soAt" "[I"] ++ wsX130)
def wsX13_columnOf : List Cond := .code yX13_columnOf cX13_columnOf 2 (some .int) :: ([.fieldLink RX13 285 "LiquidTongueModel" "column" "[I", .fieldLink RX13 862 "LiquidTongueModel" "columns" "I", .fieldLink RX13 288 "LiquidTongueModel" "used" "[I"] ++ wsX130)
def wsX13_downwards : List Cond := .code yX13_downwards cX13_downwards 6 (some .long) :: ([])
def wsX13_lower : List Cond := .code yX13_lower cX13_lower 6 none :: ([])
def wsX13_way : List Cond := .code yX13_way cX13_way 7 none :: ([.fieldLink RX13 297 "LiquidTongueModel" "wayA" "[I", .fieldLink RX13 909 "LiquidTongueModel" "ways" "I", .fieldLink RX13 300 "LiquidTongueModel" "wayTa" "[I", .fieldLink RX13 303 "LiquidTongueModel" "wayB" "[I", .fieldLink RX13 306 "LiquidTongueModel" "wayTb" "[I", .fieldLink RX13 315 "LiquidTongueModel" "wayNumber" "[J"] ++ wsX130)
def wsX13_open : List Cond := .code yX13_open cX13_open 3 none :: ([.fieldLink RX13 291 "LiquidTongueModel" "openNode" "[I", .fieldLink RX13 916 "LiquidTongueModel" "opens" "I", .fieldLink RX13 294 "LiquidTongueModel" "openIs" "[I"] ++ wsX130)
def wsX13_say : List Cond := .code yX13_say cX13_say 2 none :: ([.fieldLink RX13 989 "LiquidTongueModel" "sayMany" "I", .fieldLink RX13 321 "LiquidTongueModel" "saying" "[B"] ++ wsX130)
def wsX13_slot : List Cond := .code yX13_slot cX13_slot 6 (some .int) :: ([.fieldLink RX13 334 "LiquidTongueModel" "slotName" "[I", .fieldLink RX13 1024 "LiquidTongueModel" "slots" "I", .fieldLink RX13 337 "LiquidTongueModel" "slotKind" "[I", .fieldLink RX13 343 "LiquidTongueModel" "slotValue" "[J", .fieldLink RX13 340 "LiquidTongueModel" "slotBefore" "[I"] ++ wsX130)
def wsX13_bounded : List Cond := .code yX13_bounded cX13_bounded 3 (some .long) :: ([.constantLong RX13 1027 (1099511627776), .constantLong RX13 1029 (-1099511627776), .fieldLink RX13 1031 "LiquidTongueModel" "ends" "I"] ++ wsX130)
def wsX13_sizeOf : List Cond := .code yX13_sizeOf cX13_sizeOf 2 (some .int) :: ([.fieldLink RX13 383 "LiquidTongueModel" "cellMany" "[I"] ++ wsX130)
def wsX13_function : List Cond := .code yX13_function cX13_function 3 (some .int) :: ([.fieldLink RX13 347 "LiquidTongueModel" "fNode" "[I", .fieldLink RX13 1067 "LiquidTongueModel" "functions" "I", .fieldLink RX13 350 "LiquidTongueModel" "fSlots" "[I", .fieldLink RX13 353 "LiquidTongueModel" "fHad" "[I", .fieldLink RX13 356 "LiquidTongueModel" "fMany" "[I"] ++ wsX130)
def wsX13_todo : List Cond := .code yX13_todo cX13_todo 4 none :: ([.fieldLink RX13 368 "LiquidTongueModel" "doKind" "[I", .fieldLink RX13 1070 "LiquidTongueModel" "doing" "I", .fieldLink RX13 371 "LiquidTongueModel" "doWhat" "[I", .fieldLink RX13 374 "LiquidTongueModel" "doSlots" "[I"] ++ wsX130)
def wsX13_product : List Cond := .code yX13_product cX13_product 9 (some .long) :: ([.constantLong RX13 1128 (2199023255552), .constantLong RX13 1130 (-4398046511104), .constantLong RX13 1132 (4398046511104)])
theorem dX1_side_0 : decode cX1_side 0 = .ok (.iconst 2, 1) := by decide +kernel
theorem dX1_side_1 : decode cX1_side 1 = .ok (.aload_n 0, 1) := by decide +kernel
theorem dX1_side_2 : decode cX1_side 2 = .ok (.getfield 118, 3) := by decide +kernel
theorem dX1_side_5 : decode cX1_side 5 = .ok (.imul, 1) := by decide +kernel
theorem dX1_side_6 : decode cX1_side 6 = .ok (.iload_n 1, 1) := by decide +kernel
theorem dX1_side_7 : decode cX1_side 7 = .ok (.ifCond .le 7, 3) := by decide +kernel
theorem dX1_side_10 : decode cX1_side 10 = .ok (.iconst 0, 1) := by decide +kernel
theorem dX1_side_11 : decode cX1_side 11 = .ok (.goto 4, 3) := by decide +kernel
theorem dX1_side_14 : decode cX1_side 14 = .ok (.iconst 1, 1) := by decide +kernel
theorem dX1_side_15 : decode cX1_side 15 = .ok (.iadd, 1) := by decide +kernel
theorem dX1_side_16 : decode cX1_side 16 = .ok (.ireturn, 1) := by decide +kernel
theorem dX1_isDecided_0 : decode cX1_isDecided 0 = .ok (.aload_n 0, 1) := by decide +kernel
theorem dX1_isDecided_1 : decode cX1_isDecided 1 = .ok (.getfield 47, 3) := by decide +kernel
theorem dX1_isDecided_4 : decode cX1_isDecided 4 = .ok (.ifnonnull 10, 3) := by decide +kernel
theorem dX1_isDecided_14 : decode cX1_isDecided 14 = .ok (.aload_n 0, 1) := by decide +kernel
theorem dX1_isDecided_15 : decode cX1_isDecided 15 = .ok (.getfield 47, 3) := by decide +kernel
theorem dX1_isDecided_18 : decode cX1_isDecided 18 = .ok (.getfield 37, 3) := by decide +kernel
theorem dX1_isDecided_21 : decode cX1_isDecided 21 = .ok (.getfield 43, 3) := by decide +kernel
theorem dX1_isDecided_24 : decode cX1_isDecided 24 = .ok (.ifCond .ne 7, 3) := by decide +kernel
theorem dX1_isDecided_27 : decode cX1_isDecided 27 = .ok (.iconst 1, 1) := by decide +kernel
theorem dX1_isDecided_28 : decode cX1_isDecided 28 = .ok (.goto 4, 3) := by decide +kernel
theorem dX1_isDecided_31 : decode cX1_isDecided 31 = .ok (.iconst 0, 1) := by decide +kernel
theorem dX1_isDecided_32 : decode cX1_isDecided 32 = .ok (.ireturn, 1) := by decide +kernel
theorem dX2_init_0 : decode cX2_init 0 = .ok (.aload_n 0, 1) := by decide +kernel
theorem dX2_init_1 : decode cX2_init 1 = .ok (.invokespecial 1, 3) := by decide +kernel
theorem dX2_init_4 : decode cX2_init 4 = .ok (.aload_n 0, 1) := by decide +kernel
theorem dX2_init_5 : decode cX2_init 5 = .ok (.iload_n 1, 1) := by decide +kernel
theorem dX2_init_6 : decode cX2_init 6 = .ok (.putfield 7, 3) := by decide +kernel
theorem dX2_init_9 : decode cX2_init 9 = .ok (.aload_n 0, 1) := by decide +kernel
theorem dX2_init_10 : decode cX2_init 10 = .ok (.aload_n 0, 1) := by decide +kernel
theorem dX2_init_11 : decode cX2_init 11 = .ok (.putfield 13, 3) := by decide +kernel
theorem dX2_init_14 : decode cX2_init 14 = .ok (.aload_n 0, 1) := by decide +kernel
theorem dX2_init_15 : decode cX2_init 15 = .ok (.aconst_null, 1) := by decide +kernel
theorem dX2_init_16 : decode cX2_init 16 = .ok (.putfield 17, 3) := by decide +kernel
theorem dX2_init_19 : decode cX2_init 19 = .ok (.aload_n 0, 1) := by decide +kernel
theorem dX2_init_20 : decode cX2_init 20 = .ok (.aconst_null, 1) := by decide +kernel
theorem dX2_init_21 : decode cX2_init 21 = .ok (.putfield 21, 3) := by decide +kernel
theorem dX2_init_24 : decode cX2_init 24 = .ok (.return_, 1) := by decide +kernel
theorem dX2_init__0 : decode cX2_init_ 0 = .ok (.aload_n 0, 1) := by decide +kernel
theorem dX2_init__1 : decode cX2_init_ 1 = .ok (.invokespecial 1, 3) := by decide +kernel
theorem dX2_init__4 : decode cX2_init_ 4 = .ok (.aload_n 0, 1) := by decide +kernel
theorem dX2_init__5 : decode cX2_init_ 5 = .ok (.aload_n 1, 1) := by decide +kernel
theorem dX2_init__6 : decode cX2_init_ 6 = .ok (.getfield 7, 3) := by decide +kernel
theorem dX2_init__9 : decode cX2_init_ 9 = .ok (.putfield 7, 3) := by decide +kernel
theorem dX2_init__12 : decode cX2_init_ 12 = .ok (.aload_n 0, 1) := by decide +kernel
theorem dX2_init__13 : decode cX2_init_ 13 = .ok (.aload_n 1, 1) := by decide +kernel
theorem dX2_init__14 : decode cX2_init_ 14 = .ok (.putfield 13, 3) := by decide +kernel
theorem dX2_init__17 : decode cX2_init_ 17 = .ok (.aload_n 0, 1) := by decide +kernel
theorem dX2_init__18 : decode cX2_init_ 18 = .ok (.aload_n 2, 1) := by decide +kernel
theorem dX2_init__19 : decode cX2_init_ 19 = .ok (.putfield 17, 3) := by decide +kernel
theorem dX2_init__22 : decode cX2_init_ 22 = .ok (.aload_n 0, 1) := by decide +kernel
theorem dX2_init__23 : decode cX2_init_ 23 = .ok (.aload_n 3, 1) := by decide +kernel
theorem dX2_init__24 : decode cX2_init_ 24 = .ok (.putfield 21, 3) := by decide +kernel
theorem dX2_init__27 : decode cX2_init_ 27 = .ok (.return_, 1) := by decide +kernel
theorem dX3_forget_0 : decode cX3_forget 0 = .ok (.aload_n 0, 1) := by decide +kernel
theorem dX3_forget_1 : decode cX3_forget 1 = .ok (.aconst_null, 1) := by decide +kernel
theorem dX3_forget_2 : decode cX3_forget 2 = .ok (.putfield 36, 3) := by decide +kernel
theorem dX3_forget_5 : decode cX3_forget 5 = .ok (.aload_n 0, 1) := by decide +kernel
theorem dX3_forget_6 : decode cX3_forget 6 = .ok (.lconst 0, 1) := by decide +kernel
theorem dX3_forget_7 : decode cX3_forget 7 = .ok (.putfield 40, 3) := by decide +kernel
theorem dX3_forget_10 : decode cX3_forget 10 = .ok (.return_, 1) := by decide +kernel
theorem dX4_init_0 : decode cX4_init 0 = .ok (.aload_n 0, 1) := by decide +kernel
theorem dX4_init_1 : decode cX4_init 1 = .ok (.invokespecial 3, 3) := by decide +kernel
theorem dX4_init_4 : decode cX4_init 4 = .ok (.aload_n 0, 1) := by decide +kernel
theorem dX4_init_5 : decode cX4_init 5 = .ok (.aload_n 1, 1) := by decide +kernel
theorem dX4_init_6 : decode cX4_init 6 = .ok (.putfield 9, 3) := by decide +kernel
theorem dX4_init_9 : decode cX4_init 9 = .ok (.aload_n 0, 1) := by decide +kernel
theorem dX4_init_10 : decode cX4_init 10 = .ok (.iload_n 2, 1) := by decide +kernel
theorem dX4_init_11 : decode cX4_init 11 = .ok (.putfield 15, 3) := by decide +kernel
theorem dX4_init_14 : decode cX4_init 14 = .ok (.return_, 1) := by decide +kernel
theorem dX4_isMeasured_0 : decode cX4_isMeasured 0 = .ok (.aload_n 0, 1) := by decide +kernel
theorem dX4_isMeasured_1 : decode cX4_isMeasured 1 = .ok (.getfield 15, 3) := by decide +kernel
theorem dX4_isMeasured_4 : decode cX4_isMeasured 4 = .ok (.sipush 210, 3) := by decide +kernel
theorem dX4_isMeasured_7 : decode cX4_isMeasured 7 = .ok (.if_icmp .eq 23, 3) := by decide +kernel
theorem dX4_isMeasured_10 : decode cX4_isMeasured 10 = .ok (.aload_n 0, 1) := by decide +kernel
theorem dX4_isMeasured_11 : decode cX4_isMeasured 11 = .ok (.getfield 15, 3) := by decide +kernel
theorem dX4_isMeasured_14 : decode cX4_isMeasured 14 = .ok (.sipush 200, 3) := by decide +kernel
theorem dX4_isMeasured_17 : decode cX4_isMeasured 17 = .ok (.if_icmp .eq 13, 3) := by decide +kernel
theorem dX4_isMeasured_20 : decode cX4_isMeasured 20 = .ok (.aload_n 0, 1) := by decide +kernel
theorem dX4_isMeasured_21 : decode cX4_isMeasured 21 = .ok (.getfield 15, 3) := by decide +kernel
theorem dX4_isMeasured_24 : decode cX4_isMeasured 24 = .ok (.sipush 213, 3) := by decide +kernel
theorem dX4_isMeasured_27 : decode cX4_isMeasured 27 = .ok (.if_icmp .ne 7, 3) := by decide +kernel
theorem dX4_isMeasured_30 : decode cX4_isMeasured 30 = .ok (.iconst 1, 1) := by decide +kernel
theorem dX4_isMeasured_31 : decode cX4_isMeasured 31 = .ok (.goto 4, 3) := by decide +kernel
theorem dX4_isMeasured_34 : decode cX4_isMeasured 34 = .ok (.iconst 0, 1) := by decide +kernel
theorem dX4_isMeasured_35 : decode cX4_isMeasured 35 = .ok (.ireturn, 1) := by decide +kernel
theorem dX5_init_0 : decode cX5_init 0 = .ok (.aload_n 0, 1) := by decide +kernel
theorem dX5_init_1 : decode cX5_init 1 = .ok (.invokespecial 1, 3) := by decide +kernel
theorem dX5_init_4 : decode cX5_init 4 = .ok (.aload_n 0, 1) := by decide +kernel
theorem dX5_init_5 : decode cX5_init 5 = .ok (.iload_n 1, 1) := by decide +kernel
theorem dX5_init_6 : decode cX5_init 6 = .ok (.putfield 7, 3) := by decide +kernel
theorem dX5_init_9 : decode cX5_init 9 = .ok (.aload_n 0, 1) := by decide +kernel
theorem dX5_init_10 : decode cX5_init 10 = .ok (.iload_n 2, 1) := by decide +kernel
theorem dX5_init_11 : decode cX5_init 11 = .ok (.putfield 13, 3) := by decide +kernel
theorem dX5_init_14 : decode cX5_init 14 = .ok (.aload_n 0, 1) := by decide +kernel
theorem dX5_init_15 : decode cX5_init 15 = .ok (.iload_n 3, 1) := by decide +kernel
theorem dX5_init_16 : decode cX5_init 16 = .ok (.putfield 16, 3) := by decide +kernel
theorem dX5_init_19 : decode cX5_init 19 = .ok (.aload_n 0, 1) := by decide +kernel
theorem dX5_init_20 : decode cX5_init 20 = .ok (.iload_n 2, 1) := by decide +kernel
theorem dX5_init_21 : decode cX5_init 21 = .ok (.putfield 19, 3) := by decide +kernel
theorem dX5_init_24 : decode cX5_init 24 = .ok (.return_, 1) := by decide +kernel
theorem dX6_isLimited_0 : decode cX6_isLimited 0 = .ok (.iload_n 1, 1) := by decide +kernel
theorem dX6_isLimited_1 : decode cX6_isLimited 1 = .ok (.iload_n 2, 1) := by decide +kernel
theorem dX6_isLimited_2 : decode cX6_isLimited 2 = .ok (.iconst 1, 1) := by decide +kernel
theorem dX6_isLimited_3 : decode cX6_isLimited 3 = .ok (.ixor, 1) := by decide +kernel
theorem dX6_isLimited_4 : decode cX6_isLimited 4 = .ok (.if_icmp .ne 17, 3) := by decide +kernel
theorem dX6_isLimited_7 : decode cX6_isLimited 7 = .ok (.lload_n 3, 1) := by decide +kernel
theorem dX6_isLimited_8 : decode cX6_isLimited 8 = .ok (.lconst 0, 1) := by decide +kernel
theorem dX6_isLimited_9 : decode cX6_isLimited 9 = .ok (.lcmp, 1) := by decide +kernel
theorem dX6_isLimited_10 : decode cX6_isLimited 10 = .ok (.ifCond .lt 7, 3) := by decide +kernel
theorem dX6_isLimited_13 : decode cX6_isLimited 13 = .ok (.iconst 1, 1) := by decide +kernel
theorem dX6_isLimited_14 : decode cX6_isLimited 14 = .ok (.goto 37, 3) := by decide +kernel
theorem dX6_isLimited_17 : decode cX6_isLimited 17 = .ok (.iconst 0, 1) := by decide +kernel
theorem dX6_isLimited_18 : decode cX6_isLimited 18 = .ok (.goto 33, 3) := by decide +kernel
theorem dX6_isLimited_21 : decode cX6_isLimited 21 = .ok (.aload_n 0, 1) := by decide +kernel
theorem dX6_isLimited_22 : decode cX6_isLimited 22 = .ok (.getfield 7, 3) := by decide +kernel
theorem dX6_isLimited_25 : decode cX6_isLimited 25 = .ok (.aload_n 0, 1) := by decide +kernel
theorem dX6_isLimited_26 : decode cX6_isLimited 26 = .ok (.getfield 17, 3) := by decide +kernel
theorem dX6_isLimited_29 : decode cX6_isLimited 29 = .ok (.iload_n 2, 1) := by decide +kernel
theorem dX6_isLimited_30 : decode cX6_isLimited 30 = .ok (.iconst 1, 1) := by decide +kernel
theorem dX6_isLimited_31 : decode cX6_isLimited 31 = .ok (.ixor, 1) := by decide +kernel
theorem dX6_isLimited_32 : decode cX6_isLimited 32 = .ok (.aload_n 0, 1) := by decide +kernel
theorem dX6_isLimited_33 : decode cX6_isLimited 33 = .ok (.getfield 13, 3) := by decide +kernel
theorem dX6_isLimited_36 : decode cX6_isLimited 36 = .ok (.imul, 1) := by decide +kernel
theorem dX6_isLimited_37 : decode cX6_isLimited 37 = .ok (.iadd, 1) := by decide +kernel
theorem dX6_isLimited_38 : decode cX6_isLimited 38 = .ok (.iload_n 1, 1) := by decide +kernel
theorem dX6_isLimited_39 : decode cX6_isLimited 39 = .ok (.iadd, 1) := by decide +kernel
theorem dX6_isLimited_40 : decode cX6_isLimited 40 = .ok (.laload, 1) := by decide +kernel
theorem dX6_isLimited_41 : decode cX6_isLimited 41 = .ok (.lload_n 3, 1) := by decide +kernel
theorem dX6_isLimited_42 : decode cX6_isLimited 42 = .ok (.lcmp, 1) := by decide +kernel
theorem dX6_isLimited_43 : decode cX6_isLimited 43 = .ok (.ifCond .gt 7, 3) := by decide +kernel
theorem dX6_isLimited_46 : decode cX6_isLimited 46 = .ok (.iconst 1, 1) := by decide +kernel
theorem dX6_isLimited_47 : decode cX6_isLimited 47 = .ok (.goto 4, 3) := by decide +kernel
theorem dX6_isLimited_50 : decode cX6_isLimited 50 = .ok (.iconst 0, 1) := by decide +kernel
theorem dX6_isLimited_51 : decode cX6_isLimited 51 = .ok (.ireturn, 1) := by decide +kernel
theorem dX7_kind_0 : decode cX7_kind 0 = .ok (.aload_n 0, 1) := by decide +kernel
theorem dX7_kind_1 : decode cX7_kind 1 = .ok (.getfield 40, 3) := by decide +kernel
theorem dX7_kind_4 : decode cX7_kind 4 = .ok (.ifCond .lt 7, 3) := by decide +kernel
theorem dX7_kind_7 : decode cX7_kind 7 = .ok (.iconst 0, 1) := by decide +kernel
theorem dX7_kind_8 : decode cX7_kind 8 = .ok (.goto 15, 3) := by decide +kernel
theorem dX7_kind_11 : decode cX7_kind 11 = .ok (.aload_n 0, 1) := by decide +kernel
theorem dX7_kind_12 : decode cX7_kind 12 = .ok (.getfield 50, 3) := by decide +kernel
theorem dX7_kind_15 : decode cX7_kind 15 = .ok (.getfield 81, 3) := by decide +kernel
theorem dX7_kind_18 : decode cX7_kind 18 = .ok (.aload_n 0, 1) := by decide +kernel
theorem dX7_kind_19 : decode cX7_kind 19 = .ok (.getfield 86, 3) := by decide +kernel
theorem dX7_kind_22 : decode cX7_kind 22 = .ok (.iaload, 1) := by decide +kernel
theorem dX7_kind_23 : decode cX7_kind 23 = .ok (.ireturn, 1) := by decide +kernel
theorem dX7_here_0 : decode cX7_here 0 = .ok (.aload_n 0, 1) := by decide +kernel
theorem dX7_here_1 : decode cX7_here 1 = .ok (.getfield 50, 3) := by decide +kernel
theorem dX7_here_4 : decode cX7_here 4 = .ok (.getfield 89, 3) := by decide +kernel
theorem dX7_here_7 : decode cX7_here 7 = .ok (.aload_n 0, 1) := by decide +kernel
theorem dX7_here_8 : decode cX7_here 8 = .ok (.getfield 86, 3) := by decide +kernel
theorem dX7_here_11 : decode cX7_here 11 = .ok (.iaload, 1) := by decide +kernel
theorem dX7_here_12 : decode cX7_here 12 = .ok (.ireturn, 1) := by decide +kernel
theorem dX7_next_0 : decode cX7_next 0 = .ok (.aload_n 0, 1) := by decide +kernel
theorem dX7_next_1 : decode cX7_next 1 = .ok (.getfield 86, 3) := by decide +kernel
theorem dX7_next_4 : decode cX7_next 4 = .ok (.aload_n 0, 1) := by decide +kernel
theorem dX7_next_5 : decode cX7_next 5 = .ok (.getfield 50, 3) := by decide +kernel
theorem dX7_next_8 : decode cX7_next 8 = .ok (.getfield 92, 3) := by decide +kernel
theorem dX7_next_11 : decode cX7_next 11 = .ok (.if_icmp .ge 13, 3) := by decide +kernel
theorem dX7_next_14 : decode cX7_next 14 = .ok (.aload_n 0, 1) := by decide +kernel
theorem dX7_next_15 : decode cX7_next 15 = .ok (.dup, 1) := by decide +kernel
theorem dX7_next_16 : decode cX7_next 16 = .ok (.getfield 86, 3) := by decide +kernel
theorem dX7_next_19 : decode cX7_next 19 = .ok (.iconst 1, 1) := by decide +kernel
theorem dX7_next_20 : decode cX7_next 20 = .ok (.iadd, 1) := by decide +kernel
theorem dX7_next_21 : decode cX7_next 21 = .ok (.putfield 86, 3) := by decide +kernel
theorem dX7_next_24 : decode cX7_next 24 = .ok (.return_, 1) := by decide +kernel
theorem dX7_blameForm_0 : decode cX7_blameForm 0 = .ok (.iload_n 1, 1) := by decide +kernel
theorem dX7_blameForm_1 : decode cX7_blameForm 1 = .ok (.ifCond .lt 23, 3) := by decide +kernel
theorem dX7_blameForm_4 : decode cX7_blameForm 4 = .ok (.aload_n 0, 1) := by decide +kernel
theorem dX7_blameForm_5 : decode cX7_blameForm 5 = .ok (.getfield 47, 3) := by decide +kernel
theorem dX7_blameForm_8 : decode cX7_blameForm 8 = .ok (.ifCond .lt 11, 3) := by decide +kernel
theorem dX7_blameForm_11 : decode cX7_blameForm 11 = .ok (.iload_n 1, 1) := by decide +kernel
theorem dX7_blameForm_12 : decode cX7_blameForm 12 = .ok (.aload_n 0, 1) := by decide +kernel
theorem dX7_blameForm_13 : decode cX7_blameForm 13 = .ok (.getfield 47, 3) := by decide +kernel
theorem dX7_blameForm_16 : decode cX7_blameForm 16 = .ok (.if_icmp .ge 8, 3) := by decide +kernel
theorem dX7_blameForm_19 : decode cX7_blameForm 19 = .ok (.aload_n 0, 1) := by decide +kernel
theorem dX7_blameForm_20 : decode cX7_blameForm 20 = .ok (.iload_n 1, 1) := by decide +kernel
theorem dX7_blameForm_21 : decode cX7_blameForm 21 = .ok (.putfield 47, 3) := by decide +kernel
theorem dX7_blameForm_24 : decode cX7_blameForm 24 = .ok (.return_, 1) := by decide +kernel
theorem dX7_isRelation_0 : decode cX7_isRelation 0 = .ok (.iload_n 0, 1) := by decide +kernel
theorem dX7_isRelation_1 : decode cX7_isRelation 1 = .ok (.bipush 61, 2) := by decide +kernel
theorem dX7_isRelation_3 : decode cX7_isRelation 3 = .ok (.if_icmp .eq 29, 3) := by decide +kernel
theorem dX7_isRelation_6 : decode cX7_isRelation 6 = .ok (.iload_n 0, 1) := by decide +kernel
theorem dX7_isRelation_7 : decode cX7_isRelation 7 = .ok (.bipush 60, 2) := by decide +kernel
theorem dX7_isRelation_9 : decode cX7_isRelation 9 = .ok (.if_icmp .eq 23, 3) := by decide +kernel
theorem dX7_isRelation_12 : decode cX7_isRelation 12 = .ok (.iload_n 0, 1) := by decide +kernel
theorem dX7_isRelation_13 : decode cX7_isRelation 13 = .ok (.sipush 300, 3) := by decide +kernel
theorem dX7_isRelation_16 : decode cX7_isRelation 16 = .ok (.if_icmp .eq 16, 3) := by decide +kernel
theorem dX7_isRelation_19 : decode cX7_isRelation 19 = .ok (.iload_n 0, 1) := by decide +kernel
theorem dX7_isRelation_20 : decode cX7_isRelation 20 = .ok (.bipush 62, 2) := by decide +kernel
theorem dX7_isRelation_22 : decode cX7_isRelation 22 = .ok (.if_icmp .eq 10, 3) := by decide +kernel
theorem dX7_isRelation_25 : decode cX7_isRelation 25 = .ok (.iload_n 0, 1) := by decide +kernel
theorem dX7_isRelation_26 : decode cX7_isRelation 26 = .ok (.sipush 301, 3) := by decide +kernel
theorem dX7_isRelation_29 : decode cX7_isRelation 29 = .ok (.if_icmp .ne 7, 3) := by decide +kernel
theorem dX7_isRelation_32 : decode cX7_isRelation 32 = .ok (.iconst 1, 1) := by decide +kernel
theorem dX7_isRelation_33 : decode cX7_isRelation 33 = .ok (.goto 4, 3) := by decide +kernel
theorem dX7_isRelation_36 : decode cX7_isRelation 36 = .ok (.iconst 0, 1) := by decide +kernel
theorem dX7_isRelation_37 : decode cX7_isRelation 37 = .ok (.ireturn, 1) := by decide +kernel
theorem dX7_beginsArgument_0 : decode cX7_beginsArgument 0 = .ok (.iload_n 0, 1) := by decide +kernel
theorem dX7_beginsArgument_1 : decode cX7_beginsArgument 1 = .ok (.iconst 2, 1) := by decide +kernel
theorem dX7_beginsArgument_2 : decode cX7_beginsArgument 2 = .ok (.if_icmp .eq 28, 3) := by decide +kernel
theorem dX7_beginsArgument_5 : decode cX7_beginsArgument 5 = .ok (.iload_n 0, 1) := by decide +kernel
theorem dX7_beginsArgument_6 : decode cX7_beginsArgument 6 = .ok (.iconst 1, 1) := by decide +kernel
theorem dX7_beginsArgument_7 : decode cX7_beginsArgument 7 = .ok (.if_icmp .eq 23, 3) := by decide +kernel
theorem dX7_beginsArgument_10 : decode cX7_beginsArgument 10 = .ok (.iload_n 0, 1) := by decide +kernel
theorem dX7_beginsArgument_11 : decode cX7_beginsArgument 11 = .ok (.bipush 40, 2) := by decide +kernel
theorem dX7_beginsArgument_13 : decode cX7_beginsArgument 13 = .ok (.if_icmp .eq 17, 3) := by decide +kernel
theorem dX7_beginsArgument_16 : decode cX7_beginsArgument 16 = .ok (.iload_n 0, 1) := by decide +kernel
theorem dX7_beginsArgument_17 : decode cX7_beginsArgument 17 = .ok (.sipush 223, 3) := by decide +kernel
theorem dX7_beginsArgument_20 : decode cX7_beginsArgument 20 = .ok (.if_icmp .eq 10, 3) := by decide +kernel
theorem dX7_beginsArgument_23 : decode cX7_beginsArgument 23 = .ok (.iload_n 0, 1) := by decide +kernel
theorem dX7_beginsArgument_24 : decode cX7_beginsArgument 24 = .ok (.sipush 205, 3) := by decide +kernel
theorem dX7_beginsArgument_27 : decode cX7_beginsArgument 27 = .ok (.if_icmp .ne 7, 3) := by decide +kernel
theorem dX7_beginsArgument_30 : decode cX7_beginsArgument 30 = .ok (.iconst 1, 1) := by decide +kernel
theorem dX7_beginsArgument_31 : decode cX7_beginsArgument 31 = .ok (.goto 4, 3) := by decide +kernel
theorem dX7_beginsArgument_34 : decode cX7_beginsArgument 34 = .ok (.iconst 0, 1) := by decide +kernel
theorem dX7_beginsArgument_35 : decode cX7_beginsArgument 35 = .ok (.ireturn, 1) := by decide +kernel
theorem dX8_init_0 : decode cX8_init 0 = .ok (.aload_n 0, 1) := by decide +kernel
theorem dX8_init_1 : decode cX8_init 1 = .ok (.invokespecial 1, 3) := by decide +kernel
theorem dX8_init_4 : decode cX8_init 4 = .ok (.aload_n 0, 1) := by decide +kernel
theorem dX8_init_5 : decode cX8_init 5 = .ok (.aload_n 1, 1) := by decide +kernel
theorem dX8_init_6 : decode cX8_init 6 = .ok (.putfield 7, 3) := by decide +kernel
theorem dX8_init_9 : decode cX8_init 9 = .ok (.aload_n 0, 1) := by decide +kernel
theorem dX8_init_10 : decode cX8_init 10 = .ok (.aconst_null, 1) := by decide +kernel
theorem dX8_init_11 : decode cX8_init 11 = .ok (.putfield 13, 3) := by decide +kernel
theorem dX8_init_14 : decode cX8_init 14 = .ok (.aload_n 0, 1) := by decide +kernel
theorem dX8_init_15 : decode cX8_init 15 = .ok (.iconst 0, 1) := by decide +kernel
theorem dX8_init_16 : decode cX8_init 16 = .ok (.putfield 17, 3) := by decide +kernel
theorem dX8_init_19 : decode cX8_init 19 = .ok (.aload_n 0, 1) := by decide +kernel
theorem dX8_init_20 : decode cX8_init 20 = .ok (.aload_n 2, 1) := by decide +kernel
theorem dX8_init_21 : decode cX8_init 21 = .ok (.putfield 21, 3) := by decide +kernel
theorem dX8_init_24 : decode cX8_init 24 = .ok (.return_, 1) := by decide +kernel
theorem dX8_init__0 : decode cX8_init_ 0 = .ok (.aload_n 0, 1) := by decide +kernel
theorem dX8_init__1 : decode cX8_init_ 1 = .ok (.invokespecial 1, 3) := by decide +kernel
theorem dX8_init__4 : decode cX8_init_ 4 = .ok (.aload_n 0, 1) := by decide +kernel
theorem dX8_init__5 : decode cX8_init_ 5 = .ok (.aconst_null, 1) := by decide +kernel
theorem dX8_init__6 : decode cX8_init_ 6 = .ok (.putfield 7, 3) := by decide +kernel
theorem dX8_init__9 : decode cX8_init_ 9 = .ok (.aload_n 0, 1) := by decide +kernel
theorem dX8_init__10 : decode cX8_init_ 10 = .ok (.aload_n 1, 1) := by decide +kernel
theorem dX8_init__11 : decode cX8_init_ 11 = .ok (.putfield 13, 3) := by decide +kernel
theorem dX8_init__14 : decode cX8_init_ 14 = .ok (.aload_n 0, 1) := by decide +kernel
theorem dX8_init__15 : decode cX8_init_ 15 = .ok (.iload_n 2, 1) := by decide +kernel
theorem dX8_init__16 : decode cX8_init_ 16 = .ok (.putfield 17, 3) := by decide +kernel
theorem dX8_init__19 : decode cX8_init_ 19 = .ok (.aload_n 0, 1) := by decide +kernel
theorem dX8_init__20 : decode cX8_init_ 20 = .ok (.aload_n 3, 1) := by decide +kernel
theorem dX8_init__21 : decode cX8_init_ 21 = .ok (.putfield 21, 3) := by decide +kernel
theorem dX8_init__24 : decode cX8_init_ 24 = .ok (.return_, 1) := by decide +kernel
theorem dX10_make_0 : decode cX10_make 0 = .ok (.aload_n 0, 1) := by decide +kernel
theorem dX10_make_1 : decode cX10_make 1 = .ok (.getfield 86, 3) := by decide +kernel
theorem dX10_make_4 : decode cX10_make 4 = .ok (.aload_n 0, 1) := by decide +kernel
theorem dX10_make_5 : decode cX10_make 5 = .ok (.getfield 18, 3) := by decide +kernel
theorem dX10_make_8 : decode cX10_make 8 = .ok (.arraylength, 1) := by decide +kernel
theorem dX10_make_9 : decode cX10_make 9 = .ok (.if_icmp .ne 5, 3) := by decide +kernel
theorem dX10_make_12 : decode cX10_make 12 = .ok (.iconst 0, 1) := by decide +kernel
theorem dX10_make_13 : decode cX10_make 13 = .ok (.ireturn, 1) := by decide +kernel
theorem dX10_make_14 : decode cX10_make 14 = .ok (.aload_n 0, 1) := by decide +kernel
theorem dX10_make_15 : decode cX10_make 15 = .ok (.getfield 18, 3) := by decide +kernel
theorem dX10_make_18 : decode cX10_make 18 = .ok (.aload_n 0, 1) := by decide +kernel
theorem dX10_make_19 : decode cX10_make 19 = .ok (.getfield 86, 3) := by decide +kernel
theorem dX10_make_22 : decode cX10_make 22 = .ok (.iload_n 1, 1) := by decide +kernel
theorem dX10_make_23 : decode cX10_make 23 = .ok (.iastore, 1) := by decide +kernel
theorem dX10_make_24 : decode cX10_make 24 = .ok (.aload_n 0, 1) := by decide +kernel
theorem dX10_make_25 : decode cX10_make 25 = .ok (.getfield 28, 3) := by decide +kernel
theorem dX10_make_28 : decode cX10_make 28 = .ok (.aload_n 0, 1) := by decide +kernel
theorem dX10_make_29 : decode cX10_make 29 = .ok (.getfield 86, 3) := by decide +kernel
theorem dX10_make_32 : decode cX10_make 32 = .ok (.aload_n 0, 1) := by decide +kernel
theorem dX10_make_33 : decode cX10_make 33 = .ok (.getfield 86, 3) := by decide +kernel
theorem dX10_make_36 : decode cX10_make 36 = .ok (.iastore, 1) := by decide +kernel
theorem dX10_make_37 : decode cX10_make 37 = .ok (.aload_n 0, 1) := by decide +kernel
theorem dX10_make_38 : decode cX10_make 38 = .ok (.dup, 1) := by decide +kernel
theorem dX10_make_39 : decode cX10_make 39 = .ok (.getfield 86, 3) := by decide +kernel
theorem dX10_make_42 : decode cX10_make 42 = .ok (.iconst 1, 1) := by decide +kernel
theorem dX10_make_43 : decode cX10_make 43 = .ok (.iadd, 1) := by decide +kernel
theorem dX10_make_44 : decode cX10_make 44 = .ok (.putfield 86, 3) := by decide +kernel
theorem dX10_make_47 : decode cX10_make 47 = .ok (.aload_n 0, 1) := by decide +kernel
theorem dX10_make_48 : decode cX10_make 48 = .ok (.getfield 86, 3) := by decide +kernel
theorem dX10_make_51 : decode cX10_make 51 = .ok (.iconst 1, 1) := by decide +kernel
theorem dX10_make_52 : decode cX10_make 52 = .ok (.isub, 1) := by decide +kernel
theorem dX10_make_53 : decode cX10_make 53 = .ok (.ireturn, 1) := by decide +kernel
theorem dX10_basic_0 : decode cX10_basic 0 = .ok (.iload_n 0, 1) := by decide +kernel
theorem dX10_basic_1 : decode cX10_basic 1 = .ok (.sipush 202, 3) := by decide +kernel
theorem dX10_basic_4 : decode cX10_basic 4 = .ok (.if_icmp .ne 7, 3) := by decide +kernel
theorem dX10_basic_7 : decode cX10_basic 7 = .ok (.iconst 1, 1) := by decide +kernel
theorem dX10_basic_8 : decode cX10_basic 8 = .ok (.goto 26, 3) := by decide +kernel
theorem dX10_basic_11 : decode cX10_basic 11 = .ok (.iload_n 0, 1) := by decide +kernel
theorem dX10_basic_12 : decode cX10_basic 12 = .ok (.sipush 200, 3) := by decide +kernel
theorem dX10_basic_15 : decode cX10_basic 15 = .ok (.if_icmp .ne 7, 3) := by decide +kernel
theorem dX10_basic_18 : decode cX10_basic 18 = .ok (.iconst 2, 1) := by decide +kernel
theorem dX10_basic_19 : decode cX10_basic 19 = .ok (.goto 15, 3) := by decide +kernel
theorem dX10_basic_22 : decode cX10_basic 22 = .ok (.iload_n 0, 1) := by decide +kernel
theorem dX10_basic_23 : decode cX10_basic 23 = .ok (.sipush 213, 3) := by decide +kernel
theorem dX10_basic_26 : decode cX10_basic 26 = .ok (.if_icmp .ne 7, 3) := by decide +kernel
theorem dX10_basic_29 : decode cX10_basic 29 = .ok (.iconst 3, 1) := by decide +kernel
theorem dX10_basic_30 : decode cX10_basic 30 = .ok (.goto 4, 3) := by decide +kernel
theorem dX10_basic_33 : decode cX10_basic 33 = .ok (.iconst 0, 1) := by decide +kernel
theorem dX10_basic_34 : decode cX10_basic 34 = .ok (.ireturn, 1) := by decide +kernel
theorem dX11_isLetter_0 : decode cX11_isLetter 0 = .ok (.iload_n 0, 1) := by decide +kernel
theorem dX11_isLetter_1 : decode cX11_isLetter 1 = .ok (.bipush 97, 2) := by decide +kernel
theorem dX11_isLetter_3 : decode cX11_isLetter 3 = .ok (.if_icmp .lt 13, 3) := by decide +kernel
theorem dX11_isLetter_6 : decode cX11_isLetter 6 = .ok (.iload_n 0, 1) := by decide +kernel
theorem dX11_isLetter_7 : decode cX11_isLetter 7 = .ok (.bipush 122, 2) := by decide +kernel
theorem dX11_isLetter_9 : decode cX11_isLetter 9 = .ok (.if_icmp .gt 7, 3) := by decide +kernel
theorem dX11_isLetter_12 : decode cX11_isLetter 12 = .ok (.iconst 1, 1) := by decide +kernel
theorem dX11_isLetter_13 : decode cX11_isLetter 13 = .ok (.goto 4, 3) := by decide +kernel
theorem dX11_isLetter_16 : decode cX11_isLetter 16 = .ok (.iconst 0, 1) := by decide +kernel
theorem dX11_isLetter_17 : decode cX11_isLetter 17 = .ok (.ireturn, 1) := by decide +kernel
theorem dX11_isDigit_0 : decode cX11_isDigit 0 = .ok (.iload_n 0, 1) := by decide +kernel
theorem dX11_isDigit_1 : decode cX11_isDigit 1 = .ok (.bipush 48, 2) := by decide +kernel
theorem dX11_isDigit_3 : decode cX11_isDigit 3 = .ok (.if_icmp .lt 13, 3) := by decide +kernel
theorem dX11_isDigit_6 : decode cX11_isDigit 6 = .ok (.iload_n 0, 1) := by decide +kernel
theorem dX11_isDigit_7 : decode cX11_isDigit 7 = .ok (.bipush 57, 2) := by decide +kernel
theorem dX11_isDigit_9 : decode cX11_isDigit 9 = .ok (.if_icmp .gt 7, 3) := by decide +kernel
theorem dX11_isDigit_12 : decode cX11_isDigit 12 = .ok (.iconst 1, 1) := by decide +kernel
theorem dX11_isDigit_13 : decode cX11_isDigit 13 = .ok (.goto 4, 3) := by decide +kernel
theorem dX11_isDigit_16 : decode cX11_isDigit 16 = .ok (.iconst 0, 1) := by decide +kernel
theorem dX11_isDigit_17 : decode cX11_isDigit 17 = .ok (.ireturn, 1) := by decide +kernel
theorem dX12_fault_0 : decode cX12_fault 0 = .ok (.aload_n 0, 1) := by decide +kernel
theorem dX12_fault_1 : decode cX12_fault 1 = .ok (.iload_n 2, 1) := by decide +kernel
theorem dX12_fault_2 : decode cX12_fault 2 = .ok (.putfield 13, 3) := by decide +kernel
theorem dX12_fault_5 : decode cX12_fault 5 = .ok (.iload_n 1, 1) := by decide +kernel
theorem dX12_fault_6 : decode cX12_fault 6 = .ok (.ireturn, 1) := by decide +kernel
theorem dX13_tell_0 : decode cX13_tell 0 = .ok (.aload_n 0, 1) := by decide +kernel
theorem dX13_tell_1 : decode cX13_tell 1 = .ok (.getfield 101, 3) := by decide +kernel
theorem dX13_tell_4 : decode cX13_tell 4 = .ok (.aload_n 0, 1) := by decide +kernel
theorem dX13_tell_5 : decode cX13_tell 5 = .ok (.getfield 627, 3) := by decide +kernel
theorem dX13_tell_8 : decode cX13_tell 8 = .ok (.iload_n 1, 1) := by decide +kernel
theorem dX13_tell_9 : decode cX13_tell 9 = .ok (.iastore, 1) := by decide +kernel
theorem dX13_tell_10 : decode cX13_tell 10 = .ok (.aload_n 0, 1) := by decide +kernel
theorem dX13_tell_11 : decode cX13_tell 11 = .ok (.getfield 107, 3) := by decide +kernel
theorem dX13_tell_14 : decode cX13_tell 14 = .ok (.iload_n 1, 1) := by decide +kernel
theorem dX13_tell_15 : decode cX13_tell 15 = .ok (.aload_n 0, 1) := by decide +kernel
theorem dX13_tell_16 : decode cX13_tell 16 = .ok (.getfield 627, 3) := by decide +kernel
theorem dX13_tell_19 : decode cX13_tell 19 = .ok (.iastore, 1) := by decide +kernel
theorem dX13_tell_20 : decode cX13_tell 20 = .ok (.aload_n 0, 1) := by decide +kernel
theorem dX13_tell_21 : decode cX13_tell 21 = .ok (.dup, 1) := by decide +kernel
theorem dX13_tell_22 : decode cX13_tell 22 = .ok (.getfield 627, 3) := by decide +kernel
theorem dX13_tell_25 : decode cX13_tell 25 = .ok (.iconst 1, 1) := by decide +kernel
theorem dX13_tell_26 : decode cX13_tell 26 = .ok (.iadd, 1) := by decide +kernel
theorem dX13_tell_27 : decode cX13_tell 27 = .ok (.putfield 627, 3) := by decide +kernel
theorem dX13_tell_30 : decode cX13_tell 30 = .ok (.aload_n 0, 1) := by decide +kernel
theorem dX13_tell_31 : decode cX13_tell 31 = .ok (.getfield 627, 3) := by decide +kernel
theorem dX13_tell_34 : decode cX13_tell 34 = .ok (.iconst 1, 1) := by decide +kernel
theorem dX13_tell_35 : decode cX13_tell 35 = .ok (.isub, 1) := by decide +kernel
theorem dX13_tell_36 : decode cX13_tell 36 = .ok (.ireturn, 1) := by decide +kernel
theorem dX13_newType_0 : decode cX13_newType 0 = .ok (.aload_n 0, 1) := by decide +kernel
theorem dX13_newType_1 : decode cX13_newType 1 = .ok (.getfield 113, 3) := by decide +kernel
theorem dX13_newType_4 : decode cX13_newType 4 = .ok (.aload_n 0, 1) := by decide +kernel
theorem dX13_newType_5 : decode cX13_newType 5 = .ok (.getfield 661, 3) := by decide +kernel
theorem dX13_newType_8 : decode cX13_newType 8 = .ok (.iload_n 1, 1) := by decide +kernel
theorem dX13_newType_9 : decode cX13_newType 9 = .ok (.iastore, 1) := by decide +kernel
theorem dX13_newType_10 : decode cX13_newType 10 = .ok (.aload_n 0, 1) := by decide +kernel
theorem dX13_newType_11 : decode cX13_newType 11 = .ok (.getfield 116, 3) := by decide +kernel
theorem dX13_newType_14 : decode cX13_newType 14 = .ok (.aload_n 0, 1) := by decide +kernel
theorem dX13_newType_15 : decode cX13_newType 15 = .ok (.getfield 661, 3) := by decide +kernel
theorem dX13_newType_18 : decode cX13_newType 18 = .ok (.iload_n 2, 1) := by decide +kernel
theorem dX13_newType_19 : decode cX13_newType 19 = .ok (.iastore, 1) := by decide +kernel
theorem dX13_newType_20 : decode cX13_newType 20 = .ok (.aload_n 0, 1) := by decide +kernel
theorem dX13_newType_21 : decode cX13_newType 21 = .ok (.getfield 119, 3) := by decide +kernel
theorem dX13_newType_24 : decode cX13_newType 24 = .ok (.aload_n 0, 1) := by decide +kernel
theorem dX13_newType_25 : decode cX13_newType 25 = .ok (.getfield 661, 3) := by decide +kernel
theorem dX13_newType_28 : decode cX13_newType 28 = .ok (.iload_n 3, 1) := by decide +kernel
theorem dX13_newType_29 : decode cX13_newType 29 = .ok (.iastore, 1) := by decide +kernel
theorem dX13_newType_30 : decode cX13_newType 30 = .ok (.aload_n 0, 1) := by decide +kernel
theorem dX13_newType_31 : decode cX13_newType 31 = .ok (.getfield 122, 3) := by decide +kernel
theorem dX13_newType_34 : decode cX13_newType 34 = .ok (.aload_n 0, 1) := by decide +kernel
theorem dX13_newType_35 : decode cX13_newType 35 = .ok (.getfield 661, 3) := by decide +kernel
theorem dX13_newType_38 : decode cX13_newType 38 = .ok (.iconst (-1), 1) := by decide +kernel
theorem dX13_newType_39 : decode cX13_newType 39 = .ok (.iastore, 1) := by decide +kernel
theorem dX13_newType_40 : decode cX13_newType 40 = .ok (.aload_n 0, 1) := by decide +kernel
theorem dX13_newType_41 : decode cX13_newType 41 = .ok (.getfield 125, 3) := by decide +kernel
theorem dX13_newType_44 : decode cX13_newType 44 = .ok (.aload_n 0, 1) := by decide +kernel
theorem dX13_newType_45 : decode cX13_newType 45 = .ok (.getfield 661, 3) := by decide +kernel
theorem dX13_newType_48 : decode cX13_newType 48 = .ok (.iconst 0, 1) := by decide +kernel
theorem dX13_newType_49 : decode cX13_newType 49 = .ok (.iastore, 1) := by decide +kernel
theorem dX13_newType_50 : decode cX13_newType 50 = .ok (.aload_n 0, 1) := by decide +kernel
theorem dX13_newType_51 : decode cX13_newType 51 = .ok (.dup, 1) := by decide +kernel
theorem dX13_newType_52 : decode cX13_newType 52 = .ok (.getfield 661, 3) := by decide +kernel
theorem dX13_newType_55 : decode cX13_newType 55 = .ok (.iconst 1, 1) := by decide +kernel
theorem dX13_newType_56 : decode cX13_newType 56 = .ok (.iadd, 1) := by decide +kernel
theorem dX13_newType_57 : decode cX13_newType 57 = .ok (.putfield 661, 3) := by decide +kernel
theorem dX13_newType_60 : decode cX13_newType 60 = .ok (.aload_n 0, 1) := by decide +kernel
theorem dX13_newType_61 : decode cX13_newType 61 = .ok (.getfield 661, 3) := by decide +kernel
theorem dX13_newType_64 : decode cX13_newType 64 = .ok (.iconst 1, 1) := by decide +kernel
theorem dX13_newType_65 : decode cX13_newType 65 = .ok (.isub, 1) := by decide +kernel
theorem dX13_newType_66 : decode cX13_newType 66 = .ok (.ireturn, 1) := by decide +kernel
theorem dX13_isName_0 : decode cX13_isName 0 = .ok (.aload_n 0, 1) := by decide +kernel
theorem dX13_isName_1 : decode cX13_isName 1 = .ok (.getfield 53, 3) := by decide +kernel
theorem dX13_isName_4 : decode cX13_isName 4 = .ok (.iload_n 1, 1) := by decide +kernel
theorem dX13_isName_5 : decode cX13_isName 5 = .ok (.iaload, 1) := by decide +kernel
theorem dX13_isName_6 : decode cX13_isName 6 = .ok (.aload_n 0, 1) := by decide +kernel
theorem dX13_isName_7 : decode cX13_isName 7 = .ok (.getfield 50, 3) := by decide +kernel
theorem dX13_isName_10 : decode cX13_isName 10 = .ok (.iload_n 1, 1) := by decide +kernel
theorem dX13_isName_11 : decode cX13_isName 11 = .ok (.iaload, 1) := by decide +kernel
theorem dX13_isName_12 : decode cX13_isName 12 = .ok (.isub, 1) := by decide +kernel
theorem dX13_isName_13 : decode cX13_isName 13 = .ok (.iconst 1, 1) := by decide +kernel
theorem dX13_isName_14 : decode cX13_isName 14 = .ok (.if_icmp .ne 37, 3) := by decide +kernel
theorem dX13_isName_17 : decode cX13_isName 17 = .ok (.aload_n 0, 1) := by decide +kernel
theorem dX13_isName_18 : decode cX13_isName 18 = .ok (.getfield 59, 3) := by decide +kernel
theorem dX13_isName_21 : decode cX13_isName 21 = .ok (.aload_n 0, 1) := by decide +kernel
theorem dX13_isName_22 : decode cX13_isName 22 = .ok (.getfield 50, 3) := by decide +kernel
theorem dX13_isName_25 : decode cX13_isName 25 = .ok (.iload_n 1, 1) := by decide +kernel
theorem dX13_isName_26 : decode cX13_isName 26 = .ok (.iaload, 1) := by decide +kernel
theorem dX13_isName_27 : decode cX13_isName 27 = .ok (.iaload, 1) := by decide +kernel
theorem dX13_isName_28 : decode cX13_isName 28 = .ok (.iconst 1, 1) := by decide +kernel
theorem dX13_isName_29 : decode cX13_isName 29 = .ok (.if_icmp .ne 22, 3) := by decide +kernel
theorem dX13_isName_32 : decode cX13_isName 32 = .ok (.aload_n 0, 1) := by decide +kernel
theorem dX13_isName_33 : decode cX13_isName 33 = .ok (.getfield 62, 3) := by decide +kernel
theorem dX13_isName_36 : decode cX13_isName 36 = .ok (.aload_n 0, 1) := by decide +kernel
theorem dX13_isName_37 : decode cX13_isName 37 = .ok (.getfield 50, 3) := by decide +kernel
theorem dX13_isName_40 : decode cX13_isName 40 = .ok (.iload_n 1, 1) := by decide +kernel
theorem dX13_isName_41 : decode cX13_isName 41 = .ok (.iaload, 1) := by decide +kernel
theorem dX13_isName_42 : decode cX13_isName 42 = .ok (.iaload, 1) := by decide +kernel
theorem dX13_isName_43 : decode cX13_isName 43 = .ok (.iconst 1, 1) := by decide +kernel
theorem dX13_isName_44 : decode cX13_isName 44 = .ok (.if_icmp .ne 7, 3) := by decide +kernel
theorem dX13_isName_47 : decode cX13_isName 47 = .ok (.iconst 1, 1) := by decide +kernel
theorem dX13_isName_48 : decode cX13_isName 48 = .ok (.goto 4, 3) := by decide +kernel
theorem dX13_isName_51 : decode cX13_isName 51 = .ok (.iconst 0, 1) := by decide +kernel
theorem dX13_isName_52 : decode cX13_isName 52 = .ok (.ireturn, 1) := by decide +kernel
theorem dX13_rich_0 : decode cX13_rich 0 = .ok (.aload_n 0, 1) := by decide +kernel
theorem dX13_rich_1 : decode cX13_rich 1 = .ok (.getfield 142, 3) := by decide +kernel
theorem dX13_rich_4 : decode cX13_rich 4 = .ok (.aload_n 0, 1) := by decide +kernel
theorem dX13_rich_5 : decode cX13_rich 5 = .ok (.getfield 769, 3) := by decide +kernel
theorem dX13_rich_8 : decode cX13_rich 8 = .ok (.iload_n 1, 1) := by decide +kernel
theorem dX13_rich_9 : decode cX13_rich 9 = .ok (.iastore, 1) := by decide +kernel
theorem dX13_rich_10 : decode cX13_rich 10 = .ok (.aload_n 0, 1) := by decide +kernel
theorem dX13_rich_11 : decode cX13_rich 11 = .ok (.getfield 145, 3) := by decide +kernel
theorem dX13_rich_14 : decode cX13_rich 14 = .ok (.aload_n 0, 1) := by decide +kernel
theorem dX13_rich_15 : decode cX13_rich 15 = .ok (.getfield 769, 3) := by decide +kernel
theorem dX13_rich_18 : decode cX13_rich 18 = .ok (.iload_n 2, 1) := by decide +kernel
theorem dX13_rich_19 : decode cX13_rich 19 = .ok (.iastore, 1) := by decide +kernel
theorem dX13_rich_20 : decode cX13_rich 20 = .ok (.aload_n 0, 1) := by decide +kernel
theorem dX13_rich_21 : decode cX13_rich 21 = .ok (.getfield 148, 3) := by decide +kernel
theorem dX13_rich_24 : decode cX13_rich 24 = .ok (.aload_n 0, 1) := by decide +kernel
theorem dX13_rich_25 : decode cX13_rich 25 = .ok (.getfield 769, 3) := by decide +kernel
theorem dX13_rich_28 : decode cX13_rich 28 = .ok (.iload_n 3, 1) := by decide +kernel
theorem dX13_rich_29 : decode cX13_rich 29 = .ok (.iastore, 1) := by decide +kernel
theorem dX13_rich_30 : decode cX13_rich 30 = .ok (.aload_n 0, 1) := by decide +kernel
theorem dX13_rich_31 : decode cX13_rich 31 = .ok (.getfield 151, 3) := by decide +kernel
theorem dX13_rich_34 : decode cX13_rich 34 = .ok (.aload_n 0, 1) := by decide +kernel
theorem dX13_rich_35 : decode cX13_rich 35 = .ok (.getfield 769, 3) := by decide +kernel
theorem dX13_rich_38 : decode cX13_rich 38 = .ok (.iload 4, 2) := by decide +kernel
theorem dX13_rich_40 : decode cX13_rich 40 = .ok (.iastore, 1) := by decide +kernel
theorem dX13_rich_41 : decode cX13_rich 41 = .ok (.aload_n 0, 1) := by decide +kernel
theorem dX13_rich_42 : decode cX13_rich 42 = .ok (.getfield 154, 3) := by decide +kernel
theorem dX13_rich_45 : decode cX13_rich 45 = .ok (.aload_n 0, 1) := by decide +kernel
theorem dX13_rich_46 : decode cX13_rich 46 = .ok (.getfield 769, 3) := by decide +kernel
theorem dX13_rich_49 : decode cX13_rich 49 = .ok (.iload 5, 2) := by decide +kernel
theorem dX13_rich_51 : decode cX13_rich 51 = .ok (.iastore, 1) := by decide +kernel
theorem dX13_rich_52 : decode cX13_rich 52 = .ok (.aload_n 0, 1) := by decide +kernel
theorem dX13_rich_53 : decode cX13_rich 53 = .ok (.dup, 1) := by decide +kernel
theorem dX13_rich_54 : decode cX13_rich 54 = .ok (.getfield 769, 3) := by decide +kernel
theorem dX13_rich_57 : decode cX13_rich 57 = .ok (.iconst 1, 1) := by decide +kernel
theorem dX13_rich_58 : decode cX13_rich 58 = .ok (.iadd, 1) := by decide +kernel
theorem dX13_rich_59 : decode cX13_rich 59 = .ok (.putfield 769, 3) := by decide +kernel
theorem dX13_rich_62 : decode cX13_rich 62 = .ok (.aload_n 0, 1) := by decide +kernel
theorem dX13_rich_63 : decode cX13_rich 63 = .ok (.getfield 769, 3) := by decide +kernel
theorem dX13_rich_66 : decode cX13_rich 66 = .ok (.iconst 1, 1) := by decide +kernel
theorem dX13_rich_67 : decode cX13_rich 67 = .ok (.isub, 1) := by decide +kernel
theorem dX13_rich_68 : decode cX13_rich 68 = .ok (.ireturn, 1) := by decide +kernel
theorem dX13_said_0 : decode cX13_said 0 = .ok (.aload_n 0, 1) := by decide +kernel
theorem dX13_said_1 : decode cX13_said 1 = .ok (.getfield 157, 3) := by decide +kernel
theorem dX13_said_4 : decode cX13_said 4 = .ok (.aload_n 0, 1) := by decide +kernel
theorem dX13_said_5 : decode cX13_said 5 = .ok (.getfield 772, 3) := by decide +kernel
theorem dX13_said_8 : decode cX13_said 8 = .ok (.iload_n 1, 1) := by decide +kernel
theorem dX13_said_9 : decode cX13_said 9 = .ok (.iastore, 1) := by decide +kernel
theorem dX13_said_10 : decode cX13_said 10 = .ok (.aload_n 0, 1) := by decide +kernel
theorem dX13_said_11 : decode cX13_said 11 = .ok (.getfield 160, 3) := by decide +kernel
theorem dX13_said_14 : decode cX13_said 14 = .ok (.aload_n 0, 1) := by decide +kernel
theorem dX13_said_15 : decode cX13_said 15 = .ok (.getfield 772, 3) := by decide +kernel
theorem dX13_said_18 : decode cX13_said 18 = .ok (.iload_n 2, 1) := by decide +kernel
theorem dX13_said_19 : decode cX13_said 19 = .ok (.iastore, 1) := by decide +kernel
theorem dX13_said_20 : decode cX13_said 20 = .ok (.aload_n 0, 1) := by decide +kernel
theorem dX13_said_21 : decode cX13_said 21 = .ok (.getfield 163, 3) := by decide +kernel
theorem dX13_said_24 : decode cX13_said 24 = .ok (.aload_n 0, 1) := by decide +kernel
theorem dX13_said_25 : decode cX13_said 25 = .ok (.getfield 772, 3) := by decide +kernel
theorem dX13_said_28 : decode cX13_said 28 = .ok (.iload_n 3, 1) := by decide +kernel
theorem dX13_said_29 : decode cX13_said 29 = .ok (.iastore, 1) := by decide +kernel
theorem dX13_said_30 : decode cX13_said 30 = .ok (.aload_n 0, 1) := by decide +kernel
theorem dX13_said_31 : decode cX13_said 31 = .ok (.dup, 1) := by decide +kernel
theorem dX13_said_32 : decode cX13_said 32 = .ok (.getfield 772, 3) := by decide +kernel
theorem dX13_said_35 : decode cX13_said 35 = .ok (.iconst 1, 1) := by decide +kernel
theorem dX13_said_36 : decode cX13_said 36 = .ok (.iadd, 1) := by decide +kernel
theorem dX13_said_37 : decode cX13_said 37 = .ok (.putfield 772, 3) := by decide +kernel
theorem dX13_said_40 : decode cX13_said 40 = .ok (.aload_n 0, 1) := by decide +kernel
theorem dX13_said_41 : decode cX13_said 41 = .ok (.getfield 772, 3) := by decide +kernel
theorem dX13_said_44 : decode cX13_said 44 = .ok (.iconst 1, 1) := by decide +kernel
theorem dX13_said_45 : decode cX13_said 45 = .ok (.isub, 1) := by decide +kernel
theorem dX13_said_46 : decode cX13_said 46 = .ok (.ireturn, 1) := by decide +kernel
theorem dX13_fact_0 : decode cX13_fact 0 = .ok (.aload_n 0, 1) := by decide +kernel
theorem dX13_fact_1 : decode cX13_fact 1 = .ok (.getfield 166, 3) := by decide +kernel
theorem dX13_fact_4 : decode cX13_fact 4 = .ok (.aload_n 0, 1) := by decide +kernel
theorem dX13_fact_5 : decode cX13_fact 5 = .ok (.getfield 775, 3) := by decide +kernel
theorem dX13_fact_8 : decode cX13_fact 8 = .ok (.iload_n 1, 1) := by decide +kernel
theorem dX13_fact_9 : decode cX13_fact 9 = .ok (.iastore, 1) := by decide +kernel
theorem dX13_fact_10 : decode cX13_fact 10 = .ok (.aload_n 0, 1) := by decide +kernel
theorem dX13_fact_11 : decode cX13_fact 11 = .ok (.getfield 169, 3) := by decide +kernel
theorem dX13_fact_14 : decode cX13_fact 14 = .ok (.aload_n 0, 1) := by decide +kernel
theorem dX13_fact_15 : decode cX13_fact 15 = .ok (.getfield 775, 3) := by decide +kernel
theorem dX13_fact_18 : decode cX13_fact 18 = .ok (.iload_n 2, 1) := by decide +kernel
theorem dX13_fact_19 : decode cX13_fact 19 = .ok (.iastore, 1) := by decide +kernel
theorem dX13_fact_20 : decode cX13_fact 20 = .ok (.aload_n 0, 1) := by decide +kernel
theorem dX13_fact_21 : decode cX13_fact 21 = .ok (.getfield 172, 3) := by decide +kernel
theorem dX13_fact_24 : decode cX13_fact 24 = .ok (.aload_n 0, 1) := by decide +kernel
theorem dX13_fact_25 : decode cX13_fact 25 = .ok (.getfield 775, 3) := by decide +kernel
theorem dX13_fact_28 : decode cX13_fact 28 = .ok (.iload_n 3, 1) := by decide +kernel
theorem dX13_fact_29 : decode cX13_fact 29 = .ok (.iastore, 1) := by decide +kernel
theorem dX13_fact_30 : decode cX13_fact 30 = .ok (.aload_n 0, 1) := by decide +kernel
theorem dX13_fact_31 : decode cX13_fact 31 = .ok (.getfield 178, 3) := by decide +kernel
theorem dX13_fact_34 : decode cX13_fact 34 = .ok (.aload_n 0, 1) := by decide +kernel
theorem dX13_fact_35 : decode cX13_fact 35 = .ok (.getfield 775, 3) := by decide +kernel
theorem dX13_fact_38 : decode cX13_fact 38 = .ok (.lload 4, 2) := by decide +kernel
theorem dX13_fact_40 : decode cX13_fact 40 = .ok (.lastore, 1) := by decide +kernel
theorem dX13_fact_41 : decode cX13_fact 41 = .ok (.aload_n 0, 1) := by decide +kernel
theorem dX13_fact_42 : decode cX13_fact 42 = .ok (.getfield 175, 3) := by decide +kernel
theorem dX13_fact_45 : decode cX13_fact 45 = .ok (.aload_n 0, 1) := by decide +kernel
theorem dX13_fact_46 : decode cX13_fact 46 = .ok (.getfield 775, 3) := by decide +kernel
theorem dX13_fact_49 : decode cX13_fact 49 = .ok (.iload 6, 2) := by decide +kernel
theorem dX13_fact_51 : decode cX13_fact 51 = .ok (.iastore, 1) := by decide +kernel
theorem dX13_fact_52 : decode cX13_fact 52 = .ok (.aload_n 0, 1) := by decide +kernel
theorem dX13_fact_53 : decode cX13_fact 53 = .ok (.dup, 1) := by decide +kernel
theorem dX13_fact_54 : decode cX13_fact 54 = .ok (.getfield 775, 3) := by decide +kernel
theorem dX13_fact_57 : decode cX13_fact 57 = .ok (.iconst 1, 1) := by decide +kernel
theorem dX13_fact_58 : decode cX13_fact 58 = .ok (.iadd, 1) := by decide +kernel
theorem dX13_fact_59 : decode cX13_fact 59 = .ok (.putfield 775, 3) := by decide +kernel
theorem dX13_fact_62 : decode cX13_fact 62 = .ok (.aload_n 0, 1) := by decide +kernel
theorem dX13_fact_63 : decode cX13_fact 63 = .ok (.getfield 775, 3) := by decide +kernel
theorem dX13_fact_66 : decode cX13_fact 66 = .ok (.iconst 1, 1) := by decide +kernel
theorem dX13_fact_67 : decode cX13_fact 67 = .ok (.isub, 1) := by decide +kernel
theorem dX13_fact_68 : decode cX13_fact 68 = .ok (.ireturn, 1) := by decide +kernel
theorem dX13_isSaid_0 : decode cX13_isSaid 0 = .ok (.iload_n 0, 1) := by decide +kernel
theorem dX13_isSaid_1 : decode cX13_isSaid 1 = .ok (.iconst 1, 1) := by decide +kernel
theorem dX13_isSaid_2 : decode cX13_isSaid 2 = .ok (.if_icmp .eq 13, 3) := by decide +kernel
theorem dX13_isSaid_5 : decode cX13_isSaid 5 = .ok (.iload_n 0, 1) := by decide +kernel
theorem dX13_isSaid_6 : decode cX13_isSaid 6 = .ok (.iconst 3, 1) := by decide +kernel
theorem dX13_isSaid_7 : decode cX13_isSaid 7 = .ok (.if_icmp .eq 8, 3) := by decide +kernel
theorem dX13_isSaid_10 : decode cX13_isSaid 10 = .ok (.iload_n 0, 1) := by decide +kernel
theorem dX13_isSaid_11 : decode cX13_isSaid 11 = .ok (.iconst 5, 1) := by decide +kernel
theorem dX13_isSaid_12 : decode cX13_isSaid 12 = .ok (.if_icmp .ne 7, 3) := by decide +kernel
theorem dX13_isSaid_15 : decode cX13_isSaid 15 = .ok (.iconst 1, 1) := by decide +kernel
theorem dX13_isSaid_16 : decode cX13_isSaid 16 = .ok (.goto 4, 3) := by decide +kernel
theorem dX13_isSaid_19 : decode cX13_isSaid 19 = .ok (.iconst 0, 1) := by decide +kernel
theorem dX13_isSaid_20 : decode cX13_isSaid 20 = .ok (.ireturn, 1) := by decide +kernel
theorem dX13_knows_0 : decode cX13_knows 0 = .ok (.aload_n 0, 1) := by decide +kernel
theorem dX13_knows_1 : decode cX13_knows 1 = .ok (.getfield 222, 3) := by decide +kernel
theorem dX13_knows_4 : decode cX13_knows 4 = .ok (.aload_n 0, 1) := by decide +kernel
theorem dX13_knows_5 : decode cX13_knows 5 = .ok (.getfield 791, 3) := by decide +kernel
theorem dX13_knows_8 : decode cX13_knows 8 = .ok (.iload_n 2, 1) := by decide +kernel
theorem dX13_knows_9 : decode cX13_knows 9 = .ok (.iastore, 1) := by decide +kernel
theorem dX13_knows_10 : decode cX13_knows 10 = .ok (.aload_n 0, 1) := by decide +kernel
theorem dX13_knows_11 : decode cX13_knows 11 = .ok (.getfield 225, 3) := by decide +kernel
theorem dX13_knows_14 : decode cX13_knows 14 = .ok (.aload_n 0, 1) := by decide +kernel
theorem dX13_knows_15 : decode cX13_knows 15 = .ok (.getfield 791, 3) := by decide +kernel
theorem dX13_knows_18 : decode cX13_knows 18 = .ok (.iload_n 3, 1) := by decide +kernel
theorem dX13_knows_19 : decode cX13_knows 19 = .ok (.iastore, 1) := by decide +kernel
theorem dX13_knows_20 : decode cX13_knows 20 = .ok (.aload_n 0, 1) := by decide +kernel
theorem dX13_knows_21 : decode cX13_knows 21 = .ok (.getfield 228, 3) := by decide +kernel
theorem dX13_knows_24 : decode cX13_knows 24 = .ok (.aload_n 0, 1) := by decide +kernel
theorem dX13_knows_25 : decode cX13_knows 25 = .ok (.getfield 791, 3) := by decide +kernel
theorem dX13_knows_28 : decode cX13_knows 28 = .ok (.iload_n 1, 1) := by decide +kernel
theorem dX13_knows_29 : decode cX13_knows 29 = .ok (.iastore, 1) := by decide +kernel
theorem dX13_knows_30 : decode cX13_knows 30 = .ok (.aload_n 0, 1) := by decide +kernel
theorem dX13_knows_31 : decode cX13_knows 31 = .ok (.dup, 1) := by decide +kernel
theorem dX13_knows_32 : decode cX13_knows 32 = .ok (.getfield 791, 3) := by decide +kernel
theorem dX13_knows_35 : decode cX13_knows 35 = .ok (.iconst 1, 1) := by decide +kernel
theorem dX13_knows_36 : decode cX13_knows 36 = .ok (.iadd, 1) := by decide +kernel
theorem dX13_knows_37 : decode cX13_knows 37 = .ok (.putfield 791, 3) := by decide +kernel
theorem dX13_knows_40 : decode cX13_knows 40 = .ok (.aload_n 0, 1) := by decide +kernel
theorem dX13_knows_41 : decode cX13_knows 41 = .ok (.getfield 216, 3) := by decide +kernel
theorem dX13_knows_44 : decode cX13_knows 44 = .ok (.iload_n 2, 1) := by decide +kernel
theorem dX13_knows_45 : decode cX13_knows 45 = .ok (.aload_n 0, 1) := by decide +kernel
theorem dX13_knows_46 : decode cX13_knows 46 = .ok (.getfield 142, 3) := by decide +kernel
theorem dX13_knows_49 : decode cX13_knows 49 = .ok (.iload_n 3, 1) := by decide +kernel
theorem dX13_knows_50 : decode cX13_knows 50 = .ok (.iaload, 1) := by decide +kernel
theorem dX13_knows_51 : decode cX13_knows 51 = .ok (.iconst 3, 1) := by decide +kernel
theorem dX13_knows_52 : decode cX13_knows 52 = .ok (.if_icmp .eq 13, 3) := by decide +kernel
theorem dX13_knows_55 : decode cX13_knows 55 = .ok (.aload_n 0, 1) := by decide +kernel
theorem dX13_knows_56 : decode cX13_knows 56 = .ok (.getfield 142, 3) := by decide +kernel
theorem dX13_knows_59 : decode cX13_knows 59 = .ok (.iload_n 3, 1) := by decide +kernel
theorem dX13_knows_60 : decode cX13_knows 60 = .ok (.iaload, 1) := by decide +kernel
theorem dX13_knows_61 : decode cX13_knows 61 = .ok (.iconst 5, 1) := by decide +kernel
theorem dX13_knows_62 : decode cX13_knows 62 = .ok (.if_icmp .ne 7, 3) := by decide +kernel
theorem dX13_knows_65 : decode cX13_knows 65 = .ok (.iconst 1, 1) := by decide +kernel
theorem dX13_knows_66 : decode cX13_knows 66 = .ok (.goto 4, 3) := by decide +kernel
theorem dX13_knows_69 : decode cX13_knows 69 = .ok (.iconst 0, 1) := by decide +kernel
theorem dX13_knows_70 : decode cX13_knows 70 = .ok (.bastore, 1) := by decide +kernel
theorem dX13_knows_71 : decode cX13_knows 71 = .ok (.aload_n 0, 1) := by decide +kernel
theorem dX13_knows_72 : decode cX13_knows 72 = .ok (.getfield 219, 3) := by decide +kernel
theorem dX13_knows_75 : decode cX13_knows 75 = .ok (.iload_n 2, 1) := by decide +kernel
theorem dX13_knows_76 : decode cX13_knows 76 = .ok (.aload_n 0, 1) := by decide +kernel
theorem dX13_knows_77 : decode cX13_knows 77 = .ok (.getfield 142, 3) := by decide +kernel
theorem dX13_knows_80 : decode cX13_knows 80 = .ok (.iload_n 3, 1) := by decide +kernel
theorem dX13_knows_81 : decode cX13_knows 81 = .ok (.iaload, 1) := by decide +kernel
theorem dX13_knows_82 : decode cX13_knows 82 = .ok (.iconst 5, 1) := by decide +kernel
theorem dX13_knows_83 : decode cX13_knows 83 = .ok (.if_icmp .ne 7, 3) := by decide +kernel
theorem dX13_knows_86 : decode cX13_knows 86 = .ok (.iconst 1, 1) := by decide +kernel
theorem dX13_knows_87 : decode cX13_knows 87 = .ok (.goto 4, 3) := by decide +kernel
theorem dX13_knows_90 : decode cX13_knows 90 = .ok (.iconst 0, 1) := by decide +kernel
theorem dX13_knows_91 : decode cX13_knows 91 = .ok (.bastore, 1) := by decide +kernel
theorem dX13_knows_92 : decode cX13_knows 92 = .ok (.aload_n 0, 1) := by decide +kernel
theorem dX13_knows_93 : decode cX13_knows 93 = .ok (.getfield 791, 3) := by decide +kernel
theorem dX13_knows_96 : decode cX13_knows 96 = .ok (.iconst 1, 1) := by decide +kernel
theorem dX13_knows_97 : decode cX13_knows 97 = .ok (.isub, 1) := by decide +kernel
theorem dX13_knows_98 : decode cX13_knows 98 = .ok (.ireturn, 1) := by decide +kernel
theorem dX13_gone_0 : decode cX13_gone 0 = .ok (.aload_n 0, 1) := by decide +kernel
theorem dX13_gone_1 : decode cX13_gone 1 = .ok (.getfield 231, 3) := by decide +kernel
theorem dX13_gone_4 : decode cX13_gone 4 = .ok (.aload_n 0, 1) := by decide +kernel
theorem dX13_gone_5 : decode cX13_gone 5 = .ok (.getfield 794, 3) := by decide +kernel
theorem dX13_gone_8 : decode cX13_gone 8 = .ok (.iload_n 2, 1) := by decide +kernel
theorem dX13_gone_9 : decode cX13_gone 9 = .ok (.iastore, 1) := by decide +kernel
theorem dX13_gone_10 : decode cX13_gone 10 = .ok (.aload_n 0, 1) := by decide +kernel
theorem dX13_gone_11 : decode cX13_gone 11 = .ok (.getfield 234, 3) := by decide +kernel
theorem dX13_gone_14 : decode cX13_gone 14 = .ok (.aload_n 0, 1) := by decide +kernel
theorem dX13_gone_15 : decode cX13_gone 15 = .ok (.getfield 794, 3) := by decide +kernel
theorem dX13_gone_18 : decode cX13_gone 18 = .ok (.iload_n 3, 1) := by decide +kernel
theorem dX13_gone_19 : decode cX13_gone 19 = .ok (.iastore, 1) := by decide +kernel
theorem dX13_gone_20 : decode cX13_gone 20 = .ok (.aload_n 0, 1) := by decide +kernel
theorem dX13_gone_21 : decode cX13_gone 21 = .ok (.getfield 237, 3) := by decide +kernel
theorem dX13_gone_24 : decode cX13_gone 24 = .ok (.aload_n 0, 1) := by decide +kernel
theorem dX13_gone_25 : decode cX13_gone 25 = .ok (.getfield 794, 3) := by decide +kernel
theorem dX13_gone_28 : decode cX13_gone 28 = .ok (.iload_n 1, 1) := by decide +kernel
theorem dX13_gone_29 : decode cX13_gone 29 = .ok (.iastore, 1) := by decide +kernel
theorem dX13_gone_30 : decode cX13_gone 30 = .ok (.aload_n 0, 1) := by decide +kernel
theorem dX13_gone_31 : decode cX13_gone 31 = .ok (.dup, 1) := by decide +kernel
theorem dX13_gone_32 : decode cX13_gone 32 = .ok (.getfield 794, 3) := by decide +kernel
theorem dX13_gone_35 : decode cX13_gone 35 = .ok (.iconst 1, 1) := by decide +kernel
theorem dX13_gone_36 : decode cX13_gone 36 = .ok (.iadd, 1) := by decide +kernel
theorem dX13_gone_37 : decode cX13_gone 37 = .ok (.putfield 794, 3) := by decide +kernel
theorem dX13_gone_40 : decode cX13_gone 40 = .ok (.aload_n 0, 1) := by decide +kernel
theorem dX13_gone_41 : decode cX13_gone 41 = .ok (.getfield 794, 3) := by decide +kernel
theorem dX13_gone_44 : decode cX13_gone 44 = .ok (.iconst 1, 1) := by decide +kernel
theorem dX13_gone_45 : decode cX13_gone 45 = .ok (.isub, 1) := by decide +kernel
theorem dX13_gone_46 : decode cX13_gone 46 = .ok (.ireturn, 1) := by decide +kernel
theorem dX13_mustBeSo_0 : decode cX13_mustBeSo 0 = .ok (.aload_n 0, 1) := by decide +kernel
theorem dX13_mustBeSo_1 : decode cX13_mustBeSo 1 = .ok (.getfield 255, 3) := by decide +kernel
theorem dX13_mustBeSo_4 : decode cX13_mustBeSo 4 = .ok (.aload_n 0, 1) := by decide +kernel
theorem dX13_mustBeSo_5 : decode cX13_mustBeSo 5 = .ok (.getfield 832, 3) := by decide +kernel
theorem dX13_mustBeSo_8 : decode cX13_mustBeSo 8 = .ok (.iload_n 1, 1) := by decide +kernel
theorem dX13_mustBeSo_9 : decode cX13_mustBeSo 9 = .ok (.iastore, 1) := by decide +kernel
theorem dX13_mustBeSo_10 : decode cX13_mustBeSo 10 = .ok (.aload_n 0, 1) := by decide +kernel
theorem dX13_mustBeSo_11 : decode cX13_mustBeSo 11 = .ok (.getfield 258, 3) := by decide +kernel
theorem dX13_mustBeSo_14 : decode cX13_mustBeSo 14 = .ok (.aload_n 0, 1) := by decide +kernel
theorem dX13_mustBeSo_15 : decode cX13_mustBeSo 15 = .ok (.getfield 832, 3) := by decide +kernel
theorem dX13_mustBeSo_18 : decode cX13_mustBeSo 18 = .ok (.iload_n 2, 1) := by decide +kernel
theorem dX13_mustBeSo_19 : decode cX13_mustBeSo 19 = .ok (.iastore, 1) := by decide +kernel
theorem dX13_mustBeSo_20 : decode cX13_mustBeSo 20 = .ok (.aload_n 0, 1) := by decide +kernel
theorem dX13_mustBeSo_21 : decode cX13_mustBeSo 21 = .ok (.getfield 261, 3) := by decide +kernel
theorem dX13_mustBeSo_24 : decode cX13_mustBeSo 24 = .ok (.aload_n 0, 1) := by decide +kernel
theorem dX13_mustBeSo_25 : decode cX13_mustBeSo 25 = .ok (.getfield 832, 3) := by decide +kernel
theorem dX13_mustBeSo_28 : decode cX13_mustBeSo 28 = .ok (.iload_n 3, 1) := by decide +kernel
theorem dX13_mustBeSo_29 : decode cX13_mustBeSo 29 = .ok (.iastore, 1) := by decide +kernel
theorem dX13_mustBeSo_30 : decode cX13_mustBeSo 30 = .ok (.aload_n 0, 1) := by decide +kernel
theorem dX13_mustBeSo_31 : decode cX13_mustBeSo 31 = .ok (.getfield 264, 3) := by decide +kernel
theorem dX13_mustBeSo_34 : decode cX13_mustBeSo 34 = .ok (.aload_n 0, 1) := by decide +kernel
theorem dX13_mustBeSo_35 : decode cX13_mustBeSo 35 = .ok (.getfield 832, 3) := by decide +kernel
theorem dX13_mustBeSo_38 : decode cX13_mustBeSo 38 = .ok (.iload 4, 2) := by decide +kernel
theorem dX13_mustBeSo_40 : decode cX13_mustBeSo 40 = .ok (.iastore, 1) := by decide +kernel
theorem dX13_mustBeSo_41 : decode cX13_mustBeSo 41 = .ok (.aload_n 0, 1) := by decide +kernel
theorem dX13_mustBeSo_42 : decode cX13_mustBeSo 42 = .ok (.getfield 267, 3) := by decide +kernel
theorem dX13_mustBeSo_45 : decode cX13_mustBeSo 45 = .ok (.aload_n 0, 1) := by decide +kernel
theorem dX13_mustBeSo_46 : decode cX13_mustBeSo 46 = .ok (.getfield 832, 3) := by decide +kernel
theorem dX13_mustBeSo_49 : decode cX13_mustBeSo 49 = .ok (.iload 5, 2) := by decide +kernel
theorem dX13_mustBeSo_51 : decode cX13_mustBeSo 51 = .ok (.iastore, 1) := by decide +kernel
theorem dX13_mustBeSo_52 : decode cX13_mustBeSo 52 = .ok (.aload_n 0, 1) := by decide +kernel
theorem dX13_mustBeSo_53 : decode cX13_mustBeSo 53 = .ok (.getfield 270, 3) := by decide +kernel
theorem dX13_mustBeSo_56 : decode cX13_mustBeSo 56 = .ok (.aload_n 0, 1) := by decide +kernel
theorem dX13_mustBeSo_57 : decode cX13_mustBeSo 57 = .ok (.getfield 832, 3) := by decide +kernel
theorem dX13_mustBeSo_60 : decode cX13_mustBeSo 60 = .ok (.iload 6, 2) := by decide +kernel
theorem dX13_mustBeSo_62 : decode cX13_mustBeSo 62 = .ok (.iastore, 1) := by decide +kernel
theorem dX13_mustBeSo_63 : decode cX13_mustBeSo 63 = .ok (.aload_n 0, 1) := by decide +kernel
theorem dX13_mustBeSo_64 : decode cX13_mustBeSo 64 = .ok (.dup, 1) := by decide +kernel
theorem dX13_mustBeSo_65 : decode cX13_mustBeSo 65 = .ok (.getfield 832, 3) := by decide +kernel
theorem dX13_mustBeSo_68 : decode cX13_mustBeSo 68 = .ok (.iconst 1, 1) := by decide +kernel
theorem dX13_mustBeSo_69 : decode cX13_mustBeSo 69 = .ok (.iadd, 1) := by decide +kernel
theorem dX13_mustBeSo_70 : decode cX13_mustBeSo 70 = .ok (.putfield 832, 3) := by decide +kernel
theorem dX13_mustBeSo_73 : decode cX13_mustBeSo 73 = .ok (.return_, 1) := by decide +kernel
theorem dX13_columnOf_0 : decode cX13_columnOf 0 = .ok (.aload_n 0, 1) := by decide +kernel
theorem dX13_columnOf_1 : decode cX13_columnOf 1 = .ok (.getfield 285, 3) := by decide +kernel
theorem dX13_columnOf_4 : decode cX13_columnOf 4 = .ok (.iload_n 1, 1) := by decide +kernel
theorem dX13_columnOf_5 : decode cX13_columnOf 5 = .ok (.iaload, 1) := by decide +kernel
theorem dX13_columnOf_6 : decode cX13_columnOf 6 = .ok (.ifCond .lt 10, 3) := by decide +kernel
theorem dX13_columnOf_9 : decode cX13_columnOf 9 = .ok (.aload_n 0, 1) := by decide +kernel
theorem dX13_columnOf_10 : decode cX13_columnOf 10 = .ok (.getfield 285, 3) := by decide +kernel
theorem dX13_columnOf_13 : decode cX13_columnOf 13 = .ok (.iload_n 1, 1) := by decide +kernel
theorem dX13_columnOf_14 : decode cX13_columnOf 14 = .ok (.iaload, 1) := by decide +kernel
theorem dX13_columnOf_15 : decode cX13_columnOf 15 = .ok (.ireturn, 1) := by decide +kernel
theorem dX13_columnOf_16 : decode cX13_columnOf 16 = .ok (.aload_n 0, 1) := by decide +kernel
theorem dX13_columnOf_17 : decode cX13_columnOf 17 = .ok (.getfield 285, 3) := by decide +kernel
theorem dX13_columnOf_20 : decode cX13_columnOf 20 = .ok (.iload_n 1, 1) := by decide +kernel
theorem dX13_columnOf_21 : decode cX13_columnOf 21 = .ok (.aload_n 0, 1) := by decide +kernel
theorem dX13_columnOf_22 : decode cX13_columnOf 22 = .ok (.getfield 862, 3) := by decide +kernel
theorem dX13_columnOf_25 : decode cX13_columnOf 25 = .ok (.iastore, 1) := by decide +kernel
theorem dX13_columnOf_26 : decode cX13_columnOf 26 = .ok (.aload_n 0, 1) := by decide +kernel
theorem dX13_columnOf_27 : decode cX13_columnOf 27 = .ok (.getfield 288, 3) := by decide +kernel
theorem dX13_columnOf_30 : decode cX13_columnOf 30 = .ok (.aload_n 0, 1) := by decide +kernel
theorem dX13_columnOf_31 : decode cX13_columnOf 31 = .ok (.getfield 862, 3) := by decide +kernel
theorem dX13_columnOf_34 : decode cX13_columnOf 34 = .ok (.iload_n 1, 1) := by decide +kernel
theorem dX13_columnOf_35 : decode cX13_columnOf 35 = .ok (.iastore, 1) := by decide +kernel
theorem dX13_columnOf_36 : decode cX13_columnOf 36 = .ok (.aload_n 0, 1) := by decide +kernel
theorem dX13_columnOf_37 : decode cX13_columnOf 37 = .ok (.dup, 1) := by decide +kernel
theorem dX13_columnOf_38 : decode cX13_columnOf 38 = .ok (.getfield 862, 3) := by decide +kernel
theorem dX13_columnOf_41 : decode cX13_columnOf 41 = .ok (.iconst 1, 1) := by decide +kernel
theorem dX13_columnOf_42 : decode cX13_columnOf 42 = .ok (.iadd, 1) := by decide +kernel
theorem dX13_columnOf_43 : decode cX13_columnOf 43 = .ok (.putfield 862, 3) := by decide +kernel
theorem dX13_columnOf_46 : decode cX13_columnOf 46 = .ok (.aload_n 0, 1) := by decide +kernel
theorem dX13_columnOf_47 : decode cX13_columnOf 47 = .ok (.getfield 862, 3) := by decide +kernel
theorem dX13_columnOf_50 : decode cX13_columnOf 50 = .ok (.iconst 1, 1) := by decide +kernel
theorem dX13_columnOf_51 : decode cX13_columnOf 51 = .ok (.isub, 1) := by decide +kernel
theorem dX13_columnOf_52 : decode cX13_columnOf 52 = .ok (.ireturn, 1) := by decide +kernel
theorem dX13_downwards_0 : decode cX13_downwards 0 = .ok (.lload_n 0, 1) := by decide +kernel
theorem dX13_downwards_1 : decode cX13_downwards 1 = .ok (.lload_n 2, 1) := by decide +kernel
theorem dX13_downwards_2 : decode cX13_downwards 2 = .ok (.ldiv, 1) := by decide +kernel
theorem dX13_downwards_3 : decode cX13_downwards 3 = .ok (.lstore 4, 2) := by decide +kernel
theorem dX13_downwards_5 : decode cX13_downwards 5 = .ok (.lload_n 0, 1) := by decide +kernel
theorem dX13_downwards_6 : decode cX13_downwards 6 = .ok (.lload_n 2, 1) := by decide +kernel
theorem dX13_downwards_7 : decode cX13_downwards 7 = .ok (.lrem, 1) := by decide +kernel
theorem dX13_downwards_8 : decode cX13_downwards 8 = .ok (.lconst 0, 1) := by decide +kernel
theorem dX13_downwards_9 : decode cX13_downwards 9 = .ok (.lcmp, 1) := by decide +kernel
theorem dX13_downwards_10 : decode cX13_downwards 10 = .ok (.ifCond .eq 35, 3) := by decide +kernel
theorem dX13_downwards_13 : decode cX13_downwards 13 = .ok (.lload_n 0, 1) := by decide +kernel
theorem dX13_downwards_14 : decode cX13_downwards 14 = .ok (.lconst 0, 1) := by decide +kernel
theorem dX13_downwards_15 : decode cX13_downwards 15 = .ok (.lcmp, 1) := by decide +kernel
theorem dX13_downwards_16 : decode cX13_downwards 16 = .ok (.ifCond .ge 7, 3) := by decide +kernel
theorem dX13_downwards_19 : decode cX13_downwards 19 = .ok (.iconst 1, 1) := by decide +kernel
theorem dX13_downwards_20 : decode cX13_downwards 20 = .ok (.goto 4, 3) := by decide +kernel
theorem dX13_downwards_23 : decode cX13_downwards 23 = .ok (.iconst 0, 1) := by decide +kernel
theorem dX13_downwards_24 : decode cX13_downwards 24 = .ok (.lload_n 2, 1) := by decide +kernel
theorem dX13_downwards_25 : decode cX13_downwards 25 = .ok (.lconst 0, 1) := by decide +kernel
theorem dX13_downwards_26 : decode cX13_downwards 26 = .ok (.lcmp, 1) := by decide +kernel
theorem dX13_downwards_27 : decode cX13_downwards 27 = .ok (.ifCond .ge 7, 3) := by decide +kernel
theorem dX13_downwards_30 : decode cX13_downwards 30 = .ok (.iconst 1, 1) := by decide +kernel
theorem dX13_downwards_31 : decode cX13_downwards 31 = .ok (.goto 4, 3) := by decide +kernel
theorem dX13_downwards_34 : decode cX13_downwards 34 = .ok (.iconst 0, 1) := by decide +kernel
theorem dX13_downwards_35 : decode cX13_downwards 35 = .ok (.if_icmp .eq 10, 3) := by decide +kernel
theorem dX13_downwards_38 : decode cX13_downwards 38 = .ok (.lload 4, 2) := by decide +kernel
theorem dX13_downwards_40 : decode cX13_downwards 40 = .ok (.lconst 1, 1) := by decide +kernel
theorem dX13_downwards_41 : decode cX13_downwards 41 = .ok (.lsub, 1) := by decide +kernel
theorem dX13_downwards_42 : decode cX13_downwards 42 = .ok (.goto 5, 3) := by decide +kernel
theorem dX13_downwards_45 : decode cX13_downwards 45 = .ok (.lload 4, 2) := by decide +kernel
theorem dX13_downwards_47 : decode cX13_downwards 47 = .ok (.lreturn, 1) := by decide +kernel
theorem dX13_lower_0 : decode cX13_lower 0 = .ok (.lload 4, 2) := by decide +kernel
theorem dX13_lower_2 : decode cX13_lower 2 = .ok (.aload_n 1, 1) := by decide +kernel
theorem dX13_lower_3 : decode cX13_lower 3 = .ok (.sipush 160, 3) := by decide +kernel
theorem dX13_lower_6 : decode cX13_lower 6 = .ok (.iload_n 2, 1) := by decide +kernel
theorem dX13_lower_7 : decode cX13_lower 7 = .ok (.imul, 1) := by decide +kernel
theorem dX13_lower_8 : decode cX13_lower 8 = .ok (.iload_n 3, 1) := by decide +kernel
theorem dX13_lower_9 : decode cX13_lower 9 = .ok (.iadd, 1) := by decide +kernel
theorem dX13_lower_10 : decode cX13_lower 10 = .ok (.laload, 1) := by decide +kernel
theorem dX13_lower_11 : decode cX13_lower 11 = .ok (.lcmp, 1) := by decide +kernel
theorem dX13_lower_12 : decode cX13_lower 12 = .ok (.ifCond .ge 14, 3) := by decide +kernel
theorem dX13_lower_15 : decode cX13_lower 15 = .ok (.aload_n 1, 1) := by decide +kernel
theorem dX13_lower_16 : decode cX13_lower 16 = .ok (.sipush 160, 3) := by decide +kernel
theorem dX13_lower_19 : decode cX13_lower 19 = .ok (.iload_n 2, 1) := by decide +kernel
theorem dX13_lower_20 : decode cX13_lower 20 = .ok (.imul, 1) := by decide +kernel
theorem dX13_lower_21 : decode cX13_lower 21 = .ok (.iload_n 3, 1) := by decide +kernel
theorem dX13_lower_22 : decode cX13_lower 22 = .ok (.iadd, 1) := by decide +kernel
theorem dX13_lower_23 : decode cX13_lower 23 = .ok (.lload 4, 2) := by decide +kernel
theorem dX13_lower_25 : decode cX13_lower 25 = .ok (.lastore, 1) := by decide +kernel
theorem dX13_lower_26 : decode cX13_lower 26 = .ok (.return_, 1) := by decide +kernel
theorem dX13_way_0 : decode cX13_way 0 = .ok (.aload_n 0, 1) := by decide +kernel
theorem dX13_way_1 : decode cX13_way 1 = .ok (.getfield 297, 3) := by decide +kernel
theorem dX13_way_4 : decode cX13_way 4 = .ok (.aload_n 0, 1) := by decide +kernel
theorem dX13_way_5 : decode cX13_way 5 = .ok (.getfield 909, 3) := by decide +kernel
theorem dX13_way_8 : decode cX13_way 8 = .ok (.iload_n 1, 1) := by decide +kernel
theorem dX13_way_9 : decode cX13_way 9 = .ok (.iastore, 1) := by decide +kernel
theorem dX13_way_10 : decode cX13_way 10 = .ok (.aload_n 0, 1) := by decide +kernel
theorem dX13_way_11 : decode cX13_way 11 = .ok (.getfield 300, 3) := by decide +kernel
theorem dX13_way_14 : decode cX13_way 14 = .ok (.aload_n 0, 1) := by decide +kernel
theorem dX13_way_15 : decode cX13_way 15 = .ok (.getfield 909, 3) := by decide +kernel
theorem dX13_way_18 : decode cX13_way 18 = .ok (.iload_n 2, 1) := by decide +kernel
theorem dX13_way_19 : decode cX13_way 19 = .ok (.iastore, 1) := by decide +kernel
theorem dX13_way_20 : decode cX13_way 20 = .ok (.aload_n 0, 1) := by decide +kernel
theorem dX13_way_21 : decode cX13_way 21 = .ok (.getfield 303, 3) := by decide +kernel
theorem dX13_way_24 : decode cX13_way 24 = .ok (.aload_n 0, 1) := by decide +kernel
theorem dX13_way_25 : decode cX13_way 25 = .ok (.getfield 909, 3) := by decide +kernel
theorem dX13_way_28 : decode cX13_way 28 = .ok (.iload_n 3, 1) := by decide +kernel
theorem dX13_way_29 : decode cX13_way 29 = .ok (.iastore, 1) := by decide +kernel
theorem dX13_way_30 : decode cX13_way 30 = .ok (.aload_n 0, 1) := by decide +kernel
theorem dX13_way_31 : decode cX13_way 31 = .ok (.getfield 306, 3) := by decide +kernel
theorem dX13_way_34 : decode cX13_way 34 = .ok (.aload_n 0, 1) := by decide +kernel
theorem dX13_way_35 : decode cX13_way 35 = .ok (.getfield 909, 3) := by decide +kernel
theorem dX13_way_38 : decode cX13_way 38 = .ok (.iload 4, 2) := by decide +kernel
theorem dX13_way_40 : decode cX13_way 40 = .ok (.iastore, 1) := by decide +kernel
theorem dX13_way_41 : decode cX13_way 41 = .ok (.aload_n 0, 1) := by decide +kernel
theorem dX13_way_42 : decode cX13_way 42 = .ok (.getfield 315, 3) := by decide +kernel
theorem dX13_way_45 : decode cX13_way 45 = .ok (.aload_n 0, 1) := by decide +kernel
theorem dX13_way_46 : decode cX13_way 46 = .ok (.getfield 909, 3) := by decide +kernel
theorem dX13_way_49 : decode cX13_way 49 = .ok (.lload 5, 2) := by decide +kernel
theorem dX13_way_51 : decode cX13_way 51 = .ok (.lastore, 1) := by decide +kernel
theorem dX13_way_52 : decode cX13_way 52 = .ok (.aload_n 0, 1) := by decide +kernel
theorem dX13_way_53 : decode cX13_way 53 = .ok (.dup, 1) := by decide +kernel
theorem dX13_way_54 : decode cX13_way 54 = .ok (.getfield 909, 3) := by decide +kernel
theorem dX13_way_57 : decode cX13_way 57 = .ok (.iconst 1, 1) := by decide +kernel
theorem dX13_way_58 : decode cX13_way 58 = .ok (.iadd, 1) := by decide +kernel
theorem dX13_way_59 : decode cX13_way 59 = .ok (.putfield 909, 3) := by decide +kernel
theorem dX13_way_62 : decode cX13_way 62 = .ok (.return_, 1) := by decide +kernel
theorem dX13_open_0 : decode cX13_open 0 = .ok (.aload_n 0, 1) := by decide +kernel
theorem dX13_open_1 : decode cX13_open 1 = .ok (.getfield 291, 3) := by decide +kernel
theorem dX13_open_4 : decode cX13_open 4 = .ok (.aload_n 0, 1) := by decide +kernel
theorem dX13_open_5 : decode cX13_open 5 = .ok (.getfield 916, 3) := by decide +kernel
theorem dX13_open_8 : decode cX13_open 8 = .ok (.iload_n 1, 1) := by decide +kernel
theorem dX13_open_9 : decode cX13_open 9 = .ok (.iastore, 1) := by decide +kernel
theorem dX13_open_10 : decode cX13_open 10 = .ok (.aload_n 0, 1) := by decide +kernel
theorem dX13_open_11 : decode cX13_open 11 = .ok (.getfield 294, 3) := by decide +kernel
theorem dX13_open_14 : decode cX13_open 14 = .ok (.aload_n 0, 1) := by decide +kernel
theorem dX13_open_15 : decode cX13_open 15 = .ok (.getfield 916, 3) := by decide +kernel
theorem dX13_open_18 : decode cX13_open 18 = .ok (.iload_n 2, 1) := by decide +kernel
theorem dX13_open_19 : decode cX13_open 19 = .ok (.ifCond .eq 7, 3) := by decide +kernel
theorem dX13_open_22 : decode cX13_open 22 = .ok (.iconst 1, 1) := by decide +kernel
theorem dX13_open_23 : decode cX13_open 23 = .ok (.goto 4, 3) := by decide +kernel
theorem dX13_open_26 : decode cX13_open 26 = .ok (.iconst 0, 1) := by decide +kernel
theorem dX13_open_27 : decode cX13_open 27 = .ok (.iastore, 1) := by decide +kernel
theorem dX13_open_28 : decode cX13_open 28 = .ok (.aload_n 0, 1) := by decide +kernel
theorem dX13_open_29 : decode cX13_open 29 = .ok (.dup, 1) := by decide +kernel
theorem dX13_open_30 : decode cX13_open 30 = .ok (.getfield 916, 3) := by decide +kernel
theorem dX13_open_33 : decode cX13_open 33 = .ok (.iconst 1, 1) := by decide +kernel
theorem dX13_open_34 : decode cX13_open 34 = .ok (.iadd, 1) := by decide +kernel
theorem dX13_open_35 : decode cX13_open 35 = .ok (.putfield 916, 3) := by decide +kernel
theorem dX13_open_38 : decode cX13_open 38 = .ok (.return_, 1) := by decide +kernel
theorem dX13_say_0 : decode cX13_say 0 = .ok (.aload_n 0, 1) := by decide +kernel
theorem dX13_say_1 : decode cX13_say 1 = .ok (.getfield 989, 3) := by decide +kernel
theorem dX13_say_4 : decode cX13_say 4 = .ok (.sipush 16000, 3) := by decide +kernel
theorem dX13_say_7 : decode cX13_say 7 = .ok (.if_icmp .ge 14, 3) := by decide +kernel
theorem dX13_say_10 : decode cX13_say 10 = .ok (.aload_n 0, 1) := by decide +kernel
theorem dX13_say_11 : decode cX13_say 11 = .ok (.getfield 321, 3) := by decide +kernel
theorem dX13_say_14 : decode cX13_say 14 = .ok (.aload_n 0, 1) := by decide +kernel
theorem dX13_say_15 : decode cX13_say 15 = .ok (.getfield 989, 3) := by decide +kernel
theorem dX13_say_18 : decode cX13_say 18 = .ok (.iload_n 1, 1) := by decide +kernel
theorem dX13_say_19 : decode cX13_say 19 = .ok (.i2b, 1) := by decide +kernel
theorem dX13_say_20 : decode cX13_say 20 = .ok (.bastore, 1) := by decide +kernel
theorem dX13_say_21 : decode cX13_say 21 = .ok (.aload_n 0, 1) := by decide +kernel
theorem dX13_say_22 : decode cX13_say 22 = .ok (.dup, 1) := by decide +kernel
theorem dX13_say_23 : decode cX13_say 23 = .ok (.getfield 989, 3) := by decide +kernel
theorem dX13_say_26 : decode cX13_say 26 = .ok (.iconst 1, 1) := by decide +kernel
theorem dX13_say_27 : decode cX13_say 27 = .ok (.iadd, 1) := by decide +kernel
theorem dX13_say_28 : decode cX13_say 28 = .ok (.putfield 989, 3) := by decide +kernel
theorem dX13_say_31 : decode cX13_say 31 = .ok (.return_, 1) := by decide +kernel
theorem dX13_slot_0 : decode cX13_slot 0 = .ok (.aload_n 0, 1) := by decide +kernel
theorem dX13_slot_1 : decode cX13_slot 1 = .ok (.getfield 334, 3) := by decide +kernel
theorem dX13_slot_4 : decode cX13_slot 4 = .ok (.aload_n 0, 1) := by decide +kernel
theorem dX13_slot_5 : decode cX13_slot 5 = .ok (.getfield 1024, 3) := by decide +kernel
theorem dX13_slot_8 : decode cX13_slot 8 = .ok (.iload_n 2, 1) := by decide +kernel
theorem dX13_slot_9 : decode cX13_slot 9 = .ok (.iastore, 1) := by decide +kernel
theorem dX13_slot_10 : decode cX13_slot 10 = .ok (.aload_n 0, 1) := by decide +kernel
theorem dX13_slot_11 : decode cX13_slot 11 = .ok (.getfield 337, 3) := by decide +kernel
theorem dX13_slot_14 : decode cX13_slot 14 = .ok (.aload_n 0, 1) := by decide +kernel
theorem dX13_slot_15 : decode cX13_slot 15 = .ok (.getfield 1024, 3) := by decide +kernel
theorem dX13_slot_18 : decode cX13_slot 18 = .ok (.iload_n 3, 1) := by decide +kernel
theorem dX13_slot_19 : decode cX13_slot 19 = .ok (.iastore, 1) := by decide +kernel
theorem dX13_slot_20 : decode cX13_slot 20 = .ok (.aload_n 0, 1) := by decide +kernel
theorem dX13_slot_21 : decode cX13_slot 21 = .ok (.getfield 343, 3) := by decide +kernel
theorem dX13_slot_24 : decode cX13_slot 24 = .ok (.aload_n 0, 1) := by decide +kernel
theorem dX13_slot_25 : decode cX13_slot 25 = .ok (.getfield 1024, 3) := by decide +kernel
theorem dX13_slot_28 : decode cX13_slot 28 = .ok (.lload 4, 2) := by decide +kernel
theorem dX13_slot_30 : decode cX13_slot 30 = .ok (.lastore, 1) := by decide +kernel
theorem dX13_slot_31 : decode cX13_slot 31 = .ok (.aload_n 0, 1) := by decide +kernel
theorem dX13_slot_32 : decode cX13_slot 32 = .ok (.getfield 340, 3) := by decide +kernel
theorem dX13_slot_35 : decode cX13_slot 35 = .ok (.aload_n 0, 1) := by decide +kernel
theorem dX13_slot_36 : decode cX13_slot 36 = .ok (.getfield 1024, 3) := by decide +kernel
theorem dX13_slot_39 : decode cX13_slot 39 = .ok (.iload_n 1, 1) := by decide +kernel
theorem dX13_slot_40 : decode cX13_slot 40 = .ok (.iastore, 1) := by decide +kernel
theorem dX13_slot_41 : decode cX13_slot 41 = .ok (.aload_n 0, 1) := by decide +kernel
theorem dX13_slot_42 : decode cX13_slot 42 = .ok (.dup, 1) := by decide +kernel
theorem dX13_slot_43 : decode cX13_slot 43 = .ok (.getfield 1024, 3) := by decide +kernel
theorem dX13_slot_46 : decode cX13_slot 46 = .ok (.iconst 1, 1) := by decide +kernel
theorem dX13_slot_47 : decode cX13_slot 47 = .ok (.iadd, 1) := by decide +kernel
theorem dX13_slot_48 : decode cX13_slot 48 = .ok (.putfield 1024, 3) := by decide +kernel
theorem dX13_slot_51 : decode cX13_slot 51 = .ok (.aload_n 0, 1) := by decide +kernel
theorem dX13_slot_52 : decode cX13_slot 52 = .ok (.getfield 1024, 3) := by decide +kernel
theorem dX13_slot_55 : decode cX13_slot 55 = .ok (.iconst 1, 1) := by decide +kernel
theorem dX13_slot_56 : decode cX13_slot 56 = .ok (.isub, 1) := by decide +kernel
theorem dX13_slot_57 : decode cX13_slot 57 = .ok (.ireturn, 1) := by decide +kernel
theorem dX13_bounded_0 : decode cX13_bounded 0 = .ok (.lload_n 1, 1) := by decide +kernel
theorem dX13_bounded_1 : decode cX13_bounded 1 = .ok (.ldc2_w 1027, 3) := by decide +kernel
theorem dX13_bounded_4 : decode cX13_bounded 4 = .ok (.lcmp, 1) := by decide +kernel
theorem dX13_bounded_5 : decode cX13_bounded 5 = .ok (.ifCond .gt 11, 3) := by decide +kernel
theorem dX13_bounded_8 : decode cX13_bounded 8 = .ok (.lload_n 1, 1) := by decide +kernel
theorem dX13_bounded_9 : decode cX13_bounded 9 = .ok (.ldc2_w 1029, 3) := by decide +kernel
theorem dX13_bounded_12 : decode cX13_bounded 12 = .ok (.lcmp, 1) := by decide +kernel
theorem dX13_bounded_13 : decode cX13_bounded 13 = .ok (.ifCond .ge 15, 3) := by decide +kernel
theorem dX13_bounded_16 : decode cX13_bounded 16 = .ok (.aload_n 0, 1) := by decide +kernel
theorem dX13_bounded_17 : decode cX13_bounded 17 = .ok (.getfield 1031, 3) := by decide +kernel
theorem dX13_bounded_20 : decode cX13_bounded 20 = .ok (.ifCond .ne 8, 3) := by decide +kernel
theorem dX13_bounded_23 : decode cX13_bounded 23 = .ok (.aload_n 0, 1) := by decide +kernel
theorem dX13_bounded_24 : decode cX13_bounded 24 = .ok (.iconst 2, 1) := by decide +kernel
theorem dX13_bounded_25 : decode cX13_bounded 25 = .ok (.putfield 1031, 3) := by decide +kernel
theorem dX13_bounded_28 : decode cX13_bounded 28 = .ok (.lload_n 1, 1) := by decide +kernel
theorem dX13_bounded_29 : decode cX13_bounded 29 = .ok (.lreturn, 1) := by decide +kernel
theorem dX13_sizeOf_0 : decode cX13_sizeOf 0 = .ok (.iload_n 1, 1) := by decide +kernel
theorem dX13_sizeOf_1 : decode cX13_sizeOf 1 = .ok (.ifCond .ge 7, 3) := by decide +kernel
theorem dX13_sizeOf_4 : decode cX13_sizeOf 4 = .ok (.iconst 0, 1) := by decide +kernel
theorem dX13_sizeOf_5 : decode cX13_sizeOf 5 = .ok (.goto 9, 3) := by decide +kernel
theorem dX13_sizeOf_8 : decode cX13_sizeOf 8 = .ok (.aload_n 0, 1) := by decide +kernel
theorem dX13_sizeOf_9 : decode cX13_sizeOf 9 = .ok (.getfield 383, 3) := by decide +kernel
theorem dX13_sizeOf_12 : decode cX13_sizeOf 12 = .ok (.iload_n 1, 1) := by decide +kernel
theorem dX13_sizeOf_13 : decode cX13_sizeOf 13 = .ok (.iaload, 1) := by decide +kernel
theorem dX13_sizeOf_14 : decode cX13_sizeOf 14 = .ok (.ireturn, 1) := by decide +kernel
theorem dX13_function_0 : decode cX13_function 0 = .ok (.aload_n 0, 1) := by decide +kernel
theorem dX13_function_1 : decode cX13_function 1 = .ok (.getfield 347, 3) := by decide +kernel
theorem dX13_function_4 : decode cX13_function 4 = .ok (.aload_n 0, 1) := by decide +kernel
theorem dX13_function_5 : decode cX13_function 5 = .ok (.getfield 1067, 3) := by decide +kernel
theorem dX13_function_8 : decode cX13_function 8 = .ok (.iload_n 1, 1) := by decide +kernel
theorem dX13_function_9 : decode cX13_function 9 = .ok (.iastore, 1) := by decide +kernel
theorem dX13_function_10 : decode cX13_function 10 = .ok (.aload_n 0, 1) := by decide +kernel
theorem dX13_function_11 : decode cX13_function 11 = .ok (.getfield 350, 3) := by decide +kernel
theorem dX13_function_14 : decode cX13_function 14 = .ok (.aload_n 0, 1) := by decide +kernel
theorem dX13_function_15 : decode cX13_function 15 = .ok (.getfield 1067, 3) := by decide +kernel
theorem dX13_function_18 : decode cX13_function 18 = .ok (.iload_n 2, 1) := by decide +kernel
theorem dX13_function_19 : decode cX13_function 19 = .ok (.iastore, 1) := by decide +kernel
theorem dX13_function_20 : decode cX13_function 20 = .ok (.aload_n 0, 1) := by decide +kernel
theorem dX13_function_21 : decode cX13_function 21 = .ok (.getfield 353, 3) := by decide +kernel
theorem dX13_function_24 : decode cX13_function 24 = .ok (.aload_n 0, 1) := by decide +kernel
theorem dX13_function_25 : decode cX13_function 25 = .ok (.getfield 1067, 3) := by decide +kernel
theorem dX13_function_28 : decode cX13_function 28 = .ok (.iconst (-1), 1) := by decide +kernel
theorem dX13_function_29 : decode cX13_function 29 = .ok (.iastore, 1) := by decide +kernel
theorem dX13_function_30 : decode cX13_function 30 = .ok (.aload_n 0, 1) := by decide +kernel
theorem dX13_function_31 : decode cX13_function 31 = .ok (.getfield 356, 3) := by decide +kernel
theorem dX13_function_34 : decode cX13_function 34 = .ok (.aload_n 0, 1) := by decide +kernel
theorem dX13_function_35 : decode cX13_function 35 = .ok (.getfield 1067, 3) := by decide +kernel
theorem dX13_function_38 : decode cX13_function 38 = .ok (.iconst 0, 1) := by decide +kernel
theorem dX13_function_39 : decode cX13_function 39 = .ok (.iastore, 1) := by decide +kernel
theorem dX13_function_40 : decode cX13_function 40 = .ok (.aload_n 0, 1) := by decide +kernel
theorem dX13_function_41 : decode cX13_function 41 = .ok (.dup, 1) := by decide +kernel
theorem dX13_function_42 : decode cX13_function 42 = .ok (.getfield 1067, 3) := by decide +kernel
theorem dX13_function_45 : decode cX13_function 45 = .ok (.iconst 1, 1) := by decide +kernel
theorem dX13_function_46 : decode cX13_function 46 = .ok (.iadd, 1) := by decide +kernel
theorem dX13_function_47 : decode cX13_function 47 = .ok (.putfield 1067, 3) := by decide +kernel
theorem dX13_function_50 : decode cX13_function 50 = .ok (.aload_n 0, 1) := by decide +kernel
theorem dX13_function_51 : decode cX13_function 51 = .ok (.getfield 1067, 3) := by decide +kernel
theorem dX13_function_54 : decode cX13_function 54 = .ok (.iconst 1, 1) := by decide +kernel
theorem dX13_function_55 : decode cX13_function 55 = .ok (.isub, 1) := by decide +kernel
theorem dX13_function_56 : decode cX13_function 56 = .ok (.ireturn, 1) := by decide +kernel
theorem dX13_todo_0 : decode cX13_todo 0 = .ok (.aload_n 0, 1) := by decide +kernel
theorem dX13_todo_1 : decode cX13_todo 1 = .ok (.getfield 368, 3) := by decide +kernel
theorem dX13_todo_4 : decode cX13_todo 4 = .ok (.aload_n 0, 1) := by decide +kernel
theorem dX13_todo_5 : decode cX13_todo 5 = .ok (.getfield 1070, 3) := by decide +kernel
theorem dX13_todo_8 : decode cX13_todo 8 = .ok (.iload_n 1, 1) := by decide +kernel
theorem dX13_todo_9 : decode cX13_todo 9 = .ok (.iastore, 1) := by decide +kernel
theorem dX13_todo_10 : decode cX13_todo 10 = .ok (.aload_n 0, 1) := by decide +kernel
theorem dX13_todo_11 : decode cX13_todo 11 = .ok (.getfield 371, 3) := by decide +kernel
theorem dX13_todo_14 : decode cX13_todo 14 = .ok (.aload_n 0, 1) := by decide +kernel
theorem dX13_todo_15 : decode cX13_todo 15 = .ok (.getfield 1070, 3) := by decide +kernel
theorem dX13_todo_18 : decode cX13_todo 18 = .ok (.iload_n 2, 1) := by decide +kernel
theorem dX13_todo_19 : decode cX13_todo 19 = .ok (.iastore, 1) := by decide +kernel
theorem dX13_todo_20 : decode cX13_todo 20 = .ok (.aload_n 0, 1) := by decide +kernel
theorem dX13_todo_21 : decode cX13_todo 21 = .ok (.getfield 374, 3) := by decide +kernel
theorem dX13_todo_24 : decode cX13_todo 24 = .ok (.aload_n 0, 1) := by decide +kernel
theorem dX13_todo_25 : decode cX13_todo 25 = .ok (.getfield 1070, 3) := by decide +kernel
theorem dX13_todo_28 : decode cX13_todo 28 = .ok (.iload_n 3, 1) := by decide +kernel
theorem dX13_todo_29 : decode cX13_todo 29 = .ok (.iastore, 1) := by decide +kernel
theorem dX13_todo_30 : decode cX13_todo 30 = .ok (.aload_n 0, 1) := by decide +kernel
theorem dX13_todo_31 : decode cX13_todo 31 = .ok (.dup, 1) := by decide +kernel
theorem dX13_todo_32 : decode cX13_todo 32 = .ok (.getfield 1070, 3) := by decide +kernel
theorem dX13_todo_35 : decode cX13_todo 35 = .ok (.iconst 1, 1) := by decide +kernel
theorem dX13_todo_36 : decode cX13_todo 36 = .ok (.iadd, 1) := by decide +kernel
theorem dX13_todo_37 : decode cX13_todo 37 = .ok (.putfield 1070, 3) := by decide +kernel
theorem dX13_todo_40 : decode cX13_todo 40 = .ok (.return_, 1) := by decide +kernel
theorem dX13_product_0 : decode cX13_product 0 = .ok (.lload_n 0, 1) := by decide +kernel
theorem dX13_product_1 : decode cX13_product 1 = .ok (.lconst 0, 1) := by decide +kernel
theorem dX13_product_2 : decode cX13_product 2 = .ok (.lcmp, 1) := by decide +kernel
theorem dX13_product_3 : decode cX13_product 3 = .ok (.ifCond .eq 9, 3) := by decide +kernel
theorem dX13_product_6 : decode cX13_product 6 = .ok (.lload_n 2, 1) := by decide +kernel
theorem dX13_product_7 : decode cX13_product 7 = .ok (.lconst 0, 1) := by decide +kernel
theorem dX13_product_8 : decode cX13_product 8 = .ok (.lcmp, 1) := by decide +kernel
theorem dX13_product_9 : decode cX13_product 9 = .ok (.ifCond .ne 5, 3) := by decide +kernel
theorem dX13_product_12 : decode cX13_product 12 = .ok (.lconst 0, 1) := by decide +kernel
theorem dX13_product_13 : decode cX13_product 13 = .ok (.lreturn, 1) := by decide +kernel
theorem dX13_product_14 : decode cX13_product 14 = .ok (.lload_n 0, 1) := by decide +kernel
theorem dX13_product_15 : decode cX13_product 15 = .ok (.lconst 0, 1) := by decide +kernel
theorem dX13_product_16 : decode cX13_product 16 = .ok (.lcmp, 1) := by decide +kernel
theorem dX13_product_17 : decode cX13_product 17 = .ok (.ifCond .ge 8, 3) := by decide +kernel
theorem dX13_product_20 : decode cX13_product 20 = .ok (.lload_n 0, 1) := by decide +kernel
theorem dX13_product_21 : decode cX13_product 21 = .ok (.lneg, 1) := by decide +kernel
theorem dX13_product_22 : decode cX13_product 22 = .ok (.goto 4, 3) := by decide +kernel
theorem dX13_product_25 : decode cX13_product 25 = .ok (.lload_n 0, 1) := by decide +kernel
theorem dX13_product_26 : decode cX13_product 26 = .ok (.lstore 4, 2) := by decide +kernel
theorem dX13_product_28 : decode cX13_product 28 = .ok (.lload_n 2, 1) := by decide +kernel
theorem dX13_product_29 : decode cX13_product 29 = .ok (.lconst 0, 1) := by decide +kernel
theorem dX13_product_30 : decode cX13_product 30 = .ok (.lcmp, 1) := by decide +kernel
theorem dX13_product_31 : decode cX13_product 31 = .ok (.ifCond .ge 8, 3) := by decide +kernel
theorem dX13_product_34 : decode cX13_product 34 = .ok (.lload_n 2, 1) := by decide +kernel
theorem dX13_product_35 : decode cX13_product 35 = .ok (.lneg, 1) := by decide +kernel
theorem dX13_product_36 : decode cX13_product 36 = .ok (.goto 4, 3) := by decide +kernel
theorem dX13_product_39 : decode cX13_product 39 = .ok (.lload_n 2, 1) := by decide +kernel
theorem dX13_product_40 : decode cX13_product 40 = .ok (.lstore 6, 2) := by decide +kernel
theorem dX13_product_42 : decode cX13_product 42 = .ok (.lload_n 0, 1) := by decide +kernel
theorem dX13_product_43 : decode cX13_product 43 = .ok (.lconst 0, 1) := by decide +kernel
theorem dX13_product_44 : decode cX13_product 44 = .ok (.lcmp, 1) := by decide +kernel
theorem dX13_product_45 : decode cX13_product 45 = .ok (.ifCond .ge 7, 3) := by decide +kernel
theorem dX13_product_48 : decode cX13_product 48 = .ok (.iconst 1, 1) := by decide +kernel
theorem dX13_product_49 : decode cX13_product 49 = .ok (.goto 4, 3) := by decide +kernel
theorem dX13_product_52 : decode cX13_product 52 = .ok (.iconst 0, 1) := by decide +kernel
theorem dX13_product_53 : decode cX13_product 53 = .ok (.lload_n 2, 1) := by decide +kernel
theorem dX13_product_54 : decode cX13_product 54 = .ok (.lconst 0, 1) := by decide +kernel
theorem dX13_product_55 : decode cX13_product 55 = .ok (.lcmp, 1) := by decide +kernel
theorem dX13_product_56 : decode cX13_product 56 = .ok (.ifCond .ge 7, 3) := by decide +kernel
theorem dX13_product_59 : decode cX13_product 59 = .ok (.iconst 1, 1) := by decide +kernel
theorem dX13_product_60 : decode cX13_product 60 = .ok (.goto 4, 3) := by decide +kernel
theorem dX13_product_63 : decode cX13_product 63 = .ok (.iconst 0, 1) := by decide +kernel
theorem dX13_product_64 : decode cX13_product 64 = .ok (.if_icmp .eq 7, 3) := by decide +kernel
theorem dX13_product_67 : decode cX13_product 67 = .ok (.iconst 1, 1) := by decide +kernel
theorem dX13_product_68 : decode cX13_product 68 = .ok (.goto 4, 3) := by decide +kernel
theorem dX13_product_71 : decode cX13_product 71 = .ok (.iconst 0, 1) := by decide +kernel
theorem dX13_product_72 : decode cX13_product 72 = .ok (.istore 8, 2) := by decide +kernel
theorem dX13_product_74 : decode cX13_product 74 = .ok (.lload 4, 2) := by decide +kernel
theorem dX13_product_76 : decode cX13_product 76 = .ok (.ldc2_w 1128, 3) := by decide +kernel
theorem dX13_product_79 : decode cX13_product 79 = .ok (.lload 6, 2) := by decide +kernel
theorem dX13_product_81 : decode cX13_product 81 = .ok (.ldiv, 1) := by decide +kernel
theorem dX13_product_82 : decode cX13_product 82 = .ok (.lcmp, 1) := by decide +kernel
theorem dX13_product_83 : decode cX13_product 83 = .ok (.ifCond .le 18, 3) := by decide +kernel
theorem dX13_product_86 : decode cX13_product 86 = .ok (.iload 8, 2) := by decide +kernel
theorem dX13_product_88 : decode cX13_product 88 = .ok (.ifCond .eq 9, 3) := by decide +kernel
theorem dX13_product_91 : decode cX13_product 91 = .ok (.ldc2_w 1130, 3) := by decide +kernel
theorem dX13_product_94 : decode cX13_product 94 = .ok (.goto 6, 3) := by decide +kernel
theorem dX13_product_97 : decode cX13_product 97 = .ok (.ldc2_w 1132, 3) := by decide +kernel
theorem dX13_product_100 : decode cX13_product 100 = .ok (.lreturn, 1) := by decide +kernel
theorem dX13_product_101 : decode cX13_product 101 = .ok (.lload_n 0, 1) := by decide +kernel
theorem dX13_product_102 : decode cX13_product 102 = .ok (.lload_n 2, 1) := by decide +kernel
theorem dX13_product_103 : decode cX13_product 103 = .ok (.lmul, 1) := by decide +kernel
theorem dX13_product_104 : decode cX13_product 104 = .ok (.lreturn, 1) := by decide +kernel
