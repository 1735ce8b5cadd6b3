def wsX7_fail : List Cond := .code yX7_fail cX7_fail 1 none :: ([.fieldLink RX7 40 "LiquidTongue$Parser" "fault" "I", .methodLink RX7 95 yX7_here, .instanceMethod yX7_here, .selects RX7 yX7_here yX7_here, .initialized RX7, .code yX7_here cX7_here 1 (some .int), .fieldLink RX7 50 "LiquidTongue$Parser" "words" "LLiquidTongue$Words;", .fieldLink RX7 89 "LiquidTongue$Words" "places" "[I", .fieldLink RX7 86 "LiquidTongue$Parser" "at" "I"] ++ wsX70 ++ wsX110)
def wsX13_form : List Cond := .code yX13_form cX13_form 1 none :: ([.fieldLink RX13 23 "LiquidTongueModel" "wAt" "[I", .fieldLink RX13 433 "LiquidTongueModel" "w" "I", .methodLink RX13 422 yX13_fault, .instanceMethod yX13_fault, .selects RX13 yX13_fault yX13_fault, .initialized RX13, .code yX13_fault cX13_fault 3 none, .fieldLink RX13 392 "LiquidTongueModel" "bad" "I", .fieldLink RX13 395 "LiquidTongueModel" "badAt" "I"] ++ wsX130)
set_option maxRecDepth 20000 in
theorem ggX7_fail_X7_here : GoodIn wsX7_fail wsX7_here := goodIn_r _ [6, 7, 8, 9, 10, 11, 12, 13, 14, 15, 16, 17, 18, 19, 20, 21, 22, 23, 24, 25, 26, 27, 28, 29, 30, 31, 32, 33] (by decide +kernel) (by decide +kernel)
set_option maxRecDepth 20000 in
theorem gX7_fail_X7_here : GoodIn wsX7_fail (wsV RX7 95 RX7 yX7_here wsX7_here) := goodIn_app (goodIn_of _ (by decide +kernel)) ggX7_fail_X7_here
theorem dX7_fail_0 : decode cX7_fail 0 = .ok (.aload_n 0, 1) := by decide +kernel
theorem dX7_fail_1 : decode cX7_fail 1 = .ok (.getfield 40, 3) := by decide +kernel
theorem dX7_fail_4 : decode cX7_fail 4 = .ok (.ifCond .ge 11, 3) := by decide +kernel
theorem dX7_fail_7 : decode cX7_fail 7 = .ok (.aload_n 0, 1) := by decide +kernel
theorem dX7_fail_8 : decode cX7_fail 8 = .ok (.aload_n 0, 1) := by decide +kernel
theorem dX7_fail_9 : decode cX7_fail 9 = .ok (.invokevirtual 95, 3) := by decide +kernel
theorem dX7_fail_12 : decode cX7_fail 12 = .ok (.putfield 40, 3) := by decide +kernel
theorem dX7_fail_15 : decode cX7_fail 15 = .ok (.return_, 1) := by decide +kernel
set_option maxRecDepth 20000 in
theorem ggX13_form_X13_fault : GoodIn wsX13_form wsX13_fault := goodIn_r _ [7, 8, 9, 10, 11, 12, 13, 14, 15, 16, 17, 18, 19, 20, 21, 22, 23, 24, 25, 26, 27, 28, 29, 30, 31, 32, 33, 34, 35, 36, 37, 38, 39, 40, 41, 42, 43, 44, 45, 46, 47, 48, 49, 50, 51, 52, 53, 54, 55, 56, 57, 58, 59, 60, 61, 62, 63, 64, 65, 66, 67, 68, 69, 70, 71, 72, 73, 74, 75, 76, 77, 78, 79, 80, 81, 82, 83, 84, 85, 86, 87, 88, 89, 90, 91, 92, 93, 94, 95, 96, 97, 98, 99, 100, 101, 102, 103, 104, 105, 106, 107, 108, 109, 110, 111, 112, 113, 114, 115, 116, 117, 118, 119, 120, 121, 122, 123, 124, 125, 126, 127, 128, 129, 130, 131, 132, 133, 134, 135, 136, 137, 138, 139, 140, 141, 142, 143, 144, 145, 146, 147, 148, 149, 150, 151, 152, 153, 154, 155, 156, 157, 158, 159, 160, 161, 162, 163, 164, 165, 166, 167, 168, 169, 170, 171, 172, 173, 174, 175, 176, 177, 178, 179, 180, 181, 182, 183, 184, 185, 186, 187, 188, 189, 190, 191, 192, 193, 194, 195, 196, 197, 198, 199, 200, 201, 202, 203, 204, 205] (by decide +kernel) (by decide +kernel)
set_option maxRecDepth 20000 in
theorem gX13_form_X13_fault : GoodIn wsX13_form (wsV RX13 422 RX13 yX13_fault wsX13_fault) := goodIn_app (goodIn_of _ (by decide +kernel)) ggX13_form_X13_fault
theorem dX13_form_0 : decode cX13_form 0 = .ok (.aload_n 0, 1) := by decide +kernel
theorem dX13_form_1 : decode cX13_form 1 = .ok (.iconst 2, 1) := by decide +kernel
theorem dX13_form_2 : decode cX13_form 2 = .ok (.aload_n 0, 1) := by decide +kernel
theorem dX13_form_3 : decode cX13_form 3 = .ok (.getfield 23, 3) := by decide +kernel
theorem dX13_form_6 : decode cX13_form 6 = .ok (.aload_n 0, 1) := by decide +kernel
theorem dX13_form_7 : decode cX13_form 7 = .ok (.getfield 433, 3) := by decide +kernel
theorem dX13_form_10 : decode cX13_form 10 = .ok (.iaload, 1) := by decide +kernel
theorem dX13_form_11 : decode cX13_form 11 = .ok (.invokevirtual 422, 3) := by decide +kernel
theorem dX13_form_14 : decode cX13_form 14 = .ok (.return_, 1) := by decide +kernel
