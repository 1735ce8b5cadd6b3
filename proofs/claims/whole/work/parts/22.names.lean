def wsX7_fail : List Cond := .code yX7_fail cX7_fail 1 none :: ([.fieldLink RX7 40 "LiquidTongue$Parser" "fault" "I", .methodLink RX7 95 yX7_here, .instanceMethod yX7_here, .selects RX7 yX7_here yX7_here, .initialized RX7, .code yX7_here cX7_here 1 (some .int), .fieldLink RX7 50 "LiquidTongue$Parser" "words" "LLiquidTongue$Words;", .fieldLink RX7 89 "LiquidTongue$Words" "places" "[I", .fieldLink RX7 86 "LiquidTongue$Parser" "at" "I"] ++ wsX70 ++ wsX110)
def wsX7_expect : List Cond := .code yX7_expect cX7_expect 2 none :: ([.methodLink RX7 57 yX7_kind, .instanceMethod yX7_kind, .selects RX7 yX7_kind yX7_kind, .initialized RX7, .code yX7_kind cX7_kind 1 (some .int), .fieldLink RX7 40 "LiquidTongue$Parser" "fault" "I", .fieldLink RX7 50 "LiquidTongue$Parser" "words" "LLiquidTongue$Words;", .fieldLink RX7 81 "LiquidTongue$Words" "kinds" "[I", .fieldLink RX7 86 "LiquidTongue$Parser" "at" "I", .methodLink RX7 98 yX7_next, .instanceMethod yX7_next, .selects RX7 yX7_next yX7_next, .code yX7_next cX7_next 1 none, .fieldLink RX7 92 "LiquidTongue$Words" "count" "I", .methodLink RX7 78 yX7_fail, .instanceMethod yX7_fail, .selects RX7 yX7_fail yX7_fail, .code yX7_fail cX7_fail 1 none, .methodLink RX7 95 yX7_here, .instanceMethod yX7_here, .selects RX7 yX7_here yX7_here, .code yX7_here cX7_here 1 (some .int), .fieldLink RX7 89 "LiquidTongue$Words" "places" "[I"] ++ wsX70 ++ wsX110)
def wsX10_function : List Cond := .code yX10_function cX10_function 4 (some .int) :: ([.fieldLink RX10 22 "LiquidTongue$Typer" "takes" "[I", .fieldLink RX10 25 "LiquidTongue$Typer" "answers" "[I", .methodLink RX10 37 yX10_make, .instanceMethod yX10_make, .selects RX10 yX10_make yX10_make, .initialized RX10, .code yX10_make cX10_make 2 (some .int), .fieldLink RX10 86 "LiquidTongue$Typer" "count" "I", .fieldLink RX10 18 "LiquidTongue$Typer" "kinds" "[I", .fieldLink RX10 28 "LiquidTongue$Typer" "same" "[I"] ++ wsX100)
def wsX11_continues : List Cond := .code yX11_continues cX11_continues 2 (some .boolean) :: ([.methodLink RX11 61 yX11_isDigit, .static yX11_isDigit, .initialized RX11, .code yX11_isDigit cX11_isDigit 1 (some .boolean), .methodLink RX11 53 yX11_isLetter, .static yX11_isLetter, .code yX11_isLetter cX11_isLetter 1 (some .boolean)])
def wsX13_form : List Cond := .code yX13_form cX13_form 1 none :: ([.fieldLink RX13 23 "LiquidTongueModel" "wAt" "[I", .fieldLink RX13 433 "LiquidTongueModel" "w" "I", .methodLink RX13 422 yX13_fault, .instanceMethod yX13_fault, .selects RX13 yX13_fault yX13_fault, .initialized RX13, .code yX13_fault cX13_fault 3 none, .fieldLink RX13 392 "LiquidTongueModel" "bad" "I", .fieldLink RX13 395 "LiquidTongueModel" "badAt" "I"] ++ wsX130)
def wsX13_name : List Cond := .code yX13_name cX13_name 1 (some .int) :: ([.fieldLink RX13 392 "LiquidTongueModel" "bad" "I", .fieldLink RX13 19 "LiquidTongueModel" "wKind" "[I", .fieldLink RX13 433 "LiquidTongueModel" "w" "I", .methodLink RX13 450 yX13_form, .instanceMethod yX13_form, .selects RX13 yX13_form yX13_form, .initialized RX13, .code yX13_form cX13_form 1 none, .fieldLink RX13 23 "LiquidTongueModel" "wAt" "[I", .methodLink RX13 422 yX13_fault, .instanceMethod yX13_fault, .selects RX13 yX13_fault yX13_fault, .code yX13_fault cX13_fault 3 none, .fieldLink RX13 395 "LiquidTongueModel" "badAt" "I"] ++ wsX130)
def wsX13_openType : List Cond := .code yX13_openType cX13_openType 1 (some .int) :: ([.methodLink RX13 664 yX13_newType, .instanceMethod yX13_newType, .selects RX13 yX13_newType yX13_newType, .initialized RX13, .code yX13_newType cX13_newType 4 (some .int), .fieldLink RX13 113 "LiquidTongueModel" "tKind" "[I", .fieldLink RX13 661 "LiquidTongueModel" "types" "I", .fieldLink RX13 116 "LiquidTongueModel" "tLeft" "[I", .fieldLink RX13 119 "LiquidTongueModel" "tRight" "[I", .fieldLink RX13 122 "LiquidTongueModel" "tLink" "[I", .fieldLink RX13 125 "LiquidTongueModel" "tSeen" "[I"] ++ wsX130)
def wsX13_plainType : List Cond := .code yX13_plainType cX13_plainType 2 (some .int) :: ([.methodLink RX13 782 yX13_isSaid, .static yX13_isSaid, .initialized RX13, .code yX13_isSaid cX13_isSaid 1 (some .boolean), .methodLink RX13 785 yX13_said, .instanceMethod yX13_said, .selects RX13 yX13_said yX13_said, .code yX13_said cX13_said 4 (some .int), .fieldLink RX13 157 "LiquidTongueModel" "saidCase" "[I", .fieldLink RX13 772 "LiquidTongueModel" "saids" "I", .fieldLink RX13 160 "LiquidTongueModel" "saidFact" "[I", .fieldLink RX13 163 "LiquidTongueModel" "saidPut" "[I", .methodLink RX13 788 yX13_rich, .instanceMethod yX13_rich, .selects RX13 yX13_rich yX13_rich, .code yX13_rich cX13_rich 6 (some .int), .fieldLink RX13 142 "LiquidTongueModel" "rKind" "[I", .fieldLink RX13 769 "LiquidTongueModel" "rich" "I", .fieldLink RX13 145 "LiquidTongueModel" "rSaid" "[I", .fieldLink RX13 148 "LiquidTongueModel" "rName" "[I", .fieldLink RX13 151 "LiquidTongueModel" "rLeft" "[I", .fieldLink RX13 154 "LiquidTongueModel" "rRight" "[I"] ++ wsX130)
set_option maxRecDepth 20000 in
theorem ggX7_fail_X7_here : GoodIn wsX7_fail wsX7_here := goodIn_r _ [6, 7, 8, 9, 10, 11, 12, 13, 14, 15, 16, 17, 18, 19, 20, 21, 22, 23, 24, 25, 26, 27, 28, 29, 30, 31, 32, 33] (by decide +kernel) (by decide +kernel)
set_option maxRecDepth 20000 in
theorem gX7_fail_X7_here : GoodIn wsX7_fail (wsV RX7 95 RX7 yX7_here wsX7_here) := goodIn_app (goodIn_of _ (by decide +kernel)) ggX7_fail_X7_here
theorem dX7_fail_0 : decode cX7_fail 0 = .ok (.aload_n 0, 1) := by decide +kernel
theorem dX7_fail_1 : decode cX7_fail 1 = .ok (.getfield 40, 3) := by decide +kernel
theorem dX7_fail_4 : decode cX7_fail 4 = .ok (.ifCond .ge 11, 3) := by decide +kernel
theorem dX7_fail_7 : decode cX7_fail 7 = .ok (.aload_n 0, 1) := by decide +kernel
theorem dX7_fail_8 : decode cX7_fail 8 = .ok (.aload_n 0, 1) := by decide +kernel
theorem dX7_fail_9 : decode cX7_fail 9 = .ok (.invokevirtual 95, 3) := by decide +kernel
theorem dX7_fail_12 : decode cX7_fail 12 = .ok (.putfield 40, 3) := by decide +kernel
theorem dX7_fail_15 : decode cX7_fail 15 = .ok (.return_, 1) := by decide +kernel
set_option maxRecDepth 20000 in
theorem ggX7_expect_X7_kind : GoodIn wsX7_expect wsX7_kind := goodIn_r _ [5, 6, 7, 8, 9, 24, 25, 26, 27, 28, 29, 30, 31, 32, 33, 34, 35, 36, 37, 38, 39, 40, 41, 42, 43, 44, 45, 46, 47] (by decide +kernel) (by decide +kernel)
set_option maxRecDepth 20000 in
theorem gX7_expect_X7_kind : GoodIn wsX7_expect (wsV RX7 57 RX7 yX7_kind wsX7_kind) := goodIn_app (goodIn_of _ (by decide +kernel)) ggX7_expect_X7_kind
set_option maxRecDepth 20000 in
theorem ggX7_expect_X7_next : GoodIn wsX7_expect wsX7_next := goodIn_r _ [13, 9, 7, 14, 24, 25, 26, 27, 28, 29, 30, 31, 32, 33, 34, 35, 36, 37, 38, 39, 40, 41, 42, 43, 44, 45, 46, 47] (by decide +kernel) (by decide +kernel)
set_option maxRecDepth 20000 in
theorem gX7_expect_X7_next : GoodIn wsX7_expect (wsV RX7 98 RX7 yX7_next wsX7_next) := goodIn_app (goodIn_of _ (by decide +kernel)) ggX7_expect_X7_next
set_option maxRecDepth 20000 in
theorem ggX7_expect_X7_fail : GoodIn wsX7_expect wsX7_fail := goodIn_r _ [18, 6, 19, 20, 21, 4, 22, 7, 23, 9, 24, 25, 26, 27, 28, 29, 30, 31, 32, 33, 34, 35, 36, 37, 38, 39, 40, 41, 42, 43, 44, 45, 46, 47] (by decide +kernel) (by decide +kernel)
set_option maxRecDepth 20000 in
theorem gX7_expect_X7_fail : GoodIn wsX7_expect (wsV RX7 78 RX7 yX7_fail wsX7_fail) := goodIn_app (goodIn_of _ (by decide +kernel)) ggX7_expect_X7_fail
theorem dX7_expect_0 : decode cX7_expect 0 = .ok (.aload_n 0, 1) := by decide +kernel
theorem dX7_expect_1 : decode cX7_expect 1 = .ok (.invokevirtual 57, 3) := by decide +kernel
theorem dX7_expect_4 : decode cX7_expect 4 = .ok (.iload_n 1, 1) := by decide +kernel
theorem dX7_expect_5 : decode cX7_expect 5 = .ok (.if_icmp .ne 10, 3) := by decide +kernel
theorem dX7_expect_8 : decode cX7_expect 8 = .ok (.aload_n 0, 1) := by decide +kernel
theorem dX7_expect_9 : decode cX7_expect 9 = .ok (.invokevirtual 98, 3) := by decide +kernel
theorem dX7_expect_12 : decode cX7_expect 12 = .ok (.goto 7, 3) := by decide +kernel
theorem dX7_expect_15 : decode cX7_expect 15 = .ok (.aload_n 0, 1) := by decide +kernel
theorem dX7_expect_16 : decode cX7_expect 16 = .ok (.invokevirtual 78, 3) := by decide +kernel
theorem dX7_expect_19 : decode cX7_expect 19 = .ok (.return_, 1) := by decide +kernel
set_option maxRecDepth 20000 in
theorem ggX10_function_X10_make : GoodIn wsX10_function wsX10_make := goodIn_r _ [7, 8, 9, 10, 11, 12, 13, 14, 15, 16, 17, 18, 19, 20] (by decide +kernel) (by decide +kernel)
set_option maxRecDepth 20000 in
theorem gX10_function_X10_make : GoodIn wsX10_function (wsV RX10 37 RX10 yX10_make wsX10_make) := goodIn_app (goodIn_of _ (by decide +kernel)) ggX10_function_X10_make
theorem dX10_function_0 : decode cX10_function 0 = .ok (.aload_n 0, 1) := by decide +kernel
theorem dX10_function_1 : decode cX10_function 1 = .ok (.sipush 206, 3) := by decide +kernel
theorem dX10_function_4 : decode cX10_function 4 = .ok (.invokevirtual 37, 3) := by decide +kernel
theorem dX10_function_7 : decode cX10_function 7 = .ok (.istore_n 3, 1) := by decide +kernel
theorem dX10_function_8 : decode cX10_function 8 = .ok (.aload_n 0, 1) := by decide +kernel
theorem dX10_function_9 : decode cX10_function 9 = .ok (.getfield 22, 3) := by decide +kernel
theorem dX10_function_12 : decode cX10_function 12 = .ok (.iload_n 3, 1) := by decide +kernel
theorem dX10_function_13 : decode cX10_function 13 = .ok (.iload_n 1, 1) := by decide +kernel
theorem dX10_function_14 : decode cX10_function 14 = .ok (.iastore, 1) := by decide +kernel
theorem dX10_function_15 : decode cX10_function 15 = .ok (.aload_n 0, 1) := by decide +kernel
theorem dX10_function_16 : decode cX10_function 16 = .ok (.getfield 25, 3) := by decide +kernel
theorem dX10_function_19 : decode cX10_function 19 = .ok (.iload_n 3, 1) := by decide +kernel
theorem dX10_function_20 : decode cX10_function 20 = .ok (.iload_n 2, 1) := by decide +kernel
theorem dX10_function_21 : decode cX10_function 21 = .ok (.iastore, 1) := by decide +kernel
theorem dX10_function_22 : decode cX10_function 22 = .ok (.iload_n 3, 1) := by decide +kernel
theorem dX10_function_23 : decode cX10_function 23 = .ok (.ireturn, 1) := by decide +kernel
set_option maxRecDepth 20000 in
theorem ggX11_continues_X11_isDigit : GoodIn wsX11_continues wsX11_isDigit := goodIn_r _ [4] (by decide +kernel) (by decide +kernel)
set_option maxRecDepth 20000 in
theorem gX11_continues_X11_isDigit : GoodIn wsX11_continues (va_wsS RX11 61 yX11_isDigit wsX11_isDigit) := goodIn_app (goodIn_of _ (by decide +kernel)) ggX11_continues_X11_isDigit
set_option maxRecDepth 20000 in
theorem ggX11_continues_X11_isLetter : GoodIn wsX11_continues wsX11_isLetter := goodIn_r _ [7] (by decide +kernel) (by decide +kernel)
set_option maxRecDepth 20000 in
theorem gX11_continues_X11_isLetter : GoodIn wsX11_continues (va_wsS RX11 53 yX11_isLetter wsX11_isLetter) := goodIn_app (goodIn_of _ (by decide +kernel)) ggX11_continues_X11_isLetter
theorem dX11_continues_0 : decode cX11_continues 0 = .ok (.iload_n 0, 1) := by decide +kernel
theorem dX11_continues_1 : decode cX11_continues 1 = .ok (.invokestatic 61, 3) := by decide +kernel
theorem dX11_continues_4 : decode cX11_continues 4 = .ok (.ifCond .ne 20, 3) := by decide +kernel
theorem dX11_continues_7 : decode cX11_continues 7 = .ok (.iload_n 1, 1) := by decide +kernel
theorem dX11_continues_8 : decode cX11_continues 8 = .ok (.ifCond .eq 20, 3) := by decide +kernel
theorem dX11_continues_11 : decode cX11_continues 11 = .ok (.iload_n 0, 1) := by decide +kernel
theorem dX11_continues_12 : decode cX11_continues 12 = .ok (.invokestatic 53, 3) := by decide +kernel
theorem dX11_continues_15 : decode cX11_continues 15 = .ok (.ifCond .ne 9, 3) := by decide +kernel
theorem dX11_continues_18 : decode cX11_continues 18 = .ok (.iload_n 0, 1) := by decide +kernel
theorem dX11_continues_19 : decode cX11_continues 19 = .ok (.bipush 95, 2) := by decide +kernel
theorem dX11_continues_21 : decode cX11_continues 21 = .ok (.if_icmp .ne 7, 3) := by decide +kernel
theorem dX11_continues_24 : decode cX11_continues 24 = .ok (.iconst 1, 1) := by decide +kernel
theorem dX11_continues_25 : decode cX11_continues 25 = .ok (.goto 4, 3) := by decide +kernel
theorem dX11_continues_28 : decode cX11_continues 28 = .ok (.iconst 0, 1) := by decide +kernel
theorem dX11_continues_29 : decode cX11_continues 29 = .ok (.ireturn, 1) := by decide +kernel
set_option maxRecDepth 20000 in
theorem ggX13_form_X13_fault : GoodIn wsX13_form wsX13_fault := goodIn_r _ [7, 8, 9, 10, 11, 12, 13, 14, 15, 16, 17, 18, 19, 20, 21, 22, 23, 24, 25, 26, 27, 28, 29, 30, 31, 32, 33, 34, 35, 36, 37, 38, 39, 40, 41, 42, 43, 44, 45, 46, 47, 48, 49, 50, 51, 52, 53, 54, 55, 56, 57, 58, 59, 60, 61, 62, 63, 64, 65, 66, 67, 68, 69, 70, 71, 72, 73, 74, 75, 76, 77, 78, 79, 80, 81, 82, 83, 84, 85, 86, 87, 88, 89, 90, 91, 92, 93, 94, 95, 96, 97, 98, 99, 100, 101, 102, 103, 104, 105, 106, 107, 108, 109, 110, 111, 112, 113, 114, 115, 116, 117, 118, 119, 120, 121, 122, 123, 124, 125, 126, 127, 128, 129, 130, 131, 132, 133, 134, 135, 136, 137, 138, 139, 140, 141, 142, 143, 144, 145, 146, 147, 148, 149, 150, 151, 152, 153, 154, 155, 156, 157, 158, 159, 160, 161, 162, 163, 164, 165, 166, 167, 168, 169, 170, 171, 172, 173, 174, 175, 176, 177, 178, 179, 180, 181, 182, 183, 184, 185, 186, 187, 188, 189, 190, 191, 192, 193, 194, 195, 196, 197, 198, 199, 200, 201, 202, 203, 204, 205] (by decide +kernel) (by decide +kernel)
set_option maxRecDepth 20000 in
theorem gX13_form_X13_fault : GoodIn wsX13_form (wsV RX13 422 RX13 yX13_fault wsX13_fault) := goodIn_app (goodIn_of _ (by decide +kernel)) ggX13_form_X13_fault
theorem dX13_form_0 : decode cX13_form 0 = .ok (.aload_n 0, 1) := by decide +kernel
theorem dX13_form_1 : decode cX13_form 1 = .ok (.iconst 2, 1) := by decide +kernel
theorem dX13_form_2 : decode cX13_form 2 = .ok (.aload_n 0, 1) := by decide +kernel
theorem dX13_form_3 : decode cX13_form 3 = .ok (.getfield 23, 3) := by decide +kernel
theorem dX13_form_6 : decode cX13_form 6 = .ok (.aload_n 0, 1) := by decide +kernel
theorem dX13_form_7 : decode cX13_form 7 = .ok (.getfield 433, 3) := by decide +kernel
theorem dX13_form_10 : decode cX13_form 10 = .ok (.iaload, 1) := by decide +kernel
theorem dX13_form_11 : decode cX13_form 11 = .ok (.invokevirtual 422, 3) := by decide +kernel
theorem dX13_form_14 : decode cX13_form 14 = .ok (.return_, 1) := by decide +kernel
set_option maxRecDepth 20000 in
theorem ggX13_name_X13_form : GoodIn wsX13_name wsX13_form := goodIn_r _ [8, 9, 3, 10, 11, 12, 7, 13, 1, 14, 15, 16, 17, 18, 19, 20, 21, 22, 23, 24, 25, 26, 27, 28, 29, 30, 31, 32, 33, 34, 35, 36, 37, 38, 39, 40, 41, 42, 43, 44, 45, 46, 47, 48, 49, 50, 51, 52, 53, 54, 55, 56, 57, 58, 59, 60, 61, 62, 63, 64, 65, 66, 67, 68, 69, 70, 71, 72, 73, 74, 75, 76, 77, 78, 79, 80, 81, 82, 83, 84, 85, 86, 87, 88, 89, 90, 91, 92, 93, 94, 95, 96, 97, 98, 99, 100, 101, 102, 103, 104, 105, 106, 107, 108, 109, 110, 111, 112, 113, 114, 115, 116, 117, 118, 119, 120, 121, 122, 123, 124, 125, 126, 127, 128, 129, 130, 131, 132, 133, 134, 135, 136, 137, 138, 139, 140, 141, 142, 143, 144, 145, 146, 147, 148, 149, 150, 151, 152, 153, 154, 155, 156, 157, 158, 159, 160, 161, 162, 163, 164, 165, 166, 167, 168, 169, 170, 171, 172, 173, 174, 175, 176, 177, 178, 179, 180, 181, 182, 183, 184, 185, 186, 187, 188, 189, 190, 191, 192, 193, 194, 195, 196, 197, 198, 199, 200, 201, 202, 203, 204, 205, 206, 207, 208, 209, 210] (by decide +kernel) (by decide +kernel)
set_option maxRecDepth 20000 in
theorem gX13_name_X13_form : GoodIn wsX13_name (wsV RX13 450 RX13 yX13_form wsX13_form) := goodIn_app (goodIn_of _ (by decide +kernel)) ggX13_name_X13_form
theorem dX13_name_0 : decode cX13_name 0 = .ok (.aload_n 0, 1) := by decide +kernel
theorem dX13_name_1 : decode cX13_name 1 = .ok (.getfield 392, 3) := by decide +kernel
theorem dX13_name_4 : decode cX13_name 4 = .ok (.ifCond .eq 5, 3) := by decide +kernel
theorem dX13_name_7 : decode cX13_name 7 = .ok (.iconst 0, 1) := by decide +kernel
theorem dX13_name_8 : decode cX13_name 8 = .ok (.ireturn, 1) := by decide +kernel
theorem dX13_name_9 : decode cX13_name 9 = .ok (.aload_n 0, 1) := by decide +kernel
theorem dX13_name_10 : decode cX13_name 10 = .ok (.getfield 19, 3) := by decide +kernel
theorem dX13_name_13 : decode cX13_name 13 = .ok (.aload_n 0, 1) := by decide +kernel
theorem dX13_name_14 : decode cX13_name 14 = .ok (.getfield 433, 3) := by decide +kernel
theorem dX13_name_17 : decode cX13_name 17 = .ok (.iaload, 1) := by decide +kernel
theorem dX13_name_18 : decode cX13_name 18 = .ok (.iconst 1, 1) := by decide +kernel
theorem dX13_name_19 : decode cX13_name 19 = .ok (.if_icmp .eq 9, 3) := by decide +kernel
theorem dX13_name_22 : decode cX13_name 22 = .ok (.aload_n 0, 1) := by decide +kernel
theorem dX13_name_23 : decode cX13_name 23 = .ok (.invokevirtual 450, 3) := by decide +kernel
theorem dX13_name_26 : decode cX13_name 26 = .ok (.iconst 0, 1) := by decide +kernel
theorem dX13_name_27 : decode cX13_name 27 = .ok (.ireturn, 1) := by decide +kernel
theorem dX13_name_28 : decode cX13_name 28 = .ok (.aload_n 0, 1) := by decide +kernel
theorem dX13_name_29 : decode cX13_name 29 = .ok (.dup, 1) := by decide +kernel
theorem dX13_name_30 : decode cX13_name 30 = .ok (.getfield 433, 3) := by decide +kernel
theorem dX13_name_33 : decode cX13_name 33 = .ok (.iconst 1, 1) := by decide +kernel
theorem dX13_name_34 : decode cX13_name 34 = .ok (.iadd, 1) := by decide +kernel
theorem dX13_name_35 : decode cX13_name 35 = .ok (.putfield 433, 3) := by decide +kernel
theorem dX13_name_38 : decode cX13_name 38 = .ok (.aload_n 0, 1) := by decide +kernel
theorem dX13_name_39 : decode cX13_name 39 = .ok (.getfield 433, 3) := by decide +kernel
theorem dX13_name_42 : decode cX13_name 42 = .ok (.iconst 1, 1) := by decide +kernel
theorem dX13_name_43 : decode cX13_name 43 = .ok (.isub, 1) := by decide +kernel
theorem dX13_name_44 : decode cX13_name 44 = .ok (.ireturn, 1) := by decide +kernel
set_option maxRecDepth 20000 in
theorem ggX13_openType_X13_newType : GoodIn wsX13_openType wsX13_newType := goodIn_r _ [5, 6, 7, 8, 9, 10, 11, 12, 13, 14, 15, 16, 17, 18, 19, 20, 21, 22, 23, 24, 25, 26, 27, 28, 29, 30, 31, 32, 33, 34, 35, 36, 37, 38, 39, 40, 41, 42, 43, 44, 45, 46, 47, 48, 49, 50, 51, 52, 53, 54, 55, 56, 57, 58, 59, 60, 61, 62, 63, 64, 65, 66, 67, 68, 69, 70, 71, 72, 73, 74, 75, 76, 77, 78, 79, 80, 81, 82, 83, 84, 85, 86, 87, 88, 89, 90, 91, 92, 93, 94, 95, 96, 97, 98, 99, 100, 101, 102, 103, 104, 105, 106, 107, 108, 109, 110, 111, 112, 113, 114, 115, 116, 117, 118, 119, 120, 121, 122, 123, 124, 125, 126, 127, 128, 129, 130, 131, 132, 133, 134, 135, 136, 137, 138, 139, 140, 141, 142, 143, 144, 145, 146, 147, 148, 149, 150, 151, 152, 153, 154, 155, 156, 157, 158, 159, 160, 161, 162, 163, 164, 165, 166, 167, 168, 169, 170, 171, 172, 173, 174, 175, 176, 177, 178, 179, 180, 181, 182, 183, 184, 185, 186, 187, 188, 189, 190, 191, 192, 193, 194, 195, 196, 197, 198, 199, 200, 201, 202, 203, 204, 205, 206, 207] (by decide +kernel) (by decide +kernel)
set_option maxRecDepth 20000 in
theorem gX13_openType_X13_newType : GoodIn wsX13_openType (wsV RX13 664 RX13 yX13_newType wsX13_newType) := goodIn_app (goodIn_of _ (by decide +kernel)) ggX13_openType_X13_newType
theorem dX13_openType_0 : decode cX13_openType 0 = .ok (.aload_n 0, 1) := by decide +kernel
theorem dX13_openType_1 : decode cX13_openType 1 = .ok (.iconst 0, 1) := by decide +kernel
theorem dX13_openType_2 : decode cX13_openType 2 = .ok (.iconst (-1), 1) := by decide +kernel
theorem dX13_openType_3 : decode cX13_openType 3 = .ok (.iconst (-1), 1) := by decide +kernel
theorem dX13_openType_4 : decode cX13_openType 4 = .ok (.invokevirtual 664, 3) := by decide +kernel
theorem dX13_openType_7 : decode cX13_openType 7 = .ok (.ireturn, 1) := by decide +kernel
set_option maxRecDepth 20000 in
theorem ggX13_plainType_X13_isSaid : GoodIn wsX13_plainType wsX13_isSaid := goodIn_r _ [4] (by decide +kernel) (by decide +kernel)
set_option maxRecDepth 20000 in
theorem gX13_plainType_X13_isSaid : GoodIn wsX13_plainType (va_wsS RX13 782 yX13_isSaid wsX13_isSaid) := goodIn_app (goodIn_of _ (by decide +kernel)) ggX13_plainType_X13_isSaid
set_option maxRecDepth 20000 in
theorem ggX13_plainType_X13_said : GoodIn wsX13_plainType wsX13_said := goodIn_r _ [8, 9, 10, 11, 12, 23, 24, 25, 26, 27, 28, 29, 30, 31, 32, 33, 34, 35, 36, 37, 38, 39, 40, 41, 42, 43, 44, 45, 46, 47, 48, 49, 50, 51, 52, 53, 54, 55, 56, 57, 58, 59, 60, 61, 62, 63, 64, 65, 66, 67, 68, 69, 70, 71, 72, 73, 74, 75, 76, 77, 78, 79, 80, 81, 82, 83, 84, 85, 86, 87, 88, 89, 90, 91, 92, 93, 94, 95, 96, 97, 98, 99, 100, 101, 102, 103, 104, 105, 106, 107, 108, 109, 110, 111, 112, 113, 114, 115, 116, 117, 118, 119, 120, 121, 122, 123, 124, 125, 126, 127, 128, 129, 130, 131, 132, 133, 134, 135, 136, 137, 138, 139, 140, 141, 142, 143, 144, 145, 146, 147, 148, 149, 150, 151, 152, 153, 154, 155, 156, 157, 158, 159, 160, 161, 162, 163, 164, 165, 166, 167, 168, 169, 170, 171, 172, 173, 174, 175, 176, 177, 178, 179, 180, 181, 182, 183, 184, 185, 186, 187, 188, 189, 190, 191, 192, 193, 194, 195, 196, 197, 198, 199, 200, 201, 202, 203, 204, 205, 206, 207, 208, 209, 210, 211, 212, 213, 214, 215, 216, 217, 218] (by decide +kernel) (by decide +kernel)
set_option maxRecDepth 20000 in
theorem gX13_plainType_X13_said : GoodIn wsX13_plainType (wsV RX13 785 RX13 yX13_said wsX13_said) := goodIn_app (goodIn_of _ (by decide +kernel)) ggX13_plainType_X13_said
set_option maxRecDepth 20000 in
theorem ggX13_plainType_X13_rich : GoodIn wsX13_plainType wsX13_rich := goodIn_r _ [16, 17, 18, 19, 20, 21, 22, 23, 24, 25, 26, 27, 28, 29, 30, 31, 32, 33, 34, 35, 36, 37, 38, 39, 40, 41, 42, 43, 44, 45, 46, 47, 48, 49, 50, 51, 52, 53, 54, 55, 56, 57, 58, 59, 60, 61, 62, 63, 64, 65, 66, 67, 68, 69, 70, 71, 72, 73, 74, 75, 76, 77, 78, 79, 80, 81, 82, 83, 84, 85, 86, 87, 88, 89, 90, 91, 92, 93, 94, 95, 96, 97, 98, 99, 100, 101, 102, 103, 104, 105, 106, 107, 108, 109, 110, 111, 112, 113, 114, 115, 116, 117, 118, 119, 120, 121, 122, 123, 124, 125, 126, 127, 128, 129, 130, 131, 132, 133, 134, 135, 136, 137, 138, 139, 140, 141, 142, 143, 144, 145, 146, 147, 148, 149, 150, 151, 152, 153, 154, 155, 156, 157, 158, 159, 160, 161, 162, 163, 164, 165, 166, 167, 168, 169, 170, 171, 172, 173, 174, 175, 176, 177, 178, 179, 180, 181, 182, 183, 184, 185, 186, 187, 188, 189, 190, 191, 192, 193, 194, 195, 196, 197, 198, 199, 200, 201, 202, 203, 204, 205, 206, 207, 208, 209, 210, 211, 212, 213, 214, 215, 216, 217, 218] (by decide +kernel) (by decide +kernel)
set_option maxRecDepth 20000 in
theorem gX13_plainType_X13_rich : GoodIn wsX13_plainType (wsV RX13 788 RX13 yX13_rich wsX13_rich) := goodIn_app (goodIn_of _ (by decide +kernel)) ggX13_plainType_X13_rich
theorem dX13_plainType_0 : decode cX13_plainType 0 = .ok (.aload_n 0, 1) := by decide +kernel
theorem dX13_plainType_1 : decode cX13_plainType 1 = .ok (.iload_n 1, 1) := by decide +kernel
theorem dX13_plainType_2 : decode cX13_plainType 2 = .ok (.iload_n 1, 1) := by decide +kernel
theorem dX13_plainType_3 : decode cX13_plainType 3 = .ok (.invokestatic 782, 3) := by decide +kernel
theorem dX13_plainType_6 : decode cX13_plainType 6 = .ok (.ifCond .eq 13, 3) := by decide +kernel
theorem dX13_plainType_9 : decode cX13_plainType 9 = .ok (.aload_n 0, 1) := by decide +kernel
theorem dX13_plainType_10 : decode cX13_plainType 10 = .ok (.iconst (-1), 1) := by decide +kernel
theorem dX13_plainType_11 : decode cX13_plainType 11 = .ok (.iconst (-1), 1) := by decide +kernel
theorem dX13_plainType_12 : decode cX13_plainType 12 = .ok (.iconst (-1), 1) := by decide +kernel
theorem dX13_plainType_13 : decode cX13_plainType 13 = .ok (.invokevirtual 785, 3) := by decide +kernel
theorem dX13_plainType_16 : decode cX13_plainType 16 = .ok (.goto 4, 3) := by decide +kernel
theorem dX13_plainType_19 : decode cX13_plainType 19 = .ok (.iconst (-1), 1) := by decide +kernel
theorem dX13_plainType_20 : decode cX13_plainType 20 = .ok (.iconst (-1), 1) := by decide +kernel
theorem dX13_plainType_21 : decode cX13_plainType 21 = .ok (.iconst (-1), 1) := by decide +kernel
theorem dX13_plainType_22 : decode cX13_plainType 22 = .ok (.iconst (-1), 1) := by decide +kernel
theorem dX13_plainType_23 : decode cX13_plainType 23 = .ok (.invokevirtual 788, 3) := by decide +kernel
theorem dX13_plainType_26 : decode cX13_plainType 26 = .ok (.ireturn, 1) := by decide +kernel
