/-! Parser.readOpen where the text has ended -/
def wnJ : List Cond := [.code yX7_kind cX7_kind 1 (some .int), .methodLink RX7 57 yX7_kind, .instanceMethod yX7_kind, .selects RX7 yX7_kind yX7_kind, .initialized RX7, .fieldLink RX7 40 "LiquidTongue$Parser" "fault" "I", .fieldLink RX7 50 "LiquidTongue$Parser" "words" "LLiquidTongue$Words;", .fieldLink RX7 81 "LiquidTongue$Words" "kinds" "[I", .fieldLink RX7 86 "LiquidTongue$Parser" "at" "I", .code yX7_beginsArgument cX7_beginsArgument 1 (some .boolean), .methodLink RX7 278 yX7_beginsArgument, .static yX7_beginsArgument, .code yX7_sum cX7_sum 1 (some (.object "LiquidTongue$Node")), .methodLink RX7 185 yX7_sum, .instanceMethod yX7_sum, .selects RX7 yX7_sum yX7_sum, .constant RX7 302 (1000000), .code yX7_sum_ cX7_sum_ 8 (some (.object "LiquidTongue$Node")), .methodLink RX7 290 yX7_sum_, .instanceMethod yX7_sum_, .selects RX7 yX7_sum_ yX7_sum_, .classLink RX7 261 RX9, .instantiable RX9 4, .initialized RX9, .instanceMethod yX9_init, .fieldLink RX7 192 "LiquidTongue$Node" "sum" "LLiquidTongue$Sum;", .classLink RX7 17 RJx4a65c, .instantiable RJx4a65c 3, .initialized RJx4a65c, .methodLink RX7 19 yJx4a65c_init_da8c8, .instanceMethod yJx4a65c_init_da8c8, .fieldLink RX7 271 "LiquidTongue$Node" "parts" "Ljava/util/ArrayList;", .fieldLink RX7 292 "LiquidTongue$Node" "alone" "I", .fieldLink RX7 208 "LiquidTongue$Node" "name" "LLiquidTongue$Name;", .code yX7_node cX7_node 2 (some (.object "LiquidTongue$Node")), .methodLink RX7 163 yX7_node, .instanceMethod yX7_node, .selects RX7 yX7_node yX7_node, .classLink RX7 101 RX5, .instantiable RX5 21, .initialized RX5, .fieldLink RX7 103 "LiquidTongue$Parser" "counted" "I", .methodLink RX7 106 yX5_init, .instanceMethod yX5_init, .code yX7_here cX7_here 1 (some .int), .methodLink RX7 95 yX7_here, .instanceMethod yX7_here, .selects RX7 yX7_here yX7_here, .fieldLink RX7 89 "LiquidTongue$Words" "places" "[I", .code yX5_init cX5_init 4 none, .methodLink RX5 1 objectInit, .instanceMethod objectInit, .code objectInit ⟨#[0xb1]⟩ 1 none, .fieldLink RX5 7 "LiquidTongue$Node" "kind" "I", .fieldLink RX5 13 "LiquidTongue$Node" "place" "I", .fieldLink RX5 16 "LiquidTongue$Node" "counted" "I", .fieldLink RX5 19 "LiquidTongue$Node" "mark" "I", .code yX9_init cX9_init 1 none, .methodLink RX9 1 objectInit, .classLink RX9 7 RX4, .fieldLink RX9 9 "LiquidTongue$Sum" "names" "[LLiquidTongue$Name;", .arrayClass .int, .fieldLink RX9 15 "LiquidTongue$Sum" "times" "[I", .methodLink RX7 3 objectInit, .classLink RX7 9 RX4, .fieldLink RX7 11 "LiquidTongue$Parser" "counting" "[LLiquidTongue$Name;", .fieldLink RX7 20 "LiquidTongue$Parser" "told" "Ljava/util/ArrayList;", .fieldLink RX7 24 "LiquidTongue$Parser" "functions" "Ljava/util/ArrayList;", .fieldLink RX7 27 "LiquidTongue$Parser" "qualBases" "[I", .fieldLink RX7 31 "LiquidTongue$Parser" "qualRels" "[I", .fieldLink RX7 34 "LiquidTongue$Parser" "qualStars" "[I", .fieldLink RX7 37 "LiquidTongue$Parser" "qualNumbers" "[I", .fieldLink RX7 44 "LiquidTongue$Parser" "nameFault" "I", .fieldLink RX7 47 "LiquidTongue$Parser" "formFault" "I", .code yJx4a65c_init_da8c8 cJx4a65c_init_da8c8 1 none, .fieldLink RJx4a65c 39 "java/util/ArrayList" "DEFAULTCAPACITY_EMPTY_ELEMENTDATA" "[Ljava/lang/Object;", .fieldLink RJx4a65c 9 "java/util/ArrayList" "elementData" "[Ljava/lang/Object;", .methodLink RJx4a65c 1 yJxc12de_init_da8c8, .instanceMethod yJxc12de_init_da8c8, .initialized RJxc12de, .code yJxc12de_init_da8c8 cJxc12de_init_da8c8 1 none, .fieldLink RJxc12de 7 "java/util/AbstractList" "modCount" "I", .methodLink RJxc12de 1 yJxa1e45_init_da8c8, .instanceMethod yJxa1e45_init_da8c8, .initialized RJxa1e45, .code yJxa1e45_init_da8c8 cJxa1e45_init_da8c8 1 none, .methodLink RJxa1e45 1 objectInit, .code yX7_use cX7_use 2 (some (.object "LiquidTongue$Name")), .methodLink RX7 205 yX7_use, .instanceMethod yX7_use, .selects RX7 yX7_use yX7_use, .code yX7_fail cX7_fail 1 none, .methodLink RX7 78 yX7_fail, .instanceMethod yX7_fail, .selects RX7 yX7_fail yX7_fail, .code yJx4a65c_add_9ea2d cJx4a65c_add_9ea2d 2 (some .boolean), .methodLink RX7 151 yJx4a65c_add_9ea2d, .instanceMethod yJx4a65c_add_9ea2d, .selects RJx4a65c yJx4a65c_add_9ea2d yJx4a65c_add_9ea2d, .methodLink RJx4a65c 79 Lib.Math.max.name, .static Lib.Math.max.name, .initialized "java/lang/Math", .code Lib.Math.max.name Lib.Math.max.code 2 (some .int), .classLink RJx4a65c 7 "java/lang/Object", .fieldLink RJx4a65c 48 "java/util/ArrayList" "size" "I", .fieldLink RJx4a65c 63 "java/util/ArrayList" "modCount" "I", .sameField "java/util/ArrayList" "java/util/AbstractList" "modCount" "I", .code yJx4a65c_grow_92f84 cJx4a65c_grow_92f84 4 (some (.array (.object "java/lang/Object"))), .methodLink RJx4a65c 69 yJx4a65c_grow_92f84, .instanceMethod yJx4a65c_grow_92f84, .selects RJx4a65c yJx4a65c_grow_92f84 yJx4a65c_grow_92f84, .code yJx4a65c_grow_d5877 cJx4a65c_grow_d5877 1 (some (.array (.object "java/lang/Object"))), .methodLink RJx4a65c 129 yJx4a65c_grow_d5877, .instanceMethod yJx4a65c_grow_d5877, .selects RJx4a65c yJx4a65c_grow_d5877 yJx4a65c_grow_d5877, .code yJx4a65c_add_72be8 cJx4a65c_add_72be8 4 none, .methodLink RJx4a65c 131 yJx4a65c_add_72be8, .instanceMethod yJx4a65c_add_72be8, .selects RJx4a65c yJx4a65c_add_72be8 yJx4a65c_add_72be8, .code yX9_add cX9_add 4 none, .methodLink RX7 268 yX9_add, .instanceMethod yX9_add, .selects RX9 yX9_add yX9_add] ++ (wsX70 ++ wsX110 ++ wsX90 ++ wsX50 ++ wsJx4a65c0)
abbrev wJ_X7_readOpen : List Cond := .code yX7_readOpen cX7_readOpen 5 (some (.object "LiquidTongue$Node")) :: wnJ
theorem iwJ0_X7 : ∀ w ∈ wsX70, w ∈ wnJ := fun w h => List.mem_append_right _ (List.mem_append_left _ (List.mem_append_left _ (List.mem_append_left _ (List.mem_append_left _ h))))
theorem iwJ_X7 {q : Cond} : ∀ w ∈ wsX70, w ∈ q :: wnJ := fun w h => List.mem_cons_of_mem _ (iwJ0_X7 w h)
theorem igJ_X7 : GoodIn wnJ wsX70 := goodIn_sub iwJ0_X7 (by decide +kernel)
theorem iwJ0_X11 : ∀ w ∈ wsX110, w ∈ wnJ := fun w h => List.mem_append_right _ (List.mem_append_left _ (List.mem_append_left _ (List.mem_append_left _ (List.mem_append_right _ h))))
theorem iwJ_X11 {q : Cond} : ∀ w ∈ wsX110, w ∈ q :: wnJ := fun w h => List.mem_cons_of_mem _ (iwJ0_X11 w h)
theorem igJ_X11 : GoodIn wnJ wsX110 := goodIn_sub iwJ0_X11 (by decide +kernel)
theorem iwJ0_X9 : ∀ w ∈ wsX90, w ∈ wnJ := fun w h => List.mem_append_right _ (List.mem_append_left _ (List.mem_append_left _ (List.mem_append_right _ h)))
theorem iwJ_X9 {q : Cond} : ∀ w ∈ wsX90, w ∈ q :: wnJ := fun w h => List.mem_cons_of_mem _ (iwJ0_X9 w h)
theorem igJ_X9 : GoodIn wnJ wsX90 := goodIn_sub iwJ0_X9 (by decide +kernel)
theorem iwJ0_X5 : ∀ w ∈ wsX50, w ∈ wnJ := fun w h => List.mem_append_right _ (List.mem_append_left _ (List.mem_append_right _ h))
theorem iwJ_X5 {q : Cond} : ∀ w ∈ wsX50, w ∈ q :: wnJ := fun w h => List.mem_cons_of_mem _ (iwJ0_X5 w h)
theorem igJ_X5 : GoodIn wnJ wsX50 := goodIn_sub iwJ0_X5 (by decide +kernel)
theorem iwJ0_Jx4a65c : ∀ w ∈ wsJx4a65c0, w ∈ wnJ := fun w h => List.mem_append_right _ (List.mem_append_right _ h)
theorem iwJ_Jx4a65c {q : Cond} : ∀ w ∈ wsJx4a65c0, w ∈ q :: wnJ := fun w h => List.mem_cons_of_mem _ (iwJ0_Jx4a65c w h)
theorem igJ_Jx4a65c : GoodIn wnJ wsJx4a65c0 := goodIn_sub iwJ0_Jx4a65c (by decide +kernel)
theorem wnJ_good : wnJ.all goodWord = true := by decide +kernel
theorem gJ_all : GoodIn wnJ wnJ := goodIn_sub (fun _ h => h) wnJ_good
theorem gJ_X7_57_X7_kind : GoodIn wnJ (wsV RX7 57 RX7 yX7_kind wsX7_kind) := goodIn_app (gi_cons (List.mem_append_left _ (List.mem_of_getElem? (i := 1) rfl)) rfl (gi_cons (List.mem_append_left _ (List.mem_of_getElem? (i := 2) rfl)) rfl (gi_cons (List.mem_append_left _ (List.mem_of_getElem? (i := 3) rfl)) rfl (gi_cons (List.mem_append_left _ (List.mem_of_getElem? (i := 4) rfl)) rfl gi_nil)))) (gi_cons (List.mem_append_left _ (List.mem_of_getElem? (i := 0) rfl)) rfl (goodIn_app (goodIn_app (gi_cons (List.mem_append_left _ (List.mem_of_getElem? (i := 5) rfl)) rfl (gi_cons (List.mem_append_left _ (List.mem_of_getElem? (i := 6) rfl)) rfl (gi_cons (List.mem_append_left _ (List.mem_of_getElem? (i := 7) rfl)) rfl (gi_cons (List.mem_append_left _ (List.mem_of_getElem? (i := 8) rfl)) rfl gi_nil)))) igJ_X7) igJ_X11))
theorem gJ_X7_278_X7_beginsArgument : GoodIn wnJ (va_wsS RX7 278 yX7_beginsArgument wsX7_beginsArgument) := goodIn_app (gi_cons (List.mem_append_left _ (List.mem_of_getElem? (i := 10) rfl)) rfl (gi_cons (List.mem_append_left _ (List.mem_of_getElem? (i := 11) rfl)) rfl (gi_cons (List.mem_append_left _ (List.mem_of_getElem? (i := 4) rfl)) rfl gi_nil))) (gi_cons (List.mem_append_left _ (List.mem_of_getElem? (i := 9) rfl)) rfl gi_nil)
theorem gJ_X7_185_X7_sum : GoodIn wnJ (wsV RX7 185 RX7 yX7_sum wI_X7_sum) := goodIn_app (gi_cons (List.mem_append_left _ (List.mem_of_getElem? (i := 13) rfl)) rfl (gi_cons (List.mem_append_left _ (List.mem_of_getElem? (i := 14) rfl)) rfl (gi_cons (List.mem_append_left _ (List.mem_of_getElem? (i := 15) rfl)) rfl (gi_cons (List.mem_append_left _ (List.mem_of_getElem? (i := 4) rfl)) rfl gi_nil)))) (gi_cons (List.mem_append_left _ (List.mem_of_getElem? (i := 12) rfl)) rfl (goodIn_app (gi_cons (List.mem_append_left _ (List.mem_of_getElem? (i := 16) rfl)) rfl (gi_cons (List.mem_append_left _ (List.mem_of_getElem? (i := 17) rfl)) rfl (gi_cons (List.mem_append_left _ (List.mem_of_getElem? (i := 18) rfl)) rfl (gi_cons (List.mem_append_left _ (List.mem_of_getElem? (i := 19) rfl)) rfl (gi_cons (List.mem_append_left _ (List.mem_of_getElem? (i := 20) rfl)) rfl (gi_cons (List.mem_append_left _ (List.mem_of_getElem? (i := 4) rfl)) rfl (gi_cons (List.mem_append_left _ (List.mem_of_getElem? (i := 21) rfl)) rfl (gi_cons (List.mem_append_left _ (List.mem_of_getElem? (i := 22) rfl)) rfl (gi_cons (List.mem_append_left _ (List.mem_of_getElem? (i := 23) rfl)) rfl (gi_cons (List.mem_append_left _ (List.mem_of_getElem? (i := 24) rfl)) rfl (gi_cons (List.mem_append_left _ (List.mem_of_getElem? (i := 25) rfl)) rfl (gi_cons (List.mem_append_left _ (List.mem_of_getElem? (i := 26) rfl)) rfl (gi_cons (List.mem_append_left _ (List.mem_of_getElem? (i := 27) rfl)) rfl (gi_cons (List.mem_append_left _ (List.mem_of_getElem? (i := 28) rfl)) rfl (gi_cons (List.mem_append_left _ (List.mem_of_getElem? (i := 29) rfl)) rfl (gi_cons (List.mem_append_left _ (List.mem_of_getElem? (i := 30) rfl)) rfl (gi_cons (List.mem_append_left _ (List.mem_of_getElem? (i := 31) rfl)) rfl (gi_cons (List.mem_append_left _ (List.mem_of_getElem? (i := 32) rfl)) rfl (gi_cons (List.mem_append_left _ (List.mem_of_getElem? (i := 33) rfl)) rfl (gi_cons (List.mem_append_left _ (List.mem_of_getElem? (i := 34) rfl)) rfl (gi_cons (List.mem_append_left _ (List.mem_of_getElem? (i := 35) rfl)) rfl (gi_cons (List.mem_append_left _ (List.mem_of_getElem? (i := 36) rfl)) rfl (gi_cons (List.mem_append_left _ (List.mem_of_getElem? (i := 37) rfl)) rfl (gi_cons (List.mem_append_left _ (List.mem_of_getElem? (i := 38) rfl)) rfl (gi_cons (List.mem_append_left _ (List.mem_of_getElem? (i := 39) rfl)) rfl (gi_cons (List.mem_append_left _ (List.mem_of_getElem? (i := 40) rfl)) rfl (gi_cons (List.mem_append_left _ (List.mem_of_getElem? (i := 41) rfl)) rfl (gi_cons (List.mem_append_left _ (List.mem_of_getElem? (i := 42) rfl)) rfl (gi_cons (List.mem_append_left _ (List.mem_of_getElem? (i := 43) rfl)) rfl (gi_cons (List.mem_append_left _ (List.mem_of_getElem? (i := 44) rfl)) rfl (gi_cons (List.mem_append_left _ (List.mem_of_getElem? (i := 45) rfl)) rfl (gi_cons (List.mem_append_left _ (List.mem_of_getElem? (i := 46) rfl)) rfl (gi_cons (List.mem_append_left _ (List.mem_of_getElem? (i := 47) rfl)) rfl (gi_cons (List.mem_append_left _ (List.mem_of_getElem? (i := 6) rfl)) rfl (gi_cons (List.mem_append_left _ (List.mem_of_getElem? (i := 48) rfl)) rfl (gi_cons (List.mem_append_left _ (List.mem_of_getElem? (i := 8) rfl)) rfl (gi_cons (List.mem_append_left _ (List.mem_of_getElem? (i := 49) rfl)) rfl (gi_cons (List.mem_append_left _ (List.mem_of_getElem? (i := 50) rfl)) rfl (gi_cons (List.mem_append_left _ (List.mem_of_getElem? (i := 51) rfl)) rfl (gi_cons (List.mem_append_left _ (List.mem_of_getElem? (i := 52) rfl)) rfl (gi_cons (List.mem_append_left _ (List.mem_of_getElem? (i := 53) rfl)) rfl (gi_cons (List.mem_append_left _ (List.mem_of_getElem? (i := 54) rfl)) rfl (gi_cons (List.mem_append_left _ (List.mem_of_getElem? (i := 55) rfl)) rfl (gi_cons (List.mem_append_left _ (List.mem_of_getElem? (i := 56) rfl)) rfl (gi_cons (List.mem_append_left _ (List.mem_of_getElem? (i := 57) rfl)) rfl (gi_cons (List.mem_append_left _ (List.mem_of_getElem? (i := 58) rfl)) rfl (gi_cons (List.mem_append_left _ (List.mem_of_getElem? (i := 59) rfl)) rfl (gi_cons (List.mem_append_left _ (List.mem_of_getElem? (i := 60) rfl)) rfl (gi_cons (List.mem_append_left _ (List.mem_of_getElem? (i := 61) rfl)) rfl (gi_cons (List.mem_append_left _ (List.mem_of_getElem? (i := 62) rfl)) rfl (gi_cons (List.mem_append_left _ (List.mem_of_getElem? (i := 63) rfl)) rfl (gi_cons (List.mem_append_left _ (List.mem_of_getElem? (i := 64) rfl)) rfl (gi_cons (List.mem_append_left _ (List.mem_of_getElem? (i := 65) rfl)) rfl (gi_cons (List.mem_append_left _ (List.mem_of_getElem? (i := 66) rfl)) rfl (gi_cons (List.mem_append_left _ (List.mem_of_getElem? (i := 67) rfl)) rfl (gi_cons (List.mem_append_left _ (List.mem_of_getElem? (i := 68) rfl)) rfl (gi_cons (List.mem_append_left _ (List.mem_of_getElem? (i := 69) rfl)) rfl (gi_cons (List.mem_append_left _ (List.mem_of_getElem? (i := 70) rfl)) rfl (gi_cons (List.mem_append_left _ (List.mem_of_getElem? (i := 71) rfl)) rfl (gi_cons (List.mem_append_left _ (List.mem_of_getElem? (i := 5) rfl)) rfl (gi_cons (List.mem_append_left _ (List.mem_of_getElem? (i := 72) rfl)) rfl (gi_cons (List.mem_append_left _ (List.mem_of_getElem? (i := 73) rfl)) rfl (gi_cons (List.mem_append_left _ (List.mem_of_getElem? (i := 74) rfl)) rfl (gi_cons (List.mem_append_left _ (List.mem_of_getElem? (i := 75) rfl)) rfl (gi_cons (List.mem_append_left _ (List.mem_of_getElem? (i := 76) rfl)) rfl (gi_cons (List.mem_append_left _ (List.mem_of_getElem? (i := 77) rfl)) rfl (gi_cons (List.mem_append_left _ (List.mem_of_getElem? (i := 78) rfl)) rfl (gi_cons (List.mem_append_left _ (List.mem_of_getElem? (i := 79) rfl)) rfl (gi_cons (List.mem_append_left _ (List.mem_of_getElem? (i := 80) rfl)) rfl (gi_cons (List.mem_append_left _ (List.mem_of_getElem? (i := 81) rfl)) rfl (gi_cons (List.mem_append_left _ (List.mem_of_getElem? (i := 82) rfl)) rfl (gi_cons (List.mem_append_left _ (List.mem_of_getElem? (i := 83) rfl)) rfl (gi_cons (List.mem_append_left _ (List.mem_of_getElem? (i := 84) rfl)) rfl (gi_cons (List.mem_append_left _ (List.mem_of_getElem? (i := 85) rfl)) rfl (gi_cons (List.mem_append_left _ (List.mem_of_getElem? (i := 86) rfl)) rfl (gi_cons (List.mem_append_left _ (List.mem_of_getElem? (i := 0) rfl)) rfl (gi_cons (List.mem_append_left _ (List.mem_of_getElem? (i := 1) rfl)) rfl (gi_cons (List.mem_append_left _ (List.mem_of_getElem? (i := 2) rfl)) rfl (gi_cons (List.mem_append_left _ (List.mem_of_getElem? (i := 3) rfl)) rfl (gi_cons (List.mem_append_left _ (List.mem_of_getElem? (i := 7) rfl)) rfl (gi_cons (List.mem_append_left _ (List.mem_of_getElem? (i := 87) rfl)) rfl (gi_cons (List.mem_append_left _ (List.mem_of_getElem? (i := 88) rfl)) rfl (gi_cons (List.mem_append_left _ (List.mem_of_getElem? (i := 89) rfl)) rfl (gi_cons (List.mem_append_left _ (List.mem_of_getElem? (i := 90) rfl)) rfl (gi_cons (List.mem_append_left _ (List.mem_of_getElem? (i := 91) rfl)) rfl (gi_cons (List.mem_append_left _ (List.mem_of_getElem? (i := 92) rfl)) rfl (gi_cons (List.mem_append_left _ (List.mem_of_getElem? (i := 93) rfl)) rfl (gi_cons (List.mem_append_left _ (List.mem_of_getElem? (i := 94) rfl)) rfl (gi_cons (List.mem_append_left _ (List.mem_of_getElem? (i := 95) rfl)) rfl (gi_cons (List.mem_append_left _ (List.mem_of_getElem? (i := 96) rfl)) rfl (gi_cons (List.mem_append_left _ (List.mem_of_getElem? (i := 97) rfl)) rfl (gi_cons (List.mem_append_left _ (List.mem_of_getElem? (i := 98) rfl)) rfl (gi_cons (List.mem_append_left _ (List.mem_of_getElem? (i := 99) rfl)) rfl (gi_cons (List.mem_append_left _ (List.mem_of_getElem? (i := 100) rfl)) rfl (gi_cons (List.mem_append_left _ (List.mem_of_getElem? (i := 101) rfl)) rfl (gi_cons (List.mem_append_left _ (List.mem_of_getElem? (i := 102) rfl)) rfl (gi_cons (List.mem_append_left _ (List.mem_of_getElem? (i := 103) rfl)) rfl (gi_cons (List.mem_append_left _ (List.mem_of_getElem? (i := 104) rfl)) rfl (gi_cons (List.mem_append_left _ (List.mem_of_getElem? (i := 105) rfl)) rfl (gi_cons (List.mem_append_left _ (List.mem_of_getElem? (i := 106) rfl)) rfl (gi_cons (List.mem_append_left _ (List.mem_of_getElem? (i := 107) rfl)) rfl (gi_cons (List.mem_append_left _ (List.mem_of_getElem? (i := 108) rfl)) rfl (gi_cons (List.mem_append_left _ (List.mem_of_getElem? (i := 109) rfl)) rfl (gi_cons (List.mem_append_left _ (List.mem_of_getElem? (i := 110) rfl)) rfl (gi_cons (List.mem_append_left _ (List.mem_of_getElem? (i := 111) rfl)) rfl (gi_cons (List.mem_append_left _ (List.mem_of_getElem? (i := 112) rfl)) rfl (gi_cons (List.mem_append_left _ (List.mem_of_getElem? (i := 113) rfl)) rfl (gi_cons (List.mem_append_left _ (List.mem_of_getElem? (i := 114) rfl)) rfl (gi_cons (List.mem_append_left _ (List.mem_of_getElem? (i := 115) rfl)) rfl (gi_cons (List.mem_append_left _ (List.mem_of_getElem? (i := 116) rfl)) rfl (gi_cons (List.mem_append_left _ (List.mem_of_getElem? (i := 117) rfl)) rfl (gi_cons (List.mem_append_left _ (List.mem_of_getElem? (i := 118) rfl)) rfl (gi_cons (List.mem_append_left _ (List.mem_of_getElem? (i := 119) rfl)) rfl (gi_cons (List.mem_append_left _ (List.mem_of_getElem? (i := 120) rfl)) rfl (gi_cons (List.mem_append_left _ (List.mem_of_getElem? (i := 121) rfl)) rfl (gi_cons (List.mem_append_left _ (List.mem_of_getElem? (i := 122) rfl)) rfl gi_nil)))))))))))))))))))))))))))))))))))))))))))))))))))))))))))))))))))))))))))))))))))))))))))))))))))))))))))))))))))) (goodIn_app (goodIn_app (goodIn_app (goodIn_app igJ_X9 igJ_X5) igJ_Jx4a65c) igJ_X7) igJ_X11)))
set_option maxHeartbeats 4000000 in
set_option maxRecDepth 100000 in
/-- readOpen where the text has ended -/
theorem c_X7_readOpen_e (l : Launch) (dC : Nat → ClassId) (dI : Nat → Nat → Nat) (sz : Nat) (sz0 e0 k0 v0 : Nat) (h0 wo qk qp : Nat) (ck cp : ClassId) (fs gs : List Value) (fp : Nat → Int32) (cn : Int32) (hfl : fs.length = 18) (hgl : gs.length = 6) (hfw : fs[0]? = some (.ref wo)) (hfa : fs[11]? = some (.int 0)) (hff : fs[15]? = some (.int (-1))) (hfc : fs[12]? = some (.int cn)) (hgk : gs[1]? = some (.ref qk)) (hgp : gs[2]? = some (.ref qp)) (hp0 : fp (0 : Int32).toNatClampNeg = 0) : Met l yX7_readOpen wJ_X7_readOpen ({ frames := 8, cells := 7, slots := 63, locals := 260 }) (zPl dC dI sz0 e0 k0 v0 sz [.ref h0, .int 0] [(h0, .inr (9, fs)), (wo, .inr (13, gs)), (qk, .inl (ck, 1, .inl (fun _ => 0))), (qp, .inl (cp, 1, .inl fp))] [(ck, .int), (cp, .int)]) (va_Qq (fun (r : Option Nat) (u : Nat) => r = some u) (zB dC dI (fun _ => [(ck, .int), (cp, .int)]) (fun _ : Nat => [(h0, .inr (9, fs.set 15 (.int (fp (0 : Int32).toNatClampNeg)))), (wo, .inr (13, gs)), (qk, .inl (ck, 1, .inl (fun _ => 0))), (qp, .inl (cp, 1, .inl fp))]) (va_A [(h0, .inr (9, fs)), (wo, .inr (13, gs)), (qk, .inl (ck, 1, .inl (fun _ => 0))), (qp, .inl (cp, 1, .inl fp))] sz)) (va_A [(h0, .inr (9, fs)), (wo, .inr (13, gs)), (qk, .inl (ck, 1, .inl (fun _ => 0))), (qp, .inl (cp, 1, .inl fp))] sz)) 7 63 (va_A [(h0, .inr (9, fs)), (wo, .inr (13, gs)), (qk, .inl (ck, 1, .inl (fun _ => 0))), (qp, .inl (cp, 1, .inl fp))] sz) := by
  refine Met.ofW (cc := cX7_readOpen) (maxL := 5) (ret := (some (.object "LiquidTongue$Node"))) (by decide) rfl ?_
  intro p e s m args below meth c s₁ B hml hv
  obtain ⟨⟨rfl, hsz, hP, hK, hD0, hz0, hES⟩, hL⟩ := hv
  have hE := hES.1
  have hSt := hES.2
  have hx := B.exec
  have hb := B.bytes
  have hr := B.returns
  have hts := atoms_spec (ws := wJ_X7_readOpen) B.pre
  have hown : s.vm.findClass RX7 = some m.cls := findClass_of_methodNamed B.named
  have hlocks := B.notSynchronized
  subst hsz
  have hD := hD0.self (sz := s.heap.size)
  generalize hAe : va_A [(h0, .inr (9, fs)), (wo, .inr (13, gs)), (qk, .inl (ck, 1, .inl (fun _ => 0))), (qp, .inl (cp, 1, .inl fp))] s.heap.size = A at hD ⊢
  have hA : ∀ q : Nat, s.heap.size ≤ q → A q := fun q h => by rw [← hAe]; exact Or.inr h
  have hA0 : ∀ q : Nat, A q → sz0 ≤ q := fun q h => by rw [← hAe] at h; exact zA_ge hD0 hz0 h
  have hS : va_S A s.heap s.heap [] := va_S.rf
  have hP : va_P (dC, dI) vwCl [(h0, .inr (9, fs)), (wo, .inr (13, gs)), (qk, .inl (ck, 1, .inl (fun _ => 0))), (qp, .inl (cp, 1, .inl fp))] s.heap := hP
  have hl := lv_entry ([.ref h0, .int 0]) (n := 5) (Nat.le_of_ble_eq_true rfl)
  rw [lg_entry_eq]
  generalize (lg_sl ([.ref h0, .int 0]) ++ List.replicate (5 - (lg_sl ([.ref h0, .int 0])).length) Slot.unset).toArray = ls at hl ⊢
  have hl : lv_has ls 5 [(0, .ref h0), (1, .int 0)] := hl
  refine lv_aload_n hx hb dX7_readOpen_0 rfl (lv_at hl 0 rfl) ?_
  have hPc := hP.sub (ws' := [(h0, .inr (9, fs)), (wo, .inr (13, gs)), (qk, .inl (ck, 1, .inl (fun _ => 0)))]) [0, 1, 2] rfl
  have hDc := hD.sub (ws' := [(h0, .inr (9, fs)), (wo, .inr (13, gs)), (qk, .inl (ck, 1, .inl (fun _ => 0)))]) [0, 1, 2] (by decide) rfl
  have hKc := hK.sub (tys' := [(ck, .int)]) [0] rfl
  have hFc := va_free (wc := [(h0, .inr (9, fs)), (wo, .inr (13, gs)), (qk, .inl (ck, 1, .inl (fun _ => 0)))]) hD hS hA [0, 1, 2] rfl
  refine va_calli (va_runV (As := []) (rest := []) ⟨hx, hb, hml, hown, hts⟩ (c_X7_kind_r0 l dC dI s.heap.size h0 fs (-1) wo gs qk 0 1 ck (fun _ => 0) hfl hff hfw hgl hgk hfa (show ¬ ((0 : Int32) < 0 ∨ 1 ≤ (0 : Int32).toNatClampNeg) from by decide) (by decide)) (cwV 0 hts (gi_tail gJ_X7_57_X7_kind) rfl rfl rfl (by decide +kernel) ⟨Nat.le_of_ble_eq_true rfl, Nat.le_of_ble_eq_true rfl⟩) ⟨zPc_blind, va_recv hKc hPc (ci := 9) (q0 := 0) rfl rfl, fun U hU hW => zPc_at hPc hKc hDc hU hW⟩ rfl rfl hl.1 rfl (lv_room (Nat.le_of_ble_eq_true rfl)) dX7_readOpen_1 ⟨Nat.le_of_ble_eq_true rfl, Nat.le_of_ble_eq_true rfl⟩) hS (fun q _ h => hFc q h) hFc (fun r_1 u t H1 locs ht hvm hw hB hz1 hk1 hS => ?_)
  obtain ⟨hP1, hK1, hD1⟩ := hB
  have hw := hw.symm
  subst hw
  rw [ht] at hP1
  have hK1 := va_K.moved hvm.symm hK1
  obtain ⟨hP, hD⟩ := va_join (wr := [(qp, .inl (cp, 1, .inl fp))]) (w1 := [(h0, .inr (9, fs)), (wo, .inr (13, gs)), (qk, .inl (ck, 1, .inl (fun _ => 0)))]) hP hD [0, 1, 2] [3] rfl rfl (by decide) (by decide) hk1 hFc hP1 hD1
  generalize H1 = H at hP hS ⊢
  have hP : va_P (dC, dI) vwCl [(qp, .inl (cp, 1, .inl fp)), (h0, .inr (9, fs)), (wo, .inr (13, gs)), (qk, .inl (ck, 1, .inl (fun _ => 0)))] H := hP
  have hD : va_D A [(qp, .inl (cp, 1, .inl fp)), (h0, .inr (9, fs)), (wo, .inr (13, gs)), (qk, .inl (ck, 1, .inl (fun _ => 0)))] := hD
  refine lv_topi (fun z_2 ez_2 => ?_)
  have fz_2 : z_2 = 0 := ez_2.trans (by decide)
  clear ez_2
  subst fz_2
  refine lv_iconst (v := 1) hx hb dX7_readOpen_4 (by decide) ?_
  refine lv_icmp_ne (tgt := 25) hx hb dX7_readOpen_5 (by decide) (fun c_1 => ?_) (fun c_1 => absurd c_1 (by decide))
  refine lv_iconst (v := 0) hx hb dX7_readOpen_25 (by decide) ?_
  refine lv_istore_n (lv' := [(2, .int 0), (0, .ref h0), (1, .int 0)]) hx hb dX7_readOpen_26 rfl hl (by decide) rfl (fun ls hl => ?_)
  refine lv_iload_n hx hb dX7_readOpen_27 rfl (lv_at hl 0 rfl) ?_
  refine lv_bipush (v := 91) hx hb dX7_readOpen_28 (by decide) ?_
  refine lv_icmp_ne (tgt := 47) hx hb dX7_readOpen_30 (by decide) (fun c_2 => ?_) (fun c_2 => absurd c_2 (by decide))
  refine lv_iload_n hx hb dX7_readOpen_47 rfl (lv_at hl 0 rfl) ?_
  have hPc := hP.sub (ws' := []) [] rfl
  have hDc := hD.sub (ws' := []) [] (by decide) rfl
  have hKc := hK.sub (tys' := []) [] rfl
  have hFc := va_free (wc := []) hD hS hA [] rfl
  refine va_calli (va_runS (As := [.int 0]) (rest := []) ⟨hx, hb, hml, hown, hts⟩ (c_X7_beginsArgument_r4 l dC dI H.size 0 (by decide) (by decide) (by decide) (by decide) (by decide)) (va_cwS 1 hts (gi_tail gJ_X7_278_X7_beginsArgument) rfl rfl rfl (by decide +kernel) ⟨Nat.le_of_ble_eq_true rfl, Nat.le_of_ble_eq_true rfl⟩) ⟨zPc_blind, fun U hU hW => zPc_at hPc hKc hDc hU hW⟩ rfl rfl hl.1 rfl (lv_room (Nat.le_of_ble_eq_true rfl)) dX7_readOpen_48 ⟨Nat.le_of_ble_eq_true rfl, Nat.le_of_ble_eq_true rfl⟩) hS (fun q _ h => hFc q h) hFc (fun r_3 u t H1 locs ht hvm hw hB hz1 hk1 hS => ?_)
  obtain ⟨hP1, hK1, hD1⟩ := hB
  subst hw
  rw [ht] at hP1
  have hK1 := va_K.moved hvm.symm hK1
  obtain ⟨hP, hD⟩ := va_join (wr := [(qp, .inl (cp, 1, .inl fp)), (h0, .inr (9, fs)), (wo, .inr (13, gs)), (qk, .inl (ck, 1, .inl (fun _ => 0)))]) (w1 := []) hP hD [] [0, 1, 2, 3] rfl rfl (by decide) (by decide) hk1 hFc hP1 hD1
  generalize H1 = H at hP hS ⊢
  have hP : va_P (dC, dI) vwCl [(qp, .inl (cp, 1, .inl fp)), (h0, .inr (9, fs)), (wo, .inr (13, gs)), (qk, .inl (ck, 1, .inl (fun _ => 0)))] H := hP
  have hD : va_D A [(qp, .inl (cp, 1, .inl fp)), (h0, .inr (9, fs)), (wo, .inr (13, gs)), (qk, .inl (ck, 1, .inl (fun _ => 0)))] := hD
  refine lv_if_eq (tgt := 60) hx hb dX7_readOpen_51 (by decide) (fun c_3 => ?_) (fun c_3 => absurd (by decide) c_3)
  refine lv_aload_n hx hb dX7_readOpen_60 rfl (lv_at hl 1 rfl) ?_
  have hPc := hP.sub (ws' := [(h0, .inr (9, fs)), (wo, .inr (13, gs)), (qk, .inl (ck, 1, .inl (fun _ => 0))), (qp, .inl (cp, 1, .inl fp))]) [1, 2, 3, 0] rfl
  have hDc := hD.sub (ws' := [(h0, .inr (9, fs)), (wo, .inr (13, gs)), (qk, .inl (ck, 1, .inl (fun _ => 0))), (qp, .inl (cp, 1, .inl fp))]) [1, 2, 3, 0] (by decide) rfl
  have hKc := hK.sub (tys' := [(ck, .int), (cp, .int)]) [0, 1] rfl
  have hFc := va_free (wc := [(h0, .inr (9, fs)), (wo, .inr (13, gs)), (qk, .inl (ck, 1, .inl (fun _ => 0))), (qp, .inl (cp, 1, .inl fp))]) hD hS hA [1, 2, 3, 0] rfl
  refine va_callq (va_runV (As := []) (rest := []) ⟨hx, hb, hml, hown, hts⟩ (c_X7_sum0_e l dC dI H.size sz0 e0 k0 v0 h0 wo qk qp ck cp fs gs fp cn hfl hgl hfw hfa hff hfc hgk hgp hp0) (cwV 0 hts (gi_tail gJ_X7_185_X7_sum) rfl rfl rfl (by decide +kernel) ⟨Nat.le_of_ble_eq_true rfl, Nat.le_of_ble_eq_true rfl⟩) ⟨zPl_blind, va_recv hKc hPc (ci := 9) (q0 := 0) rfl rfl, fun U hU hW => zPl_at hPc hKc hDc hS hA0 hz0 hES hL hU hW⟩ rfl rfl hl.1 rfl (lv_room (Nat.le_of_ble_eq_true rfl)) dX7_readOpen_61 ⟨Nat.le_of_ble_eq_true rfl, Nat.le_of_ble_eq_true rfl⟩) hS (fun q _ h => hFc q h) hFc (fun rq u t H1 locs ht hvm hw hB hz1 hk1 hS => ?_)
  obtain ⟨hP1, hK1, hD1⟩ := hB
  obtain ⟨n1, rfl⟩ : ∃ z, z = u := ⟨_, rfl⟩
  subst hw
  rw [ht] at hP1
  have hK1 := va_K.moved hvm.symm hK1
  obtain ⟨hP, hD⟩ := va_join (wr := []) (w1 := [(h0, .inr (9, (fs.set 15 (.int (fp (0 : Int32).toNatClampNeg))))), (wo, .inr (13, gs)), (qk, .inl (ck, 1, .inl (fun _ => 0))), (qp, .inl (cp, 1, .inl fp))]) hP hD [1, 2, 3, 0] [] rfl rfl (by decide) (by decide) hk1 hFc hP1 hD1
  generalize H1 = H at hP hS ⊢
  have hP : va_P (dC, dI) vwCl [(h0, .inr (9, (fs.set 15 (.int (fp (0 : Int32).toNatClampNeg))))), (wo, .inr (13, gs)), (qk, .inl (ck, 1, .inl (fun _ => 0))), (qp, .inl (cp, 1, .inl fp))] H := hP
  have hD : va_D A [(h0, .inr (9, (fs.set 15 (.int (fp (0 : Int32).toNatClampNeg))))), (wo, .inr (13, gs)), (qk, .inl (ck, 1, .inl (fun _ => 0))), (qp, .inl (cp, 1, .inl fp))] := hD
  refine W.widen (k := 7) (n := 63) (Nat.le_of_ble_eq_true rfl) (Nat.le_of_ble_eq_true rfl) ?_
  refine W.eq (g2 := F0 m 64 ls [.ref n1]) rfl ?_
  refine lv_astore_n (lv' := [(3, .ref n1), (2, .int 0), (0, .ref h0), (1, .int 0)]) hx hb dX7_readOpen_64 rfl hl (by decide) rfl (fun ls hl => ?_)
  refine lv_aload_n hx hb dX7_readOpen_65 rfl (lv_at hl 2 rfl) ?_
  have hPc := hP.sub (ws' := [(h0, .inr (9, (fs.set 15 (.int (fp (0 : Int32).toNatClampNeg)))))]) [0] rfl
  have hDc := hD.sub (ws' := [(h0, .inr (9, (fs.set 15 (.int (fp (0 : Int32).toNatClampNeg)))))]) [0] (by decide) rfl
  have hKc := hK.sub (tys' := []) [] rfl
  have hFc := va_free (wc := [(h0, .inr (9, (fs.set 15 (.int (fp (0 : Int32).toNatClampNeg)))))]) hD hS hA [0] rfl
  refine va_calli (va_runV (As := []) (rest := []) ⟨hx, hb, hml, hown, hts⟩ (c_X7_kind_r1 l dC dI H.size h0 (fs.set 15 (.int (fp (0 : Int32).toNatClampNeg))) (fp (0 : Int32).toNatClampNeg) (zs_len hfl) (zs_eq (zs_lt hfl (by decide))) (by rw [hp0]; decide)) (cwV 0 hts (gi_tail gJ_X7_57_X7_kind) rfl rfl rfl (by decide +kernel) ⟨Nat.le_of_ble_eq_true rfl, Nat.le_of_ble_eq_true rfl⟩) ⟨zPc_blind, va_recv hKc hPc (ci := 9) (q0 := 0) rfl rfl, fun U hU hW => zPc_at hPc hKc hDc hU hW⟩ rfl rfl hl.1 rfl (lv_room (Nat.le_of_ble_eq_true rfl)) dX7_readOpen_66 ⟨Nat.le_of_ble_eq_true rfl, Nat.le_of_ble_eq_true rfl⟩) hS (fun q _ h => hFc q h) hFc (fun r_4 u t H1 locs ht hvm hw hB hz1 hk1 hS => ?_)
  obtain ⟨hP1, hK1, hD1⟩ := hB
  have hw := hw.symm
  subst hw
  rw [ht] at hP1
  have hK1 := va_K.moved hvm.symm hK1
  obtain ⟨hP, hD⟩ := va_join (wr := [(wo, .inr (13, gs)), (qk, .inl (ck, 1, .inl (fun _ => 0))), (qp, .inl (cp, 1, .inl fp))]) (w1 := [(h0, .inr (9, (fs.set 15 (.int (fp (0 : Int32).toNatClampNeg)))))]) hP hD [0] [1, 2, 3] rfl rfl (by decide) (by decide) hk1 hFc hP1 hD1
  generalize H1 = H at hP hS ⊢
  have hP : va_P (dC, dI) vwCl [(wo, .inr (13, gs)), (qk, .inl (ck, 1, .inl (fun _ => 0))), (qp, .inl (cp, 1, .inl fp)), (h0, .inr (9, (fs.set 15 (.int (fp (0 : Int32).toNatClampNeg)))))] H := hP
  have hD : va_D A [(wo, .inr (13, gs)), (qk, .inl (ck, 1, .inl (fun _ => 0))), (qp, .inl (cp, 1, .inl fp)), (h0, .inr (9, (fs.set 15 (.int (fp (0 : Int32).toNatClampNeg)))))] := hD
  refine lv_topi (fun z_5 ez_5 => ?_)
  have fz_5 : z_5 = 0 := ez_5.trans (by decide)
  clear ez_5
  subst fz_5
  refine lv_bipush (v := 42) hx hb dX7_readOpen_69 (by decide) ?_
  refine lv_icmp_eq (tgt := 94) hx hb dX7_readOpen_71 (by decide) (fun c_4 => absurd c_4 (by decide)) (fun c_4 => ?_)
  refine lv_aload_n hx hb dX7_readOpen_74 rfl (lv_at hl 2 rfl) ?_
  have hPc := hP.sub (ws' := [(h0, .inr (9, (fs.set 15 (.int (fp (0 : Int32).toNatClampNeg)))))]) [3] rfl
  have hDc := hD.sub (ws' := [(h0, .inr (9, (fs.set 15 (.int (fp (0 : Int32).toNatClampNeg)))))]) [3] (by decide) rfl
  have hKc := hK.sub (tys' := []) [] rfl
  have hFc := va_free (wc := [(h0, .inr (9, (fs.set 15 (.int (fp (0 : Int32).toNatClampNeg)))))]) hD hS hA [3] rfl
  refine va_calli (va_runV (As := []) (rest := []) ⟨hx, hb, hml, hown, hts⟩ (c_X7_kind_r1 l dC dI H.size h0 (fs.set 15 (.int (fp (0 : Int32).toNatClampNeg))) (fp (0 : Int32).toNatClampNeg) (zs_len hfl) (zs_eq (zs_lt hfl (by decide))) (by rw [hp0]; decide)) (cwV 0 hts (gi_tail gJ_X7_57_X7_kind) rfl rfl rfl (by decide +kernel) ⟨Nat.le_of_ble_eq_true rfl, Nat.le_of_ble_eq_true rfl⟩) ⟨zPc_blind, va_recv hKc hPc (ci := 9) (q0 := 0) rfl rfl, fun U hU hW => zPc_at hPc hKc hDc hU hW⟩ rfl rfl hl.1 rfl (lv_room (Nat.le_of_ble_eq_true rfl)) dX7_readOpen_75 ⟨Nat.le_of_ble_eq_true rfl, Nat.le_of_ble_eq_true rfl⟩) hS (fun q _ h => hFc q h) hFc (fun r_6 u t H1 locs ht hvm hw hB hz1 hk1 hS => ?_)
  obtain ⟨hP1, hK1, hD1⟩ := hB
  have hw := hw.symm
  subst hw
  rw [ht] at hP1
  have hK1 := va_K.moved hvm.symm hK1
  obtain ⟨hP, hD⟩ := va_join (wr := [(wo, .inr (13, gs)), (qk, .inl (ck, 1, .inl (fun _ => 0))), (qp, .inl (cp, 1, .inl fp))]) (w1 := [(h0, .inr (9, (fs.set 15 (.int (fp (0 : Int32).toNatClampNeg)))))]) hP hD [3] [0, 1, 2] rfl rfl (by decide) (by decide) hk1 hFc hP1 hD1
  generalize H1 = H at hP hS ⊢
  have hP : va_P (dC, dI) vwCl [(wo, .inr (13, gs)), (qk, .inl (ck, 1, .inl (fun _ => 0))), (qp, .inl (cp, 1, .inl fp)), (h0, .inr (9, (fs.set 15 (.int (fp (0 : Int32).toNatClampNeg)))))] H := hP
  have hD : va_D A [(wo, .inr (13, gs)), (qk, .inl (ck, 1, .inl (fun _ => 0))), (qp, .inl (cp, 1, .inl fp)), (h0, .inr (9, (fs.set 15 (.int (fp (0 : Int32).toNatClampNeg)))))] := hD
  refine lv_topi (fun z_7 ez_7 => ?_)
  have fz_7 : z_7 = 0 := ez_7.trans (by decide)
  clear ez_7
  subst fz_7
  refine lv_bipush (v := 47) hx hb dX7_readOpen_78 (by decide) ?_
  refine lv_icmp_eq (tgt := 94) hx hb dX7_readOpen_80 (by decide) (fun c_5 => absurd c_5 (by decide)) (fun c_5 => ?_)
  refine lv_aload_n hx hb dX7_readOpen_83 rfl (lv_at hl 2 rfl) ?_
  have hPc := hP.sub (ws' := [(h0, .inr (9, (fs.set 15 (.int (fp (0 : Int32).toNatClampNeg)))))]) [3] rfl
  have hDc := hD.sub (ws' := [(h0, .inr (9, (fs.set 15 (.int (fp (0 : Int32).toNatClampNeg)))))]) [3] (by decide) rfl
  have hKc := hK.sub (tys' := []) [] rfl
  have hFc := va_free (wc := [(h0, .inr (9, (fs.set 15 (.int (fp (0 : Int32).toNatClampNeg)))))]) hD hS hA [3] rfl
  refine va_calli (va_runV (As := []) (rest := []) ⟨hx, hb, hml, hown, hts⟩ (c_X7_kind_r1 l dC dI H.size h0 (fs.set 15 (.int (fp (0 : Int32).toNatClampNeg))) (fp (0 : Int32).toNatClampNeg) (zs_len hfl) (zs_eq (zs_lt hfl (by decide))) (by rw [hp0]; decide)) (cwV 0 hts (gi_tail gJ_X7_57_X7_kind) rfl rfl rfl (by decide +kernel) ⟨Nat.le_of_ble_eq_true rfl, Nat.le_of_ble_eq_true rfl⟩) ⟨zPc_blind, va_recv hKc hPc (ci := 9) (q0 := 0) rfl rfl, fun U hU hW => zPc_at hPc hKc hDc hU hW⟩ rfl rfl hl.1 rfl (lv_room (Nat.le_of_ble_eq_true rfl)) dX7_readOpen_84 ⟨Nat.le_of_ble_eq_true rfl, Nat.le_of_ble_eq_true rfl⟩) hS (fun q _ h => hFc q h) hFc (fun r_8 u t H1 locs ht hvm hw hB hz1 hk1 hS => ?_)
  obtain ⟨hP1, hK1, hD1⟩ := hB
  have hw := hw.symm
  subst hw
  rw [ht] at hP1
  have hK1 := va_K.moved hvm.symm hK1
  obtain ⟨hP, hD⟩ := va_join (wr := [(wo, .inr (13, gs)), (qk, .inl (ck, 1, .inl (fun _ => 0))), (qp, .inl (cp, 1, .inl fp))]) (w1 := [(h0, .inr (9, (fs.set 15 (.int (fp (0 : Int32).toNatClampNeg)))))]) hP hD [3] [0, 1, 2] rfl rfl (by decide) (by decide) hk1 hFc hP1 hD1
  generalize H1 = H at hP hS ⊢
  have hP : va_P (dC, dI) vwCl [(wo, .inr (13, gs)), (qk, .inl (ck, 1, .inl (fun _ => 0))), (qp, .inl (cp, 1, .inl fp)), (h0, .inr (9, (fs.set 15 (.int (fp (0 : Int32).toNatClampNeg)))))] H := hP
  have hD : va_D A [(wo, .inr (13, gs)), (qk, .inl (ck, 1, .inl (fun _ => 0))), (qp, .inl (cp, 1, .inl fp)), (h0, .inr (9, (fs.set 15 (.int (fp (0 : Int32).toNatClampNeg)))))] := hD
  refine lv_topi (fun z_9 ez_9 => ?_)
  have fz_9 : z_9 = 0 := ez_9.trans (by decide)
  clear ez_9
  subst fz_9
  refine lv_bipush (v := 37) hx hb dX7_readOpen_87 (by decide) ?_
  refine lv_icmp_eq (tgt := 94) hx hb dX7_readOpen_89 (by decide) (fun c_6 => absurd c_6 (by decide)) (fun c_6 => ?_)
  refine lv_aload_n hx hb dX7_readOpen_92 rfl (lv_at hl 0 rfl) ?_
  have hP9 := hP.sub (ws' := [(h0, .inr (9, (fs.set 15 (.int (fp (0 : Int32).toNatClampNeg))))), (wo, .inr (13, gs)), (qk, .inl (ck, 1, .inl (fun _ => 0))), (qp, .inl (cp, 1, .inl fp))]) [3, 0, 1, 2] rfl
  have hD9 := hD.sub (ws' := [(h0, .inr (9, (fs.set 15 (.int (fp (0 : Int32).toNatClampNeg))))), (wo, .inr (13, gs)), (qk, .inl (ck, 1, .inl (fun _ => 0))), (qp, .inl (cp, 1, .inl fp))]) [3, 0, 1, 2] (by decide) rfl
  have hK9 := hK.sub (tys' := [(ck, .int), (cp, .int)]) [0, 1] rfl
  exact W.aret (v := .ref n1) hx hb hr (Or.inl ⟨_, rfl⟩) (Or.inr ⟨_, rfl⟩) (fun t ht hW => ⟨⟨some n1, n1, rfl, rfl, (zB_mk (by rw [ht]; exact hP9) (va_K.moved hW.alike hK9) hD9)⟩, hS.F ht⟩) hS.2.2 dX7_readOpen_93
