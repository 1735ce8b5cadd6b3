def RJxa1e45 : String := "java/util/AbstractCollection"
abbrev cJxa1e45_init_da8c8 : ByteArray := prog_25_method_1_code
def yJxa1e45_init_da8c8 : MethodName := ⟨RJxa1e45, "<init>", "()V"⟩
def RJxc12de : String := "java/util/AbstractList"
abbrev cJxc12de_init_da8c8 : ByteArray := prog_26_method_1_code
def yJxc12de_init_da8c8 : MethodName := ⟨RJxc12de, "<init>", "()V"⟩
def tyJx4a65c : Nat → FieldType := fun k => match k with
  | 0 => .int
  | 1 => .array (.object "java/lang/Object")
  | _ => .int
abbrev wsJx4a65c0 : List Cond := u_ws RJx4a65c TJx4a65c 3
theorem nmJx4a65c : ∀ a, a < 3 → ∀ b, b < 3 → a ≠ b → (TJx4a65c a).2.1 ≠ (TJx4a65c b).2.1 := by decide +kernel
theorem tyJx4a65c_ok : ∀ k, k < 3 → parseFieldDescriptor (TJx4a65c k).2.2.1 = some (tyJx4a65c k) := by decide +kernel
abbrev cJx4a65c_init_da8c8 : ByteArray := prog_27_method_2_code
def yJx4a65c_init_da8c8 : MethodName := ⟨RJx4a65c, "<init>", "()V"⟩
def wsJxa1e45_init_da8c8 : List Cond := .code yJxa1e45_init_da8c8 cJxa1e45_init_da8c8 1 none :: ([.methodLink RJxa1e45 1 objectInit, .instanceMethod objectInit, .code objectInit ⟨#[0xb1]⟩ 1 none])
def wsJxc12de_init_da8c8 : List Cond := .code yJxc12de_init_da8c8 cJxc12de_init_da8c8 1 none :: ([.fieldLink RJxc12de 7 "java/util/AbstractList" "modCount" "I", .methodLink RJxc12de 1 yJxa1e45_init_da8c8, .instanceMethod yJxa1e45_init_da8c8, .initialized RJxa1e45, .code yJxa1e45_init_da8c8 cJxa1e45_init_da8c8 1 none, .methodLink RJxa1e45 1 objectInit, .instanceMethod objectInit, .code objectInit ⟨#[0xb1]⟩ 1 none] ++ wsJx4a65c0)
def wsJx4a65c_init_da8c8 : List Cond := .code yJx4a65c_init_da8c8 cJx4a65c_init_da8c8 1 none :: ([.fieldLink RJx4a65c 39 "java/util/ArrayList" "DEFAULTCAPACITY_EMPTY_ELEMENTDATA" "[Ljava/lang/Object;", .fieldLink RJx4a65c 9 "java/util/ArrayList" "elementData" "[Ljava/lang/Object;", .methodLink RJx4a65c 1 yJxc12de_init_da8c8, .instanceMethod yJxc12de_init_da8c8, .initialized RJxc12de, .code yJxc12de_init_da8c8 cJxc12de_init_da8c8 1 none, .fieldLink RJxc12de 7 "java/util/AbstractList" "modCount" "I", .methodLink RJxc12de 1 yJxa1e45_init_da8c8, .instanceMethod yJxa1e45_init_da8c8, .initialized RJxa1e45, .code yJxa1e45_init_da8c8 cJxa1e45_init_da8c8 1 none, .methodLink RJxa1e45 1 objectInit, .instanceMethod objectInit, .code objectInit ⟨#[0xb1]⟩ 1 none] ++ wsJx4a65c0)
def wsX6_init : List Cond := .code yX6_init cX6_init 1 none :: ([.methodLink RX6 1 objectInit, .instanceMethod objectInit, .code objectInit ⟨#[0xb1]⟩ 1 none, .arrayClass .long, .fieldLink RX6 7 "LiquidTongue$Octagon" "cells" "[J"] ++ wsX60)
def wsX1_init : List Cond := .code yX1_init cX1_init 1 none :: ([.methodLink RX1 3 objectInit, .instanceMethod objectInit, .code objectInit ⟨#[0xb1]⟩ 1 none, .classLink RX1 9 RX6, .instantiable RX6 5, .initialized RX6, .fieldLink RX1 12 "LiquidTongue$Judge" "octagon" "LLiquidTongue$Octagon;", .classLink RX1 18 RX5, .fieldLink RX1 20 "LiquidTongue$Judge" "pending" "[LLiquidTongue$Node;", .arrayClass .boolean, .fieldLink RX1 24 "LiquidTongue$Judge" "pendingHolds" "[Z", .classLink RX1 28 RX4, .fieldLink RX1 30 "LiquidTongue$Judge" "truths" "[LLiquidTongue$Name;", .fieldLink RX1 34 "LiquidTongue$Judge" "truthHolds" "[Z", .instanceMethod yX6_init, .code yX6_init cX6_init 1 none, .methodLink RX6 1 objectInit, .arrayClass .long, .fieldLink RX6 7 "LiquidTongue$Octagon" "cells" "[J"] ++ wsX60 ++ wsX10)
def wsX3_init : List Cond := .code yX3_init cX3_init 1 none :: ([.methodLink RX3 5 objectInit, .instanceMethod objectInit, .code objectInit ⟨#[0xb1]⟩ 1 none, .arrayClass .long, .fieldLink RX3 11 "LiquidTongue$Machine" "given" "[J", .classLink RX3 15 "[I", .fieldLink RX3 17 "LiquidTongue$Machine" "givenRows" "[[I", .fieldLink RX3 21 "LiquidTongue$Machine" "heap" "[J", .classLink RX3 24 RX5, .fieldLink RX3 26 "LiquidTongue$Machine" "waiting" "[LLiquidTongue$Node;", .arrayClass .int, .fieldLink RX3 30 "LiquidTongue$Machine" "waitingScopes" "[I", .fieldLink RX3 33 "LiquidTongue$Machine" "waitingArguments" "[I"] ++ wsX30)
def wsX12_init_r1 : List Cond := [Cond.methodLink RX12 1 objectInit, Cond.instanceMethod objectInit, Cond.code objectInit ⟨#[0xb1]⟩ 1 none, Cond.arrayClass .byte, Cond.fieldLink RX12 9 "LiquidTongue" "tape" "[B", Cond.fieldLink RX12 13 "LiquidTongue" "place" "I", Cond.fieldLink RX12 17 "LiquidTongue" "out" "[B", Cond.fieldLink RX12 20 "LiquidTongue" "draft" "[B", Cond.classLink RX12 23 RJx4a65c, Cond.instantiable RJx4a65c 3, Cond.initialized RJx4a65c, Cond.fieldLink RX12 26 "LiquidTongue" "nameless" "Ljava/util/ArrayList;", Cond.classLink RX12 30 RX1, Cond.instantiable RX1 10, Cond.initialized RX1, Cond.fieldLink RX12 33 "LiquidTongue" "judge" "LLiquidTongue$Judge;", Cond.classLink RX12 37 RX3, Cond.instantiable RX3 18, Cond.initialized RX3, Cond.fieldLink RX12 40 "LiquidTongue" "machine" "LLiquidTongue$Machine;", Cond.methodLink RX12 25 yJx4a65c_init_da8c8, Cond.instanceMethod yJx4a65c_init_da8c8, Cond.code yJx4a65c_init_da8c8 cJx4a65c_init_da8c8 1 none, Cond.fieldLink RJx4a65c 39 "java/util/ArrayList" "DEFAULTCAPACITY_EMPTY_ELEMENTDATA" "[Ljava/lang/Object;"]
def wsX12_init_r2 : List Cond := [Cond.fieldLink RJx4a65c 9 "java/util/ArrayList" "elementData" "[Ljava/lang/Object;", Cond.methodLink RJx4a65c 1 yJxc12de_init_da8c8, Cond.instanceMethod yJxc12de_init_da8c8, Cond.initialized RJxc12de, Cond.code yJxc12de_init_da8c8 cJxc12de_init_da8c8 1 none, Cond.fieldLink RJxc12de 7 "java/util/AbstractList" "modCount" "I", Cond.methodLink RJxc12de 1 yJxa1e45_init_da8c8, Cond.instanceMethod yJxa1e45_init_da8c8, Cond.initialized RJxa1e45, Cond.code yJxa1e45_init_da8c8 cJxa1e45_init_da8c8 1 none, Cond.methodLink RJxa1e45 1 objectInit, Cond.instanceMethod yX1_init, Cond.code yX1_init cX1_init 1 none, Cond.methodLink RX1 3 objectInit, Cond.classLink RX1 9 RX6, Cond.instantiable RX6 5, Cond.initialized RX6, Cond.fieldLink RX1 12 "LiquidTongue$Judge" "octagon" "LLiquidTongue$Octagon;", Cond.classLink RX1 18 RX5, Cond.fieldLink RX1 20 "LiquidTongue$Judge" "pending" "[LLiquidTongue$Node;", Cond.arrayClass .boolean, Cond.fieldLink RX1 24 "LiquidTongue$Judge" "pendingHolds" "[Z", Cond.classLink RX1 28 RX4, Cond.fieldLink RX1 30 "LiquidTongue$Judge" "truths" "[LLiquidTongue$Name;"]
def wsX12_init_r3 : List Cond := [Cond.fieldLink RX1 34 "LiquidTongue$Judge" "truthHolds" "[Z", Cond.instanceMethod yX6_init, Cond.code yX6_init cX6_init 1 none, Cond.methodLink RX6 1 objectInit, Cond.arrayClass .long, Cond.fieldLink RX6 7 "LiquidTongue$Octagon" "cells" "[J", Cond.instanceMethod yX3_init, Cond.code yX3_init cX3_init 1 none, Cond.methodLink RX3 5 objectInit, Cond.fieldLink RX3 11 "LiquidTongue$Machine" "given" "[J", Cond.classLink RX3 15 "[I", Cond.fieldLink RX3 17 "LiquidTongue$Machine" "givenRows" "[[I", Cond.fieldLink RX3 21 "LiquidTongue$Machine" "heap" "[J", Cond.classLink RX3 24 RX5, Cond.fieldLink RX3 26 "LiquidTongue$Machine" "waiting" "[LLiquidTongue$Node;", Cond.arrayClass .int, Cond.fieldLink RX3 30 "LiquidTongue$Machine" "waitingScopes" "[I", Cond.fieldLink RX3 33 "LiquidTongue$Machine" "waitingArguments" "[I"]
def wsX12_init : List Cond := .code yX12_init cX12_init 1 none :: ((wsX12_init_r1 ++ (wsX12_init_r2 ++ wsX12_init_r3)) ++ wsX120 ++ wsJx4a65c0 ++ wsX10 ++ wsX30 ++ wsX60)
def wsX13_init_r1 : List Cond := [Cond.methodLink RX13 3 objectInit, Cond.instanceMethod objectInit, Cond.code objectInit ⟨#[0xb1]⟩ 1 none, Cond.arrayClass .byte, Cond.fieldLink RX13 9 "LiquidTongueModel" "tape" "[B", Cond.fieldLink RX13 13 "LiquidTongueModel" "text" "[B", Cond.fieldLink RX13 16 "LiquidTongueModel" "outs" "[B", Cond.arrayClass .int, Cond.fieldLink RX13 19 "LiquidTongueModel" "wKind" "[I", Cond.fieldLink RX13 23 "LiquidTongueModel" "wAt" "[I", Cond.fieldLink RX13 26 "LiquidTongueModel" "wEnd" "[I", Cond.fieldLink RX13 29 "LiquidTongueModel" "kind" "[I", Cond.fieldLink RX13 32 "LiquidTongueModel" "at" "[I", Cond.fieldLink RX13 35 "LiquidTongueModel" "sign" "[I", Cond.fieldLink RX13 38 "LiquidTongueModel" "x1" "[I", Cond.fieldLink RX13 41 "LiquidTongueModel" "x2" "[I", Cond.fieldLink RX13 44 "LiquidTongueModel" "x3" "[I", Cond.fieldLink RX13 47 "LiquidTongueModel" "x4" "[I", Cond.fieldLink RX13 50 "LiquidTongueModel" "sFrom" "[I", Cond.fieldLink RX13 53 "LiquidTongueModel" "sTo" "[I", Cond.fieldLink RX13 56 "LiquidTongueModel" "sAt" "[I", Cond.fieldLink RX13 59 "LiquidTongueModel" "pKind" "[I", Cond.fieldLink RX13 62 "LiquidTongueModel" "pSign" "[I", Cond.fieldLink RX13 65 "LiquidTongueModel" "pWord" "[I"]
def wsX13_init_r2 : List Cond := [Cond.fieldLink RX13 68 "LiquidTongueModel" "aKind" "[I", Cond.fieldLink RX13 71 "LiquidTongueModel" "aWhat" "[I", Cond.fieldLink RX13 74 "LiquidTongueModel" "aAt" "[I", Cond.fieldLink RX13 77 "LiquidTongueModel" "qSort" "[I", Cond.fieldLink RX13 80 "LiquidTongueModel" "qRel" "[I", Cond.fieldLink RX13 83 "LiquidTongueModel" "qMinus" "[I", Cond.fieldLink RX13 86 "LiquidTongueModel" "qStar" "[I", Cond.fieldLink RX13 89 "LiquidTongueModel" "qNumber" "[I", Cond.fieldLink RX13 92 "LiquidTongueModel" "inWord" "[I", Cond.fieldLink RX13 95 "LiquidTongueModel" "inSort" "[I", Cond.fieldLink RX13 98 "LiquidTongueModel" "callWhat" "[I", Cond.fieldLink RX13 101 "LiquidTongueModel" "dWord" "[I", Cond.fieldLink RX13 104 "LiquidTongueModel" "dType" "[I", Cond.fieldLink RX13 107 "LiquidTongueModel" "whose" "[I", Cond.fieldLink RX13 110 "LiquidTongueModel" "scope" "[I", Cond.fieldLink RX13 113 "LiquidTongueModel" "tKind" "[I", Cond.fieldLink RX13 116 "LiquidTongueModel" "tLeft" "[I", Cond.fieldLink RX13 119 "LiquidTongueModel" "tRight" "[I", Cond.fieldLink RX13 122 "LiquidTongueModel" "tLink" "[I", Cond.fieldLink RX13 125 "LiquidTongueModel" "tSeen" "[I", Cond.fieldLink RX13 128 "LiquidTongueModel" "nodeType" "[I", Cond.fieldLink RX13 131 "LiquidTongueModel" "lName" "[I", Cond.fieldLink RX13 134 "LiquidTongueModel" "lTimes" "[I", Cond.fieldLink RX13 137 "LiquidTongueModel" "place" "I"]
def wsX13_init_r3 : List Cond := [Cond.constant RX13 141 (40000), Cond.fieldLink RX13 142 "LiquidTongueModel" "rKind" "[I", Cond.fieldLink RX13 145 "LiquidTongueModel" "rSaid" "[I", Cond.fieldLink RX13 148 "LiquidTongueModel" "rName" "[I", Cond.fieldLink RX13 151 "LiquidTongueModel" "rLeft" "[I", Cond.fieldLink RX13 154 "LiquidTongueModel" "rRight" "[I", Cond.fieldLink RX13 157 "LiquidTongueModel" "saidCase" "[I", Cond.fieldLink RX13 160 "LiquidTongueModel" "saidFact" "[I", Cond.fieldLink RX13 163 "LiquidTongueModel" "saidPut" "[I", Cond.fieldLink RX13 166 "LiquidTongueModel" "factRel" "[I", Cond.fieldLink RX13 169 "LiquidTongueModel" "factName" "[I", Cond.fieldLink RX13 172 "LiquidTongueModel" "factTimes" "[I", Cond.fieldLink RX13 175 "LiquidTongueModel" "factNext" "[I", Cond.arrayClass .long, Cond.fieldLink RX13 178 "LiquidTongueModel" "factNumber" "[J", Cond.fieldLink RX13 182 "LiquidTongueModel" "putName" "[I", Cond.fieldLink RX13 185 "LiquidTongueModel" "putBy" "[I", Cond.fieldLink RX13 188 "LiquidTongueModel" "putTimes" "[I", Cond.fieldLink RX13 191 "LiquidTongueModel" "putNext" "[I", Cond.fieldLink RX13 194 "LiquidTongueModel" "putNumber" "[J", Cond.fieldLink RX13 197 "LiquidTongueModel" "caseArray" "[I", Cond.fieldLink RX13 200 "LiquidTongueModel" "caseFrom" "[I", Cond.fieldLink RX13 203 "LiquidTongueModel" "caseTo" "[I", Cond.fieldLink RX13 206 "LiquidTongueModel" "byQual" "[I"]
def wsX13_init_r4 : List Cond := [Cond.fieldLink RX13 209 "LiquidTongueModel" "byName" "[I", Cond.arrayClass .boolean, Cond.fieldLink RX13 212 "LiquidTongueModel" "alive" "[Z", Cond.fieldLink RX13 216 "LiquidTongueModel" "isLength" "[Z", Cond.fieldLink RX13 219 "LiquidTongueModel" "isSize" "[Z", Cond.fieldLink RX13 222 "LiquidTongueModel" "envName" "[I", Cond.fieldLink RX13 225 "LiquidTongueModel" "envType" "[I", Cond.fieldLink RX13 228 "LiquidTongueModel" "envBefore" "[I", Cond.fieldLink RX13 231 "LiquidTongueModel" "goneNode" "[I", Cond.fieldLink RX13 234 "LiquidTongueModel" "goneIs" "[I", Cond.fieldLink RX13 237 "LiquidTongueModel" "goneBefore" "[I", Cond.fieldLink RX13 240 "LiquidTongueModel" "dRich" "[I", Cond.fieldLink RX13 243 "LiquidTongueModel" "fitLeft" "[I", Cond.fieldLink RX13 246 "LiquidTongueModel" "fitRight" "[I", Cond.fieldLink RX13 249 "LiquidTongueModel" "fitEnv" "[I", Cond.fieldLink RX13 252 "LiquidTongueModel" "fitGone" "[I", Cond.fieldLink RX13 255 "LiquidTongueModel" "soKind" "[I", Cond.fieldLink RX13 258 "LiquidTongueModel" "soWhat" "[I", Cond.fieldLink RX13 261 "LiquidTongueModel" "soName" "[I", Cond.fieldLink RX13 264 "LiquidTongueModel" "soEnv" "[I", Cond.fieldLink RX13 267 "LiquidTongueModel" "soGone" "[I", Cond.fieldLink RX13 270 "LiquidTongueModel" "soAt" "[I", Cond.fieldLink RX13 273 "LiquidTongueModel" "byNames" "[I", Cond.fieldLink RX13 276 "LiquidTongueModel" "byTurned" "[I"]
def wsX13_init_r5 : List Cond := [Cond.fieldLink RX13 279 "LiquidTongueModel" "base" "[J", Cond.fieldLink RX13 282 "LiquidTongueModel" "bound" "[J", Cond.fieldLink RX13 285 "LiquidTongueModel" "column" "[I", Cond.fieldLink RX13 288 "LiquidTongueModel" "used" "[I", Cond.fieldLink RX13 291 "LiquidTongueModel" "openNode" "[I", Cond.fieldLink RX13 294 "LiquidTongueModel" "openIs" "[I", Cond.fieldLink RX13 297 "LiquidTongueModel" "wayA" "[I", Cond.fieldLink RX13 300 "LiquidTongueModel" "wayTa" "[I", Cond.fieldLink RX13 303 "LiquidTongueModel" "wayB" "[I", Cond.fieldLink RX13 306 "LiquidTongueModel" "wayTb" "[I", Cond.fieldLink RX13 309 "LiquidTongueModel" "truthName" "[I", Cond.fieldLink RX13 312 "LiquidTongueModel" "truthIs" "[I", Cond.fieldLink RX13 315 "LiquidTongueModel" "wayNumber" "[J", Cond.fieldLink RX13 318 "LiquidTongueModel" "fails" "[Z", Cond.fieldLink RX13 321 "LiquidTongueModel" "saying" "[B", Cond.fieldLink RX13 324 "LiquidTongueModel" "dollar" "[I", Cond.fieldLink RX13 327 "LiquidTongueModel" "given" "[J", Cond.fieldLink RX13 330 "LiquidTongueModel" "elements" "[J", Cond.constant RX13 333 (260000), Cond.fieldLink RX13 334 "LiquidTongueModel" "slotName" "[I", Cond.fieldLink RX13 337 "LiquidTongueModel" "slotKind" "[I", Cond.fieldLink RX13 340 "LiquidTongueModel" "slotBefore" "[I", Cond.fieldLink RX13 343 "LiquidTongueModel" "slotValue" "[J", Cond.constant RX13 346 (60000)]
def wsX13_init_r6 : List Cond := [Cond.fieldLink RX13 347 "LiquidTongueModel" "fNode" "[I", Cond.fieldLink RX13 350 "LiquidTongueModel" "fSlots" "[I", Cond.fieldLink RX13 353 "LiquidTongueModel" "fHad" "[I", Cond.fieldLink RX13 356 "LiquidTongueModel" "fMany" "[I", Cond.fieldLink RX13 359 "LiquidTongueModel" "yFrom" "[I", Cond.fieldLink RX13 362 "LiquidTongueModel" "yLong" "[I", Cond.fieldLink RX13 365 "LiquidTongueModel" "heap" "[J", Cond.fieldLink RX13 368 "LiquidTongueModel" "doKind" "[I", Cond.fieldLink RX13 371 "LiquidTongueModel" "doWhat" "[I", Cond.fieldLink RX13 374 "LiquidTongueModel" "doSlots" "[I", Cond.fieldLink RX13 377 "LiquidTongueModel" "cellFirst" "[J", Cond.fieldLink RX13 380 "LiquidTongueModel" "cellRest" "[I", Cond.fieldLink RX13 383 "LiquidTongueModel" "cellMany" "[I"]
def wsX13_init : List Cond := .code yX13_init cX13_init 1 none :: ((wsX13_init_r1 ++ (wsX13_init_r2 ++ (wsX13_init_r3 ++ (wsX13_init_r4 ++ (wsX13_init_r5 ++ wsX13_init_r6))))) ++ wsX130)
set_option maxRecDepth 20000 in
theorem ggX1_init_X6_init : GoodIn wsX1_init wsX6_init := goodIn_r _ [16, 17, 2, 3, 18, 19, 20, 21, 22, 23, 24] (by decide +kernel) (by decide +kernel)
set_option maxRecDepth 20000 in
theorem gX1_init_X6_init_n11 : GoodIn wsX1_init (wsX6_init) := ggX1_init_X6_init
theorem dX1_init_0 : decode cX1_init 0 = .ok (.aload_n 0, 1) := by decide +kernel
theorem dX1_init_1 : decode cX1_init 1 = .ok (.invokespecial 3, 3) := by decide +kernel
theorem dX1_init_4 : decode cX1_init 4 = .ok (.aload_n 0, 1) := by decide +kernel
theorem dX1_init_5 : decode cX1_init 5 = .ok (.new 9, 3) := by decide +kernel
theorem dX1_init_8 : decode cX1_init 8 = .ok (.dup, 1) := by decide +kernel
theorem dX1_init_9 : decode cX1_init 9 = .ok (.invokespecial 11, 3) := by decide +kernel
theorem dX1_init_12 : decode cX1_init 12 = .ok (.putfield 12, 3) := by decide +kernel
theorem dX1_init_15 : decode cX1_init 15 = .ok (.aload_n 0, 1) := by decide +kernel
theorem dX1_init_16 : decode cX1_init 16 = .ok (.bipush 40, 2) := by decide +kernel
theorem dX1_init_18 : decode cX1_init 18 = .ok (.anewarray 18, 3) := by decide +kernel
theorem dX1_init_21 : decode cX1_init 21 = .ok (.putfield 20, 3) := by decide +kernel
theorem dX1_init_24 : decode cX1_init 24 = .ok (.aload_n 0, 1) := by decide +kernel
theorem dX1_init_25 : decode cX1_init 25 = .ok (.bipush 40, 2) := by decide +kernel
theorem dX1_init_27 : decode cX1_init 27 = .ok (.newarray .boolean, 2) := by decide +kernel
theorem dX1_init_29 : decode cX1_init 29 = .ok (.putfield 24, 3) := by decide +kernel
theorem dX1_init_32 : decode cX1_init 32 = .ok (.aload_n 0, 1) := by decide +kernel
theorem dX1_init_33 : decode cX1_init 33 = .ok (.bipush 40, 2) := by decide +kernel
theorem dX1_init_35 : decode cX1_init 35 = .ok (.anewarray 28, 3) := by decide +kernel
theorem dX1_init_38 : decode cX1_init 38 = .ok (.putfield 30, 3) := by decide +kernel
theorem dX1_init_41 : decode cX1_init 41 = .ok (.aload_n 0, 1) := by decide +kernel
theorem dX1_init_42 : decode cX1_init 42 = .ok (.bipush 40, 2) := by decide +kernel
theorem dX1_init_44 : decode cX1_init 44 = .ok (.newarray .boolean, 2) := by decide +kernel
theorem dX1_init_46 : decode cX1_init 46 = .ok (.putfield 34, 3) := by decide +kernel
theorem dX1_init_49 : decode cX1_init 49 = .ok (.return_, 1) := by decide +kernel
theorem dX3_init_0 : decode cX3_init 0 = .ok (.aload_n 0, 1) := by decide +kernel
theorem dX3_init_1 : decode cX3_init 1 = .ok (.invokespecial 5, 3) := by decide +kernel
theorem dX3_init_4 : decode cX3_init 4 = .ok (.aload_n 0, 1) := by decide +kernel
theorem dX3_init_5 : decode cX3_init 5 = .ok (.bipush 6, 2) := by decide +kernel
theorem dX3_init_7 : decode cX3_init 7 = .ok (.newarray .long, 2) := by decide +kernel
theorem dX3_init_9 : decode cX3_init 9 = .ok (.putfield 11, 3) := by decide +kernel
theorem dX3_init_12 : decode cX3_init 12 = .ok (.aload_n 0, 1) := by decide +kernel
theorem dX3_init_13 : decode cX3_init 13 = .ok (.bipush 6, 2) := by decide +kernel
theorem dX3_init_15 : decode cX3_init 15 = .ok (.anewarray 15, 3) := by decide +kernel
theorem dX3_init_18 : decode cX3_init 18 = .ok (.putfield 17, 3) := by decide +kernel
theorem dX3_init_21 : decode cX3_init 21 = .ok (.aload_n 0, 1) := by decide +kernel
theorem dX3_init_22 : decode cX3_init 22 = .ok (.bipush 64, 2) := by decide +kernel
theorem dX3_init_24 : decode cX3_init 24 = .ok (.newarray .long, 2) := by decide +kernel
theorem dX3_init_26 : decode cX3_init 26 = .ok (.putfield 21, 3) := by decide +kernel
theorem dX3_init_29 : decode cX3_init 29 = .ok (.aload_n 0, 1) := by decide +kernel
theorem dX3_init_30 : decode cX3_init 30 = .ok (.sipush 1683, 3) := by decide +kernel
theorem dX3_init_33 : decode cX3_init 33 = .ok (.anewarray 24, 3) := by decide +kernel
theorem dX3_init_36 : decode cX3_init 36 = .ok (.putfield 26, 3) := by decide +kernel
theorem dX3_init_39 : decode cX3_init 39 = .ok (.aload_n 0, 1) := by decide +kernel
theorem dX3_init_40 : decode cX3_init 40 = .ok (.sipush 1683, 3) := by decide +kernel
theorem dX3_init_43 : decode cX3_init 43 = .ok (.newarray .int, 2) := by decide +kernel
theorem dX3_init_45 : decode cX3_init 45 = .ok (.putfield 30, 3) := by decide +kernel
theorem dX3_init_48 : decode cX3_init 48 = .ok (.aload_n 0, 1) := by decide +kernel
theorem dX3_init_49 : decode cX3_init 49 = .ok (.sipush 1683, 3) := by decide +kernel
theorem dX3_init_52 : decode cX3_init 52 = .ok (.newarray .int, 2) := by decide +kernel
theorem dX3_init_54 : decode cX3_init 54 = .ok (.putfield 33, 3) := by decide +kernel
theorem dX3_init_57 : decode cX3_init 57 = .ok (.return_, 1) := by decide +kernel
theorem dX6_init_0 : decode cX6_init 0 = .ok (.aload_n 0, 1) := by decide +kernel
theorem dX6_init_1 : decode cX6_init 1 = .ok (.invokespecial 1, 3) := by decide +kernel
theorem dX6_init_4 : decode cX6_init 4 = .ok (.aload_n 0, 1) := by decide +kernel
theorem dX6_init_5 : decode cX6_init 5 = .ok (.iconst 0, 1) := by decide +kernel
theorem dX6_init_6 : decode cX6_init 6 = .ok (.newarray .long, 2) := by decide +kernel
theorem dX6_init_8 : decode cX6_init 8 = .ok (.putfield 7, 3) := by decide +kernel
theorem dX6_init_11 : decode cX6_init 11 = .ok (.return_, 1) := by decide +kernel
set_option maxRecDepth 20000 in
theorem ggX12_init_Jx4a65c_init_da8c8 : GoodIn wsX12_init wsJx4a65c_init_da8c8 := goodIn_r _ [23, 24, 25, 26, 27, 28, 29, 30, 31, 32, 33, 34, 35, 2, 3, 80, 81, 82] (by decide +kernel) (by decide +kernel)
set_option maxRecDepth 20000 in
theorem gX12_init_Jx4a65c_init_da8c8 : GoodIn wsX12_init (wsJx4a65c_init_da8c8) := ggX12_init_Jx4a65c_init_da8c8
set_option maxRecDepth 20000 in
theorem ggX12_init_X1_init : GoodIn wsX12_init wsX1_init := goodIn_r _ [37, 38, 2, 3, 39, 40, 41, 42, 43, 44, 45, 46, 47, 48, 49, 50, 51, 52, 53, 54, 111, 112, 113, 114, 115, 83, 84, 85, 86, 87, 88, 89, 90, 91, 92] (by decide +kernel) (by decide +kernel)
set_option maxRecDepth 20000 in
theorem gX12_init_X1_init_n32 : GoodIn wsX12_init (wsX1_init) := ggX12_init_X1_init
set_option maxRecDepth 20000 in
theorem ggX12_init_X3_init : GoodIn wsX12_init wsX3_init := goodIn_r _ [56, 57, 2, 3, 53, 58, 59, 60, 61, 62, 63, 64, 65, 66, 93, 94, 95, 96, 97, 98, 99, 100, 101, 102, 103, 104, 105, 106, 107, 108, 109, 110] (by decide +kernel) (by decide +kernel)
set_option maxRecDepth 20000 in
theorem gX12_init_X3_init_n39 : GoodIn wsX12_init (wsX3_init) := ggX12_init_X3_init
theorem dX12_init_0 : decode cX12_init 0 = .ok (.aload_n 0, 1) := by decide +kernel
theorem dX12_init_1 : decode cX12_init 1 = .ok (.invokespecial 1, 3) := by decide +kernel
theorem dX12_init_4 : decode cX12_init 4 = .ok (.aload_n 0, 1) := by decide +kernel
theorem dX12_init_5 : decode cX12_init 5 = .ok (.sipush 2000, 3) := by decide +kernel
theorem dX12_init_8 : decode cX12_init 8 = .ok (.newarray .byte, 2) := by decide +kernel
theorem dX12_init_10 : decode cX12_init 10 = .ok (.putfield 9, 3) := by decide +kernel
theorem dX12_init_13 : decode cX12_init 13 = .ok (.aload_n 0, 1) := by decide +kernel
theorem dX12_init_14 : decode cX12_init 14 = .ok (.iconst (-1), 1) := by decide +kernel
theorem dX12_init_15 : decode cX12_init 15 = .ok (.putfield 13, 3) := by decide +kernel
theorem dX12_init_18 : decode cX12_init 18 = .ok (.aload_n 0, 1) := by decide +kernel
theorem dX12_init_19 : decode cX12_init 19 = .ok (.sipush 128, 3) := by decide +kernel
theorem dX12_init_22 : decode cX12_init 22 = .ok (.newarray .byte, 2) := by decide +kernel
theorem dX12_init_24 : decode cX12_init 24 = .ok (.putfield 17, 3) := by decide +kernel
theorem dX12_init_27 : decode cX12_init 27 = .ok (.aload_n 0, 1) := by decide +kernel
theorem dX12_init_28 : decode cX12_init 28 = .ok (.sipush 128, 3) := by decide +kernel
theorem dX12_init_31 : decode cX12_init 31 = .ok (.newarray .byte, 2) := by decide +kernel
theorem dX12_init_33 : decode cX12_init 33 = .ok (.putfield 20, 3) := by decide +kernel
theorem dX12_init_36 : decode cX12_init 36 = .ok (.aload_n 0, 1) := by decide +kernel
theorem dX12_init_37 : decode cX12_init 37 = .ok (.new 23, 3) := by decide +kernel
theorem dX12_init_40 : decode cX12_init 40 = .ok (.dup, 1) := by decide +kernel
theorem dX12_init_41 : decode cX12_init 41 = .ok (.invokespecial 25, 3) := by decide +kernel
theorem dX12_init_44 : decode cX12_init 44 = .ok (.putfield 26, 3) := by decide +kernel
theorem dX12_init_47 : decode cX12_init 47 = .ok (.aload_n 0, 1) := by decide +kernel
theorem dX12_init_48 : decode cX12_init 48 = .ok (.new 30, 3) := by decide +kernel
theorem dX12_init_51 : decode cX12_init 51 = .ok (.dup, 1) := by decide +kernel
theorem dX12_init_52 : decode cX12_init 52 = .ok (.invokespecial 32, 3) := by decide +kernel
theorem dX12_init_55 : decode cX12_init 55 = .ok (.putfield 33, 3) := by decide +kernel
theorem dX12_init_58 : decode cX12_init 58 = .ok (.aload_n 0, 1) := by decide +kernel
theorem dX12_init_59 : decode cX12_init 59 = .ok (.new 37, 3) := by decide +kernel
theorem dX12_init_62 : decode cX12_init 62 = .ok (.dup, 1) := by decide +kernel
theorem dX12_init_63 : decode cX12_init 63 = .ok (.invokespecial 39, 3) := by decide +kernel
theorem dX12_init_66 : decode cX12_init 66 = .ok (.putfield 40, 3) := by decide +kernel
theorem dX12_init_69 : decode cX12_init 69 = .ok (.return_, 1) := by decide +kernel
theorem dX13_init_0 : decode cX13_init 0 = .ok (.aload_n 0, 1) := by decide +kernel
theorem dX13_init_1 : decode cX13_init 1 = .ok (.invokespecial 3, 3) := by decide +kernel
theorem dX13_init_4 : decode cX13_init 4 = .ok (.aload_n 0, 1) := by decide +kernel
theorem dX13_init_5 : decode cX13_init 5 = .ok (.sipush 2000, 3) := by decide +kernel
theorem dX13_init_8 : decode cX13_init 8 = .ok (.newarray .byte, 2) := by decide +kernel
theorem dX13_init_10 : decode cX13_init 10 = .ok (.putfield 9, 3) := by decide +kernel
theorem dX13_init_13 : decode cX13_init 13 = .ok (.aload_n 0, 1) := by decide +kernel
theorem dX13_init_14 : decode cX13_init 14 = .ok (.sipush 2000, 3) := by decide +kernel
theorem dX13_init_17 : decode cX13_init 17 = .ok (.newarray .byte, 2) := by decide +kernel
theorem dX13_init_19 : decode cX13_init 19 = .ok (.putfield 13, 3) := by decide +kernel
theorem dX13_init_22 : decode cX13_init 22 = .ok (.aload_n 0, 1) := by decide +kernel
theorem dX13_init_23 : decode cX13_init 23 = .ok (.sipush 16000, 3) := by decide +kernel
theorem dX13_init_26 : decode cX13_init 26 = .ok (.newarray .byte, 2) := by decide +kernel
theorem dX13_init_28 : decode cX13_init 28 = .ok (.putfield 16, 3) := by decide +kernel
theorem dX13_init_31 : decode cX13_init 31 = .ok (.aload_n 0, 1) := by decide +kernel
theorem dX13_init_32 : decode cX13_init 32 = .ok (.sipush 2010, 3) := by decide +kernel
theorem dX13_init_35 : decode cX13_init 35 = .ok (.newarray .int, 2) := by decide +kernel
theorem dX13_init_37 : decode cX13_init 37 = .ok (.putfield 19, 3) := by decide +kernel
theorem dX13_init_40 : decode cX13_init 40 = .ok (.aload_n 0, 1) := by decide +kernel
theorem dX13_init_41 : decode cX13_init 41 = .ok (.sipush 2010, 3) := by decide +kernel
theorem dX13_init_44 : decode cX13_init 44 = .ok (.newarray .int, 2) := by decide +kernel
theorem dX13_init_46 : decode cX13_init 46 = .ok (.putfield 23, 3) := by decide +kernel
theorem dX13_init_49 : decode cX13_init 49 = .ok (.aload_n 0, 1) := by decide +kernel
theorem dX13_init_50 : decode cX13_init 50 = .ok (.sipush 2010, 3) := by decide +kernel
theorem dX13_init_53 : decode cX13_init 53 = .ok (.newarray .int, 2) := by decide +kernel
theorem dX13_init_55 : decode cX13_init 55 = .ok (.putfield 26, 3) := by decide +kernel
theorem dX13_init_58 : decode cX13_init 58 = .ok (.aload_n 0, 1) := by decide +kernel
theorem dX13_init_59 : decode cX13_init 59 = .ok (.sipush 2100, 3) := by decide +kernel
theorem dX13_init_62 : decode cX13_init 62 = .ok (.newarray .int, 2) := by decide +kernel
theorem dX13_init_64 : decode cX13_init 64 = .ok (.putfield 29, 3) := by decide +kernel
theorem dX13_init_67 : decode cX13_init 67 = .ok (.aload_n 0, 1) := by decide +kernel
theorem dX13_init_68 : decode cX13_init 68 = .ok (.sipush 2100, 3) := by decide +kernel
theorem dX13_init_71 : decode cX13_init 71 = .ok (.newarray .int, 2) := by decide +kernel
theorem dX13_init_73 : decode cX13_init 73 = .ok (.putfield 32, 3) := by decide +kernel
theorem dX13_init_76 : decode cX13_init 76 = .ok (.aload_n 0, 1) := by decide +kernel
theorem dX13_init_77 : decode cX13_init 77 = .ok (.sipush 2100, 3) := by decide +kernel
theorem dX13_init_80 : decode cX13_init 80 = .ok (.newarray .int, 2) := by decide +kernel
theorem dX13_init_82 : decode cX13_init 82 = .ok (.putfield 35, 3) := by decide +kernel
theorem dX13_init_85 : decode cX13_init 85 = .ok (.aload_n 0, 1) := by decide +kernel
theorem dX13_init_86 : decode cX13_init 86 = .ok (.sipush 2100, 3) := by decide +kernel
theorem dX13_init_89 : decode cX13_init 89 = .ok (.newarray .int, 2) := by decide +kernel
theorem dX13_init_91 : decode cX13_init 91 = .ok (.putfield 38, 3) := by decide +kernel
theorem dX13_init_94 : decode cX13_init 94 = .ok (.aload_n 0, 1) := by decide +kernel
theorem dX13_init_95 : decode cX13_init 95 = .ok (.sipush 2100, 3) := by decide +kernel
theorem dX13_init_98 : decode cX13_init 98 = .ok (.newarray .int, 2) := by decide +kernel
theorem dX13_init_100 : decode cX13_init 100 = .ok (.putfield 41, 3) := by decide +kernel
theorem dX13_init_103 : decode cX13_init 103 = .ok (.aload_n 0, 1) := by decide +kernel
theorem dX13_init_104 : decode cX13_init 104 = .ok (.sipush 2100, 3) := by decide +kernel
theorem dX13_init_107 : decode cX13_init 107 = .ok (.newarray .int, 2) := by decide +kernel
theorem dX13_init_109 : decode cX13_init 109 = .ok (.putfield 44, 3) := by decide +kernel
theorem dX13_init_112 : decode cX13_init 112 = .ok (.aload_n 0, 1) := by decide +kernel
theorem dX13_init_113 : decode cX13_init 113 = .ok (.sipush 2100, 3) := by decide +kernel
theorem dX13_init_116 : decode cX13_init 116 = .ok (.newarray .int, 2) := by decide +kernel
theorem dX13_init_118 : decode cX13_init 118 = .ok (.putfield 47, 3) := by decide +kernel
theorem dX13_init_121 : decode cX13_init 121 = .ok (.aload_n 0, 1) := by decide +kernel
theorem dX13_init_122 : decode cX13_init 122 = .ok (.sipush 2100, 3) := by decide +kernel
theorem dX13_init_125 : decode cX13_init 125 = .ok (.newarray .int, 2) := by decide +kernel
theorem dX13_init_127 : decode cX13_init 127 = .ok (.putfield 50, 3) := by decide +kernel
theorem dX13_init_130 : decode cX13_init 130 = .ok (.aload_n 0, 1) := by decide +kernel
theorem dX13_init_131 : decode cX13_init 131 = .ok (.sipush 2100, 3) := by decide +kernel
theorem dX13_init_134 : decode cX13_init 134 = .ok (.newarray .int, 2) := by decide +kernel
theorem dX13_init_136 : decode cX13_init 136 = .ok (.putfield 53, 3) := by decide +kernel
theorem dX13_init_139 : decode cX13_init 139 = .ok (.aload_n 0, 1) := by decide +kernel
theorem dX13_init_140 : decode cX13_init 140 = .ok (.sipush 2100, 3) := by decide +kernel
theorem dX13_init_143 : decode cX13_init 143 = .ok (.newarray .int, 2) := by decide +kernel
theorem dX13_init_145 : decode cX13_init 145 = .ok (.putfield 56, 3) := by decide +kernel
theorem dX13_init_148 : decode cX13_init 148 = .ok (.aload_n 0, 1) := by decide +kernel
theorem dX13_init_149 : decode cX13_init 149 = .ok (.sipush 2100, 3) := by decide +kernel
theorem dX13_init_152 : decode cX13_init 152 = .ok (.newarray .int, 2) := by decide +kernel
theorem dX13_init_154 : decode cX13_init 154 = .ok (.putfield 59, 3) := by decide +kernel
theorem dX13_init_157 : decode cX13_init 157 = .ok (.aload_n 0, 1) := by decide +kernel
theorem dX13_init_158 : decode cX13_init 158 = .ok (.sipush 2100, 3) := by decide +kernel
theorem dX13_init_161 : decode cX13_init 161 = .ok (.newarray .int, 2) := by decide +kernel
theorem dX13_init_163 : decode cX13_init 163 = .ok (.putfield 62, 3) := by decide +kernel
theorem dX13_init_166 : decode cX13_init 166 = .ok (.aload_n 0, 1) := by decide +kernel
theorem dX13_init_167 : decode cX13_init 167 = .ok (.sipush 2100, 3) := by decide +kernel
theorem dX13_init_170 : decode cX13_init 170 = .ok (.newarray .int, 2) := by decide +kernel
theorem dX13_init_172 : decode cX13_init 172 = .ok (.putfield 65, 3) := by decide +kernel
theorem dX13_init_175 : decode cX13_init 175 = .ok (.aload_n 0, 1) := by decide +kernel
theorem dX13_init_176 : decode cX13_init 176 = .ok (.sipush 2100, 3) := by decide +kernel
theorem dX13_init_179 : decode cX13_init 179 = .ok (.newarray .int, 2) := by decide +kernel
theorem dX13_init_181 : decode cX13_init 181 = .ok (.putfield 68, 3) := by decide +kernel
theorem dX13_init_184 : decode cX13_init 184 = .ok (.aload_n 0, 1) := by decide +kernel
theorem dX13_init_185 : decode cX13_init 185 = .ok (.sipush 2100, 3) := by decide +kernel
theorem dX13_init_188 : decode cX13_init 188 = .ok (.newarray .int, 2) := by decide +kernel
theorem dX13_init_190 : decode cX13_init 190 = .ok (.putfield 71, 3) := by decide +kernel
theorem dX13_init_193 : decode cX13_init 193 = .ok (.aload_n 0, 1) := by decide +kernel
theorem dX13_init_194 : decode cX13_init 194 = .ok (.sipush 2100, 3) := by decide +kernel
theorem dX13_init_197 : decode cX13_init 197 = .ok (.newarray .int, 2) := by decide +kernel
theorem dX13_init_199 : decode cX13_init 199 = .ok (.putfield 74, 3) := by decide +kernel
theorem dX13_init_202 : decode cX13_init 202 = .ok (.aload_n 0, 1) := by decide +kernel
theorem dX13_init_203 : decode cX13_init 203 = .ok (.bipush 6, 2) := by decide +kernel
theorem dX13_init_205 : decode cX13_init 205 = .ok (.newarray .int, 2) := by decide +kernel
theorem dX13_init_207 : decode cX13_init 207 = .ok (.putfield 77, 3) := by decide +kernel
theorem dX13_init_210 : decode cX13_init 210 = .ok (.aload_n 0, 1) := by decide +kernel
theorem dX13_init_211 : decode cX13_init 211 = .ok (.bipush 6, 2) := by decide +kernel
theorem dX13_init_213 : decode cX13_init 213 = .ok (.newarray .int, 2) := by decide +kernel
theorem dX13_init_215 : decode cX13_init 215 = .ok (.putfield 80, 3) := by decide +kernel
theorem dX13_init_218 : decode cX13_init 218 = .ok (.aload_n 0, 1) := by decide +kernel
theorem dX13_init_219 : decode cX13_init 219 = .ok (.bipush 6, 2) := by decide +kernel
theorem dX13_init_221 : decode cX13_init 221 = .ok (.newarray .int, 2) := by decide +kernel
theorem dX13_init_223 : decode cX13_init 223 = .ok (.putfield 83, 3) := by decide +kernel
theorem dX13_init_226 : decode cX13_init 226 = .ok (.aload_n 0, 1) := by decide +kernel
theorem dX13_init_227 : decode cX13_init 227 = .ok (.bipush 6, 2) := by decide +kernel
theorem dX13_init_229 : decode cX13_init 229 = .ok (.newarray .int, 2) := by decide +kernel
theorem dX13_init_231 : decode cX13_init 231 = .ok (.putfield 86, 3) := by decide +kernel
theorem dX13_init_234 : decode cX13_init 234 = .ok (.aload_n 0, 1) := by decide +kernel
theorem dX13_init_235 : decode cX13_init 235 = .ok (.bipush 6, 2) := by decide +kernel
theorem dX13_init_237 : decode cX13_init 237 = .ok (.newarray .int, 2) := by decide +kernel
theorem dX13_init_239 : decode cX13_init 239 = .ok (.putfield 89, 3) := by decide +kernel
theorem dX13_init_242 : decode cX13_init 242 = .ok (.aload_n 0, 1) := by decide +kernel
theorem dX13_init_243 : decode cX13_init 243 = .ok (.bipush 6, 2) := by decide +kernel
theorem dX13_init_245 : decode cX13_init 245 = .ok (.newarray .int, 2) := by decide +kernel
theorem dX13_init_247 : decode cX13_init 247 = .ok (.putfield 92, 3) := by decide +kernel
theorem dX13_init_250 : decode cX13_init 250 = .ok (.aload_n 0, 1) := by decide +kernel
theorem dX13_init_251 : decode cX13_init 251 = .ok (.bipush 6, 2) := by decide +kernel
theorem dX13_init_253 : decode cX13_init 253 = .ok (.newarray .int, 2) := by decide +kernel
theorem dX13_init_255 : decode cX13_init 255 = .ok (.putfield 95, 3) := by decide +kernel
theorem dX13_init_258 : decode cX13_init 258 = .ok (.aload_n 0, 1) := by decide +kernel
theorem dX13_init_259 : decode cX13_init 259 = .ok (.sipush 600, 3) := by decide +kernel
theorem dX13_init_262 : decode cX13_init 262 = .ok (.newarray .int, 2) := by decide +kernel
theorem dX13_init_264 : decode cX13_init 264 = .ok (.putfield 98, 3) := by decide +kernel
theorem dX13_init_267 : decode cX13_init 267 = .ok (.aload_n 0, 1) := by decide +kernel
theorem dX13_init_268 : decode cX13_init 268 = .ok (.sipush 700, 3) := by decide +kernel
theorem dX13_init_271 : decode cX13_init 271 = .ok (.newarray .int, 2) := by decide +kernel
theorem dX13_init_273 : decode cX13_init 273 = .ok (.putfield 101, 3) := by decide +kernel
theorem dX13_init_276 : decode cX13_init 276 = .ok (.aload_n 0, 1) := by decide +kernel
theorem dX13_init_277 : decode cX13_init 277 = .ok (.sipush 700, 3) := by decide +kernel
theorem dX13_init_280 : decode cX13_init 280 = .ok (.newarray .int, 2) := by decide +kernel
theorem dX13_init_282 : decode cX13_init 282 = .ok (.putfield 104, 3) := by decide +kernel
theorem dX13_init_285 : decode cX13_init 285 = .ok (.aload_n 0, 1) := by decide +kernel
theorem dX13_init_286 : decode cX13_init 286 = .ok (.sipush 2010, 3) := by decide +kernel
theorem dX13_init_289 : decode cX13_init 289 = .ok (.newarray .int, 2) := by decide +kernel
theorem dX13_init_291 : decode cX13_init 291 = .ok (.putfield 107, 3) := by decide +kernel
theorem dX13_init_294 : decode cX13_init 294 = .ok (.aload_n 0, 1) := by decide +kernel
theorem dX13_init_295 : decode cX13_init 295 = .ok (.sipush 400, 3) := by decide +kernel
theorem dX13_init_298 : decode cX13_init 298 = .ok (.newarray .int, 2) := by decide +kernel
theorem dX13_init_300 : decode cX13_init 300 = .ok (.putfield 110, 3) := by decide +kernel
theorem dX13_init_303 : decode cX13_init 303 = .ok (.aload_n 0, 1) := by decide +kernel
theorem dX13_init_304 : decode cX13_init 304 = .ok (.sipush 9000, 3) := by decide +kernel
theorem dX13_init_307 : decode cX13_init 307 = .ok (.newarray .int, 2) := by decide +kernel
theorem dX13_init_309 : decode cX13_init 309 = .ok (.putfield 113, 3) := by decide +kernel
theorem dX13_init_312 : decode cX13_init 312 = .ok (.aload_n 0, 1) := by decide +kernel
theorem dX13_init_313 : decode cX13_init 313 = .ok (.sipush 9000, 3) := by decide +kernel
theorem dX13_init_316 : decode cX13_init 316 = .ok (.newarray .int, 2) := by decide +kernel
theorem dX13_init_318 : decode cX13_init 318 = .ok (.putfield 116, 3) := by decide +kernel
theorem dX13_init_321 : decode cX13_init 321 = .ok (.aload_n 0, 1) := by decide +kernel
theorem dX13_init_322 : decode cX13_init 322 = .ok (.sipush 9000, 3) := by decide +kernel
theorem dX13_init_325 : decode cX13_init 325 = .ok (.newarray .int, 2) := by decide +kernel
theorem dX13_init_327 : decode cX13_init 327 = .ok (.putfield 119, 3) := by decide +kernel
theorem dX13_init_330 : decode cX13_init 330 = .ok (.aload_n 0, 1) := by decide +kernel
theorem dX13_init_331 : decode cX13_init 331 = .ok (.sipush 9000, 3) := by decide +kernel
theorem dX13_init_334 : decode cX13_init 334 = .ok (.newarray .int, 2) := by decide +kernel
theorem dX13_init_336 : decode cX13_init 336 = .ok (.putfield 122, 3) := by decide +kernel
theorem dX13_init_339 : decode cX13_init 339 = .ok (.aload_n 0, 1) := by decide +kernel
theorem dX13_init_340 : decode cX13_init 340 = .ok (.sipush 9000, 3) := by decide +kernel
theorem dX13_init_343 : decode cX13_init 343 = .ok (.newarray .int, 2) := by decide +kernel
theorem dX13_init_345 : decode cX13_init 345 = .ok (.putfield 125, 3) := by decide +kernel
theorem dX13_init_348 : decode cX13_init 348 = .ok (.aload_n 0, 1) := by decide +kernel
theorem dX13_init_349 : decode cX13_init 349 = .ok (.sipush 2100, 3) := by decide +kernel
theorem dX13_init_352 : decode cX13_init 352 = .ok (.newarray .int, 2) := by decide +kernel
theorem dX13_init_354 : decode cX13_init 354 = .ok (.putfield 128, 3) := by decide +kernel
theorem dX13_init_357 : decode cX13_init 357 = .ok (.aload_n 0, 1) := by decide +kernel
theorem dX13_init_358 : decode cX13_init 358 = .ok (.bipush 40, 2) := by decide +kernel
theorem dX13_init_360 : decode cX13_init 360 = .ok (.newarray .int, 2) := by decide +kernel
theorem dX13_init_362 : decode cX13_init 362 = .ok (.putfield 131, 3) := by decide +kernel
theorem dX13_init_365 : decode cX13_init 365 = .ok (.aload_n 0, 1) := by decide +kernel
theorem dX13_init_366 : decode cX13_init 366 = .ok (.bipush 40, 2) := by decide +kernel
theorem dX13_init_368 : decode cX13_init 368 = .ok (.newarray .int, 2) := by decide +kernel
theorem dX13_init_370 : decode cX13_init 370 = .ok (.putfield 134, 3) := by decide +kernel
theorem dX13_init_373 : decode cX13_init 373 = .ok (.aload_n 0, 1) := by decide +kernel
theorem dX13_init_374 : decode cX13_init 374 = .ok (.iconst (-1), 1) := by decide +kernel
theorem dX13_init_375 : decode cX13_init 375 = .ok (.putfield 137, 3) := by decide +kernel
theorem dX13_init_378 : decode cX13_init 378 = .ok (.aload_n 0, 1) := by decide +kernel
theorem dX13_init_379 : decode cX13_init 379 = .ok (.ldc 141, 2) := by decide +kernel
theorem dX13_init_381 : decode cX13_init 381 = .ok (.newarray .int, 2) := by decide +kernel
theorem dX13_init_383 : decode cX13_init 383 = .ok (.putfield 142, 3) := by decide +kernel
theorem dX13_init_386 : decode cX13_init 386 = .ok (.aload_n 0, 1) := by decide +kernel
theorem dX13_init_387 : decode cX13_init 387 = .ok (.ldc 141, 2) := by decide +kernel
theorem dX13_init_389 : decode cX13_init 389 = .ok (.newarray .int, 2) := by decide +kernel
theorem dX13_init_391 : decode cX13_init 391 = .ok (.putfield 145, 3) := by decide +kernel
theorem dX13_init_394 : decode cX13_init 394 = .ok (.aload_n 0, 1) := by decide +kernel
theorem dX13_init_395 : decode cX13_init 395 = .ok (.ldc 141, 2) := by decide +kernel
theorem dX13_init_397 : decode cX13_init 397 = .ok (.newarray .int, 2) := by decide +kernel
theorem dX13_init_399 : decode cX13_init 399 = .ok (.putfield 148, 3) := by decide +kernel
theorem dX13_init_402 : decode cX13_init 402 = .ok (.aload_n 0, 1) := by decide +kernel
theorem dX13_init_403 : decode cX13_init 403 = .ok (.ldc 141, 2) := by decide +kernel
theorem dX13_init_405 : decode cX13_init 405 = .ok (.newarray .int, 2) := by decide +kernel
theorem dX13_init_407 : decode cX13_init 407 = .ok (.putfield 151, 3) := by decide +kernel
theorem dX13_init_410 : decode cX13_init 410 = .ok (.aload_n 0, 1) := by decide +kernel
theorem dX13_init_411 : decode cX13_init 411 = .ok (.ldc 141, 2) := by decide +kernel
theorem dX13_init_413 : decode cX13_init 413 = .ok (.newarray .int, 2) := by decide +kernel
theorem dX13_init_415 : decode cX13_init 415 = .ok (.putfield 154, 3) := by decide +kernel
theorem dX13_init_418 : decode cX13_init 418 = .ok (.aload_n 0, 1) := by decide +kernel
theorem dX13_init_419 : decode cX13_init 419 = .ok (.sipush 24000, 3) := by decide +kernel
theorem dX13_init_422 : decode cX13_init 422 = .ok (.newarray .int, 2) := by decide +kernel
theorem dX13_init_424 : decode cX13_init 424 = .ok (.putfield 157, 3) := by decide +kernel
theorem dX13_init_427 : decode cX13_init 427 = .ok (.aload_n 0, 1) := by decide +kernel
theorem dX13_init_428 : decode cX13_init 428 = .ok (.sipush 24000, 3) := by decide +kernel
theorem dX13_init_431 : decode cX13_init 431 = .ok (.newarray .int, 2) := by decide +kernel
theorem dX13_init_433 : decode cX13_init 433 = .ok (.putfield 160, 3) := by decide +kernel
theorem dX13_init_436 : decode cX13_init 436 = .ok (.aload_n 0, 1) := by decide +kernel
theorem dX13_init_437 : decode cX13_init 437 = .ok (.sipush 24000, 3) := by decide +kernel
theorem dX13_init_440 : decode cX13_init 440 = .ok (.newarray .int, 2) := by decide +kernel
theorem dX13_init_442 : decode cX13_init 442 = .ok (.putfield 163, 3) := by decide +kernel
theorem dX13_init_445 : decode cX13_init 445 = .ok (.aload_n 0, 1) := by decide +kernel
theorem dX13_init_446 : decode cX13_init 446 = .ok (.sipush 12000, 3) := by decide +kernel
theorem dX13_init_449 : decode cX13_init 449 = .ok (.newarray .int, 2) := by decide +kernel
theorem dX13_init_451 : decode cX13_init 451 = .ok (.putfield 166, 3) := by decide +kernel
theorem dX13_init_454 : decode cX13_init 454 = .ok (.aload_n 0, 1) := by decide +kernel
theorem dX13_init_455 : decode cX13_init 455 = .ok (.sipush 12000, 3) := by decide +kernel
theorem dX13_init_458 : decode cX13_init 458 = .ok (.newarray .int, 2) := by decide +kernel
theorem dX13_init_460 : decode cX13_init 460 = .ok (.putfield 169, 3) := by decide +kernel
theorem dX13_init_463 : decode cX13_init 463 = .ok (.aload_n 0, 1) := by decide +kernel
theorem dX13_init_464 : decode cX13_init 464 = .ok (.sipush 12000, 3) := by decide +kernel
theorem dX13_init_467 : decode cX13_init 467 = .ok (.newarray .int, 2) := by decide +kernel
theorem dX13_init_469 : decode cX13_init 469 = .ok (.putfield 172, 3) := by decide +kernel
theorem dX13_init_472 : decode cX13_init 472 = .ok (.aload_n 0, 1) := by decide +kernel
theorem dX13_init_473 : decode cX13_init 473 = .ok (.sipush 12000, 3) := by decide +kernel
theorem dX13_init_476 : decode cX13_init 476 = .ok (.newarray .int, 2) := by decide +kernel
theorem dX13_init_478 : decode cX13_init 478 = .ok (.putfield 175, 3) := by decide +kernel
theorem dX13_init_481 : decode cX13_init 481 = .ok (.aload_n 0, 1) := by decide +kernel
theorem dX13_init_482 : decode cX13_init 482 = .ok (.sipush 12000, 3) := by decide +kernel
theorem dX13_init_485 : decode cX13_init 485 = .ok (.newarray .long, 2) := by decide +kernel
theorem dX13_init_487 : decode cX13_init 487 = .ok (.putfield 178, 3) := by decide +kernel
theorem dX13_init_490 : decode cX13_init 490 = .ok (.aload_n 0, 1) := by decide +kernel
theorem dX13_init_491 : decode cX13_init 491 = .ok (.sipush 24000, 3) := by decide +kernel
theorem dX13_init_494 : decode cX13_init 494 = .ok (.newarray .int, 2) := by decide +kernel
theorem dX13_init_496 : decode cX13_init 496 = .ok (.putfield 182, 3) := by decide +kernel
theorem dX13_init_499 : decode cX13_init 499 = .ok (.aload_n 0, 1) := by decide +kernel
theorem dX13_init_500 : decode cX13_init 500 = .ok (.sipush 24000, 3) := by decide +kernel
theorem dX13_init_503 : decode cX13_init 503 = .ok (.newarray .int, 2) := by decide +kernel
theorem dX13_init_505 : decode cX13_init 505 = .ok (.putfield 185, 3) := by decide +kernel
theorem dX13_init_508 : decode cX13_init 508 = .ok (.aload_n 0, 1) := by decide +kernel
theorem dX13_init_509 : decode cX13_init 509 = .ok (.sipush 24000, 3) := by decide +kernel
theorem dX13_init_512 : decode cX13_init 512 = .ok (.newarray .int, 2) := by decide +kernel
theorem dX13_init_514 : decode cX13_init 514 = .ok (.putfield 188, 3) := by decide +kernel
theorem dX13_init_517 : decode cX13_init 517 = .ok (.aload_n 0, 1) := by decide +kernel
theorem dX13_init_518 : decode cX13_init 518 = .ok (.sipush 24000, 3) := by decide +kernel
theorem dX13_init_521 : decode cX13_init 521 = .ok (.newarray .int, 2) := by decide +kernel
theorem dX13_init_523 : decode cX13_init 523 = .ok (.putfield 191, 3) := by decide +kernel
theorem dX13_init_526 : decode cX13_init 526 = .ok (.aload_n 0, 1) := by decide +kernel
theorem dX13_init_527 : decode cX13_init 527 = .ok (.sipush 24000, 3) := by decide +kernel
theorem dX13_init_530 : decode cX13_init 530 = .ok (.newarray .long, 2) := by decide +kernel
theorem dX13_init_532 : decode cX13_init 532 = .ok (.putfield 194, 3) := by decide +kernel
theorem dX13_init_535 : decode cX13_init 535 = .ok (.aload_n 0, 1) := by decide +kernel
theorem dX13_init_536 : decode cX13_init 536 = .ok (.bipush 64, 2) := by decide +kernel
theorem dX13_init_538 : decode cX13_init 538 = .ok (.newarray .int, 2) := by decide +kernel
theorem dX13_init_540 : decode cX13_init 540 = .ok (.putfield 197, 3) := by decide +kernel
theorem dX13_init_543 : decode cX13_init 543 = .ok (.aload_n 0, 1) := by decide +kernel
theorem dX13_init_544 : decode cX13_init 544 = .ok (.bipush 64, 2) := by decide +kernel
theorem dX13_init_546 : decode cX13_init 546 = .ok (.newarray .int, 2) := by decide +kernel
theorem dX13_init_548 : decode cX13_init 548 = .ok (.putfield 200, 3) := by decide +kernel
theorem dX13_init_551 : decode cX13_init 551 = .ok (.aload_n 0, 1) := by decide +kernel
theorem dX13_init_552 : decode cX13_init 552 = .ok (.bipush 64, 2) := by decide +kernel
theorem dX13_init_554 : decode cX13_init 554 = .ok (.newarray .int, 2) := by decide +kernel
theorem dX13_init_556 : decode cX13_init 556 = .ok (.putfield 203, 3) := by decide +kernel
theorem dX13_init_559 : decode cX13_init 559 = .ok (.aload_n 0, 1) := by decide +kernel
theorem dX13_init_560 : decode cX13_init 560 = .ok (.sipush 8000, 3) := by decide +kernel
theorem dX13_init_563 : decode cX13_init 563 = .ok (.newarray .int, 2) := by decide +kernel
theorem dX13_init_565 : decode cX13_init 565 = .ok (.putfield 206, 3) := by decide +kernel
theorem dX13_init_568 : decode cX13_init 568 = .ok (.aload_n 0, 1) := by decide +kernel
theorem dX13_init_569 : decode cX13_init 569 = .ok (.sipush 8000, 3) := by decide +kernel
theorem dX13_init_572 : decode cX13_init 572 = .ok (.newarray .int, 2) := by decide +kernel
theorem dX13_init_574 : decode cX13_init 574 = .ok (.putfield 209, 3) := by decide +kernel
theorem dX13_init_577 : decode cX13_init 577 = .ok (.aload_n 0, 1) := by decide +kernel
theorem dX13_init_578 : decode cX13_init 578 = .ok (.sipush 8000, 3) := by decide +kernel
theorem dX13_init_581 : decode cX13_init 581 = .ok (.newarray .boolean, 2) := by decide +kernel
theorem dX13_init_583 : decode cX13_init 583 = .ok (.putfield 212, 3) := by decide +kernel
theorem dX13_init_586 : decode cX13_init 586 = .ok (.aload_n 0, 1) := by decide +kernel
theorem dX13_init_587 : decode cX13_init 587 = .ok (.sipush 1501, 3) := by decide +kernel
theorem dX13_init_590 : decode cX13_init 590 = .ok (.newarray .boolean, 2) := by decide +kernel
theorem dX13_init_592 : decode cX13_init 592 = .ok (.putfield 216, 3) := by decide +kernel
theorem dX13_init_595 : decode cX13_init 595 = .ok (.aload_n 0, 1) := by decide +kernel
theorem dX13_init_596 : decode cX13_init 596 = .ok (.sipush 1501, 3) := by decide +kernel
theorem dX13_init_599 : decode cX13_init 599 = .ok (.newarray .boolean, 2) := by decide +kernel
theorem dX13_init_601 : decode cX13_init 601 = .ok (.putfield 219, 3) := by decide +kernel
theorem dX13_init_604 : decode cX13_init 604 = .ok (.aload_n 0, 1) := by decide +kernel
theorem dX13_init_605 : decode cX13_init 605 = .ok (.sipush 12000, 3) := by decide +kernel
theorem dX13_init_608 : decode cX13_init 608 = .ok (.newarray .int, 2) := by decide +kernel
theorem dX13_init_610 : decode cX13_init 610 = .ok (.putfield 222, 3) := by decide +kernel
theorem dX13_init_613 : decode cX13_init 613 = .ok (.aload_n 0, 1) := by decide +kernel
theorem dX13_init_614 : decode cX13_init 614 = .ok (.sipush 12000, 3) := by decide +kernel
theorem dX13_init_617 : decode cX13_init 617 = .ok (.newarray .int, 2) := by decide +kernel
theorem dX13_init_619 : decode cX13_init 619 = .ok (.putfield 225, 3) := by decide +kernel
theorem dX13_init_622 : decode cX13_init 622 = .ok (.aload_n 0, 1) := by decide +kernel
theorem dX13_init_623 : decode cX13_init 623 = .ok (.sipush 12000, 3) := by decide +kernel
theorem dX13_init_626 : decode cX13_init 626 = .ok (.newarray .int, 2) := by decide +kernel
theorem dX13_init_628 : decode cX13_init 628 = .ok (.putfield 228, 3) := by decide +kernel
theorem dX13_init_631 : decode cX13_init 631 = .ok (.aload_n 0, 1) := by decide +kernel
theorem dX13_init_632 : decode cX13_init 632 = .ok (.sipush 12000, 3) := by decide +kernel
theorem dX13_init_635 : decode cX13_init 635 = .ok (.newarray .int, 2) := by decide +kernel
theorem dX13_init_637 : decode cX13_init 637 = .ok (.putfield 231, 3) := by decide +kernel
theorem dX13_init_640 : decode cX13_init 640 = .ok (.aload_n 0, 1) := by decide +kernel
theorem dX13_init_641 : decode cX13_init 641 = .ok (.sipush 12000, 3) := by decide +kernel
theorem dX13_init_644 : decode cX13_init 644 = .ok (.newarray .int, 2) := by decide +kernel
theorem dX13_init_646 : decode cX13_init 646 = .ok (.putfield 234, 3) := by decide +kernel
theorem dX13_init_649 : decode cX13_init 649 = .ok (.aload_n 0, 1) := by decide +kernel
theorem dX13_init_650 : decode cX13_init 650 = .ok (.sipush 12000, 3) := by decide +kernel
theorem dX13_init_653 : decode cX13_init 653 = .ok (.newarray .int, 2) := by decide +kernel
theorem dX13_init_655 : decode cX13_init 655 = .ok (.putfield 237, 3) := by decide +kernel
theorem dX13_init_658 : decode cX13_init 658 = .ok (.aload_n 0, 1) := by decide +kernel
theorem dX13_init_659 : decode cX13_init 659 = .ok (.sipush 700, 3) := by decide +kernel
theorem dX13_init_662 : decode cX13_init 662 = .ok (.newarray .int, 2) := by decide +kernel
theorem dX13_init_664 : decode cX13_init 664 = .ok (.putfield 240, 3) := by decide +kernel
theorem dX13_init_667 : decode cX13_init 667 = .ok (.aload_n 0, 1) := by decide +kernel
theorem dX13_init_668 : decode cX13_init 668 = .ok (.sipush 12000, 3) := by decide +kernel
theorem dX13_init_671 : decode cX13_init 671 = .ok (.newarray .int, 2) := by decide +kernel
theorem dX13_init_673 : decode cX13_init 673 = .ok (.putfield 243, 3) := by decide +kernel
theorem dX13_init_676 : decode cX13_init 676 = .ok (.aload_n 0, 1) := by decide +kernel
theorem dX13_init_677 : decode cX13_init 677 = .ok (.sipush 12000, 3) := by decide +kernel
theorem dX13_init_680 : decode cX13_init 680 = .ok (.newarray .int, 2) := by decide +kernel
theorem dX13_init_682 : decode cX13_init 682 = .ok (.putfield 246, 3) := by decide +kernel
theorem dX13_init_685 : decode cX13_init 685 = .ok (.aload_n 0, 1) := by decide +kernel
theorem dX13_init_686 : decode cX13_init 686 = .ok (.sipush 12000, 3) := by decide +kernel
theorem dX13_init_689 : decode cX13_init 689 = .ok (.newarray .int, 2) := by decide +kernel
theorem dX13_init_691 : decode cX13_init 691 = .ok (.putfield 249, 3) := by decide +kernel
theorem dX13_init_694 : decode cX13_init 694 = .ok (.aload_n 0, 1) := by decide +kernel
theorem dX13_init_695 : decode cX13_init 695 = .ok (.sipush 12000, 3) := by decide +kernel
theorem dX13_init_698 : decode cX13_init 698 = .ok (.newarray .int, 2) := by decide +kernel
theorem dX13_init_700 : decode cX13_init 700 = .ok (.putfield 252, 3) := by decide +kernel
theorem dX13_init_703 : decode cX13_init 703 = .ok (.aload_n 0, 1) := by decide +kernel
theorem dX13_init_704 : decode cX13_init 704 = .ok (.sipush 2100, 3) := by decide +kernel
theorem dX13_init_707 : decode cX13_init 707 = .ok (.newarray .int, 2) := by decide +kernel
theorem dX13_init_709 : decode cX13_init 709 = .ok (.putfield 255, 3) := by decide +kernel
theorem dX13_init_712 : decode cX13_init 712 = .ok (.aload_n 0, 1) := by decide +kernel
theorem dX13_init_713 : decode cX13_init 713 = .ok (.sipush 2100, 3) := by decide +kernel
theorem dX13_init_716 : decode cX13_init 716 = .ok (.newarray .int, 2) := by decide +kernel
theorem dX13_init_718 : decode cX13_init 718 = .ok (.putfield 258, 3) := by decide +kernel
theorem dX13_init_721 : decode cX13_init 721 = .ok (.aload_n 0, 1) := by decide +kernel
theorem dX13_init_722 : decode cX13_init 722 = .ok (.sipush 2100, 3) := by decide +kernel
theorem dX13_init_725 : decode cX13_init 725 = .ok (.newarray .int, 2) := by decide +kernel
theorem dX13_init_727 : decode cX13_init 727 = .ok (.putfield 261, 3) := by decide +kernel
theorem dX13_init_730 : decode cX13_init 730 = .ok (.aload_n 0, 1) := by decide +kernel
theorem dX13_init_731 : decode cX13_init 731 = .ok (.sipush 2100, 3) := by decide +kernel
theorem dX13_init_734 : decode cX13_init 734 = .ok (.newarray .int, 2) := by decide +kernel
theorem dX13_init_736 : decode cX13_init 736 = .ok (.putfield 264, 3) := by decide +kernel
theorem dX13_init_739 : decode cX13_init 739 = .ok (.aload_n 0, 1) := by decide +kernel
theorem dX13_init_740 : decode cX13_init 740 = .ok (.sipush 2100, 3) := by decide +kernel
theorem dX13_init_743 : decode cX13_init 743 = .ok (.newarray .int, 2) := by decide +kernel
theorem dX13_init_745 : decode cX13_init 745 = .ok (.putfield 267, 3) := by decide +kernel
theorem dX13_init_748 : decode cX13_init 748 = .ok (.aload_n 0, 1) := by decide +kernel
theorem dX13_init_749 : decode cX13_init 749 = .ok (.sipush 2100, 3) := by decide +kernel
theorem dX13_init_752 : decode cX13_init 752 = .ok (.newarray .int, 2) := by decide +kernel
theorem dX13_init_754 : decode cX13_init 754 = .ok (.putfield 270, 3) := by decide +kernel
theorem dX13_init_757 : decode cX13_init 757 = .ok (.aload_n 0, 1) := by decide +kernel
theorem dX13_init_758 : decode cX13_init 758 = .ok (.bipush 60, 2) := by decide +kernel
theorem dX13_init_760 : decode cX13_init 760 = .ok (.newarray .int, 2) := by decide +kernel
theorem dX13_init_762 : decode cX13_init 762 = .ok (.putfield 273, 3) := by decide +kernel
theorem dX13_init_765 : decode cX13_init 765 = .ok (.aload_n 0, 1) := by decide +kernel
theorem dX13_init_766 : decode cX13_init 766 = .ok (.bipush 60, 2) := by decide +kernel
theorem dX13_init_768 : decode cX13_init 768 = .ok (.newarray .int, 2) := by decide +kernel
theorem dX13_init_770 : decode cX13_init 770 = .ok (.putfield 276, 3) := by decide +kernel
theorem dX13_init_773 : decode cX13_init 773 = .ok (.aload_n 0, 1) := by decide +kernel
theorem dX13_init_774 : decode cX13_init 774 = .ok (.sipush 25600, 3) := by decide +kernel
theorem dX13_init_777 : decode cX13_init 777 = .ok (.newarray .long, 2) := by decide +kernel
theorem dX13_init_779 : decode cX13_init 779 = .ok (.putfield 279, 3) := by decide +kernel
theorem dX13_init_782 : decode cX13_init 782 = .ok (.aload_n 0, 1) := by decide +kernel
theorem dX13_init_783 : decode cX13_init 783 = .ok (.sipush 25600, 3) := by decide +kernel
theorem dX13_init_786 : decode cX13_init 786 = .ok (.newarray .long, 2) := by decide +kernel
theorem dX13_init_788 : decode cX13_init 788 = .ok (.putfield 282, 3) := by decide +kernel
theorem dX13_init_791 : decode cX13_init 791 = .ok (.aload_n 0, 1) := by decide +kernel
theorem dX13_init_792 : decode cX13_init 792 = .ok (.sipush 1501, 3) := by decide +kernel
theorem dX13_init_795 : decode cX13_init 795 = .ok (.newarray .int, 2) := by decide +kernel
theorem dX13_init_797 : decode cX13_init 797 = .ok (.putfield 285, 3) := by decide +kernel
theorem dX13_init_800 : decode cX13_init 800 = .ok (.aload_n 0, 1) := by decide +kernel
theorem dX13_init_801 : decode cX13_init 801 = .ok (.bipush 100, 2) := by decide +kernel
theorem dX13_init_803 : decode cX13_init 803 = .ok (.newarray .int, 2) := by decide +kernel
theorem dX13_init_805 : decode cX13_init 805 = .ok (.putfield 288, 3) := by decide +kernel
theorem dX13_init_808 : decode cX13_init 808 = .ok (.aload_n 0, 1) := by decide +kernel
theorem dX13_init_809 : decode cX13_init 809 = .ok (.sipush 300, 3) := by decide +kernel
theorem dX13_init_812 : decode cX13_init 812 = .ok (.newarray .int, 2) := by decide +kernel
theorem dX13_init_814 : decode cX13_init 814 = .ok (.putfield 291, 3) := by decide +kernel
theorem dX13_init_817 : decode cX13_init 817 = .ok (.aload_n 0, 1) := by decide +kernel
theorem dX13_init_818 : decode cX13_init 818 = .ok (.sipush 300, 3) := by decide +kernel
theorem dX13_init_821 : decode cX13_init 821 = .ok (.newarray .int, 2) := by decide +kernel
theorem dX13_init_823 : decode cX13_init 823 = .ok (.putfield 294, 3) := by decide +kernel
theorem dX13_init_826 : decode cX13_init 826 = .ok (.aload_n 0, 1) := by decide +kernel
theorem dX13_init_827 : decode cX13_init 827 = .ok (.sipush 300, 3) := by decide +kernel
theorem dX13_init_830 : decode cX13_init 830 = .ok (.newarray .int, 2) := by decide +kernel
theorem dX13_init_832 : decode cX13_init 832 = .ok (.putfield 297, 3) := by decide +kernel
theorem dX13_init_835 : decode cX13_init 835 = .ok (.aload_n 0, 1) := by decide +kernel
theorem dX13_init_836 : decode cX13_init 836 = .ok (.sipush 300, 3) := by decide +kernel
theorem dX13_init_839 : decode cX13_init 839 = .ok (.newarray .int, 2) := by decide +kernel
theorem dX13_init_841 : decode cX13_init 841 = .ok (.putfield 300, 3) := by decide +kernel
theorem dX13_init_844 : decode cX13_init 844 = .ok (.aload_n 0, 1) := by decide +kernel
theorem dX13_init_845 : decode cX13_init 845 = .ok (.sipush 300, 3) := by decide +kernel
theorem dX13_init_848 : decode cX13_init 848 = .ok (.newarray .int, 2) := by decide +kernel
theorem dX13_init_850 : decode cX13_init 850 = .ok (.putfield 303, 3) := by decide +kernel
theorem dX13_init_853 : decode cX13_init 853 = .ok (.aload_n 0, 1) := by decide +kernel
theorem dX13_init_854 : decode cX13_init 854 = .ok (.sipush 300, 3) := by decide +kernel
theorem dX13_init_857 : decode cX13_init 857 = .ok (.newarray .int, 2) := by decide +kernel
theorem dX13_init_859 : decode cX13_init 859 = .ok (.putfield 306, 3) := by decide +kernel
theorem dX13_init_862 : decode cX13_init 862 = .ok (.aload_n 0, 1) := by decide +kernel
theorem dX13_init_863 : decode cX13_init 863 = .ok (.bipush 60, 2) := by decide +kernel
theorem dX13_init_865 : decode cX13_init 865 = .ok (.newarray .int, 2) := by decide +kernel
theorem dX13_init_867 : decode cX13_init 867 = .ok (.putfield 309, 3) := by decide +kernel
theorem dX13_init_870 : decode cX13_init 870 = .ok (.aload_n 0, 1) := by decide +kernel
theorem dX13_init_871 : decode cX13_init 871 = .ok (.bipush 60, 2) := by decide +kernel
theorem dX13_init_873 : decode cX13_init 873 = .ok (.newarray .int, 2) := by decide +kernel
theorem dX13_init_875 : decode cX13_init 875 = .ok (.putfield 312, 3) := by decide +kernel
theorem dX13_init_878 : decode cX13_init 878 = .ok (.aload_n 0, 1) := by decide +kernel
theorem dX13_init_879 : decode cX13_init 879 = .ok (.sipush 300, 3) := by decide +kernel
theorem dX13_init_882 : decode cX13_init 882 = .ok (.newarray .long, 2) := by decide +kernel
theorem dX13_init_884 : decode cX13_init 884 = .ok (.putfield 315, 3) := by decide +kernel
theorem dX13_init_887 : decode cX13_init 887 = .ok (.aload_n 0, 1) := by decide +kernel
theorem dX13_init_888 : decode cX13_init 888 = .ok (.sipush 8000, 3) := by decide +kernel
theorem dX13_init_891 : decode cX13_init 891 = .ok (.newarray .boolean, 2) := by decide +kernel
theorem dX13_init_893 : decode cX13_init 893 = .ok (.putfield 318, 3) := by decide +kernel
theorem dX13_init_896 : decode cX13_init 896 = .ok (.aload_n 0, 1) := by decide +kernel
theorem dX13_init_897 : decode cX13_init 897 = .ok (.sipush 16000, 3) := by decide +kernel
theorem dX13_init_900 : decode cX13_init 900 = .ok (.newarray .byte, 2) := by decide +kernel
theorem dX13_init_902 : decode cX13_init 902 = .ok (.putfield 321, 3) := by decide +kernel
theorem dX13_init_905 : decode cX13_init 905 = .ok (.aload_n 0, 1) := by decide +kernel
theorem dX13_init_906 : decode cX13_init 906 = .ok (.sipush 800, 3) := by decide +kernel
theorem dX13_init_909 : decode cX13_init 909 = .ok (.newarray .int, 2) := by decide +kernel
theorem dX13_init_911 : decode cX13_init 911 = .ok (.putfield 324, 3) := by decide +kernel
theorem dX13_init_914 : decode cX13_init 914 = .ok (.aload_n 0, 1) := by decide +kernel
theorem dX13_init_915 : decode cX13_init 915 = .ok (.bipush 6, 2) := by decide +kernel
theorem dX13_init_917 : decode cX13_init 917 = .ok (.newarray .long, 2) := by decide +kernel
theorem dX13_init_919 : decode cX13_init 919 = .ok (.putfield 327, 3) := by decide +kernel
theorem dX13_init_922 : decode cX13_init 922 = .ok (.aload_n 0, 1) := by decide +kernel
theorem dX13_init_923 : decode cX13_init 923 = .ok (.sipush 6000, 3) := by decide +kernel
theorem dX13_init_926 : decode cX13_init 926 = .ok (.newarray .long, 2) := by decide +kernel
theorem dX13_init_928 : decode cX13_init 928 = .ok (.putfield 330, 3) := by decide +kernel
theorem dX13_init_931 : decode cX13_init 931 = .ok (.aload_n 0, 1) := by decide +kernel
theorem dX13_init_932 : decode cX13_init 932 = .ok (.ldc_w 333, 3) := by decide +kernel
theorem dX13_init_935 : decode cX13_init 935 = .ok (.newarray .int, 2) := by decide +kernel
theorem dX13_init_937 : decode cX13_init 937 = .ok (.putfield 334, 3) := by decide +kernel
theorem dX13_init_940 : decode cX13_init 940 = .ok (.aload_n 0, 1) := by decide +kernel
theorem dX13_init_941 : decode cX13_init 941 = .ok (.ldc_w 333, 3) := by decide +kernel
theorem dX13_init_944 : decode cX13_init 944 = .ok (.newarray .int, 2) := by decide +kernel
theorem dX13_init_946 : decode cX13_init 946 = .ok (.putfield 337, 3) := by decide +kernel
theorem dX13_init_949 : decode cX13_init 949 = .ok (.aload_n 0, 1) := by decide +kernel
theorem dX13_init_950 : decode cX13_init 950 = .ok (.ldc_w 333, 3) := by decide +kernel
theorem dX13_init_953 : decode cX13_init 953 = .ok (.newarray .int, 2) := by decide +kernel
theorem dX13_init_955 : decode cX13_init 955 = .ok (.putfield 340, 3) := by decide +kernel
theorem dX13_init_958 : decode cX13_init 958 = .ok (.aload_n 0, 1) := by decide +kernel
theorem dX13_init_959 : decode cX13_init 959 = .ok (.ldc_w 333, 3) := by decide +kernel
theorem dX13_init_962 : decode cX13_init 962 = .ok (.newarray .long, 2) := by decide +kernel
theorem dX13_init_964 : decode cX13_init 964 = .ok (.putfield 343, 3) := by decide +kernel
theorem dX13_init_967 : decode cX13_init 967 = .ok (.aload_n 0, 1) := by decide +kernel
theorem dX13_init_968 : decode cX13_init 968 = .ok (.ldc_w 346, 3) := by decide +kernel
theorem dX13_init_971 : decode cX13_init 971 = .ok (.newarray .int, 2) := by decide +kernel
theorem dX13_init_973 : decode cX13_init 973 = .ok (.putfield 347, 3) := by decide +kernel
theorem dX13_init_976 : decode cX13_init 976 = .ok (.aload_n 0, 1) := by decide +kernel
theorem dX13_init_977 : decode cX13_init 977 = .ok (.ldc_w 346, 3) := by decide +kernel
theorem dX13_init_980 : decode cX13_init 980 = .ok (.newarray .int, 2) := by decide +kernel
theorem dX13_init_982 : decode cX13_init 982 = .ok (.putfield 350, 3) := by decide +kernel
theorem dX13_init_985 : decode cX13_init 985 = .ok (.aload_n 0, 1) := by decide +kernel
theorem dX13_init_986 : decode cX13_init 986 = .ok (.ldc_w 346, 3) := by decide +kernel
theorem dX13_init_989 : decode cX13_init 989 = .ok (.newarray .int, 2) := by decide +kernel
theorem dX13_init_991 : decode cX13_init 991 = .ok (.putfield 353, 3) := by decide +kernel
theorem dX13_init_994 : decode cX13_init 994 = .ok (.aload_n 0, 1) := by decide +kernel
theorem dX13_init_995 : decode cX13_init 995 = .ok (.ldc_w 346, 3) := by decide +kernel
theorem dX13_init_998 : decode cX13_init 998 = .ok (.newarray .int, 2) := by decide +kernel
theorem dX13_init_1000 : decode cX13_init 1000 = .ok (.putfield 356, 3) := by decide +kernel
theorem dX13_init_1003 : decode cX13_init 1003 = .ok (.aload_n 0, 1) := by decide +kernel
theorem dX13_init_1004 : decode cX13_init 1004 = .ok (.sipush 21000, 3) := by decide +kernel
theorem dX13_init_1007 : decode cX13_init 1007 = .ok (.newarray .int, 2) := by decide +kernel
theorem dX13_init_1009 : decode cX13_init 1009 = .ok (.putfield 359, 3) := by decide +kernel
theorem dX13_init_1012 : decode cX13_init 1012 = .ok (.aload_n 0, 1) := by decide +kernel
theorem dX13_init_1013 : decode cX13_init 1013 = .ok (.sipush 21000, 3) := by decide +kernel
theorem dX13_init_1016 : decode cX13_init 1016 = .ok (.newarray .int, 2) := by decide +kernel
theorem dX13_init_1018 : decode cX13_init 1018 = .ok (.putfield 362, 3) := by decide +kernel
theorem dX13_init_1021 : decode cX13_init 1021 = .ok (.aload_n 0, 1) := by decide +kernel
theorem dX13_init_1022 : decode cX13_init 1022 = .ok (.sipush 11000, 3) := by decide +kernel
theorem dX13_init_1025 : decode cX13_init 1025 = .ok (.newarray .long, 2) := by decide +kernel
theorem dX13_init_1027 : decode cX13_init 1027 = .ok (.putfield 365, 3) := by decide +kernel
theorem dX13_init_1030 : decode cX13_init 1030 = .ok (.aload_n 0, 1) := by decide +kernel
theorem dX13_init_1031 : decode cX13_init 1031 = .ok (.sipush 20000, 3) := by decide +kernel
theorem dX13_init_1034 : decode cX13_init 1034 = .ok (.newarray .int, 2) := by decide +kernel
theorem dX13_init_1036 : decode cX13_init 1036 = .ok (.putfield 368, 3) := by decide +kernel
theorem dX13_init_1039 : decode cX13_init 1039 = .ok (.aload_n 0, 1) := by decide +kernel
theorem dX13_init_1040 : decode cX13_init 1040 = .ok (.sipush 20000, 3) := by decide +kernel
theorem dX13_init_1043 : decode cX13_init 1043 = .ok (.newarray .int, 2) := by decide +kernel
theorem dX13_init_1045 : decode cX13_init 1045 = .ok (.putfield 371, 3) := by decide +kernel
theorem dX13_init_1048 : decode cX13_init 1048 = .ok (.aload_n 0, 1) := by decide +kernel
theorem dX13_init_1049 : decode cX13_init 1049 = .ok (.sipush 20000, 3) := by decide +kernel
theorem dX13_init_1052 : decode cX13_init 1052 = .ok (.newarray .int, 2) := by decide +kernel
theorem dX13_init_1054 : decode cX13_init 1054 = .ok (.putfield 374, 3) := by decide +kernel
theorem dX13_init_1057 : decode cX13_init 1057 = .ok (.aload_n 0, 1) := by decide +kernel
theorem dX13_init_1058 : decode cX13_init 1058 = .ok (.sipush 20001, 3) := by decide +kernel
theorem dX13_init_1061 : decode cX13_init 1061 = .ok (.newarray .long, 2) := by decide +kernel
theorem dX13_init_1063 : decode cX13_init 1063 = .ok (.putfield 377, 3) := by decide +kernel
theorem dX13_init_1066 : decode cX13_init 1066 = .ok (.aload_n 0, 1) := by decide +kernel
theorem dX13_init_1067 : decode cX13_init 1067 = .ok (.sipush 20001, 3) := by decide +kernel
theorem dX13_init_1070 : decode cX13_init 1070 = .ok (.newarray .int, 2) := by decide +kernel
theorem dX13_init_1072 : decode cX13_init 1072 = .ok (.putfield 380, 3) := by decide +kernel
theorem dX13_init_1075 : decode cX13_init 1075 = .ok (.aload_n 0, 1) := by decide +kernel
theorem dX13_init_1076 : decode cX13_init 1076 = .ok (.sipush 20001, 3) := by decide +kernel
theorem dX13_init_1079 : decode cX13_init 1079 = .ok (.newarray .int, 2) := by decide +kernel
theorem dX13_init_1081 : decode cX13_init 1081 = .ok (.putfield 383, 3) := by decide +kernel
theorem dX13_init_1084 : decode cX13_init 1084 = .ok (.return_, 1) := by decide +kernel
theorem dJxa1e45_init_da8c8_0 : decode cJxa1e45_init_da8c8 0 = .ok (.aload_n 0, 1) := by decide +kernel
theorem dJxa1e45_init_da8c8_1 : decode cJxa1e45_init_da8c8 1 = .ok (.invokespecial 1, 3) := by decide +kernel
theorem dJxa1e45_init_da8c8_4 : decode cJxa1e45_init_da8c8 4 = .ok (.return_, 1) := by decide +kernel
set_option maxRecDepth 20000 in
theorem ggJxc12de_init_da8c8_Jxa1e45_init_da8c8 : GoodIn wsJxc12de_init_da8c8 wsJxa1e45_init_da8c8 := goodIn_r _ [5, 6, 7, 8] (by decide +kernel) (by decide +kernel)
set_option maxRecDepth 20000 in
theorem gJxc12de_init_da8c8_Jxa1e45_init_da8c8 : GoodIn wsJxc12de_init_da8c8 (wsJxa1e45_init_da8c8) := ggJxc12de_init_da8c8_Jxa1e45_init_da8c8
theorem dJxc12de_init_da8c8_0 : decode cJxc12de_init_da8c8 0 = .ok (.aload_n 0, 1) := by decide +kernel
theorem dJxc12de_init_da8c8_1 : decode cJxc12de_init_da8c8 1 = .ok (.invokespecial 1, 3) := by decide +kernel
theorem dJxc12de_init_da8c8_4 : decode cJxc12de_init_da8c8 4 = .ok (.aload_n 0, 1) := by decide +kernel
theorem dJxc12de_init_da8c8_5 : decode cJxc12de_init_da8c8 5 = .ok (.iconst 0, 1) := by decide +kernel
theorem dJxc12de_init_da8c8_6 : decode cJxc12de_init_da8c8 6 = .ok (.putfield 7, 3) := by decide +kernel
theorem dJxc12de_init_da8c8_9 : decode cJxc12de_init_da8c8 9 = .ok (.return_, 1) := by decide +kernel
set_option maxRecDepth 20000 in
theorem ggJx4a65c_init_da8c8_Jxc12de_init_da8c8 : GoodIn wsJx4a65c_init_da8c8 wsJxc12de_init_da8c8 := goodIn_r _ [6, 7, 8, 9, 10, 11, 12, 13, 14, 15, 16, 17] (by decide +kernel) (by decide +kernel)
set_option maxRecDepth 20000 in
theorem gJx4a65c_init_da8c8_Jxc12de_init_da8c8 : GoodIn wsJx4a65c_init_da8c8 (wsJxc12de_init_da8c8) := ggJx4a65c_init_da8c8_Jxc12de_init_da8c8
theorem dJx4a65c_init_da8c8_0 : decode cJx4a65c_init_da8c8 0 = .ok (.aload_n 0, 1) := by decide +kernel
theorem dJx4a65c_init_da8c8_1 : decode cJx4a65c_init_da8c8 1 = .ok (.invokespecial 1, 3) := by decide +kernel
theorem dJx4a65c_init_da8c8_4 : decode cJx4a65c_init_da8c8 4 = .ok (.aload_n 0, 1) := by decide +kernel
theorem dJx4a65c_init_da8c8_5 : decode cJx4a65c_init_da8c8 5 = .ok (.getstatic 39, 3) := by decide +kernel
theorem dJx4a65c_init_da8c8_8 : decode cJx4a65c_init_da8c8 8 = .ok (.putfield 9, 3) := by decide +kernel
theorem dJx4a65c_init_da8c8_11 : decode cJx4a65c_init_da8c8 11 = .ok (.return_, 1) := by decide +kernel
