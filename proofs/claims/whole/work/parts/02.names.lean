theorem goodIn_r {big : List Cond} (ws : List Cond) (ps : List Nat) (hp : ws = ps.filterMap (fun i => big[i]?)) (h : ws.all goodWord = true) : GoodIn big ws := by
  intro w hw
  have h1 := List.all_eq_true.mp h w hw
  rw [hp] at hw
  obtain ⟨i, -, hi⟩ := List.mem_filterMap.mp hw
  have hm : w ∈ big := by first | exact List.mem_of_getElem? hi | exact List.getElem?_mem hi
  exact ⟨hm, good_of_word h1⟩
theorem goodIn_app {big a b : List Cond} (ha : GoodIn big a) (hb : GoodIn big b) : GoodIn big (a ++ b) := fun w h => (List.mem_append.mp h).elim (ha w) (hb w)
theorem goodIn_ca {big a b : List Cond} {c : Cond} (ha : GoodIn big (c :: a)) (hb : GoodIn big b) : GoodIn big (c :: (a ++ b)) := fun w h => (List.mem_cons.mp h).elim (fun e => ha w (List.mem_cons.mpr (Or.inl e))) (fun h => (List.mem_append.mp h).elim (fun h => ha w (List.mem_cons.mpr (Or.inr h))) (hb w))
theorem goodIn_sub {big ws : List Cond} (hm : ∀ w ∈ ws, w ∈ big) (h : ws.all goodWord = true) : GoodIn big ws := fun w hw => ⟨hm w hw, good_of_word (List.all_eq_true.mp h w hw)⟩
def RX0 : String := "LiquidTongue$Checker"
def TX0 : u_T := fun k => match k with
  | 0 => ("LiquidTongue$Checker", "program", "LLiquidTongue$Parser;", true)
  | 1 => ("LiquidTongue$Checker", "types", "LLiquidTongue$Typer;", true)
  | 2 => ("LiquidTongue$Checker", "judge", "LLiquidTongue$Judge;", true)
  | 3 => ("LiquidTongue$Checker", "scopes", "Ljava/util/ArrayList;", true)
  | 4 => ("LiquidTongue$Checker", "lefts", "Ljava/util/ArrayList;", true)
  | 5 => ("LiquidTongue$Checker", "rights", "Ljava/util/ArrayList;", true)
  | 6 => ("LiquidTongue$Checker", "needs", "Ljava/util/ArrayList;", true)
  | 7 => ("LiquidTongue$Checker", "stars", "[LLiquidTongue$Name;", true)
  | 8 => ("LiquidTongue$Checker", "starCount", "I", false)
  | _ => ("LiquidTongue$Checker", "firstDoubt", "I", false)
def tyX0 : Nat → FieldType := fun k => match k with
  | 0 => .object "LiquidTongue$Parser"
  | 1 => .object "LiquidTongue$Typer"
  | 2 => .object "LiquidTongue$Judge"
  | 3 => .object "java/util/ArrayList"
  | 4 => .object "java/util/ArrayList"
  | 5 => .object "java/util/ArrayList"
  | 6 => .object "java/util/ArrayList"
  | 7 => .array (.object "LiquidTongue$Name")
  | 8 => .int
  | _ => .int
abbrev wsX00 : List Cond := u_ws RX0 TX0 10
theorem nmX0 : ∀ a, a < 10 → ∀ b, b < 10 → a ≠ b → (TX0 a).2.1 ≠ (TX0 b).2.1 := by decide +kernel
theorem tyX0_ok : ∀ k, k < 10 → parseFieldDescriptor (TX0 k).2.2.1 = some (tyX0 k) := by decide +kernel
abbrev cX0_init : ByteArray := prog_2_method_1_code
def yX0_init : MethodName := ⟨RX0, "<init>", "(LLiquidTongue$Parser;LLiquidTongue$Typer;LLiquidTongue$Judge;)V"⟩
abbrev cX0_gather : ByteArray := prog_2_method_2_code
def yX0_gather : MethodName := ⟨RX0, "gather", "()V"⟩
abbrev cX0_findDoubt : ByteArray := prog_2_method_3_code
def yX0_findDoubt : MethodName := ⟨RX0, "findDoubt", "()V"⟩
abbrev cX0_weakenAll : ByteArray := prog_2_method_4_code
def yX0_weakenAll : MethodName := ⟨RX0, "weakenAll", "()V"⟩
abbrev cX0_lastChange : ByteArray := prog_2_method_5_code
def yX0_lastChange : MethodName := ⟨RX0, "lastChange", "(I)I"⟩
abbrev cX0_walk : ByteArray := prog_2_method_6_code
def yX0_walk : MethodName := ⟨RX0, "walk", "(LLiquidTongue$Node;LLiquidTongue$Scope;)LLiquidTongue$Known;"⟩
abbrev cX0_plain : ByteArray := prog_2_method_7_code
def yX0_plain : MethodName := ⟨RX0, "plain", "(LLiquidTongue$Node;)LLiquidTongue$Known;"⟩
abbrev cX0_product : ByteArray := prog_2_method_8_code
def yX0_product : MethodName := ⟨RX0, "product", "(LLiquidTongue$Sum;LLiquidTongue$Sum;)LLiquidTongue$Known;"⟩
abbrev cX0_remainder : ByteArray := prog_2_method_9_code
def yX0_remainder : MethodName := ⟨RX0, "remainder", "(LLiquidTongue$Node;)LLiquidTongue$Known;"⟩
abbrev cX0_walkLet : ByteArray := prog_2_method_10_code
def yX0_walkLet : MethodName := ⟨RX0, "walkLet", "(LLiquidTongue$Node;LLiquidTongue$Scope;)LLiquidTongue$Known;"⟩
abbrev cX0_walkRec : ByteArray := prog_2_method_11_code
def yX0_walkRec : MethodName := ⟨RX0, "walkRec", "(LLiquidTongue$Node;LLiquidTongue$Scope;)LLiquidTongue$Known;"⟩
abbrev cX0_walkFunction : ByteArray := prog_2_method_12_code
def yX0_walkFunction : MethodName := ⟨RX0, "walkFunction", "(LLiquidTongue$Node;LLiquidTongue$Scope;)LLiquidTongue$Known;"⟩
abbrev cX0_fitBody : ByteArray := prog_2_method_13_code
def yX0_fitBody : MethodName := ⟨RX0, "fitBody", "(LLiquidTongue$Node;LLiquidTongue$Known;LLiquidTongue$Scope;)V"⟩
abbrev cX0_walkIf : ByteArray := prog_2_method_14_code
def yX0_walkIf : MethodName := ⟨RX0, "walkIf", "(LLiquidTongue$Node;LLiquidTongue$Scope;)LLiquidTongue$Known;"⟩
abbrev cX0_walkMatch : ByteArray := prog_2_method_15_code
def yX0_walkMatch : MethodName := ⟨RX0, "walkMatch", "(LLiquidTongue$Node;LLiquidTongue$Scope;)LLiquidTongue$Known;"⟩
abbrev cX0_walkCall : ByteArray := prog_2_method_16_code
def yX0_walkCall : MethodName := ⟨RX0, "walkCall", "(LLiquidTongue$Node;LLiquidTongue$Scope;)LLiquidTongue$Known;"⟩
abbrev cX0_fit : ByteArray := prog_2_method_17_code
def yX0_fit : MethodName := ⟨RX0, "fit", "(LLiquidTongue$Known;LLiquidTongue$Known;LLiquidTongue$Scope;)V"⟩
abbrev cX0_template : ByteArray := prog_2_method_18_code
def yX0_template : MethodName := ⟨RX0, "template", "(ILjava/util/ArrayList;LLiquidTongue$Scope;)LLiquidTongue$Known;"⟩
abbrev cX0_shape : ByteArray := prog_2_method_19_code
def yX0_shape : MethodName := ⟨RX0, "shape", "(ILjava/util/ArrayList;I)LLiquidTongue$Known;"⟩
abbrev cX0_sayInstances : ByteArray := prog_2_method_20_code
def yX0_sayInstances : MethodName := ⟨RX0, "sayInstances", "(LLiquidTongue$Known;)V"⟩
abbrev cX0_instance : ByteArray := prog_2_method_21_code
def yX0_instance : MethodName := ⟨RX0, "instance", "(LLiquidTongue$Name;I)LLiquidTongue$Sum;"⟩
def RX1 : String := "LiquidTongue$Judge"
def TX1 : u_T := fun k => match k with
  | 0 => ("LiquidTongue$Judge", "octagon", "LLiquidTongue$Octagon;", true)
  | 1 => ("LiquidTongue$Judge", "pending", "[LLiquidTongue$Node;", true)
  | 2 => ("LiquidTongue$Judge", "pendingHolds", "[Z", true)
  | 3 => ("LiquidTongue$Judge", "pendingCount", "I", false)
  | 4 => ("LiquidTongue$Judge", "truths", "[LLiquidTongue$Name;", true)
  | 5 => ("LiquidTongue$Judge", "truthHolds", "[Z", true)
  | 6 => ("LiquidTongue$Judge", "truthCount", "I", false)
  | 7 => ("LiquidTongue$Judge", "round", "I", false)
  | 8 => ("LiquidTongue$Judge", "weakened", "LLiquidTongue$Known;", false)
  | _ => ("LiquidTongue$Judge", "possible", "Z", false)
def tyX1 : Nat → FieldType := fun k => match k with
  | 0 => .object "LiquidTongue$Octagon"
  | 1 => .array (.object "LiquidTongue$Node")
  | 2 => .array .boolean
  | 3 => .int
  | 4 => .array (.object "LiquidTongue$Name")
  | 5 => .array .boolean
  | 6 => .int
  | 7 => .int
  | 8 => .object "LiquidTongue$Known"
  | _ => .boolean
abbrev wsX10 : List Cond := u_ws RX1 TX1 10
theorem nmX1 : ∀ a, a < 10 → ∀ b, b < 10 → a ≠ b → (TX1 a).2.1 ≠ (TX1 b).2.1 := by decide +kernel
theorem tyX1_ok : ∀ k, k < 10 → parseFieldDescriptor (TX1 k).2.2.1 = some (tyX1 k) := by decide +kernel
abbrev cX1_init : ByteArray := prog_3_method_1_code
def yX1_init : MethodName := ⟨RX1, "<init>", "()V"⟩
abbrev cX1_weaken : ByteArray := prog_3_method_2_code
def yX1_weaken : MethodName := ⟨RX1, "weaken", "(LLiquidTongue$Scope;LLiquidTongue$Known;LLiquidTongue$Known;)Z"⟩
abbrev cX1_isSure : ByteArray := prog_3_method_3_code
def yX1_isSure : MethodName := ⟨RX1, "isSure", "(LLiquidTongue$Scope;LLiquidTongue$Node;)Z"⟩
abbrev cX1_isFormed : ByteArray := prog_3_method_4_code
def yX1_isFormed : MethodName := ⟨RX1, "isFormed", "(LLiquidTongue$Node;)Z"⟩
abbrev cX1_begin : ByteArray := prog_3_method_5_code
def yX1_begin : MethodName := ⟨RX1, "begin", "(LLiquidTongue$Scope;LLiquidTongue$Known;)V"⟩
abbrev cX1_learn : ByteArray := prog_3_method_6_code
def yX1_learn : MethodName := ⟨RX1, "learn", "(LLiquidTongue$Known;I)V"⟩
abbrev cX1_meet : ByteArray := prog_3_method_7_code
def yX1_meet : MethodName := ⟨RX1, "meet", "(LLiquidTongue$Known;IZ)Z"⟩
abbrev cX1_side : ByteArray := prog_3_method_8_code
def yX1_side : MethodName := ⟨RX1, "side", "(LLiquidTongue$Name;I)I"⟩
abbrev cX1_assume : ByteArray := prog_3_method_9_code
def yX1_assume : MethodName := ⟨RX1, "assume", "(LLiquidTongue$Node;Z)V"⟩
abbrev cX1_postpone : ByteArray := prog_3_method_10_code
def yX1_postpone : MethodName := ⟨RX1, "postpone", "(LLiquidTongue$Node;Z)V"⟩
abbrev cX1_choose : ByteArray := prog_3_method_11_code
def yX1_choose : MethodName := ⟨RX1, "choose", "(LLiquidTongue$Name;Z)V"⟩
abbrev cX1_compare : ByteArray := prog_3_method_12_code
def yX1_compare : MethodName := ⟨RX1, "compare", "(LLiquidTongue$Node;Z)V"⟩
abbrev cX1_opposite : ByteArray := prog_3_method_13_code
def yX1_opposite : MethodName := ⟨RX1, "opposite", "(I)I"⟩
abbrev cX1_limit : ByteArray := prog_3_method_14_code
def yX1_limit : MethodName := ⟨RX1, "limit", "(LLiquidTongue$Sum;II)V"⟩
abbrev cX1_explore : ByteArray := prog_3_method_15_code
def yX1_explore : MethodName := ⟨RX1, "explore", "(I)V"⟩
abbrev cX1_isDecided : ByteArray := prog_3_method_16_code
def yX1_isDecided : MethodName := ⟨RX1, "isDecided", "()Z"⟩
abbrev cX1_conclude : ByteArray := prog_3_method_17_code
def yX1_conclude : MethodName := ⟨RX1, "conclude", "()V"⟩
def RX2 : String := "LiquidTongue$Known"
def TX2 : u_T := fun k => match k with
  | 0 => ("LiquidTongue$Known", "kind", "I", true)
  | 1 => ("LiquidTongue$Known", "origin", "LLiquidTongue$Known;", true)
  | 2 => ("LiquidTongue$Known", "parameter", "LLiquidTongue$Name;", false)
  | 3 => ("LiquidTongue$Known", "takes", "LLiquidTongue$Known;", false)
  | 4 => ("LiquidTongue$Known", "answers", "LLiquidTongue$Known;", false)
  | 5 => ("LiquidTongue$Known", "rels", "[I", false)
  | 6 => ("LiquidTongue$Known", "sums", "[LLiquidTongue$Sum;", false)
  | 7 => ("LiquidTongue$Known", "count", "I", false)
  | 8 => ("LiquidTongue$Known", "changed", "I", false)
  | 9 => ("LiquidTongue$Known", "gone", "[LLiquidTongue$Name;", true)
  | 10 => ("LiquidTongue$Known", "instead", "[LLiquidTongue$Sum;", true)
  | 11 => ("LiquidTongue$Known", "rel", "I", false)
  | 12 => ("LiquidTongue$Known", "times", "I", false)
  | 13 => ("LiquidTongue$Known", "name", "LLiquidTongue$Name;", false)
  | _ => ("LiquidTongue$Known", "plus", "J", false)
def tyX2 : Nat → FieldType := fun k => match k with
  | 0 => .int
  | 1 => .object "LiquidTongue$Known"
  | 2 => .object "LiquidTongue$Name"
  | 3 => .object "LiquidTongue$Known"
  | 4 => .object "LiquidTongue$Known"
  | 5 => .array .int
  | 6 => .array (.object "LiquidTongue$Sum")
  | 7 => .int
  | 8 => .int
  | 9 => .array (.object "LiquidTongue$Name")
  | 10 => .array (.object "LiquidTongue$Sum")
  | 11 => .int
  | 12 => .int
  | 13 => .object "LiquidTongue$Name"
  | _ => .long
abbrev wsX20 : List Cond := u_ws RX2 TX2 15
theorem nmX2 : ∀ a, a < 15 → ∀ b, b < 15 → a ≠ b → (TX2 a).2.1 ≠ (TX2 b).2.1 := by decide +kernel
theorem tyX2_ok : ∀ k, k < 15 → parseFieldDescriptor (TX2 k).2.2.1 = some (tyX2 k) := by decide +kernel
abbrev cX2_init : ByteArray := prog_4_method_1_code
def yX2_init : MethodName := ⟨RX2, "<init>", "(I)V"⟩
abbrev cX2_init_ : ByteArray := prog_4_method_2_code
def yX2_init_ : MethodName := ⟨RX2, "<init>", "(LLiquidTongue$Known;[LLiquidTongue$Name;[LLiquidTongue$Sum;)V"⟩
abbrev cX2_of : ByteArray := prog_4_method_3_code
def yX2_of : MethodName := ⟨RX2, "of", "(ILLiquidTongue$Sum;)LLiquidTongue$Known;"⟩
abbrev cX2_makeRoom : ByteArray := prog_4_method_4_code
def yX2_makeRoom : MethodName := ⟨RX2, "makeRoom", "(I)V"⟩
abbrev cX2_say : ByteArray := prog_4_method_5_code
def yX2_say : MethodName := ⟨RX2, "say", "(ILLiquidTongue$Sum;)V"⟩
abbrev cX2_recall : ByteArray := prog_4_method_6_code
def yX2_recall : MethodName := ⟨RX2, "recall", "(I)V"⟩
abbrev cX2_insteadOf : ByteArray := prog_4_method_7_code
def yX2_insteadOf : MethodName := ⟨RX2, "insteadOf", "(LLiquidTongue$Name;)LLiquidTongue$Sum;"⟩
abbrev cX2_taken : ByteArray := prog_4_method_8_code
def yX2_taken : MethodName := ⟨RX2, "taken", "()LLiquidTongue$Known;"⟩
abbrev cX2_answered : ByteArray := prog_4_method_9_code
def yX2_answered : MethodName := ⟨RX2, "answered", "(LLiquidTongue$Sum;)LLiquidTongue$Known;"⟩
def RX3 : String := "LiquidTongue$Machine"
def TX3 : u_T := fun k => match k with
  | 0 => ("LiquidTongue$Machine", "program", "LLiquidTongue$Parser;", false)
  | 1 => ("LiquidTongue$Machine", "answerKind", "I", false)
  | 2 => ("LiquidTongue$Machine", "given", "[J", true)
  | 3 => ("LiquidTongue$Machine", "givenRows", "[[I", true)
  | 4 => ("LiquidTongue$Machine", "heap", "[J", false)
  | 5 => ("LiquidTongue$Machine", "top", "I", false)
  | 6 => ("LiquidTongue$Machine", "waiting", "[LLiquidTongue$Node;", true)
  | 7 => ("LiquidTongue$Machine", "waitingScopes", "[I", true)
  | 8 => ("LiquidTongue$Machine", "waitingArguments", "[I", true)
  | 9 => ("LiquidTongue$Machine", "waitingCount", "I", false)
  | 10 => ("LiquidTongue$Machine", "scope", "I", false)
  | 11 => ("LiquidTongue$Machine", "fuelLeft", "I", false)
  | 12 => ("LiquidTongue$Machine", "ending", "I", false)
  | 13 => ("LiquidTongue$Machine", "depth", "I", false)
  | 14 => ("LiquidTongue$Machine", "elements", "I", false)
  | 15 => ("LiquidTongue$Machine", "result", "J", false)
  | 16 => ("LiquidTongue$Machine", "gave", "J", false)
  | _ => ("LiquidTongue$Machine", "took", "I", false)
def tyX3 : Nat → FieldType := fun k => match k with
  | 0 => .object "LiquidTongue$Parser"
  | 1 => .int
  | 2 => .array .long
  | 3 => .array (.array .int)
  | 4 => .array .long
  | 5 => .int
  | 6 => .array (.object "LiquidTongue$Node")
  | 7 => .array .int
  | 8 => .array .int
  | 9 => .int
  | 10 => .int
  | 11 => .int
  | 12 => .int
  | 13 => .int
  | 14 => .int
  | 15 => .long
  | 16 => .long
  | _ => .int
abbrev wsX30 : List Cond := u_ws RX3 TX3 18
theorem nmX3 : ∀ a, a < 18 → ∀ b, b < 18 → a ≠ b → (TX3 a).2.1 ≠ (TX3 b).2.1 := by decide +kernel
theorem tyX3_ok : ∀ k, k < 18 → parseFieldDescriptor (TX3 k).2.2.1 = some (tyX3 k) := by decide +kernel
abbrev cX3_init : ByteArray := prog_5_method_1_code
def yX3_init : MethodName := ⟨RX3, "<init>", "()V"⟩
abbrev cX3_forget : ByteArray := prog_5_method_2_code
def yX3_forget : MethodName := ⟨RX3, "forget", "()V"⟩
abbrev cX3_take : ByteArray := prog_5_method_3_code
def yX3_take : MethodName := ⟨RX3, "take", "(LLiquidTongue$Parser;I)V"⟩
abbrev cX3_set : ByteArray := prog_5_method_4_code
def yX3_set : MethodName := ⟨RX3, "set", "(III)Z"⟩
abbrev cX3_setElement : ByteArray := prog_5_method_5_code
def yX3_setElement : MethodName := ⟨RX3, "setElement", "(III)Z"⟩
abbrev cX3_go : ByteArray := prog_5_method_6_code
def yX3_go : MethodName := ⟨RX3, "go", "(I)I"⟩
abbrev cX3_begin : ByteArray := prog_5_method_7_code
def yX3_begin : MethodName := ⟨RX3, "begin", "()V"⟩
abbrev cX3_givenArray : ByteArray := prog_5_method_8_code
def yX3_givenArray : MethodName := ⟨RX3, "givenArray", "(I)J"⟩
abbrev cX3_room : ByteArray := prog_5_method_9_code
def yX3_room : MethodName := ⟨RX3, "room", "(I)I"⟩
abbrev cX3_pair : ByteArray := prog_5_method_10_code
def yX3_pair : MethodName := ⟨RX3, "pair", "(JI)I"⟩
abbrev cX3_triple : ByteArray := prog_5_method_11_code
def yX3_triple : MethodName := ⟨RX3, "triple", "(JJJ)I"⟩
abbrev cX3_array : ByteArray := prog_5_method_12_code
def yX3_array : MethodName := ⟨RX3, "array", "(I)I"⟩
abbrev cX3_start : ByteArray := prog_5_method_13_code
def yX3_start : MethodName := ⟨RX3, "start", "(LLiquidTongue$Node;)LLiquidTongue$Node;"⟩
abbrev cX3_await : ByteArray := prog_5_method_14_code
def yX3_await : MethodName := ⟨RX3, "await", "(LLiquidTongue$Node;II)V"⟩
abbrev cX3_resume : ByteArray := prog_5_method_15_code
def yX3_resume : MethodName := ⟨RX3, "resume", "()LLiquidTongue$Node;"⟩
abbrev cX3_call : ByteArray := prog_5_method_16_code
def yX3_call : MethodName := ⟨RX3, "call", "(LLiquidTongue$Node;)LLiquidTongue$Node;"⟩
abbrev cX3_argument : ByteArray := prog_5_method_17_code
def yX3_argument : MethodName := ⟨RX3, "argument", "(LLiquidTongue$Node;)J"⟩
abbrev cX3_apply : ByteArray := prog_5_method_18_code
def yX3_apply : MethodName := ⟨RX3, "apply", "(II)LLiquidTongue$Node;"⟩
abbrev cX3_change : ByteArray := prog_5_method_19_code
def yX3_change : MethodName := ⟨RX3, "change", "(LLiquidTongue$Node;)V"⟩
abbrev cX3_elementOf : ByteArray := prog_5_method_20_code
def yX3_elementOf : MethodName := ⟨RX3, "elementOf", "(LLiquidTongue$Node;)I"⟩
abbrev cX3_match : ByteArray := prog_5_method_21_code
def yX3_match : MethodName := ⟨RX3, "match", "(LLiquidTongue$Node;)LLiquidTongue$Node;"⟩
abbrev cX3_plain : ByteArray := prog_5_method_22_code
def yX3_plain : MethodName := ⟨RX3, "plain", "(LLiquidTongue$Node;)J"⟩
abbrev cX3_newArray : ByteArray := prog_5_method_23_code
def yX3_newArray : MethodName := ⟨RX3, "newArray", "(J)J"⟩
abbrev cX3_cons : ByteArray := prog_5_method_24_code
def yX3_cons : MethodName := ⟨RX3, "cons", "(LLiquidTongue$Node;)J"⟩
abbrev cX3_product : ByteArray := prog_5_method_25_code
def yX3_product : MethodName := ⟨RX3, "product", "(JLLiquidTongue$Node;)J"⟩
abbrev cX3_quotient : ByteArray := prog_5_method_26_code
def yX3_quotient : MethodName := ⟨RX3, "quotient", "(LLiquidTongue$Node;)J"⟩
abbrev cX3_sum : ByteArray := prog_5_method_27_code
def yX3_sum : MethodName := ⟨RX3, "sum", "(LLiquidTongue$Node;)J"⟩
abbrev cX3_measure : ByteArray := prog_5_method_28_code
def yX3_measure : MethodName := ⟨RX3, "measure", "(JI)J"⟩
abbrev cX3_valueOf : ByteArray := prog_5_method_29_code
def yX3_valueOf : MethodName := ⟨RX3, "valueOf", "(LLiquidTongue$Name;I)J"⟩
abbrev cX3_holds : ByteArray := prog_5_method_30_code
def yX3_holds : MethodName := ⟨RX3, "holds", "(LLiquidTongue$Node;)Z"⟩
abbrev cX3_stands : ByteArray := prog_5_method_31_code
def yX3_stands : MethodName := ⟨RX3, "stands", "(JILLiquidTongue$Node;)Z"⟩
def RX4 : String := "LiquidTongue$Name"
def TX4 : u_T := fun k => match k with
  | 0 => ("LiquidTongue$Name", "text", "Ljava/lang/String;", true)
  | 1 => ("LiquidTongue$Name", "index", "I", false)
  | 2 => ("LiquidTongue$Name", "type", "I", false)
  | 3 => ("LiquidTongue$Name", "base", "I", false)
  | 4 => ("LiquidTongue$Name", "known", "LLiquidTongue$Known;", false)
  | 5 => ("LiquidTongue$Name", "terms", "[LLiquidTongue$Sum;", false)
  | 6 => ("LiquidTongue$Name", "slot", "I", false)
  | _ => ("LiquidTongue$Name", "round", "I", false)
def tyX4 : Nat → FieldType := fun k => match k with
  | 0 => .object "java/lang/String"
  | 1 => .int
  | 2 => .int
  | 3 => .int
  | 4 => .object "LiquidTongue$Known"
  | 5 => .array (.object "LiquidTongue$Sum")
  | 6 => .int
  | _ => .int
abbrev wsX40 : List Cond := u_ws RX4 TX4 8
theorem nmX4 : ∀ a, a < 8 → ∀ b, b < 8 → a ≠ b → (TX4 a).2.1 ≠ (TX4 b).2.1 := by decide +kernel
theorem tyX4_ok : ∀ k, k < 8 → parseFieldDescriptor (TX4 k).2.2.1 = some (tyX4 k) := by decide +kernel
abbrev cX4_init : ByteArray := prog_6_method_1_code
def yX4_init : MethodName := ⟨RX4, "<init>", "(Ljava/lang/String;I)V"⟩
abbrev cX4_isMeasured : ByteArray := prog_6_method_2_code
def yX4_isMeasured : MethodName := ⟨RX4, "isMeasured", "()Z"⟩
def RX5 : String := "LiquidTongue$Node"
def TX5 : u_T := fun k => match k with
  | 0 => ("LiquidTongue$Node", "kind", "I", false)
  | 1 => ("LiquidTongue$Node", "place", "I", false)
  | 2 => ("LiquidTongue$Node", "counted", "I", true)
  | 3 => ("LiquidTongue$Node", "mark", "I", false)
  | 4 => ("LiquidTongue$Node", "namePlace", "I", false)
  | 5 => ("LiquidTongue$Node", "rel", "I", false)
  | 6 => ("LiquidTongue$Node", "alone", "I", false)
  | 7 => ("LiquidTongue$Node", "number", "I", false)
  | 8 => ("LiquidTongue$Node", "type", "I", false)
  | 9 => ("LiquidTongue$Node", "name", "LLiquidTongue$Name;", false)
  | 10 => ("LiquidTongue$Node", "told", "LLiquidTongue$Name;", false)
  | 11 => ("LiquidTongue$Node", "names", "Ljava/util/ArrayList;", false)
  | 12 => ("LiquidTongue$Node", "first", "LLiquidTongue$Node;", false)
  | 13 => ("LiquidTongue$Node", "second", "LLiquidTongue$Node;", false)
  | 14 => ("LiquidTongue$Node", "test", "LLiquidTongue$Node;", false)
  | 15 => ("LiquidTongue$Node", "left", "LLiquidTongue$Node;", false)
  | 16 => ("LiquidTongue$Node", "right", "LLiquidTongue$Node;", false)
  | 17 => ("LiquidTongue$Node", "need", "LLiquidTongue$Node;", false)
  | 18 => ("LiquidTongue$Node", "parts", "Ljava/util/ArrayList;", false)
  | 19 => ("LiquidTongue$Node", "sum", "LLiquidTongue$Sum;", false)
  | _ => ("LiquidTongue$Node", "scope", "LLiquidTongue$Scope;", false)
def tyX5 : Nat → FieldType := fun k => match k with
  | 0 => .int
  | 1 => .int
  | 2 => .int
  | 3 => .int
  | 4 => .int
  | 5 => .int
  | 6 => .int
  | 7 => .int
  | 8 => .int
  | 9 => .object "LiquidTongue$Name"
  | 10 => .object "LiquidTongue$Name"
  | 11 => .object "java/util/ArrayList"
  | 12 => .object "LiquidTongue$Node"
  | 13 => .object "LiquidTongue$Node"
  | 14 => .object "LiquidTongue$Node"
  | 15 => .object "LiquidTongue$Node"
  | 16 => .object "LiquidTongue$Node"
  | 17 => .object "LiquidTongue$Node"
  | 18 => .object "java/util/ArrayList"
  | 19 => .object "LiquidTongue$Sum"
  | _ => .object "LiquidTongue$Scope"
abbrev wsX50 : List Cond := u_ws RX5 TX5 21
theorem nmX5 : ∀ a, a < 21 → ∀ b, b < 21 → a ≠ b → (TX5 a).2.1 ≠ (TX5 b).2.1 := by decide +kernel
theorem tyX5_ok : ∀ k, k < 21 → parseFieldDescriptor (TX5 k).2.2.1 = some (tyX5 k) := by decide +kernel
abbrev cX5_init : ByteArray := prog_7_method_1_code
def yX5_init : MethodName := ⟨RX5, "<init>", "(III)V"⟩
def RX6 : String := "LiquidTongue$Octagon"
def TX6 : u_T := fun k => match k with
  | 0 => ("LiquidTongue$Octagon", "cells", "[J", false)
  | 1 => ("LiquidTongue$Octagon", "width", "I", false)
  | 2 => ("LiquidTongue$Octagon", "base", "I", false)
  | 3 => ("LiquidTongue$Octagon", "closed", "Z", false)
  | _ => ("LiquidTongue$Octagon", "failed", "Z", false)
def tyX6 : Nat → FieldType := fun k => match k with
  | 0 => .array .long
  | 1 => .int
  | 2 => .int
  | 3 => .boolean
  | _ => .boolean
abbrev wsX60 : List Cond := u_ws RX6 TX6 5
theorem nmX6 : ∀ a, a < 5 → ∀ b, b < 5 → a ≠ b → (TX6 a).2.1 ≠ (TX6 b).2.1 := by decide +kernel
theorem tyX6_ok : ∀ k, k < 5 → parseFieldDescriptor (TX6 k).2.2.1 = some (tyX6 k) := by decide +kernel
abbrev cX6_init : ByteArray := prog_8_method_1_code
def yX6_init : MethodName := ⟨RX6, "<init>", "()V"⟩
abbrev cX6_reset : ByteArray := prog_8_method_2_code
def yX6_reset : MethodName := ⟨RX6, "reset", "(I)V"⟩
abbrev cX6_makeRoom : ByteArray := prog_8_method_3_code
def yX6_makeRoom : MethodName := ⟨RX6, "makeRoom", "(I)V"⟩
abbrev cX6_rise : ByteArray := prog_8_method_4_code
def yX6_rise : MethodName := ⟨RX6, "rise", "()V"⟩
abbrev cX6_sink : ByteArray := prog_8_method_5_code
def yX6_sink : MethodName := ⟨RX6, "sink", "()V"⟩
abbrev cX6_limit : ByteArray := prog_8_method_6_code
def yX6_limit : MethodName := ⟨RX6, "limit", "(IIJ)V"⟩
abbrev cX6_isLimited : ByteArray := prog_8_method_7_code
def yX6_isLimited : MethodName := ⟨RX6, "isLimited", "(IIJ)Z"⟩
abbrev cX6_lead : ByteArray := prog_8_method_8_code
def yX6_lead : MethodName := ⟨RX6, "lead", "(IIJ)V"⟩
abbrev cX6_close : ByteArray := prog_8_method_9_code
def yX6_close : MethodName := ⟨RX6, "close", "()V"⟩
abbrev cX6_tighten : ByteArray := prog_8_method_10_code
def yX6_tighten : MethodName := ⟨RX6, "tighten", "()V"⟩
def RX7 : String := "LiquidTongue$Parser"
def TX7 : u_T := fun k => match k with
  | 0 => ("LiquidTongue$Parser", "words", "LLiquidTongue$Words;", true)
  | 1 => ("LiquidTongue$Parser", "counting", "[LLiquidTongue$Name;", true)
  | 2 => ("LiquidTongue$Parser", "told", "Ljava/util/ArrayList;", true)
  | 3 => ("LiquidTongue$Parser", "functions", "Ljava/util/ArrayList;", true)
  | 4 => ("LiquidTongue$Parser", "qualBases", "[I", true)
  | 5 => ("LiquidTongue$Parser", "qualRels", "[I", true)
  | 6 => ("LiquidTongue$Parser", "qualStars", "[I", true)
  | 7 => ("LiquidTongue$Parser", "qualNumbers", "[I", true)
  | 8 => ("LiquidTongue$Parser", "qualCount", "I", false)
  | 9 => ("LiquidTongue$Parser", "inputCount", "I", false)
  | 10 => ("LiquidTongue$Parser", "root", "LLiquidTongue$Node;", false)
  | 11 => ("LiquidTongue$Parser", "at", "I", false)
  | 12 => ("LiquidTongue$Parser", "counted", "I", false)
  | 13 => ("LiquidTongue$Parser", "conditions", "I", false)
  | 14 => ("LiquidTongue$Parser", "atoms", "I", false)
  | 15 => ("LiquidTongue$Parser", "fault", "I", false)
  | 16 => ("LiquidTongue$Parser", "nameFault", "I", false)
  | _ => ("LiquidTongue$Parser", "formFault", "I", false)
def tyX7 : Nat → FieldType := fun k => match k with
  | 0 => .object "LiquidTongue$Words"
  | 1 => .array (.object "LiquidTongue$Name")
  | 2 => .object "java/util/ArrayList"
  | 3 => .object "java/util/ArrayList"
  | 4 => .array .int
  | 5 => .array .int
  | 6 => .array .int
  | 7 => .array .int
  | 8 => .int
  | 9 => .int
  | 10 => .object "LiquidTongue$Node"
  | 11 => .int
  | 12 => .int
  | 13 => .int
  | 14 => .int
  | 15 => .int
  | 16 => .int
  | _ => .int
abbrev wsX70 : List Cond := u_ws RX7 TX7 18
theorem nmX7 : ∀ a, a < 18 → ∀ b, b < 18 → a ≠ b → (TX7 a).2.1 ≠ (TX7 b).2.1 := by decide +kernel
theorem tyX7_ok : ∀ k, k < 18 → parseFieldDescriptor (TX7 k).2.2.1 = some (tyX7 k) := by decide +kernel
abbrev cX7_init : ByteArray := prog_9_method_1_code
def yX7_init : MethodName := ⟨RX7, "<init>", "(LLiquidTongue$Words;)V"⟩
abbrev cX7_readProgram : ByteArray := prog_9_method_2_code
def yX7_readProgram : MethodName := ⟨RX7, "readProgram", "()V"⟩
abbrev cX7_kind : ByteArray := prog_9_method_3_code
def yX7_kind : MethodName := ⟨RX7, "kind", "()I"⟩
abbrev cX7_here : ByteArray := prog_9_method_4_code
def yX7_here : MethodName := ⟨RX7, "here", "()I"⟩
abbrev cX7_next : ByteArray := prog_9_method_5_code
def yX7_next : MethodName := ⟨RX7, "next", "()V"⟩
abbrev cX7_fail : ByteArray := prog_9_method_6_code
def yX7_fail : MethodName := ⟨RX7, "fail", "()V"⟩
abbrev cX7_expect : ByteArray := prog_9_method_7_code
def yX7_expect : MethodName := ⟨RX7, "expect", "(I)V"⟩
abbrev cX7_blameForm : ByteArray := prog_9_method_8_code
def yX7_blameForm : MethodName := ⟨RX7, "blameForm", "(I)V"⟩
abbrev cX7_node : ByteArray := prog_9_method_9_code
def yX7_node : MethodName := ⟨RX7, "node", "(I)LLiquidTongue$Node;"⟩
abbrev cX7_readQual : ByteArray := prog_9_method_10_code
def yX7_readQual : MethodName := ⟨RX7, "readQual", "()V"⟩
abbrev cX7_readQualTerm : ByteArray := prog_9_method_11_code
def yX7_readQualTerm : MethodName := ⟨RX7, "readQualTerm", "()V"⟩
abbrev cX7_isRelation : ByteArray := prog_9_method_12_code
def yX7_isRelation : MethodName := ⟨RX7, "isRelation", "(I)Z"⟩
abbrev cX7_readInput : ByteArray := prog_9_method_13_code
def yX7_readInput : MethodName := ⟨RX7, "readInput", "()V"⟩
abbrev cX7_tell : ByteArray := prog_9_method_14_code
def yX7_tell : MethodName := ⟨RX7, "tell", "()LLiquidTongue$Name;"⟩
abbrev cX7_count : ByteArray := prog_9_method_15_code
def yX7_count : MethodName := ⟨RX7, "count", "(LLiquidTongue$Name;)V"⟩
abbrev cX7_counts : ByteArray := prog_9_method_16_code
def yX7_counts : MethodName := ⟨RX7, "counts", "(Ljava/lang/String;)LLiquidTongue$Name;"⟩
abbrev cX7_use : ByteArray := prog_9_method_17_code
def yX7_use : MethodName := ⟨RX7, "use", "()LLiquidTongue$Name;"⟩
abbrev cX7_expression : ByteArray := prog_9_method_18_code
def yX7_expression : MethodName := ⟨RX7, "expression", "(I)LLiquidTongue$Node;"⟩
abbrev cX7_readLet : ByteArray := prog_9_method_19_code
def yX7_readLet : MethodName := ⟨RX7, "readLet", "(LLiquidTongue$Node;I)V"⟩
abbrev cX7_readRec : ByteArray := prog_9_method_20_code
def yX7_readRec : MethodName := ⟨RX7, "readRec", "(LLiquidTongue$Node;I)V"⟩
abbrev cX7_beFunction : ByteArray := prog_9_method_21_code
def yX7_beFunction : MethodName := ⟨RX7, "beFunction", "(LLiquidTongue$Node;)V"⟩
abbrev cX7_tellParameter : ByteArray := prog_9_method_22_code
def yX7_tellParameter : MethodName := ⟨RX7, "tellParameter", "(LLiquidTongue$Node;)V"⟩
abbrev cX7_readFunction : ByteArray := prog_9_method_23_code
def yX7_readFunction : MethodName := ⟨RX7, "readFunction", "(LLiquidTongue$Node;I)V"⟩
abbrev cX7_readIf : ByteArray := prog_9_method_24_code
def yX7_readIf : MethodName := ⟨RX7, "readIf", "(LLiquidTongue$Node;I)V"⟩
abbrev cX7_readAssert : ByteArray := prog_9_method_25_code
def yX7_readAssert : MethodName := ⟨RX7, "readAssert", "(LLiquidTongue$Node;I)V"⟩
abbrev cX7_readSet : ByteArray := prog_9_method_26_code
def yX7_readSet : MethodName := ⟨RX7, "readSet", "(LLiquidTongue$Node;I)V"⟩
abbrev cX7_readIndex : ByteArray := prog_9_method_27_code
def yX7_readIndex : MethodName := ⟨RX7, "readIndex", "(LLiquidTongue$Node;)V"⟩
abbrev cX7_readMatch : ByteArray := prog_9_method_28_code
def yX7_readMatch : MethodName := ⟨RX7, "readMatch", "(LLiquidTongue$Node;I)V"⟩
abbrev cX7_readOpen : ByteArray := prog_9_method_29_code
def yX7_readOpen : MethodName := ⟨RX7, "readOpen", "(I)LLiquidTongue$Node;"⟩
abbrev cX7_beginsArgument : ByteArray := prog_9_method_30_code
def yX7_beginsArgument : MethodName := ⟨RX7, "beginsArgument", "(I)Z"⟩
abbrev cX7_readCall : ByteArray := prog_9_method_31_code
def yX7_readCall : MethodName := ⟨RX7, "readCall", "(I)LLiquidTongue$Node;"⟩
abbrev cX7_argument : ByteArray := prog_9_method_32_code
def yX7_argument : MethodName := ⟨RX7, "argument", "(I)LLiquidTongue$Node;"⟩
abbrev cX7_sum : ByteArray := prog_9_method_33_code
def yX7_sum : MethodName := ⟨RX7, "sum", "()LLiquidTongue$Node;"⟩
abbrev cX7_sum_ : ByteArray := prog_9_method_34_code
def yX7_sum_ : MethodName := ⟨RX7, "sum", "(I)LLiquidTongue$Node;"⟩
abbrev cX7_compare : ByteArray := prog_9_method_35_code
def yX7_compare : MethodName := ⟨RX7, "compare", "(LLiquidTongue$Sum;I)LLiquidTongue$Node;"⟩
abbrev cX7_test : ByteArray := prog_9_method_36_code
def yX7_test : MethodName := ⟨RX7, "test", "(I)LLiquidTongue$Node;"⟩
abbrev cX7_either : ByteArray := prog_9_method_37_code
def yX7_either : MethodName := ⟨RX7, "either", "(I)LLiquidTongue$Node;"⟩
abbrev cX7_both : ByteArray := prog_9_method_38_code
def yX7_both : MethodName := ⟨RX7, "both", "(I)LLiquidTongue$Node;"⟩
abbrev cX7_single : ByteArray := prog_9_method_39_code
def yX7_single : MethodName := ⟨RX7, "single", "(I)LLiquidTongue$Node;"⟩
abbrev cX7_comparison : ByteArray := prog_9_method_40_code
def yX7_comparison : MethodName := ⟨RX7, "comparison", "(LLiquidTongue$Node;)LLiquidTongue$Node;"⟩
def RX8 : String := "LiquidTongue$Scope"
def TX8 : u_T := fun k => match k with
  | 0 => ("LiquidTongue$Scope", "name", "LLiquidTongue$Name;", true)
  | 1 => ("LiquidTongue$Scope", "test", "LLiquidTongue$Node;", true)
  | 2 => ("LiquidTongue$Scope", "holds", "Z", true)
  | _ => ("LiquidTongue$Scope", "outer", "LLiquidTongue$Scope;", true)
def tyX8 : Nat → FieldType := fun k => match k with
  | 0 => .object "LiquidTongue$Name"
  | 1 => .object "LiquidTongue$Node"
  | 2 => .boolean
  | _ => .object "LiquidTongue$Scope"
abbrev wsX80 : List Cond := u_ws RX8 TX8 4
theorem nmX8 : ∀ a, a < 4 → ∀ b, b < 4 → a ≠ b → (TX8 a).2.1 ≠ (TX8 b).2.1 := by decide +kernel
theorem tyX8_ok : ∀ k, k < 4 → parseFieldDescriptor (TX8 k).2.2.1 = some (tyX8 k) := by decide +kernel
abbrev cX8_init : ByteArray := prog_10_method_1_code
def yX8_init : MethodName := ⟨RX8, "<init>", "(LLiquidTongue$Name;LLiquidTongue$Scope;)V"⟩
abbrev cX8_init_ : ByteArray := prog_10_method_2_code
def yX8_init_ : MethodName := ⟨RX8, "<init>", "(LLiquidTongue$Node;ZLLiquidTongue$Scope;)V"⟩
def RX9 : String := "LiquidTongue$Sum"
def TX9 : u_T := fun k => match k with
  | 0 => ("LiquidTongue$Sum", "names", "[LLiquidTongue$Name;", false)
  | 1 => ("LiquidTongue$Sum", "times", "[I", false)
  | 2 => ("LiquidTongue$Sum", "count", "I", false)
  | _ => ("LiquidTongue$Sum", "plus", "J", false)
def tyX9 : Nat → FieldType := fun k => match k with
  | 0 => .array (.object "LiquidTongue$Name")
  | 1 => .array .int
  | 2 => .int
  | _ => .long
abbrev wsX90 : List Cond := u_ws RX9 TX9 4
theorem nmX9 : ∀ a, a < 4 → ∀ b, b < 4 → a ≠ b → (TX9 a).2.1 ≠ (TX9 b).2.1 := by decide +kernel
theorem tyX9_ok : ∀ k, k < 4 → parseFieldDescriptor (TX9 k).2.2.1 = some (tyX9 k) := by decide +kernel
abbrev cX9_init : ByteArray := prog_11_method_1_code
def yX9_init : MethodName := ⟨RX9, "<init>", "()V"⟩
abbrev cX9_add : ByteArray := prog_11_method_2_code
def yX9_add : MethodName := ⟨RX9, "add", "(LLiquidTongue$Name;I)V"⟩
abbrev cX9_append : ByteArray := prog_11_method_3_code
def yX9_append : MethodName := ⟨RX9, "append", "(LLiquidTongue$Name;)V"⟩
abbrev cX9_addAll : ByteArray := prog_11_method_4_code
def yX9_addAll : MethodName := ⟨RX9, "addAll", "(LLiquidTongue$Sum;I)V"⟩
abbrev cX9_of : ByteArray := prog_11_method_5_code
def yX9_of : MethodName := ⟨RX9, "of", "(LLiquidTongue$Name;IJ)LLiquidTongue$Sum;"⟩
abbrev cX9_isTerm : ByteArray := prog_11_method_6_code
def yX9_isTerm : MethodName := ⟨RX9, "isTerm", "()Z"⟩
abbrev cX9_isFact : ByteArray := prog_11_method_7_code
def yX9_isFact : MethodName := ⟨RX9, "isFact", "()Z"⟩
def RX10 : String := "LiquidTongue$Typer"
def TX10 : u_T := fun k => match k with
  | 0 => ("LiquidTongue$Typer", "kinds", "[I", true)
  | 1 => ("LiquidTongue$Typer", "takes", "[I", true)
  | 2 => ("LiquidTongue$Typer", "answers", "[I", true)
  | 3 => ("LiquidTongue$Typer", "same", "[I", true)
  | 4 => ("LiquidTongue$Typer", "colours", "[I", true)
  | 5 => ("LiquidTongue$Typer", "work", "[I", true)
  | 6 => ("LiquidTongue$Typer", "count", "I", false)
  | 7 => ("LiquidTongue$Typer", "leaves", "I", false)
  | 8 => ("LiquidTongue$Typer", "fault", "I", false)
  | _ => ("LiquidTongue$Typer", "overfull", "I", false)
def tyX10 : Nat → FieldType := fun k => match k with
  | 0 => .array .int
  | 1 => .array .int
  | 2 => .array .int
  | 3 => .array .int
  | 4 => .array .int
  | 5 => .array .int
  | 6 => .int
  | 7 => .int
  | 8 => .int
  | _ => .int
abbrev wsX100 : List Cond := u_ws RX10 TX10 10
theorem nmX10 : ∀ a, a < 10 → ∀ b, b < 10 → a ≠ b → (TX10 a).2.1 ≠ (TX10 b).2.1 := by decide +kernel
theorem tyX10_ok : ∀ k, k < 10 → parseFieldDescriptor (TX10 k).2.2.1 = some (tyX10 k) := by decide +kernel
abbrev cX10_init : ByteArray := prog_12_method_1_code
def yX10_init : MethodName := ⟨RX10, "<init>", "(I)V"⟩
abbrev cX10_findAll : ByteArray := prog_12_method_2_code
def yX10_findAll : MethodName := ⟨RX10, "findAll", "(LLiquidTongue$Parser;)V"⟩
abbrev cX10_make : ByteArray := prog_12_method_3_code
def yX10_make : MethodName := ⟨RX10, "make", "(I)I"⟩
abbrev cX10_function : ByteArray := prog_12_method_4_code
def yX10_function : MethodName := ⟨RX10, "function", "(II)I"⟩
abbrev cX10_basic : ByteArray := prog_12_method_5_code
def yX10_basic : MethodName := ⟨RX10, "basic", "(I)I"⟩
abbrev cX10_root : ByteArray := prog_12_method_6_code
def yX10_root : MethodName := ⟨RX10, "root", "(I)I"⟩
abbrev cX10_kindOf : ByteArray := prog_12_method_7_code
def yX10_kindOf : MethodName := ⟨RX10, "kindOf", "(I)I"⟩
abbrev cX10_takenBy : ByteArray := prog_12_method_8_code
def yX10_takenBy : MethodName := ⟨RX10, "takenBy", "(I)I"⟩
abbrev cX10_answeredBy : ByteArray := prog_12_method_9_code
def yX10_answeredBy : MethodName := ⟨RX10, "answeredBy", "(I)I"⟩
abbrev cX10_must : ByteArray := prog_12_method_10_code
def yX10_must : MethodName := ⟨RX10, "must", "(III)V"⟩
abbrev cX10_unify : ByteArray := prog_12_method_11_code
def yX10_unify : MethodName := ⟨RX10, "unify", "(II)Z"⟩
abbrev cX10_isFinite : ByteArray := prog_12_method_12_code
def yX10_isFinite : MethodName := ⟨RX10, "isFinite", "(I)Z"⟩
abbrev cX10_infer : ByteArray := prog_12_method_13_code
def yX10_infer : MethodName := ⟨RX10, "infer", "(LLiquidTongue$Node;)I"⟩
abbrev cX10_inferPlain : ByteArray := prog_12_method_14_code
def yX10_inferPlain : MethodName := ⟨RX10, "inferPlain", "(LLiquidTongue$Node;)I"⟩
abbrev cX10_inferRec : ByteArray := prog_12_method_15_code
def yX10_inferRec : MethodName := ⟨RX10, "inferRec", "(LLiquidTongue$Node;)V"⟩
abbrev cX10_inferMatch : ByteArray := prog_12_method_16_code
def yX10_inferMatch : MethodName := ⟨RX10, "inferMatch", "(LLiquidTongue$Node;)V"⟩
abbrev cX10_inferCall : ByteArray := prog_12_method_17_code
def yX10_inferCall : MethodName := ⟨RX10, "inferCall", "(LLiquidTongue$Node;)V"⟩
abbrev cX10_checkSum : ByteArray := prog_12_method_18_code
def yX10_checkSum : MethodName := ⟨RX10, "checkSum", "(LLiquidTongue$Node;)V"⟩
abbrev cX10_checkTest : ByteArray := prog_12_method_19_code
def yX10_checkTest : MethodName := ⟨RX10, "checkTest", "(LLiquidTongue$Node;)V"⟩
abbrev cX10_countTemplates : ByteArray := prog_12_method_20_code
def yX10_countTemplates : MethodName := ⟨RX10, "countTemplates", "(LLiquidTongue$Node;)V"⟩
abbrev cX10_leavesOf : ByteArray := prog_12_method_21_code
def yX10_leavesOf : MethodName := ⟨RX10, "leavesOf", "(I)I"⟩
def RX11 : String := "LiquidTongue$Words"
def TX11 : u_T := fun k => match k with
  | 0 => ("LiquidTongue$Words", "text", "Ljava/lang/String;", true)
  | 1 => ("LiquidTongue$Words", "kinds", "[I", true)
  | 2 => ("LiquidTongue$Words", "places", "[I", true)
  | 3 => ("LiquidTongue$Words", "ends", "[I", true)
  | 4 => ("LiquidTongue$Words", "count", "I", false)
  | _ => ("LiquidTongue$Words", "bad", "I", false)
def tyX11 : Nat → FieldType := fun k => match k with
  | 0 => .object "java/lang/String"
  | 1 => .array .int
  | 2 => .array .int
  | 3 => .array .int
  | 4 => .int
  | _ => .int
abbrev wsX110 : List Cond := u_ws RX11 TX11 6
theorem nmX11 : ∀ a, a < 6 → ∀ b, b < 6 → a ≠ b → (TX11 a).2.1 ≠ (TX11 b).2.1 := by decide +kernel
theorem tyX11_ok : ∀ k, k < 6 → parseFieldDescriptor (TX11 k).2.2.1 = some (tyX11 k) := by decide +kernel
abbrev cX11_init : ByteArray := prog_13_method_1_code
def yX11_init : MethodName := ⟨RX11, "<init>", "(Ljava/lang/String;)V"⟩
abbrev cX11_split : ByteArray := prog_13_method_2_code
def yX11_split : MethodName := ⟨RX11, "split", "()V"⟩
abbrev cX11_add : ByteArray := prog_13_method_3_code
def yX11_add : MethodName := ⟨RX11, "add", "(II)V"⟩
abbrev cX11_endOfWord : ByteArray := prog_13_method_4_code
def yX11_endOfWord : MethodName := ⟨RX11, "endOfWord", "(I)I"⟩
abbrev cX11_continues : ByteArray := prog_13_method_5_code
def yX11_continues : MethodName := ⟨RX11, "continues", "(CZ)Z"⟩
abbrev cX11_isLetter : ByteArray := prog_13_method_6_code
def yX11_isLetter : MethodName := ⟨RX11, "isLetter", "(C)Z"⟩
abbrev cX11_isDigit : ByteArray := prog_13_method_7_code
def yX11_isDigit : MethodName := ⟨RX11, "isDigit", "(C)Z"⟩
abbrev cX11_doubleSign : ByteArray := prog_13_method_8_code
def yX11_doubleSign : MethodName := ⟨RX11, "doubleSign", "(I)I"⟩
abbrev cX11_keyword : ByteArray := prog_13_method_9_code
def yX11_keyword : MethodName := ⟨RX11, "keyword", "(II)I"⟩
abbrev cX11_sameLetters : ByteArray := prog_13_method_10_code
def yX11_sameLetters : MethodName := ⟨RX11, "sameLetters", "(III)Z"⟩
abbrev cX11_textOf : ByteArray := prog_13_method_11_code
def yX11_textOf : MethodName := ⟨RX11, "textOf", "(I)Ljava/lang/String;"⟩
abbrev cX11_numberOf : ByteArray := prog_13_method_12_code
def yX11_numberOf : MethodName := ⟨RX11, "numberOf", "(I)I"⟩
def RX12 : String := "LiquidTongue"
def TX12 : u_T := fun k => match k with
  | 0 => ("LiquidTongue", "tape", "[B", true)
  | 1 => ("LiquidTongue", "tapeLength", "I", false)
  | 2 => ("LiquidTongue", "program", "LLiquidTongue$Parser;", false)
  | 3 => ("LiquidTongue", "types", "LLiquidTongue$Typer;", false)
  | 4 => ("LiquidTongue", "checker", "LLiquidTongue$Checker;", false)
  | 5 => ("LiquidTongue", "place", "I", false)
  | 6 => ("LiquidTongue", "out", "[B", false)
  | 7 => ("LiquidTongue", "draft", "[B", false)
  | 8 => ("LiquidTongue", "outLength", "I", false)
  | 9 => ("LiquidTongue", "draftLength", "I", false)
  | 10 => ("LiquidTongue", "nameless", "Ljava/util/ArrayList;", true)
  | 11 => ("LiquidTongue", "judge", "LLiquidTongue$Judge;", true)
  | _ => ("LiquidTongue", "machine", "LLiquidTongue$Machine;", true)
def tyX12 : Nat → FieldType := fun k => match k with
  | 0 => .array .byte
  | 1 => .int
  | 2 => .object "LiquidTongue$Parser"
  | 3 => .object "LiquidTongue$Typer"
  | 4 => .object "LiquidTongue$Checker"
  | 5 => .int
  | 6 => .array .byte
  | 7 => .array .byte
  | 8 => .int
  | 9 => .int
  | 10 => .object "java/util/ArrayList"
  | 11 => .object "LiquidTongue$Judge"
  | _ => .object "LiquidTongue$Machine"
abbrev wsX120 : List Cond := u_ws RX12 TX12 13
theorem nmX12 : ∀ a, a < 13 → ∀ b, b < 13 → a ≠ b → (TX12 a).2.1 ≠ (TX12 b).2.1 := by decide +kernel
theorem tyX12_ok : ∀ k, k < 13 → parseFieldDescriptor (TX12 k).2.2.1 = some (tyX12 k) := by decide +kernel
abbrev cX12_init : ByteArray := prog_1_method_1_code
def yX12_init : MethodName := ⟨RX12, "<init>", "()V"⟩
abbrev cX12_feed : ByteArray := prog_1_method_2_code
def yX12_feed : MethodName := ⟨RX12, "feed", "(IIIII)Z"⟩
abbrev cX12_lay : ByteArray := prog_1_method_3_code
def yX12_lay : MethodName := ⟨RX12, "lay", "(I)V"⟩
abbrev cX12_end : ByteArray := prog_1_method_4_code
def yX12_end : MethodName := ⟨RX12, "end", "(I)Z"⟩
abbrev cX12_compile : ByteArray := prog_1_method_5_code
def yX12_compile : MethodName := ⟨RX12, "compile", "()I"⟩
abbrev cX12_fault : ByteArray := prog_1_method_6_code
def yX12_fault : MethodName := ⟨RX12, "fault", "(II)I"⟩
abbrev cX12_accepted : ByteArray := prog_1_method_7_code
def yX12_accepted : MethodName := ⟨RX12, "accepted", "()I"⟩
abbrev cX12_place : ByteArray := prog_1_method_8_code
def yX12_place : MethodName := ⟨RX12, "place", "()I"⟩
abbrev cX12_type : ByteArray := prog_1_method_9_code
def yX12_type : MethodName := ⟨RX12, "type", "(I)I"⟩
abbrev cX12_tell : ByteArray := prog_1_method_10_code
def yX12_tell : MethodName := ⟨RX12, "tell", "(LLiquidTongue$Known;I)V"⟩
abbrev cX12_tellLeaf : ByteArray := prog_1_method_11_code
def yX12_tellLeaf : MethodName := ⟨RX12, "tellLeaf", "(LLiquidTongue$Known;)V"⟩
abbrev cX12_tellRelation : ByteArray := prog_1_method_12_code
def yX12_tellRelation : MethodName := ⟨RX12, "tellRelation", "(I)V"⟩
abbrev cX12_tellTerm : ByteArray := prog_1_method_13_code
def yX12_tellTerm : MethodName := ⟨RX12, "tellTerm", "(LLiquidTongue$Known;)V"⟩
abbrev cX12_tellName : ByteArray := prog_1_method_14_code
def yX12_tellName : MethodName := ⟨RX12, "tellName", "(LLiquidTongue$Name;)V"⟩
abbrev cX12_tellNumber : ByteArray := prog_1_method_15_code
def yX12_tellNumber : MethodName := ⟨RX12, "tellNumber", "(J)V"⟩
abbrev cX12_put : ByteArray := prog_1_method_16_code
def yX12_put : MethodName := ⟨RX12, "put", "(Ljava/lang/String;)V"⟩
abbrev cX12_put_ : ByteArray := prog_1_method_17_code
def yX12_put_ : MethodName := ⟨RX12, "put", "(C)V"⟩
abbrev cX12_out : ByteArray := prog_1_method_18_code
def yX12_out : MethodName := ⟨RX12, "out", "(I)I"⟩
abbrev cX12_give : ByteArray := prog_1_method_19_code
def yX12_give : MethodName := ⟨RX12, "give", "(II)Z"⟩
abbrev cX12_element : ByteArray := prog_1_method_20_code
def yX12_element : MethodName := ⟨RX12, "element", "(III)Z"⟩
abbrev cX12_run : ByteArray := prog_1_method_21_code
def yX12_run : MethodName := ⟨RX12, "run", "(I)I"⟩
abbrev cX12_value : ByteArray := prog_1_method_22_code
def yX12_value : MethodName := ⟨RX12, "value", "()J"⟩
abbrev cX12_fuel : ByteArray := prog_1_method_23_code
def yX12_fuel : MethodName := ⟨RX12, "fuel", "()I"⟩
def RX13 : String := "LiquidTongueModel"
def TX13 : u_T := fun k => match k with
  | 0 => ("LiquidTongueModel", "tape", "[B", true)
  | 1 => ("LiquidTongueModel", "text", "[B", true)
  | 2 => ("LiquidTongueModel", "outs", "[B", true)
  | 3 => ("LiquidTongueModel", "length", "I", false)
  | 4 => ("LiquidTongueModel", "size", "I", false)
  | 5 => ("LiquidTongueModel", "outMany", "I", false)
  | 6 => ("LiquidTongueModel", "wKind", "[I", true)
  | 7 => ("LiquidTongueModel", "wAt", "[I", true)
  | 8 => ("LiquidTongueModel", "wEnd", "[I", true)
  | 9 => ("LiquidTongueModel", "words", "I", false)
  | 10 => ("LiquidTongueModel", "w", "I", false)
  | 11 => ("LiquidTongueModel", "bad", "I", false)
  | 12 => ("LiquidTongueModel", "badAt", "I", false)
  | 13 => ("LiquidTongueModel", "kind", "[I", true)
  | 14 => ("LiquidTongueModel", "at", "[I", true)
  | 15 => ("LiquidTongueModel", "sign", "[I", true)
  | 16 => ("LiquidTongueModel", "x1", "[I", true)
  | 17 => ("LiquidTongueModel", "x2", "[I", true)
  | 18 => ("LiquidTongueModel", "x3", "[I", true)
  | 19 => ("LiquidTongueModel", "x4", "[I", true)
  | 20 => ("LiquidTongueModel", "nodes", "I", false)
  | 21 => ("LiquidTongueModel", "sFrom", "[I", true)
  | 22 => ("LiquidTongueModel", "sTo", "[I", true)
  | 23 => ("LiquidTongueModel", "sAt", "[I", true)
  | 24 => ("LiquidTongueModel", "sums", "I", false)
  | 25 => ("LiquidTongueModel", "pKind", "[I", true)
  | 26 => ("LiquidTongueModel", "pSign", "[I", true)
  | 27 => ("LiquidTongueModel", "pWord", "[I", true)
  | 28 => ("LiquidTongueModel", "partsMany", "I", false)
  | 29 => ("LiquidTongueModel", "aKind", "[I", true)
  | 30 => ("LiquidTongueModel", "aWhat", "[I", true)
  | 31 => ("LiquidTongueModel", "aAt", "[I", true)
  | 32 => ("LiquidTongueModel", "argsMany", "I", false)
  | 33 => ("LiquidTongueModel", "deep", "I", false)
  | 34 => ("LiquidTongueModel", "qSort", "[I", true)
  | 35 => ("LiquidTongueModel", "qRel", "[I", true)
  | 36 => ("LiquidTongueModel", "qMinus", "[I", true)
  | 37 => ("LiquidTongueModel", "qStar", "[I", true)
  | 38 => ("LiquidTongueModel", "qNumber", "[I", true)
  | 39 => ("LiquidTongueModel", "quals", "I", false)
  | 40 => ("LiquidTongueModel", "inWord", "[I", true)
  | 41 => ("LiquidTongueModel", "inSort", "[I", true)
  | 42 => ("LiquidTongueModel", "inputs", "I", false)
  | 43 => ("LiquidTongueModel", "root", "I", false)
  | 44 => ("LiquidTongueModel", "callWhat", "[I", true)
  | 45 => ("LiquidTongueModel", "callTop", "I", false)
  | 46 => ("LiquidTongueModel", "dWord", "[I", true)
  | 47 => ("LiquidTongueModel", "dType", "[I", true)
  | 48 => ("LiquidTongueModel", "whose", "[I", true)
  | 49 => ("LiquidTongueModel", "scope", "[I", true)
  | 50 => ("LiquidTongueModel", "told", "I", false)
  | 51 => ("LiquidTongueModel", "scopes", "I", false)
  | 52 => ("LiquidTongueModel", "least", "I", false)
  | 53 => ("LiquidTongueModel", "tKind", "[I", true)
  | 54 => ("LiquidTongueModel", "tLeft", "[I", true)
  | 55 => ("LiquidTongueModel", "tRight", "[I", true)
  | 56 => ("LiquidTongueModel", "tLink", "[I", true)
  | 57 => ("LiquidTongueModel", "tSeen", "[I", true)
  | 58 => ("LiquidTongueModel", "nodeType", "[I", true)
  | 59 => ("LiquidTongueModel", "types", "I", false)
  | 60 => ("LiquidTongueModel", "looks", "I", false)
  | 61 => ("LiquidTongueModel", "lName", "[I", true)
  | 62 => ("LiquidTongueModel", "lTimes", "[I", true)
  | 63 => ("LiquidTongueModel", "lMany", "I", false)
  | 64 => ("LiquidTongueModel", "lNumber", "J", false)
  | 65 => ("LiquidTongueModel", "cases", "I", false)
  | 66 => ("LiquidTongueModel", "hasOne", "Z", false)
  | 67 => ("LiquidTongueModel", "wasAsked", "Z", false)
  | 68 => ("LiquidTongueModel", "accepts", "I", false)
  | 69 => ("LiquidTongueModel", "place", "I", false)
  | 70 => ("LiquidTongueModel", "rKind", "[I", true)
  | 71 => ("LiquidTongueModel", "rSaid", "[I", true)
  | 72 => ("LiquidTongueModel", "rName", "[I", true)
  | 73 => ("LiquidTongueModel", "rLeft", "[I", true)
  | 74 => ("LiquidTongueModel", "rRight", "[I", true)
  | 75 => ("LiquidTongueModel", "rich", "I", false)
  | 76 => ("LiquidTongueModel", "saidCase", "[I", true)
  | 77 => ("LiquidTongueModel", "saidFact", "[I", true)
  | 78 => ("LiquidTongueModel", "saidPut", "[I", true)
  | 79 => ("LiquidTongueModel", "saids", "I", false)
  | 80 => ("LiquidTongueModel", "factRel", "[I", true)
  | 81 => ("LiquidTongueModel", "factName", "[I", true)
  | 82 => ("LiquidTongueModel", "factTimes", "[I", true)
  | 83 => ("LiquidTongueModel", "factNext", "[I", true)
  | 84 => ("LiquidTongueModel", "factNumber", "[J", true)
  | 85 => ("LiquidTongueModel", "facts", "I", false)
  | 86 => ("LiquidTongueModel", "putName", "[I", true)
  | 87 => ("LiquidTongueModel", "putBy", "[I", true)
  | 88 => ("LiquidTongueModel", "putTimes", "[I", true)
  | 89 => ("LiquidTongueModel", "putNext", "[I", true)
  | 90 => ("LiquidTongueModel", "putNumber", "[J", true)
  | 91 => ("LiquidTongueModel", "puts", "I", false)
  | 92 => ("LiquidTongueModel", "caseArray", "[I", true)
  | 93 => ("LiquidTongueModel", "caseFrom", "[I", true)
  | 94 => ("LiquidTongueModel", "caseTo", "[I", true)
  | 95 => ("LiquidTongueModel", "byQual", "[I", true)
  | 96 => ("LiquidTongueModel", "byName", "[I", true)
  | 97 => ("LiquidTongueModel", "alive", "[Z", true)
  | 98 => ("LiquidTongueModel", "caseMany", "I", false)
  | 99 => ("LiquidTongueModel", "instances", "I", false)
  | 100 => ("LiquidTongueModel", "fresh", "I", false)
  | 101 => ("LiquidTongueModel", "isLength", "[Z", true)
  | 102 => ("LiquidTongueModel", "isSize", "[Z", true)
  | 103 => ("LiquidTongueModel", "envName", "[I", true)
  | 104 => ("LiquidTongueModel", "envType", "[I", true)
  | 105 => ("LiquidTongueModel", "envBefore", "[I", true)
  | 106 => ("LiquidTongueModel", "goneNode", "[I", true)
  | 107 => ("LiquidTongueModel", "goneIs", "[I", true)
  | 108 => ("LiquidTongueModel", "goneBefore", "[I", true)
  | 109 => ("LiquidTongueModel", "envs", "I", false)
  | 110 => ("LiquidTongueModel", "gones", "I", false)
  | 111 => ("LiquidTongueModel", "dRich", "[I", true)
  | 112 => ("LiquidTongueModel", "fitLeft", "[I", true)
  | 113 => ("LiquidTongueModel", "fitRight", "[I", true)
  | 114 => ("LiquidTongueModel", "fitEnv", "[I", true)
  | 115 => ("LiquidTongueModel", "fitGone", "[I", true)
  | 116 => ("LiquidTongueModel", "fits", "I", false)
  | 117 => ("LiquidTongueModel", "soKind", "[I", true)
  | 118 => ("LiquidTongueModel", "soWhat", "[I", true)
  | 119 => ("LiquidTongueModel", "soName", "[I", true)
  | 120 => ("LiquidTongueModel", "soEnv", "[I", true)
  | 121 => ("LiquidTongueModel", "soGone", "[I", true)
  | 122 => ("LiquidTongueModel", "soAt", "[I", true)
  | 123 => ("LiquidTongueModel", "sos", "I", false)
  | 124 => ("LiquidTongueModel", "byNames", "[I", true)
  | 125 => ("LiquidTongueModel", "byTurned", "[I", true)
  | 126 => ("LiquidTongueModel", "byMany", "I", false)
  | 127 => ("LiquidTongueModel", "base", "[J", true)
  | 128 => ("LiquidTongueModel", "bound", "[J", true)
  | 129 => ("LiquidTongueModel", "column", "[I", true)
  | 130 => ("LiquidTongueModel", "used", "[I", true)
  | 131 => ("LiquidTongueModel", "columns", "I", false)
  | 132 => ("LiquidTongueModel", "wide", "I", false)
  | 133 => ("LiquidTongueModel", "c1", "I", false)
  | 134 => ("LiquidTongueModel", "t1", "I", false)
  | 135 => ("LiquidTongueModel", "c2", "I", false)
  | 136 => ("LiquidTongueModel", "t2", "I", false)
  | 137 => ("LiquidTongueModel", "cNumber", "J", false)
  | 138 => ("LiquidTongueModel", "uName", "I", false)
  | 139 => ("LiquidTongueModel", "uTimes", "I", false)
  | 140 => ("LiquidTongueModel", "uNumber", "J", false)
  | 141 => ("LiquidTongueModel", "wasPut", "Z", false)
  | 142 => ("LiquidTongueModel", "openNode", "[I", true)
  | 143 => ("LiquidTongueModel", "openIs", "[I", true)
  | 144 => ("LiquidTongueModel", "opens", "I", false)
  | 145 => ("LiquidTongueModel", "wayA", "[I", true)
  | 146 => ("LiquidTongueModel", "wayTa", "[I", true)
  | 147 => ("LiquidTongueModel", "wayB", "[I", true)
  | 148 => ("LiquidTongueModel", "wayTb", "[I", true)
  | 149 => ("LiquidTongueModel", "truthName", "[I", true)
  | 150 => ("LiquidTongueModel", "truthIs", "[I", true)
  | 151 => ("LiquidTongueModel", "wayNumber", "[J", true)
  | 152 => ("LiquidTongueModel", "ways", "I", false)
  | 153 => ("LiquidTongueModel", "truths", "I", false)
  | 154 => ("LiquidTongueModel", "found", "Z", false)
  | 155 => ("LiquidTongueModel", "askedSaid", "I", false)
  | 156 => ("LiquidTongueModel", "fails", "[Z", true)
  | 157 => ("LiquidTongueModel", "saying", "[B", true)
  | 158 => ("LiquidTongueModel", "sayMany", "I", false)
  | 159 => ("LiquidTongueModel", "dollar", "[I", true)
  | 160 => ("LiquidTongueModel", "dollars", "I", false)
  | 161 => ("LiquidTongueModel", "given", "[J", true)
  | 162 => ("LiquidTongueModel", "elements", "[J", true)
  | 163 => ("LiquidTongueModel", "ran", "I", false)
  | 164 => ("LiquidTongueModel", "left", "I", false)
  | 165 => ("LiquidTongueModel", "fuelTaken", "I", false)
  | 166 => ("LiquidTongueModel", "gaveValue", "J", false)
  | 167 => ("LiquidTongueModel", "slotName", "[I", true)
  | 168 => ("LiquidTongueModel", "slotKind", "[I", true)
  | 169 => ("LiquidTongueModel", "slotBefore", "[I", true)
  | 170 => ("LiquidTongueModel", "slotValue", "[J", true)
  | 171 => ("LiquidTongueModel", "slots", "I", false)
  | 172 => ("LiquidTongueModel", "fNode", "[I", true)
  | 173 => ("LiquidTongueModel", "fSlots", "[I", true)
  | 174 => ("LiquidTongueModel", "fHad", "[I", true)
  | 175 => ("LiquidTongueModel", "fMany", "[I", true)
  | 176 => ("LiquidTongueModel", "functions", "I", false)
  | 177 => ("LiquidTongueModel", "yFrom", "[I", true)
  | 178 => ("LiquidTongueModel", "yLong", "[I", true)
  | 179 => ("LiquidTongueModel", "heap", "[J", true)
  | 180 => ("LiquidTongueModel", "arrays", "I", false)
  | 181 => ("LiquidTongueModel", "heapTop", "I", false)
  | 182 => ("LiquidTongueModel", "doKind", "[I", true)
  | 183 => ("LiquidTongueModel", "doWhat", "[I", true)
  | 184 => ("LiquidTongueModel", "doSlots", "[I", true)
  | 185 => ("LiquidTongueModel", "cellFirst", "[J", true)
  | 186 => ("LiquidTongueModel", "cellRest", "[I", true)
  | 187 => ("LiquidTongueModel", "cellMany", "[I", true)
  | 188 => ("LiquidTongueModel", "listCells", "I", false)
  | 189 => ("LiquidTongueModel", "doing", "I", false)
  | 190 => ("LiquidTongueModel", "calls", "I", false)
  | 191 => ("LiquidTongueModel", "ends", "I", false)
  | 192 => ("LiquidTongueModel", "vKind", "I", false)
  | 193 => ("LiquidTongueModel", "vValue", "J", false)
  | 194 => ("LiquidTongueModel", "nextNode", "I", false)
  | _ => ("LiquidTongueModel", "nextSlots", "I", false)
def tyX13 : Nat → FieldType := fun k => match k with
  | 0 => .array .byte
  | 1 => .array .byte
  | 2 => .array .byte
  | 3 => .int
  | 4 => .int
  | 5 => .int
  | 6 => .array .int
  | 7 => .array .int
  | 8 => .array .int
  | 9 => .int
  | 10 => .int
  | 11 => .int
  | 12 => .int
  | 13 => .array .int
  | 14 => .array .int
  | 15 => .array .int
  | 16 => .array .int
  | 17 => .array .int
  | 18 => .array .int
  | 19 => .array .int
  | 20 => .int
  | 21 => .array .int
  | 22 => .array .int
  | 23 => .array .int
  | 24 => .int
  | 25 => .array .int
  | 26 => .array .int
  | 27 => .array .int
  | 28 => .int
  | 29 => .array .int
  | 30 => .array .int
  | 31 => .array .int
  | 32 => .int
  | 33 => .int
  | 34 => .array .int
  | 35 => .array .int
  | 36 => .array .int
  | 37 => .array .int
  | 38 => .array .int
  | 39 => .int
  | 40 => .array .int
  | 41 => .array .int
  | 42 => .int
  | 43 => .int
  | 44 => .array .int
  | 45 => .int
  | 46 => .array .int
  | 47 => .array .int
  | 48 => .array .int
  | 49 => .array .int
  | 50 => .int
  | 51 => .int
  | 52 => .int
  | 53 => .array .int
  | 54 => .array .int
  | 55 => .array .int
  | 56 => .array .int
  | 57 => .array .int
  | 58 => .array .int
  | 59 => .int
  | 60 => .int
  | 61 => .array .int
  | 62 => .array .int
  | 63 => .int
  | 64 => .long
  | 65 => .int
  | 66 => .boolean
  | 67 => .boolean
  | 68 => .int
  | 69 => .int
  | 70 => .array .int
  | 71 => .array .int
  | 72 => .array .int
  | 73 => .array .int
  | 74 => .array .int
  | 75 => .int
  | 76 => .array .int
  | 77 => .array .int
  | 78 => .array .int
  | 79 => .int
  | 80 => .array .int
  | 81 => .array .int
  | 82 => .array .int
  | 83 => .array .int
  | 84 => .array .long
  | 85 => .int
  | 86 => .array .int
  | 87 => .array .int
  | 88 => .array .int
  | 89 => .array .int
  | 90 => .array .long
  | 91 => .int
  | 92 => .array .int
  | 93 => .array .int
  | 94 => .array .int
  | 95 => .array .int
  | 96 => .array .int
  | 97 => .array .boolean
  | 98 => .int
  | 99 => .int
  | 100 => .int
  | 101 => .array .boolean
  | 102 => .array .boolean
  | 103 => .array .int
  | 104 => .array .int
  | 105 => .array .int
  | 106 => .array .int
  | 107 => .array .int
  | 108 => .array .int
  | 109 => .int
  | 110 => .int
  | 111 => .array .int
  | 112 => .array .int
  | 113 => .array .int
  | 114 => .array .int
  | 115 => .array .int
  | 116 => .int
  | 117 => .array .int
  | 118 => .array .int
  | 119 => .array .int
  | 120 => .array .int
  | 121 => .array .int
  | 122 => .array .int
  | 123 => .int
  | 124 => .array .int
  | 125 => .array .int
  | 126 => .int
  | 127 => .array .long
  | 128 => .array .long
  | 129 => .array .int
  | 130 => .array .int
  | 131 => .int
  | 132 => .int
  | 133 => .int
  | 134 => .int
  | 135 => .int
  | 136 => .int
  | 137 => .long
  | 138 => .int
  | 139 => .int
  | 140 => .long
  | 141 => .boolean
  | 142 => .array .int
  | 143 => .array .int
  | 144 => .int
  | 145 => .array .int
  | 146 => .array .int
  | 147 => .array .int
  | 148 => .array .int
  | 149 => .array .int
  | 150 => .array .int
  | 151 => .array .long
  | 152 => .int
  | 153 => .int
  | 154 => .boolean
  | 155 => .int
  | 156 => .array .boolean
  | 157 => .array .byte
  | 158 => .int
  | 159 => .array .int
  | 160 => .int
  | 161 => .array .long
  | 162 => .array .long
  | 163 => .int
  | 164 => .int
  | 165 => .int
  | 166 => .long
  | 167 => .array .int
  | 168 => .array .int
  | 169 => .array .int
  | 170 => .array .long
  | 171 => .int
  | 172 => .array .int
  | 173 => .array .int
  | 174 => .array .int
  | 175 => .array .int
  | 176 => .int
  | 177 => .array .int
  | 178 => .array .int
  | 179 => .array .long
  | 180 => .int
  | 181 => .int
  | 182 => .array .int
  | 183 => .array .int
  | 184 => .array .int
  | 185 => .array .long
  | 186 => .array .int
  | 187 => .array .int
  | 188 => .int
  | 189 => .int
  | 190 => .int
  | 191 => .int
  | 192 => .int
  | 193 => .long
  | 194 => .int
  | _ => .int
abbrev wsX130 : List Cond := u_ws RX13 TX13 196
theorem nmX13 : ∀ a, a < 196 → ∀ b, b < 196 → a ≠ b → (TX13 a).2.1 ≠ (TX13 b).2.1 := by decide +kernel
theorem tyX13_ok : ∀ k, k < 196 → parseFieldDescriptor (TX13 k).2.2.1 = some (tyX13 k) := by decide +kernel
abbrev cX13_init : ByteArray := prog_15_method_1_code
def yX13_init : MethodName := ⟨RX13, "<init>", "()V"⟩
abbrev cX13_feed : ByteArray := prog_15_method_2_code
def yX13_feed : MethodName := ⟨RX13, "feed", "(IIIII)Z"⟩
abbrev cX13_end : ByteArray := prog_15_method_3_code
def yX13_end : MethodName := ⟨RX13, "end", "(I)Z"⟩
abbrev cX13_out : ByteArray := prog_15_method_4_code
def yX13_out : MethodName := ⟨RX13, "out", "(I)I"⟩
abbrev cX13_fault : ByteArray := prog_15_method_5_code
def yX13_fault : MethodName := ⟨RX13, "fault", "(II)V"⟩
abbrev cX13_isLow : ByteArray := prog_15_method_6_code
def yX13_isLow : MethodName := ⟨RX13, "isLow", "(I)Z"⟩
abbrev cX13_isDigit : ByteArray := prog_15_method_7_code
def yX13_isDigit : MethodName := ⟨RX13, "isDigit", "(I)Z"⟩
abbrev cX13_word : ByteArray := prog_15_method_8_code
def yX13_word : MethodName := ⟨RX13, "word", "(III)V"⟩
abbrev cX13_isText : ByteArray := prog_15_method_9_code
def yX13_isText : MethodName := ⟨RX13, "isText", "(ILjava/lang/String;)Z"⟩
abbrev cX13_isKey : ByteArray := prog_15_method_10_code
def yX13_isKey : MethodName := ⟨RX13, "isKey", "(I)Z"⟩
abbrev cX13_readWords : ByteArray := prog_15_method_11_code
def yX13_readWords : MethodName := ⟨RX13, "readWords", "()V"⟩
abbrev cX13_node : ByteArray := prog_15_method_12_code
def yX13_node : MethodName := ⟨RX13, "node", "(II)I"⟩
abbrev cX13_here : ByteArray := prog_15_method_13_code
def yX13_here : MethodName := ⟨RX13, "here", "(Ljava/lang/String;)Z"⟩
abbrev cX13_skip : ByteArray := prog_15_method_14_code
def yX13_skip : MethodName := ⟨RX13, "skip", "(Ljava/lang/String;)Z"⟩
abbrev cX13_form : ByteArray := prog_15_method_15_code
def yX13_form : MethodName := ⟨RX13, "form", "()V"⟩
abbrev cX13_must : ByteArray := prog_15_method_16_code
def yX13_must : MethodName := ⟨RX13, "must", "(Ljava/lang/String;)V"⟩
abbrev cX13_name : ByteArray := prog_15_method_17_code
def yX13_name : MethodName := ⟨RX13, "name", "()I"⟩
abbrev cX13_numberOf : ByteArray := prog_15_method_18_code
def yX13_numberOf : MethodName := ⟨RX13, "numberOf", "(I)I"⟩
abbrev cX13_number : ByteArray := prog_15_method_19_code
def yX13_number : MethodName := ⟨RX13, "number", "()I"⟩
abbrev cX13_relation : ByteArray := prog_15_method_20_code
def yX13_relation : MethodName := ⟨RX13, "relation", "()I"⟩
abbrev cX13_program : ByteArray := prog_15_method_21_code
def yX13_program : MethodName := ⟨RX13, "program", "()V"⟩
abbrev cX13_within : ByteArray := prog_15_method_22_code
def yX13_within : MethodName := ⟨RX13, "within", "()I"⟩
abbrev cX13_expression : ByteArray := prog_15_method_23_code
def yX13_expression : MethodName := ⟨RX13, "expression", "()I"⟩
abbrev cX13_matching : ByteArray := prog_15_method_24_code
def yX13_matching : MethodName := ⟨RX13, "matching", "(I)I"⟩
abbrev cX13_isArgument : ByteArray := prog_15_method_25_code
def yX13_isArgument : MethodName := ⟨RX13, "isArgument", "()Z"⟩
abbrev cX13_simple : ByteArray := prog_15_method_26_code
def yX13_simple : MethodName := ⟨RX13, "simple", "(I)I"⟩
abbrev cX13_call : ByteArray := prog_15_method_27_code
def yX13_call : MethodName := ⟨RX13, "call", "(I)I"⟩
abbrev cX13_sum : ByteArray := prog_15_method_28_code
def yX13_sum : MethodName := ⟨RX13, "sum", "()I"⟩
abbrev cX13_part : ByteArray := prog_15_method_29_code
def yX13_part : MethodName := ⟨RX13, "part", "(I)V"⟩
abbrev cX13_condition : ByteArray := prog_15_method_30_code
def yX13_condition : MethodName := ⟨RX13, "condition", "()I"⟩
abbrev cX13_both : ByteArray := prog_15_method_31_code
def yX13_both : MethodName := ⟨RX13, "both", "()I"⟩
abbrev cX13_single : ByteArray := prog_15_method_32_code
def yX13_single : MethodName := ⟨RX13, "single", "()I"⟩
abbrev cX13_sameWord : ByteArray := prog_15_method_33_code
def yX13_sameWord : MethodName := ⟨RX13, "sameWord", "(II)Z"⟩
abbrev cX13_wrongName : ByteArray := prog_15_method_34_code
def yX13_wrongName : MethodName := ⟨RX13, "wrongName", "(I)V"⟩
abbrev cX13_tell : ByteArray := prog_15_method_35_code
def yX13_tell : MethodName := ⟨RX13, "tell", "(I)I"⟩
abbrev cX13_counts : ByteArray := prog_15_method_36_code
def yX13_counts : MethodName := ⟨RX13, "counts", "(I)V"⟩
abbrev cX13_uses : ByteArray := prog_15_method_37_code
def yX13_uses : MethodName := ⟨RX13, "uses", "(I)V"⟩
abbrev cX13_namesOfSum : ByteArray := prog_15_method_38_code
def yX13_namesOfSum : MethodName := ⟨RX13, "namesOfSum", "(I)V"⟩
abbrev cX13_namesOfCondition : ByteArray := prog_15_method_39_code
def yX13_namesOfCondition : MethodName := ⟨RX13, "namesOfCondition", "(I)V"⟩
abbrev cX13_parameters : ByteArray := prog_15_method_40_code
def yX13_parameters : MethodName := ⟨RX13, "parameters", "(I)I"⟩
abbrev cX13_namesOf : ByteArray := prog_15_method_41_code
def yX13_namesOf : MethodName := ⟨RX13, "namesOf", "(I)V"⟩
abbrev cX13_newType : ByteArray := prog_15_method_42_code
def yX13_newType : MethodName := ⟨RX13, "newType", "(III)I"⟩
abbrev cX13_openType : ByteArray := prog_15_method_43_code
def yX13_openType : MethodName := ⟨RX13, "openType", "()I"⟩
abbrev cX13_real : ByteArray := prog_15_method_44_code
def yX13_real : MethodName := ⟨RX13, "real", "(I)I"⟩
abbrev cX13_isIn : ByteArray := prog_15_method_45_code
def yX13_isIn : MethodName := ⟨RX13, "isIn", "(II)Z"⟩
abbrev cX13_join : ByteArray := prog_15_method_46_code
def yX13_join : MethodName := ⟨RX13, "join", "(II)Z"⟩
abbrev cX13_mustBe : ByteArray := prog_15_method_47_code
def yX13_mustBe : MethodName := ⟨RX13, "mustBe", "(III)V"⟩
abbrev cX13_typesOfSum : ByteArray := prog_15_method_48_code
def yX13_typesOfSum : MethodName := ⟨RX13, "typesOfSum", "(I)V"⟩
abbrev cX13_typesOfCondition : ByteArray := prog_15_method_49_code
def yX13_typesOfCondition : MethodName := ⟨RX13, "typesOfCondition", "(I)V"⟩
abbrev cX13_isName : ByteArray := prog_15_method_50_code
def yX13_isName : MethodName := ⟨RX13, "isName", "(I)Z"⟩
abbrev cX13_typeOf : ByteArray := prog_15_method_51_code
def yX13_typeOf : MethodName := ⟨RX13, "typeOf", "(I)I"⟩
abbrev cX13_typed : ByteArray := prog_15_method_52_code
def yX13_typed : MethodName := ⟨RX13, "typed", "(I)I"⟩
abbrev cX13_typeOfCall : ByteArray := prog_15_method_53_code
def yX13_typeOfCall : MethodName := ⟨RX13, "typeOfCall", "(I)I"⟩
abbrev cX13_sort : ByteArray := prog_15_method_54_code
def yX13_sort : MethodName := ⟨RX13, "sort", "(I)I"⟩
abbrev cX13_clearLine : ByteArray := prog_15_method_55_code
def yX13_clearLine : MethodName := ⟨RX13, "clearLine", "()V"⟩
abbrev cX13_addName : ByteArray := prog_15_method_56_code
def yX13_addName : MethodName := ⟨RX13, "addName", "(II)V"⟩
abbrev cX13_addSum : ByteArray := prog_15_method_57_code
def yX13_addSum : MethodName := ⟨RX13, "addSum", "(II)V"⟩
abbrev cX13_isForm : ByteArray := prog_15_method_58_code
def yX13_isForm : MethodName := ⟨RX13, "isForm", "()Z"⟩
abbrev cX13_isTerm : ByteArray := prog_15_method_59_code
def yX13_isTerm : MethodName := ⟨RX13, "isTerm", "(I)Z"⟩
abbrev cX13_wrongForm : ByteArray := prog_15_method_60_code
def yX13_wrongForm : MethodName := ⟨RX13, "wrongForm", "(I)V"⟩
abbrev cX13_count : ByteArray := prog_15_method_61_code
def yX13_count : MethodName := ⟨RX13, "count", "(I)I"⟩
abbrev cX13_formsOfCondition : ByteArray := prog_15_method_62_code
def yX13_formsOfCondition : MethodName := ⟨RX13, "formsOfCondition", "(I)V"⟩
abbrev cX13_leaves : ByteArray := prog_15_method_63_code
def yX13_leaves : MethodName := ⟨RX13, "leaves", "(II)I"⟩
abbrev cX13_wants : ByteArray := prog_15_method_64_code
def yX13_wants : MethodName := ⟨RX13, "wants", "(II)V"⟩
abbrev cX13_formsOf : ByteArray := prog_15_method_65_code
def yX13_formsOf : MethodName := ⟨RX13, "formsOf", "(II)V"⟩
abbrev cX13_compile : ByteArray := prog_15_method_66_code
def yX13_compile : MethodName := ⟨RX13, "compile", "()I"⟩
abbrev cX13_check : ByteArray := prog_15_method_67_code
def yX13_check : MethodName := ⟨RX13, "check", "()V"⟩
abbrev cX13_place : ByteArray := prog_15_method_68_code
def yX13_place : MethodName := ⟨RX13, "place", "()I"⟩
abbrev cX13_rich : ByteArray := prog_15_method_69_code
def yX13_rich : MethodName := ⟨RX13, "rich", "(IIIII)I"⟩
abbrev cX13_said : ByteArray := prog_15_method_70_code
def yX13_said : MethodName := ⟨RX13, "said", "(III)I"⟩
abbrev cX13_fact : ByteArray := prog_15_method_71_code
def yX13_fact : MethodName := ⟨RX13, "fact", "(IIIJI)I"⟩
abbrev cX13_isSum : ByteArray := prog_15_method_72_code
def yX13_isSum : MethodName := ⟨RX13, "isSum", "(I)I"⟩
abbrev cX13_isSaid : ByteArray := prog_15_method_73_code
def yX13_isSaid : MethodName := ⟨RX13, "isSaid", "(I)Z"⟩
abbrev cX13_plainType : ByteArray := prog_15_method_74_code
def yX13_plainType : MethodName := ⟨RX13, "plainType", "(I)I"⟩
abbrev cX13_knows : ByteArray := prog_15_method_75_code
def yX13_knows : MethodName := ⟨RX13, "knows", "(III)I"⟩
abbrev cX13_gone : ByteArray := prog_15_method_76_code
def yX13_gone : MethodName := ⟨RX13, "gone", "(III)I"⟩
abbrev cX13_namesAt : ByteArray := prog_15_method_77_code
def yX13_namesAt : MethodName := ⟨RX13, "namesAt", "(I)V"⟩
abbrev cX13_template : ByteArray := prog_15_method_78_code
def yX13_template : MethodName := ⟨RX13, "template", "(III)I"⟩
abbrev cX13_put : ByteArray := prog_15_method_79_code
def yX13_put : MethodName := ⟨RX13, "put", "(IIIIJ)I"⟩
abbrev cX13_mustFit : ByteArray := prog_15_method_80_code
def yX13_mustFit : MethodName := ⟨RX13, "mustFit", "(IIII)V"⟩
abbrev cX13_mustBeSo : ByteArray := prog_15_method_81_code
def yX13_mustBeSo : MethodName := ⟨RX13, "mustBeSo", "(IIIIII)V"⟩
abbrev cX13_ofName : ByteArray := prog_15_method_82_code
def yX13_ofName : MethodName := ⟨RX13, "ofName", "(I)I"⟩
abbrev cX13_richOf : ByteArray := prog_15_method_83_code
def yX13_richOf : MethodName := ⟨RX13, "richOf", "(III)I"⟩
abbrev cX13_ofSign : ByteArray := prog_15_method_84_code
def yX13_ofSign : MethodName := ⟨RX13, "ofSign", "(III)I"⟩
abbrev cX13_ofCall : ByteArray := prog_15_method_85_code
def yX13_ofCall : MethodName := ⟨RX13, "ofCall", "(III)I"⟩
abbrev cX13_beginBounds : ByteArray := prog_15_method_86_code
def yX13_beginBounds : MethodName := ⟨RX13, "beginBounds", "()V"⟩
abbrev cX13_columnOf : ByteArray := prog_15_method_87_code
def yX13_columnOf : MethodName := ⟨RX13, "columnOf", "(I)I"⟩
abbrev cX13_atMost : ByteArray := prog_15_method_88_code
def yX13_atMost : MethodName := ⟨RX13, "atMost", "([JIIIIJ)Z"⟩
abbrev cX13_downwards : ByteArray := prog_15_method_89_code
def yX13_downwards : MethodName := ⟨RX13, "downwards", "(JJ)J"⟩
abbrev cX13_lower : ByteArray := prog_15_method_90_code
def yX13_lower : MethodName := ⟨RX13, "lower", "([JIIJ)V"⟩
abbrev cX13_closes : ByteArray := prog_15_method_91_code
def yX13_closes : MethodName := ⟨RX13, "closes", "()Z"⟩
abbrev cX13_says : ByteArray := prog_15_method_92_code
def yX13_says : MethodName := ⟨RX13, "says", "(IIIIJ)Z"⟩
abbrev cX13_putIn : ByteArray := prog_15_method_93_code
def yX13_putIn : MethodName := ⟨RX13, "putIn", "(I)V"⟩
abbrev cX13_termOf : ByteArray := prog_15_method_94_code
def yX13_termOf : MethodName := ⟨RX13, "termOf", "(IIJI)V"⟩
abbrev cX13_instanceTerm : ByteArray := prog_15_method_95_code
def yX13_instanceTerm : MethodName := ⟨RX13, "instanceTerm", "(II)V"⟩
abbrev cX13_saysOf : ByteArray := prog_15_method_96_code
def yX13_saysOf : MethodName := ⟨RX13, "saysOf", "(II)Z"⟩
abbrev cX13_relates : ByteArray := prog_15_method_97_code
def yX13_relates : MethodName := ⟨RX13, "relates", "(II)Z"⟩
abbrev cX13_way : ByteArray := prog_15_method_98_code
def yX13_way : MethodName := ⟨RX13, "way", "(IIIIJ)V"⟩
abbrev cX13_lineWay : ByteArray := prog_15_method_99_code
def yX13_lineWay : MethodName := ⟨RX13, "lineWay", "(IJ)V"⟩
abbrev cX13_go : ByteArray := prog_15_method_100_code
def yX13_go : MethodName := ⟨RX13, "go", "()V"⟩
abbrev cX13_sized : ByteArray := prog_15_method_101_code
def yX13_sized : MethodName := ⟨RX13, "sized", "(IZ)V"⟩
abbrev cX13_open : ByteArray := prog_15_method_102_code
def yX13_open : MethodName := ⟨RX13, "open", "(IZ)V"⟩
abbrev cX13_truth : ByteArray := prog_15_method_103_code
def yX13_truth : MethodName := ⟨RX13, "truth", "(IZ)V"⟩
abbrev cX13_compares : ByteArray := prog_15_method_104_code
def yX13_compares : MethodName := ⟨RX13, "compares", "(IZ)V"⟩
abbrev cX13_leaf : ByteArray := prog_15_method_105_code
def yX13_leaf : MethodName := ⟨RX13, "leaf", "()V"⟩
abbrev cX13_under : ByteArray := prog_15_method_106_code
def yX13_under : MethodName := ⟨RX13, "under", "(III)Z"⟩
abbrev cX13_namesSaid : ByteArray := prog_15_method_107_code
def yX13_namesSaid : MethodName := ⟨RX13, "namesSaid", "(I)V"⟩
abbrev cX13_namesIn : ByteArray := prog_15_method_108_code
def yX13_namesIn : MethodName := ⟨RX13, "namesIn", "(I)V"⟩
abbrev cX13_namesOfGone : ByteArray := prog_15_method_109_code
def yX13_namesOfGone : MethodName := ⟨RX13, "namesOfGone", "(I)V"⟩
abbrev cX13_fit : ByteArray := prog_15_method_110_code
def yX13_fit : MethodName := ⟨RX13, "fit", "(I)Z"⟩
abbrev cX13_isSo : ByteArray := prog_15_method_111_code
def yX13_isSo : MethodName := ⟨RX13, "isSo", "(I)Z"⟩
abbrev cX13_accepted : ByteArray := prog_15_method_112_code
def yX13_accepted : MethodName := ⟨RX13, "accepted", "()I"⟩
abbrev cX13_decide : ByteArray := prog_15_method_113_code
def yX13_decide : MethodName := ⟨RX13, "decide", "()V"⟩
abbrev cX13_say : ByteArray := prog_15_method_114_code
def yX13_say : MethodName := ⟨RX13, "say", "(I)V"⟩
abbrev cX13_sayWord : ByteArray := prog_15_method_115_code
def yX13_sayWord : MethodName := ⟨RX13, "sayWord", "(Ljava/lang/String;)V"⟩
abbrev cX13_sayNumber : ByteArray := prog_15_method_116_code
def yX13_sayNumber : MethodName := ⟨RX13, "sayNumber", "(J)V"⟩
abbrev cX13_sayName : ByteArray := prog_15_method_117_code
def yX13_sayName : MethodName := ⟨RX13, "sayName", "(I)V"⟩
abbrev cX13_sayFact : ByteArray := prog_15_method_118_code
def yX13_sayFact : MethodName := ⟨RX13, "sayFact", "(IZ)V"⟩
abbrev cX13_sayType : ByteArray := prog_15_method_119_code
def yX13_sayType : MethodName := ⟨RX13, "sayType", "(I)V"⟩
abbrev cX13_type : ByteArray := prog_15_method_120_code
def yX13_type : MethodName := ⟨RX13, "type", "(I)I"⟩
abbrev cX13_give : ByteArray := prog_15_method_121_code
def yX13_give : MethodName := ⟨RX13, "give", "(II)Z"⟩
abbrev cX13_element : ByteArray := prog_15_method_122_code
def yX13_element : MethodName := ⟨RX13, "element", "(III)Z"⟩
abbrev cX13_slot : ByteArray := prog_15_method_123_code
def yX13_slot : MethodName := ⟨RX13, "slot", "(IIIJ)I"⟩
abbrev cX13_find : ByteArray := prog_15_method_124_code
def yX13_find : MethodName := ⟨RX13, "find", "(II)I"⟩
abbrev cX13_bounded : ByteArray := prog_15_method_125_code
def yX13_bounded : MethodName := ⟨RX13, "bounded", "(J)J"⟩
abbrev cX13_valueOf : ByteArray := prog_15_method_126_code
def yX13_valueOf : MethodName := ⟨RX13, "valueOf", "(II)J"⟩
abbrev cX13_sizeOf : ByteArray := prog_15_method_127_code
def yX13_sizeOf : MethodName := ⟨RX13, "sizeOf", "(I)I"⟩
abbrev cX13_holds : ByteArray := prog_15_method_128_code
def yX13_holds : MethodName := ⟨RX13, "holds", "(II)Z"⟩
abbrev cX13_newArray : ByteArray := prog_15_method_129_code
def yX13_newArray : MethodName := ⟨RX13, "newArray", "(J)I"⟩
abbrev cX13_is : ByteArray := prog_15_method_130_code
def yX13_is : MethodName := ⟨RX13, "is", "(IJ)V"⟩
abbrev cX13_function : ByteArray := prog_15_method_131_code
def yX13_function : MethodName := ⟨RX13, "function", "(II)I"⟩
abbrev cX13_todo : ByteArray := prog_15_method_132_code
def yX13_todo : MethodName := ⟨RX13, "todo", "(III)V"⟩
abbrev cX13_run : ByteArray := prog_15_method_133_code
def yX13_run : MethodName := ⟨RX13, "run", "(I)I"⟩
abbrev cX13_then : ByteArray := prog_15_method_134_code
def yX13_then : MethodName := ⟨RX13, "then", "(II)Z"⟩
abbrev cX13_begun : ByteArray := prog_15_method_135_code
def yX13_begun : MethodName := ⟨RX13, "begun", "(II)Z"⟩
abbrev cX13_product : ByteArray := prog_15_method_136_code
def yX13_product : MethodName := ⟨RX13, "product", "(JJ)J"⟩
abbrev cX13_sumValue : ByteArray := prog_15_method_137_code
def yX13_sumValue : MethodName := ⟨RX13, "sumValue", "(II)V"⟩
abbrev cX13_called : ByteArray := prog_15_method_138_code
def yX13_called : MethodName := ⟨RX13, "called", "(II)Z"⟩
abbrev cX13_applies : ByteArray := prog_15_method_139_code
def yX13_applies : MethodName := ⟨RX13, "applies", "(I)Z"⟩
abbrev cX13_goesOn : ByteArray := prog_15_method_140_code
def yX13_goesOn : MethodName := ⟨RX13, "goesOn", "()Z"⟩
abbrev cX13_value : ByteArray := prog_15_method_141_code
def yX13_value : MethodName := ⟨RX13, "value", "()J"⟩
abbrev cX13_fuel : ByteArray := prog_15_method_142_code
def yX13_fuel : MethodName := ⟨RX13, "fuel", "()I"⟩
def RJ0 : String := "java/lang/String"
def TJ0 : u_T := fun k => match k with
  | 0 => ("java/lang/String", "value", "[B", true)
  | 1 => ("java/lang/String", "coder", "B", true)
  | 2 => ("java/lang/String", "hash", "I", false)
  | _ => ("java/lang/String", "hashIsZero", "Z", false)
def RJx4a65c : String := "java/util/ArrayList"
def TJx4a65c : u_T := fun k => match k with
  | 0 => ("java/util/AbstractList", "modCount", "I", false)
  | 1 => ("java/util/ArrayList", "elementData", "[Ljava/lang/Object;", false)
  | _ => ("java/util/ArrayList", "size", "I", false)
def wsX12_lay : List Cond := .code yX12_lay cX12_lay 3 none :: ([.fieldLink RX12 44 "LiquidTongue" "tapeLength" "I", .fieldLink RX12 9 "LiquidTongue" "tape" "[B"] ++ wsX120)
def wsX12_feed : List Cond := .code yX12_feed cX12_feed 6 (some .boolean) :: ([.fieldLink RX12 44 "LiquidTongue" "tapeLength" "I", .methodLink RX12 47 yX12_lay, .instanceMethod yX12_lay, .selects RX12 yX12_lay yX12_lay, .initialized RX12, .code yX12_lay cX12_lay 3 none, .fieldLink RX12 9 "LiquidTongue" "tape" "[B"] ++ wsX120)
def wsX12_end : List Cond := .code yX12_end cX12_end 2 (some .boolean) :: ([.fieldLink RX12 44 "LiquidTongue" "tapeLength" "I"] ++ wsX120)
def wsX12_place : List Cond := .code yX12_place cX12_place 1 (some .int) :: ([.fieldLink RX12 13 "LiquidTongue" "place" "I"] ++ wsX120)
def wsX12_out : List Cond := .code yX12_out cX12_out 2 (some .int) :: ([.fieldLink RX12 178 "LiquidTongue" "outLength" "I", .fieldLink RX12 17 "LiquidTongue" "out" "[B"] ++ wsX120)
def wsX12_value : List Cond := .code yX12_value cX12_value 1 (some .long) :: ([.fieldLink RX12 40 "LiquidTongue" "machine" "LLiquidTongue$Machine;", .fieldLink RX12 316 "LiquidTongue$Machine" "gave" "J"] ++ wsX120 ++ wsX30)
def wsX12_fuel : List Cond := .code yX12_fuel cX12_fuel 1 (some .int) :: ([.fieldLink RX12 40 "LiquidTongue" "machine" "LLiquidTongue$Machine;", .fieldLink RX12 319 "LiquidTongue$Machine" "took" "I"] ++ wsX120 ++ wsX30)
def wsX13_feed : List Cond := .code yX13_feed cX13_feed 8 (some .boolean) :: ([.fieldLink RX13 386 "LiquidTongueModel" "length" "I", .fieldLink RX13 9 "LiquidTongueModel" "tape" "[B"] ++ wsX130)
def wsX13_end : List Cond := .code yX13_end cX13_end 2 (some .boolean) :: ([.fieldLink RX13 386 "LiquidTongueModel" "length" "I"] ++ wsX130)
def wsX13_out : List Cond := .code yX13_out cX13_out 2 (some .int) :: ([.fieldLink RX13 389 "LiquidTongueModel" "outMany" "I", .fieldLink RX13 16 "LiquidTongueModel" "outs" "[B"] ++ wsX130)
def wsX13_place : List Cond := .code yX13_place cX13_place 1 (some .int) :: ([.fieldLink RX13 137 "LiquidTongueModel" "place" "I"] ++ wsX130)
def wsX13_value : List Cond := .code yX13_value cX13_value 1 (some .long) :: ([.fieldLink RX13 757 "LiquidTongueModel" "ran" "I", .fieldLink RX13 1101 "LiquidTongueModel" "gaveValue" "J"] ++ wsX130)
def wsX13_fuel : List Cond := .code yX13_fuel cX13_fuel 1 (some .int) :: ([.fieldLink RX13 1098 "LiquidTongueModel" "fuelTaken" "I"] ++ wsX130)
set_option maxRecDepth 20000 in
theorem ggX12_feed_X12_lay : GoodIn wsX12_feed wsX12_lay := goodIn_r _ [6, 1, 7, 8, 9, 10, 11, 12, 13, 14, 15, 16, 17, 18, 19, 20] (by decide +kernel) (by decide +kernel)
set_option maxRecDepth 20000 in
theorem gX12_feed_X12_lay : GoodIn wsX12_feed (wsV RX12 47 RX12 yX12_lay wsX12_lay) := goodIn_app (goodIn_of _ (by decide +kernel)) ggX12_feed_X12_lay
theorem dX12_feed_0 : decode cX12_feed 0 = .ok (.aload_n 0, 1) := by decide +kernel
theorem dX12_feed_1 : decode cX12_feed 1 = .ok (.getfield 44, 3) := by decide +kernel
theorem dX12_feed_4 : decode cX12_feed 4 = .ok (.sipush 1980, 3) := by decide +kernel
theorem dX12_feed_7 : decode cX12_feed 7 = .ok (.if_icmp .le 5, 3) := by decide +kernel
theorem dX12_feed_10 : decode cX12_feed 10 = .ok (.iconst 0, 1) := by decide +kernel
theorem dX12_feed_11 : decode cX12_feed 11 = .ok (.ireturn, 1) := by decide +kernel
theorem dX12_feed_12 : decode cX12_feed 12 = .ok (.aload_n 0, 1) := by decide +kernel
theorem dX12_feed_13 : decode cX12_feed 13 = .ok (.iload_n 1, 1) := by decide +kernel
theorem dX12_feed_14 : decode cX12_feed 14 = .ok (.invokevirtual 47, 3) := by decide +kernel
theorem dX12_feed_17 : decode cX12_feed 17 = .ok (.aload_n 0, 1) := by decide +kernel
theorem dX12_feed_18 : decode cX12_feed 18 = .ok (.iload_n 2, 1) := by decide +kernel
theorem dX12_feed_19 : decode cX12_feed 19 = .ok (.invokevirtual 47, 3) := by decide +kernel
theorem dX12_feed_22 : decode cX12_feed 22 = .ok (.aload_n 0, 1) := by decide +kernel
theorem dX12_feed_23 : decode cX12_feed 23 = .ok (.iload_n 3, 1) := by decide +kernel
theorem dX12_feed_24 : decode cX12_feed 24 = .ok (.invokevirtual 47, 3) := by decide +kernel
theorem dX12_feed_27 : decode cX12_feed 27 = .ok (.aload_n 0, 1) := by decide +kernel
theorem dX12_feed_28 : decode cX12_feed 28 = .ok (.iload 4, 2) := by decide +kernel
theorem dX12_feed_30 : decode cX12_feed 30 = .ok (.invokevirtual 47, 3) := by decide +kernel
theorem dX12_feed_33 : decode cX12_feed 33 = .ok (.aload_n 0, 1) := by decide +kernel
theorem dX12_feed_34 : decode cX12_feed 34 = .ok (.iload 5, 2) := by decide +kernel
theorem dX12_feed_36 : decode cX12_feed 36 = .ok (.invokevirtual 47, 3) := by decide +kernel
theorem dX12_feed_39 : decode cX12_feed 39 = .ok (.iconst 1, 1) := by decide +kernel
theorem dX12_feed_40 : decode cX12_feed 40 = .ok (.ireturn, 1) := by decide +kernel
theorem dX12_lay_0 : decode cX12_lay 0 = .ok (.bipush 24, 2) := by decide +kernel
theorem dX12_lay_2 : decode cX12_lay 2 = .ok (.istore_n 2, 1) := by decide +kernel
theorem dX12_lay_3 : decode cX12_lay 3 = .ok (.iload_n 2, 1) := by decide +kernel
theorem dX12_lay_4 : decode cX12_lay 4 = .ok (.ifCond .lt 42, 3) := by decide +kernel
theorem dX12_lay_7 : decode cX12_lay 7 = .ok (.aload_n 0, 1) := by decide +kernel
theorem dX12_lay_8 : decode cX12_lay 8 = .ok (.getfield 44, 3) := by decide +kernel
theorem dX12_lay_11 : decode cX12_lay 11 = .ok (.sipush 2000, 3) := by decide +kernel
theorem dX12_lay_14 : decode cX12_lay 14 = .ok (.if_icmp .ge 32, 3) := by decide +kernel
theorem dX12_lay_17 : decode cX12_lay 17 = .ok (.aload_n 0, 1) := by decide +kernel
theorem dX12_lay_18 : decode cX12_lay 18 = .ok (.getfield 9, 3) := by decide +kernel
theorem dX12_lay_21 : decode cX12_lay 21 = .ok (.aload_n 0, 1) := by decide +kernel
theorem dX12_lay_22 : decode cX12_lay 22 = .ok (.getfield 44, 3) := by decide +kernel
theorem dX12_lay_25 : decode cX12_lay 25 = .ok (.iload_n 1, 1) := by decide +kernel
theorem dX12_lay_26 : decode cX12_lay 26 = .ok (.iload_n 2, 1) := by decide +kernel
theorem dX12_lay_27 : decode cX12_lay 27 = .ok (.ishr, 1) := by decide +kernel
theorem dX12_lay_28 : decode cX12_lay 28 = .ok (.i2b, 1) := by decide +kernel
theorem dX12_lay_29 : decode cX12_lay 29 = .ok (.bastore, 1) := by decide +kernel
theorem dX12_lay_30 : decode cX12_lay 30 = .ok (.aload_n 0, 1) := by decide +kernel
theorem dX12_lay_31 : decode cX12_lay 31 = .ok (.dup, 1) := by decide +kernel
theorem dX12_lay_32 : decode cX12_lay 32 = .ok (.getfield 44, 3) := by decide +kernel
theorem dX12_lay_35 : decode cX12_lay 35 = .ok (.iconst 1, 1) := by decide +kernel
theorem dX12_lay_36 : decode cX12_lay 36 = .ok (.iadd, 1) := by decide +kernel
theorem dX12_lay_37 : decode cX12_lay 37 = .ok (.putfield 44, 3) := by decide +kernel
theorem dX12_lay_40 : decode cX12_lay 40 = .ok (.iinc 2 (-8), 3) := by decide +kernel
theorem dX12_lay_43 : decode cX12_lay 43 = .ok (.goto (-40), 3) := by decide +kernel
theorem dX12_lay_46 : decode cX12_lay 46 = .ok (.return_, 1) := by decide +kernel
theorem dX12_end_0 : decode cX12_end 0 = .ok (.iload_n 1, 1) := by decide +kernel
theorem dX12_end_1 : decode cX12_end 1 = .ok (.ifCond .lt 11, 3) := by decide +kernel
theorem dX12_end_4 : decode cX12_end 4 = .ok (.iload_n 1, 1) := by decide +kernel
theorem dX12_end_5 : decode cX12_end 5 = .ok (.aload_n 0, 1) := by decide +kernel
theorem dX12_end_6 : decode cX12_end 6 = .ok (.getfield 44, 3) := by decide +kernel
theorem dX12_end_9 : decode cX12_end 9 = .ok (.if_icmp .le 5, 3) := by decide +kernel
theorem dX12_end_12 : decode cX12_end 12 = .ok (.iconst 0, 1) := by decide +kernel
theorem dX12_end_13 : decode cX12_end 13 = .ok (.ireturn, 1) := by decide +kernel
theorem dX12_end_14 : decode cX12_end 14 = .ok (.aload_n 0, 1) := by decide +kernel
theorem dX12_end_15 : decode cX12_end 15 = .ok (.iload_n 1, 1) := by decide +kernel
theorem dX12_end_16 : decode cX12_end 16 = .ok (.putfield 44, 3) := by decide +kernel
theorem dX12_end_19 : decode cX12_end 19 = .ok (.iconst 1, 1) := by decide +kernel
theorem dX12_end_20 : decode cX12_end 20 = .ok (.ireturn, 1) := by decide +kernel
theorem dX12_place_0 : decode cX12_place 0 = .ok (.aload_n 0, 1) := by decide +kernel
theorem dX12_place_1 : decode cX12_place 1 = .ok (.getfield 13, 3) := by decide +kernel
theorem dX12_place_4 : decode cX12_place 4 = .ok (.ireturn, 1) := by decide +kernel
theorem dX12_out_0 : decode cX12_out 0 = .ok (.iload_n 1, 1) := by decide +kernel
theorem dX12_out_1 : decode cX12_out 1 = .ok (.iconst (-1), 1) := by decide +kernel
theorem dX12_out_2 : decode cX12_out 2 = .ok (.if_icmp .ne 8, 3) := by decide +kernel
theorem dX12_out_5 : decode cX12_out 5 = .ok (.aload_n 0, 1) := by decide +kernel
theorem dX12_out_6 : decode cX12_out 6 = .ok (.getfield 178, 3) := by decide +kernel
theorem dX12_out_9 : decode cX12_out 9 = .ok (.ireturn, 1) := by decide +kernel
theorem dX12_out_10 : decode cX12_out 10 = .ok (.iload_n 1, 1) := by decide +kernel
theorem dX12_out_11 : decode cX12_out 11 = .ok (.ifCond .lt 24, 3) := by decide +kernel
theorem dX12_out_14 : decode cX12_out 14 = .ok (.iload_n 1, 1) := by decide +kernel
theorem dX12_out_15 : decode cX12_out 15 = .ok (.aload_n 0, 1) := by decide +kernel
theorem dX12_out_16 : decode cX12_out 16 = .ok (.getfield 178, 3) := by decide +kernel
theorem dX12_out_19 : decode cX12_out 19 = .ok (.if_icmp .ge 16, 3) := by decide +kernel
theorem dX12_out_22 : decode cX12_out 22 = .ok (.aload_n 0, 1) := by decide +kernel
theorem dX12_out_23 : decode cX12_out 23 = .ok (.getfield 17, 3) := by decide +kernel
theorem dX12_out_26 : decode cX12_out 26 = .ok (.iload_n 1, 1) := by decide +kernel
theorem dX12_out_27 : decode cX12_out 27 = .ok (.baload, 1) := by decide +kernel
theorem dX12_out_28 : decode cX12_out 28 = .ok (.sipush 255, 3) := by decide +kernel
theorem dX12_out_31 : decode cX12_out 31 = .ok (.iand, 1) := by decide +kernel
theorem dX12_out_32 : decode cX12_out 32 = .ok (.goto 4, 3) := by decide +kernel
theorem dX12_out_35 : decode cX12_out 35 = .ok (.iconst (-1), 1) := by decide +kernel
theorem dX12_out_36 : decode cX12_out 36 = .ok (.ireturn, 1) := by decide +kernel
theorem dX12_value_0 : decode cX12_value 0 = .ok (.aload_n 0, 1) := by decide +kernel
theorem dX12_value_1 : decode cX12_value 1 = .ok (.getfield 40, 3) := by decide +kernel
theorem dX12_value_4 : decode cX12_value 4 = .ok (.getfield 316, 3) := by decide +kernel
theorem dX12_value_7 : decode cX12_value 7 = .ok (.lreturn, 1) := by decide +kernel
theorem dX12_fuel_0 : decode cX12_fuel 0 = .ok (.aload_n 0, 1) := by decide +kernel
theorem dX12_fuel_1 : decode cX12_fuel 1 = .ok (.getfield 40, 3) := by decide +kernel
theorem dX12_fuel_4 : decode cX12_fuel 4 = .ok (.getfield 319, 3) := by decide +kernel
theorem dX12_fuel_7 : decode cX12_fuel 7 = .ok (.ireturn, 1) := by decide +kernel
theorem dX13_feed_0 : decode cX13_feed 0 = .ok (.aload_n 0, 1) := by decide +kernel
theorem dX13_feed_1 : decode cX13_feed 1 = .ok (.getfield 386, 3) := by decide +kernel
theorem dX13_feed_4 : decode cX13_feed 4 = .ok (.bipush 20, 2) := by decide +kernel
theorem dX13_feed_6 : decode cX13_feed 6 = .ok (.iadd, 1) := by decide +kernel
theorem dX13_feed_7 : decode cX13_feed 7 = .ok (.sipush 2000, 3) := by decide +kernel
theorem dX13_feed_10 : decode cX13_feed 10 = .ok (.if_icmp .le 5, 3) := by decide +kernel
theorem dX13_feed_13 : decode cX13_feed 13 = .ok (.iconst 0, 1) := by decide +kernel
theorem dX13_feed_14 : decode cX13_feed 14 = .ok (.ireturn, 1) := by decide +kernel
theorem dX13_feed_15 : decode cX13_feed 15 = .ok (.iconst 0, 1) := by decide +kernel
theorem dX13_feed_16 : decode cX13_feed 16 = .ok (.istore 6, 2) := by decide +kernel
theorem dX13_feed_18 : decode cX13_feed 18 = .ok (.iload 6, 2) := by decide +kernel
theorem dX13_feed_20 : decode cX13_feed 20 = .ok (.bipush 20, 2) := by decide +kernel
theorem dX13_feed_22 : decode cX13_feed 22 = .ok (.if_icmp .ge 90, 3) := by decide +kernel
theorem dX13_feed_25 : decode cX13_feed 25 = .ok (.iload 6, 2) := by decide +kernel
theorem dX13_feed_27 : decode cX13_feed 27 = .ok (.iconst 4, 1) := by decide +kernel
theorem dX13_feed_28 : decode cX13_feed 28 = .ok (.if_icmp .ge 7, 3) := by decide +kernel
theorem dX13_feed_31 : decode cX13_feed 31 = .ok (.iload_n 1, 1) := by decide +kernel
theorem dX13_feed_32 : decode cX13_feed 32 = .ok (.goto 39, 3) := by decide +kernel
theorem dX13_feed_35 : decode cX13_feed 35 = .ok (.iload 6, 2) := by decide +kernel
theorem dX13_feed_37 : decode cX13_feed 37 = .ok (.bipush 8, 2) := by decide +kernel
theorem dX13_feed_39 : decode cX13_feed 39 = .ok (.if_icmp .ge 7, 3) := by decide +kernel
theorem dX13_feed_42 : decode cX13_feed 42 = .ok (.iload_n 2, 1) := by decide +kernel
theorem dX13_feed_43 : decode cX13_feed 43 = .ok (.goto 28, 3) := by decide +kernel
theorem dX13_feed_46 : decode cX13_feed 46 = .ok (.iload 6, 2) := by decide +kernel
theorem dX13_feed_48 : decode cX13_feed 48 = .ok (.bipush 12, 2) := by decide +kernel
theorem dX13_feed_50 : decode cX13_feed 50 = .ok (.if_icmp .ge 7, 3) := by decide +kernel
theorem dX13_feed_53 : decode cX13_feed 53 = .ok (.iload_n 3, 1) := by decide +kernel
theorem dX13_feed_54 : decode cX13_feed 54 = .ok (.goto 17, 3) := by decide +kernel
theorem dX13_feed_57 : decode cX13_feed 57 = .ok (.iload 6, 2) := by decide +kernel
theorem dX13_feed_59 : decode cX13_feed 59 = .ok (.bipush 16, 2) := by decide +kernel
theorem dX13_feed_61 : decode cX13_feed 61 = .ok (.if_icmp .ge 8, 3) := by decide +kernel
theorem dX13_feed_64 : decode cX13_feed 64 = .ok (.iload 4, 2) := by decide +kernel
theorem dX13_feed_66 : decode cX13_feed 66 = .ok (.goto 5, 3) := by decide +kernel
theorem dX13_feed_69 : decode cX13_feed 69 = .ok (.iload 5, 2) := by decide +kernel
theorem dX13_feed_71 : decode cX13_feed 71 = .ok (.istore 7, 2) := by decide +kernel
theorem dX13_feed_73 : decode cX13_feed 73 = .ok (.aload_n 0, 1) := by decide +kernel
theorem dX13_feed_74 : decode cX13_feed 74 = .ok (.getfield 9, 3) := by decide +kernel
theorem dX13_feed_77 : decode cX13_feed 77 = .ok (.aload_n 0, 1) := by decide +kernel
theorem dX13_feed_78 : decode cX13_feed 78 = .ok (.getfield 386, 3) := by decide +kernel
theorem dX13_feed_81 : decode cX13_feed 81 = .ok (.iload 7, 2) := by decide +kernel
theorem dX13_feed_83 : decode cX13_feed 83 = .ok (.bipush 24, 2) := by decide +kernel
theorem dX13_feed_85 : decode cX13_feed 85 = .ok (.bipush 8, 2) := by decide +kernel
theorem dX13_feed_87 : decode cX13_feed 87 = .ok (.iload 6, 2) := by decide +kernel
theorem dX13_feed_89 : decode cX13_feed 89 = .ok (.iconst 4, 1) := by decide +kernel
theorem dX13_feed_90 : decode cX13_feed 90 = .ok (.irem, 1) := by decide +kernel
theorem dX13_feed_91 : decode cX13_feed 91 = .ok (.imul, 1) := by decide +kernel
theorem dX13_feed_92 : decode cX13_feed 92 = .ok (.isub, 1) := by decide +kernel
theorem dX13_feed_93 : decode cX13_feed 93 = .ok (.ishr, 1) := by decide +kernel
theorem dX13_feed_94 : decode cX13_feed 94 = .ok (.i2b, 1) := by decide +kernel
theorem dX13_feed_95 : decode cX13_feed 95 = .ok (.bastore, 1) := by decide +kernel
theorem dX13_feed_96 : decode cX13_feed 96 = .ok (.aload_n 0, 1) := by decide +kernel
theorem dX13_feed_97 : decode cX13_feed 97 = .ok (.dup, 1) := by decide +kernel
theorem dX13_feed_98 : decode cX13_feed 98 = .ok (.getfield 386, 3) := by decide +kernel
theorem dX13_feed_101 : decode cX13_feed 101 = .ok (.iconst 1, 1) := by decide +kernel
theorem dX13_feed_102 : decode cX13_feed 102 = .ok (.iadd, 1) := by decide +kernel
theorem dX13_feed_103 : decode cX13_feed 103 = .ok (.putfield 386, 3) := by decide +kernel
theorem dX13_feed_106 : decode cX13_feed 106 = .ok (.iinc 6 1, 3) := by decide +kernel
theorem dX13_feed_109 : decode cX13_feed 109 = .ok (.goto (-91), 3) := by decide +kernel
theorem dX13_feed_112 : decode cX13_feed 112 = .ok (.iconst 1, 1) := by decide +kernel
theorem dX13_feed_113 : decode cX13_feed 113 = .ok (.ireturn, 1) := by decide +kernel
theorem dX13_end_0 : decode cX13_end 0 = .ok (.iload_n 1, 1) := by decide +kernel
theorem dX13_end_1 : decode cX13_end 1 = .ok (.ifCond .lt 11, 3) := by decide +kernel
theorem dX13_end_4 : decode cX13_end 4 = .ok (.iload_n 1, 1) := by decide +kernel
theorem dX13_end_5 : decode cX13_end 5 = .ok (.aload_n 0, 1) := by decide +kernel
theorem dX13_end_6 : decode cX13_end 6 = .ok (.getfield 386, 3) := by decide +kernel
theorem dX13_end_9 : decode cX13_end 9 = .ok (.if_icmp .le 5, 3) := by decide +kernel
theorem dX13_end_12 : decode cX13_end 12 = .ok (.iconst 0, 1) := by decide +kernel
theorem dX13_end_13 : decode cX13_end 13 = .ok (.ireturn, 1) := by decide +kernel
theorem dX13_end_14 : decode cX13_end 14 = .ok (.aload_n 0, 1) := by decide +kernel
theorem dX13_end_15 : decode cX13_end 15 = .ok (.iload_n 1, 1) := by decide +kernel
theorem dX13_end_16 : decode cX13_end 16 = .ok (.putfield 386, 3) := by decide +kernel
theorem dX13_end_19 : decode cX13_end 19 = .ok (.iconst 1, 1) := by decide +kernel
theorem dX13_end_20 : decode cX13_end 20 = .ok (.ireturn, 1) := by decide +kernel
theorem dX13_out_0 : decode cX13_out 0 = .ok (.iload_n 1, 1) := by decide +kernel
theorem dX13_out_1 : decode cX13_out 1 = .ok (.iconst (-1), 1) := by decide +kernel
theorem dX13_out_2 : decode cX13_out 2 = .ok (.if_icmp .ne 10, 3) := by decide +kernel
theorem dX13_out_5 : decode cX13_out 5 = .ok (.aload_n 0, 1) := by decide +kernel
theorem dX13_out_6 : decode cX13_out 6 = .ok (.getfield 389, 3) := by decide +kernel
theorem dX13_out_9 : decode cX13_out 9 = .ok (.goto 29, 3) := by decide +kernel
theorem dX13_out_12 : decode cX13_out 12 = .ok (.iload_n 1, 1) := by decide +kernel
theorem dX13_out_13 : decode cX13_out 13 = .ok (.ifCond .lt 24, 3) := by decide +kernel
theorem dX13_out_16 : decode cX13_out 16 = .ok (.iload_n 1, 1) := by decide +kernel
theorem dX13_out_17 : decode cX13_out 17 = .ok (.aload_n 0, 1) := by decide +kernel
theorem dX13_out_18 : decode cX13_out 18 = .ok (.getfield 389, 3) := by decide +kernel
theorem dX13_out_21 : decode cX13_out 21 = .ok (.if_icmp .ge 16, 3) := by decide +kernel
theorem dX13_out_24 : decode cX13_out 24 = .ok (.aload_n 0, 1) := by decide +kernel
theorem dX13_out_25 : decode cX13_out 25 = .ok (.getfield 16, 3) := by decide +kernel
theorem dX13_out_28 : decode cX13_out 28 = .ok (.iload_n 1, 1) := by decide +kernel
theorem dX13_out_29 : decode cX13_out 29 = .ok (.baload, 1) := by decide +kernel
theorem dX13_out_30 : decode cX13_out 30 = .ok (.sipush 255, 3) := by decide +kernel
theorem dX13_out_33 : decode cX13_out 33 = .ok (.iand, 1) := by decide +kernel
theorem dX13_out_34 : decode cX13_out 34 = .ok (.goto 4, 3) := by decide +kernel
theorem dX13_out_37 : decode cX13_out 37 = .ok (.iconst (-1), 1) := by decide +kernel
theorem dX13_out_38 : decode cX13_out 38 = .ok (.ireturn, 1) := by decide +kernel
theorem dX13_place_0 : decode cX13_place 0 = .ok (.aload_n 0, 1) := by decide +kernel
theorem dX13_place_1 : decode cX13_place 1 = .ok (.getfield 137, 3) := by decide +kernel
theorem dX13_place_4 : decode cX13_place 4 = .ok (.ireturn, 1) := by decide +kernel
theorem dX13_value_0 : decode cX13_value 0 = .ok (.aload_n 0, 1) := by decide +kernel
theorem dX13_value_1 : decode cX13_value 1 = .ok (.getfield 757, 3) := by decide +kernel
theorem dX13_value_4 : decode cX13_value 4 = .ok (.iconst 1, 1) := by decide +kernel
theorem dX13_value_5 : decode cX13_value 5 = .ok (.if_icmp .ne 10, 3) := by decide +kernel
theorem dX13_value_8 : decode cX13_value 8 = .ok (.aload_n 0, 1) := by decide +kernel
theorem dX13_value_9 : decode cX13_value 9 = .ok (.getfield 1101, 3) := by decide +kernel
theorem dX13_value_12 : decode cX13_value 12 = .ok (.goto 4, 3) := by decide +kernel
theorem dX13_value_15 : decode cX13_value 15 = .ok (.lconst 0, 1) := by decide +kernel
theorem dX13_value_16 : decode cX13_value 16 = .ok (.lreturn, 1) := by decide +kernel
theorem dX13_fuel_0 : decode cX13_fuel 0 = .ok (.aload_n 0, 1) := by decide +kernel
theorem dX13_fuel_1 : decode cX13_fuel 1 = .ok (.getfield 1098, 3) := by decide +kernel
theorem dX13_fuel_4 : decode cX13_fuel 4 = .ok (.ireturn, 1) := by decide +kernel
abbrev vwCl : List vw_C := [(RJ0, TJ0, 4), (RJx4a65c, TJx4a65c, 3), (RX0, TX0, 10), (RX1, TX1, 10), (RX2, TX2, 15), (RX3, TX3, 18), (RX4, TX4, 8), (RX5, TX5, 21), (RX6, TX6, 5), (RX7, TX7, 18), (RX8, TX8, 4), (RX9, TX9, 4), (RX10, TX10, 10), (RX11, TX11, 6), (RX12, TX12, 13), (RX13, TX13, 196)]
