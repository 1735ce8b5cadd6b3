def tyJ0 : Nat → FieldType := fun k => match k with
  | 0 => .array .byte
  | 1 => .byte
  | 2 => .int
  | _ => .boolean
theorem nmJ0 : ∀ a, a < 4 → ∀ b, b < 4 → a ≠ b → (TJ0 a).2.1 ≠ (TJ0 b).2.1 := by decide +kernel
theorem tyJ0_ok : ∀ k, k < 4 → parseFieldDescriptor (TJ0 k).2.2.1 = some (tyJ0 k) := by decide +kernel
abbrev cJ0_init_905df : ByteArray := prog_21_method_3_code
def yJ0_init_905df : MethodName := ⟨RJ0, "<init>", "([C)V"⟩
abbrev cJ0_length_8abf5 : ByteArray := prog_21_method_54_code
def yJ0_length_8abf5 : MethodName := ⟨RJ0, "length", "()I"⟩
abbrev cJ0_init_bb550 : ByteArray := prog_21_method_149_code
def yJ0_init_bb550 : MethodName := ⟨RJ0, "<init>", "([CIILjava/lang/Void;)V"⟩
abbrev cJ0_coder_7d493 : ByteArray := prog_21_method_152_code
def yJ0_coder_7d493 : MethodName := ⟨RJ0, "coder", "()B"⟩
def wsJ0_coder_7d493 : List Cond := .code yJ0_coder_7d493 cJ0_coder_7d493 1 (some .byte) :: ([.fieldLink RJ0 38 "java/lang/String" "COMPACT_STRINGS" "Z", .fieldLink RJ0 15 "java/lang/String" "coder" "B"] ++ wsJ00)
def wsJ0_length_8abf5 : List Cond := .code yJ0_length_8abf5 cJ0_length_8abf5 1 (some .int) :: ([.fieldLink RJ0 9 "java/lang/String" "value" "[B", .methodLink RJ0 335 yJ0_coder_7d493, .instanceMethod yJ0_coder_7d493, .selects RJ0 yJ0_coder_7d493 yJ0_coder_7d493, .initialized RJ0, .code yJ0_coder_7d493 cJ0_coder_7d493 1 (some .byte), .fieldLink RJ0 38 "java/lang/String" "COMPACT_STRINGS" "Z", .fieldLink RJ0 15 "java/lang/String" "coder" "B"] ++ wsJ00)
theorem dJ0_init_905df_0 : decode cJ0_init_905df 0 = .ok (.aload_n 0, 1) := by decide +kernel
theorem dJ0_init_905df_1 : decode cJ0_init_905df 1 = .ok (.aload_n 1, 1) := by decide +kernel
theorem dJ0_init_905df_2 : decode cJ0_init_905df 2 = .ok (.iconst 0, 1) := by decide +kernel
theorem dJ0_init_905df_3 : decode cJ0_init_905df 3 = .ok (.aload_n 1, 1) := by decide +kernel
theorem dJ0_init_905df_4 : decode cJ0_init_905df 4 = .ok (.arraylength, 1) := by decide +kernel
theorem dJ0_init_905df_5 : decode cJ0_init_905df 5 = .ok (.aconst_null, 1) := by decide +kernel
theorem dJ0_init_905df_6 : decode cJ0_init_905df 6 = .ok (.invokespecial 27, 3) := by decide +kernel
theorem dJ0_init_905df_9 : decode cJ0_init_905df 9 = .ok (.return_, 1) := by decide +kernel
set_option maxRecDepth 20000 in
theorem ggJ0_length_8abf5_J0_coder_7d493 : GoodIn wsJ0_length_8abf5 wsJ0_coder_7d493 := goodIn_r _ [6, 7, 8, 9, 10, 11, 12] (by decide +kernel) (by decide +kernel)
set_option maxRecDepth 20000 in
theorem gJ0_length_8abf5_J0_coder_7d493 : GoodIn wsJ0_length_8abf5 (wsV RJ0 335 RJ0 yJ0_coder_7d493 wsJ0_coder_7d493) := goodIn_app (goodIn_of _ (by decide +kernel)) ggJ0_length_8abf5_J0_coder_7d493
theorem dJ0_length_8abf5_0 : decode cJ0_length_8abf5 0 = .ok (.aload_n 0, 1) := by decide +kernel
theorem dJ0_length_8abf5_1 : decode cJ0_length_8abf5 1 = .ok (.getfield 9, 3) := by decide +kernel
theorem dJ0_length_8abf5_4 : decode cJ0_length_8abf5 4 = .ok (.arraylength, 1) := by decide +kernel
theorem dJ0_length_8abf5_5 : decode cJ0_length_8abf5 5 = .ok (.aload_n 0, 1) := by decide +kernel
theorem dJ0_length_8abf5_6 : decode cJ0_length_8abf5 6 = .ok (.invokevirtual 335, 3) := by decide +kernel
theorem dJ0_length_8abf5_9 : decode cJ0_length_8abf5 9 = .ok (.ishr, 1) := by decide +kernel
theorem dJ0_length_8abf5_10 : decode cJ0_length_8abf5 10 = .ok (.ireturn, 1) := by decide +kernel
theorem dJ0_init_bb550_0 : decode cJ0_init_bb550 0 = .ok (.aload_n 0, 1) := by decide +kernel
theorem dJ0_init_bb550_1 : decode cJ0_init_bb550 1 = .ok (.invokespecial 1, 3) := by decide +kernel
theorem dJ0_init_bb550_4 : decode cJ0_init_bb550 4 = .ok (.iload_n 3, 1) := by decide +kernel
theorem dJ0_init_bb550_5 : decode cJ0_init_bb550 5 = .ok (.ifCond .ne 22, 3) := by decide +kernel
theorem dJ0_init_bb550_8 : decode cJ0_init_bb550 8 = .ok (.aload_n 0, 1) := by decide +kernel
theorem dJ0_init_bb550_9 : decode cJ0_init_bb550 9 = .ok (.ldc 7, 2) := by decide +kernel
theorem dJ0_init_bb550_11 : decode cJ0_init_bb550 11 = .ok (.getfield 9, 3) := by decide +kernel
theorem dJ0_init_bb550_14 : decode cJ0_init_bb550 14 = .ok (.putfield 9, 3) := by decide +kernel
theorem dJ0_init_bb550_17 : decode cJ0_init_bb550 17 = .ok (.aload_n 0, 1) := by decide +kernel
theorem dJ0_init_bb550_18 : decode cJ0_init_bb550 18 = .ok (.ldc 7, 2) := by decide +kernel
theorem dJ0_init_bb550_20 : decode cJ0_init_bb550 20 = .ok (.getfield 15, 3) := by decide +kernel
theorem dJ0_init_bb550_23 : decode cJ0_init_bb550 23 = .ok (.putfield 15, 3) := by decide +kernel
theorem dJ0_init_bb550_26 : decode cJ0_init_bb550 26 = .ok (.return_, 1) := by decide +kernel
theorem dJ0_coder_7d493_0 : decode cJ0_coder_7d493 0 = .ok (.getstatic 38, 3) := by decide +kernel
theorem dJ0_coder_7d493_3 : decode cJ0_coder_7d493 3 = .ok (.ifCond .eq 10, 3) := by decide +kernel
theorem dJ0_coder_7d493_6 : decode cJ0_coder_7d493 6 = .ok (.aload_n 0, 1) := by decide +kernel
theorem dJ0_coder_7d493_7 : decode cJ0_coder_7d493 7 = .ok (.getfield 15, 3) := by decide +kernel
theorem dJ0_coder_7d493_10 : decode cJ0_coder_7d493 10 = .ok (.goto 4, 3) := by decide +kernel
theorem dJ0_coder_7d493_14 : decode cJ0_coder_7d493 14 = .ok (.ireturn, 1) := by decide +kernel
