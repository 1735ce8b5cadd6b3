theorem dX3_begin_0 : decode cX3_begin 0 = .ok (.aload_n 0, 1) := by decide +kernel
theorem dX3_begin_1 : decode cX3_begin 1 = .ok (.iconst 4, 1) := by decide +kernel
theorem dX3_begin_2 : decode cX3_begin 2 = .ok (.putfield 94, 3) := by decide +kernel
theorem dX3_begin_5 : decode cX3_begin 5 = .ok (.aload_n 0, 1) := by decide +kernel
theorem dX3_begin_6 : decode cX3_begin 6 = .ok (.iconst 0, 1) := by decide +kernel
theorem dX3_begin_7 : decode cX3_begin 7 = .ok (.putfield 73, 3) := by decide +kernel
theorem dX3_begin_10 : decode cX3_begin 10 = .ok (.aload_n 0, 1) := by decide +kernel
theorem dX3_begin_11 : decode cX3_begin 11 = .ok (.iconst 0, 1) := by decide +kernel
theorem dX3_begin_12 : decode cX3_begin 12 = .ok (.putfield 97, 3) := by decide +kernel
theorem dX3_begin_15 : decode cX3_begin 15 = .ok (.aload_n 0, 1) := by decide +kernel
theorem dX3_begin_16 : decode cX3_begin 16 = .ok (.iconst 0, 1) := by decide +kernel
theorem dX3_begin_17 : decode cX3_begin 17 = .ok (.putfield 100, 3) := by decide +kernel
theorem dX3_begin_20 : decode cX3_begin 20 = .ok (.aload_n 0, 1) := by decide +kernel
theorem dX3_begin_21 : decode cX3_begin 21 = .ok (.iconst 0, 1) := by decide +kernel
theorem dX3_begin_22 : decode cX3_begin 22 = .ok (.putfield 103, 3) := by decide +kernel
theorem dX3_begin_25 : decode cX3_begin 25 = .ok (.aload_n 0, 1) := by decide +kernel
theorem dX3_begin_26 : decode cX3_begin 26 = .ok (.lconst 0, 1) := by decide +kernel
theorem dX3_begin_27 : decode cX3_begin 27 = .ok (.putfield 87, 3) := by decide +kernel
theorem dX3_begin_30 : decode cX3_begin 30 = .ok (.iconst 0, 1) := by decide +kernel
theorem dX3_begin_31 : decode cX3_begin 31 = .ok (.istore_n 1, 1) := by decide +kernel
theorem dX3_begin_32 : decode cX3_begin 32 = .ok (.iload_n 1, 1) := by decide +kernel
theorem dX3_begin_33 : decode cX3_begin 33 = .ok (.aload_n 0, 1) := by decide +kernel
theorem dX3_begin_34 : decode cX3_begin 34 = .ok (.getfield 36, 3) := by decide +kernel
theorem dX3_begin_37 : decode cX3_begin 37 = .ok (.getfield 106, 3) := by decide +kernel
theorem dX3_begin_40 : decode cX3_begin 40 = .ok (.if_icmp .ge 68, 3) := by decide +kernel
theorem dX3_begin_43 : decode cX3_begin 43 = .ok (.aload_n 0, 1) := by decide +kernel
theorem dX3_begin_44 : decode cX3_begin 44 = .ok (.getfield 36, 3) := by decide +kernel
theorem dX3_begin_47 : decode cX3_begin 47 = .ok (.getfield 109, 3) := by decide +kernel
theorem dX3_begin_50 : decode cX3_begin 50 = .ok (.iload_n 1, 1) := by decide +kernel
theorem dX3_begin_51 : decode cX3_begin 51 = .ok (.invokevirtual 113, 3) := by decide +kernel
theorem dX3_begin_54 : decode cX3_begin 54 = .ok (.checkcast 119, 3) := by decide +kernel
theorem dX3_begin_57 : decode cX3_begin 57 = .ok (.getfield 121, 3) := by decide +kernel
theorem dX3_begin_60 : decode cX3_begin 60 = .ok (.sipush 200, 3) := by decide +kernel
theorem dX3_begin_63 : decode cX3_begin 63 = .ok (.if_icmp .ne 7, 3) := by decide +kernel
theorem dX3_begin_66 : decode cX3_begin 66 = .ok (.iconst 1, 1) := by decide +kernel
theorem dX3_begin_67 : decode cX3_begin 67 = .ok (.goto 4, 3) := by decide +kernel
theorem dX3_begin_70 : decode cX3_begin 70 = .ok (.iconst 0, 1) := by decide +kernel
theorem dX3_begin_71 : decode cX3_begin 71 = .ok (.istore_n 2, 1) := by decide +kernel
theorem dX3_begin_72 : decode cX3_begin 72 = .ok (.aload_n 0, 1) := by decide +kernel
theorem dX3_begin_73 : decode cX3_begin 73 = .ok (.aload_n 0, 1) := by decide +kernel
theorem dX3_begin_74 : decode cX3_begin 74 = .ok (.iload_n 2, 1) := by decide +kernel
theorem dX3_begin_75 : decode cX3_begin 75 = .ok (.ifCond .eq 11, 3) := by decide +kernel
theorem dX3_begin_78 : decode cX3_begin 78 = .ok (.aload_n 0, 1) := by decide +kernel
theorem dX3_begin_79 : decode cX3_begin 79 = .ok (.iload_n 1, 1) := by decide +kernel
theorem dX3_begin_80 : decode cX3_begin 80 = .ok (.invokevirtual 124, 3) := by decide +kernel
theorem dX3_begin_83 : decode cX3_begin 83 = .ok (.goto 9, 3) := by decide +kernel
theorem dX3_begin_86 : decode cX3_begin 86 = .ok (.aload_n 0, 1) := by decide +kernel
theorem dX3_begin_87 : decode cX3_begin 87 = .ok (.getfield 11, 3) := by decide +kernel
theorem dX3_begin_90 : decode cX3_begin 90 = .ok (.iload_n 1, 1) := by decide +kernel
theorem dX3_begin_91 : decode cX3_begin 91 = .ok (.laload, 1) := by decide +kernel
theorem dX3_begin_92 : decode cX3_begin 92 = .ok (.aload_n 0, 1) := by decide +kernel
theorem dX3_begin_93 : decode cX3_begin 93 = .ok (.getfield 97, 3) := by decide +kernel
theorem dX3_begin_96 : decode cX3_begin 96 = .ok (.invokevirtual 128, 3) := by decide +kernel
theorem dX3_begin_99 : decode cX3_begin 99 = .ok (.putfield 97, 3) := by decide +kernel
theorem dX3_begin_102 : decode cX3_begin 102 = .ok (.iinc 1 1, 3) := by decide +kernel
theorem dX3_begin_105 : decode cX3_begin 105 = .ok (.goto (-73), 3) := by decide +kernel
theorem dX3_begin_108 : decode cX3_begin 108 = .ok (.return_, 1) := by decide +kernel
theorem dX3_pair_0 : decode cX3_pair 0 = .ok (.aload_n 0, 1) := by decide +kernel
theorem dX3_pair_1 : decode cX3_pair 1 = .ok (.iconst 2, 1) := by decide +kernel
theorem dX3_pair_2 : decode cX3_pair 2 = .ok (.invokevirtual 140, 3) := by decide +kernel
theorem dX3_pair_5 : decode cX3_pair 5 = .ok (.istore 4, 2) := by decide +kernel
theorem dX3_pair_7 : decode cX3_pair 7 = .ok (.aload_n 0, 1) := by decide +kernel
theorem dX3_pair_8 : decode cX3_pair 8 = .ok (.getfield 21, 3) := by decide +kernel
theorem dX3_pair_11 : decode cX3_pair 11 = .ok (.iload 4, 2) := by decide +kernel
theorem dX3_pair_13 : decode cX3_pair 13 = .ok (.lload_n 1, 1) := by decide +kernel
theorem dX3_pair_14 : decode cX3_pair 14 = .ok (.lastore, 1) := by decide +kernel
theorem dX3_pair_15 : decode cX3_pair 15 = .ok (.aload_n 0, 1) := by decide +kernel
theorem dX3_pair_16 : decode cX3_pair 16 = .ok (.getfield 21, 3) := by decide +kernel
theorem dX3_pair_19 : decode cX3_pair 19 = .ok (.iload 4, 2) := by decide +kernel
theorem dX3_pair_21 : decode cX3_pair 21 = .ok (.iconst 1, 1) := by decide +kernel
theorem dX3_pair_22 : decode cX3_pair 22 = .ok (.iadd, 1) := by decide +kernel
theorem dX3_pair_23 : decode cX3_pair 23 = .ok (.iload_n 3, 1) := by decide +kernel
theorem dX3_pair_24 : decode cX3_pair 24 = .ok (.i2l, 1) := by decide +kernel
theorem dX3_pair_25 : decode cX3_pair 25 = .ok (.lastore, 1) := by decide +kernel
theorem dX3_pair_26 : decode cX3_pair 26 = .ok (.iload 4, 2) := by decide +kernel
theorem dX3_pair_28 : decode cX3_pair 28 = .ok (.ireturn, 1) := by decide +kernel
theorem dX3_triple_0 : decode cX3_triple 0 = .ok (.aload_n 0, 1) := by decide +kernel
theorem dX3_triple_1 : decode cX3_triple 1 = .ok (.iconst 3, 1) := by decide +kernel
theorem dX3_triple_2 : decode cX3_triple 2 = .ok (.invokevirtual 140, 3) := by decide +kernel
theorem dX3_triple_5 : decode cX3_triple 5 = .ok (.istore 7, 2) := by decide +kernel
theorem dX3_triple_7 : decode cX3_triple 7 = .ok (.aload_n 0, 1) := by decide +kernel
theorem dX3_triple_8 : decode cX3_triple 8 = .ok (.getfield 21, 3) := by decide +kernel
theorem dX3_triple_11 : decode cX3_triple 11 = .ok (.iload 7, 2) := by decide +kernel
theorem dX3_triple_13 : decode cX3_triple 13 = .ok (.lload_n 1, 1) := by decide +kernel
theorem dX3_triple_14 : decode cX3_triple 14 = .ok (.lastore, 1) := by decide +kernel
theorem dX3_triple_15 : decode cX3_triple 15 = .ok (.aload_n 0, 1) := by decide +kernel
theorem dX3_triple_16 : decode cX3_triple 16 = .ok (.getfield 21, 3) := by decide +kernel
theorem dX3_triple_19 : decode cX3_triple 19 = .ok (.iload 7, 2) := by decide +kernel
theorem dX3_triple_21 : decode cX3_triple 21 = .ok (.iconst 1, 1) := by decide +kernel
theorem dX3_triple_22 : decode cX3_triple 22 = .ok (.iadd, 1) := by decide +kernel
theorem dX3_triple_23 : decode cX3_triple 23 = .ok (.lload_n 3, 1) := by decide +kernel
theorem dX3_triple_24 : decode cX3_triple 24 = .ok (.lastore, 1) := by decide +kernel
theorem dX3_triple_25 : decode cX3_triple 25 = .ok (.aload_n 0, 1) := by decide +kernel
theorem dX3_triple_26 : decode cX3_triple 26 = .ok (.getfield 21, 3) := by decide +kernel
theorem dX3_triple_29 : decode cX3_triple 29 = .ok (.iload 7, 2) := by decide +kernel
theorem dX3_triple_31 : decode cX3_triple 31 = .ok (.iconst 2, 1) := by decide +kernel
theorem dX3_triple_32 : decode cX3_triple 32 = .ok (.iadd, 1) := by decide +kernel
theorem dX3_triple_33 : decode cX3_triple 33 = .ok (.lload 5, 2) := by decide +kernel
theorem dX3_triple_35 : decode cX3_triple 35 = .ok (.lastore, 1) := by decide +kernel
theorem dX3_triple_36 : decode cX3_triple 36 = .ok (.iload 7, 2) := by decide +kernel
theorem dX3_triple_38 : decode cX3_triple 38 = .ok (.ireturn, 1) := by decide +kernel
theorem dX3_await_0 : decode cX3_await 0 = .ok (.aload_n 0, 1) := by decide +kernel
theorem dX3_await_1 : decode cX3_await 1 = .ok (.getfield 73, 3) := by decide +kernel
theorem dX3_await_4 : decode cX3_await 4 = .ok (.sipush 1683, 3) := by decide +kernel
theorem dX3_await_7 : decode cX3_await 7 = .ok (.if_icmp .ne 9, 3) := by decide +kernel
theorem dX3_await_10 : decode cX3_await 10 = .ok (.aload_n 0, 1) := by decide +kernel
theorem dX3_await_11 : decode cX3_await 11 = .ok (.iconst 2, 1) := by decide +kernel
theorem dX3_await_12 : decode cX3_await 12 = .ok (.putfield 60, 3) := by decide +kernel
theorem dX3_await_15 : decode cX3_await 15 = .ok (.return_, 1) := by decide +kernel
theorem dX3_await_16 : decode cX3_await 16 = .ok (.aload_n 0, 1) := by decide +kernel
theorem dX3_await_17 : decode cX3_await 17 = .ok (.getfield 26, 3) := by decide +kernel
theorem dX3_await_20 : decode cX3_await 20 = .ok (.aload_n 0, 1) := by decide +kernel
theorem dX3_await_21 : decode cX3_await 21 = .ok (.getfield 73, 3) := by decide +kernel
theorem dX3_await_24 : decode cX3_await 24 = .ok (.aload_n 1, 1) := by decide +kernel
theorem dX3_await_25 : decode cX3_await 25 = .ok (.aastore, 1) := by decide +kernel
theorem dX3_await_26 : decode cX3_await 26 = .ok (.aload_n 0, 1) := by decide +kernel
theorem dX3_await_27 : decode cX3_await 27 = .ok (.getfield 30, 3) := by decide +kernel
theorem dX3_await_30 : decode cX3_await 30 = .ok (.aload_n 0, 1) := by decide +kernel
theorem dX3_await_31 : decode cX3_await 31 = .ok (.getfield 73, 3) := by decide +kernel
theorem dX3_await_34 : decode cX3_await 34 = .ok (.iload_n 2, 1) := by decide +kernel
theorem dX3_await_35 : decode cX3_await 35 = .ok (.iastore, 1) := by decide +kernel
theorem dX3_await_36 : decode cX3_await 36 = .ok (.aload_n 0, 1) := by decide +kernel
theorem dX3_await_37 : decode cX3_await 37 = .ok (.getfield 33, 3) := by decide +kernel
theorem dX3_await_40 : decode cX3_await 40 = .ok (.aload_n 0, 1) := by decide +kernel
theorem dX3_await_41 : decode cX3_await 41 = .ok (.getfield 73, 3) := by decide +kernel
theorem dX3_await_44 : decode cX3_await 44 = .ok (.iload_n 3, 1) := by decide +kernel
theorem dX3_await_45 : decode cX3_await 45 = .ok (.iastore, 1) := by decide +kernel
theorem dX3_await_46 : decode cX3_await 46 = .ok (.aload_n 0, 1) := by decide +kernel
theorem dX3_await_47 : decode cX3_await 47 = .ok (.dup, 1) := by decide +kernel
theorem dX3_await_48 : decode cX3_await 48 = .ok (.getfield 73, 3) := by decide +kernel
theorem dX3_await_51 : decode cX3_await 51 = .ok (.iconst 1, 1) := by decide +kernel
theorem dX3_await_52 : decode cX3_await 52 = .ok (.iadd, 1) := by decide +kernel
theorem dX3_await_53 : decode cX3_await 53 = .ok (.putfield 73, 3) := by decide +kernel
theorem dX3_await_56 : decode cX3_await 56 = .ok (.return_, 1) := by decide +kernel
theorem dX3_argument_0 : decode cX3_argument 0 = .ok (.aload_n 1, 1) := by decide +kernel
theorem dX3_argument_1 : decode cX3_argument 1 = .ok (.getfield 143, 3) := by decide +kernel
theorem dX3_argument_4 : decode cX3_argument 4 = .ok (.sipush 400, 3) := by decide +kernel
theorem dX3_argument_7 : decode cX3_argument 7 = .ok (.if_icmp .ne 32, 3) := by decide +kernel
theorem dX3_argument_10 : decode cX3_argument 10 = .ok (.aload_n 1, 1) := by decide +kernel
theorem dX3_argument_11 : decode cX3_argument 11 = .ok (.getfield 209, 3) := by decide +kernel
theorem dX3_argument_14 : decode cX3_argument 14 = .ok (.iconst 1, 1) := by decide +kernel
theorem dX3_argument_15 : decode cX3_argument 15 = .ok (.if_icmp .ne 18, 3) := by decide +kernel
theorem dX3_argument_18 : decode cX3_argument 18 = .ok (.aload_n 0, 1) := by decide +kernel
theorem dX3_argument_19 : decode cX3_argument 19 = .ok (.aload_n 1, 1) := by decide +kernel
theorem dX3_argument_20 : decode cX3_argument 20 = .ok (.getfield 198, 3) := by decide +kernel
theorem dX3_argument_23 : decode cX3_argument 23 = .ok (.aload_n 1, 1) := by decide +kernel
theorem dX3_argument_24 : decode cX3_argument 24 = .ok (.getfield 202, 3) := by decide +kernel
theorem dX3_argument_27 : decode cX3_argument 27 = .ok (.invokevirtual 205, 3) := by decide +kernel
theorem dX3_argument_30 : decode cX3_argument 30 = .ok (.goto 8, 3) := by decide +kernel
theorem dX3_argument_33 : decode cX3_argument 33 = .ok (.aload_n 0, 1) := by decide +kernel
theorem dX3_argument_34 : decode cX3_argument 34 = .ok (.aload_n 1, 1) := by decide +kernel
theorem dX3_argument_35 : decode cX3_argument 35 = .ok (.invokevirtual 212, 3) := by decide +kernel
theorem dX3_argument_38 : decode cX3_argument 38 = .ok (.lreturn, 1) := by decide +kernel
theorem dX3_argument_39 : decode cX3_argument 39 = .ok (.aload_n 1, 1) := by decide +kernel
theorem dX3_argument_40 : decode cX3_argument 40 = .ok (.getfield 143, 3) := by decide +kernel
theorem dX3_argument_43 : decode cX3_argument 43 = .ok (.sipush 206, 3) := by decide +kernel
theorem dX3_argument_46 : decode cX3_argument 46 = .ok (.if_icmp .eq 19, 3) := by decide +kernel
theorem dX3_argument_49 : decode cX3_argument 49 = .ok (.aload_n 1, 1) := by decide +kernel
theorem dX3_argument_50 : decode cX3_argument 50 = .ok (.getfield 143, 3) := by decide +kernel
theorem dX3_argument_53 : decode cX3_argument 53 = .ok (.sipush 223, 3) := by decide +kernel
theorem dX3_argument_56 : decode cX3_argument 56 = .ok (.if_icmp .ne 7, 3) := by decide +kernel
theorem dX3_argument_59 : decode cX3_argument 59 = .ok (.lconst 1, 1) := by decide +kernel
theorem dX3_argument_60 : decode cX3_argument 60 = .ok (.goto 4, 3) := by decide +kernel
theorem dX3_argument_63 : decode cX3_argument 63 = .ok (.lconst 0, 1) := by decide +kernel
theorem dX3_argument_64 : decode cX3_argument 64 = .ok (.lreturn, 1) := by decide +kernel
theorem dX3_argument_65 : decode cX3_argument 65 = .ok (.aload_n 0, 1) := by decide +kernel
theorem dX3_argument_66 : decode cX3_argument 66 = .ok (.getfield 57, 3) := by decide +kernel
theorem dX3_argument_69 : decode cX3_argument 69 = .ok (.ifCond .ne 10, 3) := by decide +kernel
theorem dX3_argument_72 : decode cX3_argument 72 = .ok (.aload_n 0, 1) := by decide +kernel
theorem dX3_argument_73 : decode cX3_argument 73 = .ok (.iconst 1, 1) := by decide +kernel
theorem dX3_argument_74 : decode cX3_argument 74 = .ok (.putfield 60, 3) := by decide +kernel
theorem dX3_argument_77 : decode cX3_argument 77 = .ok (.lconst 0, 1) := by decide +kernel
theorem dX3_argument_78 : decode cX3_argument 78 = .ok (.lreturn, 1) := by decide +kernel
theorem dX3_argument_79 : decode cX3_argument 79 = .ok (.aload_n 0, 1) := by decide +kernel
theorem dX3_argument_80 : decode cX3_argument 80 = .ok (.dup, 1) := by decide +kernel
theorem dX3_argument_81 : decode cX3_argument 81 = .ok (.getfield 57, 3) := by decide +kernel
theorem dX3_argument_84 : decode cX3_argument 84 = .ok (.iconst 1, 1) := by decide +kernel
theorem dX3_argument_85 : decode cX3_argument 85 = .ok (.isub, 1) := by decide +kernel
theorem dX3_argument_86 : decode cX3_argument 86 = .ok (.putfield 57, 3) := by decide +kernel
theorem dX3_argument_89 : decode cX3_argument 89 = .ok (.aload_n 0, 1) := by decide +kernel
theorem dX3_argument_90 : decode cX3_argument 90 = .ok (.aload_n 1, 1) := by decide +kernel
theorem dX3_argument_91 : decode cX3_argument 91 = .ok (.getfield 153, 3) := by decide +kernel
theorem dX3_argument_94 : decode cX3_argument 94 = .ok (.i2l, 1) := by decide +kernel
theorem dX3_argument_95 : decode cX3_argument 95 = .ok (.aload_n 0, 1) := by decide +kernel
theorem dX3_argument_96 : decode cX3_argument 96 = .ok (.getfield 97, 3) := by decide +kernel
theorem dX3_argument_99 : decode cX3_argument 99 = .ok (.i2l, 1) := by decide +kernel
theorem dX3_argument_100 : decode cX3_argument 100 = .ok (.lconst 0, 1) := by decide +kernel
theorem dX3_argument_101 : decode cX3_argument 101 = .ok (.invokevirtual 156, 3) := by decide +kernel
theorem dX3_argument_104 : decode cX3_argument 104 = .ok (.i2l, 1) := by decide +kernel
theorem dX3_argument_105 : decode cX3_argument 105 = .ok (.lreturn, 1) := by decide +kernel
theorem dX3_apply_0 : decode cX3_apply 0 = .ok (.aload_n 0, 1) := by decide +kernel
theorem dX3_apply_1 : decode cX3_apply 1 = .ok (.getfield 36, 3) := by decide +kernel
theorem dX3_apply_4 : decode cX3_apply 4 = .ok (.getfield 215, 3) := by decide +kernel
theorem dX3_apply_7 : decode cX3_apply 7 = .ok (.aload_n 0, 1) := by decide +kernel
theorem dX3_apply_8 : decode cX3_apply 8 = .ok (.getfield 21, 3) := by decide +kernel
theorem dX3_apply_11 : decode cX3_apply 11 = .ok (.iload_n 1, 1) := by decide +kernel
theorem dX3_apply_12 : decode cX3_apply 12 = .ok (.laload, 1) := by decide +kernel
theorem dX3_apply_13 : decode cX3_apply 13 = .ok (.l2i, 1) := by decide +kernel
theorem dX3_apply_14 : decode cX3_apply 14 = .ok (.invokevirtual 113, 3) := by decide +kernel
theorem dX3_apply_17 : decode cX3_apply 17 = .ok (.checkcast 24, 3) := by decide +kernel
theorem dX3_apply_20 : decode cX3_apply 20 = .ok (.astore_n 3, 1) := by decide +kernel
theorem dX3_apply_21 : decode cX3_apply 21 = .ok (.aload_n 0, 1) := by decide +kernel
theorem dX3_apply_22 : decode cX3_apply 22 = .ok (.getfield 21, 3) := by decide +kernel
theorem dX3_apply_25 : decode cX3_apply 25 = .ok (.iload_n 1, 1) := by decide +kernel
theorem dX3_apply_26 : decode cX3_apply 26 = .ok (.iconst 1, 1) := by decide +kernel
theorem dX3_apply_27 : decode cX3_apply 27 = .ok (.iadd, 1) := by decide +kernel
theorem dX3_apply_28 : decode cX3_apply 28 = .ok (.laload, 1) := by decide +kernel
theorem dX3_apply_29 : decode cX3_apply 29 = .ok (.l2i, 1) := by decide +kernel
theorem dX3_apply_30 : decode cX3_apply 30 = .ok (.istore 4, 2) := by decide +kernel
theorem dX3_apply_32 : decode cX3_apply 32 = .ok (.aload_n 0, 1) := by decide +kernel
theorem dX3_apply_33 : decode cX3_apply 33 = .ok (.getfield 21, 3) := by decide +kernel
theorem dX3_apply_36 : decode cX3_apply 36 = .ok (.iload_n 1, 1) := by decide +kernel
theorem dX3_apply_37 : decode cX3_apply 37 = .ok (.iconst 2, 1) := by decide +kernel
theorem dX3_apply_38 : decode cX3_apply 38 = .ok (.iadd, 1) := by decide +kernel
theorem dX3_apply_39 : decode cX3_apply 39 = .ok (.laload, 1) := by decide +kernel
theorem dX3_apply_40 : decode cX3_apply 40 = .ok (.l2i, 1) := by decide +kernel
theorem dX3_apply_41 : decode cX3_apply 41 = .ok (.istore 5, 2) := by decide +kernel
theorem dX3_apply_43 : decode cX3_apply 43 = .ok (.iload_n 2, 1) := by decide +kernel
theorem dX3_apply_44 : decode cX3_apply 44 = .ok (.istore 6, 2) := by decide +kernel
theorem dX3_apply_46 : decode cX3_apply 46 = .ok (.iload 5, 2) := by decide +kernel
theorem dX3_apply_48 : decode cX3_apply 48 = .ok (.aload_n 3, 1) := by decide +kernel
theorem dX3_apply_49 : decode cX3_apply 49 = .ok (.getfield 218, 3) := by decide +kernel
theorem dX3_apply_52 : decode cX3_apply 52 = .ok (.invokevirtual 191, 3) := by decide +kernel
theorem dX3_apply_55 : decode cX3_apply 55 = .ok (.if_icmp .ge 41, 3) := by decide +kernel
theorem dX3_apply_58 : decode cX3_apply 58 = .ok (.iload 6, 2) := by decide +kernel
theorem dX3_apply_60 : decode cX3_apply 60 = .ok (.ifCond .eq 36, 3) := by decide +kernel
theorem dX3_apply_63 : decode cX3_apply 63 = .ok (.aload_n 0, 1) := by decide +kernel
theorem dX3_apply_64 : decode cX3_apply 64 = .ok (.aload_n 0, 1) := by decide +kernel
theorem dX3_apply_65 : decode cX3_apply 65 = .ok (.getfield 21, 3) := by decide +kernel
theorem dX3_apply_68 : decode cX3_apply 68 = .ok (.iload 6, 2) := by decide +kernel
theorem dX3_apply_70 : decode cX3_apply 70 = .ok (.laload, 1) := by decide +kernel
theorem dX3_apply_71 : decode cX3_apply 71 = .ok (.iload 4, 2) := by decide +kernel
theorem dX3_apply_73 : decode cX3_apply 73 = .ok (.invokevirtual 128, 3) := by decide +kernel
theorem dX3_apply_76 : decode cX3_apply 76 = .ok (.istore 4, 2) := by decide +kernel
theorem dX3_apply_78 : decode cX3_apply 78 = .ok (.aload_n 0, 1) := by decide +kernel
theorem dX3_apply_79 : decode cX3_apply 79 = .ok (.getfield 21, 3) := by decide +kernel
theorem dX3_apply_82 : decode cX3_apply 82 = .ok (.iload 6, 2) := by decide +kernel
theorem dX3_apply_84 : decode cX3_apply 84 = .ok (.iconst 1, 1) := by decide +kernel
theorem dX3_apply_85 : decode cX3_apply 85 = .ok (.iadd, 1) := by decide +kernel
theorem dX3_apply_86 : decode cX3_apply 86 = .ok (.laload, 1) := by decide +kernel
theorem dX3_apply_87 : decode cX3_apply 87 = .ok (.l2i, 1) := by decide +kernel
theorem dX3_apply_88 : decode cX3_apply 88 = .ok (.istore 6, 2) := by decide +kernel
theorem dX3_apply_90 : decode cX3_apply 90 = .ok (.iinc 5 1, 3) := by decide +kernel
theorem dX3_apply_93 : decode cX3_apply 93 = .ok (.goto (-47), 3) := by decide +kernel
theorem dX3_apply_96 : decode cX3_apply 96 = .ok (.iload 5, 2) := by decide +kernel
theorem dX3_apply_98 : decode cX3_apply 98 = .ok (.aload_n 3, 1) := by decide +kernel
theorem dX3_apply_99 : decode cX3_apply 99 = .ok (.getfield 218, 3) := by decide +kernel
theorem dX3_apply_102 : decode cX3_apply 102 = .ok (.invokevirtual 191, 3) := by decide +kernel
theorem dX3_apply_105 : decode cX3_apply 105 = .ok (.if_icmp .ge 25, 3) := by decide +kernel
theorem dX3_apply_108 : decode cX3_apply 108 = .ok (.aload_n 0, 1) := by decide +kernel
theorem dX3_apply_109 : decode cX3_apply 109 = .ok (.aload_n 0, 1) := by decide +kernel
theorem dX3_apply_110 : decode cX3_apply 110 = .ok (.aload_n 3, 1) := by decide +kernel
theorem dX3_apply_111 : decode cX3_apply 111 = .ok (.getfield 153, 3) := by decide +kernel
theorem dX3_apply_114 : decode cX3_apply 114 = .ok (.i2l, 1) := by decide +kernel
theorem dX3_apply_115 : decode cX3_apply 115 = .ok (.iload 4, 2) := by decide +kernel
theorem dX3_apply_117 : decode cX3_apply 117 = .ok (.i2l, 1) := by decide +kernel
theorem dX3_apply_118 : decode cX3_apply 118 = .ok (.iload 5, 2) := by decide +kernel
theorem dX3_apply_120 : decode cX3_apply 120 = .ok (.i2l, 1) := by decide +kernel
theorem dX3_apply_121 : decode cX3_apply 121 = .ok (.invokevirtual 156, 3) := by decide +kernel
theorem dX3_apply_124 : decode cX3_apply 124 = .ok (.i2l, 1) := by decide +kernel
theorem dX3_apply_125 : decode cX3_apply 125 = .ok (.putfield 87, 3) := by decide +kernel
theorem dX3_apply_128 : decode cX3_apply 128 = .ok (.aconst_null, 1) := by decide +kernel
theorem dX3_apply_129 : decode cX3_apply 129 = .ok (.areturn, 1) := by decide +kernel
theorem dX3_apply_130 : decode cX3_apply 130 = .ok (.aload_n 0, 1) := by decide +kernel
theorem dX3_apply_131 : decode cX3_apply 131 = .ok (.getfield 100, 3) := by decide +kernel
theorem dX3_apply_134 : decode cX3_apply 134 = .ok (.bipush 50, 2) := by decide +kernel
theorem dX3_apply_136 : decode cX3_apply 136 = .ok (.if_icmp .ne 10, 3) := by decide +kernel
theorem dX3_apply_139 : decode cX3_apply 139 = .ok (.aload_n 0, 1) := by decide +kernel
theorem dX3_apply_140 : decode cX3_apply 140 = .ok (.iconst 2, 1) := by decide +kernel
theorem dX3_apply_141 : decode cX3_apply 141 = .ok (.putfield 60, 3) := by decide +kernel
theorem dX3_apply_144 : decode cX3_apply 144 = .ok (.aconst_null, 1) := by decide +kernel
theorem dX3_apply_145 : decode cX3_apply 145 = .ok (.areturn, 1) := by decide +kernel
theorem dX3_apply_146 : decode cX3_apply 146 = .ok (.aload_n 0, 1) := by decide +kernel
theorem dX3_apply_147 : decode cX3_apply 147 = .ok (.dup, 1) := by decide +kernel
theorem dX3_apply_148 : decode cX3_apply 148 = .ok (.getfield 100, 3) := by decide +kernel
theorem dX3_apply_151 : decode cX3_apply 151 = .ok (.iconst 1, 1) := by decide +kernel
theorem dX3_apply_152 : decode cX3_apply 152 = .ok (.iadd, 1) := by decide +kernel
theorem dX3_apply_153 : decode cX3_apply 153 = .ok (.putfield 100, 3) := by decide +kernel
theorem dX3_apply_156 : decode cX3_apply 156 = .ok (.aload_n 0, 1) := by decide +kernel
theorem dX3_apply_157 : decode cX3_apply 157 = .ok (.aconst_null, 1) := by decide +kernel
theorem dX3_apply_158 : decode cX3_apply 158 = .ok (.iconst 0, 1) := by decide +kernel
theorem dX3_apply_159 : decode cX3_apply 159 = .ok (.iload 6, 2) := by decide +kernel
theorem dX3_apply_161 : decode cX3_apply 161 = .ok (.invokevirtual 146, 3) := by decide +kernel
theorem dX3_apply_164 : decode cX3_apply 164 = .ok (.aload_n 0, 1) := by decide +kernel
theorem dX3_apply_165 : decode cX3_apply 165 = .ok (.iload 4, 2) := by decide +kernel
theorem dX3_apply_167 : decode cX3_apply 167 = .ok (.putfield 97, 3) := by decide +kernel
theorem dX3_apply_170 : decode cX3_apply 170 = .ok (.aload_n 3, 1) := by decide +kernel
theorem dX3_apply_171 : decode cX3_apply 171 = .ok (.getfield 150, 3) := by decide +kernel
theorem dX3_apply_174 : decode cX3_apply 174 = .ok (.areturn, 1) := by decide +kernel
theorem dX3_change_0 : decode cX3_change 0 = .ok (.aload_n 0, 1) := by decide +kernel
theorem dX3_change_1 : decode cX3_change 1 = .ok (.aload_n 1, 1) := by decide +kernel
theorem dX3_change_2 : decode cX3_change 2 = .ok (.invokevirtual 221, 3) := by decide +kernel
theorem dX3_change_5 : decode cX3_change 5 = .ok (.istore_n 2, 1) := by decide +kernel
theorem dX3_change_6 : decode cX3_change 6 = .ok (.aload_n 0, 1) := by decide +kernel
theorem dX3_change_7 : decode cX3_change 7 = .ok (.getfield 60, 3) := by decide +kernel
theorem dX3_change_10 : decode cX3_change 10 = .ok (.ifCond .ne 14, 3) := by decide +kernel
theorem dX3_change_13 : decode cX3_change 13 = .ok (.aload_n 0, 1) := by decide +kernel
theorem dX3_change_14 : decode cX3_change 14 = .ok (.aload_n 1, 1) := by decide +kernel
theorem dX3_change_15 : decode cX3_change 15 = .ok (.getfield 225, 3) := by decide +kernel
theorem dX3_change_18 : decode cX3_change 18 = .ok (.invokevirtual 212, 3) := by decide +kernel
theorem dX3_change_21 : decode cX3_change 21 = .ok (.goto 4, 3) := by decide +kernel
theorem dX3_change_24 : decode cX3_change 24 = .ok (.lconst 0, 1) := by decide +kernel
theorem dX3_change_25 : decode cX3_change 25 = .ok (.lstore_n 3, 1) := by decide +kernel
theorem dX3_change_26 : decode cX3_change 26 = .ok (.aload_n 0, 1) := by decide +kernel
theorem dX3_change_27 : decode cX3_change 27 = .ok (.getfield 60, 3) := by decide +kernel
theorem dX3_change_30 : decode cX3_change 30 = .ok (.ifCond .ne 10, 3) := by decide +kernel
theorem dX3_change_33 : decode cX3_change 33 = .ok (.aload_n 0, 1) := by decide +kernel
theorem dX3_change_34 : decode cX3_change 34 = .ok (.getfield 21, 3) := by decide +kernel
theorem dX3_change_37 : decode cX3_change 37 = .ok (.iload_n 2, 1) := by decide +kernel
theorem dX3_change_38 : decode cX3_change 38 = .ok (.lload_n 3, 1) := by decide +kernel
theorem dX3_change_39 : decode cX3_change 39 = .ok (.lastore, 1) := by decide +kernel
theorem dX3_change_40 : decode cX3_change 40 = .ok (.return_, 1) := by decide +kernel
theorem dX3_elementOf_0 : decode cX3_elementOf 0 = .ok (.aload_n 0, 1) := by decide +kernel
theorem dX3_elementOf_1 : decode cX3_elementOf 1 = .ok (.aload_n 1, 1) := by decide +kernel
theorem dX3_elementOf_2 : decode cX3_elementOf 2 = .ok (.getfield 198, 3) := by decide +kernel
theorem dX3_elementOf_5 : decode cX3_elementOf 5 = .ok (.aload_n 1, 1) := by decide +kernel
theorem dX3_elementOf_6 : decode cX3_elementOf 6 = .ok (.getfield 202, 3) := by decide +kernel
theorem dX3_elementOf_9 : decode cX3_elementOf 9 = .ok (.invokevirtual 205, 3) := by decide +kernel
theorem dX3_elementOf_12 : decode cX3_elementOf 12 = .ok (.l2i, 1) := by decide +kernel
theorem dX3_elementOf_13 : decode cX3_elementOf 13 = .ok (.istore_n 2, 1) := by decide +kernel
theorem dX3_elementOf_14 : decode cX3_elementOf 14 = .ok (.aload_n 0, 1) := by decide +kernel
theorem dX3_elementOf_15 : decode cX3_elementOf 15 = .ok (.aload_n 1, 1) := by decide +kernel
theorem dX3_elementOf_16 : decode cX3_elementOf 16 = .ok (.getfield 228, 3) := by decide +kernel
theorem dX3_elementOf_19 : decode cX3_elementOf 19 = .ok (.invokevirtual 212, 3) := by decide +kernel
theorem dX3_elementOf_22 : decode cX3_elementOf 22 = .ok (.lstore_n 3, 1) := by decide +kernel
theorem dX3_elementOf_23 : decode cX3_elementOf 23 = .ok (.aload_n 0, 1) := by decide +kernel
theorem dX3_elementOf_24 : decode cX3_elementOf 24 = .ok (.getfield 60, 3) := by decide +kernel
theorem dX3_elementOf_27 : decode cX3_elementOf 27 = .ok (.ifCond .ne 25, 3) := by decide +kernel
theorem dX3_elementOf_30 : decode cX3_elementOf 30 = .ok (.lload_n 3, 1) := by decide +kernel
theorem dX3_elementOf_31 : decode cX3_elementOf 31 = .ok (.lconst 0, 1) := by decide +kernel
theorem dX3_elementOf_32 : decode cX3_elementOf 32 = .ok (.lcmp, 1) := by decide +kernel
theorem dX3_elementOf_33 : decode cX3_elementOf 33 = .ok (.ifCond .lt 14, 3) := by decide +kernel
theorem dX3_elementOf_36 : decode cX3_elementOf 36 = .ok (.lload_n 3, 1) := by decide +kernel
theorem dX3_elementOf_37 : decode cX3_elementOf 37 = .ok (.aload_n 0, 1) := by decide +kernel
theorem dX3_elementOf_38 : decode cX3_elementOf 38 = .ok (.getfield 21, 3) := by decide +kernel
theorem dX3_elementOf_41 : decode cX3_elementOf 41 = .ok (.iload_n 2, 1) := by decide +kernel
theorem dX3_elementOf_42 : decode cX3_elementOf 42 = .ok (.laload, 1) := by decide +kernel
theorem dX3_elementOf_43 : decode cX3_elementOf 43 = .ok (.lcmp, 1) := by decide +kernel
theorem dX3_elementOf_44 : decode cX3_elementOf 44 = .ok (.ifCond .lt 8, 3) := by decide +kernel
theorem dX3_elementOf_47 : decode cX3_elementOf 47 = .ok (.aload_n 0, 1) := by decide +kernel
theorem dX3_elementOf_48 : decode cX3_elementOf 48 = .ok (.iconst 5, 1) := by decide +kernel
theorem dX3_elementOf_49 : decode cX3_elementOf 49 = .ok (.putfield 60, 3) := by decide +kernel
theorem dX3_elementOf_52 : decode cX3_elementOf 52 = .ok (.aload_n 0, 1) := by decide +kernel
theorem dX3_elementOf_53 : decode cX3_elementOf 53 = .ok (.getfield 60, 3) := by decide +kernel
theorem dX3_elementOf_56 : decode cX3_elementOf 56 = .ok (.ifCond .ne 12, 3) := by decide +kernel
theorem dX3_elementOf_59 : decode cX3_elementOf 59 = .ok (.iload_n 2, 1) := by decide +kernel
theorem dX3_elementOf_60 : decode cX3_elementOf 60 = .ok (.iconst 1, 1) := by decide +kernel
theorem dX3_elementOf_61 : decode cX3_elementOf 61 = .ok (.iadd, 1) := by decide +kernel
theorem dX3_elementOf_62 : decode cX3_elementOf 62 = .ok (.lload_n 3, 1) := by decide +kernel
theorem dX3_elementOf_63 : decode cX3_elementOf 63 = .ok (.l2i, 1) := by decide +kernel
theorem dX3_elementOf_64 : decode cX3_elementOf 64 = .ok (.iadd, 1) := by decide +kernel
theorem dX3_elementOf_65 : decode cX3_elementOf 65 = .ok (.goto 4, 3) := by decide +kernel
theorem dX3_elementOf_68 : decode cX3_elementOf 68 = .ok (.iconst 0, 1) := by decide +kernel
theorem dX3_elementOf_69 : decode cX3_elementOf 69 = .ok (.ireturn, 1) := by decide +kernel
theorem dX3_match_0 : decode cX3_match 0 = .ok (.aload_n 0, 1) := by decide +kernel
theorem dX3_match_1 : decode cX3_match 1 = .ok (.aload_n 1, 1) := by decide +kernel
theorem dX3_match_2 : decode cX3_match 2 = .ok (.getfield 198, 3) := by decide +kernel
theorem dX3_match_5 : decode cX3_match 5 = .ok (.aload_n 1, 1) := by decide +kernel
theorem dX3_match_6 : decode cX3_match 6 = .ok (.getfield 202, 3) := by decide +kernel
theorem dX3_match_9 : decode cX3_match 9 = .ok (.invokevirtual 205, 3) := by decide +kernel
theorem dX3_match_12 : decode cX3_match 12 = .ok (.l2i, 1) := by decide +kernel
theorem dX3_match_13 : decode cX3_match 13 = .ok (.istore_n 2, 1) := by decide +kernel
theorem dX3_match_14 : decode cX3_match 14 = .ok (.iload_n 2, 1) := by decide +kernel
theorem dX3_match_15 : decode cX3_match 15 = .ok (.ifCond .ne 8, 3) := by decide +kernel
theorem dX3_match_18 : decode cX3_match 18 = .ok (.aload_n 1, 1) := by decide +kernel
theorem dX3_match_19 : decode cX3_match 19 = .ok (.getfield 150, 3) := by decide +kernel
theorem dX3_match_22 : decode cX3_match 22 = .ok (.areturn, 1) := by decide +kernel
theorem dX3_match_23 : decode cX3_match 23 = .ok (.aload_n 0, 1) := by decide +kernel
theorem dX3_match_24 : decode cX3_match 24 = .ok (.aload_n 0, 1) := by decide +kernel
theorem dX3_match_25 : decode cX3_match 25 = .ok (.aload_n 0, 1) := by decide +kernel
theorem dX3_match_26 : decode cX3_match 26 = .ok (.getfield 21, 3) := by decide +kernel
theorem dX3_match_29 : decode cX3_match 29 = .ok (.iload_n 2, 1) := by decide +kernel
theorem dX3_match_30 : decode cX3_match 30 = .ok (.laload, 1) := by decide +kernel
theorem dX3_match_31 : decode cX3_match 31 = .ok (.aload_n 0, 1) := by decide +kernel
theorem dX3_match_32 : decode cX3_match 32 = .ok (.getfield 97, 3) := by decide +kernel
theorem dX3_match_35 : decode cX3_match 35 = .ok (.invokevirtual 128, 3) := by decide +kernel
theorem dX3_match_38 : decode cX3_match 38 = .ok (.putfield 97, 3) := by decide +kernel
theorem dX3_match_41 : decode cX3_match 41 = .ok (.aload_n 0, 1) := by decide +kernel
theorem dX3_match_42 : decode cX3_match 42 = .ok (.aload_n 0, 1) := by decide +kernel
theorem dX3_match_43 : decode cX3_match 43 = .ok (.aload_n 0, 1) := by decide +kernel
theorem dX3_match_44 : decode cX3_match 44 = .ok (.getfield 21, 3) := by decide +kernel
theorem dX3_match_47 : decode cX3_match 47 = .ok (.iload_n 2, 1) := by decide +kernel
theorem dX3_match_48 : decode cX3_match 48 = .ok (.iconst 1, 1) := by decide +kernel
theorem dX3_match_49 : decode cX3_match 49 = .ok (.iadd, 1) := by decide +kernel
theorem dX3_match_50 : decode cX3_match 50 = .ok (.laload, 1) := by decide +kernel
theorem dX3_match_51 : decode cX3_match 51 = .ok (.aload_n 0, 1) := by decide +kernel
theorem dX3_match_52 : decode cX3_match 52 = .ok (.getfield 97, 3) := by decide +kernel
theorem dX3_match_55 : decode cX3_match 55 = .ok (.invokevirtual 128, 3) := by decide +kernel
theorem dX3_match_58 : decode cX3_match 58 = .ok (.putfield 97, 3) := by decide +kernel
theorem dX3_match_61 : decode cX3_match 61 = .ok (.aload_n 1, 1) := by decide +kernel
theorem dX3_match_62 : decode cX3_match 62 = .ok (.getfield 160, 3) := by decide +kernel
theorem dX3_match_65 : decode cX3_match 65 = .ok (.areturn, 1) := by decide +kernel
theorem dX3_sum_0 : decode cX3_sum 0 = .ok (.aload_n 1, 1) := by decide +kernel
theorem dX3_sum_1 : decode cX3_sum 1 = .ok (.getfield 263, 3) := by decide +kernel
theorem dX3_sum_4 : decode cX3_sum 4 = .ok (.getfield 266, 3) := by decide +kernel
theorem dX3_sum_7 : decode cX3_sum 7 = .ok (.lstore_n 2, 1) := by decide +kernel
theorem dX3_sum_8 : decode cX3_sum 8 = .ok (.iconst 0, 1) := by decide +kernel
theorem dX3_sum_9 : decode cX3_sum 9 = .ok (.istore 4, 2) := by decide +kernel
theorem dX3_sum_11 : decode cX3_sum 11 = .ok (.iload 4, 2) := by decide +kernel
theorem dX3_sum_13 : decode cX3_sum 13 = .ok (.aload_n 1, 1) := by decide +kernel
theorem dX3_sum_14 : decode cX3_sum 14 = .ok (.getfield 263, 3) := by decide +kernel
theorem dX3_sum_17 : decode cX3_sum 17 = .ok (.getfield 271, 3) := by decide +kernel
theorem dX3_sum_20 : decode cX3_sum 20 = .ok (.if_icmp .ge 55, 3) := by decide +kernel
theorem dX3_sum_23 : decode cX3_sum 23 = .ok (.aload_n 1, 1) := by decide +kernel
theorem dX3_sum_24 : decode cX3_sum 24 = .ok (.getfield 263, 3) := by decide +kernel
theorem dX3_sum_27 : decode cX3_sum 27 = .ok (.getfield 274, 3) := by decide +kernel
theorem dX3_sum_30 : decode cX3_sum 30 = .ok (.iload 4, 2) := by decide +kernel
theorem dX3_sum_32 : decode cX3_sum 32 = .ok (.aaload, 1) := by decide +kernel
theorem dX3_sum_33 : decode cX3_sum 33 = .ok (.astore 5, 2) := by decide +kernel
theorem dX3_sum_35 : decode cX3_sum 35 = .ok (.lload_n 2, 1) := by decide +kernel
theorem dX3_sum_36 : decode cX3_sum 36 = .ok (.aload_n 1, 1) := by decide +kernel
theorem dX3_sum_37 : decode cX3_sum 37 = .ok (.getfield 263, 3) := by decide +kernel
theorem dX3_sum_40 : decode cX3_sum 40 = .ok (.getfield 277, 3) := by decide +kernel
theorem dX3_sum_43 : decode cX3_sum 43 = .ok (.iload 4, 2) := by decide +kernel
theorem dX3_sum_45 : decode cX3_sum 45 = .ok (.iaload, 1) := by decide +kernel
theorem dX3_sum_46 : decode cX3_sum 46 = .ok (.i2l, 1) := by decide +kernel
theorem dX3_sum_47 : decode cX3_sum 47 = .ok (.aload_n 0, 1) := by decide +kernel
theorem dX3_sum_48 : decode cX3_sum 48 = .ok (.aload_n 0, 1) := by decide +kernel
theorem dX3_sum_49 : decode cX3_sum 49 = .ok (.aload 5, 2) := by decide +kernel
theorem dX3_sum_51 : decode cX3_sum 51 = .ok (.aload_n 1, 1) := by decide +kernel
theorem dX3_sum_52 : decode cX3_sum 52 = .ok (.getfield 202, 3) := by decide +kernel
theorem dX3_sum_55 : decode cX3_sum 55 = .ok (.invokevirtual 205, 3) := by decide +kernel
theorem dX3_sum_58 : decode cX3_sum 58 = .ok (.aload 5, 2) := by decide +kernel
theorem dX3_sum_60 : decode cX3_sum 60 = .ok (.getfield 121, 3) := by decide +kernel
theorem dX3_sum_63 : decode cX3_sum 63 = .ok (.invokevirtual 90, 3) := by decide +kernel
theorem dX3_sum_66 : decode cX3_sum 66 = .ok (.lmul, 1) := by decide +kernel
theorem dX3_sum_67 : decode cX3_sum 67 = .ok (.ladd, 1) := by decide +kernel
theorem dX3_sum_68 : decode cX3_sum 68 = .ok (.lstore_n 2, 1) := by decide +kernel
theorem dX3_sum_69 : decode cX3_sum 69 = .ok (.iinc 4 1, 3) := by decide +kernel
theorem dX3_sum_72 : decode cX3_sum 72 = .ok (.goto (-61), 3) := by decide +kernel
theorem dX3_sum_75 : decode cX3_sum 75 = .ok (.lload_n 2, 1) := by decide +kernel
theorem dX3_sum_76 : decode cX3_sum 76 = .ok (.invokestatic 249, 3) := by decide +kernel
theorem dX3_sum_79 : decode cX3_sum 79 = .ok (.ldc2_w 254, 3) := by decide +kernel
theorem dX3_sum_82 : decode cX3_sum 82 = .ok (.lcmp, 1) := by decide +kernel
theorem dX3_sum_83 : decode cX3_sum 83 = .ok (.ifCond .le 15, 3) := by decide +kernel
theorem dX3_sum_86 : decode cX3_sum 86 = .ok (.aload_n 0, 1) := by decide +kernel
theorem dX3_sum_87 : decode cX3_sum 87 = .ok (.getfield 60, 3) := by decide +kernel
theorem dX3_sum_90 : decode cX3_sum 90 = .ok (.ifCond .ne 8, 3) := by decide +kernel
theorem dX3_sum_93 : decode cX3_sum 93 = .ok (.aload_n 0, 1) := by decide +kernel
theorem dX3_sum_94 : decode cX3_sum 94 = .ok (.iconst 2, 1) := by decide +kernel
theorem dX3_sum_95 : decode cX3_sum 95 = .ok (.putfield 60, 3) := by decide +kernel
theorem dX3_sum_98 : decode cX3_sum 98 = .ok (.lload_n 2, 1) := by decide +kernel
theorem dX3_sum_99 : decode cX3_sum 99 = .ok (.lreturn, 1) := by decide +kernel
theorem dX3_measure_0 : decode cX3_measure 0 = .ok (.lload_n 1, 1) := by decide +kernel
theorem dX3_measure_1 : decode cX3_measure 1 = .ok (.l2i, 1) := by decide +kernel
theorem dX3_measure_2 : decode cX3_measure 2 = .ok (.istore 4, 2) := by decide +kernel
theorem dX3_measure_4 : decode cX3_measure 4 = .ok (.iload_n 3, 1) := by decide +kernel
theorem dX3_measure_5 : decode cX3_measure 5 = .ok (.lookupswitch 64 #[(200, 35), (206, 62), (213, 43)], 35) := by decide +kernel
theorem dX3_measure_40 : decode cX3_measure 40 = .ok (.aload_n 0, 1) := by decide +kernel
theorem dX3_measure_41 : decode cX3_measure 41 = .ok (.getfield 21, 3) := by decide +kernel
theorem dX3_measure_44 : decode cX3_measure 44 = .ok (.iload 4, 2) := by decide +kernel
theorem dX3_measure_46 : decode cX3_measure 46 = .ok (.laload, 1) := by decide +kernel
theorem dX3_measure_47 : decode cX3_measure 47 = .ok (.lreturn, 1) := by decide +kernel
theorem dX3_measure_48 : decode cX3_measure 48 = .ok (.iload 4, 2) := by decide +kernel
theorem dX3_measure_50 : decode cX3_measure 50 = .ok (.ifCond .ne 7, 3) := by decide +kernel
theorem dX3_measure_53 : decode cX3_measure 53 = .ok (.lconst 0, 1) := by decide +kernel
theorem dX3_measure_54 : decode cX3_measure 54 = .ok (.goto 12, 3) := by decide +kernel
theorem dX3_measure_57 : decode cX3_measure 57 = .ok (.aload_n 0, 1) := by decide +kernel
theorem dX3_measure_58 : decode cX3_measure 58 = .ok (.getfield 21, 3) := by decide +kernel
theorem dX3_measure_61 : decode cX3_measure 61 = .ok (.iload 4, 2) := by decide +kernel
theorem dX3_measure_63 : decode cX3_measure 63 = .ok (.iconst 2, 1) := by decide +kernel
theorem dX3_measure_64 : decode cX3_measure 64 = .ok (.iadd, 1) := by decide +kernel
theorem dX3_measure_65 : decode cX3_measure 65 = .ok (.laload, 1) := by decide +kernel
theorem dX3_measure_66 : decode cX3_measure 66 = .ok (.lreturn, 1) := by decide +kernel
theorem dX3_measure_67 : decode cX3_measure 67 = .ok (.lconst 0, 1) := by decide +kernel
theorem dX3_measure_68 : decode cX3_measure 68 = .ok (.lreturn, 1) := by decide +kernel
theorem dX3_measure_69 : decode cX3_measure 69 = .ok (.lload_n 1, 1) := by decide +kernel
theorem dX3_measure_70 : decode cX3_measure 70 = .ok (.lreturn, 1) := by decide +kernel
theorem dX3_valueOf_0 : decode cX3_valueOf 0 = .ok (.aload_n 0, 1) := by decide +kernel
theorem dX3_valueOf_1 : decode cX3_valueOf 1 = .ok (.getfield 97, 3) := by decide +kernel
theorem dX3_valueOf_4 : decode cX3_valueOf 4 = .ok (.istore_n 3, 1) := by decide +kernel
theorem dX3_valueOf_5 : decode cX3_valueOf 5 = .ok (.aload_n 1, 1) := by decide +kernel
theorem dX3_valueOf_6 : decode cX3_valueOf 6 = .ok (.getfield 280, 3) := by decide +kernel
theorem dX3_valueOf_9 : decode cX3_valueOf 9 = .ok (.iconst 1, 1) := by decide +kernel
theorem dX3_valueOf_10 : decode cX3_valueOf 10 = .ok (.iadd, 1) := by decide +kernel
theorem dX3_valueOf_11 : decode cX3_valueOf 11 = .ok (.istore 4, 2) := by decide +kernel
theorem dX3_valueOf_13 : decode cX3_valueOf 13 = .ok (.iload 4, 2) := by decide +kernel
theorem dX3_valueOf_15 : decode cX3_valueOf 15 = .ok (.iload_n 2, 1) := by decide +kernel
theorem dX3_valueOf_16 : decode cX3_valueOf 16 = .ok (.if_icmp .ge 19, 3) := by decide +kernel
theorem dX3_valueOf_19 : decode cX3_valueOf 19 = .ok (.aload_n 0, 1) := by decide +kernel
theorem dX3_valueOf_20 : decode cX3_valueOf 20 = .ok (.getfield 21, 3) := by decide +kernel
theorem dX3_valueOf_23 : decode cX3_valueOf 23 = .ok (.iload_n 3, 1) := by decide +kernel
theorem dX3_valueOf_24 : decode cX3_valueOf 24 = .ok (.iconst 1, 1) := by decide +kernel
theorem dX3_valueOf_25 : decode cX3_valueOf 25 = .ok (.iadd, 1) := by decide +kernel
theorem dX3_valueOf_26 : decode cX3_valueOf 26 = .ok (.laload, 1) := by decide +kernel
theorem dX3_valueOf_27 : decode cX3_valueOf 27 = .ok (.l2i, 1) := by decide +kernel
theorem dX3_valueOf_28 : decode cX3_valueOf 28 = .ok (.istore_n 3, 1) := by decide +kernel
theorem dX3_valueOf_29 : decode cX3_valueOf 29 = .ok (.iinc 4 1, 3) := by decide +kernel
theorem dX3_valueOf_32 : decode cX3_valueOf 32 = .ok (.goto (-19), 3) := by decide +kernel
theorem dX3_valueOf_35 : decode cX3_valueOf 35 = .ok (.aload_n 0, 1) := by decide +kernel
theorem dX3_valueOf_36 : decode cX3_valueOf 36 = .ok (.getfield 21, 3) := by decide +kernel
theorem dX3_valueOf_39 : decode cX3_valueOf 39 = .ok (.iload_n 3, 1) := by decide +kernel
theorem dX3_valueOf_40 : decode cX3_valueOf 40 = .ok (.laload, 1) := by decide +kernel
theorem dX3_valueOf_41 : decode cX3_valueOf 41 = .ok (.lreturn, 1) := by decide +kernel
theorem dX3_holds_0 : decode cX3_holds 0 = .ok (.aload_n 1, 1) := by decide +kernel
theorem dX3_holds_1 : decode cX3_holds 1 = .ok (.getfield 143, 3) := by decide +kernel
theorem dX3_holds_4 : decode cX3_holds 4 = .ok (.lookupswitch 186 #[(217, 52), (302, 69), (303, 69), (402, 142), (403, 165)], 52) := by decide +kernel
theorem dX3_holds_56 : decode cX3_holds 56 = .ok (.aload_n 0, 1) := by decide +kernel
theorem dX3_holds_57 : decode cX3_holds 57 = .ok (.aload_n 1, 1) := by decide +kernel
theorem dX3_holds_58 : decode cX3_holds 58 = .ok (.getfield 150, 3) := by decide +kernel
theorem dX3_holds_61 : decode cX3_holds 61 = .ok (.invokevirtual 166, 3) := by decide +kernel
theorem dX3_holds_64 : decode cX3_holds 64 = .ok (.ifCond .ne 7, 3) := by decide +kernel
theorem dX3_holds_67 : decode cX3_holds 67 = .ok (.iconst 1, 1) := by decide +kernel
theorem dX3_holds_68 : decode cX3_holds 68 = .ok (.goto 4, 3) := by decide +kernel
theorem dX3_holds_71 : decode cX3_holds 71 = .ok (.iconst 0, 1) := by decide +kernel
theorem dX3_holds_72 : decode cX3_holds 72 = .ok (.ireturn, 1) := by decide +kernel
theorem dX3_holds_73 : decode cX3_holds 73 = .ok (.aload_n 1, 1) := by decide +kernel
theorem dX3_holds_74 : decode cX3_holds 74 = .ok (.getfield 143, 3) := by decide +kernel
theorem dX3_holds_77 : decode cX3_holds 77 = .ok (.sipush 302, 3) := by decide +kernel
theorem dX3_holds_80 : decode cX3_holds 80 = .ok (.if_icmp .ne 7, 3) := by decide +kernel
theorem dX3_holds_83 : decode cX3_holds 83 = .ok (.iconst 1, 1) := by decide +kernel
theorem dX3_holds_84 : decode cX3_holds 84 = .ok (.goto 4, 3) := by decide +kernel
theorem dX3_holds_87 : decode cX3_holds 87 = .ok (.iconst 0, 1) := by decide +kernel
theorem dX3_holds_88 : decode cX3_holds 88 = .ok (.istore_n 2, 1) := by decide +kernel
theorem dX3_holds_89 : decode cX3_holds 89 = .ok (.iconst 0, 1) := by decide +kernel
theorem dX3_holds_90 : decode cX3_holds 90 = .ok (.istore_n 3, 1) := by decide +kernel
theorem dX3_holds_91 : decode cX3_holds 91 = .ok (.iload_n 3, 1) := by decide +kernel
theorem dX3_holds_92 : decode cX3_holds 92 = .ok (.aload_n 1, 1) := by decide +kernel
theorem dX3_holds_93 : decode cX3_holds 93 = .ok (.getfield 188, 3) := by decide +kernel
theorem dX3_holds_96 : decode cX3_holds 96 = .ok (.invokevirtual 191, 3) := by decide +kernel
theorem dX3_holds_99 : decode cX3_holds 99 = .ok (.if_icmp .ge 45, 3) := by decide +kernel
theorem dX3_holds_102 : decode cX3_holds 102 = .ok (.aload_n 0, 1) := by decide +kernel
theorem dX3_holds_103 : decode cX3_holds 103 = .ok (.getfield 60, 3) := by decide +kernel
theorem dX3_holds_106 : decode cX3_holds 106 = .ok (.ifCond .ne 38, 3) := by decide +kernel
theorem dX3_holds_109 : decode cX3_holds 109 = .ok (.aload_n 0, 1) := by decide +kernel
theorem dX3_holds_110 : decode cX3_holds 110 = .ok (.aload_n 1, 1) := by decide +kernel
theorem dX3_holds_111 : decode cX3_holds 111 = .ok (.getfield 188, 3) := by decide +kernel
theorem dX3_holds_114 : decode cX3_holds 114 = .ok (.iload_n 3, 1) := by decide +kernel
theorem dX3_holds_115 : decode cX3_holds 115 = .ok (.invokevirtual 113, 3) := by decide +kernel
theorem dX3_holds_118 : decode cX3_holds 118 = .ok (.checkcast 24, 3) := by decide +kernel
theorem dX3_holds_121 : decode cX3_holds 121 = .ok (.invokevirtual 166, 3) := by decide +kernel
theorem dX3_holds_124 : decode cX3_holds 124 = .ok (.iload_n 2, 1) := by decide +kernel
theorem dX3_holds_125 : decode cX3_holds 125 = .ok (.if_icmp .eq 13, 3) := by decide +kernel
theorem dX3_holds_128 : decode cX3_holds 128 = .ok (.iload_n 2, 1) := by decide +kernel
theorem dX3_holds_129 : decode cX3_holds 129 = .ok (.ifCond .ne 7, 3) := by decide +kernel
theorem dX3_holds_132 : decode cX3_holds 132 = .ok (.iconst 1, 1) := by decide +kernel
theorem dX3_holds_133 : decode cX3_holds 133 = .ok (.goto 4, 3) := by decide +kernel
theorem dX3_holds_136 : decode cX3_holds 136 = .ok (.iconst 0, 1) := by decide +kernel
theorem dX3_holds_137 : decode cX3_holds 137 = .ok (.ireturn, 1) := by decide +kernel
theorem dX3_holds_138 : decode cX3_holds 138 = .ok (.iinc 3 1, 3) := by decide +kernel
theorem dX3_holds_141 : decode cX3_holds 141 = .ok (.goto (-50), 3) := by decide +kernel
theorem dX3_holds_144 : decode cX3_holds 144 = .ok (.iload_n 2, 1) := by decide +kernel
theorem dX3_holds_145 : decode cX3_holds 145 = .ok (.ireturn, 1) := by decide +kernel
theorem dX3_holds_146 : decode cX3_holds 146 = .ok (.aload_n 0, 1) := by decide +kernel
theorem dX3_holds_147 : decode cX3_holds 147 = .ok (.aload_n 1, 1) := by decide +kernel
theorem dX3_holds_148 : decode cX3_holds 148 = .ok (.getfield 198, 3) := by decide +kernel
theorem dX3_holds_151 : decode cX3_holds 151 = .ok (.aload_n 1, 1) := by decide +kernel
theorem dX3_holds_152 : decode cX3_holds 152 = .ok (.getfield 202, 3) := by decide +kernel
theorem dX3_holds_155 : decode cX3_holds 155 = .ok (.invokevirtual 205, 3) := by decide +kernel
theorem dX3_holds_158 : decode cX3_holds 158 = .ok (.lconst 0, 1) := by decide +kernel
theorem dX3_holds_159 : decode cX3_holds 159 = .ok (.lcmp, 1) := by decide +kernel
theorem dX3_holds_160 : decode cX3_holds 160 = .ok (.ifCond .eq 7, 3) := by decide +kernel
theorem dX3_holds_163 : decode cX3_holds 163 = .ok (.iconst 1, 1) := by decide +kernel
theorem dX3_holds_164 : decode cX3_holds 164 = .ok (.goto 4, 3) := by decide +kernel
theorem dX3_holds_167 : decode cX3_holds 167 = .ok (.iconst 0, 1) := by decide +kernel
theorem dX3_holds_168 : decode cX3_holds 168 = .ok (.ireturn, 1) := by decide +kernel
theorem dX3_holds_169 : decode cX3_holds 169 = .ok (.aload_n 0, 1) := by decide +kernel
theorem dX3_holds_170 : decode cX3_holds 170 = .ok (.aload_n 0, 1) := by decide +kernel
theorem dX3_holds_171 : decode cX3_holds 171 = .ok (.aload_n 1, 1) := by decide +kernel
theorem dX3_holds_172 : decode cX3_holds 172 = .ok (.getfield 228, 3) := by decide +kernel
theorem dX3_holds_175 : decode cX3_holds 175 = .ok (.invokevirtual 212, 3) := by decide +kernel
theorem dX3_holds_178 : decode cX3_holds 178 = .ok (.aload_n 1, 1) := by decide +kernel
theorem dX3_holds_179 : decode cX3_holds 179 = .ok (.getfield 283, 3) := by decide +kernel
theorem dX3_holds_182 : decode cX3_holds 182 = .ok (.aload_n 1, 1) := by decide +kernel
theorem dX3_holds_183 : decode cX3_holds 183 = .ok (.getfield 225, 3) := by decide +kernel
theorem dX3_holds_186 : decode cX3_holds 186 = .ok (.invokevirtual 286, 3) := by decide +kernel
theorem dX3_holds_189 : decode cX3_holds 189 = .ok (.ireturn, 1) := by decide +kernel
theorem dX3_holds_190 : decode cX3_holds 190 = .ok (.aload_n 1, 1) := by decide +kernel
theorem dX3_holds_191 : decode cX3_holds 191 = .ok (.getfield 143, 3) := by decide +kernel
theorem dX3_holds_194 : decode cX3_holds 194 = .ok (.sipush 223, 3) := by decide +kernel
theorem dX3_holds_197 : decode cX3_holds 197 = .ok (.if_icmp .ne 7, 3) := by decide +kernel
theorem dX3_holds_200 : decode cX3_holds 200 = .ok (.iconst 1, 1) := by decide +kernel
theorem dX3_holds_201 : decode cX3_holds 201 = .ok (.goto 4, 3) := by decide +kernel
theorem dX3_holds_204 : decode cX3_holds 204 = .ok (.iconst 0, 1) := by decide +kernel
theorem dX3_holds_205 : decode cX3_holds 205 = .ok (.ireturn, 1) := by decide +kernel
theorem dX3_stands_0 : decode cX3_stands 0 = .ok (.aload_n 0, 1) := by decide +kernel
theorem dX3_stands_1 : decode cX3_stands 1 = .ok (.getfield 60, 3) := by decide +kernel
theorem dX3_stands_4 : decode cX3_stands 4 = .ok (.ifCond .ne 12, 3) := by decide +kernel
theorem dX3_stands_7 : decode cX3_stands 7 = .ok (.aload_n 0, 1) := by decide +kernel
theorem dX3_stands_8 : decode cX3_stands 8 = .ok (.aload 4, 2) := by decide +kernel
theorem dX3_stands_10 : decode cX3_stands 10 = .ok (.invokevirtual 212, 3) := by decide +kernel
theorem dX3_stands_13 : decode cX3_stands 13 = .ok (.goto 4, 3) := by decide +kernel
theorem dX3_stands_16 : decode cX3_stands 16 = .ok (.lconst 0, 1) := by decide +kernel
theorem dX3_stands_17 : decode cX3_stands 17 = .ok (.lstore 5, 2) := by decide +kernel
theorem dX3_stands_19 : decode cX3_stands 19 = .ok (.iload_n 3, 1) := by decide +kernel
theorem dX3_stands_20 : decode cX3_stands 20 = .ok (.lookupswitch 96 #[(60, 44), (62, 70), (300, 57), (301, 83)], 44) := by decide +kernel
theorem dX3_stands_64 : decode cX3_stands 64 = .ok (.lload_n 1, 1) := by decide +kernel
theorem dX3_stands_65 : decode cX3_stands 65 = .ok (.lload 5, 2) := by decide +kernel
theorem dX3_stands_67 : decode cX3_stands 67 = .ok (.lcmp, 1) := by decide +kernel
theorem dX3_stands_68 : decode cX3_stands 68 = .ok (.ifCond .ge 7, 3) := by decide +kernel
theorem dX3_stands_71 : decode cX3_stands 71 = .ok (.iconst 1, 1) := by decide +kernel
theorem dX3_stands_72 : decode cX3_stands 72 = .ok (.goto 4, 3) := by decide +kernel
theorem dX3_stands_75 : decode cX3_stands 75 = .ok (.iconst 0, 1) := by decide +kernel
theorem dX3_stands_76 : decode cX3_stands 76 = .ok (.ireturn, 1) := by decide +kernel
theorem dX3_stands_77 : decode cX3_stands 77 = .ok (.lload_n 1, 1) := by decide +kernel
theorem dX3_stands_78 : decode cX3_stands 78 = .ok (.lload 5, 2) := by decide +kernel
theorem dX3_stands_80 : decode cX3_stands 80 = .ok (.lcmp, 1) := by decide +kernel
theorem dX3_stands_81 : decode cX3_stands 81 = .ok (.ifCond .gt 7, 3) := by decide +kernel
theorem dX3_stands_84 : decode cX3_stands 84 = .ok (.iconst 1, 1) := by decide +kernel
theorem dX3_stands_85 : decode cX3_stands 85 = .ok (.goto 4, 3) := by decide +kernel
theorem dX3_stands_88 : decode cX3_stands 88 = .ok (.iconst 0, 1) := by decide +kernel
theorem dX3_stands_89 : decode cX3_stands 89 = .ok (.ireturn, 1) := by decide +kernel
theorem dX3_stands_90 : decode cX3_stands 90 = .ok (.lload_n 1, 1) := by decide +kernel
theorem dX3_stands_91 : decode cX3_stands 91 = .ok (.lload 5, 2) := by decide +kernel
theorem dX3_stands_93 : decode cX3_stands 93 = .ok (.lcmp, 1) := by decide +kernel
theorem dX3_stands_94 : decode cX3_stands 94 = .ok (.ifCond .le 7, 3) := by decide +kernel
theorem dX3_stands_97 : decode cX3_stands 97 = .ok (.iconst 1, 1) := by decide +kernel
theorem dX3_stands_98 : decode cX3_stands 98 = .ok (.goto 4, 3) := by decide +kernel
theorem dX3_stands_101 : decode cX3_stands 101 = .ok (.iconst 0, 1) := by decide +kernel
theorem dX3_stands_102 : decode cX3_stands 102 = .ok (.ireturn, 1) := by decide +kernel
theorem dX3_stands_103 : decode cX3_stands 103 = .ok (.lload_n 1, 1) := by decide +kernel
theorem dX3_stands_104 : decode cX3_stands 104 = .ok (.lload 5, 2) := by decide +kernel
theorem dX3_stands_106 : decode cX3_stands 106 = .ok (.lcmp, 1) := by decide +kernel
theorem dX3_stands_107 : decode cX3_stands 107 = .ok (.ifCond .lt 7, 3) := by decide +kernel
theorem dX3_stands_110 : decode cX3_stands 110 = .ok (.iconst 1, 1) := by decide +kernel
theorem dX3_stands_111 : decode cX3_stands 111 = .ok (.goto 4, 3) := by decide +kernel
theorem dX3_stands_114 : decode cX3_stands 114 = .ok (.iconst 0, 1) := by decide +kernel
theorem dX3_stands_115 : decode cX3_stands 115 = .ok (.ireturn, 1) := by decide +kernel
theorem dX3_stands_116 : decode cX3_stands 116 = .ok (.lload_n 1, 1) := by decide +kernel
theorem dX3_stands_117 : decode cX3_stands 117 = .ok (.lload 5, 2) := by decide +kernel
theorem dX3_stands_119 : decode cX3_stands 119 = .ok (.lcmp, 1) := by decide +kernel
theorem dX3_stands_120 : decode cX3_stands 120 = .ok (.ifCond .ne 7, 3) := by decide +kernel
theorem dX3_stands_123 : decode cX3_stands 123 = .ok (.iconst 1, 1) := by decide +kernel
theorem dX3_stands_124 : decode cX3_stands 124 = .ok (.goto 4, 3) := by decide +kernel
theorem dX3_stands_127 : decode cX3_stands 127 = .ok (.iconst 0, 1) := by decide +kernel
theorem dX3_stands_128 : decode cX3_stands 128 = .ok (.iload_n 3, 1) := by decide +kernel
theorem dX3_stands_129 : decode cX3_stands 129 = .ok (.bipush 61, 2) := by decide +kernel
theorem dX3_stands_131 : decode cX3_stands 131 = .ok (.if_icmp .ne 7, 3) := by decide +kernel
theorem dX3_stands_134 : decode cX3_stands 134 = .ok (.iconst 1, 1) := by decide +kernel
theorem dX3_stands_135 : decode cX3_stands 135 = .ok (.goto 4, 3) := by decide +kernel
theorem dX3_stands_138 : decode cX3_stands 138 = .ok (.iconst 0, 1) := by decide +kernel
theorem dX3_stands_139 : decode cX3_stands 139 = .ok (.if_icmp .ne 7, 3) := by decide +kernel
theorem dX3_stands_142 : decode cX3_stands 142 = .ok (.iconst 1, 1) := by decide +kernel
theorem dX3_stands_143 : decode cX3_stands 143 = .ok (.goto 4, 3) := by decide +kernel
theorem dX3_stands_146 : decode cX3_stands 146 = .ok (.iconst 0, 1) := by decide +kernel
theorem dX3_stands_147 : decode cX3_stands 147 = .ok (.ireturn, 1) := by decide +kernel
