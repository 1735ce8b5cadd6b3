theorem dX11_init_0 : decode cX11_init 0 = .ok (.aload_n 0, 1) := by decide +kernel
theorem dX11_init_1 : decode cX11_init 1 = .ok (.invokespecial 3, 3) := by decide +kernel
theorem dX11_init_4 : decode cX11_init 4 = .ok (.aload_n 0, 1) := by decide +kernel
theorem dX11_init_5 : decode cX11_init 5 = .ok (.iconst (-1), 1) := by decide +kernel
theorem dX11_init_6 : decode cX11_init 6 = .ok (.putfield 9, 3) := by decide +kernel
theorem dX11_init_9 : decode cX11_init 9 = .ok (.aload_n 0, 1) := by decide +kernel
theorem dX11_init_10 : decode cX11_init 10 = .ok (.aload_n 1, 1) := by decide +kernel
theorem dX11_init_11 : decode cX11_init 11 = .ok (.putfield 15, 3) := by decide +kernel
theorem dX11_init_14 : decode cX11_init 14 = .ok (.aload_n 0, 1) := by decide +kernel
theorem dX11_init_15 : decode cX11_init 15 = .ok (.aload_n 1, 1) := by decide +kernel
theorem dX11_init_16 : decode cX11_init 16 = .ok (.invokevirtual 19, 3) := by decide +kernel
theorem dX11_init_19 : decode cX11_init 19 = .ok (.iconst 1, 1) := by decide +kernel
theorem dX11_init_20 : decode cX11_init 20 = .ok (.iadd, 1) := by decide +kernel
theorem dX11_init_21 : decode cX11_init 21 = .ok (.newarray .int, 2) := by decide +kernel
theorem dX11_init_23 : decode cX11_init 23 = .ok (.putfield 25, 3) := by decide +kernel
theorem dX11_init_26 : decode cX11_init 26 = .ok (.aload_n 0, 1) := by decide +kernel
theorem dX11_init_27 : decode cX11_init 27 = .ok (.aload_n 1, 1) := by decide +kernel
theorem dX11_init_28 : decode cX11_init 28 = .ok (.invokevirtual 19, 3) := by decide +kernel
theorem dX11_init_31 : decode cX11_init 31 = .ok (.iconst 1, 1) := by decide +kernel
theorem dX11_init_32 : decode cX11_init 32 = .ok (.iadd, 1) := by decide +kernel
theorem dX11_init_33 : decode cX11_init 33 = .ok (.newarray .int, 2) := by decide +kernel
theorem dX11_init_35 : decode cX11_init 35 = .ok (.putfield 29, 3) := by decide +kernel
theorem dX11_init_38 : decode cX11_init 38 = .ok (.aload_n 0, 1) := by decide +kernel
theorem dX11_init_39 : decode cX11_init 39 = .ok (.aload_n 1, 1) := by decide +kernel
theorem dX11_init_40 : decode cX11_init 40 = .ok (.invokevirtual 19, 3) := by decide +kernel
theorem dX11_init_43 : decode cX11_init 43 = .ok (.iconst 1, 1) := by decide +kernel
theorem dX11_init_44 : decode cX11_init 44 = .ok (.iadd, 1) := by decide +kernel
theorem dX11_init_45 : decode cX11_init 45 = .ok (.newarray .int, 2) := by decide +kernel
theorem dX11_init_47 : decode cX11_init 47 = .ok (.putfield 32, 3) := by decide +kernel
theorem dX11_init_50 : decode cX11_init 50 = .ok (.aload_n 0, 1) := by decide +kernel
theorem dX11_init_51 : decode cX11_init 51 = .ok (.invokevirtual 35, 3) := by decide +kernel
theorem dX11_init_54 : decode cX11_init 54 = .ok (.return_, 1) := by decide +kernel
theorem dX11_split_0 : decode cX11_split 0 = .ok (.iconst 0, 1) := by decide +kernel
theorem dX11_split_1 : decode cX11_split 1 = .ok (.istore_n 1, 1) := by decide +kernel
theorem dX11_split_2 : decode cX11_split 2 = .ok (.iload_n 1, 1) := by decide +kernel
theorem dX11_split_3 : decode cX11_split 3 = .ok (.aload_n 0, 1) := by decide +kernel
theorem dX11_split_4 : decode cX11_split 4 = .ok (.getfield 15, 3) := by decide +kernel
theorem dX11_split_7 : decode cX11_split 7 = .ok (.invokevirtual 19, 3) := by decide +kernel
theorem dX11_split_10 : decode cX11_split 10 = .ok (.if_icmp .ge 66, 3) := by decide +kernel
theorem dX11_split_76 : decode cX11_split 76 = .ok (.aload_n 0, 1) := by decide +kernel
theorem dX11_split_77 : decode cX11_split 77 = .ok (.getfield 29, 3) := by decide +kernel
theorem dX11_split_80 : decode cX11_split 80 = .ok (.aload_n 0, 1) := by decide +kernel
theorem dX11_split_81 : decode cX11_split 81 = .ok (.getfield 50, 3) := by decide +kernel
theorem dX11_split_84 : decode cX11_split 84 = .ok (.aload_n 0, 1) := by decide +kernel
theorem dX11_split_85 : decode cX11_split 85 = .ok (.getfield 15, 3) := by decide +kernel
theorem dX11_split_88 : decode cX11_split 88 = .ok (.invokevirtual 19, 3) := by decide +kernel
theorem dX11_split_91 : decode cX11_split 91 = .ok (.iastore, 1) := by decide +kernel
theorem dX11_split_92 : decode cX11_split 92 = .ok (.aload_n 0, 1) := by decide +kernel
theorem dX11_split_93 : decode cX11_split 93 = .ok (.getfield 32, 3) := by decide +kernel
theorem dX11_split_96 : decode cX11_split 96 = .ok (.aload_n 0, 1) := by decide +kernel
theorem dX11_split_97 : decode cX11_split 97 = .ok (.getfield 50, 3) := by decide +kernel
theorem dX11_split_100 : decode cX11_split 100 = .ok (.aload_n 0, 1) := by decide +kernel
theorem dX11_split_101 : decode cX11_split 101 = .ok (.getfield 15, 3) := by decide +kernel
theorem dX11_split_104 : decode cX11_split 104 = .ok (.invokevirtual 19, 3) := by decide +kernel
theorem dX11_split_107 : decode cX11_split 107 = .ok (.iastore, 1) := by decide +kernel
theorem dX11_split_108 : decode cX11_split 108 = .ok (.return_, 1) := by decide +kernel
