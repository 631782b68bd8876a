theorem dX5_init_0 : decode cX5_init 0 = .ok (.aload_n 0, 1) := by decide +kernel
theorem dX5_init_1 : decode cX5_init 1 = .ok (.invokespecial 3, 3) := by decide +kernel
theorem dX5_init_4 : decode cX5_init 4 = .ok (.aload_n 0, 1) := by decide +kernel
theorem dX5_init_5 : decode cX5_init 5 = .ok (.iload_n 1, 1) := by decide +kernel
theorem dX5_init_6 : decode cX5_init 6 = .ok (.newarray .int, 2) := by decide +kernel
theorem dX5_init_8 : decode cX5_init 8 = .ok (.putfield 9, 3) := by decide +kernel
theorem dX5_init_11 : decode cX5_init 11 = .ok (.return_, 1) := by decide +kernel
theorem dX5_find_0 : decode cX5_find 0 = .ok (.iconst 0, 1) := by decide +kernel
theorem dX5_find_1 : decode cX5_find 1 = .ok (.istore_n 2, 1) := by decide +kernel
theorem dX5_find_2 : decode cX5_find 2 = .ok (.iload_n 2, 1) := by decide +kernel
theorem dX5_find_3 : decode cX5_find 3 = .ok (.aload_n 0, 1) := by decide +kernel
theorem dX5_find_4 : decode cX5_find 4 = .ok (.getfield 15, 3) := by decide +kernel
theorem dX5_find_7 : decode cX5_find 7 = .ok (.if_icmp .ge 21, 3) := by decide +kernel
theorem dX5_find_10 : decode cX5_find 10 = .ok (.aload_n 0, 1) := by decide +kernel
theorem dX5_find_11 : decode cX5_find 11 = .ok (.getfield 9, 3) := by decide +kernel
theorem dX5_find_14 : decode cX5_find 14 = .ok (.iload_n 2, 1) := by decide +kernel
theorem dX5_find_15 : decode cX5_find 15 = .ok (.iaload, 1) := by decide +kernel
theorem dX5_find_16 : decode cX5_find 16 = .ok (.iload_n 1, 1) := by decide +kernel
theorem dX5_find_17 : decode cX5_find 17 = .ok (.if_icmp .ne 5, 3) := by decide +kernel
theorem dX5_find_20 : decode cX5_find 20 = .ok (.iload_n 2, 1) := by decide +kernel
theorem dX5_find_21 : decode cX5_find 21 = .ok (.ireturn, 1) := by decide +kernel
theorem dX5_find_22 : decode cX5_find 22 = .ok (.iinc 2 1, 3) := by decide +kernel
theorem dX5_find_25 : decode cX5_find 25 = .ok (.goto (-23), 3) := by decide +kernel
theorem dX5_find_28 : decode cX5_find 28 = .ok (.iconst (-1), 1) := by decide +kernel
theorem dX5_find_29 : decode cX5_find 29 = .ok (.ireturn, 1) := by decide +kernel
theorem dX5_isFull_0 : decode cX5_isFull 0 = .ok (.aload_n 0, 1) := by decide +kernel
theorem dX5_isFull_1 : decode cX5_isFull 1 = .ok (.getfield 15, 3) := by decide +kernel
theorem dX5_isFull_4 : decode cX5_isFull 4 = .ok (.aload_n 0, 1) := by decide +kernel
theorem dX5_isFull_5 : decode cX5_isFull 5 = .ok (.getfield 9, 3) := by decide +kernel
theorem dX5_isFull_8 : decode cX5_isFull 8 = .ok (.arraylength, 1) := by decide +kernel
theorem dX5_isFull_9 : decode cX5_isFull 9 = .ok (.if_icmp .lt 7, 3) := by decide +kernel
theorem dX5_isFull_12 : decode cX5_isFull 12 = .ok (.iconst 1, 1) := by decide +kernel
theorem dX5_isFull_13 : decode cX5_isFull 13 = .ok (.goto 4, 3) := by decide +kernel
theorem dX5_isFull_16 : decode cX5_isFull 16 = .ok (.iconst 0, 1) := by decide +kernel
theorem dX5_isFull_17 : decode cX5_isFull 17 = .ok (.ireturn, 1) := by decide +kernel
theorem dX5_add_0 : decode cX5_add 0 = .ok (.aload_n 0, 1) := by decide +kernel
theorem dX5_add_1 : decode cX5_add 1 = .ok (.getfield 15, 3) := by decide +kernel
theorem dX5_add_4 : decode cX5_add 4 = .ok (.aload_n 0, 1) := by decide +kernel
theorem dX5_add_5 : decode cX5_add 5 = .ok (.getfield 9, 3) := by decide +kernel
theorem dX5_add_8 : decode cX5_add 8 = .ok (.arraylength, 1) := by decide +kernel
theorem dX5_add_9 : decode cX5_add 9 = .ok (.if_icmp .ge 23, 3) := by decide +kernel
theorem dX5_add_12 : decode cX5_add 12 = .ok (.aload_n 0, 1) := by decide +kernel
theorem dX5_add_13 : decode cX5_add 13 = .ok (.getfield 9, 3) := by decide +kernel
theorem dX5_add_16 : decode cX5_add 16 = .ok (.aload_n 0, 1) := by decide +kernel
theorem dX5_add_17 : decode cX5_add 17 = .ok (.getfield 15, 3) := by decide +kernel
theorem dX5_add_20 : decode cX5_add 20 = .ok (.iload_n 1, 1) := by decide +kernel
theorem dX5_add_21 : decode cX5_add 21 = .ok (.iastore, 1) := by decide +kernel
theorem dX5_add_22 : decode cX5_add 22 = .ok (.aload_n 0, 1) := by decide +kernel
theorem dX5_add_23 : decode cX5_add 23 = .ok (.dup, 1) := by decide +kernel
theorem dX5_add_24 : decode cX5_add 24 = .ok (.getfield 15, 3) := by decide +kernel
theorem dX5_add_27 : decode cX5_add 27 = .ok (.iconst 1, 1) := by decide +kernel
theorem dX5_add_28 : decode cX5_add 28 = .ok (.iadd, 1) := by decide +kernel
theorem dX5_add_29 : decode cX5_add 29 = .ok (.putfield 15, 3) := by decide +kernel
theorem dX5_add_32 : decode cX5_add 32 = .ok (.return_, 1) := by decide +kernel
theorem dX2_init_0 : decode cX2_init 0 = .ok (.aload_n 0, 1) := by decide +kernel
theorem dX2_init_1 : decode cX2_init 1 = .ok (.invokespecial 3, 3) := by decide +kernel
theorem dX2_init_4 : decode cX2_init 4 = .ok (.aload_n 0, 1) := by decide +kernel
theorem dX2_init_5 : decode cX2_init 5 = .ok (.bipush 20, 2) := by decide +kernel
theorem dX2_init_7 : decode cX2_init 7 = .ok (.newarray .int, 2) := by decide +kernel
theorem dX2_init_9 : decode cX2_init 9 = .ok (.putfield 9, 3) := by decide +kernel
theorem dX2_init_12 : decode cX2_init 12 = .ok (.aload_n 0, 1) := by decide +kernel
theorem dX2_init_13 : decode cX2_init 13 = .ok (.bipush 20, 2) := by decide +kernel
theorem dX2_init_15 : decode cX2_init 15 = .ok (.newarray .int, 2) := by decide +kernel
theorem dX2_init_17 : decode cX2_init 17 = .ok (.putfield 15, 3) := by decide +kernel
theorem dX2_init_20 : decode cX2_init 20 = .ok (.aload_n 0, 1) := by decide +kernel
theorem dX2_init_21 : decode cX2_init 21 = .ok (.bipush 20, 2) := by decide +kernel
theorem dX2_init_23 : decode cX2_init 23 = .ok (.newarray .int, 2) := by decide +kernel
theorem dX2_init_25 : decode cX2_init 25 = .ok (.putfield 18, 3) := by decide +kernel
theorem dX2_init_28 : decode cX2_init 28 = .ok (.return_, 1) := by decide +kernel
theorem dX2_clear_0 : decode cX2_clear 0 = .ok (.aload_n 0, 1) := by decide +kernel
theorem dX2_clear_1 : decode cX2_clear 1 = .ok (.iconst 0, 1) := by decide +kernel
theorem dX2_clear_2 : decode cX2_clear 2 = .ok (.putfield 21, 3) := by decide +kernel
theorem dX2_clear_5 : decode cX2_clear 5 = .ok (.return_, 1) := by decide +kernel
theorem dX2_add_0 : decode cX2_add 0 = .ok (.aload_n 0, 1) := by decide +kernel
theorem dX2_add_1 : decode cX2_add 1 = .ok (.getfield 21, 3) := by decide +kernel
theorem dX2_add_4 : decode cX2_add 4 = .ok (.bipush 20, 2) := by decide +kernel
theorem dX2_add_6 : decode cX2_add 6 = .ok (.if_icmp .ne 7, 3) := by decide +kernel
theorem dX2_add_9 : decode cX2_add 9 = .ok (.aload_n 0, 1) := by decide +kernel
theorem dX2_add_10 : decode cX2_add 10 = .ok (.invokevirtual 25, 3) := by decide +kernel
theorem dX2_add_13 : decode cX2_add 13 = .ok (.aload_n 0, 1) := by decide +kernel
theorem dX2_add_14 : decode cX2_add 14 = .ok (.getfield 9, 3) := by decide +kernel
theorem dX2_add_17 : decode cX2_add 17 = .ok (.aload_n 0, 1) := by decide +kernel
theorem dX2_add_18 : decode cX2_add 18 = .ok (.getfield 21, 3) := by decide +kernel
theorem dX2_add_21 : decode cX2_add 21 = .ok (.iload_n 1, 1) := by decide +kernel
theorem dX2_add_22 : decode cX2_add 22 = .ok (.iastore, 1) := by decide +kernel
theorem dX2_add_23 : decode cX2_add 23 = .ok (.aload_n 0, 1) := by decide +kernel
theorem dX2_add_24 : decode cX2_add 24 = .ok (.getfield 15, 3) := by decide +kernel
theorem dX2_add_27 : decode cX2_add 27 = .ok (.aload_n 0, 1) := by decide +kernel
theorem dX2_add_28 : decode cX2_add 28 = .ok (.getfield 21, 3) := by decide +kernel
theorem dX2_add_31 : decode cX2_add 31 = .ok (.iload_n 2, 1) := by decide +kernel
theorem dX2_add_32 : decode cX2_add 32 = .ok (.iastore, 1) := by decide +kernel
theorem dX2_add_33 : decode cX2_add 33 = .ok (.aload_n 0, 1) := by decide +kernel
theorem dX2_add_34 : decode cX2_add 34 = .ok (.getfield 18, 3) := by decide +kernel
theorem dX2_add_37 : decode cX2_add 37 = .ok (.aload_n 0, 1) := by decide +kernel
theorem dX2_add_38 : decode cX2_add 38 = .ok (.getfield 21, 3) := by decide +kernel
theorem dX2_add_41 : decode cX2_add 41 = .ok (.iload_n 3, 1) := by decide +kernel
theorem dX2_add_42 : decode cX2_add 42 = .ok (.iastore, 1) := by decide +kernel
theorem dX2_add_43 : decode cX2_add 43 = .ok (.aload_n 0, 1) := by decide +kernel
theorem dX2_add_44 : decode cX2_add 44 = .ok (.dup, 1) := by decide +kernel
theorem dX2_add_45 : decode cX2_add 45 = .ok (.getfield 21, 3) := by decide +kernel
theorem dX2_add_48 : decode cX2_add 48 = .ok (.iconst 1, 1) := by decide +kernel
theorem dX2_add_49 : decode cX2_add 49 = .ok (.iadd, 1) := by decide +kernel
theorem dX2_add_50 : decode cX2_add 50 = .ok (.putfield 21, 3) := by decide +kernel
theorem dX2_add_53 : decode cX2_add 53 = .ok (.return_, 1) := by decide +kernel
theorem dX2_forgetFirst_0 : decode cX2_forgetFirst 0 = .ok (.aload_n 0, 1) := by decide +kernel
theorem dX2_forgetFirst_1 : decode cX2_forgetFirst 1 = .ok (.dup, 1) := by decide +kernel
theorem dX2_forgetFirst_2 : decode cX2_forgetFirst 2 = .ok (.getfield 21, 3) := by decide +kernel
theorem dX2_forgetFirst_5 : decode cX2_forgetFirst 5 = .ok (.iconst 1, 1) := by decide +kernel
theorem dX2_forgetFirst_6 : decode cX2_forgetFirst 6 = .ok (.isub, 1) := by decide +kernel
theorem dX2_forgetFirst_7 : decode cX2_forgetFirst 7 = .ok (.putfield 21, 3) := by decide +kernel
theorem dX2_forgetFirst_10 : decode cX2_forgetFirst 10 = .ok (.aload_n 0, 1) := by decide +kernel
theorem dX2_forgetFirst_11 : decode cX2_forgetFirst 11 = .ok (.getfield 9, 3) := by decide +kernel
theorem dX2_forgetFirst_14 : decode cX2_forgetFirst 14 = .ok (.iconst 1, 1) := by decide +kernel
theorem dX2_forgetFirst_15 : decode cX2_forgetFirst 15 = .ok (.aload_n 0, 1) := by decide +kernel
theorem dX2_forgetFirst_16 : decode cX2_forgetFirst 16 = .ok (.getfield 9, 3) := by decide +kernel
theorem dX2_forgetFirst_19 : decode cX2_forgetFirst 19 = .ok (.iconst 0, 1) := by decide +kernel
theorem dX2_forgetFirst_20 : decode cX2_forgetFirst 20 = .ok (.aload_n 0, 1) := by decide +kernel
theorem dX2_forgetFirst_21 : decode cX2_forgetFirst 21 = .ok (.getfield 21, 3) := by decide +kernel
theorem dX2_forgetFirst_24 : decode cX2_forgetFirst 24 = .ok (.invokestatic 28, 3) := by decide +kernel
theorem dX2_forgetFirst_27 : decode cX2_forgetFirst 27 = .ok (.aload_n 0, 1) := by decide +kernel
theorem dX2_forgetFirst_28 : decode cX2_forgetFirst 28 = .ok (.getfield 15, 3) := by decide +kernel
theorem dX2_forgetFirst_31 : decode cX2_forgetFirst 31 = .ok (.iconst 1, 1) := by decide +kernel
theorem dX2_forgetFirst_32 : decode cX2_forgetFirst 32 = .ok (.aload_n 0, 1) := by decide +kernel
theorem dX2_forgetFirst_33 : decode cX2_forgetFirst 33 = .ok (.getfield 15, 3) := by decide +kernel
theorem dX2_forgetFirst_36 : decode cX2_forgetFirst 36 = .ok (.iconst 0, 1) := by decide +kernel
theorem dX2_forgetFirst_37 : decode cX2_forgetFirst 37 = .ok (.aload_n 0, 1) := by decide +kernel
theorem dX2_forgetFirst_38 : decode cX2_forgetFirst 38 = .ok (.getfield 21, 3) := by decide +kernel
theorem dX2_forgetFirst_41 : decode cX2_forgetFirst 41 = .ok (.invokestatic 28, 3) := by decide +kernel
theorem dX2_forgetFirst_44 : decode cX2_forgetFirst 44 = .ok (.aload_n 0, 1) := by decide +kernel
theorem dX2_forgetFirst_45 : decode cX2_forgetFirst 45 = .ok (.getfield 18, 3) := by decide +kernel
theorem dX2_forgetFirst_48 : decode cX2_forgetFirst 48 = .ok (.iconst 1, 1) := by decide +kernel
theorem dX2_forgetFirst_49 : decode cX2_forgetFirst 49 = .ok (.aload_n 0, 1) := by decide +kernel
theorem dX2_forgetFirst_50 : decode cX2_forgetFirst 50 = .ok (.getfield 18, 3) := by decide +kernel
theorem dX2_forgetFirst_53 : decode cX2_forgetFirst 53 = .ok (.iconst 0, 1) := by decide +kernel
theorem dX2_forgetFirst_54 : decode cX2_forgetFirst 54 = .ok (.aload_n 0, 1) := by decide +kernel
theorem dX2_forgetFirst_55 : decode cX2_forgetFirst 55 = .ok (.getfield 21, 3) := by decide +kernel
theorem dX2_forgetFirst_58 : decode cX2_forgetFirst 58 = .ok (.invokestatic 28, 3) := by decide +kernel
theorem dX2_forgetFirst_61 : decode cX2_forgetFirst 61 = .ok (.return_, 1) := by decide +kernel
theorem dX2_takeBackLatest_0 : decode cX2_takeBackLatest 0 = .ok (.aload_n 0, 1) := by decide +kernel
theorem dX2_takeBackLatest_1 : decode cX2_takeBackLatest 1 = .ok (.getfield 21, 3) := by decide +kernel
theorem dX2_takeBackLatest_4 : decode cX2_takeBackLatest 4 = .ok (.ifCond .ne 4, 3) := by decide +kernel
theorem dX2_takeBackLatest_7 : decode cX2_takeBackLatest 7 = .ok (.return_, 1) := by decide +kernel
theorem dX2_takeBackLatest_8 : decode cX2_takeBackLatest 8 = .ok (.aload_n 0, 1) := by decide +kernel
theorem dX2_takeBackLatest_9 : decode cX2_takeBackLatest 9 = .ok (.dup, 1) := by decide +kernel
theorem dX2_takeBackLatest_10 : decode cX2_takeBackLatest 10 = .ok (.getfield 21, 3) := by decide +kernel
theorem dX2_takeBackLatest_13 : decode cX2_takeBackLatest 13 = .ok (.iconst 1, 1) := by decide +kernel
theorem dX2_takeBackLatest_14 : decode cX2_takeBackLatest 14 = .ok (.isub, 1) := by decide +kernel
theorem dX2_takeBackLatest_15 : decode cX2_takeBackLatest 15 = .ok (.putfield 21, 3) := by decide +kernel
theorem dX2_takeBackLatest_18 : decode cX2_takeBackLatest 18 = .ok (.aload_n 0, 1) := by decide +kernel
theorem dX2_takeBackLatest_19 : decode cX2_takeBackLatest 19 = .ok (.getfield 15, 3) := by decide +kernel
theorem dX2_takeBackLatest_22 : decode cX2_takeBackLatest 22 = .ok (.aload_n 0, 1) := by decide +kernel
theorem dX2_takeBackLatest_23 : decode cX2_takeBackLatest 23 = .ok (.getfield 21, 3) := by decide +kernel
theorem dX2_takeBackLatest_26 : decode cX2_takeBackLatest 26 = .ok (.iaload, 1) := by decide +kernel
theorem dX2_takeBackLatest_27 : decode cX2_takeBackLatest 27 = .ok (.istore_n 2, 1) := by decide +kernel
theorem dX2_takeBackLatest_28 : decode cX2_takeBackLatest 28 = .ok (.aload_n 0, 1) := by decide +kernel
theorem dX2_takeBackLatest_29 : decode cX2_takeBackLatest 29 = .ok (.getfield 9, 3) := by decide +kernel
theorem dX2_takeBackLatest_32 : decode cX2_takeBackLatest 32 = .ok (.aload_n 0, 1) := by decide +kernel
theorem dX2_takeBackLatest_33 : decode cX2_takeBackLatest 33 = .ok (.getfield 21, 3) := by decide +kernel
theorem dX2_takeBackLatest_36 : decode cX2_takeBackLatest 36 = .ok (.iaload, 1) := by decide +kernel
theorem dX2_takeBackLatest_37 : decode cX2_takeBackLatest 37 = .ok (.tableswitch 79 0 2 #[27, 45, 61], 27) := by decide +kernel
theorem dX2_takeBackLatest_64 : decode cX2_takeBackLatest 64 = .ok (.aload_n 1, 1) := by decide +kernel
theorem dX2_takeBackLatest_65 : decode cX2_takeBackLatest 65 = .ok (.getfield 34, 3) := by decide +kernel
theorem dX2_takeBackLatest_68 : decode cX2_takeBackLatest 68 = .ok (.iload_n 2, 1) := by decide +kernel
theorem dX2_takeBackLatest_69 : decode cX2_takeBackLatest 69 = .ok (.aload_n 0, 1) := by decide +kernel
theorem dX2_takeBackLatest_70 : decode cX2_takeBackLatest 70 = .ok (.getfield 18, 3) := by decide +kernel
theorem dX2_takeBackLatest_73 : decode cX2_takeBackLatest 73 = .ok (.aload_n 0, 1) := by decide +kernel
theorem dX2_takeBackLatest_74 : decode cX2_takeBackLatest 74 = .ok (.getfield 21, 3) := by decide +kernel
theorem dX2_takeBackLatest_77 : decode cX2_takeBackLatest 77 = .ok (.iaload, 1) := by decide +kernel
theorem dX2_takeBackLatest_78 : decode cX2_takeBackLatest 78 = .ok (.iastore, 1) := by decide +kernel
theorem dX2_takeBackLatest_79 : decode cX2_takeBackLatest 79 = .ok (.goto 50, 3) := by decide +kernel
theorem dX2_takeBackLatest_82 : decode cX2_takeBackLatest 82 = .ok (.aload_n 1, 1) := by decide +kernel
theorem dX2_takeBackLatest_83 : decode cX2_takeBackLatest 83 = .ok (.aload_n 0, 1) := by decide +kernel
theorem dX2_takeBackLatest_84 : decode cX2_takeBackLatest 84 = .ok (.getfield 18, 3) := by decide +kernel
theorem dX2_takeBackLatest_87 : decode cX2_takeBackLatest 87 = .ok (.aload_n 0, 1) := by decide +kernel
theorem dX2_takeBackLatest_88 : decode cX2_takeBackLatest 88 = .ok (.getfield 21, 3) := by decide +kernel
theorem dX2_takeBackLatest_91 : decode cX2_takeBackLatest 91 = .ok (.iaload, 1) := by decide +kernel
theorem dX2_takeBackLatest_92 : decode cX2_takeBackLatest 92 = .ok (.putfield 39, 3) := by decide +kernel
theorem dX2_takeBackLatest_95 : decode cX2_takeBackLatest 95 = .ok (.goto 34, 3) := by decide +kernel
theorem dX2_takeBackLatest_98 : decode cX2_takeBackLatest 98 = .ok (.aload_n 1, 1) := by decide +kernel
theorem dX2_takeBackLatest_99 : decode cX2_takeBackLatest 99 = .ok (.getfield 42, 3) := by decide +kernel
theorem dX2_takeBackLatest_102 : decode cX2_takeBackLatest 102 = .ok (.iload_n 2, 1) := by decide +kernel
theorem dX2_takeBackLatest_103 : decode cX2_takeBackLatest 103 = .ok (.aload_n 0, 1) := by decide +kernel
theorem dX2_takeBackLatest_104 : decode cX2_takeBackLatest 104 = .ok (.getfield 18, 3) := by decide +kernel
theorem dX2_takeBackLatest_107 : decode cX2_takeBackLatest 107 = .ok (.aload_n 0, 1) := by decide +kernel
theorem dX2_takeBackLatest_108 : decode cX2_takeBackLatest 108 = .ok (.getfield 21, 3) := by decide +kernel
theorem dX2_takeBackLatest_111 : decode cX2_takeBackLatest 111 = .ok (.iaload, 1) := by decide +kernel
theorem dX2_takeBackLatest_112 : decode cX2_takeBackLatest 112 = .ok (.iastore, 1) := by decide +kernel
theorem dX2_takeBackLatest_113 : decode cX2_takeBackLatest 113 = .ok (.goto 16, 3) := by decide +kernel
theorem dX2_takeBackLatest_116 : decode cX2_takeBackLatest 116 = .ok (.aload_n 1, 1) := by decide +kernel
theorem dX2_takeBackLatest_117 : decode cX2_takeBackLatest 117 = .ok (.aload_n 0, 1) := by decide +kernel
theorem dX2_takeBackLatest_118 : decode cX2_takeBackLatest 118 = .ok (.getfield 18, 3) := by decide +kernel
theorem dX2_takeBackLatest_121 : decode cX2_takeBackLatest 121 = .ok (.aload_n 0, 1) := by decide +kernel
theorem dX2_takeBackLatest_122 : decode cX2_takeBackLatest 122 = .ok (.getfield 21, 3) := by decide +kernel
theorem dX2_takeBackLatest_125 : decode cX2_takeBackLatest 125 = .ok (.iaload, 1) := by decide +kernel
theorem dX2_takeBackLatest_126 : decode cX2_takeBackLatest 126 = .ok (.putfield 45, 3) := by decide +kernel
theorem dX2_takeBackLatest_129 : decode cX2_takeBackLatest 129 = .ok (.return_, 1) := by decide +kernel
theorem dX6_init_0 : decode cX6_init 0 = .ok (.aload_n 0, 1) := by decide +kernel
theorem dX6_init_1 : decode cX6_init 1 = .ok (.invokespecial 3, 3) := by decide +kernel
theorem dX6_init_4 : decode cX6_init 4 = .ok (.aload_n 0, 1) := by decide +kernel
theorem dX6_init_5 : decode cX6_init 5 = .ok (.bipush 24, 2) := by decide +kernel
theorem dX6_init_7 : decode cX6_init 7 = .ok (.newarray .int, 2) := by decide +kernel
theorem dX6_init_9 : decode cX6_init 9 = .ok (.putfield 9, 3) := by decide +kernel
theorem dX6_init_12 : decode cX6_init 12 = .ok (.aload_n 0, 1) := by decide +kernel
theorem dX6_init_13 : decode cX6_init 13 = .ok (.bipush 24, 2) := by decide +kernel
theorem dX6_init_15 : decode cX6_init 15 = .ok (.newarray .int, 2) := by decide +kernel
theorem dX6_init_17 : decode cX6_init 17 = .ok (.putfield 15, 3) := by decide +kernel
theorem dX6_init_20 : decode cX6_init 20 = .ok (.aload_n 0, 1) := by decide +kernel
theorem dX6_init_21 : decode cX6_init 21 = .ok (.bipush 24, 2) := by decide +kernel
theorem dX6_init_23 : decode cX6_init 23 = .ok (.newarray .boolean, 2) := by decide +kernel
theorem dX6_init_25 : decode cX6_init 25 = .ok (.putfield 18, 3) := by decide +kernel
theorem dX6_init_28 : decode cX6_init 28 = .ok (.aload_n 0, 1) := by decide +kernel
theorem dX6_init_29 : decode cX6_init 29 = .ok (.bipush 24, 2) := by decide +kernel
theorem dX6_init_31 : decode cX6_init 31 = .ok (.newarray .int, 2) := by decide +kernel
theorem dX6_init_33 : decode cX6_init 33 = .ok (.putfield 22, 3) := by decide +kernel
theorem dX6_init_36 : decode cX6_init 36 = .ok (.aload_n 0, 1) := by decide +kernel
theorem dX6_init_37 : decode cX6_init 37 = .ok (.bipush 24, 2) := by decide +kernel
theorem dX6_init_39 : decode cX6_init 39 = .ok (.newarray .boolean, 2) := by decide +kernel
theorem dX6_init_41 : decode cX6_init 41 = .ok (.putfield 25, 3) := by decide +kernel
theorem dX6_init_44 : decode cX6_init 44 = .ok (.aload_n 0, 1) := by decide +kernel
theorem dX6_init_45 : decode cX6_init 45 = .ok (.iconst (-1), 1) := by decide +kernel
theorem dX6_init_46 : decode cX6_init 46 = .ok (.putfield 28, 3) := by decide +kernel
theorem dX6_init_49 : decode cX6_init 49 = .ok (.return_, 1) := by decide +kernel
theorem dX6_clear_0 : decode cX6_clear 0 = .ok (.aload_n 0, 1) := by decide +kernel
theorem dX6_clear_1 : decode cX6_clear 1 = .ok (.iconst 0, 1) := by decide +kernel
theorem dX6_clear_2 : decode cX6_clear 2 = .ok (.putfield 32, 3) := by decide +kernel
theorem dX6_clear_5 : decode cX6_clear 5 = .ok (.aload_n 0, 1) := by decide +kernel
theorem dX6_clear_6 : decode cX6_clear 6 = .ok (.iconst (-1), 1) := by decide +kernel
theorem dX6_clear_7 : decode cX6_clear 7 = .ok (.putfield 28, 3) := by decide +kernel
theorem dX6_clear_10 : decode cX6_clear 10 = .ok (.return_, 1) := by decide +kernel
theorem dX6_add_0 : decode cX6_add 0 = .ok (.aload_n 0, 1) := by decide +kernel
theorem dX6_add_1 : decode cX6_add 1 = .ok (.getfield 32, 3) := by decide +kernel
theorem dX6_add_4 : decode cX6_add 4 = .ok (.bipush 24, 2) := by decide +kernel
theorem dX6_add_6 : decode cX6_add 6 = .ok (.if_icmp .lt 5, 3) := by decide +kernel
theorem dX6_add_9 : decode cX6_add 9 = .ok (.iconst (-1), 1) := by decide +kernel
theorem dX6_add_10 : decode cX6_add 10 = .ok (.ireturn, 1) := by decide +kernel
theorem dX6_add_11 : decode cX6_add 11 = .ok (.aload_n 0, 1) := by decide +kernel
theorem dX6_add_12 : decode cX6_add 12 = .ok (.getfield 9, 3) := by decide +kernel
theorem dX6_add_15 : decode cX6_add 15 = .ok (.aload_n 0, 1) := by decide +kernel
theorem dX6_add_16 : decode cX6_add 16 = .ok (.getfield 32, 3) := by decide +kernel
theorem dX6_add_19 : decode cX6_add 19 = .ok (.iload_n 1, 1) := by decide +kernel
theorem dX6_add_20 : decode cX6_add 20 = .ok (.iastore, 1) := by decide +kernel
theorem dX6_add_21 : decode cX6_add 21 = .ok (.aload_n 0, 1) := by decide +kernel
theorem dX6_add_22 : decode cX6_add 22 = .ok (.getfield 15, 3) := by decide +kernel
theorem dX6_add_25 : decode cX6_add 25 = .ok (.aload_n 0, 1) := by decide +kernel
theorem dX6_add_26 : decode cX6_add 26 = .ok (.getfield 32, 3) := by decide +kernel
theorem dX6_add_29 : decode cX6_add 29 = .ok (.iload_n 2, 1) := by decide +kernel
theorem dX6_add_30 : decode cX6_add 30 = .ok (.iastore, 1) := by decide +kernel
theorem dX6_add_31 : decode cX6_add 31 = .ok (.aload_n 0, 1) := by decide +kernel
theorem dX6_add_32 : decode cX6_add 32 = .ok (.getfield 18, 3) := by decide +kernel
theorem dX6_add_35 : decode cX6_add 35 = .ok (.aload_n 0, 1) := by decide +kernel
theorem dX6_add_36 : decode cX6_add 36 = .ok (.getfield 32, 3) := by decide +kernel
theorem dX6_add_39 : decode cX6_add 39 = .ok (.iload_n 3, 1) := by decide +kernel
theorem dX6_add_40 : decode cX6_add 40 = .ok (.bastore, 1) := by decide +kernel
theorem dX6_add_41 : decode cX6_add 41 = .ok (.aload_n 0, 1) := by decide +kernel
theorem dX6_add_42 : decode cX6_add 42 = .ok (.getfield 22, 3) := by decide +kernel
theorem dX6_add_45 : decode cX6_add 45 = .ok (.aload_n 0, 1) := by decide +kernel
theorem dX6_add_46 : decode cX6_add 46 = .ok (.getfield 32, 3) := by decide +kernel
theorem dX6_add_49 : decode cX6_add 49 = .ok (.iload 4, 2) := by decide +kernel
theorem dX6_add_51 : decode cX6_add 51 = .ok (.iastore, 1) := by decide +kernel
theorem dX6_add_52 : decode cX6_add 52 = .ok (.aload_n 0, 1) := by decide +kernel
theorem dX6_add_53 : decode cX6_add 53 = .ok (.dup, 1) := by decide +kernel
theorem dX6_add_54 : decode cX6_add 54 = .ok (.getfield 32, 3) := by decide +kernel
theorem dX6_add_57 : decode cX6_add 57 = .ok (.iconst 1, 1) := by decide +kernel
theorem dX6_add_58 : decode cX6_add 58 = .ok (.iadd, 1) := by decide +kernel
theorem dX6_add_59 : decode cX6_add 59 = .ok (.putfield 32, 3) := by decide +kernel
theorem dX6_add_62 : decode cX6_add 62 = .ok (.aload_n 0, 1) := by decide +kernel
theorem dX6_add_63 : decode cX6_add 63 = .ok (.getfield 32, 3) := by decide +kernel
theorem dX6_add_66 : decode cX6_add 66 = .ok (.iconst 1, 1) := by decide +kernel
theorem dX6_add_67 : decode cX6_add 67 = .ok (.isub, 1) := by decide +kernel
theorem dX6_add_68 : decode cX6_add 68 = .ok (.ireturn, 1) := by decide +kernel
theorem dX6_countConsidered_0 : decode cX6_countConsidered 0 = .ok (.aload_n 0, 1) := by decide +kernel
theorem dX6_countConsidered_1 : decode cX6_countConsidered 1 = .ok (.getfield 28, 3) := by decide +kernel
theorem dX6_countConsidered_4 : decode cX6_countConsidered 4 = .ok (.iconst (-1), 1) := by decide +kernel
theorem dX6_countConsidered_5 : decode cX6_countConsidered 5 = .ok (.if_icmp .ne 10, 3) := by decide +kernel
theorem dX6_countConsidered_8 : decode cX6_countConsidered 8 = .ok (.aload_n 0, 1) := by decide +kernel
theorem dX6_countConsidered_9 : decode cX6_countConsidered 9 = .ok (.getfield 32, 3) := by decide +kernel
theorem dX6_countConsidered_12 : decode cX6_countConsidered 12 = .ok (.goto 7, 3) := by decide +kernel
theorem dX6_countConsidered_15 : decode cX6_countConsidered 15 = .ok (.aload_n 0, 1) := by decide +kernel
theorem dX6_countConsidered_16 : decode cX6_countConsidered 16 = .ok (.getfield 28, 3) := by decide +kernel
theorem dX6_countConsidered_19 : decode cX6_countConsidered 19 = .ok (.ireturn, 1) := by decide +kernel
theorem dX6_findStruck_0 : decode cX6_findStruck 0 = .ok (.iconst 0, 1) := by decide +kernel
theorem dX6_findStruck_1 : decode cX6_findStruck 1 = .ok (.istore_n 1, 1) := by decide +kernel
theorem dX6_findStruck_2 : decode cX6_findStruck 2 = .ok (.iload_n 1, 1) := by decide +kernel
theorem dX6_findStruck_3 : decode cX6_findStruck 3 = .ok (.bipush 24, 2) := by decide +kernel
theorem dX6_findStruck_5 : decode cX6_findStruck 5 = .ok (.if_icmp .ge 16, 3) := by decide +kernel
theorem dX6_findStruck_8 : decode cX6_findStruck 8 = .ok (.aload_n 0, 1) := by decide +kernel
theorem dX6_findStruck_9 : decode cX6_findStruck 9 = .ok (.getfield 25, 3) := by decide +kernel
theorem dX6_findStruck_12 : decode cX6_findStruck 12 = .ok (.iload_n 1, 1) := by decide +kernel
theorem dX6_findStruck_13 : decode cX6_findStruck 13 = .ok (.iconst 0, 1) := by decide +kernel
theorem dX6_findStruck_14 : decode cX6_findStruck 14 = .ok (.bastore, 1) := by decide +kernel
theorem dX6_findStruck_15 : decode cX6_findStruck 15 = .ok (.iinc 1 1, 3) := by decide +kernel
theorem dX6_findStruck_18 : decode cX6_findStruck 18 = .ok (.goto (-16), 3) := by decide +kernel
theorem dX6_findStruck_21 : decode cX6_findStruck 21 = .ok (.aload_n 0, 1) := by decide +kernel
theorem dX6_findStruck_22 : decode cX6_findStruck 22 = .ok (.invokevirtual 35, 3) := by decide +kernel
theorem dX6_findStruck_25 : decode cX6_findStruck 25 = .ok (.iconst 1, 1) := by decide +kernel
theorem dX6_findStruck_26 : decode cX6_findStruck 26 = .ok (.isub, 1) := by decide +kernel
theorem dX6_findStruck_27 : decode cX6_findStruck 27 = .ok (.istore_n 1, 1) := by decide +kernel
theorem dX6_findStruck_28 : decode cX6_findStruck 28 = .ok (.iload_n 1, 1) := by decide +kernel
theorem dX6_findStruck_29 : decode cX6_findStruck 29 = .ok (.ifCond .lt 40, 3) := by decide +kernel
theorem dX6_findStruck_32 : decode cX6_findStruck 32 = .ok (.aload_n 0, 1) := by decide +kernel
theorem dX6_findStruck_33 : decode cX6_findStruck 33 = .ok (.getfield 25, 3) := by decide +kernel
theorem dX6_findStruck_36 : decode cX6_findStruck 36 = .ok (.iload_n 1, 1) := by decide +kernel
theorem dX6_findStruck_37 : decode cX6_findStruck 37 = .ok (.baload, 1) := by decide +kernel
theorem dX6_findStruck_38 : decode cX6_findStruck 38 = .ok (.ifCond .ne 25, 3) := by decide +kernel
theorem dX6_findStruck_41 : decode cX6_findStruck 41 = .ok (.aload_n 0, 1) := by decide +kernel
theorem dX6_findStruck_42 : decode cX6_findStruck 42 = .ok (.getfield 22, 3) := by decide +kernel
theorem dX6_findStruck_45 : decode cX6_findStruck 45 = .ok (.iload_n 1, 1) := by decide +kernel
theorem dX6_findStruck_46 : decode cX6_findStruck 46 = .ok (.iaload, 1) := by decide +kernel
theorem dX6_findStruck_47 : decode cX6_findStruck 47 = .ok (.iconst (-1), 1) := by decide +kernel
theorem dX6_findStruck_48 : decode cX6_findStruck 48 = .ok (.if_icmp .eq 15, 3) := by decide +kernel
theorem dX6_findStruck_51 : decode cX6_findStruck 51 = .ok (.aload_n 0, 1) := by decide +kernel
theorem dX6_findStruck_52 : decode cX6_findStruck 52 = .ok (.getfield 25, 3) := by decide +kernel
theorem dX6_findStruck_55 : decode cX6_findStruck 55 = .ok (.aload_n 0, 1) := by decide +kernel
theorem dX6_findStruck_56 : decode cX6_findStruck 56 = .ok (.getfield 22, 3) := by decide +kernel
theorem dX6_findStruck_59 : decode cX6_findStruck 59 = .ok (.iload_n 1, 1) := by decide +kernel
theorem dX6_findStruck_60 : decode cX6_findStruck 60 = .ok (.iaload, 1) := by decide +kernel
theorem dX6_findStruck_61 : decode cX6_findStruck 61 = .ok (.iconst 1, 1) := by decide +kernel
theorem dX6_findStruck_62 : decode cX6_findStruck 62 = .ok (.bastore, 1) := by decide +kernel
theorem dX6_findStruck_63 : decode cX6_findStruck 63 = .ok (.iinc 1 (-1), 3) := by decide +kernel
theorem dX6_findStruck_66 : decode cX6_findStruck 66 = .ok (.goto (-38), 3) := by decide +kernel
theorem dX6_findStruck_69 : decode cX6_findStruck 69 = .ok (.return_, 1) := by decide +kernel
theorem dX6_agreeWith_0 : decode cX6_agreeWith 0 = .ok (.iconst 0, 1) := by decide +kernel
theorem dX6_agreeWith_1 : decode cX6_agreeWith 1 = .ok (.istore_n 2, 1) := by decide +kernel
theorem dX6_agreeWith_2 : decode cX6_agreeWith 2 = .ok (.iload_n 2, 1) := by decide +kernel
theorem dX6_agreeWith_3 : decode cX6_agreeWith 3 = .ok (.aload_n 0, 1) := by decide +kernel
theorem dX6_agreeWith_4 : decode cX6_agreeWith 4 = .ok (.invokevirtual 35, 3) := by decide +kernel
theorem dX6_agreeWith_7 : decode cX6_agreeWith 7 = .ok (.if_icmp .ge 74, 3) := by decide +kernel
theorem dX6_agreeWith_10 : decode cX6_agreeWith 10 = .ok (.aload_n 0, 1) := by decide +kernel
theorem dX6_agreeWith_11 : decode cX6_agreeWith 11 = .ok (.getfield 25, 3) := by decide +kernel
theorem dX6_agreeWith_14 : decode cX6_agreeWith 14 = .ok (.iload_n 2, 1) := by decide +kernel
theorem dX6_agreeWith_15 : decode cX6_agreeWith 15 = .ok (.baload, 1) := by decide +kernel
theorem dX6_agreeWith_16 : decode cX6_agreeWith 16 = .ok (.ifCond .ne 17, 3) := by decide +kernel
theorem dX6_agreeWith_19 : decode cX6_agreeWith 19 = .ok (.aload_n 0, 1) := by decide +kernel
theorem dX6_agreeWith_20 : decode cX6_agreeWith 20 = .ok (.getfield 22, 3) := by decide +kernel
theorem dX6_agreeWith_23 : decode cX6_agreeWith 23 = .ok (.iload_n 2, 1) := by decide +kernel
theorem dX6_agreeWith_24 : decode cX6_agreeWith 24 = .ok (.iaload, 1) := by decide +kernel
theorem dX6_agreeWith_25 : decode cX6_agreeWith 25 = .ok (.iconst (-1), 1) := by decide +kernel
theorem dX6_agreeWith_26 : decode cX6_agreeWith 26 = .ok (.if_icmp .ne 7, 3) := by decide +kernel
theorem dX6_agreeWith_29 : decode cX6_agreeWith 29 = .ok (.iconst 1, 1) := by decide +kernel
theorem dX6_agreeWith_30 : decode cX6_agreeWith 30 = .ok (.goto 4, 3) := by decide +kernel
theorem dX6_agreeWith_33 : decode cX6_agreeWith 33 = .ok (.iconst 0, 1) := by decide +kernel
theorem dX6_agreeWith_34 : decode cX6_agreeWith 34 = .ok (.istore_n 3, 1) := by decide +kernel
theorem dX6_agreeWith_35 : decode cX6_agreeWith 35 = .ok (.iload_n 3, 1) := by decide +kernel
theorem dX6_agreeWith_36 : decode cX6_agreeWith 36 = .ok (.ifCond .eq 39, 3) := by decide +kernel
theorem dX6_agreeWith_39 : decode cX6_agreeWith 39 = .ok (.aload_n 1, 1) := by decide +kernel
theorem dX6_agreeWith_40 : decode cX6_agreeWith 40 = .ok (.getfield 39, 3) := by decide +kernel
theorem dX6_agreeWith_43 : decode cX6_agreeWith 43 = .ok (.aload_n 0, 1) := by decide +kernel
theorem dX6_agreeWith_44 : decode cX6_agreeWith 44 = .ok (.getfield 9, 3) := by decide +kernel
theorem dX6_agreeWith_47 : decode cX6_agreeWith 47 = .ok (.iload_n 2, 1) := by decide +kernel
theorem dX6_agreeWith_48 : decode cX6_agreeWith 48 = .ok (.iaload, 1) := by decide +kernel
theorem dX6_agreeWith_49 : decode cX6_agreeWith 49 = .ok (.iaload, 1) := by decide +kernel
theorem dX6_agreeWith_50 : decode cX6_agreeWith 50 = .ok (.aload_n 0, 1) := by decide +kernel
theorem dX6_agreeWith_51 : decode cX6_agreeWith 51 = .ok (.getfield 15, 3) := by decide +kernel
theorem dX6_agreeWith_54 : decode cX6_agreeWith 54 = .ok (.iload_n 2, 1) := by decide +kernel
theorem dX6_agreeWith_55 : decode cX6_agreeWith 55 = .ok (.iaload, 1) := by decide +kernel
theorem dX6_agreeWith_56 : decode cX6_agreeWith 56 = .ok (.if_icmp .ne 7, 3) := by decide +kernel
theorem dX6_agreeWith_59 : decode cX6_agreeWith 59 = .ok (.iconst 1, 1) := by decide +kernel
theorem dX6_agreeWith_60 : decode cX6_agreeWith 60 = .ok (.goto 4, 3) := by decide +kernel
theorem dX6_agreeWith_63 : decode cX6_agreeWith 63 = .ok (.iconst 0, 1) := by decide +kernel
theorem dX6_agreeWith_64 : decode cX6_agreeWith 64 = .ok (.aload_n 0, 1) := by decide +kernel
theorem dX6_agreeWith_65 : decode cX6_agreeWith 65 = .ok (.getfield 18, 3) := by decide +kernel
theorem dX6_agreeWith_68 : decode cX6_agreeWith 68 = .ok (.iload_n 2, 1) := by decide +kernel
theorem dX6_agreeWith_69 : decode cX6_agreeWith 69 = .ok (.baload, 1) := by decide +kernel
theorem dX6_agreeWith_70 : decode cX6_agreeWith 70 = .ok (.if_icmp .eq 5, 3) := by decide +kernel
theorem dX6_agreeWith_73 : decode cX6_agreeWith 73 = .ok (.iconst 0, 1) := by decide +kernel
theorem dX6_agreeWith_74 : decode cX6_agreeWith 74 = .ok (.ireturn, 1) := by decide +kernel
theorem dX6_agreeWith_75 : decode cX6_agreeWith 75 = .ok (.iinc 2 1, 3) := by decide +kernel
theorem dX6_agreeWith_78 : decode cX6_agreeWith 78 = .ok (.goto (-76), 3) := by decide +kernel
theorem dX6_agreeWith_81 : decode cX6_agreeWith 81 = .ok (.iconst 1, 1) := by decide +kernel
theorem dX6_agreeWith_82 : decode cX6_agreeWith 82 = .ok (.ireturn, 1) := by decide +kernel
theorem dX7_init_0 : decode cX7_init 0 = .ok (.aload_n 0, 1) := by decide +kernel
theorem dX7_init_1 : decode cX7_init 1 = .ok (.invokespecial 3, 3) := by decide +kernel
theorem dX7_init_4 : decode cX7_init 4 = .ok (.aload_n 0, 1) := by decide +kernel
theorem dX7_init_5 : decode cX7_init 5 = .ok (.new 9, 3) := by decide +kernel
theorem dX7_init_8 : decode cX7_init 8 = .ok (.dup, 1) := by decide +kernel
theorem dX7_init_9 : decode cX7_init 9 = .ok (.iconst 4, 1) := by decide +kernel
theorem dX7_init_10 : decode cX7_init 10 = .ok (.invokespecial 11, 3) := by decide +kernel
theorem dX7_init_13 : decode cX7_init 13 = .ok (.putfield 14, 3) := by decide +kernel
theorem dX7_init_16 : decode cX7_init 16 = .ok (.aload_n 0, 1) := by decide +kernel
theorem dX7_init_17 : decode cX7_init 17 = .ok (.iconst 4, 1) := by decide +kernel
theorem dX7_init_18 : decode cX7_init 18 = .ok (.newarray .int, 2) := by decide +kernel
theorem dX7_init_20 : decode cX7_init 20 = .ok (.putfield 20, 3) := by decide +kernel
theorem dX7_init_23 : decode cX7_init 23 = .ok (.aload_n 0, 1) := by decide +kernel
theorem dX7_init_24 : decode cX7_init 24 = .ok (.iconst 4, 1) := by decide +kernel
theorem dX7_init_25 : decode cX7_init 25 = .ok (.newarray .int, 2) := by decide +kernel
theorem dX7_init_27 : decode cX7_init 27 = .ok (.putfield 24, 3) := by decide +kernel
theorem dX7_init_30 : decode cX7_init 30 = .ok (.aload_n 0, 1) := by decide +kernel
theorem dX7_init_31 : decode cX7_init 31 = .ok (.new 9, 3) := by decide +kernel
theorem dX7_init_34 : decode cX7_init 34 = .ok (.dup, 1) := by decide +kernel
theorem dX7_init_35 : decode cX7_init 35 = .ok (.bipush 6, 2) := by decide +kernel
theorem dX7_init_37 : decode cX7_init 37 = .ok (.invokespecial 11, 3) := by decide +kernel
theorem dX7_init_40 : decode cX7_init 40 = .ok (.putfield 27, 3) := by decide +kernel
theorem dX7_init_43 : decode cX7_init 43 = .ok (.aload_n 0, 1) := by decide +kernel
theorem dX7_init_44 : decode cX7_init 44 = .ok (.bipush 6, 2) := by decide +kernel
theorem dX7_init_46 : decode cX7_init 46 = .ok (.newarray .int, 2) := by decide +kernel
theorem dX7_init_48 : decode cX7_init 48 = .ok (.putfield 30, 3) := by decide +kernel
theorem dX7_init_51 : decode cX7_init 51 = .ok (.aload_n 0, 1) := by decide +kernel
theorem dX7_init_52 : decode cX7_init 52 = .ok (.bipush 6, 2) := by decide +kernel
theorem dX7_init_54 : decode cX7_init 54 = .ok (.newarray .int, 2) := by decide +kernel
theorem dX7_init_56 : decode cX7_init 56 = .ok (.putfield 33, 3) := by decide +kernel
theorem dX7_init_59 : decode cX7_init 59 = .ok (.aload_n 0, 1) := by decide +kernel
theorem dX7_init_60 : decode cX7_init 60 = .ok (.bipush 6, 2) := by decide +kernel
theorem dX7_init_62 : decode cX7_init 62 = .ok (.newarray .int, 2) := by decide +kernel
theorem dX7_init_64 : decode cX7_init 64 = .ok (.putfield 36, 3) := by decide +kernel
theorem dX7_init_67 : decode cX7_init 67 = .ok (.aload_n 0, 1) := by decide +kernel
theorem dX7_init_68 : decode cX7_init 68 = .ok (.new 9, 3) := by decide +kernel
theorem dX7_init_71 : decode cX7_init 71 = .ok (.dup, 1) := by decide +kernel
theorem dX7_init_72 : decode cX7_init 72 = .ok (.bipush 10, 2) := by decide +kernel
theorem dX7_init_74 : decode cX7_init 74 = .ok (.invokespecial 11, 3) := by decide +kernel
theorem dX7_init_77 : decode cX7_init 77 = .ok (.putfield 39, 3) := by decide +kernel
theorem dX7_init_80 : decode cX7_init 80 = .ok (.aload_n 0, 1) := by decide +kernel
theorem dX7_init_81 : decode cX7_init 81 = .ok (.bipush 10, 2) := by decide +kernel
theorem dX7_init_83 : decode cX7_init 83 = .ok (.newarray .int, 2) := by decide +kernel
theorem dX7_init_85 : decode cX7_init 85 = .ok (.putfield 42, 3) := by decide +kernel
theorem dX7_init_88 : decode cX7_init 88 = .ok (.aload_n 0, 1) := by decide +kernel
theorem dX7_init_89 : decode cX7_init 89 = .ok (.bipush 10, 2) := by decide +kernel
theorem dX7_init_91 : decode cX7_init 91 = .ok (.newarray .int, 2) := by decide +kernel
theorem dX7_init_93 : decode cX7_init 93 = .ok (.putfield 45, 3) := by decide +kernel
theorem dX7_init_96 : decode cX7_init 96 = .ok (.aload_n 0, 1) := by decide +kernel
theorem dX7_init_97 : decode cX7_init 97 = .ok (.bipush 10, 2) := by decide +kernel
theorem dX7_init_99 : decode cX7_init 99 = .ok (.newarray .int, 2) := by decide +kernel
theorem dX7_init_101 : decode cX7_init 101 = .ok (.putfield 48, 3) := by decide +kernel
theorem dX7_init_104 : decode cX7_init 104 = .ok (.aload_n 0, 1) := by decide +kernel
theorem dX7_init_105 : decode cX7_init 105 = .ok (.new 51, 3) := by decide +kernel
theorem dX7_init_108 : decode cX7_init 108 = .ok (.dup, 1) := by decide +kernel
theorem dX7_init_109 : decode cX7_init 109 = .ok (.invokespecial 53, 3) := by decide +kernel
theorem dX7_init_112 : decode cX7_init 112 = .ok (.putfield 54, 3) := by decide +kernel
theorem dX7_init_115 : decode cX7_init 115 = .ok (.aload_n 0, 1) := by decide +kernel
theorem dX7_init_116 : decode cX7_init 116 = .ok (.bipush 50, 2) := by decide +kernel
theorem dX7_init_118 : decode cX7_init 118 = .ok (.putfield 58, 3) := by decide +kernel
theorem dX7_init_121 : decode cX7_init 121 = .ok (.return_, 1) := by decide +kernel
theorem dX7_clear_0 : decode cX7_clear 0 = .ok (.aload_n 0, 1) := by decide +kernel
theorem dX7_clear_1 : decode cX7_clear 1 = .ok (.getfield 14, 3) := by decide +kernel
theorem dX7_clear_4 : decode cX7_clear 4 = .ok (.iconst 0, 1) := by decide +kernel
theorem dX7_clear_5 : decode cX7_clear 5 = .ok (.putfield 62, 3) := by decide +kernel
theorem dX7_clear_8 : decode cX7_clear 8 = .ok (.aload_n 0, 1) := by decide +kernel
theorem dX7_clear_9 : decode cX7_clear 9 = .ok (.getfield 27, 3) := by decide +kernel
theorem dX7_clear_12 : decode cX7_clear 12 = .ok (.iconst 0, 1) := by decide +kernel
theorem dX7_clear_13 : decode cX7_clear 13 = .ok (.putfield 62, 3) := by decide +kernel
theorem dX7_clear_16 : decode cX7_clear 16 = .ok (.aload_n 0, 1) := by decide +kernel
theorem dX7_clear_17 : decode cX7_clear 17 = .ok (.getfield 39, 3) := by decide +kernel
theorem dX7_clear_20 : decode cX7_clear 20 = .ok (.iconst 0, 1) := by decide +kernel
theorem dX7_clear_21 : decode cX7_clear 21 = .ok (.putfield 62, 3) := by decide +kernel
theorem dX7_clear_24 : decode cX7_clear 24 = .ok (.aload_n 0, 1) := by decide +kernel
theorem dX7_clear_25 : decode cX7_clear 25 = .ok (.getfield 54, 3) := by decide +kernel
theorem dX7_clear_28 : decode cX7_clear 28 = .ok (.invokevirtual 65, 3) := by decide +kernel
theorem dX7_clear_31 : decode cX7_clear 31 = .ok (.aload_n 0, 1) := by decide +kernel
theorem dX7_clear_32 : decode cX7_clear 32 = .ok (.bipush 50, 2) := by decide +kernel
theorem dX7_clear_34 : decode cX7_clear 34 = .ok (.putfield 58, 3) := by decide +kernel
theorem dX7_clear_37 : decode cX7_clear 37 = .ok (.aload_n 0, 1) := by decide +kernel
theorem dX7_clear_38 : decode cX7_clear 38 = .ok (.iconst 0, 1) := by decide +kernel
theorem dX7_clear_39 : decode cX7_clear 39 = .ok (.putfield 68, 3) := by decide +kernel
theorem dX7_clear_42 : decode cX7_clear 42 = .ok (.aload_n 0, 1) := by decide +kernel
theorem dX7_clear_43 : decode cX7_clear 43 = .ok (.iconst 0, 1) := by decide +kernel
theorem dX7_clear_44 : decode cX7_clear 44 = .ok (.putfield 71, 3) := by decide +kernel
theorem dX7_clear_47 : decode cX7_clear 47 = .ok (.aload_n 0, 1) := by decide +kernel
theorem dX7_clear_48 : decode cX7_clear 48 = .ok (.iconst 0, 1) := by decide +kernel
theorem dX7_clear_49 : decode cX7_clear 49 = .ok (.putfield 75, 3) := by decide +kernel
theorem dX7_clear_52 : decode cX7_clear 52 = .ok (.aload_n 0, 1) := by decide +kernel
theorem dX7_clear_53 : decode cX7_clear 53 = .ok (.iconst 0, 1) := by decide +kernel
theorem dX7_clear_54 : decode cX7_clear 54 = .ok (.putfield 78, 3) := by decide +kernel
theorem dX7_clear_57 : decode cX7_clear 57 = .ok (.aload_n 0, 1) := by decide +kernel
theorem dX7_clear_58 : decode cX7_clear 58 = .ok (.iconst 0, 1) := by decide +kernel
theorem dX7_clear_59 : decode cX7_clear 59 = .ok (.putfield 81, 3) := by decide +kernel
theorem dX7_clear_62 : decode cX7_clear 62 = .ok (.return_, 1) := by decide +kernel
def wp_X5_isFull (o0 : Nat) (h : ck_H) (Q : Int32 → ck_H → Prop) : Prop := (((h.1 o0 1) < (nI (ck_ln ck_shX (o0 + 1))) → Q (0 : Int32) h) ∧ (¬ (h.1 o0 1) < (nI (ck_ln ck_shX (o0 + 1))) → Q (1 : Int32) h))
set_option maxHeartbeats 4000000 in
set_option maxRecDepth 100000 in
theorem c_X5_isFull {gr : Bool} {h : ck_H} {Q : Int32 → ck_H → Prop} {o0 : Nat} (hc : (o0 = 63) ∨ (o0 = 58) ∨ (o0 = 54)) (hq : wp_X5_isFull o0 h Q) : ck_M yX5_isFull cX5_isFull 1 (some .boolean) 2 0 0 gr ck_shX h [.ref o0] (ck_Qi ck_shX Q) := by
  rcases hc with rfl | rfl | rfl
  · refine ck_entry (lv := [(0, .ref 63)]) false (own := RX5) rfl (fun q => by cases q) (by decide) (Nat.le_of_ble_eq_true rfl) rfl ?_
    refine ck_aload_n 0 dX5_isFull_0 rfl rfl ?_
    refine ck_getI clX5 1 rfl rfl (by decide) fl_X5_15 dX5_isFull_1 ?_
    refine ck_aload_n 0 dX5_isFull_4 rfl rfl ?_
    refine ck_getR clX5 0 rfl rfl (by decide) fl_X5_9 dX5_isFull_5 ?_
    refine ck_alen0 (v := 10) rfl (by decide) dX5_isFull_8 ?_
    refine ck_icmp_lt (tgt := 16) dX5_isFull_9 (by decide) (fun c2 => ?_) (fun c2 => ?_)
    · have hq := hq.1 c2
      refine ck_iconst (v := 0) dX5_isFull_16 (by decide) ?_
      exact ck_iret rfl (by decide) rfl rfl dX5_isFull_17 ⟨_, rfl, rfl, hq⟩
    · have hq := hq.2 c2
      refine ck_iconst (v := 1) dX5_isFull_12 (by decide) ?_
      refine ck_goto (tgt := 17) dX5_isFull_13 (by decide) ?_
      exact ck_iret rfl (by decide) rfl rfl dX5_isFull_17 ⟨_, rfl, rfl, hq⟩
  · refine ck_entry (lv := [(0, .ref 58)]) false (own := RX5) rfl (fun q => by cases q) (by decide) (Nat.le_of_ble_eq_true rfl) rfl ?_
    refine ck_aload_n 0 dX5_isFull_0 rfl rfl ?_
    refine ck_getI clX5 1 rfl rfl (by decide) fl_X5_15 dX5_isFull_1 ?_
    refine ck_aload_n 0 dX5_isFull_4 rfl rfl ?_
    refine ck_getR clX5 0 rfl rfl (by decide) fl_X5_9 dX5_isFull_5 ?_
    refine ck_alen0 (v := 6) rfl (by decide) dX5_isFull_8 ?_
    refine ck_icmp_lt (tgt := 16) dX5_isFull_9 (by decide) (fun c3 => ?_) (fun c3 => ?_)
    · have hq := hq.1 c3
      refine ck_iconst (v := 0) dX5_isFull_16 (by decide) ?_
      exact ck_iret rfl (by decide) rfl rfl dX5_isFull_17 ⟨_, rfl, rfl, hq⟩
    · have hq := hq.2 c3
      refine ck_iconst (v := 1) dX5_isFull_12 (by decide) ?_
      refine ck_goto (tgt := 17) dX5_isFull_13 (by decide) ?_
      exact ck_iret rfl (by decide) rfl rfl dX5_isFull_17 ⟨_, rfl, rfl, hq⟩
  · refine ck_entry (lv := [(0, .ref 54)]) false (own := RX5) rfl (fun q => by cases q) (by decide) (Nat.le_of_ble_eq_true rfl) rfl ?_
    refine ck_aload_n 0 dX5_isFull_0 rfl rfl ?_
    refine ck_getI clX5 1 rfl rfl (by decide) fl_X5_15 dX5_isFull_1 ?_
    refine ck_aload_n 0 dX5_isFull_4 rfl rfl ?_
    refine ck_getR clX5 0 rfl rfl (by decide) fl_X5_9 dX5_isFull_5 ?_
    refine ck_alen0 (v := 4) rfl (by decide) dX5_isFull_8 ?_
    refine ck_icmp_lt (tgt := 16) dX5_isFull_9 (by decide) (fun c4 => ?_) (fun c4 => ?_)
    · have hq := hq.1 c4
      refine ck_iconst (v := 0) dX5_isFull_16 (by decide) ?_
      exact ck_iret rfl (by decide) rfl rfl dX5_isFull_17 ⟨_, rfl, rfl, hq⟩
    · have hq := hq.2 c4
      refine ck_iconst (v := 1) dX5_isFull_12 (by decide) ?_
      refine ck_goto (tgt := 17) dX5_isFull_13 (by decide) ?_
      exact ck_iret rfl (by decide) rfl rfl dX5_isFull_17 ⟨_, rfl, rfl, hq⟩
def wp_X5_find_2 (Q : Int32 → ck_H → Prop) (o0 : Nat) : Nat → Int32 → Int32 → ck_H → Prop
  | 0 => fun _ _ _ => False
  | n + 1 => fun x1 x2 h => (((h.1 o0 1) ≤ x2 → Q (-1 : Int32) h) ∧ (¬ (h.1 o0 1) ≤ x2 → (vp_in x2 (ck_ln ck_shX (o0 + 1)) ∧ ((¬ (h.1 (o0 + 1) x2.toNatClampNeg) = x1 → (∀ v4, v4 = x2 + 1 → (wp_X5_find_2 Q o0 n) x1 v4 h)) ∧ ((h.1 (o0 + 1) x2.toNatClampNeg) = x1 → Q x2 h)))))
def wp_X5_find (o0 : Nat) (x1 : Int32) (h : ck_H) (Q : Int32 → ck_H → Prop) : Prop := wp_X5_find_2 Q o0 lpN x1 (0 : Int32) h
set_option maxHeartbeats 4000000 in
set_option maxRecDepth 100000 in
theorem cp_X5_find_2 {gr : Bool} {Q : Int32 → ck_H → Prop} {o0 : Nat} (hc : (o0 = 63) ∨ (o0 = 54) ∨ (o0 = 58) ∨ (o0 = 42) ∨ (o0 = 37) ∨ (o0 = 33)) : ∀ (n : Nat) (x1 : Int32) (x2 : Int32) (h : ck_H), wp_X5_find_2 Q o0 n x1 x2 h → ck_W cX5_find 3 RX5 (some .int) 2 0 0 false gr (ck_Qi ck_shX Q) ck_shX h 0 0 2 [(0, .ref o0), (1, .int x1), (2, .int x2)] [] := by
  rcases hc with rfl | rfl | rfl | rfl | rfl | rfl
  · intro n
    induction n with
    | zero => intro x1 x2 h hq; exact hq.elim
    | succ n hKc =>
      intro x1 x2 h hq
      refine ck_iload_n 2 dX5_find_2 rfl rfl ?_
      refine ck_aload_n 0 dX5_find_3 rfl rfl ?_
      refine ck_getI clX5 1 rfl rfl (by decide) fl_X5_15 dX5_find_4 ?_
      refine ck_icmp_ge (tgt := 28) dX5_find_7 (by decide) (fun c5 => ?_) (fun c5 => ?_)
      · have hq := hq.1 c5
        refine ck_iconst (v := -1) dX5_find_28 (by decide) ?_
        exact ck_iret rfl rfl rfl rfl dX5_find_29 ⟨_, rfl, rfl, hq⟩
      · have hq := hq.2 c5
        refine ck_aload_n 0 dX5_find_10 rfl rfl ?_
        refine ck_getR clX5 0 rfl rfl (by decide) fl_X5_9 dX5_find_11 ?_
        refine ck_iload_n 2 dX5_find_14 rfl rfl ?_
        obtain ⟨b6, hq⟩ := hq
        refine ck_iald rfl rfl b6 dX5_find_15 ?_
        refine ck_iload_n 1 dX5_find_16 rfl rfl ?_
        refine ck_icmp_ne (tgt := 22) dX5_find_17 (by decide) (fun c7 => ?_) (fun c7 => ?_)
        · have hq := hq.1 c7
          obtain ⟨v8, ev8⟩ : ∃ z : Int32, z = x2 + 1 := ⟨_, rfl⟩
          have hq := hq v8 ev8
          refine ck_iinc (v := v8) (lv' := [(2, .int v8), (0, .ref 63), (1, .int x1)]) 2 dX5_find_22 rfl (by rw [ev8]; rfl) (by decide) rfl ?_
          refine ck_goto (tgt := 2) dX5_find_25 (by decide) ?_
          refine ck_loc [1, 2, 0] rfl ?_
          exact hKc _ _ _ hq
        · have hq := hq.2 c7
          refine ck_iload_n 2 dX5_find_20 rfl rfl ?_
          exact ck_iret rfl rfl rfl rfl dX5_find_21 ⟨_, rfl, rfl, hq⟩
  · intro n
    induction n with
    | zero => intro x1 x2 h hq; exact hq.elim
    | succ n hKc =>
      intro x1 x2 h hq
      refine ck_iload_n 2 dX5_find_2 rfl rfl ?_
      refine ck_aload_n 0 dX5_find_3 rfl rfl ?_
      refine ck_getI clX5 1 rfl rfl (by decide) fl_X5_15 dX5_find_4 ?_
      refine ck_icmp_ge (tgt := 28) dX5_find_7 (by decide) (fun c9 => ?_) (fun c9 => ?_)
      · have hq := hq.1 c9
        refine ck_iconst (v := -1) dX5_find_28 (by decide) ?_
        exact ck_iret rfl rfl rfl rfl dX5_find_29 ⟨_, rfl, rfl, hq⟩
      · have hq := hq.2 c9
        refine ck_aload_n 0 dX5_find_10 rfl rfl ?_
        refine ck_getR clX5 0 rfl rfl (by decide) fl_X5_9 dX5_find_11 ?_
        refine ck_iload_n 2 dX5_find_14 rfl rfl ?_
        obtain ⟨b10, hq⟩ := hq
        refine ck_iald rfl rfl b10 dX5_find_15 ?_
        refine ck_iload_n 1 dX5_find_16 rfl rfl ?_
        refine ck_icmp_ne (tgt := 22) dX5_find_17 (by decide) (fun c11 => ?_) (fun c11 => ?_)
        · have hq := hq.1 c11
          obtain ⟨v12, ev12⟩ : ∃ z : Int32, z = x2 + 1 := ⟨_, rfl⟩
          have hq := hq v12 ev12
          refine ck_iinc (v := v12) (lv' := [(2, .int v12), (0, .ref 54), (1, .int x1)]) 2 dX5_find_22 rfl (by rw [ev12]; rfl) (by decide) rfl ?_
          refine ck_goto (tgt := 2) dX5_find_25 (by decide) ?_
          refine ck_loc [1, 2, 0] rfl ?_
          exact hKc _ _ _ hq
        · have hq := hq.2 c11
          refine ck_iload_n 2 dX5_find_20 rfl rfl ?_
          exact ck_iret rfl rfl rfl rfl dX5_find_21 ⟨_, rfl, rfl, hq⟩
  · intro n
    induction n with
    | zero => intro x1 x2 h hq; exact hq.elim
    | succ n hKc =>
      intro x1 x2 h hq
      refine ck_iload_n 2 dX5_find_2 rfl rfl ?_
      refine ck_aload_n 0 dX5_find_3 rfl rfl ?_
      refine ck_getI clX5 1 rfl rfl (by decide) fl_X5_15 dX5_find_4 ?_
      refine ck_icmp_ge (tgt := 28) dX5_find_7 (by decide) (fun c13 => ?_) (fun c13 => ?_)
      · have hq := hq.1 c13
        refine ck_iconst (v := -1) dX5_find_28 (by decide) ?_
        exact ck_iret rfl rfl rfl rfl dX5_find_29 ⟨_, rfl, rfl, hq⟩
      · have hq := hq.2 c13
        refine ck_aload_n 0 dX5_find_10 rfl rfl ?_
        refine ck_getR clX5 0 rfl rfl (by decide) fl_X5_9 dX5_find_11 ?_
        refine ck_iload_n 2 dX5_find_14 rfl rfl ?_
        obtain ⟨b14, hq⟩ := hq
        refine ck_iald rfl rfl b14 dX5_find_15 ?_
        refine ck_iload_n 1 dX5_find_16 rfl rfl ?_
        refine ck_icmp_ne (tgt := 22) dX5_find_17 (by decide) (fun c15 => ?_) (fun c15 => ?_)
        · have hq := hq.1 c15
          obtain ⟨v16, ev16⟩ : ∃ z : Int32, z = x2 + 1 := ⟨_, rfl⟩
          have hq := hq v16 ev16
          refine ck_iinc (v := v16) (lv' := [(2, .int v16), (0, .ref 58), (1, .int x1)]) 2 dX5_find_22 rfl (by rw [ev16]; rfl) (by decide) rfl ?_
          refine ck_goto (tgt := 2) dX5_find_25 (by decide) ?_
          refine ck_loc [1, 2, 0] rfl ?_
          exact hKc _ _ _ hq
        · have hq := hq.2 c15
          refine ck_iload_n 2 dX5_find_20 rfl rfl ?_
          exact ck_iret rfl rfl rfl rfl dX5_find_21 ⟨_, rfl, rfl, hq⟩
  · intro n
    induction n with
    | zero => intro x1 x2 h hq; exact hq.elim
    | succ n hKc =>
      intro x1 x2 h hq
      refine ck_iload_n 2 dX5_find_2 rfl rfl ?_
      refine ck_aload_n 0 dX5_find_3 rfl rfl ?_
      refine ck_getI clX5 1 rfl rfl (by decide) fl_X5_15 dX5_find_4 ?_
      refine ck_icmp_ge (tgt := 28) dX5_find_7 (by decide) (fun c17 => ?_) (fun c17 => ?_)
      · have hq := hq.1 c17
        refine ck_iconst (v := -1) dX5_find_28 (by decide) ?_
        exact ck_iret rfl rfl rfl rfl dX5_find_29 ⟨_, rfl, rfl, hq⟩
      · have hq := hq.2 c17
        refine ck_aload_n 0 dX5_find_10 rfl rfl ?_
        refine ck_getR clX5 0 rfl rfl (by decide) fl_X5_9 dX5_find_11 ?_
        refine ck_iload_n 2 dX5_find_14 rfl rfl ?_
        obtain ⟨b18, hq⟩ := hq
        refine ck_iald rfl rfl b18 dX5_find_15 ?_
        refine ck_iload_n 1 dX5_find_16 rfl rfl ?_
        refine ck_icmp_ne (tgt := 22) dX5_find_17 (by decide) (fun c19 => ?_) (fun c19 => ?_)
        · have hq := hq.1 c19
          obtain ⟨v20, ev20⟩ : ∃ z : Int32, z = x2 + 1 := ⟨_, rfl⟩
          have hq := hq v20 ev20
          refine ck_iinc (v := v20) (lv' := [(2, .int v20), (0, .ref 42), (1, .int x1)]) 2 dX5_find_22 rfl (by rw [ev20]; rfl) (by decide) rfl ?_
          refine ck_goto (tgt := 2) dX5_find_25 (by decide) ?_
          refine ck_loc [1, 2, 0] rfl ?_
          exact hKc _ _ _ hq
        · have hq := hq.2 c19
          refine ck_iload_n 2 dX5_find_20 rfl rfl ?_
          exact ck_iret rfl rfl rfl rfl dX5_find_21 ⟨_, rfl, rfl, hq⟩
  · intro n
    induction n with
    | zero => intro x1 x2 h hq; exact hq.elim
    | succ n hKc =>
      intro x1 x2 h hq
      refine ck_iload_n 2 dX5_find_2 rfl rfl ?_
      refine ck_aload_n 0 dX5_find_3 rfl rfl ?_
      refine ck_getI clX5 1 rfl rfl (by decide) fl_X5_15 dX5_find_4 ?_
      refine ck_icmp_ge (tgt := 28) dX5_find_7 (by decide) (fun c21 => ?_) (fun c21 => ?_)
      · have hq := hq.1 c21
        refine ck_iconst (v := -1) dX5_find_28 (by decide) ?_
        exact ck_iret rfl rfl rfl rfl dX5_find_29 ⟨_, rfl, rfl, hq⟩
      · have hq := hq.2 c21
        refine ck_aload_n 0 dX5_find_10 rfl rfl ?_
        refine ck_getR clX5 0 rfl rfl (by decide) fl_X5_9 dX5_find_11 ?_
        refine ck_iload_n 2 dX5_find_14 rfl rfl ?_
        obtain ⟨b22, hq⟩ := hq
        refine ck_iald rfl rfl b22 dX5_find_15 ?_
        refine ck_iload_n 1 dX5_find_16 rfl rfl ?_
        refine ck_icmp_ne (tgt := 22) dX5_find_17 (by decide) (fun c23 => ?_) (fun c23 => ?_)
        · have hq := hq.1 c23
          obtain ⟨v24, ev24⟩ : ∃ z : Int32, z = x2 + 1 := ⟨_, rfl⟩
          have hq := hq v24 ev24
          refine ck_iinc (v := v24) (lv' := [(2, .int v24), (0, .ref 37), (1, .int x1)]) 2 dX5_find_22 rfl (by rw [ev24]; rfl) (by decide) rfl ?_
          refine ck_goto (tgt := 2) dX5_find_25 (by decide) ?_
          refine ck_loc [1, 2, 0] rfl ?_
          exact hKc _ _ _ hq
        · have hq := hq.2 c23
          refine ck_iload_n 2 dX5_find_20 rfl rfl ?_
          exact ck_iret rfl rfl rfl rfl dX5_find_21 ⟨_, rfl, rfl, hq⟩
  · intro n
    induction n with
    | zero => intro x1 x2 h hq; exact hq.elim
    | succ n hKc =>
      intro x1 x2 h hq
      refine ck_iload_n 2 dX5_find_2 rfl rfl ?_
      refine ck_aload_n 0 dX5_find_3 rfl rfl ?_
      refine ck_getI clX5 1 rfl rfl (by decide) fl_X5_15 dX5_find_4 ?_
      refine ck_icmp_ge (tgt := 28) dX5_find_7 (by decide) (fun c25 => ?_) (fun c25 => ?_)
      · have hq := hq.1 c25
        refine ck_iconst (v := -1) dX5_find_28 (by decide) ?_
        exact ck_iret rfl rfl rfl rfl dX5_find_29 ⟨_, rfl, rfl, hq⟩
      · have hq := hq.2 c25
        refine ck_aload_n 0 dX5_find_10 rfl rfl ?_
        refine ck_getR clX5 0 rfl rfl (by decide) fl_X5_9 dX5_find_11 ?_
        refine ck_iload_n 2 dX5_find_14 rfl rfl ?_
        obtain ⟨b26, hq⟩ := hq
        refine ck_iald rfl rfl b26 dX5_find_15 ?_
        refine ck_iload_n 1 dX5_find_16 rfl rfl ?_
        refine ck_icmp_ne (tgt := 22) dX5_find_17 (by decide) (fun c27 => ?_) (fun c27 => ?_)
        · have hq := hq.1 c27
          obtain ⟨v28, ev28⟩ : ∃ z : Int32, z = x2 + 1 := ⟨_, rfl⟩
          have hq := hq v28 ev28
          refine ck_iinc (v := v28) (lv' := [(2, .int v28), (0, .ref 33), (1, .int x1)]) 2 dX5_find_22 rfl (by rw [ev28]; rfl) (by decide) rfl ?_
          refine ck_goto (tgt := 2) dX5_find_25 (by decide) ?_
          refine ck_loc [1, 2, 0] rfl ?_
          exact hKc _ _ _ hq
        · have hq := hq.2 c27
          refine ck_iload_n 2 dX5_find_20 rfl rfl ?_
          exact ck_iret rfl rfl rfl rfl dX5_find_21 ⟨_, rfl, rfl, hq⟩
set_option maxHeartbeats 4000000 in
set_option maxRecDepth 100000 in
theorem c_X5_find {gr : Bool} {x1 : Int32} {h : ck_H} {Q : Int32 → ck_H → Prop} {o0 : Nat} (hc : (o0 = 63) ∨ (o0 = 54) ∨ (o0 = 58) ∨ (o0 = 42) ∨ (o0 = 37) ∨ (o0 = 33)) (hq : wp_X5_find o0 x1 h Q) : ck_M yX5_find cX5_find 3 (some .int) 2 0 0 gr ck_shX h [.ref o0, .int x1] (ck_Qi ck_shX Q) := by
  rcases hc with rfl | rfl | rfl | rfl | rfl | rfl
  · refine ck_entry (lv := [(0, .ref 63), (1, .int x1)]) false (own := RX5) rfl (fun q => by cases q) (by decide) (Nat.le_of_ble_eq_true rfl) rfl ?_
    refine ck_iconst (v := 0) dX5_find_0 (by decide) ?_
    refine ck_istore_n (lv' := [(2, .int (0 : Int32)), (0, .ref 63), (1, .int x1)]) dX5_find_1 rfl (by decide) rfl ?_
    refine ck_loc [1, 2, 0] rfl ?_
    refine cp_X5_find_2 (by simp) lpN _ _ _ hq
  · refine ck_entry (lv := [(0, .ref 54), (1, .int x1)]) false (own := RX5) rfl (fun q => by cases q) (by decide) (Nat.le_of_ble_eq_true rfl) rfl ?_
    refine ck_iconst (v := 0) dX5_find_0 (by decide) ?_
    refine ck_istore_n (lv' := [(2, .int (0 : Int32)), (0, .ref 54), (1, .int x1)]) dX5_find_1 rfl (by decide) rfl ?_
    refine ck_loc [1, 2, 0] rfl ?_
    refine cp_X5_find_2 (by simp) lpN _ _ _ hq
  · refine ck_entry (lv := [(0, .ref 58), (1, .int x1)]) false (own := RX5) rfl (fun q => by cases q) (by decide) (Nat.le_of_ble_eq_true rfl) rfl ?_
    refine ck_iconst (v := 0) dX5_find_0 (by decide) ?_
    refine ck_istore_n (lv' := [(2, .int (0 : Int32)), (0, .ref 58), (1, .int x1)]) dX5_find_1 rfl (by decide) rfl ?_
    refine ck_loc [1, 2, 0] rfl ?_
    refine cp_X5_find_2 (by simp) lpN _ _ _ hq
  · refine ck_entry (lv := [(0, .ref 42), (1, .int x1)]) false (own := RX5) rfl (fun q => by cases q) (by decide) (Nat.le_of_ble_eq_true rfl) rfl ?_
    refine ck_iconst (v := 0) dX5_find_0 (by decide) ?_
    refine ck_istore_n (lv' := [(2, .int (0 : Int32)), (0, .ref 42), (1, .int x1)]) dX5_find_1 rfl (by decide) rfl ?_
    refine ck_loc [1, 2, 0] rfl ?_
    refine cp_X5_find_2 (by simp) lpN _ _ _ hq
  · refine ck_entry (lv := [(0, .ref 37), (1, .int x1)]) false (own := RX5) rfl (fun q => by cases q) (by decide) (Nat.le_of_ble_eq_true rfl) rfl ?_
    refine ck_iconst (v := 0) dX5_find_0 (by decide) ?_
    refine ck_istore_n (lv' := [(2, .int (0 : Int32)), (0, .ref 37), (1, .int x1)]) dX5_find_1 rfl (by decide) rfl ?_
    refine ck_loc [1, 2, 0] rfl ?_
    refine cp_X5_find_2 (by simp) lpN _ _ _ hq
  · refine ck_entry (lv := [(0, .ref 33), (1, .int x1)]) false (own := RX5) rfl (fun q => by cases q) (by decide) (Nat.le_of_ble_eq_true rfl) rfl ?_
    refine ck_iconst (v := 0) dX5_find_0 (by decide) ?_
    refine ck_istore_n (lv' := [(2, .int (0 : Int32)), (0, .ref 33), (1, .int x1)]) dX5_find_1 rfl (by decide) rfl ?_
    refine ck_loc [1, 2, 0] rfl ?_
    refine cp_X5_find_2 (by simp) lpN _ _ _ hq
def wp_X5_add (o0 : Nat) (x1 : Int32) (h : ck_H) (Q : ck_H → Prop) : Prop := (((nI (ck_ln ck_shX (o0 + 1))) ≤ (h.1 o0 1) → Q h) ∧ (¬ (nI (ck_ln ck_shX (o0 + 1))) ≤ (h.1 o0 1) → (vp_in (h.1 o0 1) (ck_ln ck_shX (o0 + 1)) ∧ (∀ h3, h3 = ck_sI h (o0 + 1) (h.1 o0 1).toNatClampNeg x1 → (∀ h4, h4 = ck_sI h3 o0 1 ((h3.1 o0 1) + (1 : Int32)) → Q h4)))))
set_option maxHeartbeats 4000000 in
set_option maxRecDepth 100000 in
theorem c_X5_add {gr : Bool} {x1 : Int32} {h : ck_H} {Q : ck_H → Prop} {o0 : Nat} (hc : (o0 = 63) ∨ (o0 = 58) ∨ (o0 = 54)) (hq : wp_X5_add o0 x1 h Q) : ck_M yX5_add cX5_add 2 none 2 0 0 gr ck_shX h [.ref o0, .int x1] (ck_Qv ck_shX Q) := by
  rcases hc with rfl | rfl | rfl
  · refine ck_entry (lv := [(0, .ref 63), (1, .int x1)]) false (own := RX5) rfl (fun q => by cases q) (by decide) (Nat.le_of_ble_eq_true rfl) rfl ?_
    refine ck_aload_n 0 dX5_add_0 rfl rfl ?_
    refine ck_getI clX5 1 rfl rfl (by decide) fl_X5_15 dX5_add_1 ?_
    refine ck_aload_n 0 dX5_add_4 rfl rfl ?_
    refine ck_getR clX5 0 rfl rfl (by decide) fl_X5_9 dX5_add_5 ?_
    refine ck_alen0 (v := 10) rfl (by decide) dX5_add_8 ?_
    refine ck_icmp_ge (tgt := 32) dX5_add_9 (by decide) (fun c5 => ?_) (fun c5 => ?_)
    · have hq := hq.1 c5
      exact ck_vret rfl rfl rfl dX5_add_32 ⟨rfl, rfl, hq⟩
    · have hq := hq.2 c5
      refine ck_aload_n 0 dX5_add_12 rfl rfl ?_
      refine ck_getR clX5 0 rfl rfl (by decide) fl_X5_9 dX5_add_13 ?_
      refine ck_aload_n 0 dX5_add_16 rfl rfl ?_
      refine ck_getI clX5 1 rfl rfl (by decide) fl_X5_15 dX5_add_17 ?_
      refine ck_iload_n 1 dX5_add_20 rfl rfl ?_
      obtain ⟨b6, hq⟩ := hq
      refine ck_iast rfl rfl b6 dX5_add_21 ?_
      refine ck_nmH (fun h7 eh7 => ?_)
      have hq := hq h7 eh7
      refine ck_aload_n 0 dX5_add_22 rfl rfl ?_
      refine ck_dup dX5_add_23 rfl ?_
      refine ck_getI clX5 1 rfl rfl (by decide) fl_X5_15 dX5_add_24 ?_
      refine ck_iconst (v := 1) dX5_add_27 (by decide) ?_
      refine ck_iadd dX5_add_28 ?_
      refine ck_putI clX5 1 rfl rfl (by decide) fl_X5_15 rfl rfl rfl dX5_add_29 ?_
      refine ck_nmH (fun h8 eh8 => ?_)
      have hq := hq h8 eh8
      exact ck_vret rfl rfl rfl dX5_add_32 ⟨rfl, rfl, hq⟩
  · refine ck_entry (lv := [(0, .ref 58), (1, .int x1)]) false (own := RX5) rfl (fun q => by cases q) (by decide) (Nat.le_of_ble_eq_true rfl) rfl ?_
    refine ck_aload_n 0 dX5_add_0 rfl rfl ?_
    refine ck_getI clX5 1 rfl rfl (by decide) fl_X5_15 dX5_add_1 ?_
    refine ck_aload_n 0 dX5_add_4 rfl rfl ?_
    refine ck_getR clX5 0 rfl rfl (by decide) fl_X5_9 dX5_add_5 ?_
    refine ck_alen0 (v := 6) rfl (by decide) dX5_add_8 ?_
    refine ck_icmp_ge (tgt := 32) dX5_add_9 (by decide) (fun c9 => ?_) (fun c9 => ?_)
    · have hq := hq.1 c9
      exact ck_vret rfl rfl rfl dX5_add_32 ⟨rfl, rfl, hq⟩
    · have hq := hq.2 c9
      refine ck_aload_n 0 dX5_add_12 rfl rfl ?_
      refine ck_getR clX5 0 rfl rfl (by decide) fl_X5_9 dX5_add_13 ?_
      refine ck_aload_n 0 dX5_add_16 rfl rfl ?_
      refine ck_getI clX5 1 rfl rfl (by decide) fl_X5_15 dX5_add_17 ?_
      refine ck_iload_n 1 dX5_add_20 rfl rfl ?_
      obtain ⟨b10, hq⟩ := hq
      refine ck_iast rfl rfl b10 dX5_add_21 ?_
      refine ck_nmH (fun h11 eh11 => ?_)
      have hq := hq h11 eh11
      refine ck_aload_n 0 dX5_add_22 rfl rfl ?_
      refine ck_dup dX5_add_23 rfl ?_
      refine ck_getI clX5 1 rfl rfl (by decide) fl_X5_15 dX5_add_24 ?_
      refine ck_iconst (v := 1) dX5_add_27 (by decide) ?_
      refine ck_iadd dX5_add_28 ?_
      refine ck_putI clX5 1 rfl rfl (by decide) fl_X5_15 rfl rfl rfl dX5_add_29 ?_
      refine ck_nmH (fun h12 eh12 => ?_)
      have hq := hq h12 eh12
      exact ck_vret rfl rfl rfl dX5_add_32 ⟨rfl, rfl, hq⟩
  · refine ck_entry (lv := [(0, .ref 54), (1, .int x1)]) false (own := RX5) rfl (fun q => by cases q) (by decide) (Nat.le_of_ble_eq_true rfl) rfl ?_
    refine ck_aload_n 0 dX5_add_0 rfl rfl ?_
    refine ck_getI clX5 1 rfl rfl (by decide) fl_X5_15 dX5_add_1 ?_
    refine ck_aload_n 0 dX5_add_4 rfl rfl ?_
    refine ck_getR clX5 0 rfl rfl (by decide) fl_X5_9 dX5_add_5 ?_
    refine ck_alen0 (v := 4) rfl (by decide) dX5_add_8 ?_
    refine ck_icmp_ge (tgt := 32) dX5_add_9 (by decide) (fun c13 => ?_) (fun c13 => ?_)
    · have hq := hq.1 c13
      exact ck_vret rfl rfl rfl dX5_add_32 ⟨rfl, rfl, hq⟩
    · have hq := hq.2 c13
      refine ck_aload_n 0 dX5_add_12 rfl rfl ?_
      refine ck_getR clX5 0 rfl rfl (by decide) fl_X5_9 dX5_add_13 ?_
      refine ck_aload_n 0 dX5_add_16 rfl rfl ?_
      refine ck_getI clX5 1 rfl rfl (by decide) fl_X5_15 dX5_add_17 ?_
      refine ck_iload_n 1 dX5_add_20 rfl rfl ?_
      obtain ⟨b14, hq⟩ := hq
      refine ck_iast rfl rfl b14 dX5_add_21 ?_
      refine ck_nmH (fun h15 eh15 => ?_)
      have hq := hq h15 eh15
      refine ck_aload_n 0 dX5_add_22 rfl rfl ?_
      refine ck_dup dX5_add_23 rfl ?_
      refine ck_getI clX5 1 rfl rfl (by decide) fl_X5_15 dX5_add_24 ?_
      refine ck_iconst (v := 1) dX5_add_27 (by decide) ?_
      refine ck_iadd dX5_add_28 ?_
      refine ck_putI clX5 1 rfl rfl (by decide) fl_X5_15 rfl rfl rfl dX5_add_29 ?_
      refine ck_nmH (fun h16 eh16 => ?_)
      have hq := hq h16 eh16
      exact ck_vret rfl rfl rfl dX5_add_32 ⟨rfl, rfl, hq⟩
def wp_X2_clear (h : ck_H) (Q : ck_H → Prop) : Prop := (∀ h1, h1 = ck_sI h 28 3 (0 : Int32) → Q h1)
set_option maxHeartbeats 4000000 in
set_option maxRecDepth 100000 in
theorem c_X2_clear {gr : Bool} {h : ck_H} {Q : ck_H → Prop} {sh : List ck_C} (hc : (sh = ck_shX3) ∨ (sh = ck_shX)) (hq : wp_X2_clear h Q) : ck_M yX2_clear cX2_clear 1 none 2 0 0 gr sh h [.ref 28] (ck_Qv sh Q) := by
  rcases hc with rfl | rfl
  · refine ck_entry (lv := [(0, .ref 28)]) false (own := RX2) rfl (fun q => by cases q) (by decide) (Nat.le_of_ble_eq_true rfl) rfl ?_
    refine ck_aload_n 0 dX2_clear_0 rfl rfl ?_
    refine ck_iconst (v := 0) dX2_clear_1 (by decide) ?_
    refine ck_putI clX2 3 rfl rfl (by decide) fl_X2_21 rfl rfl rfl dX2_clear_2 ?_
    refine ck_nmH (fun h2 eh2 => ?_)
    have hq := hq h2 eh2
    exact ck_vret rfl rfl rfl dX2_clear_5 ⟨rfl, rfl, hq⟩
  · refine ck_entry (lv := [(0, .ref 28)]) false (own := RX2) rfl (fun q => by cases q) (by decide) (Nat.le_of_ble_eq_true rfl) rfl ?_
    refine ck_aload_n 0 dX2_clear_0 rfl rfl ?_
    refine ck_iconst (v := 0) dX2_clear_1 (by decide) ?_
    refine ck_putI clX2 3 rfl rfl (by decide) fl_X2_21 rfl rfl rfl dX2_clear_2 ?_
    refine ck_nmH (fun h3 eh3 => ?_)
    have hq := hq h3 eh3
    exact ck_vret rfl rfl rfl dX2_clear_5 ⟨rfl, rfl, hq⟩
def wp_X2_forgetFirst (h : ck_H) (Q : ck_H → Prop) : Prop := (∀ h1, h1 = ck_sI h 28 3 ((h.1 28 3) - (1 : Int32)) → ((¬ (1 : Int32) < 0 ∧ ¬ (0 : Int32) < 0 ∧ ¬ (h1.1 28 3) < 0 ∧ (1 : Int32).toNatClampNeg + (h1.1 28 3).toNatClampNeg ≤ 20 ∧ (0 : Int32).toNatClampNeg + (h1.1 28 3).toNatClampNeg ≤ 20) ∧ (∀ h3, h3 = ck_sR h1 29 (va_cpy (h1.1 29) (h1.1 29) (1 : Int32).toNatClampNeg (0 : Int32).toNatClampNeg (h1.1 28 3).toNatClampNeg) → ((¬ (1 : Int32) < 0 ∧ ¬ (0 : Int32) < 0 ∧ ¬ (h3.1 28 3) < 0 ∧ (1 : Int32).toNatClampNeg + (h3.1 28 3).toNatClampNeg ≤ 20 ∧ (0 : Int32).toNatClampNeg + (h3.1 28 3).toNatClampNeg ≤ 20) ∧ (∀ h5, h5 = ck_sR h3 30 (va_cpy (h3.1 30) (h3.1 30) (1 : Int32).toNatClampNeg (0 : Int32).toNatClampNeg (h3.1 28 3).toNatClampNeg) → ((¬ (1 : Int32) < 0 ∧ ¬ (0 : Int32) < 0 ∧ ¬ (h5.1 28 3) < 0 ∧ (1 : Int32).toNatClampNeg + (h5.1 28 3).toNatClampNeg ≤ 20 ∧ (0 : Int32).toNatClampNeg + (h5.1 28 3).toNatClampNeg ≤ 20) ∧ (∀ h7, h7 = ck_sR h5 31 (va_cpy (h5.1 31) (h5.1 31) (1 : Int32).toNatClampNeg (0 : Int32).toNatClampNeg (h5.1 28 3).toNatClampNeg) → Q h7)))))))
set_option maxHeartbeats 4000000 in
set_option maxRecDepth 100000 in
theorem c_X2_forgetFirst {gr : Bool} {h : ck_H} {Q : ck_H → Prop} (hq : wp_X2_forgetFirst h Q) : ck_M yX2_forgetFirst cX2_forgetFirst 1 none 2 0 0 gr ck_shX h [.ref 28] (ck_Qv ck_shX Q) := by
  refine ck_entry (lv := [(0, .ref 28)]) false (own := RX2) rfl (fun q => by cases q) (by decide) (Nat.le_of_ble_eq_true rfl) rfl ?_
  refine ck_aload_n 0 dX2_forgetFirst_0 rfl rfl ?_
  refine ck_dup dX2_forgetFirst_1 rfl ?_
  refine ck_getI clX2 3 rfl rfl (by decide) fl_X2_21 dX2_forgetFirst_2 ?_
  refine ck_iconst (v := 1) dX2_forgetFirst_5 (by decide) ?_
  refine ck_isub dX2_forgetFirst_6 ?_
  refine ck_putI clX2 3 rfl rfl (by decide) fl_X2_21 rfl rfl rfl dX2_forgetFirst_7 ?_
  refine ck_nmH (fun h1 eh1 => ?_)
  have hq := hq h1 eh1
  refine ck_aload_n 0 dX2_forgetFirst_10 rfl rfl ?_
  refine ck_getR clX2 0 rfl rfl (by decide) fl_X2_9 dX2_forgetFirst_11 ?_
  refine ck_iconst (v := 1) dX2_forgetFirst_14 (by decide) ?_
  refine ck_aload_n 0 dX2_forgetFirst_15 rfl rfl ?_
  refine ck_getR clX2 0 rfl rfl (by decide) fl_X2_9 dX2_forgetFirst_16 ?_
  refine ck_iconst (v := 0) dX2_forgetFirst_19 (by decide) ?_
  refine ck_aload_n 0 dX2_forgetFirst_20 rfl rfl ?_
  refine ck_getI clX2 3 rfl rfl (by decide) fl_X2_21 dX2_forgetFirst_21 ?_
  obtain ⟨b2, hq⟩ := hq
  refine ck_acopy rfl rfl ml_X2_28 w_acopy b2.1 b2.2.1 b2.2.2.1 b2.2.2.2.1 b2.2.2.2.2 (by decide) (Nat.le_of_ble_eq_true rfl) dX2_forgetFirst_24 ?_
  refine ck_nmH (fun h3 eh3 => ?_)
  have hq := hq h3 eh3
  refine ck_aload_n 0 dX2_forgetFirst_27 rfl rfl ?_
  refine ck_getR clX2 1 rfl rfl (by decide) fl_X2_15 dX2_forgetFirst_28 ?_
  refine ck_iconst (v := 1) dX2_forgetFirst_31 (by decide) ?_
  refine ck_aload_n 0 dX2_forgetFirst_32 rfl rfl ?_
  refine ck_getR clX2 1 rfl rfl (by decide) fl_X2_15 dX2_forgetFirst_33 ?_
  refine ck_iconst (v := 0) dX2_forgetFirst_36 (by decide) ?_
  refine ck_aload_n 0 dX2_forgetFirst_37 rfl rfl ?_
  refine ck_getI clX2 3 rfl rfl (by decide) fl_X2_21 dX2_forgetFirst_38 ?_
  obtain ⟨b4, hq⟩ := hq
  refine ck_acopy rfl rfl ml_X2_28 w_acopy b4.1 b4.2.1 b4.2.2.1 b4.2.2.2.1 b4.2.2.2.2 (by decide) (Nat.le_of_ble_eq_true rfl) dX2_forgetFirst_41 ?_
  refine ck_nmH (fun h5 eh5 => ?_)
  have hq := hq h5 eh5
  refine ck_aload_n 0 dX2_forgetFirst_44 rfl rfl ?_
  refine ck_getR clX2 2 rfl rfl (by decide) fl_X2_18 dX2_forgetFirst_45 ?_
  refine ck_iconst (v := 1) dX2_forgetFirst_48 (by decide) ?_
  refine ck_aload_n 0 dX2_forgetFirst_49 rfl rfl ?_
  refine ck_getR clX2 2 rfl rfl (by decide) fl_X2_18 dX2_forgetFirst_50 ?_
  refine ck_iconst (v := 0) dX2_forgetFirst_53 (by decide) ?_
  refine ck_aload_n 0 dX2_forgetFirst_54 rfl rfl ?_
  refine ck_getI clX2 3 rfl rfl (by decide) fl_X2_21 dX2_forgetFirst_55 ?_
  obtain ⟨b6, hq⟩ := hq
  refine ck_acopy rfl rfl ml_X2_28 w_acopy b6.1 b6.2.1 b6.2.2.1 b6.2.2.2.1 b6.2.2.2.2 (by decide) (Nat.le_of_ble_eq_true rfl) dX2_forgetFirst_58 ?_
  refine ck_nmH (fun h7 eh7 => ?_)
  have hq := hq h7 eh7
  exact ck_vret rfl rfl rfl dX2_forgetFirst_61 ⟨rfl, rfl, hq⟩
def wp_X2_add_13 (Q : ck_H → Prop) (x1 : Int32) (x2 : Int32) (x3 : Int32) (h : ck_H) : Prop := (vp_in (h.1 28 3) 20 ∧ (∀ h3, h3 = ck_sI h 29 (h.1 28 3).toNatClampNeg x1 → (vp_in (h3.1 28 3) 20 ∧ (∀ h5, h5 = ck_sI h3 30 (h3.1 28 3).toNatClampNeg x2 → (vp_in (h5.1 28 3) 20 ∧ (∀ h7, h7 = ck_sI h5 31 (h5.1 28 3).toNatClampNeg x3 → (∀ h8, h8 = ck_sI h7 28 3 ((h7.1 28 3) + (1 : Int32)) → Q h8)))))))
def wp_X2_add (x1 : Int32) (x2 : Int32) (x3 : Int32) (h : ck_H) (Q : ck_H → Prop) : Prop := ((¬ (h.1 28 3) = (20 : Int32) → wp_X2_add_13 Q x1 x2 x3 h) ∧ ((h.1 28 3) = (20 : Int32) → (wp_X2_forgetFirst h (fun h9 => wp_X2_add_13 Q x1 x2 x3 h9))))
set_option maxHeartbeats 4000000 in
set_option maxRecDepth 100000 in
theorem cp_X2_add_13 {gr : Bool} {Q : ck_H → Prop} : ∀ (x1 : Int32) (x2 : Int32) (x3 : Int32) (h : ck_H), wp_X2_add_13 Q x1 x2 x3 h → ck_W cX2_add 4 RX2 none 3 0 0 false gr (ck_Qv ck_shX Q) ck_shX h 0 0 13 [(0, .ref 28), (1, .int x1), (2, .int x2), (3, .int x3)] [] := by
  intro x1 x2 x3 h hq
  refine ck_aload_n 0 dX2_add_13 rfl rfl ?_
  refine ck_getR clX2 0 rfl rfl (by decide) fl_X2_9 dX2_add_14 ?_
  refine ck_aload_n 0 dX2_add_17 rfl rfl ?_
  refine ck_getI clX2 3 rfl rfl (by decide) fl_X2_21 dX2_add_18 ?_
  refine ck_iload_n 1 dX2_add_21 rfl rfl ?_
  obtain ⟨b2, hq⟩ := hq
  refine ck_iast rfl rfl b2 dX2_add_22 ?_
  refine ck_nmH (fun h3 eh3 => ?_)
  have hq := hq h3 eh3
  refine ck_aload_n 0 dX2_add_23 rfl rfl ?_
  refine ck_getR clX2 1 rfl rfl (by decide) fl_X2_15 dX2_add_24 ?_
  refine ck_aload_n 0 dX2_add_27 rfl rfl ?_
  refine ck_getI clX2 3 rfl rfl (by decide) fl_X2_21 dX2_add_28 ?_
  refine ck_iload_n 2 dX2_add_31 rfl rfl ?_
  obtain ⟨b4, hq⟩ := hq
  refine ck_iast rfl rfl b4 dX2_add_32 ?_
  refine ck_nmH (fun h5 eh5 => ?_)
  have hq := hq h5 eh5
  refine ck_aload_n 0 dX2_add_33 rfl rfl ?_
  refine ck_getR clX2 2 rfl rfl (by decide) fl_X2_18 dX2_add_34 ?_
  refine ck_aload_n 0 dX2_add_37 rfl rfl ?_
  refine ck_getI clX2 3 rfl rfl (by decide) fl_X2_21 dX2_add_38 ?_
  refine ck_iload_n 3 dX2_add_41 rfl rfl ?_
  obtain ⟨b6, hq⟩ := hq
  refine ck_iast rfl rfl b6 dX2_add_42 ?_
  refine ck_nmH (fun h7 eh7 => ?_)
  have hq := hq h7 eh7
  refine ck_aload_n 0 dX2_add_43 rfl rfl ?_
  refine ck_dup dX2_add_44 rfl ?_
  refine ck_getI clX2 3 rfl rfl (by decide) fl_X2_21 dX2_add_45 ?_
  refine ck_iconst (v := 1) dX2_add_48 (by decide) ?_
  refine ck_iadd dX2_add_49 ?_
  refine ck_putI clX2 3 rfl rfl (by decide) fl_X2_21 rfl rfl rfl dX2_add_50 ?_
  refine ck_nmH (fun h8 eh8 => ?_)
  have hq := hq h8 eh8
  exact ck_vret rfl rfl rfl dX2_add_53 ⟨rfl, rfl, hq⟩
set_option maxHeartbeats 4000000 in
set_option maxRecDepth 100000 in
theorem c_X2_add {gr : Bool} {x1 : Int32} {x2 : Int32} {x3 : Int32} {h : ck_H} {Q : ck_H → Prop} (hq : wp_X2_add x1 x2 x3 h Q) : ck_M yX2_add cX2_add 4 none 3 0 0 gr ck_shX h [.ref 28, .int x1, .int x2, .int x3] (ck_Qv ck_shX Q) := by
  refine ck_entry (lv := [(0, .ref 28), (1, .int x1), (2, .int x2), (3, .int x3)]) false (own := RX2) rfl (fun q => by cases q) (by decide) (Nat.le_of_ble_eq_true rfl) rfl ?_
  refine ck_aload_n 0 dX2_add_0 rfl rfl ?_
  refine ck_getI clX2 3 rfl rfl (by decide) fl_X2_21 dX2_add_1 ?_
  refine ck_bipush (v := 20) dX2_add_4 (by decide) ?_
  refine ck_icmp_ne (tgt := 13) dX2_add_6 (by decide) (fun c1 => ?_) (fun c1 => ?_)
  · have hq := hq.1 c1
    exact cp_X2_add_13 _ _ _ _ hq
  · have hq := hq.2 c1
    refine ck_aload_n 0 dX2_add_9 rfl rfl ?_
    refine ck_callV (c_X2_forgetFirst hq) rfl cal_X2_forgetFirst rfl ml_X2_25 vir_X2_forgetFirst rfl rfl (by decide) (Nat.le_of_ble_eq_true rfl) (Nat.le_of_ble_eq_true rfl) (by decide) (by decide) dX2_add_10 ?_
    rintro _ _ h9 ⟨rfl, rfl, hq⟩
    exact cp_X2_add_13 _ _ _ _ hq
def wp_X2_takeBackLatest (h : ck_H) (Q : ck_H → Prop) : Prop := ((¬ (h.1 28 3) = 0 → (∀ h2, h2 = ck_sI h 28 3 ((h.1 28 3) - (1 : Int32)) → (vp_in (h2.1 28 3) 20 ∧ (∀ v4, v4 = (h2.1 30 (h2.1 28 3).toNatClampNeg) → (vp_in (h2.1 28 3) 20 ∧ (((h2.1 29 (h2.1 28 3).toNatClampNeg) = 0 → (vp_in (h2.1 28 3) 20 ∧ (vp_in v4 10 ∧ (∀ h9, h9 = ck_sI h2 9 v4.toNatClampNeg (h2.1 31 (h2.1 28 3).toNatClampNeg) → Q h9)))) ∧ (¬ (h2.1 29 (h2.1 28 3).toNatClampNeg) = 0 → (((h2.1 29 (h2.1 28 3).toNatClampNeg) = 1 → (vp_in (h2.1 28 3) 20 ∧ (∀ h12, h12 = ck_sI h2 7 4 (h2.1 31 (h2.1 28 3).toNatClampNeg) → Q h12))) ∧ (¬ (h2.1 29 (h2.1 28 3).toNatClampNeg) = 1 → (((h2.1 29 (h2.1 28 3).toNatClampNeg) = 2 → (vp_in (h2.1 28 3) 20 ∧ (vp_in v4 10 ∧ (∀ h16, h16 = ck_sI h2 10 v4.toNatClampNeg (h2.1 31 (h2.1 28 3).toNatClampNeg) → Q h16)))) ∧ (¬ (h2.1 29 (h2.1 28 3).toNatClampNeg) = 2 → (vp_in (h2.1 28 3) 20 ∧ (∀ h18, h18 = ck_sI h2 7 6 (h2.1 31 (h2.1 28 3).toNatClampNeg) → Q h18))))))))))))) ∧ ((h.1 28 3) = 0 → Q h))
set_option maxHeartbeats 4000000 in
set_option maxRecDepth 100000 in
theorem c_X2_takeBackLatest {gr : Bool} {h : ck_H} {Q : ck_H → Prop} (hq : wp_X2_takeBackLatest h Q) : ck_M yX2_takeBackLatest cX2_takeBackLatest 3 none 2 0 0 gr ck_shX h [.ref 28, .ref 7] (ck_Qv ck_shX Q) := by
  refine ck_entry (lv := [(0, .ref 28), (1, .ref 7)]) false (own := RX2) rfl (fun q => by cases q) (by decide) (Nat.le_of_ble_eq_true rfl) rfl ?_
  refine ck_aload_n 0 dX2_takeBackLatest_0 rfl rfl ?_
  refine ck_getI clX2 3 rfl rfl (by decide) fl_X2_21 dX2_takeBackLatest_1 ?_
  refine ck_if_ne (tgt := 8) dX2_takeBackLatest_4 (by decide) (fun c1 => ?_) (fun c1 => ?_)
  · have hq := hq.1 c1
    refine ck_aload_n 0 dX2_takeBackLatest_8 rfl rfl ?_
    refine ck_dup dX2_takeBackLatest_9 rfl ?_
    refine ck_getI clX2 3 rfl rfl (by decide) fl_X2_21 dX2_takeBackLatest_10 ?_
    refine ck_iconst (v := 1) dX2_takeBackLatest_13 (by decide) ?_
    refine ck_isub dX2_takeBackLatest_14 ?_
    refine ck_putI clX2 3 rfl rfl (by decide) fl_X2_21 rfl rfl rfl dX2_takeBackLatest_15 ?_
    refine ck_nmH (fun h2 eh2 => ?_)
    have hq := hq h2 eh2
    refine ck_aload_n 0 dX2_takeBackLatest_18 rfl rfl ?_
    refine ck_getR clX2 1 rfl rfl (by decide) fl_X2_15 dX2_takeBackLatest_19 ?_
    refine ck_aload_n 0 dX2_takeBackLatest_22 rfl rfl ?_
    refine ck_getI clX2 3 rfl rfl (by decide) fl_X2_21 dX2_takeBackLatest_23 ?_
    obtain ⟨b3, hq⟩ := hq
    refine ck_iald rfl rfl b3 dX2_takeBackLatest_26 ?_
    refine ck_nmI (fun v4 ev4 => ?_)
    have hq := hq v4 ev4
    refine ck_istore_n (lv' := [(2, .int v4), (0, .ref 28), (1, .ref 7)]) dX2_takeBackLatest_27 rfl (by decide) rfl ?_
    refine ck_aload_n 1 dX2_takeBackLatest_28 rfl rfl ?_
    refine ck_getR clX2 0 rfl rfl (by decide) fl_X2_9 dX2_takeBackLatest_29 ?_
    refine ck_aload_n 1 dX2_takeBackLatest_32 rfl rfl ?_
    refine ck_getI clX2 3 rfl rfl (by decide) fl_X2_21 dX2_takeBackLatest_33 ?_
    obtain ⟨b5, hq⟩ := hq
    refine ck_iald rfl rfl b5 dX2_takeBackLatest_36 ?_
    by_cases c6 : (h2.1 29 (h2.1 28 3).toNatClampNeg) = 0
    · have hq := hq.1 c6
      refine ck_tabIn (tgt := 64) dX2_takeBackLatest_37 (by rw [c6]; decide) (by rw [c6]; decide) (by rw [c6]; rfl) (by decide) ?_
      refine ck_aload_n 2 dX2_takeBackLatest_64 rfl rfl ?_
      refine ck_getRN clX1 1 rfl rfl (by decide) fl_X2_34 dX2_takeBackLatest_65 ?_
      refine ck_iload_n 0 dX2_takeBackLatest_68 rfl rfl ?_
      refine ck_aload_n 1 dX2_takeBackLatest_69 rfl rfl ?_
      refine ck_getR clX2 2 rfl rfl (by decide) fl_X2_18 dX2_takeBackLatest_70 ?_
      refine ck_aload_n 1 dX2_takeBackLatest_73 rfl rfl ?_
      refine ck_getI clX2 3 rfl rfl (by decide) fl_X2_21 dX2_takeBackLatest_74 ?_
      obtain ⟨b7, hq⟩ := hq
      refine ck_iald rfl rfl b7 dX2_takeBackLatest_77 ?_
      obtain ⟨b8, hq⟩ := hq
      refine ck_iast rfl rfl b8 dX2_takeBackLatest_78 ?_
      refine ck_nmH (fun h9 eh9 => ?_)
      have hq := hq h9 eh9
      refine ck_goto (tgt := 129) dX2_takeBackLatest_79 (by decide) ?_
      exact ck_vret rfl rfl rfl dX2_takeBackLatest_129 ⟨rfl, rfl, hq⟩
    have hq := hq.2 c6
    by_cases c10 : (h2.1 29 (h2.1 28 3).toNatClampNeg) = 1
    · have hq := hq.1 c10
      refine ck_tabIn (tgt := 82) dX2_takeBackLatest_37 (by rw [c10]; decide) (by rw [c10]; decide) (by rw [c10]; rfl) (by decide) ?_
      refine ck_aload_n 2 dX2_takeBackLatest_82 rfl rfl ?_
      refine ck_aload_n 1 dX2_takeBackLatest_83 rfl rfl ?_
      refine ck_getR clX2 2 rfl rfl (by decide) fl_X2_18 dX2_takeBackLatest_84 ?_
      refine ck_aload_n 1 dX2_takeBackLatest_87 rfl rfl ?_
      refine ck_getI clX2 3 rfl rfl (by decide) fl_X2_21 dX2_takeBackLatest_88 ?_
      obtain ⟨b11, hq⟩ := hq
      refine ck_iald rfl rfl b11 dX2_takeBackLatest_91 ?_
      refine ck_putIN clX1 4 rfl rfl (by decide) fl_X2_39 rfl rfl rfl dX2_takeBackLatest_92 ?_
      refine ck_nmH (fun h12 eh12 => ?_)
      have hq := hq h12 eh12
      refine ck_goto (tgt := 129) dX2_takeBackLatest_95 (by decide) ?_
      exact ck_vret rfl rfl rfl dX2_takeBackLatest_129 ⟨rfl, rfl, hq⟩
    have hq := hq.2 c10
    by_cases c13 : (h2.1 29 (h2.1 28 3).toNatClampNeg) = 2
    · have hq := hq.1 c13
      refine ck_tabIn (tgt := 98) dX2_takeBackLatest_37 (by rw [c13]; decide) (by rw [c13]; decide) (by rw [c13]; rfl) (by decide) ?_
      refine ck_aload_n 2 dX2_takeBackLatest_98 rfl rfl ?_
      refine ck_getRN clX1 2 rfl rfl (by decide) fl_X2_42 dX2_takeBackLatest_99 ?_
      refine ck_iload_n 0 dX2_takeBackLatest_102 rfl rfl ?_
      refine ck_aload_n 1 dX2_takeBackLatest_103 rfl rfl ?_
      refine ck_getR clX2 2 rfl rfl (by decide) fl_X2_18 dX2_takeBackLatest_104 ?_
      refine ck_aload_n 1 dX2_takeBackLatest_107 rfl rfl ?_
      refine ck_getI clX2 3 rfl rfl (by decide) fl_X2_21 dX2_takeBackLatest_108 ?_
      obtain ⟨b14, hq⟩ := hq
      refine ck_iald rfl rfl b14 dX2_takeBackLatest_111 ?_
      obtain ⟨b15, hq⟩ := hq
      refine ck_iast rfl rfl b15 dX2_takeBackLatest_112 ?_
      refine ck_nmH (fun h16 eh16 => ?_)
      have hq := hq h16 eh16
      refine ck_goto (tgt := 129) dX2_takeBackLatest_113 (by decide) ?_
      exact ck_vret rfl rfl rfl dX2_takeBackLatest_129 ⟨rfl, rfl, hq⟩
    have hq := hq.2 c13
    refine ck_tabOut (tgt := 116) dX2_takeBackLatest_37 (by have z0 := lv_neT c6 (a := 0) (by decide); have z1 := lv_neT c10 (a := 1) (by decide); have z2 := lv_neT c13 (a := 2) (by decide); omega) (by decide) ?_
    refine ck_aload_n 2 dX2_takeBackLatest_116 rfl rfl ?_
    refine ck_aload_n 1 dX2_takeBackLatest_117 rfl rfl ?_
    refine ck_getR clX2 2 rfl rfl (by decide) fl_X2_18 dX2_takeBackLatest_118 ?_
    refine ck_aload_n 1 dX2_takeBackLatest_121 rfl rfl ?_
    refine ck_getI clX2 3 rfl rfl (by decide) fl_X2_21 dX2_takeBackLatest_122 ?_
    obtain ⟨b17, hq⟩ := hq
    refine ck_iald rfl rfl b17 dX2_takeBackLatest_125 ?_
    refine ck_putIN clX1 6 rfl rfl (by decide) fl_X2_45 rfl rfl rfl dX2_takeBackLatest_126 ?_
    refine ck_nmH (fun h18 eh18 => ?_)
    have hq := hq h18 eh18
    exact ck_vret rfl rfl rfl dX2_takeBackLatest_129 ⟨rfl, rfl, hq⟩
  · have hq := hq.2 c1
    exact ck_vret rfl rfl rfl dX2_takeBackLatest_7 ⟨rfl, rfl, hq⟩
def wp_X6_clear (h : ck_H) (Q : ck_H → Prop) : Prop := (∀ h1, h1 = ck_sI h 22 5 (0 : Int32) → (∀ h2, h2 = ck_sI h1 22 6 (-1 : Int32) → Q h2))
set_option maxHeartbeats 4000000 in
set_option maxRecDepth 100000 in
theorem c_X6_clear {gr : Bool} {h : ck_H} {Q : ck_H → Prop} (hq : wp_X6_clear h Q) : ck_M yX6_clear cX6_clear 1 none 2 0 0 gr ck_shX3 h [.ref 22] (ck_Qv ck_shX3 Q) := by
  refine ck_entry (lv := [(0, .ref 22)]) false (own := RX6) rfl (fun q => by cases q) (by decide) (Nat.le_of_ble_eq_true rfl) rfl ?_
  refine ck_aload_n 0 dX6_clear_0 rfl rfl ?_
  refine ck_iconst (v := 0) dX6_clear_1 (by decide) ?_
  refine ck_putI clX6 5 rfl rfl (by decide) fl_X6_32 rfl rfl rfl dX6_clear_2 ?_
  refine ck_nmH (fun h1 eh1 => ?_)
  have hq := hq h1 eh1
  refine ck_aload_n 0 dX6_clear_5 rfl rfl ?_
  refine ck_iconst (v := -1) dX6_clear_6 (by decide) ?_
  refine ck_putI clX6 6 rfl rfl (by decide) fl_X6_28 rfl rfl rfl dX6_clear_7 ?_
  refine ck_nmH (fun h2 eh2 => ?_)
  have hq := hq h2 eh2
  exact ck_vret rfl rfl rfl dX6_clear_10 ⟨rfl, rfl, hq⟩
def wp_X6_add (x1 : Int32) (x2 : Int32) (x3 : Int32) (x4 : Int32) (h : ck_H) (Q : Int32 → ck_H → Prop) : Prop := (((h.1 22 5) < (24 : Int32) → (vp_in (h.1 22 5) 24 ∧ (∀ h3, h3 = ck_sI h 23 (h.1 22 5).toNatClampNeg x1 → (vp_in (h3.1 22 5) 24 ∧ (∀ h5, h5 = ck_sI h3 24 (h3.1 22 5).toNatClampNeg x2 → (vp_in (h5.1 22 5) 24 ∧ (∀ h7, h7 = ck_sI h5 25 (h5.1 22 5).toNatClampNeg (vp_nar .boolean x3) → (vp_in (h7.1 22 5) 24 ∧ (∀ h9, h9 = ck_sI h7 26 (h7.1 22 5).toNatClampNeg x4 → (∀ h10, h10 = ck_sI h9 22 5 ((h9.1 22 5) + (1 : Int32)) → Q ((h10.1 22 5) - (1 : Int32)) h10)))))))))) ∧ (¬ (h.1 22 5) < (24 : Int32) → Q (-1 : Int32) h))
set_option maxHeartbeats 4000000 in
set_option maxRecDepth 100000 in
theorem c_X6_add {gr : Bool} {x1 : Int32} {x2 : Int32} {x3 : Int32} {x4 : Int32} {h : ck_H} {Q : Int32 → ck_H → Prop} (hq : wp_X6_add x1 x2 x3 x4 h Q) : ck_M yX6_add cX6_add 5 (some .int) 2 0 0 gr ck_shX h [.ref 22, .int x1, .int x2, .int x3, .int x4] (ck_Qi ck_shX Q) := by
  refine ck_entry (lv := [(0, .ref 22), (1, .int x1), (2, .int x2), (3, .int x3), (4, .int x4)]) false (own := RX6) rfl (fun q => by cases q) (by decide) (Nat.le_of_ble_eq_true rfl) rfl ?_
  refine ck_aload_n 0 dX6_add_0 rfl rfl ?_
  refine ck_getI clX6 5 rfl rfl (by decide) fl_X6_32 dX6_add_1 ?_
  refine ck_bipush (v := 24) dX6_add_4 (by decide) ?_
  refine ck_icmp_lt (tgt := 11) dX6_add_6 (by decide) (fun c1 => ?_) (fun c1 => ?_)
  · have hq := hq.1 c1
    refine ck_aload_n 0 dX6_add_11 rfl rfl ?_
    refine ck_getR clX6 0 rfl rfl (by decide) fl_X6_9 dX6_add_12 ?_
    refine ck_aload_n 0 dX6_add_15 rfl rfl ?_
    refine ck_getI clX6 5 rfl rfl (by decide) fl_X6_32 dX6_add_16 ?_
    refine ck_iload_n 1 dX6_add_19 rfl rfl ?_
    obtain ⟨b2, hq⟩ := hq
    refine ck_iast rfl rfl b2 dX6_add_20 ?_
    refine ck_nmH (fun h3 eh3 => ?_)
    have hq := hq h3 eh3
    refine ck_aload_n 0 dX6_add_21 rfl rfl ?_
    refine ck_getR clX6 1 rfl rfl (by decide) fl_X6_15 dX6_add_22 ?_
    refine ck_aload_n 0 dX6_add_25 rfl rfl ?_
    refine ck_getI clX6 5 rfl rfl (by decide) fl_X6_32 dX6_add_26 ?_
    refine ck_iload_n 2 dX6_add_29 rfl rfl ?_
    obtain ⟨b4, hq⟩ := hq
    refine ck_iast rfl rfl b4 dX6_add_30 ?_
    refine ck_nmH (fun h5 eh5 => ?_)
    have hq := hq h5 eh5
    refine ck_aload_n 0 dX6_add_31 rfl rfl ?_
    refine ck_getR clX6 2 rfl rfl (by decide) fl_X6_18 dX6_add_32 ?_
    refine ck_aload_n 0 dX6_add_35 rfl rfl ?_
    refine ck_getI clX6 5 rfl rfl (by decide) fl_X6_32 dX6_add_36 ?_
    refine ck_iload_n 3 dX6_add_39 rfl rfl ?_
    obtain ⟨b6, hq⟩ := hq
    refine ck_zast rfl rfl b6 dX6_add_40 ?_
    refine ck_nmH (fun h7 eh7 => ?_)
    have hq := hq h7 eh7
    refine ck_aload_n 0 dX6_add_41 rfl rfl ?_
    refine ck_getR clX6 3 rfl rfl (by decide) fl_X6_22 dX6_add_42 ?_
    refine ck_aload_n 0 dX6_add_45 rfl rfl ?_
    refine ck_getI clX6 5 rfl rfl (by decide) fl_X6_32 dX6_add_46 ?_
    refine ck_iload 4 dX6_add_49 rfl ?_
    obtain ⟨b8, hq⟩ := hq
    refine ck_iast rfl rfl b8 dX6_add_51 ?_
    refine ck_nmH (fun h9 eh9 => ?_)
    have hq := hq h9 eh9
    refine ck_aload_n 0 dX6_add_52 rfl rfl ?_
    refine ck_dup dX6_add_53 rfl ?_
    refine ck_getI clX6 5 rfl rfl (by decide) fl_X6_32 dX6_add_54 ?_
    refine ck_iconst (v := 1) dX6_add_57 (by decide) ?_
    refine ck_iadd dX6_add_58 ?_
    refine ck_putI clX6 5 rfl rfl (by decide) fl_X6_32 rfl rfl rfl dX6_add_59 ?_
    refine ck_nmH (fun h10 eh10 => ?_)
    have hq := hq h10 eh10
    refine ck_aload_n 0 dX6_add_62 rfl rfl ?_
    refine ck_getI clX6 5 rfl rfl (by decide) fl_X6_32 dX6_add_63 ?_
    refine ck_iconst (v := 1) dX6_add_66 (by decide) ?_
    refine ck_isub dX6_add_67 ?_
    exact ck_iret rfl rfl rfl rfl dX6_add_68 ⟨_, rfl, rfl, hq⟩
  · have hq := hq.2 c1
    refine ck_iconst (v := -1) dX6_add_9 (by decide) ?_
    exact ck_iret rfl rfl rfl rfl dX6_add_10 ⟨_, rfl, rfl, hq⟩
def wp_X6_countConsidered (h : ck_H) (Q : Int32 → ck_H → Prop) : Prop := ((¬ (h.1 22 6) = (-1 : Int32) → Q (h.1 22 6) h) ∧ ((h.1 22 6) = (-1 : Int32) → Q (h.1 22 5) h))
set_option maxHeartbeats 4000000 in
set_option maxRecDepth 100000 in
theorem c_X6_countConsidered {gr : Bool} {h : ck_H} {Q : Int32 → ck_H → Prop} (hq : wp_X6_countConsidered h Q) : ck_M yX6_countConsidered cX6_countConsidered 1 (some .int) 2 0 0 gr ck_shX h [.ref 22] (ck_Qi ck_shX Q) := by
  refine ck_entry (lv := [(0, .ref 22)]) false (own := RX6) rfl (fun q => by cases q) (by decide) (Nat.le_of_ble_eq_true rfl) rfl ?_
  refine ck_aload_n 0 dX6_countConsidered_0 rfl rfl ?_
  refine ck_getI clX6 6 rfl rfl (by decide) fl_X6_28 dX6_countConsidered_1 ?_
  refine ck_iconst (v := -1) dX6_countConsidered_4 (by decide) ?_
  refine ck_icmp_ne (tgt := 15) dX6_countConsidered_5 (by decide) (fun c1 => ?_) (fun c1 => ?_)
  · have hq := hq.1 c1
    refine ck_aload_n 0 dX6_countConsidered_15 rfl rfl ?_
    refine ck_getI clX6 6 rfl rfl (by decide) fl_X6_28 dX6_countConsidered_16 ?_
    exact ck_iret rfl rfl rfl rfl dX6_countConsidered_19 ⟨_, rfl, rfl, hq⟩
  · have hq := hq.2 c1
    refine ck_aload_n 0 dX6_countConsidered_8 rfl rfl ?_
    refine ck_getI clX6 5 rfl rfl (by decide) fl_X6_32 dX6_countConsidered_9 ?_
    refine ck_goto (tgt := 19) dX6_countConsidered_12 (by decide) ?_
    exact ck_iret rfl rfl rfl rfl dX6_countConsidered_19 ⟨_, rfl, rfl, hq⟩
def wp_X6_findStruck_2 (Q : ck_H → Prop) (K21 : ck_H → Prop) : Nat → Int32 → ck_H → Prop
  | 0 => fun _ _ => False
  | n + 1 => fun x1 h => (((24 : Int32) ≤ x1 → K21 h) ∧ (¬ (24 : Int32) ≤ x1 → (vp_in x1 24 ∧ (∀ h3, h3 = ck_sI h 27 x1.toNatClampNeg (vp_nar .boolean (0 : Int32)) → (∀ v4, v4 = x1 + 1 → (wp_X6_findStruck_2 Q K21 n) v4 h3)))))
def wp_X6_findStruck_63 (Q : ck_H → Prop) (Kc : Int32 → ck_H → Prop) (x1 : Int32) (h : ck_H) : Prop := (∀ v12, v12 = x1 + (-1) → Kc v12 h)
def wp_X6_findStruck_28 (Q : ck_H → Prop) : Nat → Int32 → ck_H → Prop
  | 0 => fun _ _ => False
  | n + 1 => fun x1 h => ((x1 < 0 → Q h) ∧ (¬ x1 < 0 → (vp_in x1 24 ∧ ((¬ (h.1 27 x1.toNatClampNeg) = 0 → wp_X6_findStruck_63 Q (wp_X6_findStruck_28 Q n) x1 h) ∧ ((h.1 27 x1.toNatClampNeg) = 0 → (vp_in x1 24 ∧ (((h.1 26 x1.toNatClampNeg) = (-1 : Int32) → wp_X6_findStruck_63 Q (wp_X6_findStruck_28 Q n) x1 h) ∧ (¬ (h.1 26 x1.toNatClampNeg) = (-1 : Int32) → (vp_in x1 24 ∧ (vp_in (h.1 26 x1.toNatClampNeg) 24 ∧ (∀ h17, h17 = ck_sI h 27 (h.1 26 x1.toNatClampNeg).toNatClampNeg (vp_nar .boolean (1 : Int32)) → wp_X6_findStruck_63 Q (wp_X6_findStruck_28 Q n) x1 h17)))))))))))
def wp_X6_findStruck (h : ck_H) (Q : ck_H → Prop) : Prop := wp_X6_findStruck_2 Q (fun h5 => (wp_X6_countConsidered h5 (fun r7 h6 => (∀ v8, v8 = (r7 - (1 : Int32)) → wp_X6_findStruck_28 Q lpN v8 h6)))) lpN (0 : Int32) h
set_option maxHeartbeats 4000000 in
set_option maxRecDepth 100000 in
theorem cp_X6_findStruck_2 {gr : Bool} {Q : ck_H → Prop} {K21 : ck_H → Prop} (hK21 : ∀ (h : ck_H), K21 h → ck_W cX6_findStruck 2 RX6 none 3 0 0 false gr (ck_Qv ck_shX Q) ck_shX h 0 0 21 [(0, .ref 22)] []) : ∀ (n : Nat) (x1 : Int32) (h : ck_H), wp_X6_findStruck_2 Q K21 n x1 h → ck_W cX6_findStruck 2 RX6 none 3 0 0 false gr (ck_Qv ck_shX Q) ck_shX h 0 0 2 [(0, .ref 22), (1, .int x1)] [] := by
  intro n
  induction n with
  | zero => intro x1 h hq; exact hq.elim
  | succ n hKc =>
    intro x1 h hq
    refine ck_iload_n 1 dX6_findStruck_2 rfl rfl ?_
    refine ck_bipush (v := 24) dX6_findStruck_3 (by decide) ?_
    refine ck_icmp_ge (tgt := 21) dX6_findStruck_5 (by decide) (fun c1 => ?_) (fun c1 => ?_)
    · have hq := hq.1 c1
      refine ck_loc [0] rfl ?_
      exact hK21  _ hq
    · have hq := hq.2 c1
      refine ck_aload_n 0 dX6_findStruck_8 rfl rfl ?_
      refine ck_getR clX6 4 rfl rfl (by decide) fl_X6_25 dX6_findStruck_9 ?_
      refine ck_iload_n 1 dX6_findStruck_12 rfl rfl ?_
      refine ck_iconst (v := 0) dX6_findStruck_13 (by decide) ?_
      obtain ⟨b2, hq⟩ := hq
      refine ck_zast rfl rfl b2 dX6_findStruck_14 ?_
      refine ck_nmH (fun h3 eh3 => ?_)
      have hq := hq h3 eh3
      obtain ⟨v4, ev4⟩ : ∃ z : Int32, z = x1 + 1 := ⟨_, rfl⟩
      have hq := hq v4 ev4
      refine ck_iinc (v := v4) (lv' := [(1, .int v4), (0, .ref 22)]) 1 dX6_findStruck_15 rfl (by rw [ev4]; rfl) (by decide) rfl ?_
      refine ck_goto (tgt := 2) dX6_findStruck_18 (by decide) ?_
      refine ck_loc [1, 0] rfl ?_
      exact hKc _ _ hq
set_option maxHeartbeats 4000000 in
set_option maxRecDepth 100000 in
theorem cp_X6_findStruck_63 {gr : Bool} {Q : ck_H → Prop} {Kc : Int32 → ck_H → Prop} (hKc : ∀ (x1 : Int32) (h : ck_H), Kc x1 h → ck_W cX6_findStruck 2 RX6 none 3 0 0 false gr (ck_Qv ck_shX Q) ck_shX h 0 0 28 [(0, .ref 22), (1, .int x1)] []) : ∀ (x1 : Int32) (h : ck_H), wp_X6_findStruck_63 Q Kc x1 h → ck_W cX6_findStruck 2 RX6 none 3 0 0 false gr (ck_Qv ck_shX Q) ck_shX h 0 0 63 [(0, .ref 22), (1, .int x1)] [] := by
  intro x1 h hq
  obtain ⟨v12, ev12⟩ : ∃ z : Int32, z = x1 + (-1) := ⟨_, rfl⟩
  have hq := hq v12 ev12
  refine ck_iinc (v := v12) (lv' := [(1, .int v12), (0, .ref 22)]) 1 dX6_findStruck_63 rfl (by rw [ev12]; rfl) (by decide) rfl ?_
  refine ck_goto (tgt := 28) dX6_findStruck_66 (by decide) ?_
  refine ck_loc [1, 0] rfl ?_
  exact hKc _ _ hq
set_option maxHeartbeats 4000000 in
set_option maxRecDepth 100000 in
theorem cp_X6_findStruck_28 {gr : Bool} {Q : ck_H → Prop} : ∀ (n : Nat) (x1 : Int32) (h : ck_H), wp_X6_findStruck_28 Q n x1 h → ck_W cX6_findStruck 2 RX6 none 3 0 0 false gr (ck_Qv ck_shX Q) ck_shX h 0 0 28 [(0, .ref 22), (1, .int x1)] [] := by
  intro n
  induction n with
  | zero => intro x1 h hq; exact hq.elim
  | succ n hKc =>
    intro x1 h hq
    refine ck_iload_n 1 dX6_findStruck_28 rfl rfl ?_
    refine ck_if_lt (tgt := 69) dX6_findStruck_29 (by decide) (fun c9 => ?_) (fun c9 => ?_)
    · have hq := hq.1 c9
      exact ck_vret rfl rfl rfl dX6_findStruck_69 ⟨rfl, rfl, hq⟩
    · have hq := hq.2 c9
      refine ck_aload_n 0 dX6_findStruck_32 rfl rfl ?_
      refine ck_getR clX6 4 rfl rfl (by decide) fl_X6_25 dX6_findStruck_33 ?_
      refine ck_iload_n 1 dX6_findStruck_36 rfl rfl ?_
      obtain ⟨b10, hq⟩ := hq
      refine ck_zald rfl rfl b10 dX6_findStruck_37 ?_
      refine ck_if_ne (tgt := 63) dX6_findStruck_38 (by decide) (fun c11 => ?_) (fun c11 => ?_)
      · have hq := hq.1 c11
        exact cp_X6_findStruck_63 hKc _ _ hq
      · have hq := hq.2 c11
        refine ck_aload_n 0 dX6_findStruck_41 rfl rfl ?_
        refine ck_getR clX6 3 rfl rfl (by decide) fl_X6_22 dX6_findStruck_42 ?_
        refine ck_iload_n 1 dX6_findStruck_45 rfl rfl ?_
        obtain ⟨b13, hq⟩ := hq
        refine ck_iald rfl rfl b13 dX6_findStruck_46 ?_
        refine ck_iconst (v := -1) dX6_findStruck_47 (by decide) ?_
        refine ck_icmp_eq (tgt := 63) dX6_findStruck_48 (by decide) (fun c14 => ?_) (fun c14 => ?_)
        · have hq := hq.1 c14
          exact cp_X6_findStruck_63 hKc _ _ hq
        · have hq := hq.2 c14
          refine ck_aload_n 0 dX6_findStruck_51 rfl rfl ?_
          refine ck_getR clX6 4 rfl rfl (by decide) fl_X6_25 dX6_findStruck_52 ?_
          refine ck_aload_n 0 dX6_findStruck_55 rfl rfl ?_
          refine ck_getR clX6 3 rfl rfl (by decide) fl_X6_22 dX6_findStruck_56 ?_
          refine ck_iload_n 1 dX6_findStruck_59 rfl rfl ?_
          obtain ⟨b15, hq⟩ := hq
          refine ck_iald rfl rfl b15 dX6_findStruck_60 ?_
          refine ck_iconst (v := 1) dX6_findStruck_61 (by decide) ?_
          obtain ⟨b16, hq⟩ := hq
          refine ck_zast rfl rfl b16 dX6_findStruck_62 ?_
          refine ck_nmH (fun h17 eh17 => ?_)
          have hq := hq h17 eh17
          exact cp_X6_findStruck_63 hKc _ _ hq
set_option maxHeartbeats 4000000 in
set_option maxRecDepth 100000 in
theorem c_X6_findStruck {gr : Bool} {h : ck_H} {Q : ck_H → Prop} (hq : wp_X6_findStruck h Q) : ck_M yX6_findStruck cX6_findStruck 2 none 3 0 0 gr ck_shX h [.ref 22] (ck_Qv ck_shX Q) := by
  refine ck_entry (lv := [(0, .ref 22)]) false (own := RX6) rfl (fun q => by cases q) (by decide) (Nat.le_of_ble_eq_true rfl) rfl ?_
  refine ck_iconst (v := 0) dX6_findStruck_0 (by decide) ?_
  refine ck_istore_n (lv' := [(1, .int (0 : Int32)), (0, .ref 22)]) dX6_findStruck_1 rfl (by decide) rfl ?_
  refine ck_loc [1, 0] rfl ?_
  refine cp_X6_findStruck_2 (fun h5 hq => ?_) lpN _ _ hq
  · refine ck_aload_n 0 dX6_findStruck_21 rfl rfl ?_
    refine ck_callV (c_X6_countConsidered hq) rfl cal_X6_countConsidered rfl ml_X6_35 vir_X6_countConsidered rfl rfl (by decide) (Nat.le_of_ble_eq_true rfl) (Nat.le_of_ble_eq_true rfl) (by decide) (by decide) dX6_findStruck_22 ?_
    rintro _ _ h6 ⟨r7, rfl, rfl, hq⟩
    refine ck_iconst (v := 1) dX6_findStruck_25 (by decide) ?_
    refine ck_isub dX6_findStruck_26 ?_
    refine ck_nmI (fun v8 ev8 => ?_)
    have hq := hq v8 ev8
    refine ck_istore_n (lv' := [(1, .int v8), (0, .ref 22)]) dX6_findStruck_27 rfl (by decide) rfl ?_
    refine ck_loc [1, 0] rfl ?_
    refine cp_X6_findStruck_28 lpN _ _ hq
def wp_X6_agreeWith_75 (Q : Int32 → ck_H → Prop) (Kc : Int32 → ck_H → Prop) (x2 : Int32) (h : ck_H) : Prop := (∀ v7, v7 = x2 + 1 → Kc v7 h)
def wp_X6_agreeWith_64 (Q : Int32 → ck_H → Prop) (Kc : Int32 → ck_H → Prop) (x2 : Int32) (y0 : Int32) (h : ck_H) : Prop := (vp_in x2 24 ∧ ((y0 = (h.1 25 x2.toNatClampNeg) → wp_X6_agreeWith_75 Q Kc x2 h) ∧ (¬ y0 = (h.1 25 x2.toNatClampNeg) → Q (0 : Int32) h)))
def wp_X6_agreeWith_34 (Q : Int32 → ck_H → Prop) (Kc : Int32 → ck_H → Prop) (x2 : Int32) (y0 : Int32) (h : ck_H) : Prop := ((y0 = 0 → wp_X6_agreeWith_75 Q Kc x2 h) ∧ (¬ y0 = 0 → (vp_in x2 24 ∧ (vp_in (h.1 23 x2.toNatClampNeg) 10 ∧ (vp_in x2 24 ∧ ((¬ (h.1 21 (h.1 23 x2.toNatClampNeg).toNatClampNeg) = (h.1 24 x2.toNatClampNeg) → wp_X6_agreeWith_64 Q Kc x2 (0 : Int32) h) ∧ ((h.1 21 (h.1 23 x2.toNatClampNeg).toNatClampNeg) = (h.1 24 x2.toNatClampNeg) → wp_X6_agreeWith_64 Q Kc x2 (1 : Int32) h)))))))
def wp_X6_agreeWith_33 (Q : Int32 → ck_H → Prop) (Kc : Int32 → ck_H → Prop) (x2 : Int32) (h : ck_H) : Prop := wp_X6_agreeWith_34 Q Kc x2 (0 : Int32) h
def wp_X6_agreeWith_2 (Q : Int32 → ck_H → Prop) : Nat → Int32 → ck_H → Prop
  | 0 => fun _ _ => False
  | n + 1 => fun x2 h => (wp_X6_countConsidered h (fun r2 h1 => ((r2 ≤ x2 → Q (1 : Int32) h1) ∧ (¬ r2 ≤ x2 → (vp_in x2 24 ∧ ((¬ (h1.1 27 x2.toNatClampNeg) = 0 → wp_X6_agreeWith_33 Q (wp_X6_agreeWith_2 Q n) x2 h1) ∧ ((h1.1 27 x2.toNatClampNeg) = 0 → (vp_in x2 24 ∧ ((¬ (h1.1 26 x2.toNatClampNeg) = (-1 : Int32) → wp_X6_agreeWith_33 Q (wp_X6_agreeWith_2 Q n) x2 h1) ∧ ((h1.1 26 x2.toNatClampNeg) = (-1 : Int32) → wp_X6_agreeWith_34 Q (wp_X6_agreeWith_2 Q n) x2 (1 : Int32) h1))))))))))
def wp_X6_agreeWith (h : ck_H) (Q : Int32 → ck_H → Prop) : Prop := wp_X6_agreeWith_2 Q lpN (0 : Int32) h
set_option maxHeartbeats 4000000 in
set_option maxRecDepth 100000 in
theorem cp_X6_agreeWith_75 {gr : Bool} {Q : Int32 → ck_H → Prop} {Kc : Int32 → ck_H → Prop} (hKc : ∀ (x2 : Int32) (h : ck_H), Kc x2 h → ck_W cX6_agreeWith 4 RX6 (some .boolean) 3 0 0 false gr (ck_Qi ck_shX Q) ck_shX h 0 0 2 [(0, .ref 22), (1, .ref 17), (2, .int x2)] []) : ∀ (x2 : Int32) (h : ck_H), wp_X6_agreeWith_75 Q Kc x2 h → ck_W cX6_agreeWith 4 RX6 (some .boolean) 3 0 0 false gr (ck_Qi ck_shX Q) ck_shX h 0 0 75 [(0, .ref 22), (1, .ref 17), (2, .int x2)] [] := by
  intro x2 h hq
  obtain ⟨v7, ev7⟩ : ∃ z : Int32, z = x2 + 1 := ⟨_, rfl⟩
  have hq := hq v7 ev7
  refine ck_iinc (v := v7) (lv' := [(2, .int v7), (0, .ref 22), (1, .ref 17)]) 2 dX6_agreeWith_75 rfl (by rw [ev7]; rfl) (by decide) rfl ?_
  refine ck_goto (tgt := 2) dX6_agreeWith_78 (by decide) ?_
  refine ck_loc [1, 2, 0] rfl ?_
  exact hKc _ _ hq
set_option maxHeartbeats 4000000 in
set_option maxRecDepth 100000 in
theorem cp_X6_agreeWith_64 {gr : Bool} {Q : Int32 → ck_H → Prop} {Kc : Int32 → ck_H → Prop} (hKc : ∀ (x2 : Int32) (h : ck_H), Kc x2 h → ck_W cX6_agreeWith 4 RX6 (some .boolean) 3 0 0 false gr (ck_Qi ck_shX Q) ck_shX h 0 0 2 [(0, .ref 22), (1, .ref 17), (2, .int x2)] []) : ∀ (x2 : Int32) (y0 : Int32) (h : ck_H), wp_X6_agreeWith_64 Q Kc x2 y0 h → ck_W cX6_agreeWith 4 RX6 (some .boolean) 3 0 0 false gr (ck_Qi ck_shX Q) ck_shX h 0 0 64 [(0, .ref 22), (1, .ref 17), (2, .int x2)] [.int y0] := by
  intro x2 y0 h hq
  refine ck_aload_n 0 dX6_agreeWith_64 rfl rfl ?_
  refine ck_getR clX6 2 rfl rfl (by decide) fl_X6_18 dX6_agreeWith_65 ?_
  refine ck_iload_n 2 dX6_agreeWith_68 rfl rfl ?_
  obtain ⟨b12, hq⟩ := hq
  refine ck_zald rfl rfl b12 dX6_agreeWith_69 ?_
  refine ck_icmp_eq (tgt := 75) dX6_agreeWith_70 (by decide) (fun c13 => ?_) (fun c13 => ?_)
  · have hq := hq.1 c13
    exact cp_X6_agreeWith_75 hKc _ _ hq
  · have hq := hq.2 c13
    refine ck_iconst (v := 0) dX6_agreeWith_73 (by decide) ?_
    exact ck_iret rfl (by decide) rfl rfl dX6_agreeWith_74 ⟨_, rfl, rfl, hq⟩
set_option maxHeartbeats 4000000 in
set_option maxRecDepth 100000 in
theorem cp_X6_agreeWith_34 {gr : Bool} {Q : Int32 → ck_H → Prop} {Kc : Int32 → ck_H → Prop} (hKc : ∀ (x2 : Int32) (h : ck_H), Kc x2 h → ck_W cX6_agreeWith 4 RX6 (some .boolean) 3 0 0 false gr (ck_Qi ck_shX Q) ck_shX h 0 0 2 [(0, .ref 22), (1, .ref 17), (2, .int x2)] []) : ∀ (x2 : Int32) (y0 : Int32) (h : ck_H), wp_X6_agreeWith_34 Q Kc x2 y0 h → ck_W cX6_agreeWith 4 RX6 (some .boolean) 3 0 0 false gr (ck_Qi ck_shX Q) ck_shX h 0 0 34 [(0, .ref 22), (1, .ref 17), (2, .int x2)] [.int y0] := by
  intro x2 y0 h hq
  refine ck_istore_n (lv' := [(3, .int y0), (0, .ref 22), (1, .ref 17), (2, .int x2)]) dX6_agreeWith_34 rfl (by decide) rfl ?_
  refine ck_iload_n 0 dX6_agreeWith_35 rfl rfl ?_
  refine ck_if_eq (tgt := 75) dX6_agreeWith_36 (by decide) (fun c6 => ?_) (fun c6 => ?_)
  · have hq := hq.1 c6
    refine ck_loc [1, 2, 3] rfl ?_
    exact cp_X6_agreeWith_75 hKc _ _ hq
  · have hq := hq.2 c6
    refine ck_aload_n 2 dX6_agreeWith_39 rfl rfl ?_
    refine ck_getRN clX1 3 rfl rfl (by decide) fl_X6_39 dX6_agreeWith_40 ?_
    refine ck_aload_n 1 dX6_agreeWith_43 rfl rfl ?_
    refine ck_getR clX6 0 rfl rfl (by decide) fl_X6_9 dX6_agreeWith_44 ?_
    refine ck_iload_n 3 dX6_agreeWith_47 rfl rfl ?_
    obtain ⟨b8, hq⟩ := hq
    refine ck_iald rfl rfl b8 dX6_agreeWith_48 ?_
    obtain ⟨b9, hq⟩ := hq
    refine ck_iald rfl rfl b9 dX6_agreeWith_49 ?_
    refine ck_aload_n 1 dX6_agreeWith_50 rfl rfl ?_
    refine ck_getR clX6 1 rfl rfl (by decide) fl_X6_15 dX6_agreeWith_51 ?_
    refine ck_iload_n 3 dX6_agreeWith_54 rfl rfl ?_
    obtain ⟨b10, hq⟩ := hq
    refine ck_iald rfl rfl b10 dX6_agreeWith_55 ?_
    refine ck_icmp_ne (tgt := 63) dX6_agreeWith_56 (by decide) (fun c11 => ?_) (fun c11 => ?_)
    · have hq := hq.1 c11
      refine ck_iconst (v := 0) dX6_agreeWith_63 (by decide) ?_
      refine ck_loc [1, 2, 3] rfl ?_
      exact cp_X6_agreeWith_64 hKc _ _ _ hq
    · have hq := hq.2 c11
      refine ck_iconst (v := 1) dX6_agreeWith_59 (by decide) ?_
      refine ck_goto (tgt := 64) dX6_agreeWith_60 (by decide) ?_
      refine ck_loc [1, 2, 3] rfl ?_
      exact cp_X6_agreeWith_64 hKc _ _ _ hq
set_option maxHeartbeats 4000000 in
set_option maxRecDepth 100000 in
theorem cp_X6_agreeWith_33 {gr : Bool} {Q : Int32 → ck_H → Prop} {Kc : Int32 → ck_H → Prop} (hKc : ∀ (x2 : Int32) (h : ck_H), Kc x2 h → ck_W cX6_agreeWith 4 RX6 (some .boolean) 3 0 0 false gr (ck_Qi ck_shX Q) ck_shX h 0 0 2 [(0, .ref 22), (1, .ref 17), (2, .int x2)] []) : ∀ (x2 : Int32) (h : ck_H), wp_X6_agreeWith_33 Q Kc x2 h → ck_W cX6_agreeWith 4 RX6 (some .boolean) 3 0 0 false gr (ck_Qi ck_shX Q) ck_shX h 0 0 33 [(0, .ref 22), (1, .ref 17), (2, .int x2)] [] := by
  intro x2 h hq
  refine ck_iconst (v := 0) dX6_agreeWith_33 (by decide) ?_
  exact cp_X6_agreeWith_34 hKc _ _ _ hq
set_option maxHeartbeats 4000000 in
set_option maxRecDepth 100000 in
theorem cp_X6_agreeWith_2 {gr : Bool} {Q : Int32 → ck_H → Prop} : ∀ (n : Nat) (x2 : Int32) (h : ck_H), wp_X6_agreeWith_2 Q n x2 h → ck_W cX6_agreeWith 4 RX6 (some .boolean) 3 0 0 false gr (ck_Qi ck_shX Q) ck_shX h 0 0 2 [(0, .ref 22), (1, .ref 17), (2, .int x2)] [] := by
  intro n
  induction n with
  | zero => intro x2 h hq; exact hq.elim
  | succ n hKc =>
    intro x2 h hq
    unfold wp_X6_agreeWith_2 at hq
    refine ck_iload_n 2 dX6_agreeWith_2 rfl rfl ?_
    refine ck_aload_n 0 dX6_agreeWith_3 rfl rfl ?_
    refine ck_callV (c_X6_countConsidered hq) rfl cal_X6_countConsidered rfl ml_X6_35 vir_X6_countConsidered rfl rfl (by decide) (Nat.le_of_ble_eq_true rfl) (Nat.le_of_ble_eq_true rfl) (by decide) (by decide) dX6_agreeWith_4 ?_
    rintro _ _ h1 ⟨r2, rfl, rfl, hq⟩
    refine ck_icmp_ge (tgt := 81) dX6_agreeWith_7 (by decide) (fun c3 => ?_) (fun c3 => ?_)
    · have hq := hq.1 c3
      refine ck_iconst (v := 1) dX6_agreeWith_81 (by decide) ?_
      exact ck_iret rfl (by decide) rfl rfl dX6_agreeWith_82 ⟨_, rfl, rfl, hq⟩
    · have hq := hq.2 c3
      refine ck_aload_n 0 dX6_agreeWith_10 rfl rfl ?_
      refine ck_getR clX6 4 rfl rfl (by decide) fl_X6_25 dX6_agreeWith_11 ?_
      refine ck_iload_n 2 dX6_agreeWith_14 rfl rfl ?_
      obtain ⟨b4, hq⟩ := hq
      refine ck_zald rfl rfl b4 dX6_agreeWith_15 ?_
      refine ck_if_ne (tgt := 33) dX6_agreeWith_16 (by decide) (fun c5 => ?_) (fun c5 => ?_)
      · have hq := hq.1 c5
        exact cp_X6_agreeWith_33 hKc _ _ hq
      · have hq := hq.2 c5
        refine ck_aload_n 0 dX6_agreeWith_19 rfl rfl ?_
        refine ck_getR clX6 3 rfl rfl (by decide) fl_X6_22 dX6_agreeWith_20 ?_
        refine ck_iload_n 2 dX6_agreeWith_23 rfl rfl ?_
        obtain ⟨b14, hq⟩ := hq
        refine ck_iald rfl rfl b14 dX6_agreeWith_24 ?_
        refine ck_iconst (v := -1) dX6_agreeWith_25 (by decide) ?_
        refine ck_icmp_ne (tgt := 33) dX6_agreeWith_26 (by decide) (fun c15 => ?_) (fun c15 => ?_)
        · have hq := hq.1 c15
          exact cp_X6_agreeWith_33 hKc _ _ hq
        · have hq := hq.2 c15
          refine ck_iconst (v := 1) dX6_agreeWith_29 (by decide) ?_
          refine ck_goto (tgt := 34) dX6_agreeWith_30 (by decide) ?_
          exact cp_X6_agreeWith_34 hKc _ _ _ hq
set_option maxHeartbeats 4000000 in
set_option maxRecDepth 100000 in
theorem c_X6_agreeWith {gr : Bool} {h : ck_H} {Q : Int32 → ck_H → Prop} (hq : wp_X6_agreeWith h Q) : ck_M yX6_agreeWith cX6_agreeWith 4 (some .boolean) 3 0 0 gr ck_shX h [.ref 22, .ref 17] (ck_Qi ck_shX Q) := by
  refine ck_entry (lv := [(0, .ref 22), (1, .ref 17)]) false (own := RX6) rfl (fun q => by cases q) (by decide) (Nat.le_of_ble_eq_true rfl) rfl ?_
  refine ck_iconst (v := 0) dX6_agreeWith_0 (by decide) ?_
  refine ck_istore_n (lv' := [(2, .int (0 : Int32)), (0, .ref 22), (1, .ref 17)]) dX6_agreeWith_1 rfl (by decide) rfl ?_
  refine ck_loc [1, 2, 0] rfl ?_
  refine cp_X6_agreeWith_2 lpN _ _ hq
def wp_X7_clear (h : ck_H) (Q : ck_H → Prop) : Prop := (∀ h1, h1 = ck_sI h 54 1 (0 : Int32) → (∀ h2, h2 = ck_sI h1 58 1 (0 : Int32) → (∀ h3, h3 = ck_sI h2 63 1 (0 : Int32) → (wp_X4_clear h3 (fun h4 => (∀ h5, h5 = ck_sI h4 53 12 (50 : Int32) → (∀ h6, h6 = ck_sI h5 53 13 (0 : Int32) → (∀ h7, h7 = ck_sI h6 53 14 (0 : Int32) → (∀ h8, h8 = ck_sI h7 53 15 (0 : Int32) → (∀ h9, h9 = ck_sI h8 53 16 (0 : Int32) → (∀ h10, h10 = ck_sI h9 53 17 (0 : Int32) → Q h10)))))))))))
set_option maxHeartbeats 4000000 in
set_option maxRecDepth 100000 in
theorem c_X7_clear {gr : Bool} {h : ck_H} {Q : ck_H → Prop} (hq : wp_X7_clear h Q) : ck_M yX7_clear cX7_clear 1 none 3 0 0 gr ck_shX h [.ref 53] (ck_Qv ck_shX Q) := by
  refine ck_entry (lv := [(0, .ref 53)]) false (own := RX7) rfl (fun q => by cases q) (by decide) (Nat.le_of_ble_eq_true rfl) rfl ?_
  refine ck_aload_n 0 dX7_clear_0 rfl rfl ?_
  refine ck_getR clX7 0 rfl rfl (by decide) fl_X7_14 dX7_clear_1 ?_
  refine ck_iconst (v := 0) dX7_clear_4 (by decide) ?_
  refine ck_putIN clX5 1 rfl rfl (by decide) fl_X7_62 rfl rfl rfl dX7_clear_5 ?_
  refine ck_nmH (fun h1 eh1 => ?_)
  have hq := hq h1 eh1
  refine ck_aload_n 0 dX7_clear_8 rfl rfl ?_
  refine ck_getR clX7 3 rfl rfl (by decide) fl_X7_27 dX7_clear_9 ?_
  refine ck_iconst (v := 0) dX7_clear_12 (by decide) ?_
  refine ck_putIN clX5 1 rfl rfl (by decide) fl_X7_62 rfl rfl rfl dX7_clear_13 ?_
  refine ck_nmH (fun h2 eh2 => ?_)
  have hq := hq h2 eh2
  refine ck_aload_n 0 dX7_clear_16 rfl rfl ?_
  refine ck_getR clX7 7 rfl rfl (by decide) fl_X7_39 dX7_clear_17 ?_
  refine ck_iconst (v := 0) dX7_clear_20 (by decide) ?_
  refine ck_putIN clX5 1 rfl rfl (by decide) fl_X7_62 rfl rfl rfl dX7_clear_21 ?_
  refine ck_nmH (fun h3 eh3 => ?_)
  have hq := hq h3 eh3
  refine ck_aload_n 0 dX7_clear_24 rfl rfl ?_
  refine ck_getR clX7 11 rfl rfl (by decide) fl_X7_54 dX7_clear_25 ?_
  refine ck_callV (c_X4_clear hq) rfl cal_X4_clear rfl ml_X7_65 vir_X4_clear rfl rfl (by decide) (Nat.le_of_ble_eq_true rfl) (Nat.le_of_ble_eq_true rfl) (by decide) (by decide) dX7_clear_28 ?_
  rintro _ _ h4 ⟨rfl, rfl, hq⟩
  refine ck_aload_n 0 dX7_clear_31 rfl rfl ?_
  refine ck_bipush (v := 50) dX7_clear_32 (by decide) ?_
  refine ck_putI clX7 12 rfl rfl (by decide) fl_X7_58 rfl rfl rfl dX7_clear_34 ?_
  refine ck_nmH (fun h5 eh5 => ?_)
  have hq := hq h5 eh5
  refine ck_aload_n 0 dX7_clear_37 rfl rfl ?_
  refine ck_iconst (v := 0) dX7_clear_38 (by decide) ?_
  refine ck_putI clX7 13 rfl rfl (by decide) fl_X7_68 rfl rfl rfl dX7_clear_39 ?_
  refine ck_nmH (fun h6 eh6 => ?_)
  have hq := hq h6 eh6
  refine ck_aload_n 0 dX7_clear_42 rfl rfl ?_
  refine ck_iconst (v := 0) dX7_clear_43 (by decide) ?_
  refine ck_putI clX7 14 rfl rfl (by decide) fl_X7_71 rfl (by decide) (by decide) dX7_clear_44 ?_
  refine ck_nmH (fun h7 eh7 => ?_)
  have hq := hq h7 eh7
  refine ck_aload_n 0 dX7_clear_47 rfl rfl ?_
  refine ck_iconst (v := 0) dX7_clear_48 (by decide) ?_
  refine ck_putI clX7 15 rfl rfl (by decide) fl_X7_75 rfl (by decide) (by decide) dX7_clear_49 ?_
  refine ck_nmH (fun h8 eh8 => ?_)
  have hq := hq h8 eh8
  refine ck_aload_n 0 dX7_clear_52 rfl rfl ?_
  refine ck_iconst (v := 0) dX7_clear_53 (by decide) ?_
  refine ck_putI clX7 16 rfl rfl (by decide) fl_X7_78 rfl (by decide) (by decide) dX7_clear_54 ?_
  refine ck_nmH (fun h9 eh9 => ?_)
  have hq := hq h9 eh9
  refine ck_aload_n 0 dX7_clear_57 rfl rfl ?_
  refine ck_iconst (v := 0) dX7_clear_58 (by decide) ?_
  refine ck_putI clX7 17 rfl rfl (by decide) fl_X7_81 rfl rfl rfl dX7_clear_59 ?_
  refine ck_nmH (fun h10 eh10 => ?_)
  have hq := hq h10 eh10
  exact ck_vret rfl rfl rfl dX7_clear_62 ⟨rfl, rfl, hq⟩
