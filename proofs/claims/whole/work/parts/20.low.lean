theorem dX1_init_0 : decode cX1_init 0 = .ok (.aload_n 0, 1) := by decide +kernel
theorem dX1_init_1 : decode cX1_init 1 = .ok (.invokespecial 3, 3) := by decide +kernel
theorem dX1_init_4 : decode cX1_init 4 = .ok (.aload_n 0, 1) := by decide +kernel
theorem dX1_init_5 : decode cX1_init 5 = .ok (.iconst 4, 1) := by decide +kernel
theorem dX1_init_6 : decode cX1_init 6 = .ok (.newarray .int, 2) := by decide +kernel
theorem dX1_init_8 : decode cX1_init 8 = .ok (.putfield 9, 3) := by decide +kernel
theorem dX1_init_11 : decode cX1_init 11 = .ok (.aload_n 0, 1) := by decide +kernel
theorem dX1_init_12 : decode cX1_init 12 = .ok (.bipush 10, 2) := by decide +kernel
theorem dX1_init_14 : decode cX1_init 14 = .ok (.newarray .int, 2) := by decide +kernel
theorem dX1_init_16 : decode cX1_init 16 = .ok (.putfield 15, 3) := by decide +kernel
theorem dX1_init_19 : decode cX1_init 19 = .ok (.aload_n 0, 1) := by decide +kernel
theorem dX1_init_20 : decode cX1_init 20 = .ok (.bipush 10, 2) := by decide +kernel
theorem dX1_init_22 : decode cX1_init 22 = .ok (.newarray .int, 2) := by decide +kernel
theorem dX1_init_24 : decode cX1_init 24 = .ok (.putfield 18, 3) := by decide +kernel
theorem dX1_init_27 : decode cX1_init 27 = .ok (.aload_n 0, 1) := by decide +kernel
theorem dX1_init_28 : decode cX1_init 28 = .ok (.bipush 10, 2) := by decide +kernel
theorem dX1_init_30 : decode cX1_init 30 = .ok (.newarray .int, 2) := by decide +kernel
theorem dX1_init_32 : decode cX1_init 32 = .ok (.putfield 21, 3) := by decide +kernel
theorem dX1_init_35 : decode cX1_init 35 = .ok (.return_, 1) := by decide +kernel
theorem dX1_beginAsTold_0 : decode cX1_beginAsTold 0 = .ok (.aload_n 0, 1) := by decide +kernel
theorem dX1_beginAsTold_1 : decode cX1_beginAsTold 1 = .ok (.iconst 0, 1) := by decide +kernel
theorem dX1_beginAsTold_2 : decode cX1_beginAsTold 2 = .ok (.putfield 24, 3) := by decide +kernel
theorem dX1_beginAsTold_5 : decode cX1_beginAsTold 5 = .ok (.aload_n 0, 1) := by decide +kernel
theorem dX1_beginAsTold_6 : decode cX1_beginAsTold 6 = .ok (.iconst 0, 1) := by decide +kernel
theorem dX1_beginAsTold_7 : decode cX1_beginAsTold 7 = .ok (.putfield 28, 3) := by decide +kernel
theorem dX1_beginAsTold_10 : decode cX1_beginAsTold 10 = .ok (.aload_n 0, 1) := by decide +kernel
theorem dX1_beginAsTold_11 : decode cX1_beginAsTold 11 = .ok (.aload_n 1, 1) := by decide +kernel
theorem dX1_beginAsTold_12 : decode cX1_beginAsTold 12 = .ok (.getfield 31, 3) := by decide +kernel
theorem dX1_beginAsTold_15 : decode cX1_beginAsTold 15 = .ok (.putfield 36, 3) := by decide +kernel
theorem dX1_beginAsTold_18 : decode cX1_beginAsTold 18 = .ok (.aload_n 0, 1) := by decide +kernel
theorem dX1_beginAsTold_19 : decode cX1_beginAsTold 19 = .ok (.iconst 0, 1) := by decide +kernel
theorem dX1_beginAsTold_20 : decode cX1_beginAsTold 20 = .ok (.putfield 37, 3) := by decide +kernel
theorem dX1_beginAsTold_23 : decode cX1_beginAsTold 23 = .ok (.aload_n 1, 1) := by decide +kernel
theorem dX1_beginAsTold_24 : decode cX1_beginAsTold 24 = .ok (.getfield 40, 3) := by decide +kernel
theorem dX1_beginAsTold_27 : decode cX1_beginAsTold 27 = .ok (.iconst 0, 1) := by decide +kernel
theorem dX1_beginAsTold_28 : decode cX1_beginAsTold 28 = .ok (.aload_n 0, 1) := by decide +kernel
theorem dX1_beginAsTold_29 : decode cX1_beginAsTold 29 = .ok (.getfield 9, 3) := by decide +kernel
theorem dX1_beginAsTold_32 : decode cX1_beginAsTold 32 = .ok (.iconst 0, 1) := by decide +kernel
theorem dX1_beginAsTold_33 : decode cX1_beginAsTold 33 = .ok (.iconst 4, 1) := by decide +kernel
theorem dX1_beginAsTold_34 : decode cX1_beginAsTold 34 = .ok (.invokestatic 41, 3) := by decide +kernel
theorem dX1_beginAsTold_37 : decode cX1_beginAsTold 37 = .ok (.aload_n 1, 1) := by decide +kernel
theorem dX1_beginAsTold_38 : decode cX1_beginAsTold 38 = .ok (.getfield 47, 3) := by decide +kernel
theorem dX1_beginAsTold_41 : decode cX1_beginAsTold 41 = .ok (.iconst 0, 1) := by decide +kernel
theorem dX1_beginAsTold_42 : decode cX1_beginAsTold 42 = .ok (.aload_n 0, 1) := by decide +kernel
theorem dX1_beginAsTold_43 : decode cX1_beginAsTold 43 = .ok (.getfield 15, 3) := by decide +kernel
theorem dX1_beginAsTold_46 : decode cX1_beginAsTold 46 = .ok (.iconst 0, 1) := by decide +kernel
theorem dX1_beginAsTold_47 : decode cX1_beginAsTold 47 = .ok (.bipush 10, 2) := by decide +kernel
theorem dX1_beginAsTold_49 : decode cX1_beginAsTold 49 = .ok (.invokestatic 41, 3) := by decide +kernel
theorem dX1_beginAsTold_52 : decode cX1_beginAsTold 52 = .ok (.aload_n 1, 1) := by decide +kernel
theorem dX1_beginAsTold_53 : decode cX1_beginAsTold 53 = .ok (.getfield 48, 3) := by decide +kernel
theorem dX1_beginAsTold_56 : decode cX1_beginAsTold 56 = .ok (.iconst 0, 1) := by decide +kernel
theorem dX1_beginAsTold_57 : decode cX1_beginAsTold 57 = .ok (.aload_n 0, 1) := by decide +kernel
theorem dX1_beginAsTold_58 : decode cX1_beginAsTold 58 = .ok (.getfield 18, 3) := by decide +kernel
theorem dX1_beginAsTold_61 : decode cX1_beginAsTold 61 = .ok (.iconst 0, 1) := by decide +kernel
theorem dX1_beginAsTold_62 : decode cX1_beginAsTold 62 = .ok (.bipush 10, 2) := by decide +kernel
theorem dX1_beginAsTold_64 : decode cX1_beginAsTold 64 = .ok (.invokestatic 41, 3) := by decide +kernel
theorem dX1_beginAsTold_67 : decode cX1_beginAsTold 67 = .ok (.iconst 0, 1) := by decide +kernel
theorem dX1_beginAsTold_68 : decode cX1_beginAsTold 68 = .ok (.istore_n 2, 1) := by decide +kernel
theorem dX1_beginAsTold_69 : decode cX1_beginAsTold 69 = .ok (.iload_n 2, 1) := by decide +kernel
theorem dX1_beginAsTold_70 : decode cX1_beginAsTold 70 = .ok (.bipush 10, 2) := by decide +kernel
theorem dX1_beginAsTold_72 : decode cX1_beginAsTold 72 = .ok (.if_icmp .ge 16, 3) := by decide +kernel
theorem dX1_beginAsTold_75 : decode cX1_beginAsTold 75 = .ok (.aload_n 0, 1) := by decide +kernel
theorem dX1_beginAsTold_76 : decode cX1_beginAsTold 76 = .ok (.getfield 21, 3) := by decide +kernel
theorem dX1_beginAsTold_79 : decode cX1_beginAsTold 79 = .ok (.iload_n 2, 1) := by decide +kernel
theorem dX1_beginAsTold_80 : decode cX1_beginAsTold 80 = .ok (.iconst (-1), 1) := by decide +kernel
theorem dX1_beginAsTold_81 : decode cX1_beginAsTold 81 = .ok (.iastore, 1) := by decide +kernel
theorem dX1_beginAsTold_82 : decode cX1_beginAsTold 82 = .ok (.iinc 2 1, 3) := by decide +kernel
theorem dX1_beginAsTold_85 : decode cX1_beginAsTold 85 = .ok (.goto (-16), 3) := by decide +kernel
theorem dX1_beginAsTold_88 : decode cX1_beginAsTold 88 = .ok (.return_, 1) := by decide +kernel
theorem dX1_hasStone_0 : decode cX1_hasStone 0 = .ok (.aload_n 0, 1) := by decide +kernel
theorem dX1_hasStone_1 : decode cX1_hasStone 1 = .ok (.getfield 24, 3) := by decide +kernel
theorem dX1_hasStone_4 : decode cX1_hasStone 4 = .ok (.iload_n 1, 1) := by decide +kernel
theorem dX1_hasStone_5 : decode cX1_hasStone 5 = .ok (.ishr, 1) := by decide +kernel
theorem dX1_hasStone_6 : decode cX1_hasStone 6 = .ok (.iconst 1, 1) := by decide +kernel
theorem dX1_hasStone_7 : decode cX1_hasStone 7 = .ok (.iand, 1) := by decide +kernel
theorem dX1_hasStone_8 : decode cX1_hasStone 8 = .ok (.iconst 1, 1) := by decide +kernel
theorem dX1_hasStone_9 : decode cX1_hasStone 9 = .ok (.if_icmp .ne 7, 3) := by decide +kernel
theorem dX1_hasStone_12 : decode cX1_hasStone 12 = .ok (.iconst 1, 1) := by decide +kernel
theorem dX1_hasStone_13 : decode cX1_hasStone 13 = .ok (.goto 4, 3) := by decide +kernel
theorem dX1_hasStone_16 : decode cX1_hasStone 16 = .ok (.iconst 0, 1) := by decide +kernel
theorem dX1_hasStone_17 : decode cX1_hasStone 17 = .ok (.ireturn, 1) := by decide +kernel
theorem dX1_becomeLike_0 : decode cX1_becomeLike 0 = .ok (.aload_n 0, 1) := by decide +kernel
theorem dX1_becomeLike_1 : decode cX1_becomeLike 1 = .ok (.aload_n 1, 1) := by decide +kernel
theorem dX1_becomeLike_2 : decode cX1_becomeLike 2 = .ok (.getfield 24, 3) := by decide +kernel
theorem dX1_becomeLike_5 : decode cX1_becomeLike 5 = .ok (.putfield 24, 3) := by decide +kernel
theorem dX1_becomeLike_8 : decode cX1_becomeLike 8 = .ok (.aload_n 0, 1) := by decide +kernel
theorem dX1_becomeLike_9 : decode cX1_becomeLike 9 = .ok (.aload_n 1, 1) := by decide +kernel
theorem dX1_becomeLike_10 : decode cX1_becomeLike 10 = .ok (.getfield 28, 3) := by decide +kernel
theorem dX1_becomeLike_13 : decode cX1_becomeLike 13 = .ok (.putfield 28, 3) := by decide +kernel
theorem dX1_becomeLike_16 : decode cX1_becomeLike 16 = .ok (.aload_n 0, 1) := by decide +kernel
theorem dX1_becomeLike_17 : decode cX1_becomeLike 17 = .ok (.aload_n 1, 1) := by decide +kernel
theorem dX1_becomeLike_18 : decode cX1_becomeLike 18 = .ok (.getfield 36, 3) := by decide +kernel
theorem dX1_becomeLike_21 : decode cX1_becomeLike 21 = .ok (.putfield 36, 3) := by decide +kernel
theorem dX1_becomeLike_24 : decode cX1_becomeLike 24 = .ok (.aload_n 0, 1) := by decide +kernel
theorem dX1_becomeLike_25 : decode cX1_becomeLike 25 = .ok (.aload_n 1, 1) := by decide +kernel
theorem dX1_becomeLike_26 : decode cX1_becomeLike 26 = .ok (.getfield 37, 3) := by decide +kernel
theorem dX1_becomeLike_29 : decode cX1_becomeLike 29 = .ok (.putfield 37, 3) := by decide +kernel
theorem dX1_becomeLike_32 : decode cX1_becomeLike 32 = .ok (.aload_n 1, 1) := by decide +kernel
theorem dX1_becomeLike_33 : decode cX1_becomeLike 33 = .ok (.getfield 9, 3) := by decide +kernel
theorem dX1_becomeLike_36 : decode cX1_becomeLike 36 = .ok (.iconst 0, 1) := by decide +kernel
theorem dX1_becomeLike_37 : decode cX1_becomeLike 37 = .ok (.aload_n 0, 1) := by decide +kernel
theorem dX1_becomeLike_38 : decode cX1_becomeLike 38 = .ok (.getfield 9, 3) := by decide +kernel
theorem dX1_becomeLike_41 : decode cX1_becomeLike 41 = .ok (.iconst 0, 1) := by decide +kernel
theorem dX1_becomeLike_42 : decode cX1_becomeLike 42 = .ok (.iconst 4, 1) := by decide +kernel
theorem dX1_becomeLike_43 : decode cX1_becomeLike 43 = .ok (.invokestatic 41, 3) := by decide +kernel
theorem dX1_becomeLike_46 : decode cX1_becomeLike 46 = .ok (.aload_n 1, 1) := by decide +kernel
theorem dX1_becomeLike_47 : decode cX1_becomeLike 47 = .ok (.getfield 15, 3) := by decide +kernel
theorem dX1_becomeLike_50 : decode cX1_becomeLike 50 = .ok (.iconst 0, 1) := by decide +kernel
theorem dX1_becomeLike_51 : decode cX1_becomeLike 51 = .ok (.aload_n 0, 1) := by decide +kernel
theorem dX1_becomeLike_52 : decode cX1_becomeLike 52 = .ok (.getfield 15, 3) := by decide +kernel
theorem dX1_becomeLike_55 : decode cX1_becomeLike 55 = .ok (.iconst 0, 1) := by decide +kernel
theorem dX1_becomeLike_56 : decode cX1_becomeLike 56 = .ok (.bipush 10, 2) := by decide +kernel
theorem dX1_becomeLike_58 : decode cX1_becomeLike 58 = .ok (.invokestatic 41, 3) := by decide +kernel
theorem dX1_becomeLike_61 : decode cX1_becomeLike 61 = .ok (.aload_n 1, 1) := by decide +kernel
theorem dX1_becomeLike_62 : decode cX1_becomeLike 62 = .ok (.getfield 18, 3) := by decide +kernel
theorem dX1_becomeLike_65 : decode cX1_becomeLike 65 = .ok (.iconst 0, 1) := by decide +kernel
theorem dX1_becomeLike_66 : decode cX1_becomeLike 66 = .ok (.aload_n 0, 1) := by decide +kernel
theorem dX1_becomeLike_67 : decode cX1_becomeLike 67 = .ok (.getfield 18, 3) := by decide +kernel
theorem dX1_becomeLike_70 : decode cX1_becomeLike 70 = .ok (.iconst 0, 1) := by decide +kernel
theorem dX1_becomeLike_71 : decode cX1_becomeLike 71 = .ok (.bipush 10, 2) := by decide +kernel
theorem dX1_becomeLike_73 : decode cX1_becomeLike 73 = .ok (.invokestatic 41, 3) := by decide +kernel
theorem dX1_becomeLike_76 : decode cX1_becomeLike 76 = .ok (.aload_n 1, 1) := by decide +kernel
theorem dX1_becomeLike_77 : decode cX1_becomeLike 77 = .ok (.getfield 21, 3) := by decide +kernel
theorem dX1_becomeLike_80 : decode cX1_becomeLike 80 = .ok (.iconst 0, 1) := by decide +kernel
theorem dX1_becomeLike_81 : decode cX1_becomeLike 81 = .ok (.aload_n 0, 1) := by decide +kernel
theorem dX1_becomeLike_82 : decode cX1_becomeLike 82 = .ok (.getfield 21, 3) := by decide +kernel
theorem dX1_becomeLike_85 : decode cX1_becomeLike 85 = .ok (.iconst 0, 1) := by decide +kernel
theorem dX1_becomeLike_86 : decode cX1_becomeLike 86 = .ok (.bipush 10, 2) := by decide +kernel
theorem dX1_becomeLike_88 : decode cX1_becomeLike 88 = .ok (.invokestatic 41, 3) := by decide +kernel
theorem dX1_becomeLike_91 : decode cX1_becomeLike 91 = .ok (.return_, 1) := by decide +kernel
theorem dX4_init_0 : decode cX4_init 0 = .ok (.aload_n 0, 1) := by decide +kernel
theorem dX4_init_1 : decode cX4_init 1 = .ok (.invokespecial 3, 3) := by decide +kernel
theorem dX4_init_4 : decode cX4_init 4 = .ok (.aload_n 0, 1) := by decide +kernel
theorem dX4_init_5 : decode cX4_init 5 = .ok (.bipush 64, 2) := by decide +kernel
theorem dX4_init_7 : decode cX4_init 7 = .ok (.newarray .int, 2) := by decide +kernel
theorem dX4_init_9 : decode cX4_init 9 = .ok (.putfield 9, 3) := by decide +kernel
theorem dX4_init_12 : decode cX4_init 12 = .ok (.aload_n 0, 1) := by decide +kernel
theorem dX4_init_13 : decode cX4_init 13 = .ok (.bipush 64, 2) := by decide +kernel
theorem dX4_init_15 : decode cX4_init 15 = .ok (.newarray .int, 2) := by decide +kernel
theorem dX4_init_17 : decode cX4_init 17 = .ok (.putfield 15, 3) := by decide +kernel
theorem dX4_init_20 : decode cX4_init 20 = .ok (.aload_n 0, 1) := by decide +kernel
theorem dX4_init_21 : decode cX4_init 21 = .ok (.iconst 3, 1) := by decide +kernel
theorem dX4_init_22 : decode cX4_init 22 = .ok (.newarray .int, 2) := by decide +kernel
theorem dX4_init_24 : decode cX4_init 24 = .ok (.putfield 18, 3) := by decide +kernel
theorem dX4_init_27 : decode cX4_init 27 = .ok (.aload_n 0, 1) := by decide +kernel
theorem dX4_init_28 : decode cX4_init 28 = .ok (.iconst 3, 1) := by decide +kernel
theorem dX4_init_29 : decode cX4_init 29 = .ok (.newarray .int, 2) := by decide +kernel
theorem dX4_init_31 : decode cX4_init 31 = .ok (.putfield 21, 3) := by decide +kernel
theorem dX4_init_34 : decode cX4_init 34 = .ok (.aload_n 0, 1) := by decide +kernel
theorem dX4_init_35 : decode cX4_init 35 = .ok (.bipush 64, 2) := by decide +kernel
theorem dX4_init_37 : decode cX4_init 37 = .ok (.newarray .long, 2) := by decide +kernel
theorem dX4_init_39 : decode cX4_init 39 = .ok (.putfield 24, 3) := by decide +kernel
theorem dX4_init_42 : decode cX4_init 42 = .ok (.return_, 1) := by decide +kernel
theorem dX4_clear_0 : decode cX4_clear 0 = .ok (.aload_n 0, 1) := by decide +kernel
theorem dX4_clear_1 : decode cX4_clear 1 = .ok (.iconst 0, 1) := by decide +kernel
theorem dX4_clear_2 : decode cX4_clear 2 = .ok (.putfield 28, 3) := by decide +kernel
theorem dX4_clear_5 : decode cX4_clear 5 = .ok (.iconst 0, 1) := by decide +kernel
theorem dX4_clear_6 : decode cX4_clear 6 = .ok (.istore_n 1, 1) := by decide +kernel
theorem dX4_clear_7 : decode cX4_clear 7 = .ok (.iload_n 1, 1) := by decide +kernel
theorem dX4_clear_8 : decode cX4_clear 8 = .ok (.iconst 3, 1) := by decide +kernel
theorem dX4_clear_9 : decode cX4_clear 9 = .ok (.if_icmp .ge 23, 3) := by decide +kernel
theorem dX4_clear_12 : decode cX4_clear 12 = .ok (.aload_n 0, 1) := by decide +kernel
theorem dX4_clear_13 : decode cX4_clear 13 = .ok (.getfield 18, 3) := by decide +kernel
theorem dX4_clear_16 : decode cX4_clear 16 = .ok (.iload_n 1, 1) := by decide +kernel
theorem dX4_clear_17 : decode cX4_clear 17 = .ok (.iconst 0, 1) := by decide +kernel
theorem dX4_clear_18 : decode cX4_clear 18 = .ok (.iastore, 1) := by decide +kernel
theorem dX4_clear_19 : decode cX4_clear 19 = .ok (.aload_n 0, 1) := by decide +kernel
theorem dX4_clear_20 : decode cX4_clear 20 = .ok (.getfield 21, 3) := by decide +kernel
theorem dX4_clear_23 : decode cX4_clear 23 = .ok (.iload_n 1, 1) := by decide +kernel
theorem dX4_clear_24 : decode cX4_clear 24 = .ok (.iconst 0, 1) := by decide +kernel
theorem dX4_clear_25 : decode cX4_clear 25 = .ok (.iastore, 1) := by decide +kernel
theorem dX4_clear_26 : decode cX4_clear 26 = .ok (.iinc 1 1, 3) := by decide +kernel
theorem dX4_clear_29 : decode cX4_clear 29 = .ok (.goto (-22), 3) := by decide +kernel
theorem dX4_clear_32 : decode cX4_clear 32 = .ok (.return_, 1) := by decide +kernel
theorem dX4_add_0 : decode cX4_add 0 = .ok (.aload_n 0, 1) := by decide +kernel
theorem dX4_add_1 : decode cX4_add 1 = .ok (.getfield 28, 3) := by decide +kernel
theorem dX4_add_4 : decode cX4_add 4 = .ok (.bipush 64, 2) := by decide +kernel
theorem dX4_add_6 : decode cX4_add 6 = .ok (.if_icmp .ge 33, 3) := by decide +kernel
theorem dX4_add_9 : decode cX4_add 9 = .ok (.aload_n 0, 1) := by decide +kernel
theorem dX4_add_10 : decode cX4_add 10 = .ok (.getfield 9, 3) := by decide +kernel
theorem dX4_add_13 : decode cX4_add 13 = .ok (.aload_n 0, 1) := by decide +kernel
theorem dX4_add_14 : decode cX4_add 14 = .ok (.getfield 28, 3) := by decide +kernel
theorem dX4_add_17 : decode cX4_add 17 = .ok (.iload_n 1, 1) := by decide +kernel
theorem dX4_add_18 : decode cX4_add 18 = .ok (.iastore, 1) := by decide +kernel
theorem dX4_add_19 : decode cX4_add 19 = .ok (.aload_n 0, 1) := by decide +kernel
theorem dX4_add_20 : decode cX4_add 20 = .ok (.getfield 15, 3) := by decide +kernel
theorem dX4_add_23 : decode cX4_add 23 = .ok (.aload_n 0, 1) := by decide +kernel
theorem dX4_add_24 : decode cX4_add 24 = .ok (.getfield 28, 3) := by decide +kernel
theorem dX4_add_27 : decode cX4_add 27 = .ok (.iload_n 2, 1) := by decide +kernel
theorem dX4_add_28 : decode cX4_add 28 = .ok (.iastore, 1) := by decide +kernel
theorem dX4_add_29 : decode cX4_add 29 = .ok (.aload_n 0, 1) := by decide +kernel
theorem dX4_add_30 : decode cX4_add 30 = .ok (.dup, 1) := by decide +kernel
theorem dX4_add_31 : decode cX4_add 31 = .ok (.getfield 28, 3) := by decide +kernel
theorem dX4_add_34 : decode cX4_add 34 = .ok (.iconst 1, 1) := by decide +kernel
theorem dX4_add_35 : decode cX4_add 35 = .ok (.iadd, 1) := by decide +kernel
theorem dX4_add_36 : decode cX4_add 36 = .ok (.putfield 28, 3) := by decide +kernel
theorem dX4_add_39 : decode cX4_add 39 = .ok (.return_, 1) := by decide +kernel
theorem dX4_isTold_0 : decode cX4_isTold 0 = .ok (.aload_n 0, 1) := by decide +kernel
theorem dX4_isTold_1 : decode cX4_isTold 1 = .ok (.getfield 21, 3) := by decide +kernel
theorem dX4_isTold_4 : decode cX4_isTold 4 = .ok (.iload_n 1, 1) := by decide +kernel
theorem dX4_isTold_5 : decode cX4_isTold 5 = .ok (.iaload, 1) := by decide +kernel
theorem dX4_isTold_6 : decode cX4_isTold 6 = .ok (.aload_n 0, 1) := by decide +kernel
theorem dX4_isTold_7 : decode cX4_isTold 7 = .ok (.getfield 18, 3) := by decide +kernel
theorem dX4_isTold_10 : decode cX4_isTold 10 = .ok (.iload_n 1, 1) := by decide +kernel
theorem dX4_isTold_11 : decode cX4_isTold 11 = .ok (.iaload, 1) := by decide +kernel
theorem dX4_isTold_12 : decode cX4_isTold 12 = .ok (.if_icmp .le 7, 3) := by decide +kernel
theorem dX4_isTold_15 : decode cX4_isTold 15 = .ok (.iconst 1, 1) := by decide +kernel
theorem dX4_isTold_16 : decode cX4_isTold 16 = .ok (.goto 4, 3) := by decide +kernel
theorem dX4_isTold_19 : decode cX4_isTold 19 = .ok (.iconst 0, 1) := by decide +kernel
theorem dX4_isTold_20 : decode cX4_isTold 20 = .ok (.ireturn, 1) := by decide +kernel
theorem dX4_worked_0 : decode cX4_worked 0 = .ok (.iconst 0, 1) := by decide +kernel
theorem dX4_worked_1 : decode cX4_worked 1 = .ok (.istore_n 3, 1) := by decide +kernel
theorem dX4_worked_2 : decode cX4_worked 2 = .ok (.aload_n 0, 1) := by decide +kernel
theorem dX4_worked_3 : decode cX4_worked 3 = .ok (.getfield 18, 3) := by decide +kernel
theorem dX4_worked_6 : decode cX4_worked 6 = .ok (.iload_n 1, 1) := by decide +kernel
theorem dX4_worked_7 : decode cX4_worked 7 = .ok (.iaload, 1) := by decide +kernel
theorem dX4_worked_8 : decode cX4_worked 8 = .ok (.istore 4, 2) := by decide +kernel
theorem dX4_worked_10 : decode cX4_worked 10 = .ok (.iload 4, 2) := by decide +kernel
theorem dX4_worked_12 : decode cX4_worked 12 = .ok (.aload_n 0, 1) := by decide +kernel
theorem dX4_worked_13 : decode cX4_worked 13 = .ok (.getfield 21, 3) := by decide +kernel
theorem dX4_worked_16 : decode cX4_worked 16 = .ok (.iload_n 1, 1) := by decide +kernel
theorem dX4_worked_17 : decode cX4_worked 17 = .ok (.iaload, 1) := by decide +kernel
theorem dX4_worked_18 : decode cX4_worked 18 = .ok (.if_icmp .ge 175, 3) := by decide +kernel
theorem dX4_worked_21 : decode cX4_worked 21 = .ok (.aload_n 0, 1) := by decide +kernel
theorem dX4_worked_22 : decode cX4_worked 22 = .ok (.getfield 9, 3) := by decide +kernel
theorem dX4_worked_25 : decode cX4_worked 25 = .ok (.iload 4, 2) := by decide +kernel
theorem dX4_worked_27 : decode cX4_worked 27 = .ok (.iaload, 1) := by decide +kernel
theorem dX4_worked_28 : decode cX4_worked 28 = .ok (.istore 5, 2) := by decide +kernel
theorem dX4_worked_30 : decode cX4_worked 30 = .ok (.iload_n 3, 1) := by decide +kernel
theorem dX4_worked_31 : decode cX4_worked 31 = .ok (.iload 5, 2) := by decide +kernel
theorem dX4_worked_33 : decode cX4_worked 33 = .ok (.invokestatic 32, 3) := by decide +kernel
theorem dX4_worked_36 : decode cX4_worked 36 = .ok (.if_icmp .ge 7, 3) := by decide +kernel
theorem dX4_worked_39 : decode cX4_worked 39 = .ok (.ldc2_w 36, 3) := by decide +kernel
theorem dX4_worked_42 : decode cX4_worked 42 = .ok (.lreturn, 1) := by decide +kernel
theorem dX4_worked_43 : decode cX4_worked 43 = .ok (.iload 5, 2) := by decide +kernel
theorem dX4_worked_45 : decode cX4_worked 45 = .ok (.iconst 2, 1) := by decide +kernel
theorem dX4_worked_46 : decode cX4_worked 46 = .ok (.if_icmp .ne 23, 3) := by decide +kernel
theorem dX4_worked_49 : decode cX4_worked 49 = .ok (.aload_n 0, 1) := by decide +kernel
theorem dX4_worked_50 : decode cX4_worked 50 = .ok (.getfield 24, 3) := by decide +kernel
theorem dX4_worked_53 : decode cX4_worked 53 = .ok (.iload_n 3, 1) := by decide +kernel
theorem dX4_worked_54 : decode cX4_worked 54 = .ok (.aload_n 0, 1) := by decide +kernel
theorem dX4_worked_55 : decode cX4_worked 55 = .ok (.getfield 15, 3) := by decide +kernel
theorem dX4_worked_58 : decode cX4_worked 58 = .ok (.iload 4, 2) := by decide +kernel
theorem dX4_worked_60 : decode cX4_worked 60 = .ok (.iaload, 1) := by decide +kernel
theorem dX4_worked_61 : decode cX4_worked 61 = .ok (.i2l, 1) := by decide +kernel
theorem dX4_worked_62 : decode cX4_worked 62 = .ok (.lastore, 1) := by decide +kernel
theorem dX4_worked_63 : decode cX4_worked 63 = .ok (.iinc 3 1, 3) := by decide +kernel
theorem dX4_worked_66 : decode cX4_worked 66 = .ok (.goto 121, 3) := by decide +kernel
theorem dX4_worked_69 : decode cX4_worked 69 = .ok (.iload 5, 2) := by decide +kernel
theorem dX4_worked_71 : decode cX4_worked 71 = .ok (.bipush 32, 2) := by decide +kernel
theorem dX4_worked_73 : decode cX4_worked 73 = .ok (.if_icmp .lt 22, 3) := by decide +kernel
theorem dX4_worked_76 : decode cX4_worked 76 = .ok (.aload_n 0, 1) := by decide +kernel
theorem dX4_worked_77 : decode cX4_worked 77 = .ok (.getfield 24, 3) := by decide +kernel
theorem dX4_worked_80 : decode cX4_worked 80 = .ok (.iload_n 3, 1) := by decide +kernel
theorem dX4_worked_81 : decode cX4_worked 81 = .ok (.aload_n 2, 1) := by decide +kernel
theorem dX4_worked_82 : decode cX4_worked 82 = .ok (.iload 5, 2) := by decide +kernel
theorem dX4_worked_84 : decode cX4_worked 84 = .ok (.bipush 32, 2) := by decide +kernel
theorem dX4_worked_86 : decode cX4_worked 86 = .ok (.isub, 1) := by decide +kernel
theorem dX4_worked_87 : decode cX4_worked 87 = .ok (.laload, 1) := by decide +kernel
theorem dX4_worked_88 : decode cX4_worked 88 = .ok (.lastore, 1) := by decide +kernel
theorem dX4_worked_89 : decode cX4_worked 89 = .ok (.iinc 3 1, 3) := by decide +kernel
theorem dX4_worked_92 : decode cX4_worked 92 = .ok (.goto 95, 3) := by decide +kernel
theorem dX4_worked_95 : decode cX4_worked 95 = .ok (.iload 5, 2) := by decide +kernel
theorem dX4_worked_97 : decode cX4_worked 97 = .ok (.bipush 31, 2) := by decide +kernel
theorem dX4_worked_99 : decode cX4_worked 99 = .ok (.if_icmp .ne 32, 3) := by decide +kernel
theorem dX4_worked_102 : decode cX4_worked 102 = .ok (.aload_n 0, 1) := by decide +kernel
theorem dX4_worked_103 : decode cX4_worked 103 = .ok (.getfield 24, 3) := by decide +kernel
theorem dX4_worked_106 : decode cX4_worked 106 = .ok (.iload_n 3, 1) := by decide +kernel
theorem dX4_worked_107 : decode cX4_worked 107 = .ok (.iconst 1, 1) := by decide +kernel
theorem dX4_worked_108 : decode cX4_worked 108 = .ok (.isub, 1) := by decide +kernel
theorem dX4_worked_109 : decode cX4_worked 109 = .ok (.aload_n 0, 1) := by decide +kernel
theorem dX4_worked_110 : decode cX4_worked 110 = .ok (.getfield 24, 3) := by decide +kernel
theorem dX4_worked_113 : decode cX4_worked 113 = .ok (.iload_n 3, 1) := by decide +kernel
theorem dX4_worked_114 : decode cX4_worked 114 = .ok (.iconst 1, 1) := by decide +kernel
theorem dX4_worked_115 : decode cX4_worked 115 = .ok (.isub, 1) := by decide +kernel
theorem dX4_worked_116 : decode cX4_worked 116 = .ok (.laload, 1) := by decide +kernel
theorem dX4_worked_117 : decode cX4_worked 117 = .ok (.lconst 0, 1) := by decide +kernel
theorem dX4_worked_118 : decode cX4_worked 118 = .ok (.lcmp, 1) := by decide +kernel
theorem dX4_worked_119 : decode cX4_worked 119 = .ok (.ifCond .ne 7, 3) := by decide +kernel
theorem dX4_worked_122 : decode cX4_worked 122 = .ok (.lconst 1, 1) := by decide +kernel
theorem dX4_worked_123 : decode cX4_worked 123 = .ok (.goto 4, 3) := by decide +kernel
theorem dX4_worked_126 : decode cX4_worked 126 = .ok (.lconst 0, 1) := by decide +kernel
theorem dX4_worked_127 : decode cX4_worked 127 = .ok (.lastore, 1) := by decide +kernel
theorem dX4_worked_128 : decode cX4_worked 128 = .ok (.goto 59, 3) := by decide +kernel
theorem dX4_worked_131 : decode cX4_worked 131 = .ok (.iinc 3 (-1), 3) := by decide +kernel
theorem dX4_worked_134 : decode cX4_worked 134 = .ok (.iload 5, 2) := by decide +kernel
theorem dX4_worked_136 : decode cX4_worked 136 = .ok (.aload_n 0, 1) := by decide +kernel
theorem dX4_worked_137 : decode cX4_worked 137 = .ok (.getfield 24, 3) := by decide +kernel
theorem dX4_worked_140 : decode cX4_worked 140 = .ok (.iload_n 3, 1) := by decide +kernel
theorem dX4_worked_141 : decode cX4_worked 141 = .ok (.iconst 1, 1) := by decide +kernel
theorem dX4_worked_142 : decode cX4_worked 142 = .ok (.isub, 1) := by decide +kernel
theorem dX4_worked_143 : decode cX4_worked 143 = .ok (.laload, 1) := by decide +kernel
theorem dX4_worked_144 : decode cX4_worked 144 = .ok (.aload_n 0, 1) := by decide +kernel
theorem dX4_worked_145 : decode cX4_worked 145 = .ok (.getfield 24, 3) := by decide +kernel
theorem dX4_worked_148 : decode cX4_worked 148 = .ok (.iload_n 3, 1) := by decide +kernel
theorem dX4_worked_149 : decode cX4_worked 149 = .ok (.laload, 1) := by decide +kernel
theorem dX4_worked_150 : decode cX4_worked 150 = .ok (.invokestatic 38, 3) := by decide +kernel
theorem dX4_worked_153 : decode cX4_worked 153 = .ok (.lstore 6, 2) := by decide +kernel
theorem dX4_worked_155 : decode cX4_worked 155 = .ok (.lload 6, 2) := by decide +kernel
theorem dX4_worked_157 : decode cX4_worked 157 = .ok (.ldc2_w 42, 3) := by decide +kernel
theorem dX4_worked_160 : decode cX4_worked 160 = .ok (.lcmp, 1) := by decide +kernel
theorem dX4_worked_161 : decode cX4_worked 161 = .ok (.ifCond .gt 12, 3) := by decide +kernel
theorem dX4_worked_164 : decode cX4_worked 164 = .ok (.lload 6, 2) := by decide +kernel
theorem dX4_worked_166 : decode cX4_worked 166 = .ok (.ldc2_w 44, 3) := by decide +kernel
theorem dX4_worked_169 : decode cX4_worked 169 = .ok (.lcmp, 1) := by decide +kernel
theorem dX4_worked_170 : decode cX4_worked 170 = .ok (.ifCond .ge 7, 3) := by decide +kernel
theorem dX4_worked_173 : decode cX4_worked 173 = .ok (.ldc2_w 36, 3) := by decide +kernel
theorem dX4_worked_176 : decode cX4_worked 176 = .ok (.lreturn, 1) := by decide +kernel
theorem dX4_worked_177 : decode cX4_worked 177 = .ok (.aload_n 0, 1) := by decide +kernel
theorem dX4_worked_178 : decode cX4_worked 178 = .ok (.getfield 24, 3) := by decide +kernel
theorem dX4_worked_181 : decode cX4_worked 181 = .ok (.iload_n 3, 1) := by decide +kernel
theorem dX4_worked_182 : decode cX4_worked 182 = .ok (.iconst 1, 1) := by decide +kernel
theorem dX4_worked_183 : decode cX4_worked 183 = .ok (.isub, 1) := by decide +kernel
theorem dX4_worked_184 : decode cX4_worked 184 = .ok (.lload 6, 2) := by decide +kernel
theorem dX4_worked_186 : decode cX4_worked 186 = .ok (.lastore, 1) := by decide +kernel
theorem dX4_worked_187 : decode cX4_worked 187 = .ok (.iinc 4 1, 3) := by decide +kernel
theorem dX4_worked_190 : decode cX4_worked 190 = .ok (.goto (-180), 3) := by decide +kernel
theorem dX4_worked_193 : decode cX4_worked 193 = .ok (.iload_n 3, 1) := by decide +kernel
theorem dX4_worked_194 : decode cX4_worked 194 = .ok (.iconst 1, 1) := by decide +kernel
theorem dX4_worked_195 : decode cX4_worked 195 = .ok (.if_icmp .ne 12, 3) := by decide +kernel
theorem dX4_worked_198 : decode cX4_worked 198 = .ok (.aload_n 0, 1) := by decide +kernel
theorem dX4_worked_199 : decode cX4_worked 199 = .ok (.getfield 24, 3) := by decide +kernel
theorem dX4_worked_202 : decode cX4_worked 202 = .ok (.iconst 0, 1) := by decide +kernel
theorem dX4_worked_203 : decode cX4_worked 203 = .ok (.laload, 1) := by decide +kernel
theorem dX4_worked_204 : decode cX4_worked 204 = .ok (.goto 6, 3) := by decide +kernel
theorem dX4_worked_207 : decode cX4_worked 207 = .ok (.ldc2_w 36, 3) := by decide +kernel
theorem dX4_worked_210 : decode cX4_worked 210 = .ok (.lreturn, 1) := by decide +kernel
theorem dX4_sidesOf_0 : decode cX4_sidesOf 0 = .ok (.iload_n 0, 1) := by decide +kernel
theorem dX4_sidesOf_1 : decode cX4_sidesOf 1 = .ok (.iconst 2, 1) := by decide +kernel
theorem dX4_sidesOf_2 : decode cX4_sidesOf 2 = .ok (.if_icmp .eq 9, 3) := by decide +kernel
theorem dX4_sidesOf_5 : decode cX4_sidesOf 5 = .ok (.iload_n 0, 1) := by decide +kernel
theorem dX4_sidesOf_6 : decode cX4_sidesOf 6 = .ok (.bipush 32, 2) := by decide +kernel
theorem dX4_sidesOf_8 : decode cX4_sidesOf 8 = .ok (.if_icmp .lt 7, 3) := by decide +kernel
theorem dX4_sidesOf_11 : decode cX4_sidesOf 11 = .ok (.iconst 0, 1) := by decide +kernel
theorem dX4_sidesOf_12 : decode cX4_sidesOf 12 = .ok (.goto 14, 3) := by decide +kernel
theorem dX4_sidesOf_15 : decode cX4_sidesOf 15 = .ok (.iload_n 0, 1) := by decide +kernel
theorem dX4_sidesOf_16 : decode cX4_sidesOf 16 = .ok (.bipush 31, 2) := by decide +kernel
theorem dX4_sidesOf_18 : decode cX4_sidesOf 18 = .ok (.if_icmp .ne 7, 3) := by decide +kernel
theorem dX4_sidesOf_21 : decode cX4_sidesOf 21 = .ok (.iconst 1, 1) := by decide +kernel
theorem dX4_sidesOf_22 : decode cX4_sidesOf 22 = .ok (.goto 4, 3) := by decide +kernel
theorem dX4_sidesOf_25 : decode cX4_sidesOf 25 = .ok (.iconst 2, 1) := by decide +kernel
theorem dX4_sidesOf_26 : decode cX4_sidesOf 26 = .ok (.ireturn, 1) := by decide +kernel
theorem dX4_joined_0 : decode cX4_joined 0 = .ok (.iload_n 0, 1) := by decide +kernel
theorem dX4_joined_1 : decode cX4_joined 1 = .ok (.tableswitch 249 7 30 #[111, 115, 119, 125, 141, 153, 165, 177, 189, 201, 249, 249, 249, 249, 249, 249, 249, 249, 249, 249, 249, 249, 231, 213], 111) := by decide +kernel
theorem dX4_joined_112 : decode cX4_joined 112 = .ok (.lload_n 1, 1) := by decide +kernel
theorem dX4_joined_113 : decode cX4_joined 113 = .ok (.lload_n 3, 1) := by decide +kernel
theorem dX4_joined_114 : decode cX4_joined 114 = .ok (.ladd, 1) := by decide +kernel
theorem dX4_joined_115 : decode cX4_joined 115 = .ok (.lreturn, 1) := by decide +kernel
theorem dX4_joined_116 : decode cX4_joined 116 = .ok (.lload_n 1, 1) := by decide +kernel
theorem dX4_joined_117 : decode cX4_joined 117 = .ok (.lload_n 3, 1) := by decide +kernel
theorem dX4_joined_118 : decode cX4_joined 118 = .ok (.lsub, 1) := by decide +kernel
theorem dX4_joined_119 : decode cX4_joined 119 = .ok (.lreturn, 1) := by decide +kernel
theorem dX4_joined_120 : decode cX4_joined 120 = .ok (.lload_n 1, 1) := by decide +kernel
theorem dX4_joined_121 : decode cX4_joined 121 = .ok (.lload_n 3, 1) := by decide +kernel
theorem dX4_joined_122 : decode cX4_joined 122 = .ok (.invokestatic 46, 3) := by decide +kernel
theorem dX4_joined_125 : decode cX4_joined 125 = .ok (.lreturn, 1) := by decide +kernel
theorem dX4_joined_126 : decode cX4_joined 126 = .ok (.lload_n 3, 1) := by decide +kernel
theorem dX4_joined_127 : decode cX4_joined 127 = .ok (.lconst 0, 1) := by decide +kernel
theorem dX4_joined_128 : decode cX4_joined 128 = .ok (.lcmp, 1) := by decide +kernel
theorem dX4_joined_129 : decode cX4_joined 129 = .ok (.ifCond .ne 9, 3) := by decide +kernel
theorem dX4_joined_132 : decode cX4_joined 132 = .ok (.ldc2_w 36, 3) := by decide +kernel
theorem dX4_joined_135 : decode cX4_joined 135 = .ok (.goto 6, 3) := by decide +kernel
theorem dX4_joined_138 : decode cX4_joined 138 = .ok (.lload_n 1, 1) := by decide +kernel
theorem dX4_joined_139 : decode cX4_joined 139 = .ok (.lload_n 3, 1) := by decide +kernel
theorem dX4_joined_140 : decode cX4_joined 140 = .ok (.ldiv, 1) := by decide +kernel
theorem dX4_joined_141 : decode cX4_joined 141 = .ok (.lreturn, 1) := by decide +kernel
theorem dX4_joined_142 : decode cX4_joined 142 = .ok (.lload_n 1, 1) := by decide +kernel
theorem dX4_joined_143 : decode cX4_joined 143 = .ok (.lload_n 3, 1) := by decide +kernel
theorem dX4_joined_144 : decode cX4_joined 144 = .ok (.lcmp, 1) := by decide +kernel
theorem dX4_joined_145 : decode cX4_joined 145 = .ok (.ifCond .ge 7, 3) := by decide +kernel
theorem dX4_joined_148 : decode cX4_joined 148 = .ok (.lconst 1, 1) := by decide +kernel
theorem dX4_joined_149 : decode cX4_joined 149 = .ok (.goto 4, 3) := by decide +kernel
theorem dX4_joined_152 : decode cX4_joined 152 = .ok (.lconst 0, 1) := by decide +kernel
theorem dX4_joined_153 : decode cX4_joined 153 = .ok (.lreturn, 1) := by decide +kernel
theorem dX4_joined_154 : decode cX4_joined 154 = .ok (.lload_n 1, 1) := by decide +kernel
theorem dX4_joined_155 : decode cX4_joined 155 = .ok (.lload_n 3, 1) := by decide +kernel
theorem dX4_joined_156 : decode cX4_joined 156 = .ok (.lcmp, 1) := by decide +kernel
theorem dX4_joined_157 : decode cX4_joined 157 = .ok (.ifCond .gt 7, 3) := by decide +kernel
theorem dX4_joined_160 : decode cX4_joined 160 = .ok (.lconst 1, 1) := by decide +kernel
theorem dX4_joined_161 : decode cX4_joined 161 = .ok (.goto 4, 3) := by decide +kernel
theorem dX4_joined_164 : decode cX4_joined 164 = .ok (.lconst 0, 1) := by decide +kernel
theorem dX4_joined_165 : decode cX4_joined 165 = .ok (.lreturn, 1) := by decide +kernel
theorem dX4_joined_166 : decode cX4_joined 166 = .ok (.lload_n 1, 1) := by decide +kernel
theorem dX4_joined_167 : decode cX4_joined 167 = .ok (.lload_n 3, 1) := by decide +kernel
theorem dX4_joined_168 : decode cX4_joined 168 = .ok (.lcmp, 1) := by decide +kernel
theorem dX4_joined_169 : decode cX4_joined 169 = .ok (.ifCond .ne 7, 3) := by decide +kernel
theorem dX4_joined_172 : decode cX4_joined 172 = .ok (.lconst 1, 1) := by decide +kernel
theorem dX4_joined_173 : decode cX4_joined 173 = .ok (.goto 4, 3) := by decide +kernel
theorem dX4_joined_176 : decode cX4_joined 176 = .ok (.lconst 0, 1) := by decide +kernel
theorem dX4_joined_177 : decode cX4_joined 177 = .ok (.lreturn, 1) := by decide +kernel
theorem dX4_joined_178 : decode cX4_joined 178 = .ok (.lload_n 1, 1) := by decide +kernel
theorem dX4_joined_179 : decode cX4_joined 179 = .ok (.lload_n 3, 1) := by decide +kernel
theorem dX4_joined_180 : decode cX4_joined 180 = .ok (.lcmp, 1) := by decide +kernel
theorem dX4_joined_181 : decode cX4_joined 181 = .ok (.ifCond .eq 7, 3) := by decide +kernel
theorem dX4_joined_184 : decode cX4_joined 184 = .ok (.lconst 1, 1) := by decide +kernel
theorem dX4_joined_185 : decode cX4_joined 185 = .ok (.goto 4, 3) := by decide +kernel
theorem dX4_joined_188 : decode cX4_joined 188 = .ok (.lconst 0, 1) := by decide +kernel
theorem dX4_joined_189 : decode cX4_joined 189 = .ok (.lreturn, 1) := by decide +kernel
theorem dX4_joined_190 : decode cX4_joined 190 = .ok (.lload_n 1, 1) := by decide +kernel
theorem dX4_joined_191 : decode cX4_joined 191 = .ok (.lload_n 3, 1) := by decide +kernel
theorem dX4_joined_192 : decode cX4_joined 192 = .ok (.lcmp, 1) := by decide +kernel
theorem dX4_joined_193 : decode cX4_joined 193 = .ok (.ifCond .lt 7, 3) := by decide +kernel
theorem dX4_joined_196 : decode cX4_joined 196 = .ok (.lconst 1, 1) := by decide +kernel
theorem dX4_joined_197 : decode cX4_joined 197 = .ok (.goto 4, 3) := by decide +kernel
theorem dX4_joined_200 : decode cX4_joined 200 = .ok (.lconst 0, 1) := by decide +kernel
theorem dX4_joined_201 : decode cX4_joined 201 = .ok (.lreturn, 1) := by decide +kernel
theorem dX4_joined_202 : decode cX4_joined 202 = .ok (.lload_n 1, 1) := by decide +kernel
theorem dX4_joined_203 : decode cX4_joined 203 = .ok (.lload_n 3, 1) := by decide +kernel
theorem dX4_joined_204 : decode cX4_joined 204 = .ok (.lcmp, 1) := by decide +kernel
theorem dX4_joined_205 : decode cX4_joined 205 = .ok (.ifCond .le 7, 3) := by decide +kernel
theorem dX4_joined_208 : decode cX4_joined 208 = .ok (.lconst 1, 1) := by decide +kernel
theorem dX4_joined_209 : decode cX4_joined 209 = .ok (.goto 4, 3) := by decide +kernel
theorem dX4_joined_212 : decode cX4_joined 212 = .ok (.lconst 0, 1) := by decide +kernel
theorem dX4_joined_213 : decode cX4_joined 213 = .ok (.lreturn, 1) := by decide +kernel
theorem dX4_joined_214 : decode cX4_joined 214 = .ok (.lload_n 1, 1) := by decide +kernel
theorem dX4_joined_215 : decode cX4_joined 215 = .ok (.lconst 0, 1) := by decide +kernel
theorem dX4_joined_216 : decode cX4_joined 216 = .ok (.lcmp, 1) := by decide +kernel
theorem dX4_joined_217 : decode cX4_joined 217 = .ok (.ifCond .eq 13, 3) := by decide +kernel
theorem dX4_joined_220 : decode cX4_joined 220 = .ok (.lload_n 3, 1) := by decide +kernel
theorem dX4_joined_221 : decode cX4_joined 221 = .ok (.lconst 0, 1) := by decide +kernel
theorem dX4_joined_222 : decode cX4_joined 222 = .ok (.lcmp, 1) := by decide +kernel
theorem dX4_joined_223 : decode cX4_joined 223 = .ok (.ifCond .eq 7, 3) := by decide +kernel
theorem dX4_joined_226 : decode cX4_joined 226 = .ok (.lconst 1, 1) := by decide +kernel
theorem dX4_joined_227 : decode cX4_joined 227 = .ok (.goto 4, 3) := by decide +kernel
theorem dX4_joined_230 : decode cX4_joined 230 = .ok (.lconst 0, 1) := by decide +kernel
theorem dX4_joined_231 : decode cX4_joined 231 = .ok (.lreturn, 1) := by decide +kernel
theorem dX4_joined_232 : decode cX4_joined 232 = .ok (.lload_n 1, 1) := by decide +kernel
theorem dX4_joined_233 : decode cX4_joined 233 = .ok (.lconst 0, 1) := by decide +kernel
theorem dX4_joined_234 : decode cX4_joined 234 = .ok (.lcmp, 1) := by decide +kernel
theorem dX4_joined_235 : decode cX4_joined 235 = .ok (.ifCond .ne 9, 3) := by decide +kernel
theorem dX4_joined_238 : decode cX4_joined 238 = .ok (.lload_n 3, 1) := by decide +kernel
theorem dX4_joined_239 : decode cX4_joined 239 = .ok (.lconst 0, 1) := by decide +kernel
theorem dX4_joined_240 : decode cX4_joined 240 = .ok (.lcmp, 1) := by decide +kernel
theorem dX4_joined_241 : decode cX4_joined 241 = .ok (.ifCond .eq 7, 3) := by decide +kernel
theorem dX4_joined_244 : decode cX4_joined 244 = .ok (.lconst 1, 1) := by decide +kernel
theorem dX4_joined_245 : decode cX4_joined 245 = .ok (.goto 4, 3) := by decide +kernel
theorem dX4_joined_248 : decode cX4_joined 248 = .ok (.lconst 0, 1) := by decide +kernel
theorem dX4_joined_249 : decode cX4_joined 249 = .ok (.lreturn, 1) := by decide +kernel
theorem dX4_joined_250 : decode cX4_joined 250 = .ok (.ldc2_w 36, 3) := by decide +kernel
theorem dX4_joined_253 : decode cX4_joined 253 = .ok (.lreturn, 1) := by decide +kernel
theorem dX4_product_0 : decode cX4_product 0 = .ok (.lload_n 0, 1) := by decide +kernel
theorem dX4_product_1 : decode cX4_product 1 = .ok (.lconst 0, 1) := by decide +kernel
theorem dX4_product_2 : decode cX4_product 2 = .ok (.lcmp, 1) := by decide +kernel
theorem dX4_product_3 : decode cX4_product 3 = .ok (.ifCond .ge 8, 3) := by decide +kernel
theorem dX4_product_6 : decode cX4_product 6 = .ok (.lload_n 0, 1) := by decide +kernel
theorem dX4_product_7 : decode cX4_product 7 = .ok (.lneg, 1) := by decide +kernel
theorem dX4_product_8 : decode cX4_product 8 = .ok (.goto 4, 3) := by decide +kernel
theorem dX4_product_11 : decode cX4_product 11 = .ok (.lload_n 0, 1) := by decide +kernel
theorem dX4_product_12 : decode cX4_product 12 = .ok (.lstore 4, 2) := by decide +kernel
theorem dX4_product_14 : decode cX4_product 14 = .ok (.lload_n 2, 1) := by decide +kernel
theorem dX4_product_15 : decode cX4_product 15 = .ok (.lconst 0, 1) := by decide +kernel
theorem dX4_product_16 : decode cX4_product 16 = .ok (.lcmp, 1) := by decide +kernel
theorem dX4_product_17 : decode cX4_product 17 = .ok (.ifCond .ge 8, 3) := by decide +kernel
theorem dX4_product_20 : decode cX4_product 20 = .ok (.lload_n 2, 1) := by decide +kernel
theorem dX4_product_21 : decode cX4_product 21 = .ok (.lneg, 1) := by decide +kernel
theorem dX4_product_22 : decode cX4_product 22 = .ok (.goto 4, 3) := by decide +kernel
theorem dX4_product_25 : decode cX4_product 25 = .ok (.lload_n 2, 1) := by decide +kernel
theorem dX4_product_26 : decode cX4_product 26 = .ok (.lstore 6, 2) := by decide +kernel
theorem dX4_product_28 : decode cX4_product 28 = .ok (.lload 4, 2) := by decide +kernel
theorem dX4_product_30 : decode cX4_product 30 = .ok (.lconst 0, 1) := by decide +kernel
theorem dX4_product_31 : decode cX4_product 31 = .ok (.lcmp, 1) := by decide +kernel
theorem dX4_product_32 : decode cX4_product 32 = .ok (.ifCond .eq 19, 3) := by decide +kernel
theorem dX4_product_35 : decode cX4_product 35 = .ok (.lload 6, 2) := by decide +kernel
theorem dX4_product_37 : decode cX4_product 37 = .ok (.ldc2_w 42, 3) := by decide +kernel
theorem dX4_product_40 : decode cX4_product 40 = .ok (.lload 4, 2) := by decide +kernel
theorem dX4_product_42 : decode cX4_product 42 = .ok (.ldiv, 1) := by decide +kernel
theorem dX4_product_43 : decode cX4_product 43 = .ok (.lcmp, 1) := by decide +kernel
theorem dX4_product_44 : decode cX4_product 44 = .ok (.ifCond .le 7, 3) := by decide +kernel
theorem dX4_product_47 : decode cX4_product 47 = .ok (.ldc2_w 36, 3) := by decide +kernel
theorem dX4_product_50 : decode cX4_product 50 = .ok (.lreturn, 1) := by decide +kernel
theorem dX4_product_51 : decode cX4_product 51 = .ok (.lload_n 0, 1) := by decide +kernel
theorem dX4_product_52 : decode cX4_product 52 = .ok (.lload_n 2, 1) := by decide +kernel
theorem dX4_product_53 : decode cX4_product 53 = .ok (.lmul, 1) := by decide +kernel
theorem dX4_product_54 : decode cX4_product 54 = .ok (.lreturn, 1) := by decide +kernel
def wp_X1_beginAsTold_69 (Q : ck_H → Prop) (o0 o1 : Nat) : Nat → Int32 → ck_H → Prop
  | 0 => fun _ _ => False
  | n + 1 => fun x2 h => (((10 : Int32) ≤ x2 → Q h) ∧ (¬ (10 : Int32) ≤ x2 → (vp_in x2 10 ∧ (∀ h10, h10 = ck_sI h (o0 + 4) x2.toNatClampNeg (-1 : Int32) → (∀ v11, v11 = x2 + 1 → (wp_X1_beginAsTold_69 Q o0 o1 n) v11 h10)))))
def wp_X1_beginAsTold (o0 o1 : Nat) (h : ck_H) (Q : ck_H → Prop) : Prop := (∀ h1, h1 = ck_sI h o0 4 (0 : Int32) → (∀ h2, h2 = ck_sI h1 o0 5 (0 : Int32) → (∀ h3, h3 = ck_sI h2 o0 6 (h2.1 o1 12) → (∀ h4, h4 = ck_sI h3 o0 7 (0 : Int32) → (∀ h5, h5 = ck_sR h4 (o0 + 1) (va_cpy (h4.1 (o1 + 4)) (h4.1 (o0 + 1)) (0 : Int32).toNatClampNeg (0 : Int32).toNatClampNeg (4 : Int32).toNatClampNeg) → (∀ h6, h6 = ck_sR h5 (o0 + 2) (va_cpy (h5.1 (o1 + 12)) (h5.1 (o0 + 2)) (0 : Int32).toNatClampNeg (0 : Int32).toNatClampNeg (10 : Int32).toNatClampNeg) → (∀ h7, h7 = ck_sR h6 (o0 + 3) (va_cpy (h6.1 (o1 + 14)) (h6.1 (o0 + 3)) (0 : Int32).toNatClampNeg (0 : Int32).toNatClampNeg (10 : Int32).toNatClampNeg) → wp_X1_beginAsTold_69 Q o0 o1 lpN (0 : Int32) h7)))))))
set_option maxHeartbeats 4000000 in
set_option maxRecDepth 100000 in
theorem cp_X1_beginAsTold_69 {gr : Bool} {Q : ck_H → Prop} {sh : List ck_C} {o0 o1 : Nat} (hc : (sh = ck_shX3 ∧ o0 = 7 ∧ o1 = 53) ∨ (sh = ck_shX ∧ o0 = 17 ∧ o1 = 32) ∨ (sh = ck_shX ∧ o0 = 7 ∧ o1 = 32)) : ∀ (n : Nat) (x2 : Int32) (h : ck_H), wp_X1_beginAsTold_69 Q o0 o1 n x2 h → ck_W cX1_beginAsTold 3 RX1 none 2 0 0 false gr (ck_Qv sh Q) sh h 0 0 69 [(0, .ref o0), (2, .int x2)] [] := by
  rcases hc with ⟨rfl, rfl, rfl⟩ | ⟨rfl, rfl, rfl⟩ | ⟨rfl, rfl, rfl⟩
  · intro n
    induction n with
    | zero => intro x2 h hq; exact hq.elim
    | succ n hKc =>
      intro x2 h hq
      refine ck_iload_n 1 dX1_beginAsTold_69 rfl rfl ?_
      refine ck_bipush (v := 10) dX1_beginAsTold_70 (by decide) ?_
      refine ck_icmp_ge (tgt := 88) dX1_beginAsTold_72 (by decide) (fun c12 => ?_) (fun c12 => ?_)
      · have hq := hq.1 c12
        exact ck_vret rfl rfl rfl dX1_beginAsTold_88 ⟨rfl, rfl, hq⟩
      · have hq := hq.2 c12
        refine ck_aload_n 0 dX1_beginAsTold_75 rfl rfl ?_
        refine ck_getR clX1 3 rfl rfl (by decide) fl_X1_21 dX1_beginAsTold_76 ?_
        refine ck_iload_n 1 dX1_beginAsTold_79 rfl rfl ?_
        refine ck_iconst (v := -1) dX1_beginAsTold_80 (by decide) ?_
        obtain ⟨b13, hq⟩ := hq
        refine ck_iast rfl rfl b13 dX1_beginAsTold_81 ?_
        refine ck_nmH (fun h14 eh14 => ?_)
        have hq := hq h14 eh14
        obtain ⟨v15, ev15⟩ : ∃ z : Int32, z = x2 + 1 := ⟨_, rfl⟩
        have hq := hq v15 ev15
        refine ck_iinc (v := v15) (lv' := [(2, .int v15), (0, .ref 7)]) 1 dX1_beginAsTold_82 rfl (by rw [ev15]; rfl) (by decide) rfl ?_
        refine ck_goto (tgt := 69) dX1_beginAsTold_85 (by decide) ?_
        refine ck_loc [1, 0] rfl ?_
        exact hKc _ _ hq
  · intro n
    induction n with
    | zero => intro x2 h hq; exact hq.elim
    | succ n hKc =>
      intro x2 h hq
      refine ck_iload_n 1 dX1_beginAsTold_69 rfl rfl ?_
      refine ck_bipush (v := 10) dX1_beginAsTold_70 (by decide) ?_
      refine ck_icmp_ge (tgt := 88) dX1_beginAsTold_72 (by decide) (fun c16 => ?_) (fun c16 => ?_)
      · have hq := hq.1 c16
        exact ck_vret rfl rfl rfl dX1_beginAsTold_88 ⟨rfl, rfl, hq⟩
      · have hq := hq.2 c16
        refine ck_aload_n 0 dX1_beginAsTold_75 rfl rfl ?_
        refine ck_getR clX1 3 rfl rfl (by decide) fl_X1_21 dX1_beginAsTold_76 ?_
        refine ck_iload_n 1 dX1_beginAsTold_79 rfl rfl ?_
        refine ck_iconst (v := -1) dX1_beginAsTold_80 (by decide) ?_
        obtain ⟨b17, hq⟩ := hq
        refine ck_iast rfl rfl b17 dX1_beginAsTold_81 ?_
        refine ck_nmH (fun h18 eh18 => ?_)
        have hq := hq h18 eh18
        obtain ⟨v19, ev19⟩ : ∃ z : Int32, z = x2 + 1 := ⟨_, rfl⟩
        have hq := hq v19 ev19
        refine ck_iinc (v := v19) (lv' := [(2, .int v19), (0, .ref 17)]) 1 dX1_beginAsTold_82 rfl (by rw [ev19]; rfl) (by decide) rfl ?_
        refine ck_goto (tgt := 69) dX1_beginAsTold_85 (by decide) ?_
        refine ck_loc [1, 0] rfl ?_
        exact hKc _ _ hq
  · intro n
    induction n with
    | zero => intro x2 h hq; exact hq.elim
    | succ n hKc =>
      intro x2 h hq
      refine ck_iload_n 1 dX1_beginAsTold_69 rfl rfl ?_
      refine ck_bipush (v := 10) dX1_beginAsTold_70 (by decide) ?_
      refine ck_icmp_ge (tgt := 88) dX1_beginAsTold_72 (by decide) (fun c20 => ?_) (fun c20 => ?_)
      · have hq := hq.1 c20
        exact ck_vret rfl rfl rfl dX1_beginAsTold_88 ⟨rfl, rfl, hq⟩
      · have hq := hq.2 c20
        refine ck_aload_n 0 dX1_beginAsTold_75 rfl rfl ?_
        refine ck_getR clX1 3 rfl rfl (by decide) fl_X1_21 dX1_beginAsTold_76 ?_
        refine ck_iload_n 1 dX1_beginAsTold_79 rfl rfl ?_
        refine ck_iconst (v := -1) dX1_beginAsTold_80 (by decide) ?_
        obtain ⟨b21, hq⟩ := hq
        refine ck_iast rfl rfl b21 dX1_beginAsTold_81 ?_
        refine ck_nmH (fun h22 eh22 => ?_)
        have hq := hq h22 eh22
        obtain ⟨v23, ev23⟩ : ∃ z : Int32, z = x2 + 1 := ⟨_, rfl⟩
        have hq := hq v23 ev23
        refine ck_iinc (v := v23) (lv' := [(2, .int v23), (0, .ref 7)]) 1 dX1_beginAsTold_82 rfl (by rw [ev23]; rfl) (by decide) rfl ?_
        refine ck_goto (tgt := 69) dX1_beginAsTold_85 (by decide) ?_
        refine ck_loc [1, 0] rfl ?_
        exact hKc _ _ hq
set_option maxHeartbeats 4000000 in
set_option maxRecDepth 100000 in
theorem c_X1_beginAsTold {gr : Bool} {h : ck_H} {Q : ck_H → Prop} {sh : List ck_C} {o0 o1 : Nat} (hc : (sh = ck_shX3 ∧ o0 = 7 ∧ o1 = 53) ∨ (sh = ck_shX ∧ o0 = 17 ∧ o1 = 32) ∨ (sh = ck_shX ∧ o0 = 7 ∧ o1 = 32)) (hq : wp_X1_beginAsTold o0 o1 h Q) : ck_M yX1_beginAsTold cX1_beginAsTold 3 none 2 0 0 gr sh h [.ref o0, .ref o1] (ck_Qv sh Q) := by
  rcases hc with ⟨rfl, rfl, rfl⟩ | ⟨rfl, rfl, rfl⟩ | ⟨rfl, rfl, rfl⟩
  · refine ck_entry (lv := [(0, .ref 7), (1, .ref 53)]) false (own := RX1) rfl (fun q => by cases q) (by decide) (Nat.le_of_ble_eq_true rfl) rfl ?_
    refine ck_aload_n 0 dX1_beginAsTold_0 rfl rfl ?_
    refine ck_iconst (v := 0) dX1_beginAsTold_1 (by decide) ?_
    refine ck_putI clX1 4 rfl rfl (by decide) fl_X1_24 rfl rfl rfl dX1_beginAsTold_2 ?_
    refine ck_nmH (fun h24 eh24 => ?_)
    have hq := hq h24 eh24
    refine ck_aload_n 0 dX1_beginAsTold_5 rfl rfl ?_
    refine ck_iconst (v := 0) dX1_beginAsTold_6 (by decide) ?_
    refine ck_putI clX1 5 rfl rfl (by decide) fl_X1_28 rfl rfl rfl dX1_beginAsTold_7 ?_
    refine ck_nmH (fun h25 eh25 => ?_)
    have hq := hq h25 eh25
    refine ck_aload_n 0 dX1_beginAsTold_10 rfl rfl ?_
    refine ck_aload_n 1 dX1_beginAsTold_11 rfl rfl ?_
    refine ck_getIN clX7 12 rfl rfl (by decide) fl_X1_31 dX1_beginAsTold_12 ?_
    refine ck_putI clX1 6 rfl rfl (by decide) fl_X1_36 rfl rfl rfl dX1_beginAsTold_15 ?_
    refine ck_nmH (fun h26 eh26 => ?_)
    have hq := hq h26 eh26
    refine ck_aload_n 0 dX1_beginAsTold_18 rfl rfl ?_
    refine ck_iconst (v := 0) dX1_beginAsTold_19 (by decide) ?_
    refine ck_putI clX1 7 rfl rfl (by decide) fl_X1_37 rfl rfl rfl dX1_beginAsTold_20 ?_
    refine ck_nmH (fun h27 eh27 => ?_)
    have hq := hq h27 eh27
    refine ck_aload_n 1 dX1_beginAsTold_23 rfl rfl ?_
    refine ck_getRN clX7 2 rfl rfl (by decide) fl_X1_40 dX1_beginAsTold_24 ?_
    refine ck_iconst (v := 0) dX1_beginAsTold_27 (by decide) ?_
    refine ck_aload_n 0 dX1_beginAsTold_28 rfl rfl ?_
    refine ck_getR clX1 0 rfl rfl (by decide) fl_X1_9 dX1_beginAsTold_29 ?_
    refine ck_iconst (v := 0) dX1_beginAsTold_32 (by decide) ?_
    refine ck_iconst (v := 4) dX1_beginAsTold_33 (by decide) ?_
    refine ck_acopy rfl rfl ml_X1_41 w_acopy (by decide) (by decide) (by decide) (by decide) (by decide) (by decide) (Nat.le_of_ble_eq_true rfl) dX1_beginAsTold_34 ?_
    refine ck_nmH (fun h28 eh28 => ?_)
    have hq := hq h28 eh28
    refine ck_aload_n 1 dX1_beginAsTold_37 rfl rfl ?_
    refine ck_getRN clX7 8 rfl rfl (by decide) fl_X1_47 dX1_beginAsTold_38 ?_
    refine ck_iconst (v := 0) dX1_beginAsTold_41 (by decide) ?_
    refine ck_aload_n 0 dX1_beginAsTold_42 rfl rfl ?_
    refine ck_getR clX1 1 rfl rfl (by decide) fl_X1_15 dX1_beginAsTold_43 ?_
    refine ck_iconst (v := 0) dX1_beginAsTold_46 (by decide) ?_
    refine ck_bipush (v := 10) dX1_beginAsTold_47 (by decide) ?_
    refine ck_acopy rfl rfl ml_X1_41 w_acopy (by decide) (by decide) (by decide) (by decide) (by decide) (by decide) (Nat.le_of_ble_eq_true rfl) dX1_beginAsTold_49 ?_
    refine ck_nmH (fun h29 eh29 => ?_)
    have hq := hq h29 eh29
    refine ck_aload_n 1 dX1_beginAsTold_52 rfl rfl ?_
    refine ck_getRN clX7 10 rfl rfl (by decide) fl_X1_48 dX1_beginAsTold_53 ?_
    refine ck_iconst (v := 0) dX1_beginAsTold_56 (by decide) ?_
    refine ck_aload_n 0 dX1_beginAsTold_57 rfl rfl ?_
    refine ck_getR clX1 2 rfl rfl (by decide) fl_X1_18 dX1_beginAsTold_58 ?_
    refine ck_iconst (v := 0) dX1_beginAsTold_61 (by decide) ?_
    refine ck_bipush (v := 10) dX1_beginAsTold_62 (by decide) ?_
    refine ck_acopy rfl rfl ml_X1_41 w_acopy (by decide) (by decide) (by decide) (by decide) (by decide) (by decide) (Nat.le_of_ble_eq_true rfl) dX1_beginAsTold_64 ?_
    refine ck_nmH (fun h30 eh30 => ?_)
    have hq := hq h30 eh30
    refine ck_iconst (v := 0) dX1_beginAsTold_67 (by decide) ?_
    refine ck_istore_n (lv' := [(2, .int (0 : Int32)), (0, .ref 7), (1, .ref 53)]) dX1_beginAsTold_68 rfl (by decide) rfl ?_
    refine ck_loc [1, 0] rfl ?_
    refine cp_X1_beginAsTold_69 (by simp) lpN _ _ hq
  · refine ck_entry (lv := [(0, .ref 17), (1, .ref 32)]) false (own := RX1) rfl (fun q => by cases q) (by decide) (Nat.le_of_ble_eq_true rfl) rfl ?_
    refine ck_aload_n 0 dX1_beginAsTold_0 rfl rfl ?_
    refine ck_iconst (v := 0) dX1_beginAsTold_1 (by decide) ?_
    refine ck_putI clX1 4 rfl rfl (by decide) fl_X1_24 rfl rfl rfl dX1_beginAsTold_2 ?_
    refine ck_nmH (fun h31 eh31 => ?_)
    have hq := hq h31 eh31
    refine ck_aload_n 0 dX1_beginAsTold_5 rfl rfl ?_
    refine ck_iconst (v := 0) dX1_beginAsTold_6 (by decide) ?_
    refine ck_putI clX1 5 rfl rfl (by decide) fl_X1_28 rfl rfl rfl dX1_beginAsTold_7 ?_
    refine ck_nmH (fun h32 eh32 => ?_)
    have hq := hq h32 eh32
    refine ck_aload_n 0 dX1_beginAsTold_10 rfl rfl ?_
    refine ck_aload_n 1 dX1_beginAsTold_11 rfl rfl ?_
    refine ck_getIN clX7 12 rfl rfl (by decide) fl_X1_31 dX1_beginAsTold_12 ?_
    refine ck_putI clX1 6 rfl rfl (by decide) fl_X1_36 rfl rfl rfl dX1_beginAsTold_15 ?_
    refine ck_nmH (fun h33 eh33 => ?_)
    have hq := hq h33 eh33
    refine ck_aload_n 0 dX1_beginAsTold_18 rfl rfl ?_
    refine ck_iconst (v := 0) dX1_beginAsTold_19 (by decide) ?_
    refine ck_putI clX1 7 rfl rfl (by decide) fl_X1_37 rfl rfl rfl dX1_beginAsTold_20 ?_
    refine ck_nmH (fun h34 eh34 => ?_)
    have hq := hq h34 eh34
    refine ck_aload_n 1 dX1_beginAsTold_23 rfl rfl ?_
    refine ck_getRN clX7 2 rfl rfl (by decide) fl_X1_40 dX1_beginAsTold_24 ?_
    refine ck_iconst (v := 0) dX1_beginAsTold_27 (by decide) ?_
    refine ck_aload_n 0 dX1_beginAsTold_28 rfl rfl ?_
    refine ck_getR clX1 0 rfl rfl (by decide) fl_X1_9 dX1_beginAsTold_29 ?_
    refine ck_iconst (v := 0) dX1_beginAsTold_32 (by decide) ?_
    refine ck_iconst (v := 4) dX1_beginAsTold_33 (by decide) ?_
    refine ck_acopy rfl rfl ml_X1_41 w_acopy (by decide) (by decide) (by decide) (by decide) (by decide) (by decide) (Nat.le_of_ble_eq_true rfl) dX1_beginAsTold_34 ?_
    refine ck_nmH (fun h35 eh35 => ?_)
    have hq := hq h35 eh35
    refine ck_aload_n 1 dX1_beginAsTold_37 rfl rfl ?_
    refine ck_getRN clX7 8 rfl rfl (by decide) fl_X1_47 dX1_beginAsTold_38 ?_
    refine ck_iconst (v := 0) dX1_beginAsTold_41 (by decide) ?_
    refine ck_aload_n 0 dX1_beginAsTold_42 rfl rfl ?_
    refine ck_getR clX1 1 rfl rfl (by decide) fl_X1_15 dX1_beginAsTold_43 ?_
    refine ck_iconst (v := 0) dX1_beginAsTold_46 (by decide) ?_
    refine ck_bipush (v := 10) dX1_beginAsTold_47 (by decide) ?_
    refine ck_acopy rfl rfl ml_X1_41 w_acopy (by decide) (by decide) (by decide) (by decide) (by decide) (by decide) (Nat.le_of_ble_eq_true rfl) dX1_beginAsTold_49 ?_
    refine ck_nmH (fun h36 eh36 => ?_)
    have hq := hq h36 eh36
    refine ck_aload_n 1 dX1_beginAsTold_52 rfl rfl ?_
    refine ck_getRN clX7 10 rfl rfl (by decide) fl_X1_48 dX1_beginAsTold_53 ?_
    refine ck_iconst (v := 0) dX1_beginAsTold_56 (by decide) ?_
    refine ck_aload_n 0 dX1_beginAsTold_57 rfl rfl ?_
    refine ck_getR clX1 2 rfl rfl (by decide) fl_X1_18 dX1_beginAsTold_58 ?_
    refine ck_iconst (v := 0) dX1_beginAsTold_61 (by decide) ?_
    refine ck_bipush (v := 10) dX1_beginAsTold_62 (by decide) ?_
    refine ck_acopy rfl rfl ml_X1_41 w_acopy (by decide) (by decide) (by decide) (by decide) (by decide) (by decide) (Nat.le_of_ble_eq_true rfl) dX1_beginAsTold_64 ?_
    refine ck_nmH (fun h37 eh37 => ?_)
    have hq := hq h37 eh37
    refine ck_iconst (v := 0) dX1_beginAsTold_67 (by decide) ?_
    refine ck_istore_n (lv' := [(2, .int (0 : Int32)), (0, .ref 17), (1, .ref 32)]) dX1_beginAsTold_68 rfl (by decide) rfl ?_
    refine ck_loc [1, 0] rfl ?_
    refine cp_X1_beginAsTold_69 (by simp) lpN _ _ hq
  · refine ck_entry (lv := [(0, .ref 7), (1, .ref 32)]) false (own := RX1) rfl (fun q => by cases q) (by decide) (Nat.le_of_ble_eq_true rfl) rfl ?_
    refine ck_aload_n 0 dX1_beginAsTold_0 rfl rfl ?_
    refine ck_iconst (v := 0) dX1_beginAsTold_1 (by decide) ?_
    refine ck_putI clX1 4 rfl rfl (by decide) fl_X1_24 rfl rfl rfl dX1_beginAsTold_2 ?_
    refine ck_nmH (fun h38 eh38 => ?_)
    have hq := hq h38 eh38
    refine ck_aload_n 0 dX1_beginAsTold_5 rfl rfl ?_
    refine ck_iconst (v := 0) dX1_beginAsTold_6 (by decide) ?_
    refine ck_putI clX1 5 rfl rfl (by decide) fl_X1_28 rfl rfl rfl dX1_beginAsTold_7 ?_
    refine ck_nmH (fun h39 eh39 => ?_)
    have hq := hq h39 eh39
    refine ck_aload_n 0 dX1_beginAsTold_10 rfl rfl ?_
    refine ck_aload_n 1 dX1_beginAsTold_11 rfl rfl ?_
    refine ck_getIN clX7 12 rfl rfl (by decide) fl_X1_31 dX1_beginAsTold_12 ?_
    refine ck_putI clX1 6 rfl rfl (by decide) fl_X1_36 rfl rfl rfl dX1_beginAsTold_15 ?_
    refine ck_nmH (fun h40 eh40 => ?_)
    have hq := hq h40 eh40
    refine ck_aload_n 0 dX1_beginAsTold_18 rfl rfl ?_
    refine ck_iconst (v := 0) dX1_beginAsTold_19 (by decide) ?_
    refine ck_putI clX1 7 rfl rfl (by decide) fl_X1_37 rfl rfl rfl dX1_beginAsTold_20 ?_
    refine ck_nmH (fun h41 eh41 => ?_)
    have hq := hq h41 eh41
    refine ck_aload_n 1 dX1_beginAsTold_23 rfl rfl ?_
    refine ck_getRN clX7 2 rfl rfl (by decide) fl_X1_40 dX1_beginAsTold_24 ?_
    refine ck_iconst (v := 0) dX1_beginAsTold_27 (by decide) ?_
    refine ck_aload_n 0 dX1_beginAsTold_28 rfl rfl ?_
    refine ck_getR clX1 0 rfl rfl (by decide) fl_X1_9 dX1_beginAsTold_29 ?_
    refine ck_iconst (v := 0) dX1_beginAsTold_32 (by decide) ?_
    refine ck_iconst (v := 4) dX1_beginAsTold_33 (by decide) ?_
    refine ck_acopy rfl rfl ml_X1_41 w_acopy (by decide) (by decide) (by decide) (by decide) (by decide) (by decide) (Nat.le_of_ble_eq_true rfl) dX1_beginAsTold_34 ?_
    refine ck_nmH (fun h42 eh42 => ?_)
    have hq := hq h42 eh42
    refine ck_aload_n 1 dX1_beginAsTold_37 rfl rfl ?_
    refine ck_getRN clX7 8 rfl rfl (by decide) fl_X1_47 dX1_beginAsTold_38 ?_
    refine ck_iconst (v := 0) dX1_beginAsTold_41 (by decide) ?_
    refine ck_aload_n 0 dX1_beginAsTold_42 rfl rfl ?_
    refine ck_getR clX1 1 rfl rfl (by decide) fl_X1_15 dX1_beginAsTold_43 ?_
    refine ck_iconst (v := 0) dX1_beginAsTold_46 (by decide) ?_
    refine ck_bipush (v := 10) dX1_beginAsTold_47 (by decide) ?_
    refine ck_acopy rfl rfl ml_X1_41 w_acopy (by decide) (by decide) (by decide) (by decide) (by decide) (by decide) (Nat.le_of_ble_eq_true rfl) dX1_beginAsTold_49 ?_
    refine ck_nmH (fun h43 eh43 => ?_)
    have hq := hq h43 eh43
    refine ck_aload_n 1 dX1_beginAsTold_52 rfl rfl ?_
    refine ck_getRN clX7 10 rfl rfl (by decide) fl_X1_48 dX1_beginAsTold_53 ?_
    refine ck_iconst (v := 0) dX1_beginAsTold_56 (by decide) ?_
    refine ck_aload_n 0 dX1_beginAsTold_57 rfl rfl ?_
    refine ck_getR clX1 2 rfl rfl (by decide) fl_X1_18 dX1_beginAsTold_58 ?_
    refine ck_iconst (v := 0) dX1_beginAsTold_61 (by decide) ?_
    refine ck_bipush (v := 10) dX1_beginAsTold_62 (by decide) ?_
    refine ck_acopy rfl rfl ml_X1_41 w_acopy (by decide) (by decide) (by decide) (by decide) (by decide) (by decide) (Nat.le_of_ble_eq_true rfl) dX1_beginAsTold_64 ?_
    refine ck_nmH (fun h44 eh44 => ?_)
    have hq := hq h44 eh44
    refine ck_iconst (v := 0) dX1_beginAsTold_67 (by decide) ?_
    refine ck_istore_n (lv' := [(2, .int (0 : Int32)), (0, .ref 7), (1, .ref 32)]) dX1_beginAsTold_68 rfl (by decide) rfl ?_
    refine ck_loc [1, 0] rfl ?_
    refine cp_X1_beginAsTold_69 (by simp) lpN _ _ hq
def wp_X1_hasStone (o0 : Nat) (x1 : Int32) (h : ck_H) (Q : Int32 → ck_H → Prop) : Prop := ((¬ (((h.1 o0 4) >>> (x1 &&& 31)) &&& (1 : Int32)) = (1 : Int32) → Q (0 : Int32) h) ∧ ((((h.1 o0 4) >>> (x1 &&& 31)) &&& (1 : Int32)) = (1 : Int32) → Q (1 : Int32) h))
set_option maxHeartbeats 4000000 in
set_option maxRecDepth 100000 in
theorem c_X1_hasStone {gr : Bool} {x1 : Int32} {h : ck_H} {Q : Int32 → ck_H → Prop} {o0 : Nat} (hc : (o0 = 7) ∨ (o0 = 17)) (hq : wp_X1_hasStone o0 x1 h Q) : ck_M yX1_hasStone cX1_hasStone 2 (some .boolean) 2 0 0 gr ck_shX h [.ref o0, .int x1] (ck_Qi ck_shX Q) := by
  rcases hc with rfl | rfl
  · refine ck_entry (lv := [(0, .ref 7), (1, .int x1)]) false (own := RX1) rfl (fun q => by cases q) (by decide) (Nat.le_of_ble_eq_true rfl) rfl ?_
    refine ck_aload_n 0 dX1_hasStone_0 rfl rfl ?_
    refine ck_getI clX1 4 rfl rfl (by decide) fl_X1_24 dX1_hasStone_1 ?_
    refine ck_iload_n 1 dX1_hasStone_4 rfl rfl ?_
    refine ck_ishr dX1_hasStone_5 ?_
    refine ck_iconst (v := 1) dX1_hasStone_6 (by decide) ?_
    refine ck_iand dX1_hasStone_7 ?_
    refine ck_iconst (v := 1) dX1_hasStone_8 (by decide) ?_
    refine ck_icmp_ne (tgt := 16) dX1_hasStone_9 (by decide) (fun c2 => ?_) (fun c2 => ?_)
    · have hq := hq.1 c2
      refine ck_iconst (v := 0) dX1_hasStone_16 (by decide) ?_
      exact ck_iret rfl (by decide) rfl rfl dX1_hasStone_17 ⟨_, rfl, rfl, hq⟩
    · have hq := hq.2 c2
      refine ck_iconst (v := 1) dX1_hasStone_12 (by decide) ?_
      refine ck_goto (tgt := 17) dX1_hasStone_13 (by decide) ?_
      exact ck_iret rfl (by decide) rfl rfl dX1_hasStone_17 ⟨_, rfl, rfl, hq⟩
  · refine ck_entry (lv := [(0, .ref 17), (1, .int x1)]) false (own := RX1) rfl (fun q => by cases q) (by decide) (Nat.le_of_ble_eq_true rfl) rfl ?_
    refine ck_aload_n 0 dX1_hasStone_0 rfl rfl ?_
    refine ck_getI clX1 4 rfl rfl (by decide) fl_X1_24 dX1_hasStone_1 ?_
    refine ck_iload_n 1 dX1_hasStone_4 rfl rfl ?_
    refine ck_ishr dX1_hasStone_5 ?_
    refine ck_iconst (v := 1) dX1_hasStone_6 (by decide) ?_
    refine ck_iand dX1_hasStone_7 ?_
    refine ck_iconst (v := 1) dX1_hasStone_8 (by decide) ?_
    refine ck_icmp_ne (tgt := 16) dX1_hasStone_9 (by decide) (fun c3 => ?_) (fun c3 => ?_)
    · have hq := hq.1 c3
      refine ck_iconst (v := 0) dX1_hasStone_16 (by decide) ?_
      exact ck_iret rfl (by decide) rfl rfl dX1_hasStone_17 ⟨_, rfl, rfl, hq⟩
    · have hq := hq.2 c3
      refine ck_iconst (v := 1) dX1_hasStone_12 (by decide) ?_
      refine ck_goto (tgt := 17) dX1_hasStone_13 (by decide) ?_
      exact ck_iret rfl (by decide) rfl rfl dX1_hasStone_17 ⟨_, rfl, rfl, hq⟩
def wp_X1_becomeLike (o0 o1 : Nat) (h : ck_H) (Q : ck_H → Prop) : Prop := (∀ h1, h1 = ck_sI h o0 4 (h.1 o1 4) → (∀ h2, h2 = ck_sI h1 o0 5 (h1.1 o1 5) → (∀ h3, h3 = ck_sI h2 o0 6 (h2.1 o1 6) → (∀ h4, h4 = ck_sI h3 o0 7 (h3.1 o1 7) → (∀ h5, h5 = ck_sR h4 (o0 + 1) (va_cpy (h4.1 (o1 + 1)) (h4.1 (o0 + 1)) (0 : Int32).toNatClampNeg (0 : Int32).toNatClampNeg (4 : Int32).toNatClampNeg) → (∀ h6, h6 = ck_sR h5 (o0 + 2) (va_cpy (h5.1 (o1 + 2)) (h5.1 (o0 + 2)) (0 : Int32).toNatClampNeg (0 : Int32).toNatClampNeg (10 : Int32).toNatClampNeg) → (∀ h7, h7 = ck_sR h6 (o0 + 3) (va_cpy (h6.1 (o1 + 3)) (h6.1 (o0 + 3)) (0 : Int32).toNatClampNeg (0 : Int32).toNatClampNeg (10 : Int32).toNatClampNeg) → (∀ h8, h8 = ck_sR h7 (o0 + 4) (va_cpy (h7.1 (o1 + 4)) (h7.1 (o0 + 4)) (0 : Int32).toNatClampNeg (0 : Int32).toNatClampNeg (10 : Int32).toNatClampNeg) → Q h8))))))))
set_option maxHeartbeats 4000000 in
set_option maxRecDepth 100000 in
theorem c_X1_becomeLike {gr : Bool} {h : ck_H} {Q : ck_H → Prop} {o0 o1 : Nat} (hc : (o0 = 17 ∧ o1 = 7) ∨ (o0 = 12 ∧ o1 = 7) ∨ (o0 = 7 ∧ o1 = 12)) (hq : wp_X1_becomeLike o0 o1 h Q) : ck_M yX1_becomeLike cX1_becomeLike 2 none 2 0 0 gr ck_shX h [.ref o0, .ref o1] (ck_Qv ck_shX Q) := by
  rcases hc with ⟨rfl, rfl⟩ | ⟨rfl, rfl⟩ | ⟨rfl, rfl⟩
  · refine ck_entry (lv := [(0, .ref 17), (1, .ref 7)]) false (own := RX1) rfl (fun q => by cases q) (by decide) (Nat.le_of_ble_eq_true rfl) rfl ?_
    refine ck_aload_n 0 dX1_becomeLike_0 rfl rfl ?_
    refine ck_aload_n 1 dX1_becomeLike_1 rfl rfl ?_
    refine ck_getI clX1 4 rfl rfl (by decide) fl_X1_24 dX1_becomeLike_2 ?_
    refine ck_putI clX1 4 rfl rfl (by decide) fl_X1_24 rfl rfl rfl dX1_becomeLike_5 ?_
    refine ck_nmH (fun h9 eh9 => ?_)
    have hq := hq h9 eh9
    refine ck_aload_n 0 dX1_becomeLike_8 rfl rfl ?_
    refine ck_aload_n 1 dX1_becomeLike_9 rfl rfl ?_
    refine ck_getI clX1 5 rfl rfl (by decide) fl_X1_28 dX1_becomeLike_10 ?_
    refine ck_putI clX1 5 rfl rfl (by decide) fl_X1_28 rfl rfl rfl dX1_becomeLike_13 ?_
    refine ck_nmH (fun h10 eh10 => ?_)
    have hq := hq h10 eh10
    refine ck_aload_n 0 dX1_becomeLike_16 rfl rfl ?_
    refine ck_aload_n 1 dX1_becomeLike_17 rfl rfl ?_
    refine ck_getI clX1 6 rfl rfl (by decide) fl_X1_36 dX1_becomeLike_18 ?_
    refine ck_putI clX1 6 rfl rfl (by decide) fl_X1_36 rfl rfl rfl dX1_becomeLike_21 ?_
    refine ck_nmH (fun h11 eh11 => ?_)
    have hq := hq h11 eh11
    refine ck_aload_n 0 dX1_becomeLike_24 rfl rfl ?_
    refine ck_aload_n 1 dX1_becomeLike_25 rfl rfl ?_
    refine ck_getI clX1 7 rfl rfl (by decide) fl_X1_37 dX1_becomeLike_26 ?_
    refine ck_putI clX1 7 rfl rfl (by decide) fl_X1_37 rfl rfl rfl dX1_becomeLike_29 ?_
    refine ck_nmH (fun h12 eh12 => ?_)
    have hq := hq h12 eh12
    refine ck_aload_n 1 dX1_becomeLike_32 rfl rfl ?_
    refine ck_getR clX1 0 rfl rfl (by decide) fl_X1_9 dX1_becomeLike_33 ?_
    refine ck_iconst (v := 0) dX1_becomeLike_36 (by decide) ?_
    refine ck_aload_n 0 dX1_becomeLike_37 rfl rfl ?_
    refine ck_getR clX1 0 rfl rfl (by decide) fl_X1_9 dX1_becomeLike_38 ?_
    refine ck_iconst (v := 0) dX1_becomeLike_41 (by decide) ?_
    refine ck_iconst (v := 4) dX1_becomeLike_42 (by decide) ?_
    refine ck_acopy rfl rfl ml_X1_41 w_acopy (by decide) (by decide) (by decide) (by decide) (by decide) (by decide) (Nat.le_of_ble_eq_true rfl) dX1_becomeLike_43 ?_
    refine ck_nmH (fun h13 eh13 => ?_)
    have hq := hq h13 eh13
    refine ck_aload_n 1 dX1_becomeLike_46 rfl rfl ?_
    refine ck_getR clX1 1 rfl rfl (by decide) fl_X1_15 dX1_becomeLike_47 ?_
    refine ck_iconst (v := 0) dX1_becomeLike_50 (by decide) ?_
    refine ck_aload_n 0 dX1_becomeLike_51 rfl rfl ?_
    refine ck_getR clX1 1 rfl rfl (by decide) fl_X1_15 dX1_becomeLike_52 ?_
    refine ck_iconst (v := 0) dX1_becomeLike_55 (by decide) ?_
    refine ck_bipush (v := 10) dX1_becomeLike_56 (by decide) ?_
    refine ck_acopy rfl rfl ml_X1_41 w_acopy (by decide) (by decide) (by decide) (by decide) (by decide) (by decide) (Nat.le_of_ble_eq_true rfl) dX1_becomeLike_58 ?_
    refine ck_nmH (fun h14 eh14 => ?_)
    have hq := hq h14 eh14
    refine ck_aload_n 1 dX1_becomeLike_61 rfl rfl ?_
    refine ck_getR clX1 2 rfl rfl (by decide) fl_X1_18 dX1_becomeLike_62 ?_
    refine ck_iconst (v := 0) dX1_becomeLike_65 (by decide) ?_
    refine ck_aload_n 0 dX1_becomeLike_66 rfl rfl ?_
    refine ck_getR clX1 2 rfl rfl (by decide) fl_X1_18 dX1_becomeLike_67 ?_
    refine ck_iconst (v := 0) dX1_becomeLike_70 (by decide) ?_
    refine ck_bipush (v := 10) dX1_becomeLike_71 (by decide) ?_
    refine ck_acopy rfl rfl ml_X1_41 w_acopy (by decide) (by decide) (by decide) (by decide) (by decide) (by decide) (Nat.le_of_ble_eq_true rfl) dX1_becomeLike_73 ?_
    refine ck_nmH (fun h15 eh15 => ?_)
    have hq := hq h15 eh15
    refine ck_aload_n 1 dX1_becomeLike_76 rfl rfl ?_
    refine ck_getR clX1 3 rfl rfl (by decide) fl_X1_21 dX1_becomeLike_77 ?_
    refine ck_iconst (v := 0) dX1_becomeLike_80 (by decide) ?_
    refine ck_aload_n 0 dX1_becomeLike_81 rfl rfl ?_
    refine ck_getR clX1 3 rfl rfl (by decide) fl_X1_21 dX1_becomeLike_82 ?_
    refine ck_iconst (v := 0) dX1_becomeLike_85 (by decide) ?_
    refine ck_bipush (v := 10) dX1_becomeLike_86 (by decide) ?_
    refine ck_acopy rfl rfl ml_X1_41 w_acopy (by decide) (by decide) (by decide) (by decide) (by decide) (by decide) (Nat.le_of_ble_eq_true rfl) dX1_becomeLike_88 ?_
    refine ck_nmH (fun h16 eh16 => ?_)
    have hq := hq h16 eh16
    exact ck_vret rfl rfl rfl dX1_becomeLike_91 ⟨rfl, rfl, hq⟩
  · refine ck_entry (lv := [(0, .ref 12), (1, .ref 7)]) false (own := RX1) rfl (fun q => by cases q) (by decide) (Nat.le_of_ble_eq_true rfl) rfl ?_
    refine ck_aload_n 0 dX1_becomeLike_0 rfl rfl ?_
    refine ck_aload_n 1 dX1_becomeLike_1 rfl rfl ?_
    refine ck_getI clX1 4 rfl rfl (by decide) fl_X1_24 dX1_becomeLike_2 ?_
    refine ck_putI clX1 4 rfl rfl (by decide) fl_X1_24 rfl rfl rfl dX1_becomeLike_5 ?_
    refine ck_nmH (fun h17 eh17 => ?_)
    have hq := hq h17 eh17
    refine ck_aload_n 0 dX1_becomeLike_8 rfl rfl ?_
    refine ck_aload_n 1 dX1_becomeLike_9 rfl rfl ?_
    refine ck_getI clX1 5 rfl rfl (by decide) fl_X1_28 dX1_becomeLike_10 ?_
    refine ck_putI clX1 5 rfl rfl (by decide) fl_X1_28 rfl rfl rfl dX1_becomeLike_13 ?_
    refine ck_nmH (fun h18 eh18 => ?_)
    have hq := hq h18 eh18
    refine ck_aload_n 0 dX1_becomeLike_16 rfl rfl ?_
    refine ck_aload_n 1 dX1_becomeLike_17 rfl rfl ?_
    refine ck_getI clX1 6 rfl rfl (by decide) fl_X1_36 dX1_becomeLike_18 ?_
    refine ck_putI clX1 6 rfl rfl (by decide) fl_X1_36 rfl rfl rfl dX1_becomeLike_21 ?_
    refine ck_nmH (fun h19 eh19 => ?_)
    have hq := hq h19 eh19
    refine ck_aload_n 0 dX1_becomeLike_24 rfl rfl ?_
    refine ck_aload_n 1 dX1_becomeLike_25 rfl rfl ?_
    refine ck_getI clX1 7 rfl rfl (by decide) fl_X1_37 dX1_becomeLike_26 ?_
    refine ck_putI clX1 7 rfl rfl (by decide) fl_X1_37 rfl rfl rfl dX1_becomeLike_29 ?_
    refine ck_nmH (fun h20 eh20 => ?_)
    have hq := hq h20 eh20
    refine ck_aload_n 1 dX1_becomeLike_32 rfl rfl ?_
    refine ck_getR clX1 0 rfl rfl (by decide) fl_X1_9 dX1_becomeLike_33 ?_
    refine ck_iconst (v := 0) dX1_becomeLike_36 (by decide) ?_
    refine ck_aload_n 0 dX1_becomeLike_37 rfl rfl ?_
    refine ck_getR clX1 0 rfl rfl (by decide) fl_X1_9 dX1_becomeLike_38 ?_
    refine ck_iconst (v := 0) dX1_becomeLike_41 (by decide) ?_
    refine ck_iconst (v := 4) dX1_becomeLike_42 (by decide) ?_
    refine ck_acopy rfl rfl ml_X1_41 w_acopy (by decide) (by decide) (by decide) (by decide) (by decide) (by decide) (Nat.le_of_ble_eq_true rfl) dX1_becomeLike_43 ?_
    refine ck_nmH (fun h21 eh21 => ?_)
    have hq := hq h21 eh21
    refine ck_aload_n 1 dX1_becomeLike_46 rfl rfl ?_
    refine ck_getR clX1 1 rfl rfl (by decide) fl_X1_15 dX1_becomeLike_47 ?_
    refine ck_iconst (v := 0) dX1_becomeLike_50 (by decide) ?_
    refine ck_aload_n 0 dX1_becomeLike_51 rfl rfl ?_
    refine ck_getR clX1 1 rfl rfl (by decide) fl_X1_15 dX1_becomeLike_52 ?_
    refine ck_iconst (v := 0) dX1_becomeLike_55 (by decide) ?_
    refine ck_bipush (v := 10) dX1_becomeLike_56 (by decide) ?_
    refine ck_acopy rfl rfl ml_X1_41 w_acopy (by decide) (by decide) (by decide) (by decide) (by decide) (by decide) (Nat.le_of_ble_eq_true rfl) dX1_becomeLike_58 ?_
    refine ck_nmH (fun h22 eh22 => ?_)
    have hq := hq h22 eh22
    refine ck_aload_n 1 dX1_becomeLike_61 rfl rfl ?_
    refine ck_getR clX1 2 rfl rfl (by decide) fl_X1_18 dX1_becomeLike_62 ?_
    refine ck_iconst (v := 0) dX1_becomeLike_65 (by decide) ?_
    refine ck_aload_n 0 dX1_becomeLike_66 rfl rfl ?_
    refine ck_getR clX1 2 rfl rfl (by decide) fl_X1_18 dX1_becomeLike_67 ?_
    refine ck_iconst (v := 0) dX1_becomeLike_70 (by decide) ?_
    refine ck_bipush (v := 10) dX1_becomeLike_71 (by decide) ?_
    refine ck_acopy rfl rfl ml_X1_41 w_acopy (by decide) (by decide) (by decide) (by decide) (by decide) (by decide) (Nat.le_of_ble_eq_true rfl) dX1_becomeLike_73 ?_
    refine ck_nmH (fun h23 eh23 => ?_)
    have hq := hq h23 eh23
    refine ck_aload_n 1 dX1_becomeLike_76 rfl rfl ?_
    refine ck_getR clX1 3 rfl rfl (by decide) fl_X1_21 dX1_becomeLike_77 ?_
    refine ck_iconst (v := 0) dX1_becomeLike_80 (by decide) ?_
    refine ck_aload_n 0 dX1_becomeLike_81 rfl rfl ?_
    refine ck_getR clX1 3 rfl rfl (by decide) fl_X1_21 dX1_becomeLike_82 ?_
    refine ck_iconst (v := 0) dX1_becomeLike_85 (by decide) ?_
    refine ck_bipush (v := 10) dX1_becomeLike_86 (by decide) ?_
    refine ck_acopy rfl rfl ml_X1_41 w_acopy (by decide) (by decide) (by decide) (by decide) (by decide) (by decide) (Nat.le_of_ble_eq_true rfl) dX1_becomeLike_88 ?_
    refine ck_nmH (fun h24 eh24 => ?_)
    have hq := hq h24 eh24
    exact ck_vret rfl rfl rfl dX1_becomeLike_91 ⟨rfl, rfl, hq⟩
  · refine ck_entry (lv := [(0, .ref 7), (1, .ref 12)]) false (own := RX1) rfl (fun q => by cases q) (by decide) (Nat.le_of_ble_eq_true rfl) rfl ?_
    refine ck_aload_n 0 dX1_becomeLike_0 rfl rfl ?_
    refine ck_aload_n 1 dX1_becomeLike_1 rfl rfl ?_
    refine ck_getI clX1 4 rfl rfl (by decide) fl_X1_24 dX1_becomeLike_2 ?_
    refine ck_putI clX1 4 rfl rfl (by decide) fl_X1_24 rfl rfl rfl dX1_becomeLike_5 ?_
    refine ck_nmH (fun h25 eh25 => ?_)
    have hq := hq h25 eh25
    refine ck_aload_n 0 dX1_becomeLike_8 rfl rfl ?_
    refine ck_aload_n 1 dX1_becomeLike_9 rfl rfl ?_
    refine ck_getI clX1 5 rfl rfl (by decide) fl_X1_28 dX1_becomeLike_10 ?_
    refine ck_putI clX1 5 rfl rfl (by decide) fl_X1_28 rfl rfl rfl dX1_becomeLike_13 ?_
    refine ck_nmH (fun h26 eh26 => ?_)
    have hq := hq h26 eh26
    refine ck_aload_n 0 dX1_becomeLike_16 rfl rfl ?_
    refine ck_aload_n 1 dX1_becomeLike_17 rfl rfl ?_
    refine ck_getI clX1 6 rfl rfl (by decide) fl_X1_36 dX1_becomeLike_18 ?_
    refine ck_putI clX1 6 rfl rfl (by decide) fl_X1_36 rfl rfl rfl dX1_becomeLike_21 ?_
    refine ck_nmH (fun h27 eh27 => ?_)
    have hq := hq h27 eh27
    refine ck_aload_n 0 dX1_becomeLike_24 rfl rfl ?_
    refine ck_aload_n 1 dX1_becomeLike_25 rfl rfl ?_
    refine ck_getI clX1 7 rfl rfl (by decide) fl_X1_37 dX1_becomeLike_26 ?_
    refine ck_putI clX1 7 rfl rfl (by decide) fl_X1_37 rfl rfl rfl dX1_becomeLike_29 ?_
    refine ck_nmH (fun h28 eh28 => ?_)
    have hq := hq h28 eh28
    refine ck_aload_n 1 dX1_becomeLike_32 rfl rfl ?_
    refine ck_getR clX1 0 rfl rfl (by decide) fl_X1_9 dX1_becomeLike_33 ?_
    refine ck_iconst (v := 0) dX1_becomeLike_36 (by decide) ?_
    refine ck_aload_n 0 dX1_becomeLike_37 rfl rfl ?_
    refine ck_getR clX1 0 rfl rfl (by decide) fl_X1_9 dX1_becomeLike_38 ?_
    refine ck_iconst (v := 0) dX1_becomeLike_41 (by decide) ?_
    refine ck_iconst (v := 4) dX1_becomeLike_42 (by decide) ?_
    refine ck_acopy rfl rfl ml_X1_41 w_acopy (by decide) (by decide) (by decide) (by decide) (by decide) (by decide) (Nat.le_of_ble_eq_true rfl) dX1_becomeLike_43 ?_
    refine ck_nmH (fun h29 eh29 => ?_)
    have hq := hq h29 eh29
    refine ck_aload_n 1 dX1_becomeLike_46 rfl rfl ?_
    refine ck_getR clX1 1 rfl rfl (by decide) fl_X1_15 dX1_becomeLike_47 ?_
    refine ck_iconst (v := 0) dX1_becomeLike_50 (by decide) ?_
    refine ck_aload_n 0 dX1_becomeLike_51 rfl rfl ?_
    refine ck_getR clX1 1 rfl rfl (by decide) fl_X1_15 dX1_becomeLike_52 ?_
    refine ck_iconst (v := 0) dX1_becomeLike_55 (by decide) ?_
    refine ck_bipush (v := 10) dX1_becomeLike_56 (by decide) ?_
    refine ck_acopy rfl rfl ml_X1_41 w_acopy (by decide) (by decide) (by decide) (by decide) (by decide) (by decide) (Nat.le_of_ble_eq_true rfl) dX1_becomeLike_58 ?_
    refine ck_nmH (fun h30 eh30 => ?_)
    have hq := hq h30 eh30
    refine ck_aload_n 1 dX1_becomeLike_61 rfl rfl ?_
    refine ck_getR clX1 2 rfl rfl (by decide) fl_X1_18 dX1_becomeLike_62 ?_
    refine ck_iconst (v := 0) dX1_becomeLike_65 (by decide) ?_
    refine ck_aload_n 0 dX1_becomeLike_66 rfl rfl ?_
    refine ck_getR clX1 2 rfl rfl (by decide) fl_X1_18 dX1_becomeLike_67 ?_
    refine ck_iconst (v := 0) dX1_becomeLike_70 (by decide) ?_
    refine ck_bipush (v := 10) dX1_becomeLike_71 (by decide) ?_
    refine ck_acopy rfl rfl ml_X1_41 w_acopy (by decide) (by decide) (by decide) (by decide) (by decide) (by decide) (Nat.le_of_ble_eq_true rfl) dX1_becomeLike_73 ?_
    refine ck_nmH (fun h31 eh31 => ?_)
    have hq := hq h31 eh31
    refine ck_aload_n 1 dX1_becomeLike_76 rfl rfl ?_
    refine ck_getR clX1 3 rfl rfl (by decide) fl_X1_21 dX1_becomeLike_77 ?_
    refine ck_iconst (v := 0) dX1_becomeLike_80 (by decide) ?_
    refine ck_aload_n 0 dX1_becomeLike_81 rfl rfl ?_
    refine ck_getR clX1 3 rfl rfl (by decide) fl_X1_21 dX1_becomeLike_82 ?_
    refine ck_iconst (v := 0) dX1_becomeLike_85 (by decide) ?_
    refine ck_bipush (v := 10) dX1_becomeLike_86 (by decide) ?_
    refine ck_acopy rfl rfl ml_X1_41 w_acopy (by decide) (by decide) (by decide) (by decide) (by decide) (by decide) (Nat.le_of_ble_eq_true rfl) dX1_becomeLike_88 ?_
    refine ck_nmH (fun h32 eh32 => ?_)
    have hq := hq h32 eh32
    exact ck_vret rfl rfl rfl dX1_becomeLike_91 ⟨rfl, rfl, hq⟩
def wp_X4_clear_7 (Q : ck_H → Prop) : Nat → Int32 → ck_H → Prop
  | 0 => fun _ _ => False
  | n + 1 => fun x1 h => (((3 : Int32) ≤ x1 → Q h) ∧ (¬ (3 : Int32) ≤ x1 → (vp_in x1 3 ∧ (∀ h4, h4 = ck_sI h 71 x1.toNatClampNeg (0 : Int32) → (vp_in x1 3 ∧ (∀ h6, h6 = ck_sI h4 72 x1.toNatClampNeg (0 : Int32) → (∀ v7, v7 = x1 + 1 → (wp_X4_clear_7 Q n) v7 h6)))))))
def wp_X4_clear (h : ck_H) (Q : ck_H → Prop) : Prop := (∀ h1, h1 = ck_sI h 68 5 (0 : Int32) → wp_X4_clear_7 Q lpN (0 : Int32) h1)
set_option maxHeartbeats 4000000 in
set_option maxRecDepth 100000 in
theorem cp_X4_clear_7 {gr : Bool} {Q : ck_H → Prop} : ∀ (n : Nat) (x1 : Int32) (h : ck_H), wp_X4_clear_7 Q n x1 h → ck_W cX4_clear 2 RX4 none 2 0 0 false gr (ck_Qv ck_shX Q) ck_shX h 0 0 7 [(0, .ref 68), (1, .int x1)] [] := by
  intro n
  induction n with
  | zero => intro x1 h hq; exact hq.elim
  | succ n hKc =>
    intro x1 h hq
    refine ck_iload_n 1 dX4_clear_7 rfl rfl ?_
    refine ck_iconst (v := 3) dX4_clear_8 (by decide) ?_
    refine ck_icmp_ge (tgt := 32) dX4_clear_9 (by decide) (fun c2 => ?_) (fun c2 => ?_)
    · have hq := hq.1 c2
      exact ck_vret rfl rfl rfl dX4_clear_32 ⟨rfl, rfl, hq⟩
    · have hq := hq.2 c2
      refine ck_aload_n 0 dX4_clear_12 rfl rfl ?_
      refine ck_getR clX4 2 rfl rfl (by decide) fl_X4_18 dX4_clear_13 ?_
      refine ck_iload_n 1 dX4_clear_16 rfl rfl ?_
      refine ck_iconst (v := 0) dX4_clear_17 (by decide) ?_
      obtain ⟨b3, hq⟩ := hq
      refine ck_iast rfl rfl b3 dX4_clear_18 ?_
      refine ck_nmH (fun h4 eh4 => ?_)
      have hq := hq h4 eh4
      refine ck_aload_n 0 dX4_clear_19 rfl rfl ?_
      refine ck_getR clX4 3 rfl rfl (by decide) fl_X4_21 dX4_clear_20 ?_
      refine ck_iload_n 1 dX4_clear_23 rfl rfl ?_
      refine ck_iconst (v := 0) dX4_clear_24 (by decide) ?_
      obtain ⟨b5, hq⟩ := hq
      refine ck_iast rfl rfl b5 dX4_clear_25 ?_
      refine ck_nmH (fun h6 eh6 => ?_)
      have hq := hq h6 eh6
      obtain ⟨v7, ev7⟩ : ∃ z : Int32, z = x1 + 1 := ⟨_, rfl⟩
      have hq := hq v7 ev7
      refine ck_iinc (v := v7) (lv' := [(1, .int v7), (0, .ref 68)]) 1 dX4_clear_26 rfl (by rw [ev7]; rfl) (by decide) rfl ?_
      refine ck_goto (tgt := 7) dX4_clear_29 (by decide) ?_
      refine ck_loc [1, 0] rfl ?_
      exact hKc _ _ hq
set_option maxHeartbeats 4000000 in
set_option maxRecDepth 100000 in
theorem c_X4_clear {gr : Bool} {h : ck_H} {Q : ck_H → Prop} (hq : wp_X4_clear h Q) : ck_M yX4_clear cX4_clear 2 none 2 0 0 gr ck_shX h [.ref 68] (ck_Qv ck_shX Q) := by
  refine ck_entry (lv := [(0, .ref 68)]) false (own := RX4) rfl (fun q => by cases q) (by decide) (Nat.le_of_ble_eq_true rfl) rfl ?_
  refine ck_aload_n 0 dX4_clear_0 rfl rfl ?_
  refine ck_iconst (v := 0) dX4_clear_1 (by decide) ?_
  refine ck_putI clX4 5 rfl rfl (by decide) fl_X4_28 rfl rfl rfl dX4_clear_2 ?_
  refine ck_nmH (fun h1 eh1 => ?_)
  have hq := hq h1 eh1
  refine ck_iconst (v := 0) dX4_clear_5 (by decide) ?_
  refine ck_istore_n (lv' := [(1, .int (0 : Int32)), (0, .ref 68)]) dX4_clear_6 rfl (by decide) rfl ?_
  refine ck_loc [1, 0] rfl ?_
  refine cp_X4_clear_7 lpN _ _ hq
def wp_X4_isTold (x1 : Int32) (h : ck_H) (Q : Int32 → ck_H → Prop) : Prop := (vp_in x1 3 ∧ (vp_in x1 3 ∧ (((h.1 72 x1.toNatClampNeg) ≤ (h.1 71 x1.toNatClampNeg) → Q (0 : Int32) h) ∧ (¬ (h.1 72 x1.toNatClampNeg) ≤ (h.1 71 x1.toNatClampNeg) → Q (1 : Int32) h))))
set_option maxHeartbeats 4000000 in
set_option maxRecDepth 100000 in
theorem c_X4_isTold {gr : Bool} {x1 : Int32} {h : ck_H} {Q : Int32 → ck_H → Prop} (hq : wp_X4_isTold x1 h Q) : ck_M yX4_isTold cX4_isTold 2 (some .boolean) 2 0 0 gr ck_shX h [.ref 68, .int x1] (ck_Qi ck_shX Q) := by
  refine ck_entry (lv := [(0, .ref 68), (1, .int x1)]) false (own := RX4) rfl (fun q => by cases q) (by decide) (Nat.le_of_ble_eq_true rfl) rfl ?_
  refine ck_aload_n 0 dX4_isTold_0 rfl rfl ?_
  refine ck_getR clX4 3 rfl rfl (by decide) fl_X4_21 dX4_isTold_1 ?_
  refine ck_iload_n 1 dX4_isTold_4 rfl rfl ?_
  obtain ⟨b1, hq⟩ := hq
  refine ck_iald rfl rfl b1 dX4_isTold_5 ?_
  refine ck_aload_n 0 dX4_isTold_6 rfl rfl ?_
  refine ck_getR clX4 2 rfl rfl (by decide) fl_X4_18 dX4_isTold_7 ?_
  refine ck_iload_n 1 dX4_isTold_10 rfl rfl ?_
  obtain ⟨b2, hq⟩ := hq
  refine ck_iald rfl rfl b2 dX4_isTold_11 ?_
  refine ck_icmp_le (tgt := 19) dX4_isTold_12 (by decide) (fun c3 => ?_) (fun c3 => ?_)
  · have hq := hq.1 c3
    refine ck_iconst (v := 0) dX4_isTold_19 (by decide) ?_
    exact ck_iret rfl (by decide) rfl rfl dX4_isTold_20 ⟨_, rfl, rfl, hq⟩
  · have hq := hq.2 c3
    refine ck_iconst (v := 1) dX4_isTold_15 (by decide) ?_
    refine ck_goto (tgt := 20) dX4_isTold_16 (by decide) ?_
    exact ck_iret rfl (by decide) rfl rfl dX4_isTold_20 ⟨_, rfl, rfl, hq⟩
def wp_X4_add (x1 : Int32) (x2 : Int32) (h : ck_H) (Q : ck_H → Prop) : Prop := (((64 : Int32) ≤ (h.1 68 5) → Q h) ∧ (¬ (64 : Int32) ≤ (h.1 68 5) → (vp_in (h.1 68 5) 64 ∧ (∀ h3, h3 = ck_sI h 69 (h.1 68 5).toNatClampNeg x1 → (vp_in (h3.1 68 5) 64 ∧ (∀ h5, h5 = ck_sI h3 70 (h3.1 68 5).toNatClampNeg x2 → (∀ h6, h6 = ck_sI h5 68 5 ((h5.1 68 5) + (1 : Int32)) → Q h6)))))))
set_option maxHeartbeats 4000000 in
set_option maxRecDepth 100000 in
theorem c_X4_add {gr : Bool} {x1 : Int32} {x2 : Int32} {h : ck_H} {Q : ck_H → Prop} (hq : wp_X4_add x1 x2 h Q) : ck_M yX4_add cX4_add 3 none 2 0 0 gr ck_shX h [.ref 68, .int x1, .int x2] (ck_Qv ck_shX Q) := by
  refine ck_entry (lv := [(0, .ref 68), (1, .int x1), (2, .int x2)]) false (own := RX4) rfl (fun q => by cases q) (by decide) (Nat.le_of_ble_eq_true rfl) rfl ?_
  refine ck_aload_n 0 dX4_add_0 rfl rfl ?_
  refine ck_getI clX4 5 rfl rfl (by decide) fl_X4_28 dX4_add_1 ?_
  refine ck_bipush (v := 64) dX4_add_4 (by decide) ?_
  refine ck_icmp_ge (tgt := 39) dX4_add_6 (by decide) (fun c1 => ?_) (fun c1 => ?_)
  · have hq := hq.1 c1
    exact ck_vret rfl rfl rfl dX4_add_39 ⟨rfl, rfl, hq⟩
  · have hq := hq.2 c1
    refine ck_aload_n 0 dX4_add_9 rfl rfl ?_
    refine ck_getR clX4 0 rfl rfl (by decide) fl_X4_9 dX4_add_10 ?_
    refine ck_aload_n 0 dX4_add_13 rfl rfl ?_
    refine ck_getI clX4 5 rfl rfl (by decide) fl_X4_28 dX4_add_14 ?_
    refine ck_iload_n 1 dX4_add_17 rfl rfl ?_
    obtain ⟨b2, hq⟩ := hq
    refine ck_iast rfl rfl b2 dX4_add_18 ?_
    refine ck_nmH (fun h3 eh3 => ?_)
    have hq := hq h3 eh3
    refine ck_aload_n 0 dX4_add_19 rfl rfl ?_
    refine ck_getR clX4 1 rfl rfl (by decide) fl_X4_15 dX4_add_20 ?_
    refine ck_aload_n 0 dX4_add_23 rfl rfl ?_
    refine ck_getI clX4 5 rfl rfl (by decide) fl_X4_28 dX4_add_24 ?_
    refine ck_iload_n 2 dX4_add_27 rfl rfl ?_
    obtain ⟨b4, hq⟩ := hq
    refine ck_iast rfl rfl b4 dX4_add_28 ?_
    refine ck_nmH (fun h5 eh5 => ?_)
    have hq := hq h5 eh5
    refine ck_aload_n 0 dX4_add_29 rfl rfl ?_
    refine ck_dup dX4_add_30 rfl ?_
    refine ck_getI clX4 5 rfl rfl (by decide) fl_X4_28 dX4_add_31 ?_
    refine ck_iconst (v := 1) dX4_add_34 (by decide) ?_
    refine ck_iadd dX4_add_35 ?_
    refine ck_putI clX4 5 rfl rfl (by decide) fl_X4_28 rfl rfl rfl dX4_add_36 ?_
    refine ck_nmH (fun h6 eh6 => ?_)
    have hq := hq h6 eh6
    exact ck_vret rfl rfl rfl dX4_add_39 ⟨rfl, rfl, hq⟩
def wp_X4_sidesOf_11 (Q : Int32 → ck_H → Prop) (h : ck_H) : Prop := Q (0 : Int32) h
def wp_X4_sidesOf (x0 : Int32) (h : ck_H) (Q : Int32 → ck_H → Prop) : Prop := ((x0 = (2 : Int32) → wp_X4_sidesOf_11 Q h) ∧ (¬ x0 = (2 : Int32) → ((x0 < (32 : Int32) → ((¬ x0 = (31 : Int32) → Q (2 : Int32) h) ∧ (x0 = (31 : Int32) → Q (1 : Int32) h))) ∧ (¬ x0 < (32 : Int32) → wp_X4_sidesOf_11 Q h))))
set_option maxHeartbeats 4000000 in
set_option maxRecDepth 100000 in
theorem cp_X4_sidesOf_11 {gr : Bool} {Q : Int32 → ck_H → Prop} : ∀ (h : ck_H), wp_X4_sidesOf_11 Q h → ck_W cX4_sidesOf 1 RX4 (some .int) 2 0 0 false gr (ck_Qi ck_shX Q) ck_shX h 0 0 11 [] [] := by
  intro h hq
  refine ck_iconst (v := 0) dX4_sidesOf_11 (by decide) ?_
  refine ck_goto (tgt := 26) dX4_sidesOf_12 (by decide) ?_
  exact ck_iret rfl rfl rfl rfl dX4_sidesOf_26 ⟨_, rfl, rfl, hq⟩
set_option maxHeartbeats 4000000 in
set_option maxRecDepth 100000 in
theorem c_X4_sidesOf {gr : Bool} {x0 : Int32} {h : ck_H} {Q : Int32 → ck_H → Prop} (hq : wp_X4_sidesOf x0 h Q) : ck_M yX4_sidesOf cX4_sidesOf 1 (some .int) 2 0 0 gr ck_shX h [.int x0] (ck_Qi ck_shX Q) := by
  refine ck_entry (lv := [(0, .int x0)]) false (own := RX4) rfl (fun q => by cases q) (by decide) (Nat.le_of_ble_eq_true rfl) rfl ?_
  refine ck_iload_n 0 dX4_sidesOf_0 rfl rfl ?_
  refine ck_iconst (v := 2) dX4_sidesOf_1 (by decide) ?_
  refine ck_icmp_eq (tgt := 11) dX4_sidesOf_2 (by decide) (fun c1 => ?_) (fun c1 => ?_)
  · have hq := hq.1 c1
    refine ck_loc [] rfl ?_
    exact cp_X4_sidesOf_11  _ hq
  · have hq := hq.2 c1
    refine ck_iload_n 0 dX4_sidesOf_5 rfl rfl ?_
    refine ck_bipush (v := 32) dX4_sidesOf_6 (by decide) ?_
    refine ck_icmp_lt (tgt := 15) dX4_sidesOf_8 (by decide) (fun c2 => ?_) (fun c2 => ?_)
    · have hq := hq.1 c2
      refine ck_iload_n 0 dX4_sidesOf_15 rfl rfl ?_
      refine ck_bipush (v := 31) dX4_sidesOf_16 (by decide) ?_
      refine ck_icmp_ne (tgt := 25) dX4_sidesOf_18 (by decide) (fun c3 => ?_) (fun c3 => ?_)
      · have hq := hq.1 c3
        refine ck_iconst (v := 2) dX4_sidesOf_25 (by decide) ?_
        exact ck_iret rfl rfl rfl rfl dX4_sidesOf_26 ⟨_, rfl, rfl, hq⟩
      · have hq := hq.2 c3
        refine ck_iconst (v := 1) dX4_sidesOf_21 (by decide) ?_
        refine ck_goto (tgt := 26) dX4_sidesOf_22 (by decide) ?_
        exact ck_iret rfl rfl rfl rfl dX4_sidesOf_26 ⟨_, rfl, rfl, hq⟩
    · have hq := hq.2 c2
      refine ck_loc [] rfl ?_
      exact cp_X4_sidesOf_11  _ hq
def wp_X4_product_26 (Q : Int64 → ck_H → Prop) (x0 : Int64) (x2 : Int64) (x4 : Int64) (y0 : Int64) (h : ck_H) : Prop := (((lg_cmp x4 (0 : Int64)) = 0 → Q (x0 * x2) h) ∧ (¬ (lg_cmp x4 (0 : Int64)) = 0 → (¬ x4 = 0 ∧ (((lg_cmp y0 ((1000000000000 : Int64) / x4)) ≤ 0 → Q (x0 * x2) h) ∧ (¬ (lg_cmp y0 ((1000000000000 : Int64) / x4)) ≤ 0 → Q (-9223372036854775808 : Int64) h)))))
def wp_X4_product_12 (Q : Int64 → ck_H → Prop) (x0 : Int64) (x2 : Int64) (y0 : Int64) (h : ck_H) : Prop := ((0 ≤ (lg_cmp x2 (0 : Int64)) → wp_X4_product_26 Q x0 x2 y0 x2 h) ∧ (¬ 0 ≤ (lg_cmp x2 (0 : Int64)) → wp_X4_product_26 Q x0 x2 y0 (-x2) h))
def wp_X4_product (x0 : Int64) (x2 : Int64) (h : ck_H) (Q : Int64 → ck_H → Prop) : Prop := ((0 ≤ (lg_cmp x0 (0 : Int64)) → wp_X4_product_12 Q x0 x2 x0 h) ∧ (¬ 0 ≤ (lg_cmp x0 (0 : Int64)) → wp_X4_product_12 Q x0 x2 (-x0) h))
set_option maxHeartbeats 4000000 in
set_option maxRecDepth 100000 in
theorem cp_X4_product_26 {gr : Bool} {Q : Int64 → ck_H → Prop} : ∀ (x0 : Int64) (x2 : Int64) (x4 : Int64) (y0 : Int64) (h : ck_H), wp_X4_product_26 Q x0 x2 x4 y0 h → ck_W cX4_product 8 RX4 (some .long) 2 0 0 false gr (ck_Ql ck_shX Q) ck_shX h 0 0 26 [(0, .long x0), (2, .long x2), (4, .long x4)] [.long y0] := by
  intro x0 x2 x4 y0 h hq
  refine ck_lstore (lv' := [(6, .long y0), (0, .long x0), (2, .long x2), (4, .long x4)]) dX4_product_26 (by decide) rfl ?_
  refine ck_lload 3 dX4_product_28 rfl ?_
  refine ck_lconst (v := 0) dX4_product_30 (by decide) ?_
  refine ck_lcmp dX4_product_31 ?_
  refine ck_if_eq (tgt := 51) dX4_product_32 (by decide) (fun c3 => ?_) (fun c3 => ?_)
  · have hq := hq.1 c3
    refine ck_lload_n 1 dX4_product_51 rfl rfl ?_
    refine ck_lload_n 2 dX4_product_52 rfl rfl ?_
    refine ck_lmul dX4_product_53 ?_
    exact ck_lret rfl rfl rfl dX4_product_54 ⟨_, rfl, rfl, hq⟩
  · have hq := hq.2 c3
    refine ck_lload 0 dX4_product_35 rfl ?_
    refine ck_ldc2 con_X4_42 dX4_product_37 ?_
    refine ck_lload 3 dX4_product_40 rfl ?_
    obtain ⟨b4, hq⟩ := hq
    refine ck_ldiv dX4_product_42 b4 ?_
    refine ck_lcmp dX4_product_43 ?_
    refine ck_if_le (tgt := 51) dX4_product_44 (by decide) (fun c5 => ?_) (fun c5 => ?_)
    · have hq := hq.1 c5
      refine ck_lload_n 1 dX4_product_51 rfl rfl ?_
      refine ck_lload_n 2 dX4_product_52 rfl rfl ?_
      refine ck_lmul dX4_product_53 ?_
      exact ck_lret rfl rfl rfl dX4_product_54 ⟨_, rfl, rfl, hq⟩
    · have hq := hq.2 c5
      refine ck_ldc2 con_X4_36 dX4_product_47 ?_
      exact ck_lret rfl rfl rfl dX4_product_50 ⟨_, rfl, rfl, hq⟩
set_option maxHeartbeats 4000000 in
set_option maxRecDepth 100000 in
theorem cp_X4_product_12 {gr : Bool} {Q : Int64 → ck_H → Prop} : ∀ (x0 : Int64) (x2 : Int64) (y0 : Int64) (h : ck_H), wp_X4_product_12 Q x0 x2 y0 h → ck_W cX4_product 8 RX4 (some .long) 2 0 0 false gr (ck_Ql ck_shX Q) ck_shX h 0 0 12 [(0, .long x0), (2, .long x2)] [.long y0] := by
  intro x0 x2 y0 h hq
  refine ck_lstore (lv' := [(4, .long y0), (0, .long x0), (2, .long x2)]) dX4_product_12 (by decide) rfl ?_
  refine ck_lload_n 2 dX4_product_14 rfl rfl ?_
  refine ck_lconst (v := 0) dX4_product_15 (by decide) ?_
  refine ck_lcmp dX4_product_16 ?_
  refine ck_if_ge (tgt := 25) dX4_product_17 (by decide) (fun c2 => ?_) (fun c2 => ?_)
  · have hq := hq.1 c2
    refine ck_lload_n 2 dX4_product_25 rfl rfl ?_
    refine ck_loc [1, 2, 0] rfl ?_
    exact cp_X4_product_26 _ _ _ _ _ hq
  · have hq := hq.2 c2
    refine ck_lload_n 2 dX4_product_20 rfl rfl ?_
    refine ck_lneg dX4_product_21 ?_
    refine ck_goto (tgt := 26) dX4_product_22 (by decide) ?_
    refine ck_loc [1, 2, 0] rfl ?_
    exact cp_X4_product_26 _ _ _ _ _ hq
set_option maxHeartbeats 4000000 in
set_option maxRecDepth 100000 in
theorem c_X4_product {gr : Bool} {x0 : Int64} {x2 : Int64} {h : ck_H} {Q : Int64 → ck_H → Prop} (hq : wp_X4_product x0 x2 h Q) : ck_M yX4_product cX4_product 8 (some .long) 2 0 0 gr ck_shX h [.long x0, .long x2] (ck_Ql ck_shX Q) := by
  refine ck_entry (lv := [(0, .long x0), (2, .long x2)]) false (own := RX4) rfl (fun q => by cases q) (by decide) (Nat.le_of_ble_eq_true rfl) rfl ?_
  refine ck_lload_n 0 dX4_product_0 rfl rfl ?_
  refine ck_lconst (v := 0) dX4_product_1 (by decide) ?_
  refine ck_lcmp dX4_product_2 ?_
  refine ck_if_ge (tgt := 11) dX4_product_3 (by decide) (fun c1 => ?_) (fun c1 => ?_)
  · have hq := hq.1 c1
    refine ck_lload_n 0 dX4_product_11 rfl rfl ?_
    exact cp_X4_product_12 _ _ _ _ hq
  · have hq := hq.2 c1
    refine ck_lload_n 0 dX4_product_6 rfl rfl ?_
    refine ck_lneg dX4_product_7 ?_
    refine ck_goto (tgt := 12) dX4_product_8 (by decide) ?_
    exact cp_X4_product_12 _ _ _ _ hq
def wp_X4_joined_244 (Q : Int64 → ck_H → Prop) (h : ck_H) : Prop := Q (1 : Int64) h
def wp_X4_joined (x0 : Int32) (x1 : Int64) (x3 : Int64) (h : ck_H) (Q : Int64 → ck_H → Prop) : Prop := ((x0 = 7 → Q (x1 + x3) h) ∧ (¬ x0 = 7 → ((x0 = 8 → Q (x1 - x3) h) ∧ (¬ x0 = 8 → ((x0 = 9 → (wp_X4_product x1 x3 h (fun r5 h4 => Q r5 h4))) ∧ (¬ x0 = 9 → ((x0 = 10 → ((¬ (lg_cmp x3 (0 : Int64)) = 0 → (¬ x3 = 0 ∧ Q (x1 / x3) h)) ∧ ((lg_cmp x3 (0 : Int64)) = 0 → Q (-9223372036854775808 : Int64) h))) ∧ (¬ x0 = 10 → ((x0 = 11 → ((0 ≤ (lg_cmp x1 x3) → Q (0 : Int64) h) ∧ (¬ 0 ≤ (lg_cmp x1 x3) → Q (1 : Int64) h))) ∧ (¬ x0 = 11 → ((x0 = 12 → ((0 < (lg_cmp x1 x3) → Q (0 : Int64) h) ∧ (¬ 0 < (lg_cmp x1 x3) → Q (1 : Int64) h))) ∧ (¬ x0 = 12 → ((x0 = 13 → ((¬ (lg_cmp x1 x3) = 0 → Q (0 : Int64) h) ∧ ((lg_cmp x1 x3) = 0 → Q (1 : Int64) h))) ∧ (¬ x0 = 13 → ((x0 = 14 → (((lg_cmp x1 x3) = 0 → Q (0 : Int64) h) ∧ (¬ (lg_cmp x1 x3) = 0 → Q (1 : Int64) h))) ∧ (¬ x0 = 14 → ((x0 = 15 → (((lg_cmp x1 x3) < 0 → Q (0 : Int64) h) ∧ (¬ (lg_cmp x1 x3) < 0 → Q (1 : Int64) h))) ∧ (¬ x0 = 15 → ((x0 = 16 → (((lg_cmp x1 x3) ≤ 0 → Q (0 : Int64) h) ∧ (¬ (lg_cmp x1 x3) ≤ 0 → Q (1 : Int64) h))) ∧ (¬ x0 = 16 → ((x0 = 17 → Q (-9223372036854775808 : Int64) h) ∧ (¬ x0 = 17 → ((x0 = 18 → Q (-9223372036854775808 : Int64) h) ∧ (¬ x0 = 18 → ((x0 = 19 → Q (-9223372036854775808 : Int64) h) ∧ (¬ x0 = 19 → ((x0 = 20 → Q (-9223372036854775808 : Int64) h) ∧ (¬ x0 = 20 → ((x0 = 21 → Q (-9223372036854775808 : Int64) h) ∧ (¬ x0 = 21 → ((x0 = 22 → Q (-9223372036854775808 : Int64) h) ∧ (¬ x0 = 22 → ((x0 = 23 → Q (-9223372036854775808 : Int64) h) ∧ (¬ x0 = 23 → ((x0 = 24 → Q (-9223372036854775808 : Int64) h) ∧ (¬ x0 = 24 → ((x0 = 25 → Q (-9223372036854775808 : Int64) h) ∧ (¬ x0 = 25 → ((x0 = 26 → Q (-9223372036854775808 : Int64) h) ∧ (¬ x0 = 26 → ((x0 = 27 → Q (-9223372036854775808 : Int64) h) ∧ (¬ x0 = 27 → ((x0 = 28 → Q (-9223372036854775808 : Int64) h) ∧ (¬ x0 = 28 → ((x0 = 29 → ((¬ (lg_cmp x1 (0 : Int64)) = 0 → wp_X4_joined_244 Q h) ∧ ((lg_cmp x1 (0 : Int64)) = 0 → (((lg_cmp x3 (0 : Int64)) = 0 → Q (0 : Int64) h) ∧ (¬ (lg_cmp x3 (0 : Int64)) = 0 → wp_X4_joined_244 Q h))))) ∧ (¬ x0 = 29 → ((x0 = 30 → (((lg_cmp x1 (0 : Int64)) = 0 → Q (0 : Int64) h) ∧ (¬ (lg_cmp x1 (0 : Int64)) = 0 → (((lg_cmp x3 (0 : Int64)) = 0 → Q (0 : Int64) h) ∧ (¬ (lg_cmp x3 (0 : Int64)) = 0 → Q (1 : Int64) h))))) ∧ (¬ x0 = 30 → Q (-9223372036854775808 : Int64) h))))))))))))))))))))))))))))))))))))))))))))))))
set_option maxHeartbeats 4000000 in
set_option maxRecDepth 100000 in
theorem cp_X4_joined_244 {gr : Bool} {Q : Int64 → ck_H → Prop} : ∀ (h : ck_H), wp_X4_joined_244 Q h → ck_W cX4_joined 5 RX4 (some .long) 3 0 0 false gr (ck_Ql ck_shX Q) ck_shX h 0 0 244 [] [] := by
  intro h hq
  refine ck_lconst (v := 1) dX4_joined_244 (by decide) ?_
  refine ck_goto (tgt := 249) dX4_joined_245 (by decide) ?_
  exact ck_lret rfl rfl rfl dX4_joined_249 ⟨_, rfl, rfl, hq⟩
set_option maxHeartbeats 4000000 in
set_option maxRecDepth 100000 in
theorem c_X4_joined {gr : Bool} {x0 : Int32} {x1 : Int64} {x3 : Int64} {h : ck_H} {Q : Int64 → ck_H → Prop} (hq : wp_X4_joined x0 x1 x3 h Q) : ck_M yX4_joined cX4_joined 5 (some .long) 3 0 0 gr ck_shX h [.int x0, .long x1, .long x3] (ck_Ql ck_shX Q) := by
  refine ck_entry (lv := [(0, .int x0), (1, .long x1), (3, .long x3)]) false (own := RX4) rfl (fun q => by cases q) (by decide) (Nat.le_of_ble_eq_true rfl) rfl ?_
  refine ck_iload_n 0 dX4_joined_0 rfl rfl ?_
  by_cases c1 : x0 = 7
  · have hq := hq.1 c1
    refine ck_tabIn (tgt := 112) dX4_joined_1 (by rw [c1]; decide) (by rw [c1]; decide) (by rw [c1]; rfl) (by decide) ?_
    refine ck_lload_n 1 dX4_joined_112 rfl rfl ?_
    refine ck_lload_n 2 dX4_joined_113 rfl rfl ?_
    refine ck_ladd dX4_joined_114 ?_
    exact ck_lret rfl rfl rfl dX4_joined_115 ⟨_, rfl, rfl, hq⟩
  have hq := hq.2 c1
  by_cases c2 : x0 = 8
  · have hq := hq.1 c2
    refine ck_tabIn (tgt := 116) dX4_joined_1 (by rw [c2]; decide) (by rw [c2]; decide) (by rw [c2]; rfl) (by decide) ?_
    refine ck_lload_n 1 dX4_joined_116 rfl rfl ?_
    refine ck_lload_n 2 dX4_joined_117 rfl rfl ?_
    refine ck_lsub dX4_joined_118 ?_
    exact ck_lret rfl rfl rfl dX4_joined_119 ⟨_, rfl, rfl, hq⟩
  have hq := hq.2 c2
  by_cases c3 : x0 = 9
  · have hq := hq.1 c3
    refine ck_tabIn (tgt := 120) dX4_joined_1 (by rw [c3]; decide) (by rw [c3]; decide) (by rw [c3]; rfl) (by decide) ?_
    refine ck_lload_n 1 dX4_joined_120 rfl rfl ?_
    refine ck_lload_n 2 dX4_joined_121 rfl rfl ?_
    refine ck_callS (c_X4_product hq) rfl cal_X4_product rfl ml_X4_46 sta_X4_product (by decide) (Nat.le_of_ble_eq_true rfl) (Nat.le_of_ble_eq_true rfl) (by decide) (by decide) dX4_joined_122 ?_
    rintro _ _ h4 ⟨r5, rfl, rfl, hq⟩
    exact ck_lret rfl rfl rfl dX4_joined_125 ⟨_, rfl, rfl, hq⟩
  have hq := hq.2 c3
  by_cases c6 : x0 = 10
  · have hq := hq.1 c6
    refine ck_tabIn (tgt := 126) dX4_joined_1 (by rw [c6]; decide) (by rw [c6]; decide) (by rw [c6]; rfl) (by decide) ?_
    refine ck_lload_n 2 dX4_joined_126 rfl rfl ?_
    refine ck_lconst (v := 0) dX4_joined_127 (by decide) ?_
    refine ck_lcmp dX4_joined_128 ?_
    refine ck_if_ne (tgt := 138) dX4_joined_129 (by decide) (fun c7 => ?_) (fun c7 => ?_)
    · have hq := hq.1 c7
      refine ck_lload_n 1 dX4_joined_138 rfl rfl ?_
      refine ck_lload_n 2 dX4_joined_139 rfl rfl ?_
      obtain ⟨b8, hq⟩ := hq
      refine ck_ldiv dX4_joined_140 b8 ?_
      exact ck_lret rfl rfl rfl dX4_joined_141 ⟨_, rfl, rfl, hq⟩
    · have hq := hq.2 c7
      refine ck_ldc2 con_X4_36 dX4_joined_132 ?_
      refine ck_goto (tgt := 141) dX4_joined_135 (by decide) ?_
      exact ck_lret rfl rfl rfl dX4_joined_141 ⟨_, rfl, rfl, hq⟩
  have hq := hq.2 c6
  by_cases c9 : x0 = 11
  · have hq := hq.1 c9
    refine ck_tabIn (tgt := 142) dX4_joined_1 (by rw [c9]; decide) (by rw [c9]; decide) (by rw [c9]; rfl) (by decide) ?_
    refine ck_lload_n 1 dX4_joined_142 rfl rfl ?_
    refine ck_lload_n 2 dX4_joined_143 rfl rfl ?_
    refine ck_lcmp dX4_joined_144 ?_
    refine ck_if_ge (tgt := 152) dX4_joined_145 (by decide) (fun c10 => ?_) (fun c10 => ?_)
    · have hq := hq.1 c10
      refine ck_lconst (v := 0) dX4_joined_152 (by decide) ?_
      exact ck_lret rfl rfl rfl dX4_joined_153 ⟨_, rfl, rfl, hq⟩
    · have hq := hq.2 c10
      refine ck_lconst (v := 1) dX4_joined_148 (by decide) ?_
      refine ck_goto (tgt := 153) dX4_joined_149 (by decide) ?_
      exact ck_lret rfl rfl rfl dX4_joined_153 ⟨_, rfl, rfl, hq⟩
  have hq := hq.2 c9
  by_cases c11 : x0 = 12
  · have hq := hq.1 c11
    refine ck_tabIn (tgt := 154) dX4_joined_1 (by rw [c11]; decide) (by rw [c11]; decide) (by rw [c11]; rfl) (by decide) ?_
    refine ck_lload_n 1 dX4_joined_154 rfl rfl ?_
    refine ck_lload_n 2 dX4_joined_155 rfl rfl ?_
    refine ck_lcmp dX4_joined_156 ?_
    refine ck_if_gt (tgt := 164) dX4_joined_157 (by decide) (fun c12 => ?_) (fun c12 => ?_)
    · have hq := hq.1 c12
      refine ck_lconst (v := 0) dX4_joined_164 (by decide) ?_
      exact ck_lret rfl rfl rfl dX4_joined_165 ⟨_, rfl, rfl, hq⟩
    · have hq := hq.2 c12
      refine ck_lconst (v := 1) dX4_joined_160 (by decide) ?_
      refine ck_goto (tgt := 165) dX4_joined_161 (by decide) ?_
      exact ck_lret rfl rfl rfl dX4_joined_165 ⟨_, rfl, rfl, hq⟩
  have hq := hq.2 c11
  by_cases c13 : x0 = 13
  · have hq := hq.1 c13
    refine ck_tabIn (tgt := 166) dX4_joined_1 (by rw [c13]; decide) (by rw [c13]; decide) (by rw [c13]; rfl) (by decide) ?_
    refine ck_lload_n 1 dX4_joined_166 rfl rfl ?_
    refine ck_lload_n 2 dX4_joined_167 rfl rfl ?_
    refine ck_lcmp dX4_joined_168 ?_
    refine ck_if_ne (tgt := 176) dX4_joined_169 (by decide) (fun c14 => ?_) (fun c14 => ?_)
    · have hq := hq.1 c14
      refine ck_lconst (v := 0) dX4_joined_176 (by decide) ?_
      exact ck_lret rfl rfl rfl dX4_joined_177 ⟨_, rfl, rfl, hq⟩
    · have hq := hq.2 c14
      refine ck_lconst (v := 1) dX4_joined_172 (by decide) ?_
      refine ck_goto (tgt := 177) dX4_joined_173 (by decide) ?_
      exact ck_lret rfl rfl rfl dX4_joined_177 ⟨_, rfl, rfl, hq⟩
  have hq := hq.2 c13
  by_cases c15 : x0 = 14
  · have hq := hq.1 c15
    refine ck_tabIn (tgt := 178) dX4_joined_1 (by rw [c15]; decide) (by rw [c15]; decide) (by rw [c15]; rfl) (by decide) ?_
    refine ck_lload_n 1 dX4_joined_178 rfl rfl ?_
    refine ck_lload_n 2 dX4_joined_179 rfl rfl ?_
    refine ck_lcmp dX4_joined_180 ?_
    refine ck_if_eq (tgt := 188) dX4_joined_181 (by decide) (fun c16 => ?_) (fun c16 => ?_)
    · have hq := hq.1 c16
      refine ck_lconst (v := 0) dX4_joined_188 (by decide) ?_
      exact ck_lret rfl rfl rfl dX4_joined_189 ⟨_, rfl, rfl, hq⟩
    · have hq := hq.2 c16
      refine ck_lconst (v := 1) dX4_joined_184 (by decide) ?_
      refine ck_goto (tgt := 189) dX4_joined_185 (by decide) ?_
      exact ck_lret rfl rfl rfl dX4_joined_189 ⟨_, rfl, rfl, hq⟩
  have hq := hq.2 c15
  by_cases c17 : x0 = 15
  · have hq := hq.1 c17
    refine ck_tabIn (tgt := 190) dX4_joined_1 (by rw [c17]; decide) (by rw [c17]; decide) (by rw [c17]; rfl) (by decide) ?_
    refine ck_lload_n 1 dX4_joined_190 rfl rfl ?_
    refine ck_lload_n 2 dX4_joined_191 rfl rfl ?_
    refine ck_lcmp dX4_joined_192 ?_
    refine ck_if_lt (tgt := 200) dX4_joined_193 (by decide) (fun c18 => ?_) (fun c18 => ?_)
    · have hq := hq.1 c18
      refine ck_lconst (v := 0) dX4_joined_200 (by decide) ?_
      exact ck_lret rfl rfl rfl dX4_joined_201 ⟨_, rfl, rfl, hq⟩
    · have hq := hq.2 c18
      refine ck_lconst (v := 1) dX4_joined_196 (by decide) ?_
      refine ck_goto (tgt := 201) dX4_joined_197 (by decide) ?_
      exact ck_lret rfl rfl rfl dX4_joined_201 ⟨_, rfl, rfl, hq⟩
  have hq := hq.2 c17
  by_cases c19 : x0 = 16
  · have hq := hq.1 c19
    refine ck_tabIn (tgt := 202) dX4_joined_1 (by rw [c19]; decide) (by rw [c19]; decide) (by rw [c19]; rfl) (by decide) ?_
    refine ck_lload_n 1 dX4_joined_202 rfl rfl ?_
    refine ck_lload_n 2 dX4_joined_203 rfl rfl ?_
    refine ck_lcmp dX4_joined_204 ?_
    refine ck_if_le (tgt := 212) dX4_joined_205 (by decide) (fun c20 => ?_) (fun c20 => ?_)
    · have hq := hq.1 c20
      refine ck_lconst (v := 0) dX4_joined_212 (by decide) ?_
      exact ck_lret rfl rfl rfl dX4_joined_213 ⟨_, rfl, rfl, hq⟩
    · have hq := hq.2 c20
      refine ck_lconst (v := 1) dX4_joined_208 (by decide) ?_
      refine ck_goto (tgt := 213) dX4_joined_209 (by decide) ?_
      exact ck_lret rfl rfl rfl dX4_joined_213 ⟨_, rfl, rfl, hq⟩
  have hq := hq.2 c19
  by_cases c21 : x0 = 17
  · have hq := hq.1 c21
    refine ck_tabIn (tgt := 250) dX4_joined_1 (by rw [c21]; decide) (by rw [c21]; decide) (by rw [c21]; rfl) (by decide) ?_
    refine ck_ldc2 con_X4_36 dX4_joined_250 ?_
    exact ck_lret rfl rfl rfl dX4_joined_253 ⟨_, rfl, rfl, hq⟩
  have hq := hq.2 c21
  by_cases c22 : x0 = 18
  · have hq := hq.1 c22
    refine ck_tabIn (tgt := 250) dX4_joined_1 (by rw [c22]; decide) (by rw [c22]; decide) (by rw [c22]; rfl) (by decide) ?_
    refine ck_ldc2 con_X4_36 dX4_joined_250 ?_
    exact ck_lret rfl rfl rfl dX4_joined_253 ⟨_, rfl, rfl, hq⟩
  have hq := hq.2 c22
  by_cases c23 : x0 = 19
  · have hq := hq.1 c23
    refine ck_tabIn (tgt := 250) dX4_joined_1 (by rw [c23]; decide) (by rw [c23]; decide) (by rw [c23]; rfl) (by decide) ?_
    refine ck_ldc2 con_X4_36 dX4_joined_250 ?_
    exact ck_lret rfl rfl rfl dX4_joined_253 ⟨_, rfl, rfl, hq⟩
  have hq := hq.2 c23
  by_cases c24 : x0 = 20
  · have hq := hq.1 c24
    refine ck_tabIn (tgt := 250) dX4_joined_1 (by rw [c24]; decide) (by rw [c24]; decide) (by rw [c24]; rfl) (by decide) ?_
    refine ck_ldc2 con_X4_36 dX4_joined_250 ?_
    exact ck_lret rfl rfl rfl dX4_joined_253 ⟨_, rfl, rfl, hq⟩
  have hq := hq.2 c24
  by_cases c25 : x0 = 21
  · have hq := hq.1 c25
    refine ck_tabIn (tgt := 250) dX4_joined_1 (by rw [c25]; decide) (by rw [c25]; decide) (by rw [c25]; rfl) (by decide) ?_
    refine ck_ldc2 con_X4_36 dX4_joined_250 ?_
    exact ck_lret rfl rfl rfl dX4_joined_253 ⟨_, rfl, rfl, hq⟩
  have hq := hq.2 c25
  by_cases c26 : x0 = 22
  · have hq := hq.1 c26
    refine ck_tabIn (tgt := 250) dX4_joined_1 (by rw [c26]; decide) (by rw [c26]; decide) (by rw [c26]; rfl) (by decide) ?_
    refine ck_ldc2 con_X4_36 dX4_joined_250 ?_
    exact ck_lret rfl rfl rfl dX4_joined_253 ⟨_, rfl, rfl, hq⟩
  have hq := hq.2 c26
  by_cases c27 : x0 = 23
  · have hq := hq.1 c27
    refine ck_tabIn (tgt := 250) dX4_joined_1 (by rw [c27]; decide) (by rw [c27]; decide) (by rw [c27]; rfl) (by decide) ?_
    refine ck_ldc2 con_X4_36 dX4_joined_250 ?_
    exact ck_lret rfl rfl rfl dX4_joined_253 ⟨_, rfl, rfl, hq⟩
  have hq := hq.2 c27
  by_cases c28 : x0 = 24
  · have hq := hq.1 c28
    refine ck_tabIn (tgt := 250) dX4_joined_1 (by rw [c28]; decide) (by rw [c28]; decide) (by rw [c28]; rfl) (by decide) ?_
    refine ck_ldc2 con_X4_36 dX4_joined_250 ?_
    exact ck_lret rfl rfl rfl dX4_joined_253 ⟨_, rfl, rfl, hq⟩
  have hq := hq.2 c28
  by_cases c29 : x0 = 25
  · have hq := hq.1 c29
    refine ck_tabIn (tgt := 250) dX4_joined_1 (by rw [c29]; decide) (by rw [c29]; decide) (by rw [c29]; rfl) (by decide) ?_
    refine ck_ldc2 con_X4_36 dX4_joined_250 ?_
    exact ck_lret rfl rfl rfl dX4_joined_253 ⟨_, rfl, rfl, hq⟩
  have hq := hq.2 c29
  by_cases c30 : x0 = 26
  · have hq := hq.1 c30
    refine ck_tabIn (tgt := 250) dX4_joined_1 (by rw [c30]; decide) (by rw [c30]; decide) (by rw [c30]; rfl) (by decide) ?_
    refine ck_ldc2 con_X4_36 dX4_joined_250 ?_
    exact ck_lret rfl rfl rfl dX4_joined_253 ⟨_, rfl, rfl, hq⟩
  have hq := hq.2 c30
  by_cases c31 : x0 = 27
  · have hq := hq.1 c31
    refine ck_tabIn (tgt := 250) dX4_joined_1 (by rw [c31]; decide) (by rw [c31]; decide) (by rw [c31]; rfl) (by decide) ?_
    refine ck_ldc2 con_X4_36 dX4_joined_250 ?_
    exact ck_lret rfl rfl rfl dX4_joined_253 ⟨_, rfl, rfl, hq⟩
  have hq := hq.2 c31
  by_cases c32 : x0 = 28
  · have hq := hq.1 c32
    refine ck_tabIn (tgt := 250) dX4_joined_1 (by rw [c32]; decide) (by rw [c32]; decide) (by rw [c32]; rfl) (by decide) ?_
    refine ck_ldc2 con_X4_36 dX4_joined_250 ?_
    exact ck_lret rfl rfl rfl dX4_joined_253 ⟨_, rfl, rfl, hq⟩
  have hq := hq.2 c32
  by_cases c33 : x0 = 29
  · have hq := hq.1 c33
    refine ck_tabIn (tgt := 232) dX4_joined_1 (by rw [c33]; decide) (by rw [c33]; decide) (by rw [c33]; rfl) (by decide) ?_
    refine ck_lload_n 1 dX4_joined_232 rfl rfl ?_
    refine ck_lconst (v := 0) dX4_joined_233 (by decide) ?_
    refine ck_lcmp dX4_joined_234 ?_
    refine ck_if_ne (tgt := 244) dX4_joined_235 (by decide) (fun c34 => ?_) (fun c34 => ?_)
    · have hq := hq.1 c34
      refine ck_loc [] rfl ?_
      exact cp_X4_joined_244  _ hq
    · have hq := hq.2 c34
      refine ck_lload_n 2 dX4_joined_238 rfl rfl ?_
      refine ck_lconst (v := 0) dX4_joined_239 (by decide) ?_
      refine ck_lcmp dX4_joined_240 ?_
      refine ck_if_eq (tgt := 248) dX4_joined_241 (by decide) (fun c35 => ?_) (fun c35 => ?_)
      · have hq := hq.1 c35
        refine ck_lconst (v := 0) dX4_joined_248 (by decide) ?_
        exact ck_lret rfl rfl rfl dX4_joined_249 ⟨_, rfl, rfl, hq⟩
      · have hq := hq.2 c35
        refine ck_loc [] rfl ?_
        exact cp_X4_joined_244  _ hq
  have hq := hq.2 c33
  by_cases c36 : x0 = 30
  · have hq := hq.1 c36
    refine ck_tabIn (tgt := 214) dX4_joined_1 (by rw [c36]; decide) (by rw [c36]; decide) (by rw [c36]; rfl) (by decide) ?_
    refine ck_lload_n 1 dX4_joined_214 rfl rfl ?_
    refine ck_lconst (v := 0) dX4_joined_215 (by decide) ?_
    refine ck_lcmp dX4_joined_216 ?_
    refine ck_if_eq (tgt := 230) dX4_joined_217 (by decide) (fun c37 => ?_) (fun c37 => ?_)
    · have hq := hq.1 c37
      refine ck_lconst (v := 0) dX4_joined_230 (by decide) ?_
      exact ck_lret rfl rfl rfl dX4_joined_231 ⟨_, rfl, rfl, hq⟩
    · have hq := hq.2 c37
      refine ck_lload_n 2 dX4_joined_220 rfl rfl ?_
      refine ck_lconst (v := 0) dX4_joined_221 (by decide) ?_
      refine ck_lcmp dX4_joined_222 ?_
      refine ck_if_eq (tgt := 230) dX4_joined_223 (by decide) (fun c38 => ?_) (fun c38 => ?_)
      · have hq := hq.1 c38
        refine ck_lconst (v := 0) dX4_joined_230 (by decide) ?_
        exact ck_lret rfl rfl rfl dX4_joined_231 ⟨_, rfl, rfl, hq⟩
      · have hq := hq.2 c38
        refine ck_lconst (v := 1) dX4_joined_226 (by decide) ?_
        refine ck_goto (tgt := 231) dX4_joined_227 (by decide) ?_
        exact ck_lret rfl rfl rfl dX4_joined_231 ⟨_, rfl, rfl, hq⟩
  have hq := hq.2 c36
  refine ck_tabOut (tgt := 250) dX4_joined_1 (by have z0 := lv_neT c1 (a := 7) (by decide); have z1 := lv_neT c2 (a := 8) (by decide); have z2 := lv_neT c3 (a := 9) (by decide); have z3 := lv_neT c6 (a := 10) (by decide); have z4 := lv_neT c9 (a := 11) (by decide); have z5 := lv_neT c11 (a := 12) (by decide); have z6 := lv_neT c13 (a := 13) (by decide); have z7 := lv_neT c15 (a := 14) (by decide); have z8 := lv_neT c17 (a := 15) (by decide); have z9 := lv_neT c19 (a := 16) (by decide); have z10 := lv_neT c21 (a := 17) (by decide); have z11 := lv_neT c22 (a := 18) (by decide); have z12 := lv_neT c23 (a := 19) (by decide); have z13 := lv_neT c24 (a := 20) (by decide); have z14 := lv_neT c25 (a := 21) (by decide); have z15 := lv_neT c26 (a := 22) (by decide); have z16 := lv_neT c27 (a := 23) (by decide); have z17 := lv_neT c28 (a := 24) (by decide); have z18 := lv_neT c29 (a := 25) (by decide); have z19 := lv_neT c30 (a := 26) (by decide); have z20 := lv_neT c31 (a := 27) (by decide); have z21 := lv_neT c32 (a := 28) (by decide); have z22 := lv_neT c33 (a := 29) (by decide); have z23 := lv_neT c36 (a := 30) (by decide); omega) (by decide) ?_
  refine ck_ldc2 con_X4_36 dX4_joined_250 ?_
  exact ck_lret rfl rfl rfl dX4_joined_253 ⟨_, rfl, rfl, hq⟩
def wp_X4_worked_187 (Q : Int64 → ck_H → Prop) (K193 : Int32 → ck_H → Prop) (Kc : Int32 → Int32 → Int32 → ck_H → Prop) (x1 : Int32) (x3 : Int32) (x4 : Int32) (h : ck_H) : Prop := (∀ v22, v22 = x4 + 1 → Kc x1 x3 v22 h)
def wp_X4_worked_127 (Q : Int64 → ck_H → Prop) (K193 : Int32 → ck_H → Prop) (Kc : Int32 → Int32 → Int32 → ck_H → Prop) (x1 : Int32) (x3 : Int32) (x4 : Int32) (y1 : Int32) (y2 : Int64) (h : ck_H) : Prop := (vp_in y1 64 ∧ (∀ h26, h26 = ck_sL h 52 y1.toNatClampNeg y2 → wp_X4_worked_187 Q K193 Kc x1 x3 x4 h26))
def wp_X4_worked_10 (Q : Int64 → ck_H → Prop) (K193 : Int32 → ck_H → Prop) : Nat → Int32 → Int32 → Int32 → ck_H → Prop
  | 0 => fun _ _ _ _ => False
  | n + 1 => fun x1 x3 x4 h => (vp_in x1 3 ∧ (((h.1 51 x1.toNatClampNeg) ≤ x4 → K193 x3 h) ∧ (¬ (h.1 51 x1.toNatClampNeg) ≤ x4 → (vp_in x4 64 ∧ (∀ v6, v6 = (h.1 48 x4.toNatClampNeg) → (wp_X4_sidesOf v6 h (fun r8 h7 => ((r8 ≤ x3 → ((¬ v6 = (2 : Int32) → ((v6 < (32 : Int32) → ((¬ v6 = (31 : Int32) → (∀ v13, v13 = x3 + (-1) → (vp_in (v13 - (1 : Int32)) 64 ∧ (vp_in v13 64 ∧ (wp_X4_joined v6 (h7.2 52 (v13 - (1 : Int32)).toNatClampNeg) (h7.2 52 v13.toNatClampNeg) h7 (fun r17 h16 => ((0 < (lg_cmp r17 (1000000000000 : Int64)) → Q (-9223372036854775808 : Int64) h16) ∧ (¬ 0 < (lg_cmp r17 (1000000000000 : Int64)) → ((0 ≤ (lg_cmp r17 (-1000000000000 : Int64)) → (vp_in (v13 - (1 : Int32)) 64 ∧ (∀ h21, h21 = ck_sL h16 52 (v13 - (1 : Int32)).toNatClampNeg r17 → wp_X4_worked_187 Q K193 (wp_X4_worked_10 Q K193 n) x1 v13 x4 h21))) ∧ (¬ 0 ≤ (lg_cmp r17 (-1000000000000 : Int64)) → Q (-9223372036854775808 : Int64) h16)))))))))) ∧ (v6 = (31 : Int32) → (vp_in (x3 - (1 : Int32)) 64 ∧ ((¬ (lg_cmp (h7.2 52 (x3 - (1 : Int32)).toNatClampNeg) (0 : Int64)) = 0 → wp_X4_worked_127 Q K193 (wp_X4_worked_10 Q K193 n) x1 x3 x4 (x3 - (1 : Int32)) (0 : Int64) h7) ∧ ((lg_cmp (h7.2 52 (x3 - (1 : Int32)).toNatClampNeg) (0 : Int64)) = 0 → wp_X4_worked_127 Q K193 (wp_X4_worked_10 Q K193 n) x1 x3 x4 (x3 - (1 : Int32)) (1 : Int64) h7)))))) ∧ (¬ v6 < (32 : Int32) → (vp_in (v6 - (32 : Int32)) 7 ∧ (vp_in x3 64 ∧ (∀ h29, h29 = ck_sL h7 52 x3.toNatClampNeg (h7.2 75 (v6 - (32 : Int32)).toNatClampNeg) → (∀ v30, v30 = x3 + 1 → wp_X4_worked_187 Q K193 (wp_X4_worked_10 Q K193 n) x1 v30 x4 h29))))))) ∧ (v6 = (2 : Int32) → (vp_in x4 64 ∧ (vp_in x3 64 ∧ (∀ h33, h33 = ck_sL h7 52 x3.toNatClampNeg (h7.1 49 x4.toNatClampNeg).toInt64 → (∀ v34, v34 = x3 + 1 → wp_X4_worked_187 Q K193 (wp_X4_worked_10 Q K193 n) x1 v34 x4 h33))))))) ∧ (¬ r8 ≤ x3 → Q (-9223372036854775808 : Int64) h7)))))))))
def wp_X4_worked (x1 : Int32) (h : ck_H) (Q : Int64 → ck_H → Prop) : Prop := (vp_in x1 3 ∧ (∀ v2, v2 = (h.1 50 x1.toNatClampNeg) → wp_X4_worked_10 Q (fun x36 h35 => ((¬ x36 = (1 : Int32) → Q (-9223372036854775808 : Int64) h35) ∧ (x36 = (1 : Int32) → Q (h35.2 52 0) h35))) lpN x1 (0 : Int32) v2 h))
set_option maxHeartbeats 4000000 in
set_option maxRecDepth 100000 in
theorem cp_X4_worked_187 {gr : Bool} {Q : Int64 → ck_H → Prop} {K193 : Int32 → ck_H → Prop} {Kc : Int32 → Int32 → Int32 → ck_H → Prop} (hK193 : ∀ (x3 : Int32) (h : ck_H), K193 x3 h → ck_W cX4_worked 8 RX4 (some .long) 4 0 0 false gr (ck_Ql ck_shX Q) ck_shX h 0 0 193 [(0, .ref 47), (3, .int x3)] []) (hKc : ∀ (x1 : Int32) (x3 : Int32) (x4 : Int32) (h : ck_H), Kc x1 x3 x4 h → ck_W cX4_worked 8 RX4 (some .long) 4 0 0 false gr (ck_Ql ck_shX Q) ck_shX h 0 0 10 [(0, .ref 47), (1, .int x1), (2, .ref 75), (3, .int x3), (4, .int x4)] []) : ∀ (x1 : Int32) (x3 : Int32) (x4 : Int32) (h : ck_H), wp_X4_worked_187 Q K193 Kc x1 x3 x4 h → ck_W cX4_worked 8 RX4 (some .long) 4 0 0 false gr (ck_Ql ck_shX Q) ck_shX h 0 0 187 [(0, .ref 47), (1, .int x1), (2, .ref 75), (3, .int x3), (4, .int x4)] [] := by
  intro x1 x3 x4 h hq
  obtain ⟨v22, ev22⟩ : ∃ z : Int32, z = x4 + 1 := ⟨_, rfl⟩
  have hq := hq v22 ev22
  refine ck_iinc (v := v22) (lv' := [(4, .int v22), (0, .ref 47), (1, .int x1), (2, .ref 75), (3, .int x3)]) 4 dX4_worked_187 rfl (by rw [ev22]; rfl) (by decide) rfl ?_
  refine ck_goto (tgt := 10) dX4_worked_190 (by decide) ?_
  refine ck_loc [1, 2, 3, 4, 0] rfl ?_
  exact hKc _ _ _ _ hq
set_option maxHeartbeats 4000000 in
set_option maxRecDepth 100000 in
theorem cp_X4_worked_127 {gr : Bool} {Q : Int64 → ck_H → Prop} {K193 : Int32 → ck_H → Prop} {Kc : Int32 → Int32 → Int32 → ck_H → Prop} (hK193 : ∀ (x3 : Int32) (h : ck_H), K193 x3 h → ck_W cX4_worked 8 RX4 (some .long) 4 0 0 false gr (ck_Ql ck_shX Q) ck_shX h 0 0 193 [(0, .ref 47), (3, .int x3)] []) (hKc : ∀ (x1 : Int32) (x3 : Int32) (x4 : Int32) (h : ck_H), Kc x1 x3 x4 h → ck_W cX4_worked 8 RX4 (some .long) 4 0 0 false gr (ck_Ql ck_shX Q) ck_shX h 0 0 10 [(0, .ref 47), (1, .int x1), (2, .ref 75), (3, .int x3), (4, .int x4)] []) : ∀ (x1 : Int32) (x3 : Int32) (x4 : Int32) (y1 : Int32) (y2 : Int64) (h : ck_H), wp_X4_worked_127 Q K193 Kc x1 x3 x4 y1 y2 h → ck_W cX4_worked 8 RX4 (some .long) 4 0 0 false gr (ck_Ql ck_shX Q) ck_shX h 0 0 127 [(0, .ref 47), (1, .int x1), (2, .ref 75), (3, .int x3), (4, .int x4)] [.long y2, .int y1, .ref 52] := by
  intro x1 x3 x4 y1 y2 h hq
  obtain ⟨b25, hq⟩ := hq
  refine ck_last rfl rfl b25 dX4_worked_127 ?_
  refine ck_nmH (fun h26 eh26 => ?_)
  have hq := hq h26 eh26
  refine ck_goto (tgt := 187) dX4_worked_128 (by decide) ?_
  exact cp_X4_worked_187 hK193 hKc _ _ _ _ hq
set_option maxHeartbeats 4000000 in
set_option maxRecDepth 100000 in
theorem cp_X4_worked_10 {gr : Bool} {Q : Int64 → ck_H → Prop} {K193 : Int32 → ck_H → Prop} (hK193 : ∀ (x3 : Int32) (h : ck_H), K193 x3 h → ck_W cX4_worked 8 RX4 (some .long) 4 0 0 false gr (ck_Ql ck_shX Q) ck_shX h 0 0 193 [(0, .ref 47), (3, .int x3)] []) : ∀ (n : Nat) (x1 : Int32) (x3 : Int32) (x4 : Int32) (h : ck_H), wp_X4_worked_10 Q K193 n x1 x3 x4 h → ck_W cX4_worked 8 RX4 (some .long) 4 0 0 false gr (ck_Ql ck_shX Q) ck_shX h 0 0 10 [(0, .ref 47), (1, .int x1), (2, .ref 75), (3, .int x3), (4, .int x4)] [] := by
  intro n
  induction n with
  | zero => intro x1 x3 x4 h hq; exact hq.elim
  | succ n hKc =>
    intro x1 x3 x4 h hq
    refine ck_iload 4 dX4_worked_10 rfl ?_
    refine ck_aload_n 0 dX4_worked_12 rfl rfl ?_
    refine ck_getR clX4 3 rfl rfl (by decide) fl_X4_21 dX4_worked_13 ?_
    refine ck_iload_n 1 dX4_worked_16 rfl rfl ?_
    obtain ⟨b3, hq⟩ := hq
    refine ck_iald rfl rfl b3 dX4_worked_17 ?_
    refine ck_icmp_ge (tgt := 193) dX4_worked_18 (by decide) (fun c4 => ?_) (fun c4 => ?_)
    · have hq := hq.1 c4
      refine ck_loc [0, 3] rfl ?_
      exact hK193 _ _ hq
    · have hq := hq.2 c4
      refine ck_aload_n 0 dX4_worked_21 rfl rfl ?_
      refine ck_getR clX4 0 rfl rfl (by decide) fl_X4_9 dX4_worked_22 ?_
      refine ck_iload 4 dX4_worked_25 rfl ?_
      obtain ⟨b5, hq⟩ := hq
      refine ck_iald rfl rfl b5 dX4_worked_27 ?_
      refine ck_nmI (fun v6 ev6 => ?_)
      have hq := hq v6 ev6
      refine ck_istore (lv' := [(5, .int v6), (0, .ref 47), (1, .int x1), (2, .ref 75), (3, .int x3), (4, .int x4)]) dX4_worked_28 (by decide) rfl ?_
      refine ck_iload_n 4 dX4_worked_30 rfl rfl ?_
      refine ck_iload 0 dX4_worked_31 rfl ?_
      refine ck_callS (c_X4_sidesOf hq) rfl cal_X4_sidesOf rfl ml_X4_32 sta_X4_sidesOf (by decide) (Nat.le_of_ble_eq_true rfl) (Nat.le_of_ble_eq_true rfl) (by decide) (by decide) dX4_worked_33 ?_
      rintro _ _ h7 ⟨r8, rfl, rfl, hq⟩
      refine ck_icmp_ge (tgt := 43) dX4_worked_36 (by decide) (fun c9 => ?_) (fun c9 => ?_)
      · have hq := hq.1 c9
        refine ck_iload 0 dX4_worked_43 rfl ?_
        refine ck_iconst (v := 2) dX4_worked_45 (by decide) ?_
        refine ck_icmp_ne (tgt := 69) dX4_worked_46 (by decide) (fun c10 => ?_) (fun c10 => ?_)
        · have hq := hq.1 c10
          refine ck_iload 0 dX4_worked_69 rfl ?_
          refine ck_bipush (v := 32) dX4_worked_71 (by decide) ?_
          refine ck_icmp_lt (tgt := 95) dX4_worked_73 (by decide) (fun c11 => ?_) (fun c11 => ?_)
          · have hq := hq.1 c11
            refine ck_iload 0 dX4_worked_95 rfl ?_
            refine ck_bipush (v := 31) dX4_worked_97 (by decide) ?_
            refine ck_icmp_ne (tgt := 131) dX4_worked_99 (by decide) (fun c12 => ?_) (fun c12 => ?_)
            · have hq := hq.1 c12
              obtain ⟨v13, ev13⟩ : ∃ z : Int32, z = x3 + (-1) := ⟨_, rfl⟩
              have hq := hq v13 ev13
              refine ck_iinc (v := v13) (lv' := [(3, .int v13), (5, .int v6), (0, .ref 47), (1, .int x1), (2, .ref 75), (4, .int x4)]) 4 dX4_worked_131 rfl (by rw [ev13]; rfl) (by decide) rfl ?_
              refine ck_iload 1 dX4_worked_134 rfl ?_
              refine ck_aload_n 2 dX4_worked_136 rfl rfl ?_
              refine ck_getR clX4 4 rfl rfl (by decide) fl_X4_24 dX4_worked_137 ?_
              refine ck_iload_n 0 dX4_worked_140 rfl rfl ?_
              refine ck_iconst (v := 1) dX4_worked_141 (by decide) ?_
              refine ck_isub dX4_worked_142 ?_
              obtain ⟨b14, hq⟩ := hq
              refine ck_lald rfl rfl b14 dX4_worked_143 ?_
              refine ck_aload_n 2 dX4_worked_144 rfl rfl ?_
              refine ck_getR clX4 4 rfl rfl (by decide) fl_X4_24 dX4_worked_145 ?_
              refine ck_iload_n 0 dX4_worked_148 rfl rfl ?_
              obtain ⟨b15, hq⟩ := hq
              refine ck_lald rfl rfl b15 dX4_worked_149 ?_
              refine ck_callS (c_X4_joined hq) rfl cal_X4_joined rfl ml_X4_38 sta_X4_joined (by decide) (Nat.le_of_ble_eq_true rfl) (Nat.le_of_ble_eq_true rfl) (by decide) (by decide) dX4_worked_150 ?_
              rintro _ _ h16 ⟨r17, rfl, rfl, hq⟩
              refine ck_lstore (lv' := [(6, .long r17), (3, .int v13), (5, .int v6), (0, .ref 47), (1, .int x1), (2, .ref 75), (4, .int x4)]) dX4_worked_153 (by decide) rfl ?_
              refine ck_lload 0 dX4_worked_155 rfl ?_
              refine ck_ldc2 con_X4_42 dX4_worked_157 ?_
              refine ck_lcmp dX4_worked_160 ?_
              refine ck_if_gt (tgt := 173) dX4_worked_161 (by decide) (fun c18 => ?_) (fun c18 => ?_)
              · have hq := hq.1 c18
                refine ck_ldc2 con_X4_36 dX4_worked_173 ?_
                exact ck_lret rfl rfl rfl dX4_worked_176 ⟨_, rfl, rfl, hq⟩
              · have hq := hq.2 c18
                refine ck_lload 0 dX4_worked_164 rfl ?_
                refine ck_ldc2 con_X4_44 dX4_worked_166 ?_
                refine ck_lcmp dX4_worked_169 ?_
                refine ck_if_ge (tgt := 177) dX4_worked_170 (by decide) (fun c19 => ?_) (fun c19 => ?_)
                · have hq := hq.1 c19
                  refine ck_aload_n 3 dX4_worked_177 rfl rfl ?_
                  refine ck_getR clX4 4 rfl rfl (by decide) fl_X4_24 dX4_worked_178 ?_
                  refine ck_iload_n 1 dX4_worked_181 rfl rfl ?_
                  refine ck_iconst (v := 1) dX4_worked_182 (by decide) ?_
                  refine ck_isub dX4_worked_183 ?_
                  refine ck_lload 0 dX4_worked_184 rfl ?_
                  obtain ⟨b20, hq⟩ := hq
                  refine ck_last rfl rfl b20 dX4_worked_186 ?_
                  refine ck_nmH (fun h21 eh21 => ?_)
                  have hq := hq h21 eh21
                  refine ck_loc [3, 4, 5, 1, 6] rfl ?_
                  exact cp_X4_worked_187 hK193 hKc _ _ _ _ hq
                · have hq := hq.2 c19
                  refine ck_ldc2 con_X4_36 dX4_worked_173 ?_
                  exact ck_lret rfl rfl rfl dX4_worked_176 ⟨_, rfl, rfl, hq⟩
            · have hq := hq.2 c12
              refine ck_aload_n 1 dX4_worked_102 rfl rfl ?_
              refine ck_getR clX4 4 rfl rfl (by decide) fl_X4_24 dX4_worked_103 ?_
              refine ck_iload_n 4 dX4_worked_106 rfl rfl ?_
              refine ck_iconst (v := 1) dX4_worked_107 (by decide) ?_
              refine ck_isub dX4_worked_108 ?_
              refine ck_aload_n 1 dX4_worked_109 rfl rfl ?_
              refine ck_getR clX4 4 rfl rfl (by decide) fl_X4_24 dX4_worked_110 ?_
              refine ck_iload_n 4 dX4_worked_113 rfl rfl ?_
              refine ck_iconst (v := 1) dX4_worked_114 (by decide) ?_
              refine ck_isub dX4_worked_115 ?_
              obtain ⟨b23, hq⟩ := hq
              refine ck_lald rfl rfl b23 dX4_worked_116 ?_
              refine ck_lconst (v := 0) dX4_worked_117 (by decide) ?_
              refine ck_lcmp dX4_worked_118 ?_
              refine ck_if_ne (tgt := 126) dX4_worked_119 (by decide) (fun c24 => ?_) (fun c24 => ?_)
              · have hq := hq.1 c24
                refine ck_lconst (v := 0) dX4_worked_126 (by decide) ?_
                refine ck_loc [1, 2, 3, 4, 5] rfl ?_
                exact cp_X4_worked_127 hK193 hKc _ _ _ _ _ _ hq
              · have hq := hq.2 c24
                refine ck_lconst (v := 1) dX4_worked_122 (by decide) ?_
                refine ck_goto (tgt := 127) dX4_worked_123 (by decide) ?_
                refine ck_loc [1, 2, 3, 4, 5] rfl ?_
                exact cp_X4_worked_127 hK193 hKc _ _ _ _ _ _ hq
          · have hq := hq.2 c11
            refine ck_aload_n 1 dX4_worked_76 rfl rfl ?_
            refine ck_getR clX4 4 rfl rfl (by decide) fl_X4_24 dX4_worked_77 ?_
            refine ck_iload_n 4 dX4_worked_80 rfl rfl ?_
            refine ck_aload_n 3 dX4_worked_81 rfl rfl ?_
            refine ck_iload 0 dX4_worked_82 rfl ?_
            refine ck_bipush (v := 32) dX4_worked_84 (by decide) ?_
            refine ck_isub dX4_worked_86 ?_
            obtain ⟨b27, hq⟩ := hq
            refine ck_lald rfl rfl b27 dX4_worked_87 ?_
            obtain ⟨b28, hq⟩ := hq
            refine ck_last rfl rfl b28 dX4_worked_88 ?_
            refine ck_nmH (fun h29 eh29 => ?_)
            have hq := hq h29 eh29
            obtain ⟨v30, ev30⟩ : ∃ z : Int32, z = x3 + 1 := ⟨_, rfl⟩
            have hq := hq v30 ev30
            refine ck_iinc (v := v30) (lv' := [(3, .int v30), (5, .int v6), (0, .ref 47), (1, .int x1), (2, .ref 75), (4, .int x4)]) 4 dX4_worked_89 rfl (by rw [ev30]; rfl) (by decide) rfl ?_
            refine ck_goto (tgt := 187) dX4_worked_92 (by decide) ?_
            refine ck_loc [2, 3, 4, 0, 5] rfl ?_
            exact cp_X4_worked_187 hK193 hKc _ _ _ _ hq
        · have hq := hq.2 c10
          refine ck_aload_n 1 dX4_worked_49 rfl rfl ?_
          refine ck_getR clX4 4 rfl rfl (by decide) fl_X4_24 dX4_worked_50 ?_
          refine ck_iload_n 4 dX4_worked_53 rfl rfl ?_
          refine ck_aload_n 1 dX4_worked_54 rfl rfl ?_
          refine ck_getR clX4 1 rfl rfl (by decide) fl_X4_15 dX4_worked_55 ?_
          refine ck_iload 5 dX4_worked_58 rfl ?_
          obtain ⟨b31, hq⟩ := hq
          refine ck_iald rfl rfl b31 dX4_worked_60 ?_
          refine ck_i2l dX4_worked_61 ?_
          obtain ⟨b32, hq⟩ := hq
          refine ck_last rfl rfl b32 dX4_worked_62 ?_
          refine ck_nmH (fun h33 eh33 => ?_)
          have hq := hq h33 eh33
          obtain ⟨v34, ev34⟩ : ∃ z : Int32, z = x3 + 1 := ⟨_, rfl⟩
          have hq := hq v34 ev34
          refine ck_iinc (v := v34) (lv' := [(3, .int v34), (5, .int v6), (0, .ref 47), (1, .int x1), (2, .ref 75), (4, .int x4)]) 4 dX4_worked_63 rfl (by rw [ev34]; rfl) (by decide) rfl ?_
          refine ck_goto (tgt := 187) dX4_worked_66 (by decide) ?_
          refine ck_loc [2, 3, 4, 0, 5] rfl ?_
          exact cp_X4_worked_187 hK193 hKc _ _ _ _ hq
      · have hq := hq.2 c9
        refine ck_ldc2 con_X4_36 dX4_worked_39 ?_
        exact ck_lret rfl rfl rfl dX4_worked_42 ⟨_, rfl, rfl, hq⟩
set_option maxHeartbeats 4000000 in
set_option maxRecDepth 100000 in
theorem c_X4_worked {gr : Bool} {x1 : Int32} {h : ck_H} {Q : Int64 → ck_H → Prop} (hq : wp_X4_worked x1 h Q) : ck_M yX4_worked cX4_worked 8 (some .long) 4 0 0 gr ck_shX h [.ref 47, .int x1, .ref 75] (ck_Ql ck_shX Q) := by
  refine ck_entry (lv := [(0, .ref 47), (1, .int x1), (2, .ref 75)]) false (own := RX4) rfl (fun q => by cases q) (by decide) (Nat.le_of_ble_eq_true rfl) rfl ?_
  refine ck_iconst (v := 0) dX4_worked_0 (by decide) ?_
  refine ck_istore_n (lv' := [(3, .int (0 : Int32)), (0, .ref 47), (1, .int x1), (2, .ref 75)]) dX4_worked_1 rfl (by decide) rfl ?_
  refine ck_aload_n 1 dX4_worked_2 rfl rfl ?_
  refine ck_getR clX4 2 rfl rfl (by decide) fl_X4_18 dX4_worked_3 ?_
  refine ck_iload_n 2 dX4_worked_6 rfl rfl ?_
  obtain ⟨b1, hq⟩ := hq
  refine ck_iald rfl rfl b1 dX4_worked_7 ?_
  refine ck_nmI (fun v2 ev2 => ?_)
  have hq := hq v2 ev2
  refine ck_istore (lv' := [(4, .int v2), (3, .int (0 : Int32)), (0, .ref 47), (1, .int x1), (2, .ref 75)]) dX4_worked_8 (by decide) rfl ?_
  refine ck_loc [2, 3, 4, 1, 0] rfl ?_
  refine cp_X4_worked_10 (fun x36 h35 hq => ?_) lpN _ _ _ _ hq
  · refine ck_iload_n 1 dX4_worked_193 rfl rfl ?_
    refine ck_iconst (v := 1) dX4_worked_194 (by decide) ?_
    refine ck_icmp_ne (tgt := 207) dX4_worked_195 (by decide) (fun c37 => ?_) (fun c37 => ?_)
    · have hq := hq.1 c37
      refine ck_ldc2 con_X4_36 dX4_worked_207 ?_
      exact ck_lret rfl rfl rfl dX4_worked_210 ⟨_, rfl, rfl, hq⟩
    · have hq := hq.2 c37
      refine ck_aload_n 0 dX4_worked_198 rfl rfl ?_
      refine ck_getR clX4 4 rfl rfl (by decide) fl_X4_24 dX4_worked_199 ?_
      refine ck_iconst (v := 0) dX4_worked_202 (by decide) ?_
      refine ck_lald (j := 0) (by decide) rfl (ck_inL (by decide)) dX4_worked_203 ?_
      refine ck_goto (tgt := 210) dX4_worked_204 (by decide) ?_
      exact ck_lret rfl rfl rfl dX4_worked_210 ⟨_, rfl, rfl, hq⟩
