theorem dJ6_bitCount_0f7a4_0 : decode cJ6_bitCount_0f7a4 0 = .ok (.iload_n 0, 1) := by decide +kernel
theorem dJ6_bitCount_0f7a4_1 : decode cJ6_bitCount_0f7a4 1 = .ok (.iload_n 0, 1) := by decide +kernel
theorem dJ6_bitCount_0f7a4_2 : decode cJ6_bitCount_0f7a4 2 = .ok (.iconst 1, 1) := by decide +kernel
theorem dJ6_bitCount_0f7a4_3 : decode cJ6_bitCount_0f7a4 3 = .ok (.iushr, 1) := by decide +kernel
theorem dJ6_bitCount_0f7a4_4 : decode cJ6_bitCount_0f7a4 4 = .ok (.ldc_w 265, 3) := by decide +kernel
theorem dJ6_bitCount_0f7a4_7 : decode cJ6_bitCount_0f7a4 7 = .ok (.iand, 1) := by decide +kernel
theorem dJ6_bitCount_0f7a4_8 : decode cJ6_bitCount_0f7a4 8 = .ok (.isub, 1) := by decide +kernel
theorem dJ6_bitCount_0f7a4_9 : decode cJ6_bitCount_0f7a4 9 = .ok (.istore_n 0, 1) := by decide +kernel
theorem dJ6_bitCount_0f7a4_10 : decode cJ6_bitCount_0f7a4 10 = .ok (.iload_n 0, 1) := by decide +kernel
theorem dJ6_bitCount_0f7a4_11 : decode cJ6_bitCount_0f7a4 11 = .ok (.ldc_w 266, 3) := by decide +kernel
theorem dJ6_bitCount_0f7a4_14 : decode cJ6_bitCount_0f7a4 14 = .ok (.iand, 1) := by decide +kernel
theorem dJ6_bitCount_0f7a4_15 : decode cJ6_bitCount_0f7a4 15 = .ok (.iload_n 0, 1) := by decide +kernel
theorem dJ6_bitCount_0f7a4_16 : decode cJ6_bitCount_0f7a4 16 = .ok (.iconst 2, 1) := by decide +kernel
theorem dJ6_bitCount_0f7a4_17 : decode cJ6_bitCount_0f7a4 17 = .ok (.iushr, 1) := by decide +kernel
theorem dJ6_bitCount_0f7a4_18 : decode cJ6_bitCount_0f7a4 18 = .ok (.ldc_w 266, 3) := by decide +kernel
theorem dJ6_bitCount_0f7a4_21 : decode cJ6_bitCount_0f7a4 21 = .ok (.iand, 1) := by decide +kernel
theorem dJ6_bitCount_0f7a4_22 : decode cJ6_bitCount_0f7a4 22 = .ok (.iadd, 1) := by decide +kernel
theorem dJ6_bitCount_0f7a4_23 : decode cJ6_bitCount_0f7a4 23 = .ok (.istore_n 0, 1) := by decide +kernel
theorem dJ6_bitCount_0f7a4_24 : decode cJ6_bitCount_0f7a4 24 = .ok (.iload_n 0, 1) := by decide +kernel
theorem dJ6_bitCount_0f7a4_25 : decode cJ6_bitCount_0f7a4 25 = .ok (.iload_n 0, 1) := by decide +kernel
theorem dJ6_bitCount_0f7a4_26 : decode cJ6_bitCount_0f7a4 26 = .ok (.iconst 4, 1) := by decide +kernel
theorem dJ6_bitCount_0f7a4_27 : decode cJ6_bitCount_0f7a4 27 = .ok (.iushr, 1) := by decide +kernel
theorem dJ6_bitCount_0f7a4_28 : decode cJ6_bitCount_0f7a4 28 = .ok (.iadd, 1) := by decide +kernel
theorem dJ6_bitCount_0f7a4_29 : decode cJ6_bitCount_0f7a4 29 = .ok (.ldc_w 267, 3) := by decide +kernel
theorem dJ6_bitCount_0f7a4_32 : decode cJ6_bitCount_0f7a4 32 = .ok (.iand, 1) := by decide +kernel
theorem dJ6_bitCount_0f7a4_33 : decode cJ6_bitCount_0f7a4 33 = .ok (.istore_n 0, 1) := by decide +kernel
theorem dJ6_bitCount_0f7a4_34 : decode cJ6_bitCount_0f7a4 34 = .ok (.iload_n 0, 1) := by decide +kernel
theorem dJ6_bitCount_0f7a4_35 : decode cJ6_bitCount_0f7a4 35 = .ok (.iload_n 0, 1) := by decide +kernel
theorem dJ6_bitCount_0f7a4_36 : decode cJ6_bitCount_0f7a4 36 = .ok (.bipush 8, 2) := by decide +kernel
theorem dJ6_bitCount_0f7a4_38 : decode cJ6_bitCount_0f7a4 38 = .ok (.iushr, 1) := by decide +kernel
theorem dJ6_bitCount_0f7a4_39 : decode cJ6_bitCount_0f7a4 39 = .ok (.iadd, 1) := by decide +kernel
theorem dJ6_bitCount_0f7a4_40 : decode cJ6_bitCount_0f7a4 40 = .ok (.istore_n 0, 1) := by decide +kernel
theorem dJ6_bitCount_0f7a4_41 : decode cJ6_bitCount_0f7a4 41 = .ok (.iload_n 0, 1) := by decide +kernel
theorem dJ6_bitCount_0f7a4_42 : decode cJ6_bitCount_0f7a4 42 = .ok (.iload_n 0, 1) := by decide +kernel
theorem dJ6_bitCount_0f7a4_43 : decode cJ6_bitCount_0f7a4 43 = .ok (.bipush 16, 2) := by decide +kernel
theorem dJ6_bitCount_0f7a4_45 : decode cJ6_bitCount_0f7a4 45 = .ok (.iushr, 1) := by decide +kernel
theorem dJ6_bitCount_0f7a4_46 : decode cJ6_bitCount_0f7a4 46 = .ok (.iadd, 1) := by decide +kernel
theorem dJ6_bitCount_0f7a4_47 : decode cJ6_bitCount_0f7a4 47 = .ok (.istore_n 0, 1) := by decide +kernel
theorem dJ6_bitCount_0f7a4_48 : decode cJ6_bitCount_0f7a4 48 = .ok (.iload_n 0, 1) := by decide +kernel
theorem dJ6_bitCount_0f7a4_49 : decode cJ6_bitCount_0f7a4 49 = .ok (.bipush 63, 2) := by decide +kernel
theorem dJ6_bitCount_0f7a4_51 : decode cJ6_bitCount_0f7a4 51 = .ok (.iand, 1) := by decide +kernel
theorem dJ6_bitCount_0f7a4_52 : decode cJ6_bitCount_0f7a4 52 = .ok (.ireturn, 1) := by decide +kernel
theorem dX0_init_0 : decode cX0_init 0 = .ok (.aload_n 0, 1) := by decide +kernel
theorem dX0_init_1 : decode cX0_init 1 = .ok (.invokespecial 3, 3) := by decide +kernel
theorem dX0_init_4 : decode cX0_init 4 = .ok (.aload_n 0, 1) := by decide +kernel
theorem dX0_init_5 : decode cX0_init 5 = .ok (.bipush 10, 2) := by decide +kernel
theorem dX0_init_7 : decode cX0_init 7 = .ok (.newarray .int, 2) := by decide +kernel
theorem dX0_init_9 : decode cX0_init 9 = .ok (.putfield 9, 3) := by decide +kernel
theorem dX0_init_12 : decode cX0_init 12 = .ok (.aload_n 0, 1) := by decide +kernel
theorem dX0_init_13 : decode cX0_init 13 = .ok (.iconst 5, 1) := by decide +kernel
theorem dX0_init_14 : decode cX0_init 14 = .ok (.newarray .int, 2) := by decide +kernel
theorem dX0_init_16 : decode cX0_init 16 = .ok (.putfield 15, 3) := by decide +kernel
theorem dX0_init_19 : decode cX0_init 19 = .ok (.aload_n 0, 1) := by decide +kernel
theorem dX0_init_20 : decode cX0_init 20 = .ok (.iconst 5, 1) := by decide +kernel
theorem dX0_init_21 : decode cX0_init 21 = .ok (.newarray .int, 2) := by decide +kernel
theorem dX0_init_23 : decode cX0_init 23 = .ok (.putfield 18, 3) := by decide +kernel
theorem dX0_init_26 : decode cX0_init 26 = .ok (.aload_n 0, 1) := by decide +kernel
theorem dX0_init_27 : decode cX0_init 27 = .ok (.aload_n 1, 1) := by decide +kernel
theorem dX0_init_28 : decode cX0_init 28 = .ok (.putfield 21, 3) := by decide +kernel
theorem dX0_init_31 : decode cX0_init 31 = .ok (.aload_n 0, 1) := by decide +kernel
theorem dX0_init_32 : decode cX0_init 32 = .ok (.aload_n 2, 1) := by decide +kernel
theorem dX0_init_33 : decode cX0_init 33 = .ok (.putfield 25, 3) := by decide +kernel
theorem dX0_init_36 : decode cX0_init 36 = .ok (.aload_n 0, 1) := by decide +kernel
theorem dX0_init_37 : decode cX0_init 37 = .ok (.aload_n 3, 1) := by decide +kernel
theorem dX0_init_38 : decode cX0_init 38 = .ok (.putfield 29, 3) := by decide +kernel
theorem dX0_init_41 : decode cX0_init 41 = .ok (.return_, 1) := by decide +kernel
theorem dX0_think_0 : decode cX0_think 0 = .ok (.aload_n 0, 1) := by decide +kernel
theorem dX0_think_1 : decode cX0_think 1 = .ok (.getfield 21, 3) := by decide +kernel
theorem dX0_think_4 : decode cX0_think 4 = .ok (.invokevirtual 32, 3) := by decide +kernel
theorem dX0_think_7 : decode cX0_think 7 = .ok (.aload_n 0, 1) := by decide +kernel
theorem dX0_think_8 : decode cX0_think 8 = .ok (.getfield 29, 3) := by decide +kernel
theorem dX0_think_11 : decode cX0_think 11 = .ok (.aload_n 0, 1) := by decide +kernel
theorem dX0_think_12 : decode cX0_think 12 = .ok (.getfield 25, 3) := by decide +kernel
theorem dX0_think_15 : decode cX0_think 15 = .ok (.invokevirtual 37, 3) := by decide +kernel
theorem dX0_think_18 : decode cX0_think 18 = .ok (.return_, 1) := by decide +kernel
theorem dX0_thinkFromTextWith_0 : decode cX0_thinkFromTextWith 0 = .ok (.aload_n 0, 1) := by decide +kernel
theorem dX0_thinkFromTextWith_1 : decode cX0_thinkFromTextWith 1 = .ok (.getfield 21, 3) := by decide +kernel
theorem dX0_thinkFromTextWith_4 : decode cX0_thinkFromTextWith 4 = .ok (.invokevirtual 32, 3) := by decide +kernel
theorem dX0_thinkFromTextWith_7 : decode cX0_thinkFromTextWith 7 = .ok (.aload_n 0, 1) := by decide +kernel
theorem dX0_thinkFromTextWith_8 : decode cX0_thinkFromTextWith 8 = .ok (.getfield 21, 3) := by decide +kernel
theorem dX0_thinkFromTextWith_11 : decode cX0_thinkFromTextWith 11 = .ok (.iload_n 1, 1) := by decide +kernel
theorem dX0_thinkFromTextWith_12 : decode cX0_thinkFromTextWith 12 = .ok (.putfield 43, 3) := by decide +kernel
theorem dX0_thinkFromTextWith_15 : decode cX0_thinkFromTextWith 15 = .ok (.aload_n 0, 1) := by decide +kernel
theorem dX0_thinkFromTextWith_16 : decode cX0_thinkFromTextWith 16 = .ok (.getfield 29, 3) := by decide +kernel
theorem dX0_thinkFromTextWith_19 : decode cX0_thinkFromTextWith 19 = .ok (.aload_n 0, 1) := by decide +kernel
theorem dX0_thinkFromTextWith_20 : decode cX0_thinkFromTextWith 20 = .ok (.getfield 21, 3) := by decide +kernel
theorem dX0_thinkFromTextWith_23 : decode cX0_thinkFromTextWith 23 = .ok (.getfield 47, 3) := by decide +kernel
theorem dX0_thinkFromTextWith_26 : decode cX0_thinkFromTextWith 26 = .ok (.invokevirtual 51, 3) := by decide +kernel
theorem dX0_thinkFromTextWith_29 : decode cX0_thinkFromTextWith 29 = .ok (.aload_n 0, 1) := by decide +kernel
theorem dX0_thinkFromTextWith_30 : decode cX0_thinkFromTextWith 30 = .ok (.getfield 29, 3) := by decide +kernel
theorem dX0_thinkFromTextWith_33 : decode cX0_thinkFromTextWith 33 = .ok (.iload_n 1, 1) := by decide +kernel
theorem dX0_thinkFromTextWith_34 : decode cX0_thinkFromTextWith 34 = .ok (.putfield 55, 3) := by decide +kernel
theorem dX0_thinkFromTextWith_37 : decode cX0_thinkFromTextWith 37 = .ok (.return_, 1) := by decide +kernel
theorem dX0_gainMore_0 : decode cX0_gainMore 0 = .ok (.aload_n 0, 1) := by decide +kernel
theorem dX0_gainMore_1 : decode cX0_gainMore 1 = .ok (.getfield 21, 3) := by decide +kernel
theorem dX0_gainMore_4 : decode cX0_gainMore 4 = .ok (.aload_n 0, 1) := by decide +kernel
theorem dX0_gainMore_5 : decode cX0_gainMore 5 = .ok (.getfield 29, 3) := by decide +kernel
theorem dX0_gainMore_8 : decode cX0_gainMore 8 = .ok (.invokevirtual 58, 3) := by decide +kernel
theorem dX0_gainMore_11 : decode cX0_gainMore 11 = .ok (.aload_n 0, 1) := by decide +kernel
theorem dX0_gainMore_12 : decode cX0_gainMore 12 = .ok (.getfield 21, 3) := by decide +kernel
theorem dX0_gainMore_15 : decode cX0_gainMore 15 = .ok (.aload_n 0, 1) := by decide +kernel
theorem dX0_gainMore_16 : decode cX0_gainMore 16 = .ok (.getfield 25, 3) := by decide +kernel
theorem dX0_gainMore_19 : decode cX0_gainMore 19 = .ok (.invokevirtual 58, 3) := by decide +kernel
theorem dX0_gainMore_22 : decode cX0_gainMore 22 = .ok (.isub, 1) := by decide +kernel
theorem dX0_gainMore_23 : decode cX0_gainMore 23 = .ok (.ireturn, 1) := by decide +kernel
theorem dX0_seekDeal_0 : decode cX0_seekDeal 0 = .ok (.aload_n 0, 1) := by decide +kernel
theorem dX0_seekDeal_1 : decode cX0_seekDeal 1 = .ok (.getfield 21, 3) := by decide +kernel
theorem dX0_seekDeal_4 : decode cX0_seekDeal 4 = .ok (.getfield 47, 3) := by decide +kernel
theorem dX0_seekDeal_7 : decode cX0_seekDeal 7 = .ok (.getfield 62, 3) := by decide +kernel
theorem dX0_seekDeal_10 : decode cX0_seekDeal 10 = .ok (.getfield 68, 3) := by decide +kernel
theorem dX0_seekDeal_13 : decode cX0_seekDeal 13 = .ok (.istore_n 2, 1) := by decide +kernel
theorem dX0_seekDeal_14 : decode cX0_seekDeal 14 = .ok (.aload_n 0, 1) := by decide +kernel
theorem dX0_seekDeal_15 : decode cX0_seekDeal 15 = .ok (.iconst 0, 1) := by decide +kernel
theorem dX0_seekDeal_16 : decode cX0_seekDeal 16 = .ok (.putfield 73, 3) := by decide +kernel
theorem dX0_seekDeal_19 : decode cX0_seekDeal 19 = .ok (.iconst 0, 1) := by decide +kernel
theorem dX0_seekDeal_20 : decode cX0_seekDeal 20 = .ok (.istore_n 3, 1) := by decide +kernel
theorem dX0_seekDeal_21 : decode cX0_seekDeal 21 = .ok (.iload_n 3, 1) := by decide +kernel
theorem dX0_seekDeal_22 : decode cX0_seekDeal 22 = .ok (.aload_n 0, 1) := by decide +kernel
theorem dX0_seekDeal_23 : decode cX0_seekDeal 23 = .ok (.getfield 21, 3) := by decide +kernel
theorem dX0_seekDeal_26 : decode cX0_seekDeal 26 = .ok (.getfield 47, 3) := by decide +kernel
theorem dX0_seekDeal_29 : decode cX0_seekDeal 29 = .ok (.getfield 76, 3) := by decide +kernel
theorem dX0_seekDeal_32 : decode cX0_seekDeal 32 = .ok (.getfield 68, 3) := by decide +kernel
theorem dX0_seekDeal_35 : decode cX0_seekDeal 35 = .ok (.if_icmp .ge 60, 3) := by decide +kernel
theorem dX0_seekDeal_38 : decode cX0_seekDeal 38 = .ok (.aload_n 0, 1) := by decide +kernel
theorem dX0_seekDeal_39 : decode cX0_seekDeal 39 = .ok (.getfield 73, 3) := by decide +kernel
theorem dX0_seekDeal_42 : decode cX0_seekDeal 42 = .ok (.iconst 4, 1) := by decide +kernel
theorem dX0_seekDeal_43 : decode cX0_seekDeal 43 = .ok (.if_icmp .ge 52, 3) := by decide +kernel
theorem dX0_seekDeal_46 : decode cX0_seekDeal 46 = .ok (.aload_n 0, 1) := by decide +kernel
theorem dX0_seekDeal_47 : decode cX0_seekDeal 47 = .ok (.getfield 25, 3) := by decide +kernel
theorem dX0_seekDeal_50 : decode cX0_seekDeal 50 = .ok (.getfield 78, 3) := by decide +kernel
theorem dX0_seekDeal_53 : decode cX0_seekDeal 53 = .ok (.iload_n 3, 1) := by decide +kernel
theorem dX0_seekDeal_54 : decode cX0_seekDeal 54 = .ok (.iaload, 1) := by decide +kernel
theorem dX0_seekDeal_55 : decode cX0_seekDeal 55 = .ok (.iconst (-1), 1) := by decide +kernel
theorem dX0_seekDeal_56 : decode cX0_seekDeal 56 = .ok (.if_icmp .ne 33, 3) := by decide +kernel
theorem dX0_seekDeal_59 : decode cX0_seekDeal 59 = .ok (.aload_n 0, 1) := by decide +kernel
theorem dX0_seekDeal_60 : decode cX0_seekDeal 60 = .ok (.getfield 9, 3) := by decide +kernel
theorem dX0_seekDeal_63 : decode cX0_seekDeal 63 = .ok (.aload_n 0, 1) := by decide +kernel
theorem dX0_seekDeal_64 : decode cX0_seekDeal 64 = .ok (.getfield 73, 3) := by decide +kernel
theorem dX0_seekDeal_67 : decode cX0_seekDeal 67 = .ok (.iload_n 3, 1) := by decide +kernel
theorem dX0_seekDeal_68 : decode cX0_seekDeal 68 = .ok (.iastore, 1) := by decide +kernel
theorem dX0_seekDeal_69 : decode cX0_seekDeal 69 = .ok (.aload_n 0, 1) := by decide +kernel
theorem dX0_seekDeal_70 : decode cX0_seekDeal 70 = .ok (.getfield 15, 3) := by decide +kernel
theorem dX0_seekDeal_73 : decode cX0_seekDeal 73 = .ok (.aload_n 0, 1) := by decide +kernel
theorem dX0_seekDeal_74 : decode cX0_seekDeal 74 = .ok (.getfield 73, 3) := by decide +kernel
theorem dX0_seekDeal_77 : decode cX0_seekDeal 77 = .ok (.iconst 0, 1) := by decide +kernel
theorem dX0_seekDeal_78 : decode cX0_seekDeal 78 = .ok (.iastore, 1) := by decide +kernel
theorem dX0_seekDeal_79 : decode cX0_seekDeal 79 = .ok (.aload_n 0, 1) := by decide +kernel
theorem dX0_seekDeal_80 : decode cX0_seekDeal 80 = .ok (.dup, 1) := by decide +kernel
theorem dX0_seekDeal_81 : decode cX0_seekDeal 81 = .ok (.getfield 73, 3) := by decide +kernel
theorem dX0_seekDeal_84 : decode cX0_seekDeal 84 = .ok (.iconst 1, 1) := by decide +kernel
theorem dX0_seekDeal_85 : decode cX0_seekDeal 85 = .ok (.iadd, 1) := by decide +kernel
theorem dX0_seekDeal_86 : decode cX0_seekDeal 86 = .ok (.putfield 73, 3) := by decide +kernel
theorem dX0_seekDeal_89 : decode cX0_seekDeal 89 = .ok (.iinc 3 1, 3) := by decide +kernel
theorem dX0_seekDeal_92 : decode cX0_seekDeal 92 = .ok (.goto (-71), 3) := by decide +kernel
theorem dX0_seekDeal_95 : decode cX0_seekDeal 95 = .ok (.aload_n 0, 1) := by decide +kernel
theorem dX0_seekDeal_96 : decode cX0_seekDeal 96 = .ok (.iconst (-1), 1) := by decide +kernel
theorem dX0_seekDeal_97 : decode cX0_seekDeal 97 = .ok (.putfield 81, 3) := by decide +kernel
theorem dX0_seekDeal_100 : decode cX0_seekDeal 100 = .ok (.iconst 1, 1) := by decide +kernel
theorem dX0_seekDeal_101 : decode cX0_seekDeal 101 = .ok (.istore_n 3, 1) := by decide +kernel
theorem dX0_seekDeal_102 : decode cX0_seekDeal 102 = .ok (.iconst 0, 1) := by decide +kernel
theorem dX0_seekDeal_103 : decode cX0_seekDeal 103 = .ok (.istore 4, 2) := by decide +kernel
theorem dX0_seekDeal_105 : decode cX0_seekDeal 105 = .ok (.iload 4, 2) := by decide +kernel
theorem dX0_seekDeal_107 : decode cX0_seekDeal 107 = .ok (.sipush 256, 3) := by decide +kernel
theorem dX0_seekDeal_110 : decode cX0_seekDeal 110 = .ok (.if_icmp .ge 88, 3) := by decide +kernel
theorem dX0_seekDeal_113 : decode cX0_seekDeal 113 = .ok (.iload_n 3, 1) := by decide +kernel
theorem dX0_seekDeal_114 : decode cX0_seekDeal 114 = .ok (.ifCond .eq 84, 3) := by decide +kernel
theorem dX0_seekDeal_117 : decode cX0_seekDeal 117 = .ok (.aload_n 0, 1) := by decide +kernel
theorem dX0_seekDeal_118 : decode cX0_seekDeal 118 = .ok (.invokevirtual 84, 3) := by decide +kernel
theorem dX0_seekDeal_121 : decode cX0_seekDeal 121 = .ok (.iconst 0, 1) := by decide +kernel
theorem dX0_seekDeal_122 : decode cX0_seekDeal 122 = .ok (.istore 5, 2) := by decide +kernel
theorem dX0_seekDeal_124 : decode cX0_seekDeal 124 = .ok (.iload 5, 2) := by decide +kernel
theorem dX0_seekDeal_126 : decode cX0_seekDeal 126 = .ok (.aload_n 0, 1) := by decide +kernel
theorem dX0_seekDeal_127 : decode cX0_seekDeal 127 = .ok (.getfield 73, 3) := by decide +kernel
theorem dX0_seekDeal_130 : decode cX0_seekDeal 130 = .ok (.if_icmp .ge 31, 3) := by decide +kernel
theorem dX0_seekDeal_133 : decode cX0_seekDeal 133 = .ok (.aload_n 0, 1) := by decide +kernel
theorem dX0_seekDeal_134 : decode cX0_seekDeal 134 = .ok (.getfield 29, 3) := by decide +kernel
theorem dX0_seekDeal_137 : decode cX0_seekDeal 137 = .ok (.getfield 87, 3) := by decide +kernel
theorem dX0_seekDeal_140 : decode cX0_seekDeal 140 = .ok (.aload_n 0, 1) := by decide +kernel
theorem dX0_seekDeal_141 : decode cX0_seekDeal 141 = .ok (.getfield 9, 3) := by decide +kernel
theorem dX0_seekDeal_144 : decode cX0_seekDeal 144 = .ok (.iload 5, 2) := by decide +kernel
theorem dX0_seekDeal_146 : decode cX0_seekDeal 146 = .ok (.iaload, 1) := by decide +kernel
theorem dX0_seekDeal_147 : decode cX0_seekDeal 147 = .ok (.aload_n 0, 1) := by decide +kernel
theorem dX0_seekDeal_148 : decode cX0_seekDeal 148 = .ok (.getfield 15, 3) := by decide +kernel
theorem dX0_seekDeal_151 : decode cX0_seekDeal 151 = .ok (.iload 5, 2) := by decide +kernel
theorem dX0_seekDeal_153 : decode cX0_seekDeal 153 = .ok (.iaload, 1) := by decide +kernel
theorem dX0_seekDeal_154 : decode cX0_seekDeal 154 = .ok (.iastore, 1) := by decide +kernel
theorem dX0_seekDeal_155 : decode cX0_seekDeal 155 = .ok (.iinc 5 1, 3) := by decide +kernel
theorem dX0_seekDeal_158 : decode cX0_seekDeal 158 = .ok (.goto (-34), 3) := by decide +kernel
theorem dX0_seekDeal_161 : decode cX0_seekDeal 161 = .ok (.aload_n 0, 1) := by decide +kernel
theorem dX0_seekDeal_162 : decode cX0_seekDeal 162 = .ok (.getfield 21, 3) := by decide +kernel
theorem dX0_seekDeal_165 : decode cX0_seekDeal 165 = .ok (.aload_n 0, 1) := by decide +kernel
theorem dX0_seekDeal_166 : decode cX0_seekDeal 166 = .ok (.getfield 29, 3) := by decide +kernel
theorem dX0_seekDeal_169 : decode cX0_seekDeal 169 = .ok (.iload_n 1, 1) := by decide +kernel
theorem dX0_seekDeal_170 : decode cX0_seekDeal 170 = .ok (.invokevirtual 90, 3) := by decide +kernel
theorem dX0_seekDeal_173 : decode cX0_seekDeal 173 = .ok (.aload_n 0, 1) := by decide +kernel
theorem dX0_seekDeal_174 : decode cX0_seekDeal 174 = .ok (.invokevirtual 94, 3) := by decide +kernel
theorem dX0_seekDeal_177 : decode cX0_seekDeal 177 = .ok (.aload_n 0, 1) := by decide +kernel
theorem dX0_seekDeal_178 : decode cX0_seekDeal 178 = .ok (.iload_n 2, 1) := by decide +kernel
theorem dX0_seekDeal_179 : decode cX0_seekDeal 179 = .ok (.aload_n 0, 1) := by decide +kernel
theorem dX0_seekDeal_180 : decode cX0_seekDeal 180 = .ok (.getfield 25, 3) := by decide +kernel
theorem dX0_seekDeal_183 : decode cX0_seekDeal 183 = .ok (.getfield 97, 3) := by decide +kernel
theorem dX0_seekDeal_186 : decode cX0_seekDeal 186 = .ok (.iload_n 1, 1) := by decide +kernel
theorem dX0_seekDeal_187 : decode cX0_seekDeal 187 = .ok (.iadd, 1) := by decide +kernel
theorem dX0_seekDeal_188 : decode cX0_seekDeal 188 = .ok (.invokevirtual 100, 3) := by decide +kernel
theorem dX0_seekDeal_191 : decode cX0_seekDeal 191 = .ok (.istore_n 3, 1) := by decide +kernel
theorem dX0_seekDeal_192 : decode cX0_seekDeal 192 = .ok (.iinc 4 1, 3) := by decide +kernel
theorem dX0_seekDeal_195 : decode cX0_seekDeal 195 = .ok (.goto (-90), 3) := by decide +kernel
theorem dX0_seekDeal_198 : decode cX0_seekDeal 198 = .ok (.return_, 1) := by decide +kernel
theorem dX0_nextDeal_0 : decode cX0_nextDeal 0 = .ok (.aload_n 0, 1) := by decide +kernel
theorem dX0_nextDeal_1 : decode cX0_nextDeal 1 = .ok (.getfield 73, 3) := by decide +kernel
theorem dX0_nextDeal_4 : decode cX0_nextDeal 4 = .ok (.iconst 1, 1) := by decide +kernel
theorem dX0_nextDeal_5 : decode cX0_nextDeal 5 = .ok (.isub, 1) := by decide +kernel
theorem dX0_nextDeal_6 : decode cX0_nextDeal 6 = .ok (.istore_n 3, 1) := by decide +kernel
theorem dX0_nextDeal_7 : decode cX0_nextDeal 7 = .ok (.iload_n 3, 1) := by decide +kernel
theorem dX0_nextDeal_8 : decode cX0_nextDeal 8 = .ok (.ifCond .lt 56, 3) := by decide +kernel
theorem dX0_nextDeal_11 : decode cX0_nextDeal 11 = .ok (.aload_n 0, 1) := by decide +kernel
theorem dX0_nextDeal_12 : decode cX0_nextDeal 12 = .ok (.getfield 25, 3) := by decide +kernel
theorem dX0_nextDeal_15 : decode cX0_nextDeal 15 = .ok (.getfield 104, 3) := by decide +kernel
theorem dX0_nextDeal_18 : decode cX0_nextDeal 18 = .ok (.aload_n 0, 1) := by decide +kernel
theorem dX0_nextDeal_19 : decode cX0_nextDeal 19 = .ok (.getfield 9, 3) := by decide +kernel
theorem dX0_nextDeal_22 : decode cX0_nextDeal 22 = .ok (.iload_n 3, 1) := by decide +kernel
theorem dX0_nextDeal_23 : decode cX0_nextDeal 23 = .ok (.iaload, 1) := by decide +kernel
theorem dX0_nextDeal_24 : decode cX0_nextDeal 24 = .ok (.iaload, 1) := by decide +kernel
theorem dX0_nextDeal_25 : decode cX0_nextDeal 25 = .ok (.iload_n 2, 1) := by decide +kernel
theorem dX0_nextDeal_26 : decode cX0_nextDeal 26 = .ok (.if_icmp .ge 32, 3) := by decide +kernel
theorem dX0_nextDeal_29 : decode cX0_nextDeal 29 = .ok (.aload_n 0, 1) := by decide +kernel
theorem dX0_nextDeal_30 : decode cX0_nextDeal 30 = .ok (.getfield 15, 3) := by decide +kernel
theorem dX0_nextDeal_33 : decode cX0_nextDeal 33 = .ok (.iload_n 3, 1) := by decide +kernel
theorem dX0_nextDeal_34 : decode cX0_nextDeal 34 = .ok (.dup2, 1) := by decide +kernel
theorem dX0_nextDeal_35 : decode cX0_nextDeal 35 = .ok (.iaload, 1) := by decide +kernel
theorem dX0_nextDeal_36 : decode cX0_nextDeal 36 = .ok (.iconst 1, 1) := by decide +kernel
theorem dX0_nextDeal_37 : decode cX0_nextDeal 37 = .ok (.iadd, 1) := by decide +kernel
theorem dX0_nextDeal_38 : decode cX0_nextDeal 38 = .ok (.iastore, 1) := by decide +kernel
theorem dX0_nextDeal_39 : decode cX0_nextDeal 39 = .ok (.aload_n 0, 1) := by decide +kernel
theorem dX0_nextDeal_40 : decode cX0_nextDeal 40 = .ok (.getfield 15, 3) := by decide +kernel
theorem dX0_nextDeal_43 : decode cX0_nextDeal 43 = .ok (.iload_n 3, 1) := by decide +kernel
theorem dX0_nextDeal_44 : decode cX0_nextDeal 44 = .ok (.iaload, 1) := by decide +kernel
theorem dX0_nextDeal_45 : decode cX0_nextDeal 45 = .ok (.iload_n 1, 1) := by decide +kernel
theorem dX0_nextDeal_46 : decode cX0_nextDeal 46 = .ok (.if_icmp .ge 5, 3) := by decide +kernel
theorem dX0_nextDeal_49 : decode cX0_nextDeal 49 = .ok (.iconst 1, 1) := by decide +kernel
theorem dX0_nextDeal_50 : decode cX0_nextDeal 50 = .ok (.ireturn, 1) := by decide +kernel
theorem dX0_nextDeal_51 : decode cX0_nextDeal 51 = .ok (.aload_n 0, 1) := by decide +kernel
theorem dX0_nextDeal_52 : decode cX0_nextDeal 52 = .ok (.getfield 15, 3) := by decide +kernel
theorem dX0_nextDeal_55 : decode cX0_nextDeal 55 = .ok (.iload_n 3, 1) := by decide +kernel
theorem dX0_nextDeal_56 : decode cX0_nextDeal 56 = .ok (.iconst 0, 1) := by decide +kernel
theorem dX0_nextDeal_57 : decode cX0_nextDeal 57 = .ok (.iastore, 1) := by decide +kernel
theorem dX0_nextDeal_58 : decode cX0_nextDeal 58 = .ok (.iinc 3 (-1), 3) := by decide +kernel
theorem dX0_nextDeal_61 : decode cX0_nextDeal 61 = .ok (.goto (-54), 3) := by decide +kernel
theorem dX0_nextDeal_64 : decode cX0_nextDeal 64 = .ok (.iconst 0, 1) := by decide +kernel
theorem dX0_nextDeal_65 : decode cX0_nextDeal 65 = .ok (.ireturn, 1) := by decide +kernel
theorem dX0_keepIfBetter_0 : decode cX0_keepIfBetter 0 = .ok (.aload_n 0, 1) := by decide +kernel
theorem dX0_keepIfBetter_1 : decode cX0_keepIfBetter 1 = .ok (.invokevirtual 107, 3) := by decide +kernel
theorem dX0_keepIfBetter_4 : decode cX0_keepIfBetter 4 = .ok (.istore_n 1, 1) := by decide +kernel
theorem dX0_keepIfBetter_5 : decode cX0_keepIfBetter 5 = .ok (.iload_n 1, 1) := by decide +kernel
theorem dX0_keepIfBetter_6 : decode cX0_keepIfBetter 6 = .ok (.aload_n 0, 1) := by decide +kernel
theorem dX0_keepIfBetter_7 : decode cX0_keepIfBetter 7 = .ok (.getfield 81, 3) := by decide +kernel
theorem dX0_keepIfBetter_10 : decode cX0_keepIfBetter 10 = .ok (.if_icmp .le 25, 3) := by decide +kernel
theorem dX0_keepIfBetter_13 : decode cX0_keepIfBetter 13 = .ok (.aload_n 0, 1) := by decide +kernel
theorem dX0_keepIfBetter_14 : decode cX0_keepIfBetter 14 = .ok (.iload_n 1, 1) := by decide +kernel
theorem dX0_keepIfBetter_15 : decode cX0_keepIfBetter 15 = .ok (.putfield 81, 3) := by decide +kernel
theorem dX0_keepIfBetter_18 : decode cX0_keepIfBetter 18 = .ok (.aload_n 0, 1) := by decide +kernel
theorem dX0_keepIfBetter_19 : decode cX0_keepIfBetter 19 = .ok (.getfield 15, 3) := by decide +kernel
theorem dX0_keepIfBetter_22 : decode cX0_keepIfBetter 22 = .ok (.iconst 0, 1) := by decide +kernel
theorem dX0_keepIfBetter_23 : decode cX0_keepIfBetter 23 = .ok (.aload_n 0, 1) := by decide +kernel
theorem dX0_keepIfBetter_24 : decode cX0_keepIfBetter 24 = .ok (.getfield 18, 3) := by decide +kernel
theorem dX0_keepIfBetter_27 : decode cX0_keepIfBetter 27 = .ok (.iconst 0, 1) := by decide +kernel
theorem dX0_keepIfBetter_28 : decode cX0_keepIfBetter 28 = .ok (.aload_n 0, 1) := by decide +kernel
theorem dX0_keepIfBetter_29 : decode cX0_keepIfBetter 29 = .ok (.getfield 73, 3) := by decide +kernel
theorem dX0_keepIfBetter_32 : decode cX0_keepIfBetter 32 = .ok (.invokestatic 111, 3) := by decide +kernel
theorem dX0_keepIfBetter_35 : decode cX0_keepIfBetter 35 = .ok (.return_, 1) := by decide +kernel
theorem dX0_seekOrder_0 : decode cX0_seekOrder 0 = .ok (.aload_n 0, 1) := by decide +kernel
theorem dX0_seekOrder_1 : decode cX0_seekOrder 1 = .ok (.iconst 0, 1) := by decide +kernel
theorem dX0_seekOrder_2 : decode cX0_seekOrder 2 = .ok (.putfield 73, 3) := by decide +kernel
theorem dX0_seekOrder_5 : decode cX0_seekOrder 5 = .ok (.iconst 0, 1) := by decide +kernel
theorem dX0_seekOrder_6 : decode cX0_seekOrder 6 = .ok (.istore_n 1, 1) := by decide +kernel
theorem dX0_seekOrder_7 : decode cX0_seekOrder 7 = .ok (.iload_n 1, 1) := by decide +kernel
theorem dX0_seekOrder_8 : decode cX0_seekOrder 8 = .ok (.aload_n 0, 1) := by decide +kernel
theorem dX0_seekOrder_9 : decode cX0_seekOrder 9 = .ok (.getfield 21, 3) := by decide +kernel
theorem dX0_seekOrder_12 : decode cX0_seekOrder 12 = .ok (.getfield 47, 3) := by decide +kernel
theorem dX0_seekOrder_15 : decode cX0_seekOrder 15 = .ok (.getfield 76, 3) := by decide +kernel
theorem dX0_seekOrder_18 : decode cX0_seekOrder 18 = .ok (.getfield 68, 3) := by decide +kernel
theorem dX0_seekOrder_21 : decode cX0_seekOrder 21 = .ok (.if_icmp .ge 69, 3) := by decide +kernel
theorem dX0_seekOrder_24 : decode cX0_seekOrder 24 = .ok (.aload_n 0, 1) := by decide +kernel
theorem dX0_seekOrder_25 : decode cX0_seekOrder 25 = .ok (.getfield 73, 3) := by decide +kernel
theorem dX0_seekOrder_28 : decode cX0_seekOrder 28 = .ok (.iconst 5, 1) := by decide +kernel
theorem dX0_seekOrder_29 : decode cX0_seekOrder 29 = .ok (.if_icmp .ge 61, 3) := by decide +kernel
theorem dX0_seekOrder_32 : decode cX0_seekOrder 32 = .ok (.aload_n 0, 1) := by decide +kernel
theorem dX0_seekOrder_33 : decode cX0_seekOrder 33 = .ok (.getfield 25, 3) := by decide +kernel
theorem dX0_seekOrder_36 : decode cX0_seekOrder 36 = .ok (.getfield 78, 3) := by decide +kernel
theorem dX0_seekOrder_39 : decode cX0_seekOrder 39 = .ok (.iload_n 1, 1) := by decide +kernel
theorem dX0_seekOrder_40 : decode cX0_seekOrder 40 = .ok (.iaload, 1) := by decide +kernel
theorem dX0_seekOrder_41 : decode cX0_seekOrder 41 = .ok (.iconst (-1), 1) := by decide +kernel
theorem dX0_seekOrder_42 : decode cX0_seekOrder 42 = .ok (.if_icmp .ne 42, 3) := by decide +kernel
theorem dX0_seekOrder_45 : decode cX0_seekOrder 45 = .ok (.aload_n 0, 1) := by decide +kernel
theorem dX0_seekOrder_46 : decode cX0_seekOrder 46 = .ok (.getfield 25, 3) := by decide +kernel
theorem dX0_seekOrder_49 : decode cX0_seekOrder 49 = .ok (.getfield 104, 3) := by decide +kernel
theorem dX0_seekOrder_52 : decode cX0_seekOrder 52 = .ok (.iload_n 1, 1) := by decide +kernel
theorem dX0_seekOrder_53 : decode cX0_seekOrder 53 = .ok (.iaload, 1) := by decide +kernel
theorem dX0_seekOrder_54 : decode cX0_seekOrder 54 = .ok (.aload_n 0, 1) := by decide +kernel
theorem dX0_seekOrder_55 : decode cX0_seekOrder 55 = .ok (.getfield 25, 3) := by decide +kernel
theorem dX0_seekOrder_58 : decode cX0_seekOrder 58 = .ok (.getfield 97, 3) := by decide +kernel
theorem dX0_seekOrder_61 : decode cX0_seekOrder 61 = .ok (.if_icmp .ne 23, 3) := by decide +kernel
theorem dX0_seekOrder_64 : decode cX0_seekOrder 64 = .ok (.aload_n 0, 1) := by decide +kernel
theorem dX0_seekOrder_65 : decode cX0_seekOrder 65 = .ok (.getfield 15, 3) := by decide +kernel
theorem dX0_seekOrder_68 : decode cX0_seekOrder 68 = .ok (.aload_n 0, 1) := by decide +kernel
theorem dX0_seekOrder_69 : decode cX0_seekOrder 69 = .ok (.getfield 73, 3) := by decide +kernel
theorem dX0_seekOrder_72 : decode cX0_seekOrder 72 = .ok (.iload_n 1, 1) := by decide +kernel
theorem dX0_seekOrder_73 : decode cX0_seekOrder 73 = .ok (.iastore, 1) := by decide +kernel
theorem dX0_seekOrder_74 : decode cX0_seekOrder 74 = .ok (.aload_n 0, 1) := by decide +kernel
theorem dX0_seekOrder_75 : decode cX0_seekOrder 75 = .ok (.dup, 1) := by decide +kernel
theorem dX0_seekOrder_76 : decode cX0_seekOrder 76 = .ok (.getfield 73, 3) := by decide +kernel
theorem dX0_seekOrder_79 : decode cX0_seekOrder 79 = .ok (.iconst 1, 1) := by decide +kernel
theorem dX0_seekOrder_80 : decode cX0_seekOrder 80 = .ok (.iadd, 1) := by decide +kernel
theorem dX0_seekOrder_81 : decode cX0_seekOrder 81 = .ok (.putfield 73, 3) := by decide +kernel
theorem dX0_seekOrder_84 : decode cX0_seekOrder 84 = .ok (.iinc 1 1, 3) := by decide +kernel
theorem dX0_seekOrder_87 : decode cX0_seekOrder 87 = .ok (.goto (-80), 3) := by decide +kernel
theorem dX0_seekOrder_90 : decode cX0_seekOrder 90 = .ok (.aload_n 0, 1) := by decide +kernel
theorem dX0_seekOrder_91 : decode cX0_seekOrder 91 = .ok (.iconst (-1), 1) := by decide +kernel
theorem dX0_seekOrder_92 : decode cX0_seekOrder 92 = .ok (.putfield 81, 3) := by decide +kernel
theorem dX0_seekOrder_95 : decode cX0_seekOrder 95 = .ok (.iconst 1, 1) := by decide +kernel
theorem dX0_seekOrder_96 : decode cX0_seekOrder 96 = .ok (.istore_n 1, 1) := by decide +kernel
theorem dX0_seekOrder_97 : decode cX0_seekOrder 97 = .ok (.iconst 0, 1) := by decide +kernel
theorem dX0_seekOrder_98 : decode cX0_seekOrder 98 = .ok (.istore_n 2, 1) := by decide +kernel
theorem dX0_seekOrder_99 : decode cX0_seekOrder 99 = .ok (.iload_n 2, 1) := by decide +kernel
theorem dX0_seekOrder_100 : decode cX0_seekOrder 100 = .ok (.bipush 120, 2) := by decide +kernel
theorem dX0_seekOrder_102 : decode cX0_seekOrder 102 = .ok (.if_icmp .ge 128, 3) := by decide +kernel
theorem dX0_seekOrder_105 : decode cX0_seekOrder 105 = .ok (.iload_n 1, 1) := by decide +kernel
theorem dX0_seekOrder_106 : decode cX0_seekOrder 106 = .ok (.ifCond .eq 124, 3) := by decide +kernel
theorem dX0_seekOrder_109 : decode cX0_seekOrder 109 = .ok (.aload_n 0, 1) := by decide +kernel
theorem dX0_seekOrder_110 : decode cX0_seekOrder 110 = .ok (.invokevirtual 84, 3) := by decide +kernel
theorem dX0_seekOrder_113 : decode cX0_seekOrder 113 = .ok (.iconst 0, 1) := by decide +kernel
theorem dX0_seekOrder_114 : decode cX0_seekOrder 114 = .ok (.istore_n 3, 1) := by decide +kernel
theorem dX0_seekOrder_115 : decode cX0_seekOrder 115 = .ok (.iload_n 3, 1) := by decide +kernel
theorem dX0_seekOrder_116 : decode cX0_seekOrder 116 = .ok (.aload_n 0, 1) := by decide +kernel
theorem dX0_seekOrder_117 : decode cX0_seekOrder 117 = .ok (.getfield 73, 3) := by decide +kernel
theorem dX0_seekOrder_120 : decode cX0_seekOrder 120 = .ok (.if_icmp .ge 26, 3) := by decide +kernel
theorem dX0_seekOrder_123 : decode cX0_seekOrder 123 = .ok (.aload_n 0, 1) := by decide +kernel
theorem dX0_seekOrder_124 : decode cX0_seekOrder 124 = .ok (.getfield 21, 3) := by decide +kernel
theorem dX0_seekOrder_127 : decode cX0_seekOrder 127 = .ok (.aload_n 0, 1) := by decide +kernel
theorem dX0_seekOrder_128 : decode cX0_seekOrder 128 = .ok (.getfield 29, 3) := by decide +kernel
theorem dX0_seekOrder_131 : decode cX0_seekOrder 131 = .ok (.aload_n 0, 1) := by decide +kernel
theorem dX0_seekOrder_132 : decode cX0_seekOrder 132 = .ok (.getfield 15, 3) := by decide +kernel
theorem dX0_seekOrder_135 : decode cX0_seekOrder 135 = .ok (.iload_n 3, 1) := by decide +kernel
theorem dX0_seekOrder_136 : decode cX0_seekOrder 136 = .ok (.iaload, 1) := by decide +kernel
theorem dX0_seekOrder_137 : decode cX0_seekOrder 137 = .ok (.invokevirtual 117, 3) := by decide +kernel
theorem dX0_seekOrder_140 : decode cX0_seekOrder 140 = .ok (.iinc 3 1, 3) := by decide +kernel
theorem dX0_seekOrder_143 : decode cX0_seekOrder 143 = .ok (.goto (-28), 3) := by decide +kernel
theorem dX0_seekOrder_146 : decode cX0_seekOrder 146 = .ok (.iconst 0, 1) := by decide +kernel
theorem dX0_seekOrder_147 : decode cX0_seekOrder 147 = .ok (.istore_n 3, 1) := by decide +kernel
theorem dX0_seekOrder_148 : decode cX0_seekOrder 148 = .ok (.iload_n 3, 1) := by decide +kernel
theorem dX0_seekOrder_149 : decode cX0_seekOrder 149 = .ok (.aload_n 0, 1) := by decide +kernel
theorem dX0_seekOrder_150 : decode cX0_seekOrder 150 = .ok (.getfield 21, 3) := by decide +kernel
theorem dX0_seekOrder_153 : decode cX0_seekOrder 153 = .ok (.getfield 47, 3) := by decide +kernel
theorem dX0_seekOrder_156 : decode cX0_seekOrder 156 = .ok (.getfield 76, 3) := by decide +kernel
theorem dX0_seekOrder_159 : decode cX0_seekOrder 159 = .ok (.getfield 68, 3) := by decide +kernel
theorem dX0_seekOrder_162 : decode cX0_seekOrder 162 = .ok (.if_icmp .ge 53, 3) := by decide +kernel
theorem dX0_seekOrder_165 : decode cX0_seekOrder 165 = .ok (.aload_n 0, 1) := by decide +kernel
theorem dX0_seekOrder_166 : decode cX0_seekOrder 166 = .ok (.getfield 29, 3) := by decide +kernel
theorem dX0_seekOrder_169 : decode cX0_seekOrder 169 = .ok (.getfield 78, 3) := by decide +kernel
theorem dX0_seekOrder_172 : decode cX0_seekOrder 172 = .ok (.iload_n 3, 1) := by decide +kernel
theorem dX0_seekOrder_173 : decode cX0_seekOrder 173 = .ok (.iaload, 1) := by decide +kernel
theorem dX0_seekOrder_174 : decode cX0_seekOrder 174 = .ok (.iconst (-1), 1) := by decide +kernel
theorem dX0_seekOrder_175 : decode cX0_seekOrder 175 = .ok (.if_icmp .ne 34, 3) := by decide +kernel
theorem dX0_seekOrder_178 : decode cX0_seekOrder 178 = .ok (.aload_n 0, 1) := by decide +kernel
theorem dX0_seekOrder_179 : decode cX0_seekOrder 179 = .ok (.getfield 29, 3) := by decide +kernel
theorem dX0_seekOrder_182 : decode cX0_seekOrder 182 = .ok (.getfield 104, 3) := by decide +kernel
theorem dX0_seekOrder_185 : decode cX0_seekOrder 185 = .ok (.iload_n 3, 1) := by decide +kernel
theorem dX0_seekOrder_186 : decode cX0_seekOrder 186 = .ok (.iaload, 1) := by decide +kernel
theorem dX0_seekOrder_187 : decode cX0_seekOrder 187 = .ok (.aload_n 0, 1) := by decide +kernel
theorem dX0_seekOrder_188 : decode cX0_seekOrder 188 = .ok (.getfield 25, 3) := by decide +kernel
theorem dX0_seekOrder_191 : decode cX0_seekOrder 191 = .ok (.getfield 97, 3) := by decide +kernel
theorem dX0_seekOrder_194 : decode cX0_seekOrder 194 = .ok (.if_icmp .ne 15, 3) := by decide +kernel
theorem dX0_seekOrder_197 : decode cX0_seekOrder 197 = .ok (.aload_n 0, 1) := by decide +kernel
theorem dX0_seekOrder_198 : decode cX0_seekOrder 198 = .ok (.getfield 21, 3) := by decide +kernel
theorem dX0_seekOrder_201 : decode cX0_seekOrder 201 = .ok (.aload_n 0, 1) := by decide +kernel
theorem dX0_seekOrder_202 : decode cX0_seekOrder 202 = .ok (.getfield 29, 3) := by decide +kernel
theorem dX0_seekOrder_205 : decode cX0_seekOrder 205 = .ok (.iload_n 3, 1) := by decide +kernel
theorem dX0_seekOrder_206 : decode cX0_seekOrder 206 = .ok (.invokevirtual 117, 3) := by decide +kernel
theorem dX0_seekOrder_209 : decode cX0_seekOrder 209 = .ok (.iinc 3 1, 3) := by decide +kernel
theorem dX0_seekOrder_212 : decode cX0_seekOrder 212 = .ok (.goto (-64), 3) := by decide +kernel
theorem dX0_seekOrder_215 : decode cX0_seekOrder 215 = .ok (.aload_n 0, 1) := by decide +kernel
theorem dX0_seekOrder_216 : decode cX0_seekOrder 216 = .ok (.invokevirtual 94, 3) := by decide +kernel
theorem dX0_seekOrder_219 : decode cX0_seekOrder 219 = .ok (.aload_n 0, 1) := by decide +kernel
theorem dX0_seekOrder_220 : decode cX0_seekOrder 220 = .ok (.invokevirtual 120, 3) := by decide +kernel
theorem dX0_seekOrder_223 : decode cX0_seekOrder 223 = .ok (.istore_n 1, 1) := by decide +kernel
theorem dX0_seekOrder_224 : decode cX0_seekOrder 224 = .ok (.iinc 2 1, 3) := by decide +kernel
theorem dX0_seekOrder_227 : decode cX0_seekOrder 227 = .ok (.goto (-128), 3) := by decide +kernel
theorem dX0_seekOrder_230 : decode cX0_seekOrder 230 = .ok (.return_, 1) := by decide +kernel
theorem dX0_nextOrder_0 : decode cX0_nextOrder 0 = .ok (.aload_n 0, 1) := by decide +kernel
theorem dX0_nextOrder_1 : decode cX0_nextOrder 1 = .ok (.getfield 73, 3) := by decide +kernel
theorem dX0_nextOrder_4 : decode cX0_nextOrder 4 = .ok (.iconst 2, 1) := by decide +kernel
theorem dX0_nextOrder_5 : decode cX0_nextOrder 5 = .ok (.isub, 1) := by decide +kernel
theorem dX0_nextOrder_6 : decode cX0_nextOrder 6 = .ok (.istore_n 1, 1) := by decide +kernel
theorem dX0_nextOrder_7 : decode cX0_nextOrder 7 = .ok (.iload_n 1, 1) := by decide +kernel
theorem dX0_nextOrder_8 : decode cX0_nextOrder 8 = .ok (.ifCond .lt 26, 3) := by decide +kernel
theorem dX0_nextOrder_11 : decode cX0_nextOrder 11 = .ok (.aload_n 0, 1) := by decide +kernel
theorem dX0_nextOrder_12 : decode cX0_nextOrder 12 = .ok (.getfield 15, 3) := by decide +kernel
theorem dX0_nextOrder_15 : decode cX0_nextOrder 15 = .ok (.iload_n 1, 1) := by decide +kernel
theorem dX0_nextOrder_16 : decode cX0_nextOrder 16 = .ok (.iaload, 1) := by decide +kernel
theorem dX0_nextOrder_17 : decode cX0_nextOrder 17 = .ok (.aload_n 0, 1) := by decide +kernel
theorem dX0_nextOrder_18 : decode cX0_nextOrder 18 = .ok (.getfield 15, 3) := by decide +kernel
theorem dX0_nextOrder_21 : decode cX0_nextOrder 21 = .ok (.iload_n 1, 1) := by decide +kernel
theorem dX0_nextOrder_22 : decode cX0_nextOrder 22 = .ok (.iconst 1, 1) := by decide +kernel
theorem dX0_nextOrder_23 : decode cX0_nextOrder 23 = .ok (.iadd, 1) := by decide +kernel
theorem dX0_nextOrder_24 : decode cX0_nextOrder 24 = .ok (.iaload, 1) := by decide +kernel
theorem dX0_nextOrder_25 : decode cX0_nextOrder 25 = .ok (.if_icmp .le 9, 3) := by decide +kernel
theorem dX0_nextOrder_28 : decode cX0_nextOrder 28 = .ok (.iinc 1 (-1), 3) := by decide +kernel
theorem dX0_nextOrder_31 : decode cX0_nextOrder 31 = .ok (.goto (-24), 3) := by decide +kernel
theorem dX0_nextOrder_34 : decode cX0_nextOrder 34 = .ok (.iload_n 1, 1) := by decide +kernel
theorem dX0_nextOrder_35 : decode cX0_nextOrder 35 = .ok (.ifCond .ge 5, 3) := by decide +kernel
theorem dX0_nextOrder_38 : decode cX0_nextOrder 38 = .ok (.iconst 0, 1) := by decide +kernel
theorem dX0_nextOrder_39 : decode cX0_nextOrder 39 = .ok (.ireturn, 1) := by decide +kernel
theorem dX0_nextOrder_40 : decode cX0_nextOrder 40 = .ok (.aload_n 0, 1) := by decide +kernel
theorem dX0_nextOrder_41 : decode cX0_nextOrder 41 = .ok (.getfield 73, 3) := by decide +kernel
theorem dX0_nextOrder_44 : decode cX0_nextOrder 44 = .ok (.iconst 1, 1) := by decide +kernel
theorem dX0_nextOrder_45 : decode cX0_nextOrder 45 = .ok (.isub, 1) := by decide +kernel
theorem dX0_nextOrder_46 : decode cX0_nextOrder 46 = .ok (.istore_n 2, 1) := by decide +kernel
theorem dX0_nextOrder_47 : decode cX0_nextOrder 47 = .ok (.iload_n 2, 1) := by decide +kernel
theorem dX0_nextOrder_48 : decode cX0_nextOrder 48 = .ok (.iload_n 1, 1) := by decide +kernel
theorem dX0_nextOrder_49 : decode cX0_nextOrder 49 = .ok (.iconst 1, 1) := by decide +kernel
theorem dX0_nextOrder_50 : decode cX0_nextOrder 50 = .ok (.iadd, 1) := by decide +kernel
theorem dX0_nextOrder_51 : decode cX0_nextOrder 51 = .ok (.if_icmp .le 24, 3) := by decide +kernel
theorem dX0_nextOrder_54 : decode cX0_nextOrder 54 = .ok (.aload_n 0, 1) := by decide +kernel
theorem dX0_nextOrder_55 : decode cX0_nextOrder 55 = .ok (.getfield 15, 3) := by decide +kernel
theorem dX0_nextOrder_58 : decode cX0_nextOrder 58 = .ok (.iload_n 2, 1) := by decide +kernel
theorem dX0_nextOrder_59 : decode cX0_nextOrder 59 = .ok (.iaload, 1) := by decide +kernel
theorem dX0_nextOrder_60 : decode cX0_nextOrder 60 = .ok (.aload_n 0, 1) := by decide +kernel
theorem dX0_nextOrder_61 : decode cX0_nextOrder 61 = .ok (.getfield 15, 3) := by decide +kernel
theorem dX0_nextOrder_64 : decode cX0_nextOrder 64 = .ok (.iload_n 1, 1) := by decide +kernel
theorem dX0_nextOrder_65 : decode cX0_nextOrder 65 = .ok (.iaload, 1) := by decide +kernel
theorem dX0_nextOrder_66 : decode cX0_nextOrder 66 = .ok (.if_icmp .ge 9, 3) := by decide +kernel
theorem dX0_nextOrder_69 : decode cX0_nextOrder 69 = .ok (.iinc 2 (-1), 3) := by decide +kernel
theorem dX0_nextOrder_72 : decode cX0_nextOrder 72 = .ok (.goto (-25), 3) := by decide +kernel
theorem dX0_nextOrder_75 : decode cX0_nextOrder 75 = .ok (.aload_n 0, 1) := by decide +kernel
theorem dX0_nextOrder_76 : decode cX0_nextOrder 76 = .ok (.iload_n 1, 1) := by decide +kernel
theorem dX0_nextOrder_77 : decode cX0_nextOrder 77 = .ok (.iload_n 2, 1) := by decide +kernel
theorem dX0_nextOrder_78 : decode cX0_nextOrder 78 = .ok (.invokevirtual 124, 3) := by decide +kernel
theorem dX0_nextOrder_81 : decode cX0_nextOrder 81 = .ok (.iload_n 1, 1) := by decide +kernel
theorem dX0_nextOrder_82 : decode cX0_nextOrder 82 = .ok (.iconst 1, 1) := by decide +kernel
theorem dX0_nextOrder_83 : decode cX0_nextOrder 83 = .ok (.iadd, 1) := by decide +kernel
theorem dX0_nextOrder_84 : decode cX0_nextOrder 84 = .ok (.istore_n 3, 1) := by decide +kernel
theorem dX0_nextOrder_85 : decode cX0_nextOrder 85 = .ok (.aload_n 0, 1) := by decide +kernel
theorem dX0_nextOrder_86 : decode cX0_nextOrder 86 = .ok (.getfield 73, 3) := by decide +kernel
theorem dX0_nextOrder_89 : decode cX0_nextOrder 89 = .ok (.iconst 1, 1) := by decide +kernel
theorem dX0_nextOrder_90 : decode cX0_nextOrder 90 = .ok (.isub, 1) := by decide +kernel
theorem dX0_nextOrder_91 : decode cX0_nextOrder 91 = .ok (.istore 4, 2) := by decide +kernel
theorem dX0_nextOrder_93 : decode cX0_nextOrder 93 = .ok (.iload_n 3, 1) := by decide +kernel
theorem dX0_nextOrder_94 : decode cX0_nextOrder 94 = .ok (.iload 4, 2) := by decide +kernel
theorem dX0_nextOrder_96 : decode cX0_nextOrder 96 = .ok (.if_icmp .ge 19, 3) := by decide +kernel
theorem dX0_nextOrder_99 : decode cX0_nextOrder 99 = .ok (.aload_n 0, 1) := by decide +kernel
theorem dX0_nextOrder_100 : decode cX0_nextOrder 100 = .ok (.iload_n 3, 1) := by decide +kernel
theorem dX0_nextOrder_101 : decode cX0_nextOrder 101 = .ok (.iload 4, 2) := by decide +kernel
theorem dX0_nextOrder_103 : decode cX0_nextOrder 103 = .ok (.invokevirtual 124, 3) := by decide +kernel
theorem dX0_nextOrder_106 : decode cX0_nextOrder 106 = .ok (.iinc 3 1, 3) := by decide +kernel
theorem dX0_nextOrder_109 : decode cX0_nextOrder 109 = .ok (.iinc 4 (-1), 3) := by decide +kernel
theorem dX0_nextOrder_112 : decode cX0_nextOrder 112 = .ok (.goto (-19), 3) := by decide +kernel
theorem dX0_nextOrder_115 : decode cX0_nextOrder 115 = .ok (.iconst 1, 1) := by decide +kernel
theorem dX0_nextOrder_116 : decode cX0_nextOrder 116 = .ok (.ireturn, 1) := by decide +kernel
theorem dX0_swap_0 : decode cX0_swap 0 = .ok (.aload_n 0, 1) := by decide +kernel
theorem dX0_swap_1 : decode cX0_swap 1 = .ok (.getfield 15, 3) := by decide +kernel
theorem dX0_swap_4 : decode cX0_swap 4 = .ok (.iload_n 1, 1) := by decide +kernel
theorem dX0_swap_5 : decode cX0_swap 5 = .ok (.iaload, 1) := by decide +kernel
theorem dX0_swap_6 : decode cX0_swap 6 = .ok (.istore_n 3, 1) := by decide +kernel
theorem dX0_swap_7 : decode cX0_swap 7 = .ok (.aload_n 0, 1) := by decide +kernel
theorem dX0_swap_8 : decode cX0_swap 8 = .ok (.getfield 15, 3) := by decide +kernel
theorem dX0_swap_11 : decode cX0_swap 11 = .ok (.iload_n 1, 1) := by decide +kernel
theorem dX0_swap_12 : decode cX0_swap 12 = .ok (.aload_n 0, 1) := by decide +kernel
theorem dX0_swap_13 : decode cX0_swap 13 = .ok (.getfield 15, 3) := by decide +kernel
theorem dX0_swap_16 : decode cX0_swap 16 = .ok (.iload_n 2, 1) := by decide +kernel
theorem dX0_swap_17 : decode cX0_swap 17 = .ok (.iaload, 1) := by decide +kernel
theorem dX0_swap_18 : decode cX0_swap 18 = .ok (.iastore, 1) := by decide +kernel
theorem dX0_swap_19 : decode cX0_swap 19 = .ok (.aload_n 0, 1) := by decide +kernel
theorem dX0_swap_20 : decode cX0_swap 20 = .ok (.getfield 15, 3) := by decide +kernel
theorem dX0_swap_23 : decode cX0_swap 23 = .ok (.iload_n 2, 1) := by decide +kernel
theorem dX0_swap_24 : decode cX0_swap 24 = .ok (.iload_n 3, 1) := by decide +kernel
theorem dX0_swap_25 : decode cX0_swap 25 = .ok (.iastore, 1) := by decide +kernel
theorem dX0_swap_26 : decode cX0_swap 26 = .ok (.return_, 1) := by decide +kernel
theorem dX0_fewestStones_0 : decode cX0_fewestStones 0 = .ok (.iconst 0, 1) := by decide +kernel
theorem dX0_fewestStones_1 : decode cX0_fewestStones 1 = .ok (.istore_n 3, 1) := by decide +kernel
theorem dX0_fewestStones_2 : decode cX0_fewestStones 2 = .ok (.iconst 0, 1) := by decide +kernel
theorem dX0_fewestStones_3 : decode cX0_fewestStones 3 = .ok (.istore 4, 2) := by decide +kernel
theorem dX0_fewestStones_5 : decode cX0_fewestStones 5 = .ok (.iload 4, 2) := by decide +kernel
theorem dX0_fewestStones_7 : decode cX0_fewestStones 7 = .ok (.aload_n 0, 1) := by decide +kernel
theorem dX0_fewestStones_8 : decode cX0_fewestStones 8 = .ok (.getfield 21, 3) := by decide +kernel
theorem dX0_fewestStones_11 : decode cX0_fewestStones 11 = .ok (.getfield 47, 3) := by decide +kernel
theorem dX0_fewestStones_14 : decode cX0_fewestStones 14 = .ok (.getfield 76, 3) := by decide +kernel
theorem dX0_fewestStones_17 : decode cX0_fewestStones 17 = .ok (.getfield 68, 3) := by decide +kernel
theorem dX0_fewestStones_20 : decode cX0_fewestStones 20 = .ok (.if_icmp .ge 80, 3) := by decide +kernel
theorem dX0_fewestStones_23 : decode cX0_fewestStones 23 = .ok (.aload_n 0, 1) := by decide +kernel
theorem dX0_fewestStones_24 : decode cX0_fewestStones 24 = .ok (.getfield 25, 3) := by decide +kernel
theorem dX0_fewestStones_27 : decode cX0_fewestStones 27 = .ok (.getfield 78, 3) := by decide +kernel
theorem dX0_fewestStones_30 : decode cX0_fewestStones 30 = .ok (.iload 4, 2) := by decide +kernel
theorem dX0_fewestStones_32 : decode cX0_fewestStones 32 = .ok (.iaload, 1) := by decide +kernel
theorem dX0_fewestStones_33 : decode cX0_fewestStones 33 = .ok (.iconst (-1), 1) := by decide +kernel
theorem dX0_fewestStones_34 : decode cX0_fewestStones 34 = .ok (.if_icmp .ne 19, 3) := by decide +kernel
theorem dX0_fewestStones_37 : decode cX0_fewestStones 37 = .ok (.aload_n 0, 1) := by decide +kernel
theorem dX0_fewestStones_38 : decode cX0_fewestStones 38 = .ok (.getfield 25, 3) := by decide +kernel
theorem dX0_fewestStones_41 : decode cX0_fewestStones 41 = .ok (.iload 4, 2) := by decide +kernel
theorem dX0_fewestStones_43 : decode cX0_fewestStones 43 = .ok (.invokevirtual 128, 3) := by decide +kernel
theorem dX0_fewestStones_46 : decode cX0_fewestStones 46 = .ok (.ifCond .ne 7, 3) := by decide +kernel
theorem dX0_fewestStones_49 : decode cX0_fewestStones 49 = .ok (.iconst 1, 1) := by decide +kernel
theorem dX0_fewestStones_50 : decode cX0_fewestStones 50 = .ok (.goto 4, 3) := by decide +kernel
theorem dX0_fewestStones_53 : decode cX0_fewestStones 53 = .ok (.iconst 0, 1) := by decide +kernel
theorem dX0_fewestStones_54 : decode cX0_fewestStones 54 = .ok (.istore 5, 2) := by decide +kernel
theorem dX0_fewestStones_56 : decode cX0_fewestStones 56 = .ok (.iload 5, 2) := by decide +kernel
theorem dX0_fewestStones_58 : decode cX0_fewestStones 58 = .ok (.ifCond .eq 36, 3) := by decide +kernel
theorem dX0_fewestStones_61 : decode cX0_fewestStones 61 = .ok (.aload_n 0, 1) := by decide +kernel
theorem dX0_fewestStones_62 : decode cX0_fewestStones 62 = .ok (.getfield 25, 3) := by decide +kernel
theorem dX0_fewestStones_65 : decode cX0_fewestStones 65 = .ok (.getfield 104, 3) := by decide +kernel
theorem dX0_fewestStones_68 : decode cX0_fewestStones 68 = .ok (.iload 4, 2) := by decide +kernel
theorem dX0_fewestStones_70 : decode cX0_fewestStones 70 = .ok (.iaload, 1) := by decide +kernel
theorem dX0_fewestStones_71 : decode cX0_fewestStones 71 = .ok (.aload_n 0, 1) := by decide +kernel
theorem dX0_fewestStones_72 : decode cX0_fewestStones 72 = .ok (.getfield 25, 3) := by decide +kernel
theorem dX0_fewestStones_75 : decode cX0_fewestStones 75 = .ok (.getfield 97, 3) := by decide +kernel
theorem dX0_fewestStones_78 : decode cX0_fewestStones 78 = .ok (.iload_n 1, 1) := by decide +kernel
theorem dX0_fewestStones_79 : decode cX0_fewestStones 79 = .ok (.iadd, 1) := by decide +kernel
theorem dX0_fewestStones_80 : decode cX0_fewestStones 80 = .ok (.if_icmp .ge 14, 3) := by decide +kernel
theorem dX0_fewestStones_83 : decode cX0_fewestStones 83 = .ok (.aload_n 0, 1) := by decide +kernel
theorem dX0_fewestStones_84 : decode cX0_fewestStones 84 = .ok (.getfield 9, 3) := by decide +kernel
theorem dX0_fewestStones_87 : decode cX0_fewestStones 87 = .ok (.iload_n 3, 1) := by decide +kernel
theorem dX0_fewestStones_88 : decode cX0_fewestStones 88 = .ok (.iload 4, 2) := by decide +kernel
theorem dX0_fewestStones_90 : decode cX0_fewestStones 90 = .ok (.iastore, 1) := by decide +kernel
theorem dX0_fewestStones_91 : decode cX0_fewestStones 91 = .ok (.iinc 3 1, 3) := by decide +kernel
theorem dX0_fewestStones_94 : decode cX0_fewestStones 94 = .ok (.iinc 4 1, 3) := by decide +kernel
theorem dX0_fewestStones_97 : decode cX0_fewestStones 97 = .ok (.goto (-92), 3) := by decide +kernel
theorem dX0_fewestStones_100 : decode cX0_fewestStones 100 = .ok (.iconst 0, 1) := by decide +kernel
theorem dX0_fewestStones_101 : decode cX0_fewestStones 101 = .ok (.istore 4, 2) := by decide +kernel
theorem dX0_fewestStones_103 : decode cX0_fewestStones 103 = .ok (.iload 4, 2) := by decide +kernel
theorem dX0_fewestStones_105 : decode cX0_fewestStones 105 = .ok (.iload_n 3, 1) := by decide +kernel
theorem dX0_fewestStones_106 : decode cX0_fewestStones 106 = .ok (.if_icmp .gt 87, 3) := by decide +kernel
theorem dX0_fewestStones_109 : decode cX0_fewestStones 109 = .ok (.iconst 0, 1) := by decide +kernel
theorem dX0_fewestStones_110 : decode cX0_fewestStones 110 = .ok (.istore 5, 2) := by decide +kernel
theorem dX0_fewestStones_112 : decode cX0_fewestStones 112 = .ok (.iload 5, 2) := by decide +kernel
theorem dX0_fewestStones_114 : decode cX0_fewestStones 114 = .ok (.iconst 1, 1) := by decide +kernel
theorem dX0_fewestStones_115 : decode cX0_fewestStones 115 = .ok (.iload_n 3, 1) := by decide +kernel
theorem dX0_fewestStones_116 : decode cX0_fewestStones 116 = .ok (.ishl, 1) := by decide +kernel
theorem dX0_fewestStones_117 : decode cX0_fewestStones 117 = .ok (.if_icmp .ge 70, 3) := by decide +kernel
theorem dX0_fewestStones_120 : decode cX0_fewestStones 120 = .ok (.iload 5, 2) := by decide +kernel
theorem dX0_fewestStones_122 : decode cX0_fewestStones 122 = .ok (.invokestatic 132, 3) := by decide +kernel
theorem dX0_fewestStones_125 : decode cX0_fewestStones 125 = .ok (.iload 4, 2) := by decide +kernel
theorem dX0_fewestStones_127 : decode cX0_fewestStones 127 = .ok (.if_icmp .ne 54, 3) := by decide +kernel
theorem dX0_fewestStones_130 : decode cX0_fewestStones 130 = .ok (.aload_n 0, 1) := by decide +kernel
theorem dX0_fewestStones_131 : decode cX0_fewestStones 131 = .ok (.invokevirtual 84, 3) := by decide +kernel
theorem dX0_fewestStones_134 : decode cX0_fewestStones 134 = .ok (.aload_n 0, 1) := by decide +kernel
theorem dX0_fewestStones_135 : decode cX0_fewestStones 135 = .ok (.getfield 29, 3) := by decide +kernel
theorem dX0_fewestStones_138 : decode cX0_fewestStones 138 = .ok (.dup, 1) := by decide +kernel
theorem dX0_fewestStones_139 : decode cX0_fewestStones 139 = .ok (.getfield 138, 3) := by decide +kernel
theorem dX0_fewestStones_142 : decode cX0_fewestStones 142 = .ok (.aload_n 0, 1) := by decide +kernel
theorem dX0_fewestStones_143 : decode cX0_fewestStones 143 = .ok (.iload 5, 2) := by decide +kernel
theorem dX0_fewestStones_145 : decode cX0_fewestStones 145 = .ok (.iload_n 3, 1) := by decide +kernel
theorem dX0_fewestStones_146 : decode cX0_fewestStones 146 = .ok (.invokevirtual 141, 3) := by decide +kernel
theorem dX0_fewestStones_149 : decode cX0_fewestStones 149 = .ok (.ior, 1) := by decide +kernel
theorem dX0_fewestStones_150 : decode cX0_fewestStones 150 = .ok (.putfield 138, 3) := by decide +kernel
theorem dX0_fewestStones_153 : decode cX0_fewestStones 153 = .ok (.aload_n 0, 1) := by decide +kernel
theorem dX0_fewestStones_154 : decode cX0_fewestStones 154 = .ok (.getfield 21, 3) := by decide +kernel
theorem dX0_fewestStones_157 : decode cX0_fewestStones 157 = .ok (.aload_n 0, 1) := by decide +kernel
theorem dX0_fewestStones_158 : decode cX0_fewestStones 158 = .ok (.getfield 29, 3) := by decide +kernel
theorem dX0_fewestStones_161 : decode cX0_fewestStones 161 = .ok (.iload_n 1, 1) := by decide +kernel
theorem dX0_fewestStones_162 : decode cX0_fewestStones 162 = .ok (.invokevirtual 90, 3) := by decide +kernel
theorem dX0_fewestStones_165 : decode cX0_fewestStones 165 = .ok (.aload_n 0, 1) := by decide +kernel
theorem dX0_fewestStones_166 : decode cX0_fewestStones 166 = .ok (.invokevirtual 107, 3) := by decide +kernel
theorem dX0_fewestStones_169 : decode cX0_fewestStones 169 = .ok (.iload_n 2, 1) := by decide +kernel
theorem dX0_fewestStones_170 : decode cX0_fewestStones 170 = .ok (.if_icmp .gt 11, 3) := by decide +kernel
theorem dX0_fewestStones_173 : decode cX0_fewestStones 173 = .ok (.aload_n 0, 1) := by decide +kernel
theorem dX0_fewestStones_174 : decode cX0_fewestStones 174 = .ok (.iload 5, 2) := by decide +kernel
theorem dX0_fewestStones_176 : decode cX0_fewestStones 176 = .ok (.iload_n 3, 1) := by decide +kernel
theorem dX0_fewestStones_177 : decode cX0_fewestStones 177 = .ok (.invokevirtual 141, 3) := by decide +kernel
theorem dX0_fewestStones_180 : decode cX0_fewestStones 180 = .ok (.ireturn, 1) := by decide +kernel
theorem dX0_fewestStones_181 : decode cX0_fewestStones 181 = .ok (.iinc 5 1, 3) := by decide +kernel
theorem dX0_fewestStones_184 : decode cX0_fewestStones 184 = .ok (.goto (-72), 3) := by decide +kernel
theorem dX0_fewestStones_187 : decode cX0_fewestStones 187 = .ok (.iinc 4 1, 3) := by decide +kernel
theorem dX0_fewestStones_190 : decode cX0_fewestStones 190 = .ok (.goto (-87), 3) := by decide +kernel
theorem dX0_fewestStones_193 : decode cX0_fewestStones 193 = .ok (.bipush (-2), 2) := by decide +kernel
theorem dX0_fewestStones_195 : decode cX0_fewestStones 195 = .ok (.ireturn, 1) := by decide +kernel
theorem dX0_bitsOfSuits_0 : decode cX0_bitsOfSuits 0 = .ok (.iconst 0, 1) := by decide +kernel
theorem dX0_bitsOfSuits_1 : decode cX0_bitsOfSuits 1 = .ok (.istore_n 3, 1) := by decide +kernel
theorem dX0_bitsOfSuits_2 : decode cX0_bitsOfSuits 2 = .ok (.iconst 0, 1) := by decide +kernel
theorem dX0_bitsOfSuits_3 : decode cX0_bitsOfSuits 3 = .ok (.istore 4, 2) := by decide +kernel
theorem dX0_bitsOfSuits_5 : decode cX0_bitsOfSuits 5 = .ok (.iload 4, 2) := by decide +kernel
theorem dX0_bitsOfSuits_7 : decode cX0_bitsOfSuits 7 = .ok (.iload_n 2, 1) := by decide +kernel
theorem dX0_bitsOfSuits_8 : decode cX0_bitsOfSuits 8 = .ok (.if_icmp .ge 31, 3) := by decide +kernel
theorem dX0_bitsOfSuits_11 : decode cX0_bitsOfSuits 11 = .ok (.iload_n 1, 1) := by decide +kernel
theorem dX0_bitsOfSuits_12 : decode cX0_bitsOfSuits 12 = .ok (.iload 4, 2) := by decide +kernel
theorem dX0_bitsOfSuits_14 : decode cX0_bitsOfSuits 14 = .ok (.ishr, 1) := by decide +kernel
theorem dX0_bitsOfSuits_15 : decode cX0_bitsOfSuits 15 = .ok (.iconst 1, 1) := by decide +kernel
theorem dX0_bitsOfSuits_16 : decode cX0_bitsOfSuits 16 = .ok (.iand, 1) := by decide +kernel
theorem dX0_bitsOfSuits_17 : decode cX0_bitsOfSuits 17 = .ok (.iconst 1, 1) := by decide +kernel
theorem dX0_bitsOfSuits_18 : decode cX0_bitsOfSuits 18 = .ok (.if_icmp .ne 15, 3) := by decide +kernel
theorem dX0_bitsOfSuits_21 : decode cX0_bitsOfSuits 21 = .ok (.iload_n 3, 1) := by decide +kernel
theorem dX0_bitsOfSuits_22 : decode cX0_bitsOfSuits 22 = .ok (.iconst 1, 1) := by decide +kernel
theorem dX0_bitsOfSuits_23 : decode cX0_bitsOfSuits 23 = .ok (.aload_n 0, 1) := by decide +kernel
theorem dX0_bitsOfSuits_24 : decode cX0_bitsOfSuits 24 = .ok (.getfield 9, 3) := by decide +kernel
theorem dX0_bitsOfSuits_27 : decode cX0_bitsOfSuits 27 = .ok (.iload 4, 2) := by decide +kernel
theorem dX0_bitsOfSuits_29 : decode cX0_bitsOfSuits 29 = .ok (.iaload, 1) := by decide +kernel
theorem dX0_bitsOfSuits_30 : decode cX0_bitsOfSuits 30 = .ok (.ishl, 1) := by decide +kernel
theorem dX0_bitsOfSuits_31 : decode cX0_bitsOfSuits 31 = .ok (.ior, 1) := by decide +kernel
theorem dX0_bitsOfSuits_32 : decode cX0_bitsOfSuits 32 = .ok (.istore_n 3, 1) := by decide +kernel
theorem dX0_bitsOfSuits_33 : decode cX0_bitsOfSuits 33 = .ok (.iinc 4 1, 3) := by decide +kernel
theorem dX0_bitsOfSuits_36 : decode cX0_bitsOfSuits 36 = .ok (.goto (-31), 3) := by decide +kernel
theorem dX0_bitsOfSuits_39 : decode cX0_bitsOfSuits 39 = .ok (.iload_n 3, 1) := by decide +kernel
theorem dX0_bitsOfSuits_40 : decode cX0_bitsOfSuits 40 = .ok (.ireturn, 1) := by decide +kernel
def wp_J6_bitCount_0f7a4 (x0 : Int32) (h : ck_H) (Q : Int32 → ck_H → Prop) : Prop := (∀ v1, v1 = (x0 - (((x0.toUInt32 >>> ((1 : Int32).toUInt32 &&& Int32.toUInt32 31)).toInt32) &&& (1431655765 : Int32))) → (∀ v2, v2 = ((v1 &&& (858993459 : Int32)) + (((v1.toUInt32 >>> ((2 : Int32).toUInt32 &&& Int32.toUInt32 31)).toInt32) &&& (858993459 : Int32))) → (∀ v3, v3 = ((v2 + ((v2.toUInt32 >>> ((4 : Int32).toUInt32 &&& Int32.toUInt32 31)).toInt32)) &&& (252645135 : Int32)) → (∀ v4, v4 = (v3 + ((v3.toUInt32 >>> ((8 : Int32).toUInt32 &&& Int32.toUInt32 31)).toInt32)) → (∀ v5, v5 = (v4 + ((v4.toUInt32 >>> ((16 : Int32).toUInt32 &&& Int32.toUInt32 31)).toInt32)) → Q (v5 &&& (63 : Int32)) h)))))
set_option maxHeartbeats 4000000 in
set_option maxRecDepth 100000 in
theorem c_J6_bitCount_0f7a4 {gr : Bool} {x0 : Int32} {h : ck_H} {Q : Int32 → ck_H → Prop} (hq : wp_J6_bitCount_0f7a4 x0 h Q) : ck_M yJ6_bitCount_0f7a4 cJ6_bitCount_0f7a4 1 (some .int) 2 0 0 gr ck_shX h [.int x0] (ck_Qi ck_shX Q) := by
  refine ck_entry (lv := [(0, .int x0)]) false (own := RJ6) rfl (fun q => by cases q) (by decide) (Nat.le_of_ble_eq_true rfl) rfl ?_
  refine ck_iload_n 0 dJ6_bitCount_0f7a4_0 rfl rfl ?_
  refine ck_iload_n 0 dJ6_bitCount_0f7a4_1 rfl rfl ?_
  refine ck_iconst (v := 1) dJ6_bitCount_0f7a4_2 (by decide) ?_
  refine ck_iushr dJ6_bitCount_0f7a4_3 ?_
  refine ck_ldcw con_J6_265 dJ6_bitCount_0f7a4_4 ?_
  refine ck_iand dJ6_bitCount_0f7a4_7 ?_
  refine ck_isub dJ6_bitCount_0f7a4_8 ?_
  refine ck_nmI (fun v1 ev1 => ?_)
  have hq := hq v1 ev1
  refine ck_istore_n (lv' := [(0, .int v1)]) dJ6_bitCount_0f7a4_9 rfl (by decide) rfl ?_
  refine ck_iload_n 0 dJ6_bitCount_0f7a4_10 rfl rfl ?_
  refine ck_ldcw con_J6_266 dJ6_bitCount_0f7a4_11 ?_
  refine ck_iand dJ6_bitCount_0f7a4_14 ?_
  refine ck_iload_n 0 dJ6_bitCount_0f7a4_15 rfl rfl ?_
  refine ck_iconst (v := 2) dJ6_bitCount_0f7a4_16 (by decide) ?_
  refine ck_iushr dJ6_bitCount_0f7a4_17 ?_
  refine ck_ldcw con_J6_266 dJ6_bitCount_0f7a4_18 ?_
  refine ck_iand dJ6_bitCount_0f7a4_21 ?_
  refine ck_iadd dJ6_bitCount_0f7a4_22 ?_
  refine ck_nmI (fun v2 ev2 => ?_)
  have hq := hq v2 ev2
  refine ck_istore_n (lv' := [(0, .int v2)]) dJ6_bitCount_0f7a4_23 rfl (by decide) rfl ?_
  refine ck_iload_n 0 dJ6_bitCount_0f7a4_24 rfl rfl ?_
  refine ck_iload_n 0 dJ6_bitCount_0f7a4_25 rfl rfl ?_
  refine ck_iconst (v := 4) dJ6_bitCount_0f7a4_26 (by decide) ?_
  refine ck_iushr dJ6_bitCount_0f7a4_27 ?_
  refine ck_iadd dJ6_bitCount_0f7a4_28 ?_
  refine ck_ldcw con_J6_267 dJ6_bitCount_0f7a4_29 ?_
  refine ck_iand dJ6_bitCount_0f7a4_32 ?_
  refine ck_nmI (fun v3 ev3 => ?_)
  have hq := hq v3 ev3
  refine ck_istore_n (lv' := [(0, .int v3)]) dJ6_bitCount_0f7a4_33 rfl (by decide) rfl ?_
  refine ck_iload_n 0 dJ6_bitCount_0f7a4_34 rfl rfl ?_
  refine ck_iload_n 0 dJ6_bitCount_0f7a4_35 rfl rfl ?_
  refine ck_bipush (v := 8) dJ6_bitCount_0f7a4_36 (by decide) ?_
  refine ck_iushr dJ6_bitCount_0f7a4_38 ?_
  refine ck_iadd dJ6_bitCount_0f7a4_39 ?_
  refine ck_nmI (fun v4 ev4 => ?_)
  have hq := hq v4 ev4
  refine ck_istore_n (lv' := [(0, .int v4)]) dJ6_bitCount_0f7a4_40 rfl (by decide) rfl ?_
  refine ck_iload_n 0 dJ6_bitCount_0f7a4_41 rfl rfl ?_
  refine ck_iload_n 0 dJ6_bitCount_0f7a4_42 rfl rfl ?_
  refine ck_bipush (v := 16) dJ6_bitCount_0f7a4_43 (by decide) ?_
  refine ck_iushr dJ6_bitCount_0f7a4_45 ?_
  refine ck_iadd dJ6_bitCount_0f7a4_46 ?_
  refine ck_nmI (fun v5 ev5 => ?_)
  have hq := hq v5 ev5
  refine ck_istore_n (lv' := [(0, .int v5)]) dJ6_bitCount_0f7a4_47 rfl (by decide) rfl ?_
  refine ck_iload_n 0 dJ6_bitCount_0f7a4_48 rfl rfl ?_
  refine ck_bipush (v := 63) dJ6_bitCount_0f7a4_49 (by decide) ?_
  refine ck_iand dJ6_bitCount_0f7a4_51 ?_
  exact ck_iret rfl rfl rfl rfl dJ6_bitCount_0f7a4_52 ⟨_, rfl, rfl, hq⟩
def wp_X0_think (h : ck_H) (Q : ck_H → Prop) : Prop := (wp_X10_asTheyAre h (fun h1 => (wp_X1_becomeLike 17 7 h1 (fun h2 => Q h2))))
set_option maxHeartbeats 4000000 in
set_option maxRecDepth 100000 in
theorem c_X0_think {gr : Bool} {h : ck_H} {Q : ck_H → Prop} (hq : wp_X0_think h Q) : ck_M yX0_think cX0_think 1 none 4 0 0 gr ck_shX h [.ref 77] (ck_Qv ck_shX Q) := by
  refine ck_entry (lv := [(0, .ref 77)]) false (own := RX0) rfl (fun q => by cases q) (by decide) (Nat.le_of_ble_eq_true rfl) rfl ?_
  refine ck_aload_n 0 dX0_think_0 rfl rfl ?_
  refine ck_getR clX0 0 rfl rfl (by decide) fl_X0_21 dX0_think_1 ?_
  refine ck_callV (c_X10_asTheyAre hq) rfl cal_X10_asTheyAre rfl ml_X0_32 vir_X10_asTheyAre rfl rfl (by decide) (Nat.le_of_ble_eq_true rfl) (Nat.le_of_ble_eq_true rfl) (by decide) (by decide) dX0_think_4 ?_
  rintro _ _ h1 ⟨rfl, rfl, hq⟩
  refine ck_aload_n 0 dX0_think_7 rfl rfl ?_
  refine ck_getR clX0 2 rfl rfl (by decide) fl_X0_29 dX0_think_8 ?_
  refine ck_aload_n 0 dX0_think_11 rfl rfl ?_
  refine ck_getR clX0 1 rfl rfl (by decide) fl_X0_25 dX0_think_12 ?_
  refine ck_callV (c_X1_becomeLike (by simp) hq) rfl cal_X1_becomeLike rfl ml_X0_37 vir_X1_becomeLike rfl rfl (by decide) (Nat.le_of_ble_eq_true rfl) (Nat.le_of_ble_eq_true rfl) (by decide) (by decide) dX0_think_15 ?_
  rintro _ _ h2 ⟨rfl, rfl, hq⟩
  exact ck_vret rfl rfl rfl dX0_think_18 ⟨rfl, rfl, hq⟩
def wp_X0_gainMore (h : ck_H) (Q : Int32 → ck_H → Prop) : Prop := (wp_X10_gained 17 h (fun r2 h1 => (wp_X10_gained 7 h1 (fun r4 h3 => Q (r2 - r4) h3))))
set_option maxHeartbeats 4000000 in
set_option maxRecDepth 100000 in
theorem c_X0_gainMore {gr : Bool} {h : ck_H} {Q : Int32 → ck_H → Prop} (hq : wp_X0_gainMore h Q) : ck_M yX0_gainMore cX0_gainMore 1 (some .int) 4 0 0 gr ck_shX h [.ref 77] (ck_Qi ck_shX Q) := by
  refine ck_entry (lv := [(0, .ref 77)]) false (own := RX0) rfl (fun q => by cases q) (by decide) (Nat.le_of_ble_eq_true rfl) rfl ?_
  refine ck_aload_n 0 dX0_gainMore_0 rfl rfl ?_
  refine ck_getR clX0 0 rfl rfl (by decide) fl_X0_21 dX0_gainMore_1 ?_
  refine ck_aload_n 0 dX0_gainMore_4 rfl rfl ?_
  refine ck_getR clX0 2 rfl rfl (by decide) fl_X0_29 dX0_gainMore_5 ?_
  refine ck_callV (c_X10_gained (by simp) hq) rfl cal_X10_gained rfl ml_X0_58 vir_X10_gained rfl rfl (by decide) (Nat.le_of_ble_eq_true rfl) (Nat.le_of_ble_eq_true rfl) (by decide) (by decide) dX0_gainMore_8 ?_
  rintro _ _ h1 ⟨r2, rfl, rfl, hq⟩
  refine ck_aload_n 0 dX0_gainMore_11 rfl rfl ?_
  refine ck_getR clX0 0 rfl rfl (by decide) fl_X0_21 dX0_gainMore_12 ?_
  refine ck_aload_n 0 dX0_gainMore_15 rfl rfl ?_
  refine ck_getR clX0 1 rfl rfl (by decide) fl_X0_25 dX0_gainMore_16 ?_
  refine ck_callV (c_X10_gained (by simp) hq) rfl cal_X10_gained rfl ml_X0_58 vir_X10_gained rfl rfl (by decide) (Nat.le_of_ble_eq_true rfl) (Nat.le_of_ble_eq_true rfl) (by decide) (by decide) dX0_gainMore_19 ?_
  rintro _ _ h3 ⟨r4, rfl, rfl, hq⟩
  refine ck_isub dX0_gainMore_22 ?_
  exact ck_iret rfl rfl rfl rfl dX0_gainMore_23 ⟨_, rfl, rfl, hq⟩
def wp_X0_keepIfBetter (h : ck_H) (Q : ck_H → Prop) : Prop := (wp_X0_gainMore h (fun r2 h1 => ((r2 ≤ (h1.1 77 7) → Q h1) ∧ (¬ r2 ≤ (h1.1 77 7) → (∀ h4, h4 = ck_sI h1 77 7 r2 → ((¬ (0 : Int32) < 0 ∧ ¬ (0 : Int32) < 0 ∧ ¬ (h4.1 77 6) < 0 ∧ (0 : Int32).toNatClampNeg + (h4.1 77 6).toNatClampNeg ≤ 5 ∧ (0 : Int32).toNatClampNeg + (h4.1 77 6).toNatClampNeg ≤ 5) ∧ (∀ h6, h6 = ck_sR h4 80 (va_cpy (h4.1 79) (h4.1 80) (0 : Int32).toNatClampNeg (0 : Int32).toNatClampNeg (h4.1 77 6).toNatClampNeg) → Q h6)))))))
set_option maxHeartbeats 4000000 in
set_option maxRecDepth 100000 in
theorem c_X0_keepIfBetter {gr : Bool} {h : ck_H} {Q : ck_H → Prop} (hq : wp_X0_keepIfBetter h Q) : ck_M yX0_keepIfBetter cX0_keepIfBetter 2 none 5 0 0 gr ck_shX h [.ref 77] (ck_Qv ck_shX Q) := by
  refine ck_entry (lv := [(0, .ref 77)]) false (own := RX0) rfl (fun q => by cases q) (by decide) (Nat.le_of_ble_eq_true rfl) rfl ?_
  refine ck_aload_n 0 dX0_keepIfBetter_0 rfl rfl ?_
  refine ck_callV (c_X0_gainMore hq) rfl cal_X0_gainMore rfl ml_X0_107 vir_X0_gainMore rfl rfl (by decide) (Nat.le_of_ble_eq_true rfl) (Nat.le_of_ble_eq_true rfl) (by decide) (by decide) dX0_keepIfBetter_1 ?_
  rintro _ _ h1 ⟨r2, rfl, rfl, hq⟩
  refine ck_istore_n (lv' := [(1, .int r2), (0, .ref 77)]) dX0_keepIfBetter_4 rfl (by decide) rfl ?_
  refine ck_iload_n 0 dX0_keepIfBetter_5 rfl rfl ?_
  refine ck_aload_n 1 dX0_keepIfBetter_6 rfl rfl ?_
  refine ck_getI clX0 7 rfl rfl (by decide) fl_X0_81 dX0_keepIfBetter_7 ?_
  refine ck_icmp_le (tgt := 35) dX0_keepIfBetter_10 (by decide) (fun c3 => ?_) (fun c3 => ?_)
  · have hq := hq.1 c3
    exact ck_vret rfl rfl rfl dX0_keepIfBetter_35 ⟨rfl, rfl, hq⟩
  · have hq := hq.2 c3
    refine ck_aload_n 1 dX0_keepIfBetter_13 rfl rfl ?_
    refine ck_iload_n 0 dX0_keepIfBetter_14 rfl rfl ?_
    refine ck_putI clX0 7 rfl rfl (by decide) fl_X0_81 rfl rfl rfl dX0_keepIfBetter_15 ?_
    refine ck_nmH (fun h4 eh4 => ?_)
    have hq := hq h4 eh4
    refine ck_aload_n 1 dX0_keepIfBetter_18 rfl rfl ?_
    refine ck_getR clX0 4 rfl rfl (by decide) fl_X0_15 dX0_keepIfBetter_19 ?_
    refine ck_iconst (v := 0) dX0_keepIfBetter_22 (by decide) ?_
    refine ck_aload_n 1 dX0_keepIfBetter_23 rfl rfl ?_
    refine ck_getR clX0 5 rfl rfl (by decide) fl_X0_18 dX0_keepIfBetter_24 ?_
    refine ck_iconst (v := 0) dX0_keepIfBetter_27 (by decide) ?_
    refine ck_aload_n 1 dX0_keepIfBetter_28 rfl rfl ?_
    refine ck_getI clX0 6 rfl rfl (by decide) fl_X0_73 dX0_keepIfBetter_29 ?_
    obtain ⟨b5, hq⟩ := hq
    refine ck_acopy rfl rfl ml_X0_111 w_acopy b5.1 b5.2.1 b5.2.2.1 b5.2.2.2.1 b5.2.2.2.2 (by decide) (Nat.le_of_ble_eq_true rfl) dX0_keepIfBetter_32 ?_
    refine ck_nmH (fun h6 eh6 => ?_)
    have hq := hq h6 eh6
    exact ck_vret rfl rfl rfl dX0_keepIfBetter_35 ⟨rfl, rfl, hq⟩
def wp_X0_nextDeal_58 (Q : Int32 → ck_H → Prop) (Kc : Int32 → Int32 → Int32 → ck_H → Prop) (x1 : Int32) (x2 : Int32) (x3 : Int32) (h : ck_H) : Prop := (∀ v6, v6 = x3 + (-1) → Kc x1 x2 v6 h)
def wp_X0_nextDeal_7 (Q : Int32 → ck_H → Prop) : Nat → Int32 → Int32 → Int32 → ck_H → Prop
  | 0 => fun _ _ _ _ => False
  | n + 1 => fun x1 x2 x3 h => ((x3 < 0 → Q (0 : Int32) h) ∧ (¬ x3 < 0 → (vp_in x3 10 ∧ (vp_in (h.1 78 x3.toNatClampNeg) 10 ∧ ((x2 ≤ (h.1 10 (h.1 78 x3.toNatClampNeg).toNatClampNeg) → wp_X0_nextDeal_58 Q (wp_X0_nextDeal_7 Q n) x1 x2 x3 h) ∧ (¬ x2 ≤ (h.1 10 (h.1 78 x3.toNatClampNeg).toNatClampNeg) → (vp_in x3 5 ∧ (vp_in x3 5 ∧ (∀ h9, h9 = ck_sI h 79 x3.toNatClampNeg ((h.1 79 x3.toNatClampNeg) + (1 : Int32)) → (vp_in x3 5 ∧ ((x1 ≤ (h9.1 79 x3.toNatClampNeg) → (vp_in x3 5 ∧ (∀ h13, h13 = ck_sI h9 79 x3.toNatClampNeg (0 : Int32) → wp_X0_nextDeal_58 Q (wp_X0_nextDeal_7 Q n) x1 x2 x3 h13))) ∧ (¬ x1 ≤ (h9.1 79 x3.toNatClampNeg) → Q (1 : Int32) h9))))))))))))
def wp_X0_nextDeal (x1 : Int32) (x2 : Int32) (h : ck_H) (Q : Int32 → ck_H → Prop) : Prop := (∀ v1, v1 = ((h.1 77 6) - (1 : Int32)) → wp_X0_nextDeal_7 Q lpN x1 x2 v1 h)
set_option maxHeartbeats 4000000 in
set_option maxRecDepth 100000 in
theorem cp_X0_nextDeal_58 {gr : Bool} {Q : Int32 → ck_H → Prop} {Kc : Int32 → Int32 → Int32 → ck_H → Prop} (hKc : ∀ (x1 : Int32) (x2 : Int32) (x3 : Int32) (h : ck_H), Kc x1 x2 x3 h → ck_W cX0_nextDeal 4 RX0 (some .boolean) 2 0 0 false gr (ck_Qi ck_shX Q) ck_shX h 0 0 7 [(0, .ref 77), (1, .int x1), (2, .int x2), (3, .int x3)] []) : ∀ (x1 : Int32) (x2 : Int32) (x3 : Int32) (h : ck_H), wp_X0_nextDeal_58 Q Kc x1 x2 x3 h → ck_W cX0_nextDeal 4 RX0 (some .boolean) 2 0 0 false gr (ck_Qi ck_shX Q) ck_shX h 0 0 58 [(0, .ref 77), (1, .int x1), (2, .int x2), (3, .int x3)] [] := by
  intro x1 x2 x3 h hq
  obtain ⟨v6, ev6⟩ : ∃ z : Int32, z = x3 + (-1) := ⟨_, rfl⟩
  have hq := hq v6 ev6
  refine ck_iinc (v := v6) (lv' := [(3, .int v6), (0, .ref 77), (1, .int x1), (2, .int x2)]) 3 dX0_nextDeal_58 rfl (by rw [ev6]; rfl) (by decide) rfl ?_
  refine ck_goto (tgt := 7) dX0_nextDeal_61 (by decide) ?_
  refine ck_loc [1, 2, 3, 0] rfl ?_
  exact hKc _ _ _ _ hq
set_option maxHeartbeats 4000000 in
set_option maxRecDepth 100000 in
theorem cp_X0_nextDeal_7 {gr : Bool} {Q : Int32 → ck_H → Prop} : ∀ (n : Nat) (x1 : Int32) (x2 : Int32) (x3 : Int32) (h : ck_H), wp_X0_nextDeal_7 Q n x1 x2 x3 h → ck_W cX0_nextDeal 4 RX0 (some .boolean) 2 0 0 false gr (ck_Qi ck_shX Q) ck_shX h 0 0 7 [(0, .ref 77), (1, .int x1), (2, .int x2), (3, .int x3)] [] := by
  intro n
  induction n with
  | zero => intro x1 x2 x3 h hq; exact hq.elim
  | succ n hKc =>
    intro x1 x2 x3 h hq
    refine ck_iload_n 3 dX0_nextDeal_7 rfl rfl ?_
    refine ck_if_lt (tgt := 64) dX0_nextDeal_8 (by decide) (fun c2 => ?_) (fun c2 => ?_)
    · have hq := hq.1 c2
      refine ck_iconst (v := 0) dX0_nextDeal_64 (by decide) ?_
      exact ck_iret rfl (by decide) rfl rfl dX0_nextDeal_65 ⟨_, rfl, rfl, hq⟩
    · have hq := hq.2 c2
      refine ck_aload_n 0 dX0_nextDeal_11 rfl rfl ?_
      refine ck_getR clX0 1 rfl rfl (by decide) fl_X0_25 dX0_nextDeal_12 ?_
      refine ck_getRN clX1 2 rfl rfl (by decide) fl_X0_104 dX0_nextDeal_15 ?_
      refine ck_aload_n 0 dX0_nextDeal_18 rfl rfl ?_
      refine ck_getR clX0 3 rfl rfl (by decide) fl_X0_9 dX0_nextDeal_19 ?_
      refine ck_iload_n 3 dX0_nextDeal_22 rfl rfl ?_
      obtain ⟨b3, hq⟩ := hq
      refine ck_iald rfl rfl b3 dX0_nextDeal_23 ?_
      obtain ⟨b4, hq⟩ := hq
      refine ck_iald rfl rfl b4 dX0_nextDeal_24 ?_
      refine ck_iload_n 2 dX0_nextDeal_25 rfl rfl ?_
      refine ck_icmp_ge (tgt := 58) dX0_nextDeal_26 (by decide) (fun c5 => ?_) (fun c5 => ?_)
      · have hq := hq.1 c5
        exact cp_X0_nextDeal_58 hKc _ _ _ _ hq
      · have hq := hq.2 c5
        refine ck_aload_n 0 dX0_nextDeal_29 rfl rfl ?_
        refine ck_getR clX0 4 rfl rfl (by decide) fl_X0_15 dX0_nextDeal_30 ?_
        refine ck_iload_n 3 dX0_nextDeal_33 rfl rfl ?_
        refine ck_dup2 dX0_nextDeal_34 rfl rfl ?_
        obtain ⟨b7, hq⟩ := hq
        refine ck_iald rfl rfl b7 dX0_nextDeal_35 ?_
        refine ck_iconst (v := 1) dX0_nextDeal_36 (by decide) ?_
        refine ck_iadd dX0_nextDeal_37 ?_
        obtain ⟨b8, hq⟩ := hq
        refine ck_iast rfl rfl b8 dX0_nextDeal_38 ?_
        refine ck_nmH (fun h9 eh9 => ?_)
        have hq := hq h9 eh9
        refine ck_aload_n 0 dX0_nextDeal_39 rfl rfl ?_
        refine ck_getR clX0 4 rfl rfl (by decide) fl_X0_15 dX0_nextDeal_40 ?_
        refine ck_iload_n 3 dX0_nextDeal_43 rfl rfl ?_
        obtain ⟨b10, hq⟩ := hq
        refine ck_iald rfl rfl b10 dX0_nextDeal_44 ?_
        refine ck_iload_n 1 dX0_nextDeal_45 rfl rfl ?_
        refine ck_icmp_ge (tgt := 51) dX0_nextDeal_46 (by decide) (fun c11 => ?_) (fun c11 => ?_)
        · have hq := hq.1 c11
          refine ck_aload_n 0 dX0_nextDeal_51 rfl rfl ?_
          refine ck_getR clX0 4 rfl rfl (by decide) fl_X0_15 dX0_nextDeal_52 ?_
          refine ck_iload_n 3 dX0_nextDeal_55 rfl rfl ?_
          refine ck_iconst (v := 0) dX0_nextDeal_56 (by decide) ?_
          obtain ⟨b12, hq⟩ := hq
          refine ck_iast rfl rfl b12 dX0_nextDeal_57 ?_
          refine ck_nmH (fun h13 eh13 => ?_)
          have hq := hq h13 eh13
          exact cp_X0_nextDeal_58 hKc _ _ _ _ hq
        · have hq := hq.2 c11
          refine ck_iconst (v := 1) dX0_nextDeal_49 (by decide) ?_
          exact ck_iret rfl (by decide) rfl rfl dX0_nextDeal_50 ⟨_, rfl, rfl, hq⟩
set_option maxHeartbeats 4000000 in
set_option maxRecDepth 100000 in
theorem c_X0_nextDeal {gr : Bool} {x1 : Int32} {x2 : Int32} {h : ck_H} {Q : Int32 → ck_H → Prop} (hq : wp_X0_nextDeal x1 x2 h Q) : ck_M yX0_nextDeal cX0_nextDeal 4 (some .boolean) 2 0 0 gr ck_shX h [.ref 77, .int x1, .int x2] (ck_Qi ck_shX Q) := by
  refine ck_entry (lv := [(0, .ref 77), (1, .int x1), (2, .int x2)]) false (own := RX0) rfl (fun q => by cases q) (by decide) (Nat.le_of_ble_eq_true rfl) rfl ?_
  refine ck_aload_n 0 dX0_nextDeal_0 rfl rfl ?_
  refine ck_getI clX0 6 rfl rfl (by decide) fl_X0_73 dX0_nextDeal_1 ?_
  refine ck_iconst (v := 1) dX0_nextDeal_4 (by decide) ?_
  refine ck_isub dX0_nextDeal_5 ?_
  refine ck_nmI (fun v1 ev1 => ?_)
  have hq := hq v1 ev1
  refine ck_istore_n (lv' := [(3, .int v1), (0, .ref 77), (1, .int x1), (2, .int x2)]) dX0_nextDeal_6 rfl (by decide) rfl ?_
  refine ck_loc [1, 2, 3, 0] rfl ?_
  refine cp_X0_nextDeal_7 lpN _ _ _ _ hq
def wp_X0_seekDeal_89 (Q : ck_H → Prop) (K95 : Int32 → Int32 → ck_H → Prop) (Kc : Int32 → Int32 → Int32 → ck_H → Prop) (x1 : Int32) (x2 : Int32) (x3 : Int32) (h : ck_H) : Prop := (∀ v7, v7 = x3 + 1 → Kc x1 x2 v7 h)
def wp_X0_seekDeal_21 (Q : ck_H → Prop) (K95 : Int32 → Int32 → ck_H → Prop) : Nat → Int32 → Int32 → Int32 → ck_H → Prop
  | 0 => fun _ _ _ _ => False
  | n + 1 => fun x1 x2 x3 h => (((h.1 42 1) ≤ x3 → K95 x1 x2 h) ∧ (¬ (h.1 42 1) ≤ x3 → (((4 : Int32) ≤ (h.1 77 6) → K95 x1 x2 h) ∧ (¬ (4 : Int32) ≤ (h.1 77 6) → (vp_in x3 10 ∧ ((¬ (h.1 11 x3.toNatClampNeg) = (-1 : Int32) → wp_X0_seekDeal_89 Q K95 (wp_X0_seekDeal_21 Q K95 n) x1 x2 x3 h) ∧ ((h.1 11 x3.toNatClampNeg) = (-1 : Int32) → (vp_in (h.1 77 6) 10 ∧ (∀ h9, h9 = ck_sI h 78 (h.1 77 6).toNatClampNeg x3 → (vp_in (h9.1 77 6) 5 ∧ (∀ h11, h11 = ck_sI h9 79 (h9.1 77 6).toNatClampNeg (0 : Int32) → (∀ h12, h12 = ck_sI h11 77 6 ((h11.1 77 6) + (1 : Int32)) → wp_X0_seekDeal_89 Q K95 (wp_X0_seekDeal_21 Q K95 n) x1 x2 x3 h12))))))))))))
def wp_X0_seekDeal_124 (Q : ck_H → Prop) (K161 : Int32 → Int32 → Int32 → ck_H → Prop) : Nat → Int32 → Int32 → Int32 → Int32 → ck_H → Prop
  | 0 => fun _ _ _ _ _ => False
  | n + 1 => fun x1 x2 x4 x5 h => (((h.1 77 6) ≤ x5 → K161 x1 x2 x4 h) ∧ (¬ (h.1 77 6) ≤ x5 → (vp_in x5 10 ∧ (vp_in x5 5 ∧ (vp_in (h.1 78 x5.toNatClampNeg) 10 ∧ (∀ h24, h24 = ck_sI h 19 (h.1 78 x5.toNatClampNeg).toNatClampNeg (h.1 79 x5.toNatClampNeg) → (∀ v25, v25 = x5 + 1 → (wp_X0_seekDeal_124 Q K161 n) x1 x2 x4 v25 h24)))))))
def wp_X0_seekDeal_105 (Q : ck_H → Prop) : Nat → Int32 → Int32 → Int32 → Int32 → ck_H → Prop
  | 0 => fun _ _ _ _ _ => False
  | n + 1 => fun x1 x2 x3 x4 h => (((256 : Int32) ≤ x4 → Q h) ∧ (¬ (256 : Int32) ≤ x4 → ((x3 = 0 → Q h) ∧ (¬ x3 = 0 → (wp_X0_think h (fun h19 => wp_X0_seekDeal_124 Q (fun x27 x28 x29 h26 => (wp_X10_pass 17 x27 h26 (fun h30 => (wp_X0_keepIfBetter h30 (fun h31 => (wp_X0_nextDeal x28 ((h31.1 7 5) + x27) h31 (fun r33 h32 => (∀ v34, v34 = x29 + 1 → (wp_X0_seekDeal_105 Q n) x27 x28 r33 v34 h32)))))))) lpN x1 x2 x4 (0 : Int32) h19))))))
def wp_X0_seekDeal_95 (Q : ck_H → Prop) (x1 : Int32) (x2 : Int32) (h : ck_H) : Prop := (∀ h16, h16 = ck_sI h 77 7 (-1 : Int32) → wp_X0_seekDeal_105 Q lpN x1 x2 (1 : Int32) (0 : Int32) h16)
def wp_X0_seekDeal (x1 : Int32) (h : ck_H) (Q : ck_H → Prop) : Prop := (∀ v1, v1 = (h.1 33 1) → (∀ h2, h2 = ck_sI h 77 6 (0 : Int32) → wp_X0_seekDeal_21 Q (fun x14 x15 h13 => wp_X0_seekDeal_95 Q x14 x15 h13) lpN x1 v1 (0 : Int32) h2))
set_option maxHeartbeats 4000000 in
set_option maxRecDepth 100000 in
theorem cp_X0_seekDeal_89 {gr : Bool} {Q : ck_H → Prop} {K95 : Int32 → Int32 → ck_H → Prop} {Kc : Int32 → Int32 → Int32 → ck_H → Prop} (hK95 : ∀ (x1 : Int32) (x2 : Int32) (h : ck_H), K95 x1 x2 h → ck_W cX0_seekDeal 6 RX0 none 8 0 0 false gr (ck_Qv ck_shX Q) ck_shX h 0 0 95 [(0, .ref 77), (1, .int x1), (2, .int x2)] []) (hKc : ∀ (x1 : Int32) (x2 : Int32) (x3 : Int32) (h : ck_H), Kc x1 x2 x3 h → ck_W cX0_seekDeal 6 RX0 none 8 0 0 false gr (ck_Qv ck_shX Q) ck_shX h 0 0 21 [(0, .ref 77), (1, .int x1), (2, .int x2), (3, .int x3)] []) : ∀ (x1 : Int32) (x2 : Int32) (x3 : Int32) (h : ck_H), wp_X0_seekDeal_89 Q K95 Kc x1 x2 x3 h → ck_W cX0_seekDeal 6 RX0 none 8 0 0 false gr (ck_Qv ck_shX Q) ck_shX h 0 0 89 [(0, .ref 77), (1, .int x1), (2, .int x2), (3, .int x3)] [] := by
  intro x1 x2 x3 h hq
  obtain ⟨v7, ev7⟩ : ∃ z : Int32, z = x3 + 1 := ⟨_, rfl⟩
  have hq := hq v7 ev7
  refine ck_iinc (v := v7) (lv' := [(3, .int v7), (0, .ref 77), (1, .int x1), (2, .int x2)]) 3 dX0_seekDeal_89 rfl (by rw [ev7]; rfl) (by decide) rfl ?_
  refine ck_goto (tgt := 21) dX0_seekDeal_92 (by decide) ?_
  refine ck_loc [1, 2, 3, 0] rfl ?_
  exact hKc _ _ _ _ hq
set_option maxHeartbeats 4000000 in
set_option maxRecDepth 100000 in
theorem cp_X0_seekDeal_21 {gr : Bool} {Q : ck_H → Prop} {K95 : Int32 → Int32 → ck_H → Prop} (hK95 : ∀ (x1 : Int32) (x2 : Int32) (h : ck_H), K95 x1 x2 h → ck_W cX0_seekDeal 6 RX0 none 8 0 0 false gr (ck_Qv ck_shX Q) ck_shX h 0 0 95 [(0, .ref 77), (1, .int x1), (2, .int x2)] []) : ∀ (n : Nat) (x1 : Int32) (x2 : Int32) (x3 : Int32) (h : ck_H), wp_X0_seekDeal_21 Q K95 n x1 x2 x3 h → ck_W cX0_seekDeal 6 RX0 none 8 0 0 false gr (ck_Qv ck_shX Q) ck_shX h 0 0 21 [(0, .ref 77), (1, .int x1), (2, .int x2), (3, .int x3)] [] := by
  intro n
  induction n with
  | zero => intro x1 x2 x3 h hq; exact hq.elim
  | succ n hKc =>
    intro x1 x2 x3 h hq
    refine ck_iload_n 3 dX0_seekDeal_21 rfl rfl ?_
    refine ck_aload_n 0 dX0_seekDeal_22 rfl rfl ?_
    refine ck_getR clX0 0 rfl rfl (by decide) fl_X0_21 dX0_seekDeal_23 ?_
    refine ck_getRN clX10 2 rfl rfl (by decide) fl_X0_47 dX0_seekDeal_26 ?_
    refine ck_getRN clX7 7 rfl rfl (by decide) fl_X0_76 dX0_seekDeal_29 ?_
    refine ck_getIN clX5 1 rfl rfl (by decide) fl_X0_68 dX0_seekDeal_32 ?_
    refine ck_icmp_ge (tgt := 95) dX0_seekDeal_35 (by decide) (fun c3 => ?_) (fun c3 => ?_)
    · have hq := hq.1 c3
      refine ck_loc [0, 1, 2] rfl ?_
      exact hK95 _ _ _ hq
    · have hq := hq.2 c3
      refine ck_aload_n 0 dX0_seekDeal_38 rfl rfl ?_
      refine ck_getI clX0 6 rfl rfl (by decide) fl_X0_73 dX0_seekDeal_39 ?_
      refine ck_iconst (v := 4) dX0_seekDeal_42 (by decide) ?_
      refine ck_icmp_ge (tgt := 95) dX0_seekDeal_43 (by decide) (fun c4 => ?_) (fun c4 => ?_)
      · have hq := hq.1 c4
        refine ck_loc [0, 1, 2] rfl ?_
        exact hK95 _ _ _ hq
      · have hq := hq.2 c4
        refine ck_aload_n 0 dX0_seekDeal_46 rfl rfl ?_
        refine ck_getR clX0 1 rfl rfl (by decide) fl_X0_25 dX0_seekDeal_47 ?_
        refine ck_getRN clX1 3 rfl rfl (by decide) fl_X0_78 dX0_seekDeal_50 ?_
        refine ck_iload_n 3 dX0_seekDeal_53 rfl rfl ?_
        obtain ⟨b5, hq⟩ := hq
        refine ck_iald rfl rfl b5 dX0_seekDeal_54 ?_
        refine ck_iconst (v := -1) dX0_seekDeal_55 (by decide) ?_
        refine ck_icmp_ne (tgt := 89) dX0_seekDeal_56 (by decide) (fun c6 => ?_) (fun c6 => ?_)
        · have hq := hq.1 c6
          exact cp_X0_seekDeal_89 hK95 hKc _ _ _ _ hq
        · have hq := hq.2 c6
          refine ck_aload_n 0 dX0_seekDeal_59 rfl rfl ?_
          refine ck_getR clX0 3 rfl rfl (by decide) fl_X0_9 dX0_seekDeal_60 ?_
          refine ck_aload_n 0 dX0_seekDeal_63 rfl rfl ?_
          refine ck_getI clX0 6 rfl rfl (by decide) fl_X0_73 dX0_seekDeal_64 ?_
          refine ck_iload_n 3 dX0_seekDeal_67 rfl rfl ?_
          obtain ⟨b8, hq⟩ := hq
          refine ck_iast rfl rfl b8 dX0_seekDeal_68 ?_
          refine ck_nmH (fun h9 eh9 => ?_)
          have hq := hq h9 eh9
          refine ck_aload_n 0 dX0_seekDeal_69 rfl rfl ?_
          refine ck_getR clX0 4 rfl rfl (by decide) fl_X0_15 dX0_seekDeal_70 ?_
          refine ck_aload_n 0 dX0_seekDeal_73 rfl rfl ?_
          refine ck_getI clX0 6 rfl rfl (by decide) fl_X0_73 dX0_seekDeal_74 ?_
          refine ck_iconst (v := 0) dX0_seekDeal_77 (by decide) ?_
          obtain ⟨b10, hq⟩ := hq
          refine ck_iast rfl rfl b10 dX0_seekDeal_78 ?_
          refine ck_nmH (fun h11 eh11 => ?_)
          have hq := hq h11 eh11
          refine ck_aload_n 0 dX0_seekDeal_79 rfl rfl ?_
          refine ck_dup dX0_seekDeal_80 rfl ?_
          refine ck_getI clX0 6 rfl rfl (by decide) fl_X0_73 dX0_seekDeal_81 ?_
          refine ck_iconst (v := 1) dX0_seekDeal_84 (by decide) ?_
          refine ck_iadd dX0_seekDeal_85 ?_
          refine ck_putI clX0 6 rfl rfl (by decide) fl_X0_73 rfl rfl rfl dX0_seekDeal_86 ?_
          refine ck_nmH (fun h12 eh12 => ?_)
          have hq := hq h12 eh12
          exact cp_X0_seekDeal_89 hK95 hKc _ _ _ _ hq
set_option maxHeartbeats 4000000 in
set_option maxRecDepth 100000 in
theorem cp_X0_seekDeal_124 {gr : Bool} {Q : ck_H → Prop} {K161 : Int32 → Int32 → Int32 → ck_H → Prop} (hK161 : ∀ (x1 : Int32) (x2 : Int32) (x4 : Int32) (h : ck_H), K161 x1 x2 x4 h → ck_W cX0_seekDeal 6 RX0 none 8 0 0 false gr (ck_Qv ck_shX Q) ck_shX h 0 0 161 [(0, .ref 77), (1, .int x1), (2, .int x2), (4, .int x4)] []) : ∀ (n : Nat) (x1 : Int32) (x2 : Int32) (x4 : Int32) (x5 : Int32) (h : ck_H), wp_X0_seekDeal_124 Q K161 n x1 x2 x4 x5 h → ck_W cX0_seekDeal 6 RX0 none 8 0 0 false gr (ck_Qv ck_shX Q) ck_shX h 0 0 124 [(0, .ref 77), (1, .int x1), (2, .int x2), (4, .int x4), (5, .int x5)] [] := by
  intro n
  induction n with
  | zero => intro x1 x2 x4 x5 h hq; exact hq.elim
  | succ n hKc =>
    intro x1 x2 x4 x5 h hq
    refine ck_iload 4 dX0_seekDeal_124 rfl ?_
    refine ck_aload_n 0 dX0_seekDeal_126 rfl rfl ?_
    refine ck_getI clX0 6 rfl rfl (by decide) fl_X0_73 dX0_seekDeal_127 ?_
    refine ck_icmp_ge (tgt := 161) dX0_seekDeal_130 (by decide) (fun c20 => ?_) (fun c20 => ?_)
    · have hq := hq.1 c20
      refine ck_loc [0, 1, 2, 3] rfl ?_
      exact hK161 _ _ _ _ hq
    · have hq := hq.2 c20
      refine ck_aload_n 0 dX0_seekDeal_133 rfl rfl ?_
      refine ck_getR clX0 2 rfl rfl (by decide) fl_X0_29 dX0_seekDeal_134 ?_
      refine ck_getRN clX1 1 rfl rfl (by decide) fl_X0_87 dX0_seekDeal_137 ?_
      refine ck_aload_n 0 dX0_seekDeal_140 rfl rfl ?_
      refine ck_getR clX0 3 rfl rfl (by decide) fl_X0_9 dX0_seekDeal_141 ?_
      refine ck_iload 4 dX0_seekDeal_144 rfl ?_
      obtain ⟨b21, hq⟩ := hq
      refine ck_iald rfl rfl b21 dX0_seekDeal_146 ?_
      refine ck_aload_n 0 dX0_seekDeal_147 rfl rfl ?_
      refine ck_getR clX0 4 rfl rfl (by decide) fl_X0_15 dX0_seekDeal_148 ?_
      refine ck_iload 4 dX0_seekDeal_151 rfl ?_
      obtain ⟨b22, hq⟩ := hq
      refine ck_iald rfl rfl b22 dX0_seekDeal_153 ?_
      obtain ⟨b23, hq⟩ := hq
      refine ck_iast rfl rfl b23 dX0_seekDeal_154 ?_
      refine ck_nmH (fun h24 eh24 => ?_)
      have hq := hq h24 eh24
      obtain ⟨v25, ev25⟩ : ∃ z : Int32, z = x5 + 1 := ⟨_, rfl⟩
      have hq := hq v25 ev25
      refine ck_iinc (v := v25) (lv' := [(5, .int v25), (0, .ref 77), (1, .int x1), (2, .int x2), (4, .int x4)]) 4 dX0_seekDeal_155 rfl (by rw [ev25]; rfl) (by decide) rfl ?_
      refine ck_goto (tgt := 124) dX0_seekDeal_158 (by decide) ?_
      refine ck_loc [1, 2, 3, 4, 0] rfl ?_
      exact hKc _ _ _ _ _ hq
set_option maxHeartbeats 4000000 in
set_option maxRecDepth 100000 in
theorem cp_X0_seekDeal_105 {gr : Bool} {Q : ck_H → Prop} : ∀ (n : Nat) (x1 : Int32) (x2 : Int32) (x3 : Int32) (x4 : Int32) (h : ck_H), wp_X0_seekDeal_105 Q n x1 x2 x3 x4 h → ck_W cX0_seekDeal 6 RX0 none 8 0 0 false gr (ck_Qv ck_shX Q) ck_shX h 0 0 105 [(0, .ref 77), (1, .int x1), (2, .int x2), (3, .int x3), (4, .int x4)] [] := by
  intro n
  induction n with
  | zero => intro x1 x2 x3 x4 h hq; exact hq.elim
  | succ n hKc =>
    intro x1 x2 x3 x4 h hq
    refine ck_iload 4 dX0_seekDeal_105 rfl ?_
    refine ck_sipush (v := 256) dX0_seekDeal_107 (by decide) ?_
    refine ck_icmp_ge (tgt := 198) dX0_seekDeal_110 (by decide) (fun c17 => ?_) (fun c17 => ?_)
    · have hq := hq.1 c17
      exact ck_vret rfl rfl rfl dX0_seekDeal_198 ⟨rfl, rfl, hq⟩
    · have hq := hq.2 c17
      refine ck_iload_n 3 dX0_seekDeal_113 rfl rfl ?_
      refine ck_if_eq (tgt := 198) dX0_seekDeal_114 (by decide) (fun c18 => ?_) (fun c18 => ?_)
      · have hq := hq.1 c18
        exact ck_vret rfl rfl rfl dX0_seekDeal_198 ⟨rfl, rfl, hq⟩
      · have hq := hq.2 c18
        refine ck_aload_n 0 dX0_seekDeal_117 rfl rfl ?_
        refine ck_callV (c_X0_think hq) rfl cal_X0_think rfl ml_X0_84 vir_X0_think rfl rfl (by decide) (Nat.le_of_ble_eq_true rfl) (Nat.le_of_ble_eq_true rfl) (by decide) (by decide) dX0_seekDeal_118 ?_
        rintro _ _ h19 ⟨rfl, rfl, hq⟩
        refine ck_iconst (v := 0) dX0_seekDeal_121 (by decide) ?_
        refine ck_istore (lv' := [(5, .int (0 : Int32)), (0, .ref 77), (1, .int x1), (2, .int x2), (3, .int x3), (4, .int x4)]) dX0_seekDeal_122 (by decide) rfl ?_
        refine ck_loc [1, 2, 3, 5, 0] rfl ?_
        refine cp_X0_seekDeal_124 (fun x27 x28 x29 h26 hq => ?_) lpN _ _ _ _ _ hq
        · refine ck_aload_n 0 dX0_seekDeal_161 rfl rfl ?_
          refine ck_getR clX0 0 rfl rfl (by decide) fl_X0_21 dX0_seekDeal_162 ?_
          refine ck_aload_n 0 dX0_seekDeal_165 rfl rfl ?_
          refine ck_getR clX0 2 rfl rfl (by decide) fl_X0_29 dX0_seekDeal_166 ?_
          refine ck_iload_n 1 dX0_seekDeal_169 rfl rfl ?_
          refine ck_callV (c_X10_pass (by simp) hq) rfl cal_X10_pass rfl ml_X0_90 vir_X10_pass rfl rfl (by decide) (Nat.le_of_ble_eq_true rfl) (Nat.le_of_ble_eq_true rfl) (by decide) (by decide) dX0_seekDeal_170 ?_
          rintro _ _ h30 ⟨rfl, rfl, hq⟩
          refine ck_aload_n 0 dX0_seekDeal_173 rfl rfl ?_
          refine ck_callV (c_X0_keepIfBetter hq) rfl cal_X0_keepIfBetter rfl ml_X0_94 vir_X0_keepIfBetter rfl rfl (by decide) (Nat.le_of_ble_eq_true rfl) (Nat.le_of_ble_eq_true rfl) (by decide) (by decide) dX0_seekDeal_174 ?_
          rintro _ _ h31 ⟨rfl, rfl, hq⟩
          refine ck_aload_n 0 dX0_seekDeal_177 rfl rfl ?_
          refine ck_iload_n 2 dX0_seekDeal_178 rfl rfl ?_
          refine ck_aload_n 0 dX0_seekDeal_179 rfl rfl ?_
          refine ck_getR clX0 1 rfl rfl (by decide) fl_X0_25 dX0_seekDeal_180 ?_
          refine ck_getIN clX1 5 rfl rfl (by decide) fl_X0_97 dX0_seekDeal_183 ?_
          refine ck_iload_n 1 dX0_seekDeal_186 rfl rfl ?_
          refine ck_iadd dX0_seekDeal_187 ?_
          refine ck_callV (c_X0_nextDeal hq) rfl cal_X0_nextDeal rfl ml_X0_100 vir_X0_nextDeal rfl rfl (by decide) (Nat.le_of_ble_eq_true rfl) (Nat.le_of_ble_eq_true rfl) (by decide) (by decide) dX0_seekDeal_188 ?_
          rintro _ _ h32 ⟨r33, rfl, rfl, hq⟩
          refine ck_istore_n (lv' := [(3, .int r33), (0, .ref 77), (1, .int x27), (2, .int x28), (4, .int x29)]) dX0_seekDeal_191 rfl (by decide) rfl ?_
          obtain ⟨v34, ev34⟩ : ∃ z : Int32, z = x29 + 1 := ⟨_, rfl⟩
          have hq := hq v34 ev34
          refine ck_iinc (v := v34) (lv' := [(4, .int v34), (3, .int r33), (0, .ref 77), (1, .int x27), (2, .int x28)]) 4 dX0_seekDeal_192 rfl (by rw [ev34]; rfl) (by decide) rfl ?_
          refine ck_goto (tgt := 105) dX0_seekDeal_195 (by decide) ?_
          refine ck_loc [2, 3, 4, 1, 0] rfl ?_
          exact hKc _ _ _ _ _ hq
set_option maxHeartbeats 4000000 in
set_option maxRecDepth 100000 in
theorem cp_X0_seekDeal_95 {gr : Bool} {Q : ck_H → Prop} : ∀ (x1 : Int32) (x2 : Int32) (h : ck_H), wp_X0_seekDeal_95 Q x1 x2 h → ck_W cX0_seekDeal 6 RX0 none 8 0 0 false gr (ck_Qv ck_shX Q) ck_shX h 0 0 95 [(0, .ref 77), (1, .int x1), (2, .int x2)] [] := by
  intro x1 x2 h hq
  refine ck_aload_n 0 dX0_seekDeal_95 rfl rfl ?_
  refine ck_iconst (v := -1) dX0_seekDeal_96 (by decide) ?_
  refine ck_putI clX0 7 rfl rfl (by decide) fl_X0_81 rfl rfl rfl dX0_seekDeal_97 ?_
  refine ck_nmH (fun h16 eh16 => ?_)
  have hq := hq h16 eh16
  refine ck_iconst (v := 1) dX0_seekDeal_100 (by decide) ?_
  refine ck_istore_n (lv' := [(3, .int (1 : Int32)), (0, .ref 77), (1, .int x1), (2, .int x2)]) dX0_seekDeal_101 rfl (by decide) rfl ?_
  refine ck_iconst (v := 0) dX0_seekDeal_102 (by decide) ?_
  refine ck_istore (lv' := [(4, .int (0 : Int32)), (3, .int (1 : Int32)), (0, .ref 77), (1, .int x1), (2, .int x2)]) dX0_seekDeal_103 (by decide) rfl ?_
  refine ck_loc [2, 3, 4, 1, 0] rfl ?_
  refine cp_X0_seekDeal_105 lpN _ _ _ _ _ hq
set_option maxHeartbeats 4000000 in
set_option maxRecDepth 100000 in
theorem c_X0_seekDeal {gr : Bool} {x1 : Int32} {h : ck_H} {Q : ck_H → Prop} (hq : wp_X0_seekDeal x1 h Q) : ck_M yX0_seekDeal cX0_seekDeal 6 none 8 0 0 gr ck_shX h [.ref 77, .int x1] (ck_Qv ck_shX Q) := by
  refine ck_entry (lv := [(0, .ref 77), (1, .int x1)]) false (own := RX0) rfl (fun q => by cases q) (by decide) (Nat.le_of_ble_eq_true rfl) rfl ?_
  refine ck_aload_n 0 dX0_seekDeal_0 rfl rfl ?_
  refine ck_getR clX0 0 rfl rfl (by decide) fl_X0_21 dX0_seekDeal_1 ?_
  refine ck_getRN clX10 2 rfl rfl (by decide) fl_X0_47 dX0_seekDeal_4 ?_
  refine ck_getRN clX7 0 rfl rfl (by decide) fl_X0_62 dX0_seekDeal_7 ?_
  refine ck_getIN clX5 1 rfl rfl (by decide) fl_X0_68 dX0_seekDeal_10 ?_
  refine ck_nmI (fun v1 ev1 => ?_)
  have hq := hq v1 ev1
  refine ck_istore_n (lv' := [(2, .int v1), (0, .ref 77), (1, .int x1)]) dX0_seekDeal_13 rfl (by decide) rfl ?_
  refine ck_aload_n 1 dX0_seekDeal_14 rfl rfl ?_
  refine ck_iconst (v := 0) dX0_seekDeal_15 (by decide) ?_
  refine ck_putI clX0 6 rfl rfl (by decide) fl_X0_73 rfl rfl rfl dX0_seekDeal_16 ?_
  refine ck_nmH (fun h2 eh2 => ?_)
  have hq := hq h2 eh2
  refine ck_iconst (v := 0) dX0_seekDeal_19 (by decide) ?_
  refine ck_istore_n (lv' := [(3, .int (0 : Int32)), (2, .int v1), (0, .ref 77), (1, .int x1)]) dX0_seekDeal_20 rfl (by decide) rfl ?_
  refine ck_loc [2, 3, 1, 0] rfl ?_
  refine cp_X0_seekDeal_21 (fun x14 x15 h13 hq => ?_) lpN _ _ _ _ hq
  · exact cp_X0_seekDeal_95 _ _ _ hq
def wp_X0_swap (x1 : Int32) (x2 : Int32) (h : ck_H) (Q : ck_H → Prop) : Prop := (vp_in x1 5 ∧ (∀ v2, v2 = (h.1 79 x1.toNatClampNeg) → (vp_in x2 5 ∧ (vp_in x1 5 ∧ (∀ h5, h5 = ck_sI h 79 x1.toNatClampNeg (h.1 79 x2.toNatClampNeg) → (vp_in x2 5 ∧ (∀ h7, h7 = ck_sI h5 79 x2.toNatClampNeg v2 → Q h7)))))))
set_option maxHeartbeats 4000000 in
set_option maxRecDepth 100000 in
theorem c_X0_swap {gr : Bool} {x1 : Int32} {x2 : Int32} {h : ck_H} {Q : ck_H → Prop} (hq : wp_X0_swap x1 x2 h Q) : ck_M yX0_swap cX0_swap 4 none 2 0 0 gr ck_shX h [.ref 77, .int x1, .int x2] (ck_Qv ck_shX Q) := by
  refine ck_entry (lv := [(0, .ref 77), (1, .int x1), (2, .int x2)]) false (own := RX0) rfl (fun q => by cases q) (by decide) (Nat.le_of_ble_eq_true rfl) rfl ?_
  refine ck_aload_n 0 dX0_swap_0 rfl rfl ?_
  refine ck_getR clX0 4 rfl rfl (by decide) fl_X0_15 dX0_swap_1 ?_
  refine ck_iload_n 1 dX0_swap_4 rfl rfl ?_
  obtain ⟨b1, hq⟩ := hq
  refine ck_iald rfl rfl b1 dX0_swap_5 ?_
  refine ck_nmI (fun v2 ev2 => ?_)
  have hq := hq v2 ev2
  refine ck_istore_n (lv' := [(3, .int v2), (0, .ref 77), (1, .int x1), (2, .int x2)]) dX0_swap_6 rfl (by decide) rfl ?_
  refine ck_aload_n 1 dX0_swap_7 rfl rfl ?_
  refine ck_getR clX0 4 rfl rfl (by decide) fl_X0_15 dX0_swap_8 ?_
  refine ck_iload_n 2 dX0_swap_11 rfl rfl ?_
  refine ck_aload_n 1 dX0_swap_12 rfl rfl ?_
  refine ck_getR clX0 4 rfl rfl (by decide) fl_X0_15 dX0_swap_13 ?_
  refine ck_iload_n 3 dX0_swap_16 rfl rfl ?_
  obtain ⟨b3, hq⟩ := hq
  refine ck_iald rfl rfl b3 dX0_swap_17 ?_
  obtain ⟨b4, hq⟩ := hq
  refine ck_iast rfl rfl b4 dX0_swap_18 ?_
  refine ck_nmH (fun h5 eh5 => ?_)
  have hq := hq h5 eh5
  refine ck_aload_n 1 dX0_swap_19 rfl rfl ?_
  refine ck_getR clX0 4 rfl rfl (by decide) fl_X0_15 dX0_swap_20 ?_
  refine ck_iload_n 3 dX0_swap_23 rfl rfl ?_
  refine ck_iload_n 0 dX0_swap_24 rfl rfl ?_
  obtain ⟨b6, hq⟩ := hq
  refine ck_iast rfl rfl b6 dX0_swap_25 ?_
  refine ck_nmH (fun h7 eh7 => ?_)
  have hq := hq h7 eh7
  exact ck_vret rfl rfl rfl dX0_swap_26 ⟨rfl, rfl, hq⟩
def wp_X0_nextOrder_7 (Q : Int32 → ck_H → Prop) (K34 : Int32 → ck_H → Prop) : Nat → Int32 → ck_H → Prop
  | 0 => fun _ _ => False
  | n + 1 => fun x1 h => ((x1 < 0 → K34 x1 h) ∧ (¬ x1 < 0 → (vp_in x1 5 ∧ (vp_in (x1 + (1 : Int32)) 5 ∧ (((h.1 79 x1.toNatClampNeg) ≤ (h.1 79 (x1 + (1 : Int32)).toNatClampNeg) → K34 x1 h) ∧ (¬ (h.1 79 x1.toNatClampNeg) ≤ (h.1 79 (x1 + (1 : Int32)).toNatClampNeg) → (∀ v6, v6 = x1 + (-1) → (wp_X0_nextOrder_7 Q K34 n) v6 h)))))))
def wp_X0_nextOrder_47 (Q : Int32 → ck_H → Prop) (K75 : Int32 → Int32 → ck_H → Prop) : Nat → Int32 → Int32 → ck_H → Prop
  | 0 => fun _ _ _ => False
  | n + 1 => fun x1 x2 h => ((x2 ≤ (x1 + (1 : Int32)) → K75 x1 x2 h) ∧ (¬ x2 ≤ (x1 + (1 : Int32)) → (vp_in x2 5 ∧ (vp_in x1 5 ∧ (((h.1 79 x1.toNatClampNeg) ≤ (h.1 79 x2.toNatClampNeg) → K75 x1 x2 h) ∧ (¬ (h.1 79 x1.toNatClampNeg) ≤ (h.1 79 x2.toNatClampNeg) → (∀ v15, v15 = x2 + (-1) → (wp_X0_nextOrder_47 Q K75 n) x1 v15 h)))))))
def wp_X0_nextOrder_93 (Q : Int32 → ck_H → Prop) : Nat → Int32 → Int32 → ck_H → Prop
  | 0 => fun _ _ _ => False
  | n + 1 => fun x3 x4 h => ((x4 ≤ x3 → Q (1 : Int32) h) ∧ (¬ x4 ≤ x3 → (wp_X0_swap x3 x4 h (fun h23 => (∀ v24, v24 = x3 + 1 → (∀ v25, v25 = x4 + (-1) → (wp_X0_nextOrder_93 Q n) v24 v25 h23))))))
def wp_X0_nextOrder_75 (Q : Int32 → ck_H → Prop) (x1 : Int32) (x2 : Int32) (h : ck_H) : Prop := (wp_X0_swap x1 x2 h (fun h19 => (∀ v20, v20 = (x1 + (1 : Int32)) → (∀ v21, v21 = ((h19.1 77 6) - (1 : Int32)) → wp_X0_nextOrder_93 Q lpN v20 v21 h19))))
def wp_X0_nextOrder_34 (Q : Int32 → ck_H → Prop) (x1 : Int32) (h : ck_H) : Prop := ((0 ≤ x1 → (∀ v10, v10 = ((h.1 77 6) - (1 : Int32)) → wp_X0_nextOrder_47 Q (fun x17 x18 h16 => wp_X0_nextOrder_75 Q x17 x18 h16) lpN x1 v10 h)) ∧ (¬ 0 ≤ x1 → Q (0 : Int32) h))
def wp_X0_nextOrder (h : ck_H) (Q : Int32 → ck_H → Prop) : Prop := (∀ v1, v1 = ((h.1 77 6) - (2 : Int32)) → wp_X0_nextOrder_7 Q (fun x8 h7 => wp_X0_nextOrder_34 Q x8 h7) lpN v1 h)
set_option maxHeartbeats 4000000 in
set_option maxRecDepth 100000 in
theorem cp_X0_nextOrder_7 {gr : Bool} {Q : Int32 → ck_H → Prop} {K34 : Int32 → ck_H → Prop} (hK34 : ∀ (x1 : Int32) (h : ck_H), K34 x1 h → ck_W cX0_nextOrder 5 RX0 (some .boolean) 3 0 0 false gr (ck_Qi ck_shX Q) ck_shX h 0 0 34 [(0, .ref 77), (1, .int x1)] []) : ∀ (n : Nat) (x1 : Int32) (h : ck_H), wp_X0_nextOrder_7 Q K34 n x1 h → ck_W cX0_nextOrder 5 RX0 (some .boolean) 3 0 0 false gr (ck_Qi ck_shX Q) ck_shX h 0 0 7 [(0, .ref 77), (1, .int x1)] [] := by
  intro n
  induction n with
  | zero => intro x1 h hq; exact hq.elim
  | succ n hKc =>
    intro x1 h hq
    refine ck_iload_n 1 dX0_nextOrder_7 rfl rfl ?_
    refine ck_if_lt (tgt := 34) dX0_nextOrder_8 (by decide) (fun c2 => ?_) (fun c2 => ?_)
    · have hq := hq.1 c2
      exact hK34 _ _ hq
    · have hq := hq.2 c2
      refine ck_aload_n 0 dX0_nextOrder_11 rfl rfl ?_
      refine ck_getR clX0 4 rfl rfl (by decide) fl_X0_15 dX0_nextOrder_12 ?_
      refine ck_iload_n 1 dX0_nextOrder_15 rfl rfl ?_
      obtain ⟨b3, hq⟩ := hq
      refine ck_iald rfl rfl b3 dX0_nextOrder_16 ?_
      refine ck_aload_n 0 dX0_nextOrder_17 rfl rfl ?_
      refine ck_getR clX0 4 rfl rfl (by decide) fl_X0_15 dX0_nextOrder_18 ?_
      refine ck_iload_n 1 dX0_nextOrder_21 rfl rfl ?_
      refine ck_iconst (v := 1) dX0_nextOrder_22 (by decide) ?_
      refine ck_iadd dX0_nextOrder_23 ?_
      obtain ⟨b4, hq⟩ := hq
      refine ck_iald rfl rfl b4 dX0_nextOrder_24 ?_
      refine ck_icmp_le (tgt := 34) dX0_nextOrder_25 (by decide) (fun c5 => ?_) (fun c5 => ?_)
      · have hq := hq.1 c5
        exact hK34 _ _ hq
      · have hq := hq.2 c5
        obtain ⟨v6, ev6⟩ : ∃ z : Int32, z = x1 + (-1) := ⟨_, rfl⟩
        have hq := hq v6 ev6
        refine ck_iinc (v := v6) (lv' := [(1, .int v6), (0, .ref 77)]) 1 dX0_nextOrder_28 rfl (by rw [ev6]; rfl) (by decide) rfl ?_
        refine ck_goto (tgt := 7) dX0_nextOrder_31 (by decide) ?_
        refine ck_loc [1, 0] rfl ?_
        exact hKc _ _ hq
set_option maxHeartbeats 4000000 in
set_option maxRecDepth 100000 in
theorem cp_X0_nextOrder_47 {gr : Bool} {Q : Int32 → ck_H → Prop} {K75 : Int32 → Int32 → ck_H → Prop} (hK75 : ∀ (x1 : Int32) (x2 : Int32) (h : ck_H), K75 x1 x2 h → ck_W cX0_nextOrder 5 RX0 (some .boolean) 3 0 0 false gr (ck_Qi ck_shX Q) ck_shX h 0 0 75 [(0, .ref 77), (1, .int x1), (2, .int x2)] []) : ∀ (n : Nat) (x1 : Int32) (x2 : Int32) (h : ck_H), wp_X0_nextOrder_47 Q K75 n x1 x2 h → ck_W cX0_nextOrder 5 RX0 (some .boolean) 3 0 0 false gr (ck_Qi ck_shX Q) ck_shX h 0 0 47 [(0, .ref 77), (1, .int x1), (2, .int x2)] [] := by
  intro n
  induction n with
  | zero => intro x1 x2 h hq; exact hq.elim
  | succ n hKc =>
    intro x1 x2 h hq
    refine ck_iload_n 2 dX0_nextOrder_47 rfl rfl ?_
    refine ck_iload_n 1 dX0_nextOrder_48 rfl rfl ?_
    refine ck_iconst (v := 1) dX0_nextOrder_49 (by decide) ?_
    refine ck_iadd dX0_nextOrder_50 ?_
    refine ck_icmp_le (tgt := 75) dX0_nextOrder_51 (by decide) (fun c11 => ?_) (fun c11 => ?_)
    · have hq := hq.1 c11
      exact hK75 _ _ _ hq
    · have hq := hq.2 c11
      refine ck_aload_n 0 dX0_nextOrder_54 rfl rfl ?_
      refine ck_getR clX0 4 rfl rfl (by decide) fl_X0_15 dX0_nextOrder_55 ?_
      refine ck_iload_n 2 dX0_nextOrder_58 rfl rfl ?_
      obtain ⟨b12, hq⟩ := hq
      refine ck_iald rfl rfl b12 dX0_nextOrder_59 ?_
      refine ck_aload_n 0 dX0_nextOrder_60 rfl rfl ?_
      refine ck_getR clX0 4 rfl rfl (by decide) fl_X0_15 dX0_nextOrder_61 ?_
      refine ck_iload_n 1 dX0_nextOrder_64 rfl rfl ?_
      obtain ⟨b13, hq⟩ := hq
      refine ck_iald rfl rfl b13 dX0_nextOrder_65 ?_
      refine ck_icmp_ge (tgt := 75) dX0_nextOrder_66 (by decide) (fun c14 => ?_) (fun c14 => ?_)
      · have hq := hq.1 c14
        exact hK75 _ _ _ hq
      · have hq := hq.2 c14
        obtain ⟨v15, ev15⟩ : ∃ z : Int32, z = x2 + (-1) := ⟨_, rfl⟩
        have hq := hq v15 ev15
        refine ck_iinc (v := v15) (lv' := [(2, .int v15), (0, .ref 77), (1, .int x1)]) 2 dX0_nextOrder_69 rfl (by rw [ev15]; rfl) (by decide) rfl ?_
        refine ck_goto (tgt := 47) dX0_nextOrder_72 (by decide) ?_
        refine ck_loc [1, 2, 0] rfl ?_
        exact hKc _ _ _ hq
set_option maxHeartbeats 4000000 in
set_option maxRecDepth 100000 in
theorem cp_X0_nextOrder_93 {gr : Bool} {Q : Int32 → ck_H → Prop} : ∀ (n : Nat) (x3 : Int32) (x4 : Int32) (h : ck_H), wp_X0_nextOrder_93 Q n x3 x4 h → ck_W cX0_nextOrder 5 RX0 (some .boolean) 3 0 0 false gr (ck_Qi ck_shX Q) ck_shX h 0 0 93 [(0, .ref 77), (3, .int x3), (4, .int x4)] [] := by
  intro n
  induction n with
  | zero => intro x3 x4 h hq; exact hq.elim
  | succ n hKc =>
    intro x3 x4 h hq
    refine ck_iload_n 1 dX0_nextOrder_93 rfl rfl ?_
    refine ck_iload 2 dX0_nextOrder_94 rfl ?_
    refine ck_icmp_ge (tgt := 115) dX0_nextOrder_96 (by decide) (fun c22 => ?_) (fun c22 => ?_)
    · have hq := hq.1 c22
      refine ck_iconst (v := 1) dX0_nextOrder_115 (by decide) ?_
      exact ck_iret rfl (by decide) rfl rfl dX0_nextOrder_116 ⟨_, rfl, rfl, hq⟩
    · have hq := hq.2 c22
      refine ck_aload_n 0 dX0_nextOrder_99 rfl rfl ?_
      refine ck_iload_n 1 dX0_nextOrder_100 rfl rfl ?_
      refine ck_iload 2 dX0_nextOrder_101 rfl ?_
      refine ck_callV (c_X0_swap hq) rfl cal_X0_swap rfl ml_X0_124 vir_X0_swap rfl rfl (by decide) (Nat.le_of_ble_eq_true rfl) (Nat.le_of_ble_eq_true rfl) (by decide) (by decide) dX0_nextOrder_103 ?_
      rintro _ _ h23 ⟨rfl, rfl, hq⟩
      obtain ⟨v24, ev24⟩ : ∃ z : Int32, z = x3 + 1 := ⟨_, rfl⟩
      have hq := hq v24 ev24
      refine ck_iinc (v := v24) (lv' := [(3, .int v24), (0, .ref 77), (4, .int x4)]) 1 dX0_nextOrder_106 rfl (by rw [ev24]; rfl) (by decide) rfl ?_
      obtain ⟨v25, ev25⟩ : ∃ z : Int32, z = x4 + (-1) := ⟨_, rfl⟩
      have hq := hq v25 ev25
      refine ck_iinc (v := v25) (lv' := [(4, .int v25), (3, .int v24), (0, .ref 77)]) 2 dX0_nextOrder_109 rfl (by rw [ev25]; rfl) (by decide) rfl ?_
      refine ck_goto (tgt := 93) dX0_nextOrder_112 (by decide) ?_
      refine ck_loc [2, 1, 0] rfl ?_
      exact hKc _ _ _ hq
set_option maxHeartbeats 4000000 in
set_option maxRecDepth 100000 in
theorem cp_X0_nextOrder_75 {gr : Bool} {Q : Int32 → ck_H → Prop} : ∀ (x1 : Int32) (x2 : Int32) (h : ck_H), wp_X0_nextOrder_75 Q x1 x2 h → ck_W cX0_nextOrder 5 RX0 (some .boolean) 3 0 0 false gr (ck_Qi ck_shX Q) ck_shX h 0 0 75 [(0, .ref 77), (1, .int x1), (2, .int x2)] [] := by
  intro x1 x2 h hq
  refine ck_aload_n 0 dX0_nextOrder_75 rfl rfl ?_
  refine ck_iload_n 1 dX0_nextOrder_76 rfl rfl ?_
  refine ck_iload_n 2 dX0_nextOrder_77 rfl rfl ?_
  refine ck_callV (c_X0_swap hq) rfl cal_X0_swap rfl ml_X0_124 vir_X0_swap rfl rfl (by decide) (Nat.le_of_ble_eq_true rfl) (Nat.le_of_ble_eq_true rfl) (by decide) (by decide) dX0_nextOrder_78 ?_
  rintro _ _ h19 ⟨rfl, rfl, hq⟩
  refine ck_iload_n 1 dX0_nextOrder_81 rfl rfl ?_
  refine ck_iconst (v := 1) dX0_nextOrder_82 (by decide) ?_
  refine ck_iadd dX0_nextOrder_83 ?_
  refine ck_nmI (fun v20 ev20 => ?_)
  have hq := hq v20 ev20
  refine ck_istore_n (lv' := [(3, .int v20), (0, .ref 77), (1, .int x1), (2, .int x2)]) dX0_nextOrder_84 rfl (by decide) rfl ?_
  refine ck_aload_n 1 dX0_nextOrder_85 rfl rfl ?_
  refine ck_getI clX0 6 rfl rfl (by decide) fl_X0_73 dX0_nextOrder_86 ?_
  refine ck_iconst (v := 1) dX0_nextOrder_89 (by decide) ?_
  refine ck_isub dX0_nextOrder_90 ?_
  refine ck_nmI (fun v21 ev21 => ?_)
  have hq := hq v21 ev21
  refine ck_istore (lv' := [(4, .int v21), (3, .int v20), (0, .ref 77), (1, .int x1), (2, .int x2)]) dX0_nextOrder_91 (by decide) rfl ?_
  refine ck_loc [2, 1, 0] rfl ?_
  refine cp_X0_nextOrder_93 lpN _ _ _ hq
set_option maxHeartbeats 4000000 in
set_option maxRecDepth 100000 in
theorem cp_X0_nextOrder_34 {gr : Bool} {Q : Int32 → ck_H → Prop} : ∀ (x1 : Int32) (h : ck_H), wp_X0_nextOrder_34 Q x1 h → ck_W cX0_nextOrder 5 RX0 (some .boolean) 3 0 0 false gr (ck_Qi ck_shX Q) ck_shX h 0 0 34 [(0, .ref 77), (1, .int x1)] [] := by
  intro x1 h hq
  refine ck_iload_n 1 dX0_nextOrder_34 rfl rfl ?_
  refine ck_if_ge (tgt := 40) dX0_nextOrder_35 (by decide) (fun c9 => ?_) (fun c9 => ?_)
  · have hq := hq.1 c9
    refine ck_aload_n 0 dX0_nextOrder_40 rfl rfl ?_
    refine ck_getI clX0 6 rfl rfl (by decide) fl_X0_73 dX0_nextOrder_41 ?_
    refine ck_iconst (v := 1) dX0_nextOrder_44 (by decide) ?_
    refine ck_isub dX0_nextOrder_45 ?_
    refine ck_nmI (fun v10 ev10 => ?_)
    have hq := hq v10 ev10
    refine ck_istore_n (lv' := [(2, .int v10), (0, .ref 77), (1, .int x1)]) dX0_nextOrder_46 rfl (by decide) rfl ?_
    refine ck_loc [1, 2, 0] rfl ?_
    refine cp_X0_nextOrder_47 (fun x17 x18 h16 hq => ?_) lpN _ _ _ hq
    · exact cp_X0_nextOrder_75 _ _ _ hq
  · have hq := hq.2 c9
    refine ck_iconst (v := 0) dX0_nextOrder_38 (by decide) ?_
    exact ck_iret rfl (by decide) rfl rfl dX0_nextOrder_39 ⟨_, rfl, rfl, hq⟩
set_option maxHeartbeats 4000000 in
set_option maxRecDepth 100000 in
theorem c_X0_nextOrder {gr : Bool} {h : ck_H} {Q : Int32 → ck_H → Prop} (hq : wp_X0_nextOrder h Q) : ck_M yX0_nextOrder cX0_nextOrder 5 (some .boolean) 3 0 0 gr ck_shX h [.ref 77] (ck_Qi ck_shX Q) := by
  refine ck_entry (lv := [(0, .ref 77)]) false (own := RX0) rfl (fun q => by cases q) (by decide) (Nat.le_of_ble_eq_true rfl) rfl ?_
  refine ck_aload_n 0 dX0_nextOrder_0 rfl rfl ?_
  refine ck_getI clX0 6 rfl rfl (by decide) fl_X0_73 dX0_nextOrder_1 ?_
  refine ck_iconst (v := 2) dX0_nextOrder_4 (by decide) ?_
  refine ck_isub dX0_nextOrder_5 ?_
  refine ck_nmI (fun v1 ev1 => ?_)
  have hq := hq v1 ev1
  refine ck_istore_n (lv' := [(1, .int v1), (0, .ref 77)]) dX0_nextOrder_6 rfl (by decide) rfl ?_
  refine ck_loc [1, 0] rfl ?_
  refine cp_X0_nextOrder_7 (fun x8 h7 hq => ?_) lpN _ _ hq
  · exact cp_X0_nextOrder_34 _ _ hq
def wp_X0_seekOrder_84 (Q : ck_H → Prop) (K90 : ck_H → Prop) (Kc : Int32 → ck_H → Prop) (x1 : Int32) (h : ck_H) : Prop := (∀ v6, v6 = x1 + 1 → Kc v6 h)
def wp_X0_seekOrder_7 (Q : ck_H → Prop) (K90 : ck_H → Prop) : Nat → Int32 → ck_H → Prop
  | 0 => fun _ _ => False
  | n + 1 => fun x1 h => (((h.1 42 1) ≤ x1 → K90 h) ∧ (¬ (h.1 42 1) ≤ x1 → (((5 : Int32) ≤ (h.1 77 6) → K90 h) ∧ (¬ (5 : Int32) ≤ (h.1 77 6) → (vp_in x1 10 ∧ ((¬ (h.1 11 x1.toNatClampNeg) = (-1 : Int32) → wp_X0_seekOrder_84 Q K90 (wp_X0_seekOrder_7 Q K90 n) x1 h) ∧ ((h.1 11 x1.toNatClampNeg) = (-1 : Int32) → (vp_in x1 10 ∧ ((¬ (h.1 10 x1.toNatClampNeg) = (h.1 7 5) → wp_X0_seekOrder_84 Q K90 (wp_X0_seekOrder_7 Q K90 n) x1 h) ∧ ((h.1 10 x1.toNatClampNeg) = (h.1 7 5) → (vp_in (h.1 77 6) 5 ∧ (∀ h10, h10 = ck_sI h 79 (h.1 77 6).toNatClampNeg x1 → (∀ h11, h11 = ck_sI h10 77 6 ((h10.1 77 6) + (1 : Int32)) → wp_X0_seekOrder_84 Q K90 (wp_X0_seekOrder_7 Q K90 n) x1 h11)))))))))))))
def wp_X0_seekOrder_115 (Q : ck_H → Prop) (K146 : Int32 → ck_H → Prop) : Nat → Int32 → Int32 → ck_H → Prop
  | 0 => fun _ _ _ => False
  | n + 1 => fun x2 x3 h => (((h.1 77 6) ≤ x3 → K146 x2 h) ∧ (¬ (h.1 77 6) ≤ x3 → (vp_in x3 5 ∧ (wp_X10_tryOne 17 (h.1 79 x3.toNatClampNeg) h (fun h19 => (∀ v20, v20 = x3 + 1 → (wp_X0_seekOrder_115 Q K146 n) x2 v20 h19))))))
def wp_X0_seekOrder_209 (Q : ck_H → Prop) (K215 : Int32 → ck_H → Prop) (Kc : Int32 → Int32 → ck_H → Prop) (x2 : Int32) (x3 : Int32) (h : ck_H) : Prop := (∀ v26, v26 = x3 + 1 → Kc x2 v26 h)
def wp_X0_seekOrder_148 (Q : ck_H → Prop) (K215 : Int32 → ck_H → Prop) : Nat → Int32 → Int32 → ck_H → Prop
  | 0 => fun _ _ _ => False
  | n + 1 => fun x2 x3 h => (((h.1 42 1) ≤ x3 → K215 x2 h) ∧ (¬ (h.1 42 1) ≤ x3 → (vp_in x3 10 ∧ ((¬ (h.1 21 x3.toNatClampNeg) = (-1 : Int32) → wp_X0_seekOrder_209 Q K215 (wp_X0_seekOrder_148 Q K215 n) x2 x3 h) ∧ ((h.1 21 x3.toNatClampNeg) = (-1 : Int32) → (vp_in x3 10 ∧ ((¬ (h.1 20 x3.toNatClampNeg) = (h.1 7 5) → wp_X0_seekOrder_209 Q K215 (wp_X0_seekOrder_148 Q K215 n) x2 x3 h) ∧ ((h.1 20 x3.toNatClampNeg) = (h.1 7 5) → (wp_X10_tryOne 17 x3 h (fun h29 => wp_X0_seekOrder_209 Q K215 (wp_X0_seekOrder_148 Q K215 n) x2 x3 h29))))))))))
def wp_X0_seekOrder_99 (Q : ck_H → Prop) : Nat → Int32 → Int32 → ck_H → Prop
  | 0 => fun _ _ _ => False
  | n + 1 => fun x1 x2 h => (((120 : Int32) ≤ x2 → Q h) ∧ (¬ (120 : Int32) ≤ x2 → ((x1 = 0 → Q h) ∧ (¬ x1 = 0 → (wp_X0_think h (fun h16 => wp_X0_seekOrder_115 Q (fun x22 h21 => wp_X0_seekOrder_148 Q (fun x31 h30 => (wp_X0_keepIfBetter h30 (fun h32 => (wp_X0_nextOrder h32 (fun r34 h33 => (∀ v35, v35 = x31 + 1 → (wp_X0_seekOrder_99 Q n) r34 v35 h33)))))) lpN x22 (0 : Int32) h21) lpN x2 (0 : Int32) h16))))))
def wp_X0_seekOrder_90 (Q : ck_H → Prop) (h : ck_H) : Prop := (∀ h13, h13 = ck_sI h 77 7 (-1 : Int32) → wp_X0_seekOrder_99 Q lpN (1 : Int32) (0 : Int32) h13)
def wp_X0_seekOrder (h : ck_H) (Q : ck_H → Prop) : Prop := (∀ h1, h1 = ck_sI h 77 6 (0 : Int32) → wp_X0_seekOrder_7 Q (fun h12 => wp_X0_seekOrder_90 Q h12) lpN (0 : Int32) h1)
set_option maxHeartbeats 4000000 in
set_option maxRecDepth 100000 in
theorem cp_X0_seekOrder_84 {gr : Bool} {Q : ck_H → Prop} {K90 : ck_H → Prop} {Kc : Int32 → ck_H → Prop} (hK90 : ∀ (h : ck_H), K90 h → ck_W cX0_seekOrder 4 RX0 none 7 0 0 false gr (ck_Qv ck_shX Q) ck_shX h 0 0 90 [(0, .ref 77)] []) (hKc : ∀ (x1 : Int32) (h : ck_H), Kc x1 h → ck_W cX0_seekOrder 4 RX0 none 7 0 0 false gr (ck_Qv ck_shX Q) ck_shX h 0 0 7 [(0, .ref 77), (1, .int x1)] []) : ∀ (x1 : Int32) (h : ck_H), wp_X0_seekOrder_84 Q K90 Kc x1 h → ck_W cX0_seekOrder 4 RX0 none 7 0 0 false gr (ck_Qv ck_shX Q) ck_shX h 0 0 84 [(0, .ref 77), (1, .int x1)] [] := by
  intro x1 h hq
  obtain ⟨v6, ev6⟩ : ∃ z : Int32, z = x1 + 1 := ⟨_, rfl⟩
  have hq := hq v6 ev6
  refine ck_iinc (v := v6) (lv' := [(1, .int v6), (0, .ref 77)]) 1 dX0_seekOrder_84 rfl (by rw [ev6]; rfl) (by decide) rfl ?_
  refine ck_goto (tgt := 7) dX0_seekOrder_87 (by decide) ?_
  refine ck_loc [1, 0] rfl ?_
  exact hKc _ _ hq
set_option maxHeartbeats 4000000 in
set_option maxRecDepth 100000 in
theorem cp_X0_seekOrder_7 {gr : Bool} {Q : ck_H → Prop} {K90 : ck_H → Prop} (hK90 : ∀ (h : ck_H), K90 h → ck_W cX0_seekOrder 4 RX0 none 7 0 0 false gr (ck_Qv ck_shX Q) ck_shX h 0 0 90 [(0, .ref 77)] []) : ∀ (n : Nat) (x1 : Int32) (h : ck_H), wp_X0_seekOrder_7 Q K90 n x1 h → ck_W cX0_seekOrder 4 RX0 none 7 0 0 false gr (ck_Qv ck_shX Q) ck_shX h 0 0 7 [(0, .ref 77), (1, .int x1)] [] := by
  intro n
  induction n with
  | zero => intro x1 h hq; exact hq.elim
  | succ n hKc =>
    intro x1 h hq
    refine ck_iload_n 1 dX0_seekOrder_7 rfl rfl ?_
    refine ck_aload_n 0 dX0_seekOrder_8 rfl rfl ?_
    refine ck_getR clX0 0 rfl rfl (by decide) fl_X0_21 dX0_seekOrder_9 ?_
    refine ck_getRN clX10 2 rfl rfl (by decide) fl_X0_47 dX0_seekOrder_12 ?_
    refine ck_getRN clX7 7 rfl rfl (by decide) fl_X0_76 dX0_seekOrder_15 ?_
    refine ck_getIN clX5 1 rfl rfl (by decide) fl_X0_68 dX0_seekOrder_18 ?_
    refine ck_icmp_ge (tgt := 90) dX0_seekOrder_21 (by decide) (fun c2 => ?_) (fun c2 => ?_)
    · have hq := hq.1 c2
      refine ck_loc [0] rfl ?_
      exact hK90  _ hq
    · have hq := hq.2 c2
      refine ck_aload_n 0 dX0_seekOrder_24 rfl rfl ?_
      refine ck_getI clX0 6 rfl rfl (by decide) fl_X0_73 dX0_seekOrder_25 ?_
      refine ck_iconst (v := 5) dX0_seekOrder_28 (by decide) ?_
      refine ck_icmp_ge (tgt := 90) dX0_seekOrder_29 (by decide) (fun c3 => ?_) (fun c3 => ?_)
      · have hq := hq.1 c3
        refine ck_loc [0] rfl ?_
        exact hK90  _ hq
      · have hq := hq.2 c3
        refine ck_aload_n 0 dX0_seekOrder_32 rfl rfl ?_
        refine ck_getR clX0 1 rfl rfl (by decide) fl_X0_25 dX0_seekOrder_33 ?_
        refine ck_getRN clX1 3 rfl rfl (by decide) fl_X0_78 dX0_seekOrder_36 ?_
        refine ck_iload_n 1 dX0_seekOrder_39 rfl rfl ?_
        obtain ⟨b4, hq⟩ := hq
        refine ck_iald rfl rfl b4 dX0_seekOrder_40 ?_
        refine ck_iconst (v := -1) dX0_seekOrder_41 (by decide) ?_
        refine ck_icmp_ne (tgt := 84) dX0_seekOrder_42 (by decide) (fun c5 => ?_) (fun c5 => ?_)
        · have hq := hq.1 c5
          exact cp_X0_seekOrder_84 hK90 hKc _ _ hq
        · have hq := hq.2 c5
          refine ck_aload_n 0 dX0_seekOrder_45 rfl rfl ?_
          refine ck_getR clX0 1 rfl rfl (by decide) fl_X0_25 dX0_seekOrder_46 ?_
          refine ck_getRN clX1 2 rfl rfl (by decide) fl_X0_104 dX0_seekOrder_49 ?_
          refine ck_iload_n 1 dX0_seekOrder_52 rfl rfl ?_
          obtain ⟨b7, hq⟩ := hq
          refine ck_iald rfl rfl b7 dX0_seekOrder_53 ?_
          refine ck_aload_n 0 dX0_seekOrder_54 rfl rfl ?_
          refine ck_getR clX0 1 rfl rfl (by decide) fl_X0_25 dX0_seekOrder_55 ?_
          refine ck_getIN clX1 5 rfl rfl (by decide) fl_X0_97 dX0_seekOrder_58 ?_
          refine ck_icmp_ne (tgt := 84) dX0_seekOrder_61 (by decide) (fun c8 => ?_) (fun c8 => ?_)
          · have hq := hq.1 c8
            exact cp_X0_seekOrder_84 hK90 hKc _ _ hq
          · have hq := hq.2 c8
            refine ck_aload_n 0 dX0_seekOrder_64 rfl rfl ?_
            refine ck_getR clX0 4 rfl rfl (by decide) fl_X0_15 dX0_seekOrder_65 ?_
            refine ck_aload_n 0 dX0_seekOrder_68 rfl rfl ?_
            refine ck_getI clX0 6 rfl rfl (by decide) fl_X0_73 dX0_seekOrder_69 ?_
            refine ck_iload_n 1 dX0_seekOrder_72 rfl rfl ?_
            obtain ⟨b9, hq⟩ := hq
            refine ck_iast rfl rfl b9 dX0_seekOrder_73 ?_
            refine ck_nmH (fun h10 eh10 => ?_)
            have hq := hq h10 eh10
            refine ck_aload_n 0 dX0_seekOrder_74 rfl rfl ?_
            refine ck_dup dX0_seekOrder_75 rfl ?_
            refine ck_getI clX0 6 rfl rfl (by decide) fl_X0_73 dX0_seekOrder_76 ?_
            refine ck_iconst (v := 1) dX0_seekOrder_79 (by decide) ?_
            refine ck_iadd dX0_seekOrder_80 ?_
            refine ck_putI clX0 6 rfl rfl (by decide) fl_X0_73 rfl rfl rfl dX0_seekOrder_81 ?_
            refine ck_nmH (fun h11 eh11 => ?_)
            have hq := hq h11 eh11
            exact cp_X0_seekOrder_84 hK90 hKc _ _ hq
set_option maxHeartbeats 4000000 in
set_option maxRecDepth 100000 in
theorem cp_X0_seekOrder_115 {gr : Bool} {Q : ck_H → Prop} {K146 : Int32 → ck_H → Prop} (hK146 : ∀ (x2 : Int32) (h : ck_H), K146 x2 h → ck_W cX0_seekOrder 4 RX0 none 7 0 0 false gr (ck_Qv ck_shX Q) ck_shX h 0 0 146 [(0, .ref 77), (2, .int x2)] []) : ∀ (n : Nat) (x2 : Int32) (x3 : Int32) (h : ck_H), wp_X0_seekOrder_115 Q K146 n x2 x3 h → ck_W cX0_seekOrder 4 RX0 none 7 0 0 false gr (ck_Qv ck_shX Q) ck_shX h 0 0 115 [(0, .ref 77), (2, .int x2), (3, .int x3)] [] := by
  intro n
  induction n with
  | zero => intro x2 x3 h hq; exact hq.elim
  | succ n hKc =>
    intro x2 x3 h hq
    refine ck_iload_n 2 dX0_seekOrder_115 rfl rfl ?_
    refine ck_aload_n 0 dX0_seekOrder_116 rfl rfl ?_
    refine ck_getI clX0 6 rfl rfl (by decide) fl_X0_73 dX0_seekOrder_117 ?_
    refine ck_icmp_ge (tgt := 146) dX0_seekOrder_120 (by decide) (fun c17 => ?_) (fun c17 => ?_)
    · have hq := hq.1 c17
      refine ck_loc [0, 1] rfl ?_
      exact hK146 _ _ hq
    · have hq := hq.2 c17
      refine ck_aload_n 0 dX0_seekOrder_123 rfl rfl ?_
      refine ck_getR clX0 0 rfl rfl (by decide) fl_X0_21 dX0_seekOrder_124 ?_
      refine ck_aload_n 0 dX0_seekOrder_127 rfl rfl ?_
      refine ck_getR clX0 2 rfl rfl (by decide) fl_X0_29 dX0_seekOrder_128 ?_
      refine ck_aload_n 0 dX0_seekOrder_131 rfl rfl ?_
      refine ck_getR clX0 4 rfl rfl (by decide) fl_X0_15 dX0_seekOrder_132 ?_
      refine ck_iload_n 2 dX0_seekOrder_135 rfl rfl ?_
      obtain ⟨b18, hq⟩ := hq
      refine ck_iald rfl rfl b18 dX0_seekOrder_136 ?_
      refine ck_callV (c_X10_tryOne (by simp) hq) rfl cal_X10_tryOne rfl ml_X0_117 vir_X10_tryOne rfl rfl (by decide) (Nat.le_of_ble_eq_true rfl) (Nat.le_of_ble_eq_true rfl) (by decide) (by decide) dX0_seekOrder_137 ?_
      rintro _ _ h19 ⟨rfl, rfl, hq⟩
      obtain ⟨v20, ev20⟩ : ∃ z : Int32, z = x3 + 1 := ⟨_, rfl⟩
      have hq := hq v20 ev20
      refine ck_iinc (v := v20) (lv' := [(3, .int v20), (0, .ref 77), (2, .int x2)]) 2 dX0_seekOrder_140 rfl (by rw [ev20]; rfl) (by decide) rfl ?_
      refine ck_goto (tgt := 115) dX0_seekOrder_143 (by decide) ?_
      refine ck_loc [1, 2, 0] rfl ?_
      exact hKc _ _ _ hq
set_option maxHeartbeats 4000000 in
set_option maxRecDepth 100000 in
theorem cp_X0_seekOrder_209 {gr : Bool} {Q : ck_H → Prop} {K215 : Int32 → ck_H → Prop} {Kc : Int32 → Int32 → ck_H → Prop} (hK215 : ∀ (x2 : Int32) (h : ck_H), K215 x2 h → ck_W cX0_seekOrder 4 RX0 none 7 0 0 false gr (ck_Qv ck_shX Q) ck_shX h 0 0 215 [(0, .ref 77), (2, .int x2)] []) (hKc : ∀ (x2 : Int32) (x3 : Int32) (h : ck_H), Kc x2 x3 h → ck_W cX0_seekOrder 4 RX0 none 7 0 0 false gr (ck_Qv ck_shX Q) ck_shX h 0 0 148 [(0, .ref 77), (2, .int x2), (3, .int x3)] []) : ∀ (x2 : Int32) (x3 : Int32) (h : ck_H), wp_X0_seekOrder_209 Q K215 Kc x2 x3 h → ck_W cX0_seekOrder 4 RX0 none 7 0 0 false gr (ck_Qv ck_shX Q) ck_shX h 0 0 209 [(0, .ref 77), (2, .int x2), (3, .int x3)] [] := by
  intro x2 x3 h hq
  obtain ⟨v26, ev26⟩ : ∃ z : Int32, z = x3 + 1 := ⟨_, rfl⟩
  have hq := hq v26 ev26
  refine ck_iinc (v := v26) (lv' := [(3, .int v26), (0, .ref 77), (2, .int x2)]) 2 dX0_seekOrder_209 rfl (by rw [ev26]; rfl) (by decide) rfl ?_
  refine ck_goto (tgt := 148) dX0_seekOrder_212 (by decide) ?_
  refine ck_loc [1, 2, 0] rfl ?_
  exact hKc _ _ _ hq
set_option maxHeartbeats 4000000 in
set_option maxRecDepth 100000 in
theorem cp_X0_seekOrder_148 {gr : Bool} {Q : ck_H → Prop} {K215 : Int32 → ck_H → Prop} (hK215 : ∀ (x2 : Int32) (h : ck_H), K215 x2 h → ck_W cX0_seekOrder 4 RX0 none 7 0 0 false gr (ck_Qv ck_shX Q) ck_shX h 0 0 215 [(0, .ref 77), (2, .int x2)] []) : ∀ (n : Nat) (x2 : Int32) (x3 : Int32) (h : ck_H), wp_X0_seekOrder_148 Q K215 n x2 x3 h → ck_W cX0_seekOrder 4 RX0 none 7 0 0 false gr (ck_Qv ck_shX Q) ck_shX h 0 0 148 [(0, .ref 77), (2, .int x2), (3, .int x3)] [] := by
  intro n
  induction n with
  | zero => intro x2 x3 h hq; exact hq.elim
  | succ n hKc =>
    intro x2 x3 h hq
    refine ck_iload_n 2 dX0_seekOrder_148 rfl rfl ?_
    refine ck_aload_n 0 dX0_seekOrder_149 rfl rfl ?_
    refine ck_getR clX0 0 rfl rfl (by decide) fl_X0_21 dX0_seekOrder_150 ?_
    refine ck_getRN clX10 2 rfl rfl (by decide) fl_X0_47 dX0_seekOrder_153 ?_
    refine ck_getRN clX7 7 rfl rfl (by decide) fl_X0_76 dX0_seekOrder_156 ?_
    refine ck_getIN clX5 1 rfl rfl (by decide) fl_X0_68 dX0_seekOrder_159 ?_
    refine ck_icmp_ge (tgt := 215) dX0_seekOrder_162 (by decide) (fun c23 => ?_) (fun c23 => ?_)
    · have hq := hq.1 c23
      refine ck_loc [0, 1] rfl ?_
      exact hK215 _ _ hq
    · have hq := hq.2 c23
      refine ck_aload_n 0 dX0_seekOrder_165 rfl rfl ?_
      refine ck_getR clX0 2 rfl rfl (by decide) fl_X0_29 dX0_seekOrder_166 ?_
      refine ck_getRN clX1 3 rfl rfl (by decide) fl_X0_78 dX0_seekOrder_169 ?_
      refine ck_iload_n 2 dX0_seekOrder_172 rfl rfl ?_
      obtain ⟨b24, hq⟩ := hq
      refine ck_iald rfl rfl b24 dX0_seekOrder_173 ?_
      refine ck_iconst (v := -1) dX0_seekOrder_174 (by decide) ?_
      refine ck_icmp_ne (tgt := 209) dX0_seekOrder_175 (by decide) (fun c25 => ?_) (fun c25 => ?_)
      · have hq := hq.1 c25
        exact cp_X0_seekOrder_209 hK215 hKc _ _ _ hq
      · have hq := hq.2 c25
        refine ck_aload_n 0 dX0_seekOrder_178 rfl rfl ?_
        refine ck_getR clX0 2 rfl rfl (by decide) fl_X0_29 dX0_seekOrder_179 ?_
        refine ck_getRN clX1 2 rfl rfl (by decide) fl_X0_104 dX0_seekOrder_182 ?_
        refine ck_iload_n 2 dX0_seekOrder_185 rfl rfl ?_
        obtain ⟨b27, hq⟩ := hq
        refine ck_iald rfl rfl b27 dX0_seekOrder_186 ?_
        refine ck_aload_n 0 dX0_seekOrder_187 rfl rfl ?_
        refine ck_getR clX0 1 rfl rfl (by decide) fl_X0_25 dX0_seekOrder_188 ?_
        refine ck_getIN clX1 5 rfl rfl (by decide) fl_X0_97 dX0_seekOrder_191 ?_
        refine ck_icmp_ne (tgt := 209) dX0_seekOrder_194 (by decide) (fun c28 => ?_) (fun c28 => ?_)
        · have hq := hq.1 c28
          exact cp_X0_seekOrder_209 hK215 hKc _ _ _ hq
        · have hq := hq.2 c28
          refine ck_aload_n 0 dX0_seekOrder_197 rfl rfl ?_
          refine ck_getR clX0 0 rfl rfl (by decide) fl_X0_21 dX0_seekOrder_198 ?_
          refine ck_aload_n 0 dX0_seekOrder_201 rfl rfl ?_
          refine ck_getR clX0 2 rfl rfl (by decide) fl_X0_29 dX0_seekOrder_202 ?_
          refine ck_iload_n 2 dX0_seekOrder_205 rfl rfl ?_
          refine ck_callV (c_X10_tryOne (by simp) hq) rfl cal_X10_tryOne rfl ml_X0_117 vir_X10_tryOne rfl rfl (by decide) (Nat.le_of_ble_eq_true rfl) (Nat.le_of_ble_eq_true rfl) (by decide) (by decide) dX0_seekOrder_206 ?_
          rintro _ _ h29 ⟨rfl, rfl, hq⟩
          exact cp_X0_seekOrder_209 hK215 hKc _ _ _ hq
set_option maxHeartbeats 4000000 in
set_option maxRecDepth 100000 in
theorem cp_X0_seekOrder_99 {gr : Bool} {Q : ck_H → Prop} : ∀ (n : Nat) (x1 : Int32) (x2 : Int32) (h : ck_H), wp_X0_seekOrder_99 Q n x1 x2 h → ck_W cX0_seekOrder 4 RX0 none 7 0 0 false gr (ck_Qv ck_shX Q) ck_shX h 0 0 99 [(0, .ref 77), (1, .int x1), (2, .int x2)] [] := by
  intro n
  induction n with
  | zero => intro x1 x2 h hq; exact hq.elim
  | succ n hKc =>
    intro x1 x2 h hq
    refine ck_iload_n 2 dX0_seekOrder_99 rfl rfl ?_
    refine ck_bipush (v := 120) dX0_seekOrder_100 (by decide) ?_
    refine ck_icmp_ge (tgt := 230) dX0_seekOrder_102 (by decide) (fun c14 => ?_) (fun c14 => ?_)
    · have hq := hq.1 c14
      exact ck_vret rfl rfl rfl dX0_seekOrder_230 ⟨rfl, rfl, hq⟩
    · have hq := hq.2 c14
      refine ck_iload_n 1 dX0_seekOrder_105 rfl rfl ?_
      refine ck_if_eq (tgt := 230) dX0_seekOrder_106 (by decide) (fun c15 => ?_) (fun c15 => ?_)
      · have hq := hq.1 c15
        exact ck_vret rfl rfl rfl dX0_seekOrder_230 ⟨rfl, rfl, hq⟩
      · have hq := hq.2 c15
        refine ck_aload_n 0 dX0_seekOrder_109 rfl rfl ?_
        refine ck_callV (c_X0_think hq) rfl cal_X0_think rfl ml_X0_84 vir_X0_think rfl rfl (by decide) (Nat.le_of_ble_eq_true rfl) (Nat.le_of_ble_eq_true rfl) (by decide) (by decide) dX0_seekOrder_110 ?_
        rintro _ _ h16 ⟨rfl, rfl, hq⟩
        refine ck_iconst (v := 0) dX0_seekOrder_113 (by decide) ?_
        refine ck_istore_n (lv' := [(3, .int (0 : Int32)), (0, .ref 77), (1, .int x1), (2, .int x2)]) dX0_seekOrder_114 rfl (by decide) rfl ?_
        refine ck_loc [1, 3, 0] rfl ?_
        refine cp_X0_seekOrder_115 (fun x22 h21 hq => ?_) lpN _ _ _ hq
        · refine ck_iconst (v := 0) dX0_seekOrder_146 (by decide) ?_
          refine ck_istore_n (lv' := [(3, .int (0 : Int32)), (0, .ref 77), (2, .int x22)]) dX0_seekOrder_147 rfl (by decide) rfl ?_
          refine ck_loc [1, 2, 0] rfl ?_
          refine cp_X0_seekOrder_148 (fun x31 h30 hq => ?_) lpN _ _ _ hq
          · refine ck_aload_n 0 dX0_seekOrder_215 rfl rfl ?_
            refine ck_callV (c_X0_keepIfBetter hq) rfl cal_X0_keepIfBetter rfl ml_X0_94 vir_X0_keepIfBetter rfl rfl (by decide) (Nat.le_of_ble_eq_true rfl) (Nat.le_of_ble_eq_true rfl) (by decide) (by decide) dX0_seekOrder_216 ?_
            rintro _ _ h32 ⟨rfl, rfl, hq⟩
            refine ck_aload_n 0 dX0_seekOrder_219 rfl rfl ?_
            refine ck_callV (c_X0_nextOrder hq) rfl cal_X0_nextOrder rfl ml_X0_120 vir_X0_nextOrder rfl rfl (by decide) (Nat.le_of_ble_eq_true rfl) (Nat.le_of_ble_eq_true rfl) (by decide) (by decide) dX0_seekOrder_220 ?_
            rintro _ _ h33 ⟨r34, rfl, rfl, hq⟩
            refine ck_istore_n (lv' := [(1, .int r34), (0, .ref 77), (2, .int x31)]) dX0_seekOrder_223 rfl (by decide) rfl ?_
            obtain ⟨v35, ev35⟩ : ∃ z : Int32, z = x31 + 1 := ⟨_, rfl⟩
            have hq := hq v35 ev35
            refine ck_iinc (v := v35) (lv' := [(2, .int v35), (1, .int r34), (0, .ref 77)]) 2 dX0_seekOrder_224 rfl (by rw [ev35]; rfl) (by decide) rfl ?_
            refine ck_goto (tgt := 99) dX0_seekOrder_227 (by decide) ?_
            refine ck_loc [2, 1, 0] rfl ?_
            exact hKc _ _ _ hq
set_option maxHeartbeats 4000000 in
set_option maxRecDepth 100000 in
theorem cp_X0_seekOrder_90 {gr : Bool} {Q : ck_H → Prop} : ∀ (h : ck_H), wp_X0_seekOrder_90 Q h → ck_W cX0_seekOrder 4 RX0 none 7 0 0 false gr (ck_Qv ck_shX Q) ck_shX h 0 0 90 [(0, .ref 77)] [] := by
  intro h hq
  refine ck_aload_n 0 dX0_seekOrder_90 rfl rfl ?_
  refine ck_iconst (v := -1) dX0_seekOrder_91 (by decide) ?_
  refine ck_putI clX0 7 rfl rfl (by decide) fl_X0_81 rfl rfl rfl dX0_seekOrder_92 ?_
  refine ck_nmH (fun h13 eh13 => ?_)
  have hq := hq h13 eh13
  refine ck_iconst (v := 1) dX0_seekOrder_95 (by decide) ?_
  refine ck_istore_n (lv' := [(1, .int (1 : Int32)), (0, .ref 77)]) dX0_seekOrder_96 rfl (by decide) rfl ?_
  refine ck_iconst (v := 0) dX0_seekOrder_97 (by decide) ?_
  refine ck_istore_n (lv' := [(2, .int (0 : Int32)), (1, .int (1 : Int32)), (0, .ref 77)]) dX0_seekOrder_98 rfl (by decide) rfl ?_
  refine ck_loc [2, 1, 0] rfl ?_
  refine cp_X0_seekOrder_99 lpN _ _ _ hq
set_option maxHeartbeats 4000000 in
set_option maxRecDepth 100000 in
theorem c_X0_seekOrder {gr : Bool} {h : ck_H} {Q : ck_H → Prop} (hq : wp_X0_seekOrder h Q) : ck_M yX0_seekOrder cX0_seekOrder 4 none 7 0 0 gr ck_shX h [.ref 77] (ck_Qv ck_shX Q) := by
  refine ck_entry (lv := [(0, .ref 77)]) false (own := RX0) rfl (fun q => by cases q) (by decide) (Nat.le_of_ble_eq_true rfl) rfl ?_
  refine ck_aload_n 0 dX0_seekOrder_0 rfl rfl ?_
  refine ck_iconst (v := 0) dX0_seekOrder_1 (by decide) ?_
  refine ck_putI clX0 6 rfl rfl (by decide) fl_X0_73 rfl rfl rfl dX0_seekOrder_2 ?_
  refine ck_nmH (fun h1 eh1 => ?_)
  have hq := hq h1 eh1
  refine ck_iconst (v := 0) dX0_seekOrder_5 (by decide) ?_
  refine ck_istore_n (lv' := [(1, .int (0 : Int32)), (0, .ref 77)]) dX0_seekOrder_6 rfl (by decide) rfl ?_
  refine ck_loc [1, 0] rfl ?_
  refine cp_X0_seekOrder_7 (fun h12 hq => ?_) lpN _ _ hq
  · exact cp_X0_seekOrder_90  _ hq
def wp_X0_bitsOfSuits_33 (Q : Int32 → ck_H → Prop) (Kc : Int32 → Int32 → Int32 → Int32 → ck_H → Prop) (x1 : Int32) (x2 : Int32) (x3 : Int32) (x4 : Int32) (h : ck_H) : Prop := (∀ v3, v3 = x4 + 1 → Kc x1 x2 x3 v3 h)
def wp_X0_bitsOfSuits_5 (Q : Int32 → ck_H → Prop) : Nat → Int32 → Int32 → Int32 → Int32 → ck_H → Prop
  | 0 => fun _ _ _ _ _ => False
  | n + 1 => fun x1 x2 x3 x4 h => ((x2 ≤ x4 → Q x3 h) ∧ (¬ x2 ≤ x4 → ((¬ ((x1 >>> (x4 &&& 31)) &&& (1 : Int32)) = (1 : Int32) → wp_X0_bitsOfSuits_33 Q (wp_X0_bitsOfSuits_5 Q n) x1 x2 x3 x4 h) ∧ (((x1 >>> (x4 &&& 31)) &&& (1 : Int32)) = (1 : Int32) → (vp_in x4 10 ∧ (∀ v5, v5 = (x3 ||| ((1 : Int32) <<< ((h.1 78 x4.toNatClampNeg) &&& 31))) → wp_X0_bitsOfSuits_33 Q (wp_X0_bitsOfSuits_5 Q n) x1 x2 v5 x4 h))))))
def wp_X0_bitsOfSuits (x1 : Int32) (x2 : Int32) (h : ck_H) (Q : Int32 → ck_H → Prop) : Prop := wp_X0_bitsOfSuits_5 Q lpN x1 x2 (0 : Int32) (0 : Int32) h
set_option maxHeartbeats 4000000 in
set_option maxRecDepth 100000 in
theorem cp_X0_bitsOfSuits_33 {gr : Bool} {Q : Int32 → ck_H → Prop} {Kc : Int32 → Int32 → Int32 → Int32 → ck_H → Prop} (hKc : ∀ (x1 : Int32) (x2 : Int32) (x3 : Int32) (x4 : Int32) (h : ck_H), Kc x1 x2 x3 x4 h → ck_W cX0_bitsOfSuits 5 RX0 (some .int) 2 0 0 false gr (ck_Qi ck_shX Q) ck_shX h 0 0 5 [(0, .ref 77), (1, .int x1), (2, .int x2), (3, .int x3), (4, .int x4)] []) : ∀ (x1 : Int32) (x2 : Int32) (x3 : Int32) (x4 : Int32) (h : ck_H), wp_X0_bitsOfSuits_33 Q Kc x1 x2 x3 x4 h → ck_W cX0_bitsOfSuits 5 RX0 (some .int) 2 0 0 false gr (ck_Qi ck_shX Q) ck_shX h 0 0 33 [(0, .ref 77), (1, .int x1), (2, .int x2), (3, .int x3), (4, .int x4)] [] := by
  intro x1 x2 x3 x4 h hq
  obtain ⟨v3, ev3⟩ : ∃ z : Int32, z = x4 + 1 := ⟨_, rfl⟩
  have hq := hq v3 ev3
  refine ck_iinc (v := v3) (lv' := [(4, .int v3), (0, .ref 77), (1, .int x1), (2, .int x2), (3, .int x3)]) 4 dX0_bitsOfSuits_33 rfl (by rw [ev3]; rfl) (by decide) rfl ?_
  refine ck_goto (tgt := 5) dX0_bitsOfSuits_36 (by decide) ?_
  refine ck_loc [1, 2, 3, 4, 0] rfl ?_
  exact hKc _ _ _ _ _ hq
set_option maxHeartbeats 4000000 in
set_option maxRecDepth 100000 in
theorem cp_X0_bitsOfSuits_5 {gr : Bool} {Q : Int32 → ck_H → Prop} : ∀ (n : Nat) (x1 : Int32) (x2 : Int32) (x3 : Int32) (x4 : Int32) (h : ck_H), wp_X0_bitsOfSuits_5 Q n x1 x2 x3 x4 h → ck_W cX0_bitsOfSuits 5 RX0 (some .int) 2 0 0 false gr (ck_Qi ck_shX Q) ck_shX h 0 0 5 [(0, .ref 77), (1, .int x1), (2, .int x2), (3, .int x3), (4, .int x4)] [] := by
  intro n
  induction n with
  | zero => intro x1 x2 x3 x4 h hq; exact hq.elim
  | succ n hKc =>
    intro x1 x2 x3 x4 h hq
    refine ck_iload 4 dX0_bitsOfSuits_5 rfl ?_
    refine ck_iload_n 2 dX0_bitsOfSuits_7 rfl rfl ?_
    refine ck_icmp_ge (tgt := 39) dX0_bitsOfSuits_8 (by decide) (fun c1 => ?_) (fun c1 => ?_)
    · have hq := hq.1 c1
      refine ck_iload_n 3 dX0_bitsOfSuits_39 rfl rfl ?_
      exact ck_iret rfl rfl rfl rfl dX0_bitsOfSuits_40 ⟨_, rfl, rfl, hq⟩
    · have hq := hq.2 c1
      refine ck_iload_n 1 dX0_bitsOfSuits_11 rfl rfl ?_
      refine ck_iload 4 dX0_bitsOfSuits_12 rfl ?_
      refine ck_ishr dX0_bitsOfSuits_14 ?_
      refine ck_iconst (v := 1) dX0_bitsOfSuits_15 (by decide) ?_
      refine ck_iand dX0_bitsOfSuits_16 ?_
      refine ck_iconst (v := 1) dX0_bitsOfSuits_17 (by decide) ?_
      refine ck_icmp_ne (tgt := 33) dX0_bitsOfSuits_18 (by decide) (fun c2 => ?_) (fun c2 => ?_)
      · have hq := hq.1 c2
        exact cp_X0_bitsOfSuits_33 hKc _ _ _ _ _ hq
      · have hq := hq.2 c2
        refine ck_iload_n 3 dX0_bitsOfSuits_21 rfl rfl ?_
        refine ck_iconst (v := 1) dX0_bitsOfSuits_22 (by decide) ?_
        refine ck_aload_n 0 dX0_bitsOfSuits_23 rfl rfl ?_
        refine ck_getR clX0 3 rfl rfl (by decide) fl_X0_9 dX0_bitsOfSuits_24 ?_
        refine ck_iload 4 dX0_bitsOfSuits_27 rfl ?_
        obtain ⟨b4, hq⟩ := hq
        refine ck_iald rfl rfl b4 dX0_bitsOfSuits_29 ?_
        refine ck_ishl dX0_bitsOfSuits_30 ?_
        refine ck_ior dX0_bitsOfSuits_31 ?_
        refine ck_nmI (fun v5 ev5 => ?_)
        have hq := hq v5 ev5
        refine ck_istore_n (lv' := [(3, .int v5), (0, .ref 77), (1, .int x1), (2, .int x2), (4, .int x4)]) dX0_bitsOfSuits_32 rfl (by decide) rfl ?_
        refine ck_loc [1, 2, 3, 0, 4] rfl ?_
        exact cp_X0_bitsOfSuits_33 hKc _ _ _ _ _ hq
set_option maxHeartbeats 4000000 in
set_option maxRecDepth 100000 in
theorem c_X0_bitsOfSuits {gr : Bool} {x1 : Int32} {x2 : Int32} {h : ck_H} {Q : Int32 → ck_H → Prop} (hq : wp_X0_bitsOfSuits x1 x2 h Q) : ck_M yX0_bitsOfSuits cX0_bitsOfSuits 5 (some .int) 2 0 0 gr ck_shX h [.ref 77, .int x1, .int x2] (ck_Qi ck_shX Q) := by
  refine ck_entry (lv := [(0, .ref 77), (1, .int x1), (2, .int x2)]) false (own := RX0) rfl (fun q => by cases q) (by decide) (Nat.le_of_ble_eq_true rfl) rfl ?_
  refine ck_iconst (v := 0) dX0_bitsOfSuits_0 (by decide) ?_
  refine ck_istore_n (lv' := [(3, .int (0 : Int32)), (0, .ref 77), (1, .int x1), (2, .int x2)]) dX0_bitsOfSuits_1 rfl (by decide) rfl ?_
  refine ck_iconst (v := 0) dX0_bitsOfSuits_2 (by decide) ?_
  refine ck_istore (lv' := [(4, .int (0 : Int32)), (3, .int (0 : Int32)), (0, .ref 77), (1, .int x1), (2, .int x2)]) dX0_bitsOfSuits_3 (by decide) rfl ?_
  refine ck_loc [2, 3, 4, 1, 0] rfl ?_
  refine cp_X0_bitsOfSuits_5 lpN _ _ _ _ _ hq
def wp_X0_fewestStones_94 (Q : Int32 → ck_H → Prop) (K100 : Int32 → Int32 → Int32 → ck_H → Prop) (Kc : Int32 → Int32 → Int32 → Int32 → ck_H → Prop) (x1 : Int32) (x2 : Int32) (x3 : Int32) (x4 : Int32) (h : ck_H) : Prop := (∀ v5, v5 = x4 + 1 → Kc x1 x2 x3 v5 h)
def wp_X0_fewestStones_54 (Q : Int32 → ck_H → Prop) (K100 : Int32 → Int32 → Int32 → ck_H → Prop) (Kc : Int32 → Int32 → Int32 → Int32 → ck_H → Prop) (x1 : Int32) (x2 : Int32) (x3 : Int32) (x4 : Int32) (y0 : Int32) (h : ck_H) : Prop := ((y0 = 0 → wp_X0_fewestStones_94 Q K100 Kc x1 x2 x3 x4 h) ∧ (¬ y0 = 0 → (vp_in x4 10 ∧ ((((h.1 7 5) + x1) ≤ (h.1 10 x4.toNatClampNeg) → wp_X0_fewestStones_94 Q K100 Kc x1 x2 x3 x4 h) ∧ (¬ ((h.1 7 5) + x1) ≤ (h.1 10 x4.toNatClampNeg) → (vp_in x3 10 ∧ (∀ h9, h9 = ck_sI h 78 x3.toNatClampNeg x4 → (∀ v10, v10 = x3 + 1 → wp_X0_fewestStones_94 Q K100 Kc x1 x2 v10 x4 h9))))))))
def wp_X0_fewestStones_53 (Q : Int32 → ck_H → Prop) (K100 : Int32 → Int32 → Int32 → ck_H → Prop) (Kc : Int32 → Int32 → Int32 → Int32 → ck_H → Prop) (x1 : Int32) (x2 : Int32) (x3 : Int32) (x4 : Int32) (h : ck_H) : Prop := wp_X0_fewestStones_54 Q K100 Kc x1 x2 x3 x4 (0 : Int32) h
def wp_X0_fewestStones_5 (Q : Int32 → ck_H → Prop) (K100 : Int32 → Int32 → Int32 → ck_H → Prop) : Nat → Int32 → Int32 → Int32 → Int32 → ck_H → Prop
  | 0 => fun _ _ _ _ _ => False
  | n + 1 => fun x1 x2 x3 x4 h => (((h.1 42 1) ≤ x4 → K100 x1 x2 x3 h) ∧ (¬ (h.1 42 1) ≤ x4 → (vp_in x4 10 ∧ ((¬ (h.1 11 x4.toNatClampNeg) = (-1 : Int32) → wp_X0_fewestStones_53 Q K100 (wp_X0_fewestStones_5 Q K100 n) x1 x2 x3 x4 h) ∧ ((h.1 11 x4.toNatClampNeg) = (-1 : Int32) → (wp_X1_hasStone 7 x4 h (fun r12 h11 => ((¬ r12 = 0 → wp_X0_fewestStones_53 Q K100 (wp_X0_fewestStones_5 Q K100 n) x1 x2 x3 x4 h11) ∧ (r12 = 0 → wp_X0_fewestStones_54 Q K100 (wp_X0_fewestStones_5 Q K100 n) x1 x2 x3 x4 (1 : Int32) h11)))))))))
def wp_X0_fewestStones_181 (Q : Int32 → ck_H → Prop) (K173 : Int32 → Int32 → ck_H → Prop) (K187 : Int32 → Int32 → Int32 → Int32 → ck_H → Prop) (Kc : Int32 → Int32 → Int32 → Int32 → Int32 → ck_H → Prop) (x1 : Int32) (x2 : Int32) (x3 : Int32) (x4 : Int32) (x5 : Int32) (h : ck_H) : Prop := (∀ v23, v23 = x5 + 1 → Kc x1 x2 x3 x4 v23 h)
def wp_X0_fewestStones_112 (Q : Int32 → ck_H → Prop) (K173 : Int32 → Int32 → ck_H → Prop) (K187 : Int32 → Int32 → Int32 → Int32 → ck_H → Prop) : Nat → Int32 → Int32 → Int32 → Int32 → Int32 → ck_H → Prop
  | 0 => fun _ _ _ _ _ _ => False
  | n + 1 => fun x1 x2 x3 x4 x5 h => ((((1 : Int32) <<< (x3 &&& 31)) ≤ x5 → K187 x1 x2 x3 x4 h) ∧ (¬ ((1 : Int32) <<< (x3 &&& 31)) ≤ x5 → (wp_J6_bitCount_0f7a4 x5 h (fun r21 h20 => ((¬ r21 = x4 → wp_X0_fewestStones_181 Q K173 K187 (wp_X0_fewestStones_112 Q K173 K187 n) x1 x2 x3 x4 x5 h20) ∧ (r21 = x4 → (wp_X0_think h20 (fun h24 => (wp_X0_bitsOfSuits x5 x3 h24 (fun r26 h25 => (∀ h27, h27 = ck_sI h25 17 4 ((h24.1 17 4) ||| r26) → (wp_X10_pass 17 x1 h27 (fun h28 => (wp_X0_gainMore h28 (fun r30 h29 => ((x2 < r30 → wp_X0_fewestStones_181 Q K173 K187 (wp_X0_fewestStones_112 Q K173 K187 n) x1 x2 x3 x4 x5 h29) ∧ (¬ x2 < r30 → K173 x3 x5 h29)))))))))))))))))
def wp_X0_fewestStones_103 (Q : Int32 → ck_H → Prop) (K173 : Int32 → Int32 → ck_H → Prop) : Nat → Int32 → Int32 → Int32 → Int32 → ck_H → Prop
  | 0 => fun _ _ _ _ _ => False
  | n + 1 => fun x1 x2 x3 x4 h => ((x3 < x4 → Q (-2 : Int32) h) ∧ (¬ x3 < x4 → wp_X0_fewestStones_112 Q (fun x33 x34 h32 => K173 x33 x34 h32) (fun x36 x37 x38 x39 h35 => (∀ v40, v40 = x39 + 1 → (wp_X0_fewestStones_103 Q K173 n) x36 x37 x38 v40 h35)) lpN x1 x2 x3 x4 (0 : Int32) h))
def wp_X0_fewestStones (x1 : Int32) (x2 : Int32) (h : ck_H) (Q : Int32 → ck_H → Prop) : Prop := wp_X0_fewestStones_5 Q (fun x15 x16 x17 h14 => wp_X0_fewestStones_103 Q (fun x42 x43 h41 => (wp_X0_bitsOfSuits x43 x42 h41 (fun r45 h44 => Q r45 h44))) lpN x15 x16 x17 (0 : Int32) h14) lpN x1 x2 (0 : Int32) (0 : Int32) h
set_option maxHeartbeats 4000000 in
set_option maxRecDepth 100000 in
theorem cp_X0_fewestStones_94 {gr : Bool} {Q : Int32 → ck_H → Prop} {K100 : Int32 → Int32 → Int32 → ck_H → Prop} {Kc : Int32 → Int32 → Int32 → Int32 → ck_H → Prop} (hK100 : ∀ (x1 : Int32) (x2 : Int32) (x3 : Int32) (h : ck_H), K100 x1 x2 x3 h → ck_W cX0_fewestStones 6 RX0 (some .int) 8 0 0 false gr (ck_Qi ck_shX Q) ck_shX h 0 0 100 [(0, .ref 77), (1, .int x1), (2, .int x2), (3, .int x3)] []) (hKc : ∀ (x1 : Int32) (x2 : Int32) (x3 : Int32) (x4 : Int32) (h : ck_H), Kc x1 x2 x3 x4 h → ck_W cX0_fewestStones 6 RX0 (some .int) 8 0 0 false gr (ck_Qi ck_shX Q) ck_shX h 0 0 5 [(0, .ref 77), (1, .int x1), (2, .int x2), (3, .int x3), (4, .int x4)] []) : ∀ (x1 : Int32) (x2 : Int32) (x3 : Int32) (x4 : Int32) (h : ck_H), wp_X0_fewestStones_94 Q K100 Kc x1 x2 x3 x4 h → ck_W cX0_fewestStones 6 RX0 (some .int) 8 0 0 false gr (ck_Qi ck_shX Q) ck_shX h 0 0 94 [(0, .ref 77), (1, .int x1), (2, .int x2), (3, .int x3), (4, .int x4)] [] := by
  intro x1 x2 x3 x4 h hq
  obtain ⟨v5, ev5⟩ : ∃ z : Int32, z = x4 + 1 := ⟨_, rfl⟩
  have hq := hq v5 ev5
  refine ck_iinc (v := v5) (lv' := [(4, .int v5), (0, .ref 77), (1, .int x1), (2, .int x2), (3, .int x3)]) 4 dX0_fewestStones_94 rfl (by rw [ev5]; rfl) (by decide) rfl ?_
  refine ck_goto (tgt := 5) dX0_fewestStones_97 (by decide) ?_
  refine ck_loc [1, 2, 3, 4, 0] rfl ?_
  exact hKc _ _ _ _ _ hq
set_option maxHeartbeats 4000000 in
set_option maxRecDepth 100000 in
theorem cp_X0_fewestStones_54 {gr : Bool} {Q : Int32 → ck_H → Prop} {K100 : Int32 → Int32 → Int32 → ck_H → Prop} {Kc : Int32 → Int32 → Int32 → Int32 → ck_H → Prop} (hK100 : ∀ (x1 : Int32) (x2 : Int32) (x3 : Int32) (h : ck_H), K100 x1 x2 x3 h → ck_W cX0_fewestStones 6 RX0 (some .int) 8 0 0 false gr (ck_Qi ck_shX Q) ck_shX h 0 0 100 [(0, .ref 77), (1, .int x1), (2, .int x2), (3, .int x3)] []) (hKc : ∀ (x1 : Int32) (x2 : Int32) (x3 : Int32) (x4 : Int32) (h : ck_H), Kc x1 x2 x3 x4 h → ck_W cX0_fewestStones 6 RX0 (some .int) 8 0 0 false gr (ck_Qi ck_shX Q) ck_shX h 0 0 5 [(0, .ref 77), (1, .int x1), (2, .int x2), (3, .int x3), (4, .int x4)] []) : ∀ (x1 : Int32) (x2 : Int32) (x3 : Int32) (x4 : Int32) (y0 : Int32) (h : ck_H), wp_X0_fewestStones_54 Q K100 Kc x1 x2 x3 x4 y0 h → ck_W cX0_fewestStones 6 RX0 (some .int) 8 0 0 false gr (ck_Qi ck_shX Q) ck_shX h 0 0 54 [(0, .ref 77), (1, .int x1), (2, .int x2), (3, .int x3), (4, .int x4)] [.int y0] := by
  intro x1 x2 x3 x4 y0 h hq
  refine ck_istore (lv' := [(5, .int y0), (0, .ref 77), (1, .int x1), (2, .int x2), (3, .int x3), (4, .int x4)]) dX0_fewestStones_54 (by decide) rfl ?_
  refine ck_iload 0 dX0_fewestStones_56 rfl ?_
  refine ck_if_eq (tgt := 94) dX0_fewestStones_58 (by decide) (fun c4 => ?_) (fun c4 => ?_)
  · have hq := hq.1 c4
    refine ck_loc [1, 2, 3, 4, 5] rfl ?_
    exact cp_X0_fewestStones_94 hK100 hKc _ _ _ _ _ hq
  · have hq := hq.2 c4
    refine ck_aload_n 1 dX0_fewestStones_61 rfl rfl ?_
    refine ck_getR clX0 1 rfl rfl (by decide) fl_X0_25 dX0_fewestStones_62 ?_
    refine ck_getRN clX1 2 rfl rfl (by decide) fl_X0_104 dX0_fewestStones_65 ?_
    refine ck_iload 5 dX0_fewestStones_68 rfl ?_
    obtain ⟨b6, hq⟩ := hq
    refine ck_iald rfl rfl b6 dX0_fewestStones_70 ?_
    refine ck_aload_n 1 dX0_fewestStones_71 rfl rfl ?_
    refine ck_getR clX0 1 rfl rfl (by decide) fl_X0_25 dX0_fewestStones_72 ?_
    refine ck_getIN clX1 5 rfl rfl (by decide) fl_X0_97 dX0_fewestStones_75 ?_
    refine ck_iload_n 2 dX0_fewestStones_78 rfl rfl ?_
    refine ck_iadd dX0_fewestStones_79 ?_
    refine ck_icmp_ge (tgt := 94) dX0_fewestStones_80 (by decide) (fun c7 => ?_) (fun c7 => ?_)
    · have hq := hq.1 c7
      refine ck_loc [1, 2, 3, 4, 5] rfl ?_
      exact cp_X0_fewestStones_94 hK100 hKc _ _ _ _ _ hq
    · have hq := hq.2 c7
      refine ck_aload_n 1 dX0_fewestStones_83 rfl rfl ?_
      refine ck_getR clX0 3 rfl rfl (by decide) fl_X0_9 dX0_fewestStones_84 ?_
      refine ck_iload_n 4 dX0_fewestStones_87 rfl rfl ?_
      refine ck_iload 5 dX0_fewestStones_88 rfl ?_
      obtain ⟨b8, hq⟩ := hq
      refine ck_iast rfl rfl b8 dX0_fewestStones_90 ?_
      refine ck_nmH (fun h9 eh9 => ?_)
      have hq := hq h9 eh9
      obtain ⟨v10, ev10⟩ : ∃ z : Int32, z = x3 + 1 := ⟨_, rfl⟩
      have hq := hq v10 ev10
      refine ck_iinc (v := v10) (lv' := [(3, .int v10), (5, .int y0), (0, .ref 77), (1, .int x1), (2, .int x2), (4, .int x4)]) 4 dX0_fewestStones_91 rfl (by rw [ev10]; rfl) (by decide) rfl ?_
      refine ck_loc [2, 3, 4, 0, 5] rfl ?_
      exact cp_X0_fewestStones_94 hK100 hKc _ _ _ _ _ hq
set_option maxHeartbeats 4000000 in
set_option maxRecDepth 100000 in
theorem cp_X0_fewestStones_53 {gr : Bool} {Q : Int32 → ck_H → Prop} {K100 : Int32 → Int32 → Int32 → ck_H → Prop} {Kc : Int32 → Int32 → Int32 → Int32 → ck_H → Prop} (hK100 : ∀ (x1 : Int32) (x2 : Int32) (x3 : Int32) (h : ck_H), K100 x1 x2 x3 h → ck_W cX0_fewestStones 6 RX0 (some .int) 8 0 0 false gr (ck_Qi ck_shX Q) ck_shX h 0 0 100 [(0, .ref 77), (1, .int x1), (2, .int x2), (3, .int x3)] []) (hKc : ∀ (x1 : Int32) (x2 : Int32) (x3 : Int32) (x4 : Int32) (h : ck_H), Kc x1 x2 x3 x4 h → ck_W cX0_fewestStones 6 RX0 (some .int) 8 0 0 false gr (ck_Qi ck_shX Q) ck_shX h 0 0 5 [(0, .ref 77), (1, .int x1), (2, .int x2), (3, .int x3), (4, .int x4)] []) : ∀ (x1 : Int32) (x2 : Int32) (x3 : Int32) (x4 : Int32) (h : ck_H), wp_X0_fewestStones_53 Q K100 Kc x1 x2 x3 x4 h → ck_W cX0_fewestStones 6 RX0 (some .int) 8 0 0 false gr (ck_Qi ck_shX Q) ck_shX h 0 0 53 [(0, .ref 77), (1, .int x1), (2, .int x2), (3, .int x3), (4, .int x4)] [] := by
  intro x1 x2 x3 x4 h hq
  refine ck_iconst (v := 0) dX0_fewestStones_53 (by decide) ?_
  exact cp_X0_fewestStones_54 hK100 hKc _ _ _ _ _ _ hq
set_option maxHeartbeats 4000000 in
set_option maxRecDepth 100000 in
theorem cp_X0_fewestStones_5 {gr : Bool} {Q : Int32 → ck_H → Prop} {K100 : Int32 → Int32 → Int32 → ck_H → Prop} (hK100 : ∀ (x1 : Int32) (x2 : Int32) (x3 : Int32) (h : ck_H), K100 x1 x2 x3 h → ck_W cX0_fewestStones 6 RX0 (some .int) 8 0 0 false gr (ck_Qi ck_shX Q) ck_shX h 0 0 100 [(0, .ref 77), (1, .int x1), (2, .int x2), (3, .int x3)] []) : ∀ (n : Nat) (x1 : Int32) (x2 : Int32) (x3 : Int32) (x4 : Int32) (h : ck_H), wp_X0_fewestStones_5 Q K100 n x1 x2 x3 x4 h → ck_W cX0_fewestStones 6 RX0 (some .int) 8 0 0 false gr (ck_Qi ck_shX Q) ck_shX h 0 0 5 [(0, .ref 77), (1, .int x1), (2, .int x2), (3, .int x3), (4, .int x4)] [] := by
  intro n
  induction n with
  | zero => intro x1 x2 x3 x4 h hq; exact hq.elim
  | succ n hKc =>
    intro x1 x2 x3 x4 h hq
    refine ck_iload 4 dX0_fewestStones_5 rfl ?_
    refine ck_aload_n 0 dX0_fewestStones_7 rfl rfl ?_
    refine ck_getR clX0 0 rfl rfl (by decide) fl_X0_21 dX0_fewestStones_8 ?_
    refine ck_getRN clX10 2 rfl rfl (by decide) fl_X0_47 dX0_fewestStones_11 ?_
    refine ck_getRN clX7 7 rfl rfl (by decide) fl_X0_76 dX0_fewestStones_14 ?_
    refine ck_getIN clX5 1 rfl rfl (by decide) fl_X0_68 dX0_fewestStones_17 ?_
    refine ck_icmp_ge (tgt := 100) dX0_fewestStones_20 (by decide) (fun c1 => ?_) (fun c1 => ?_)
    · have hq := hq.1 c1
      refine ck_loc [0, 1, 2, 3] rfl ?_
      exact hK100 _ _ _ _ hq
    · have hq := hq.2 c1
      refine ck_aload_n 0 dX0_fewestStones_23 rfl rfl ?_
      refine ck_getR clX0 1 rfl rfl (by decide) fl_X0_25 dX0_fewestStones_24 ?_
      refine ck_getRN clX1 3 rfl rfl (by decide) fl_X0_78 dX0_fewestStones_27 ?_
      refine ck_iload 4 dX0_fewestStones_30 rfl ?_
      obtain ⟨b2, hq⟩ := hq
      refine ck_iald rfl rfl b2 dX0_fewestStones_32 ?_
      refine ck_iconst (v := -1) dX0_fewestStones_33 (by decide) ?_
      refine ck_icmp_ne (tgt := 53) dX0_fewestStones_34 (by decide) (fun c3 => ?_) (fun c3 => ?_)
      · have hq := hq.1 c3
        exact cp_X0_fewestStones_53 hK100 hKc _ _ _ _ _ hq
      · have hq := hq.2 c3
        refine ck_aload_n 0 dX0_fewestStones_37 rfl rfl ?_
        refine ck_getR clX0 1 rfl rfl (by decide) fl_X0_25 dX0_fewestStones_38 ?_
        refine ck_iload 4 dX0_fewestStones_41 rfl ?_
        refine ck_callV (c_X1_hasStone (by simp) hq) rfl cal_X1_hasStone rfl ml_X0_128 vir_X1_hasStone rfl rfl (by decide) (Nat.le_of_ble_eq_true rfl) (Nat.le_of_ble_eq_true rfl) (by decide) (by decide) dX0_fewestStones_43 ?_
        rintro _ _ h11 ⟨r12, rfl, rfl, hq⟩
        refine ck_if_ne (tgt := 53) dX0_fewestStones_46 (by decide) (fun c13 => ?_) (fun c13 => ?_)
        · have hq := hq.1 c13
          exact cp_X0_fewestStones_53 hK100 hKc _ _ _ _ _ hq
        · have hq := hq.2 c13
          refine ck_iconst (v := 1) dX0_fewestStones_49 (by decide) ?_
          refine ck_goto (tgt := 54) dX0_fewestStones_50 (by decide) ?_
          exact cp_X0_fewestStones_54 hK100 hKc _ _ _ _ _ _ hq
set_option maxHeartbeats 4000000 in
set_option maxRecDepth 100000 in
theorem cp_X0_fewestStones_181 {gr : Bool} {Q : Int32 → ck_H → Prop} {K173 : Int32 → Int32 → ck_H → Prop} {K187 : Int32 → Int32 → Int32 → Int32 → ck_H → Prop} {Kc : Int32 → Int32 → Int32 → Int32 → Int32 → ck_H → Prop} (hK173 : ∀ (x3 : Int32) (x5 : Int32) (h : ck_H), K173 x3 x5 h → ck_W cX0_fewestStones 6 RX0 (some .int) 8 0 0 false gr (ck_Qi ck_shX Q) ck_shX h 0 0 173 [(0, .ref 77), (3, .int x3), (5, .int x5)] []) (hK187 : ∀ (x1 : Int32) (x2 : Int32) (x3 : Int32) (x4 : Int32) (h : ck_H), K187 x1 x2 x3 x4 h → ck_W cX0_fewestStones 6 RX0 (some .int) 8 0 0 false gr (ck_Qi ck_shX Q) ck_shX h 0 0 187 [(0, .ref 77), (1, .int x1), (2, .int x2), (3, .int x3), (4, .int x4)] []) (hKc : ∀ (x1 : Int32) (x2 : Int32) (x3 : Int32) (x4 : Int32) (x5 : Int32) (h : ck_H), Kc x1 x2 x3 x4 x5 h → ck_W cX0_fewestStones 6 RX0 (some .int) 8 0 0 false gr (ck_Qi ck_shX Q) ck_shX h 0 0 112 [(0, .ref 77), (1, .int x1), (2, .int x2), (3, .int x3), (4, .int x4), (5, .int x5)] []) : ∀ (x1 : Int32) (x2 : Int32) (x3 : Int32) (x4 : Int32) (x5 : Int32) (h : ck_H), wp_X0_fewestStones_181 Q K173 K187 Kc x1 x2 x3 x4 x5 h → ck_W cX0_fewestStones 6 RX0 (some .int) 8 0 0 false gr (ck_Qi ck_shX Q) ck_shX h 0 0 181 [(0, .ref 77), (1, .int x1), (2, .int x2), (3, .int x3), (4, .int x4), (5, .int x5)] [] := by
  intro x1 x2 x3 x4 x5 h hq
  obtain ⟨v23, ev23⟩ : ∃ z : Int32, z = x5 + 1 := ⟨_, rfl⟩
  have hq := hq v23 ev23
  refine ck_iinc (v := v23) (lv' := [(5, .int v23), (0, .ref 77), (1, .int x1), (2, .int x2), (3, .int x3), (4, .int x4)]) 5 dX0_fewestStones_181 rfl (by rw [ev23]; rfl) (by decide) rfl ?_
  refine ck_goto (tgt := 112) dX0_fewestStones_184 (by decide) ?_
  refine ck_loc [1, 2, 3, 4, 5, 0] rfl ?_
  exact hKc _ _ _ _ _ _ hq
set_option maxHeartbeats 4000000 in
set_option maxRecDepth 100000 in
theorem cp_X0_fewestStones_112 {gr : Bool} {Q : Int32 → ck_H → Prop} {K173 : Int32 → Int32 → ck_H → Prop} {K187 : Int32 → Int32 → Int32 → Int32 → ck_H → Prop} (hK173 : ∀ (x3 : Int32) (x5 : Int32) (h : ck_H), K173 x3 x5 h → ck_W cX0_fewestStones 6 RX0 (some .int) 8 0 0 false gr (ck_Qi ck_shX Q) ck_shX h 0 0 173 [(0, .ref 77), (3, .int x3), (5, .int x5)] []) (hK187 : ∀ (x1 : Int32) (x2 : Int32) (x3 : Int32) (x4 : Int32) (h : ck_H), K187 x1 x2 x3 x4 h → ck_W cX0_fewestStones 6 RX0 (some .int) 8 0 0 false gr (ck_Qi ck_shX Q) ck_shX h 0 0 187 [(0, .ref 77), (1, .int x1), (2, .int x2), (3, .int x3), (4, .int x4)] []) : ∀ (n : Nat) (x1 : Int32) (x2 : Int32) (x3 : Int32) (x4 : Int32) (x5 : Int32) (h : ck_H), wp_X0_fewestStones_112 Q K173 K187 n x1 x2 x3 x4 x5 h → ck_W cX0_fewestStones 6 RX0 (some .int) 8 0 0 false gr (ck_Qi ck_shX Q) ck_shX h 0 0 112 [(0, .ref 77), (1, .int x1), (2, .int x2), (3, .int x3), (4, .int x4), (5, .int x5)] [] := by
  intro n
  induction n with
  | zero => intro x1 x2 x3 x4 x5 h hq; exact hq.elim
  | succ n hKc =>
    intro x1 x2 x3 x4 x5 h hq
    refine ck_iload 5 dX0_fewestStones_112 rfl ?_
    refine ck_iconst (v := 1) dX0_fewestStones_114 (by decide) ?_
    refine ck_iload_n 3 dX0_fewestStones_115 rfl rfl ?_
    refine ck_ishl dX0_fewestStones_116 ?_
    refine ck_icmp_ge (tgt := 187) dX0_fewestStones_117 (by decide) (fun c19 => ?_) (fun c19 => ?_)
    · have hq := hq.1 c19
      refine ck_loc [0, 1, 2, 3, 4] rfl ?_
      exact hK187 _ _ _ _ _ hq
    · have hq := hq.2 c19
      refine ck_iload 5 dX0_fewestStones_120 rfl ?_
      refine ck_callS (c_J6_bitCount_0f7a4 hq) rfl cal_J6_bitCount_0f7a4 rfl ml_X0_132 sta_J6_bitCount_0f7a4 (by decide) (Nat.le_of_ble_eq_true rfl) (Nat.le_of_ble_eq_true rfl) (by decide) (by decide) dX0_fewestStones_122 ?_
      rintro _ _ h20 ⟨r21, rfl, rfl, hq⟩
      refine ck_iload 4 dX0_fewestStones_125 rfl ?_
      refine ck_icmp_ne (tgt := 181) dX0_fewestStones_127 (by decide) (fun c22 => ?_) (fun c22 => ?_)
      · have hq := hq.1 c22
        exact cp_X0_fewestStones_181 hK173 hK187 hKc _ _ _ _ _ _ hq
      · have hq := hq.2 c22
        refine ck_aload_n 0 dX0_fewestStones_130 rfl rfl ?_
        refine ck_callV (c_X0_think hq) rfl cal_X0_think rfl ml_X0_84 vir_X0_think rfl rfl (by decide) (Nat.le_of_ble_eq_true rfl) (Nat.le_of_ble_eq_true rfl) (by decide) (by decide) dX0_fewestStones_131 ?_
        rintro _ _ h24 ⟨rfl, rfl, hq⟩
        refine ck_aload_n 0 dX0_fewestStones_134 rfl rfl ?_
        refine ck_getR clX0 2 rfl rfl (by decide) fl_X0_29 dX0_fewestStones_135 ?_
        refine ck_dup dX0_fewestStones_138 rfl ?_
        refine ck_getIN clX1 4 rfl rfl (by decide) fl_X0_138 dX0_fewestStones_139 ?_
        refine ck_aload_n 0 dX0_fewestStones_142 rfl rfl ?_
        refine ck_iload 5 dX0_fewestStones_143 rfl ?_
        refine ck_iload_n 3 dX0_fewestStones_145 rfl rfl ?_
        refine ck_callV (c_X0_bitsOfSuits hq) rfl cal_X0_bitsOfSuits rfl ml_X0_141 vir_X0_bitsOfSuits rfl rfl (by decide) (Nat.le_of_ble_eq_true rfl) (Nat.le_of_ble_eq_true rfl) (by decide) (by decide) dX0_fewestStones_146 ?_
        rintro _ _ h25 ⟨r26, rfl, rfl, hq⟩
        refine ck_ior dX0_fewestStones_149 ?_
        refine ck_putIN clX1 4 rfl rfl (by decide) fl_X0_138 rfl rfl rfl dX0_fewestStones_150 ?_
        refine ck_nmH (fun h27 eh27 => ?_)
        have hq := hq h27 eh27
        refine ck_aload_n 0 dX0_fewestStones_153 rfl rfl ?_
        refine ck_getR clX0 0 rfl rfl (by decide) fl_X0_21 dX0_fewestStones_154 ?_
        refine ck_aload_n 0 dX0_fewestStones_157 rfl rfl ?_
        refine ck_getR clX0 2 rfl rfl (by decide) fl_X0_29 dX0_fewestStones_158 ?_
        refine ck_iload_n 1 dX0_fewestStones_161 rfl rfl ?_
        refine ck_callV (c_X10_pass (by simp) hq) rfl cal_X10_pass rfl ml_X0_90 vir_X10_pass rfl rfl (by decide) (Nat.le_of_ble_eq_true rfl) (Nat.le_of_ble_eq_true rfl) (by decide) (by decide) dX0_fewestStones_162 ?_
        rintro _ _ h28 ⟨rfl, rfl, hq⟩
        refine ck_aload_n 0 dX0_fewestStones_165 rfl rfl ?_
        refine ck_callV (c_X0_gainMore hq) rfl cal_X0_gainMore rfl ml_X0_107 vir_X0_gainMore rfl rfl (by decide) (Nat.le_of_ble_eq_true rfl) (Nat.le_of_ble_eq_true rfl) (by decide) (by decide) dX0_fewestStones_166 ?_
        rintro _ _ h29 ⟨r30, rfl, rfl, hq⟩
        refine ck_iload_n 2 dX0_fewestStones_169 rfl rfl ?_
        refine ck_icmp_gt (tgt := 181) dX0_fewestStones_170 (by decide) (fun c31 => ?_) (fun c31 => ?_)
        · have hq := hq.1 c31
          exact cp_X0_fewestStones_181 hK173 hK187 hKc _ _ _ _ _ _ hq
        · have hq := hq.2 c31
          refine ck_loc [0, 3, 5] rfl ?_
          exact hK173 _ _ _ hq
set_option maxHeartbeats 4000000 in
set_option maxRecDepth 100000 in
theorem cp_X0_fewestStones_103 {gr : Bool} {Q : Int32 → ck_H → Prop} {K173 : Int32 → Int32 → ck_H → Prop} (hK173 : ∀ (x3 : Int32) (x5 : Int32) (h : ck_H), K173 x3 x5 h → ck_W cX0_fewestStones 6 RX0 (some .int) 8 0 0 false gr (ck_Qi ck_shX Q) ck_shX h 0 0 173 [(0, .ref 77), (3, .int x3), (5, .int x5)] []) : ∀ (n : Nat) (x1 : Int32) (x2 : Int32) (x3 : Int32) (x4 : Int32) (h : ck_H), wp_X0_fewestStones_103 Q K173 n x1 x2 x3 x4 h → ck_W cX0_fewestStones 6 RX0 (some .int) 8 0 0 false gr (ck_Qi ck_shX Q) ck_shX h 0 0 103 [(0, .ref 77), (1, .int x1), (2, .int x2), (3, .int x3), (4, .int x4)] [] := by
  intro n
  induction n with
  | zero => intro x1 x2 x3 x4 h hq; exact hq.elim
  | succ n hKc =>
    intro x1 x2 x3 x4 h hq
    refine ck_iload 4 dX0_fewestStones_103 rfl ?_
    refine ck_iload_n 3 dX0_fewestStones_105 rfl rfl ?_
    refine ck_icmp_gt (tgt := 193) dX0_fewestStones_106 (by decide) (fun c18 => ?_) (fun c18 => ?_)
    · have hq := hq.1 c18
      refine ck_bipush (v := -2) dX0_fewestStones_193 (by decide) ?_
      exact ck_iret rfl rfl rfl rfl dX0_fewestStones_195 ⟨_, rfl, rfl, hq⟩
    · have hq := hq.2 c18
      refine ck_iconst (v := 0) dX0_fewestStones_109 (by decide) ?_
      refine ck_istore (lv' := [(5, .int (0 : Int32)), (0, .ref 77), (1, .int x1), (2, .int x2), (3, .int x3), (4, .int x4)]) dX0_fewestStones_110 (by decide) rfl ?_
      refine ck_loc [1, 2, 3, 4, 5, 0] rfl ?_
      refine cp_X0_fewestStones_112 (fun x33 x34 h32 hq => ?_) (fun x36 x37 x38 x39 h35 hq => ?_) lpN _ _ _ _ _ _ hq
      · exact hK173 _ _ _ hq
      · obtain ⟨v40, ev40⟩ : ∃ z : Int32, z = x39 + 1 := ⟨_, rfl⟩
        have hq := hq v40 ev40
        refine ck_iinc (v := v40) (lv' := [(4, .int v40), (0, .ref 77), (1, .int x36), (2, .int x37), (3, .int x38)]) 4 dX0_fewestStones_187 rfl (by rw [ev40]; rfl) (by decide) rfl ?_
        refine ck_goto (tgt := 103) dX0_fewestStones_190 (by decide) ?_
        refine ck_loc [1, 2, 3, 4, 0] rfl ?_
        exact hKc _ _ _ _ _ hq
set_option maxHeartbeats 4000000 in
set_option maxRecDepth 100000 in
theorem c_X0_fewestStones {gr : Bool} {x1 : Int32} {x2 : Int32} {h : ck_H} {Q : Int32 → ck_H → Prop} (hq : wp_X0_fewestStones x1 x2 h Q) : ck_M yX0_fewestStones cX0_fewestStones 6 (some .int) 8 0 0 gr ck_shX h [.ref 77, .int x1, .int x2] (ck_Qi ck_shX Q) := by
  refine ck_entry (lv := [(0, .ref 77), (1, .int x1), (2, .int x2)]) false (own := RX0) rfl (fun q => by cases q) (by decide) (Nat.le_of_ble_eq_true rfl) rfl ?_
  refine ck_iconst (v := 0) dX0_fewestStones_0 (by decide) ?_
  refine ck_istore_n (lv' := [(3, .int (0 : Int32)), (0, .ref 77), (1, .int x1), (2, .int x2)]) dX0_fewestStones_1 rfl (by decide) rfl ?_
  refine ck_iconst (v := 0) dX0_fewestStones_2 (by decide) ?_
  refine ck_istore (lv' := [(4, .int (0 : Int32)), (3, .int (0 : Int32)), (0, .ref 77), (1, .int x1), (2, .int x2)]) dX0_fewestStones_3 (by decide) rfl ?_
  refine ck_loc [2, 3, 4, 1, 0] rfl ?_
  refine cp_X0_fewestStones_5 (fun x15 x16 x17 h14 hq => ?_) lpN _ _ _ _ _ hq
  · refine ck_iconst (v := 0) dX0_fewestStones_100 (by decide) ?_
    refine ck_istore (lv' := [(4, .int (0 : Int32)), (0, .ref 77), (1, .int x15), (2, .int x16), (3, .int x17)]) dX0_fewestStones_101 (by decide) rfl ?_
    refine ck_loc [1, 2, 3, 4, 0] rfl ?_
    refine cp_X0_fewestStones_103 (fun x42 x43 h41 hq => ?_) lpN _ _ _ _ _ hq
    · refine ck_aload_n 0 dX0_fewestStones_173 rfl rfl ?_
      refine ck_iload 2 dX0_fewestStones_174 rfl ?_
      refine ck_iload_n 1 dX0_fewestStones_176 rfl rfl ?_
      refine ck_callV (c_X0_bitsOfSuits hq) rfl cal_X0_bitsOfSuits rfl ml_X0_141 vir_X0_bitsOfSuits rfl rfl (by decide) (Nat.le_of_ble_eq_true rfl) (Nat.le_of_ble_eq_true rfl) (by decide) (by decide) dX0_fewestStones_177 ?_
      rintro _ _ h44 ⟨r45, rfl, rfl, hq⟩
      exact ck_iret rfl rfl rfl rfl dX0_fewestStones_180 ⟨_, rfl, rfl, hq⟩
def wp_X0_thinkFromTextWith (x1 : Int32) (h : ck_H) (Q : ck_H → Prop) : Prop := (wp_X10_asTheyAre h (fun h1 => (∀ h2, h2 = ck_sI h1 74 5 x1 → (wp_X1_beginAsTold 17 32 h2 (fun h3 => (∀ h4, h4 = ck_sI h3 17 6 x1 → Q h4))))))
set_option maxHeartbeats 4000000 in
set_option maxRecDepth 100000 in
theorem c_X0_thinkFromTextWith {gr : Bool} {x1 : Int32} {h : ck_H} {Q : ck_H → Prop} (hq : wp_X0_thinkFromTextWith x1 h Q) : ck_M yX0_thinkFromTextWith cX0_thinkFromTextWith 2 none 4 0 0 gr ck_shX h [.ref 77, .int x1] (ck_Qv ck_shX Q) := by
  refine ck_entry (lv := [(0, .ref 77), (1, .int x1)]) false (own := RX0) rfl (fun q => by cases q) (by decide) (Nat.le_of_ble_eq_true rfl) rfl ?_
  refine ck_aload_n 0 dX0_thinkFromTextWith_0 rfl rfl ?_
  refine ck_getR clX0 0 rfl rfl (by decide) fl_X0_21 dX0_thinkFromTextWith_1 ?_
  refine ck_callV (c_X10_asTheyAre hq) rfl cal_X10_asTheyAre rfl ml_X0_32 vir_X10_asTheyAre rfl rfl (by decide) (Nat.le_of_ble_eq_true rfl) (Nat.le_of_ble_eq_true rfl) (by decide) (by decide) dX0_thinkFromTextWith_4 ?_
  rintro _ _ h1 ⟨rfl, rfl, hq⟩
  refine ck_aload_n 0 dX0_thinkFromTextWith_7 rfl rfl ?_
  refine ck_getR clX0 0 rfl rfl (by decide) fl_X0_21 dX0_thinkFromTextWith_8 ?_
  refine ck_iload_n 1 dX0_thinkFromTextWith_11 rfl rfl ?_
  refine ck_putIN clX10 5 rfl rfl (by decide) fl_X0_43 rfl rfl rfl dX0_thinkFromTextWith_12 ?_
  refine ck_nmH (fun h2 eh2 => ?_)
  have hq := hq h2 eh2
  refine ck_aload_n 0 dX0_thinkFromTextWith_15 rfl rfl ?_
  refine ck_getR clX0 2 rfl rfl (by decide) fl_X0_29 dX0_thinkFromTextWith_16 ?_
  refine ck_aload_n 0 dX0_thinkFromTextWith_19 rfl rfl ?_
  refine ck_getR clX0 0 rfl rfl (by decide) fl_X0_21 dX0_thinkFromTextWith_20 ?_
  refine ck_getRN clX10 2 rfl rfl (by decide) fl_X0_47 dX0_thinkFromTextWith_23 ?_
  refine ck_callV (c_X1_beginAsTold (by simp) hq) rfl cal_X1_beginAsTold rfl ml_X0_51 vir_X1_beginAsTold rfl rfl (by decide) (Nat.le_of_ble_eq_true rfl) (Nat.le_of_ble_eq_true rfl) (by decide) (by decide) dX0_thinkFromTextWith_26 ?_
  rintro _ _ h3 ⟨rfl, rfl, hq⟩
  refine ck_aload_n 0 dX0_thinkFromTextWith_29 rfl rfl ?_
  refine ck_getR clX0 2 rfl rfl (by decide) fl_X0_29 dX0_thinkFromTextWith_30 ?_
  refine ck_iload_n 1 dX0_thinkFromTextWith_33 rfl rfl ?_
  refine ck_putIN clX1 6 rfl rfl (by decide) fl_X0_55 rfl rfl rfl dX0_thinkFromTextWith_34 ?_
  refine ck_nmH (fun h4 eh4 => ?_)
  have hq := hq h4 eh4
  exact ck_vret rfl rfl rfl dX0_thinkFromTextWith_37 ⟨rfl, rfl, hq⟩
