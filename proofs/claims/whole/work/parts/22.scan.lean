theorem dX8_init_0 : decode cX8_init 0 = .ok (.aload_n 0, 1) := by decide +kernel
theorem dX8_init_1 : decode cX8_init 1 = .ok (.invokespecial 3, 3) := by decide +kernel
theorem dX8_init_4 : decode cX8_init 4 = .ok (.aload_n 0, 1) := by decide +kernel
theorem dX8_init_5 : decode cX8_init 5 = .ok (.bipush 19, 2) := by decide +kernel
theorem dX8_init_7 : decode cX8_init 7 = .ok (.newarray .int, 2) := by decide +kernel
theorem dX8_init_9 : decode cX8_init 9 = .ok (.putfield 9, 3) := by decide +kernel
theorem dX8_init_12 : decode cX8_init 12 = .ok (.aload_n 0, 1) := by decide +kernel
theorem dX8_init_13 : decode cX8_init 13 = .ok (.aload_n 1, 1) := by decide +kernel
theorem dX8_init_14 : decode cX8_init 14 = .ok (.putfield 15, 3) := by decide +kernel
theorem dX8_init_17 : decode cX8_init 17 = .ok (.iconst 0, 1) := by decide +kernel
theorem dX8_init_18 : decode cX8_init 18 = .ok (.istore_n 2, 1) := by decide +kernel
theorem dX8_init_19 : decode cX8_init 19 = .ok (.bipush 25, 2) := by decide +kernel
theorem dX8_init_21 : decode cX8_init 21 = .ok (.istore_n 3, 1) := by decide +kernel
theorem dX8_init_22 : decode cX8_init 22 = .ok (.iconst 0, 1) := by decide +kernel
theorem dX8_init_23 : decode cX8_init 23 = .ok (.istore 4, 2) := by decide +kernel
theorem dX8_init_25 : decode cX8_init 25 = .ok (.iload 4, 2) := by decide +kernel
theorem dX8_init_27 : decode cX8_init 27 = .ok (.ldc 19, 2) := by decide +kernel
theorem dX8_init_29 : decode cX8_init 29 = .ok (.invokevirtual 21, 3) := by decide +kernel
theorem dX8_init_32 : decode cX8_init 32 = .ok (.if_icmp .ge 61, 3) := by decide +kernel
theorem dX8_init_35 : decode cX8_init 35 = .ok (.iload_n 2, 1) := by decide +kernel
theorem dX8_init_36 : decode cX8_init 36 = .ok (.bipush 19, 2) := by decide +kernel
theorem dX8_init_38 : decode cX8_init 38 = .ok (.if_icmp .ge 55, 3) := by decide +kernel
theorem dX8_init_41 : decode cX8_init 41 = .ok (.ldc 19, 2) := by decide +kernel
theorem dX8_init_43 : decode cX8_init 43 = .ok (.iload 4, 2) := by decide +kernel
theorem dX8_init_45 : decode cX8_init 45 = .ok (.invokevirtual 27, 3) := by decide +kernel
theorem dX8_init_48 : decode cX8_init 48 = .ok (.istore 5, 2) := by decide +kernel
theorem dX8_init_50 : decode cX8_init 50 = .ok (.iload 5, 2) := by decide +kernel
theorem dX8_init_52 : decode cX8_init 52 = .ok (.bipush 32, 2) := by decide +kernel
theorem dX8_init_54 : decode cX8_init 54 = .ok (.if_icmp .ne 12, 3) := by decide +kernel
theorem dX8_init_57 : decode cX8_init 57 = .ok (.iinc 2 1, 3) := by decide +kernel
theorem dX8_init_60 : decode cX8_init 60 = .ok (.bipush 25, 2) := by decide +kernel
theorem dX8_init_62 : decode cX8_init 62 = .ok (.istore_n 3, 1) := by decide +kernel
theorem dX8_init_63 : decode cX8_init 63 = .ok (.goto 24, 3) := by decide +kernel
theorem dX8_init_66 : decode cX8_init 66 = .ok (.aload_n 0, 1) := by decide +kernel
theorem dX8_init_67 : decode cX8_init 67 = .ok (.getfield 9, 3) := by decide +kernel
theorem dX8_init_70 : decode cX8_init 70 = .ok (.iload_n 2, 1) := by decide +kernel
theorem dX8_init_71 : decode cX8_init 71 = .ok (.dup2, 1) := by decide +kernel
theorem dX8_init_72 : decode cX8_init 72 = .ok (.iaload, 1) := by decide +kernel
theorem dX8_init_73 : decode cX8_init 73 = .ok (.iload 5, 2) := by decide +kernel
theorem dX8_init_75 : decode cX8_init 75 = .ok (.bipush 97, 2) := by decide +kernel
theorem dX8_init_77 : decode cX8_init 77 = .ok (.isub, 1) := by decide +kernel
theorem dX8_init_78 : decode cX8_init 78 = .ok (.iconst 1, 1) := by decide +kernel
theorem dX8_init_79 : decode cX8_init 79 = .ok (.iadd, 1) := by decide +kernel
theorem dX8_init_80 : decode cX8_init 80 = .ok (.iload_n 3, 1) := by decide +kernel
theorem dX8_init_81 : decode cX8_init 81 = .ok (.ishl, 1) := by decide +kernel
theorem dX8_init_82 : decode cX8_init 82 = .ok (.ior, 1) := by decide +kernel
theorem dX8_init_83 : decode cX8_init 83 = .ok (.iastore, 1) := by decide +kernel
theorem dX8_init_84 : decode cX8_init 84 = .ok (.iinc 3 (-5), 3) := by decide +kernel
theorem dX8_init_87 : decode cX8_init 87 = .ok (.iinc 4 1, 3) := by decide +kernel
theorem dX8_init_90 : decode cX8_init 90 = .ok (.goto (-65), 3) := by decide +kernel
theorem dX8_init_93 : decode cX8_init 93 = .ok (.return_, 1) := by decide +kernel
theorem dX8_begin_0 : decode cX8_begin 0 = .ok (.aload_n 0, 1) := by decide +kernel
theorem dX8_begin_1 : decode cX8_begin 1 = .ok (.iload_n 1, 1) := by decide +kernel
theorem dX8_begin_2 : decode cX8_begin 2 = .ok (.aload_n 0, 1) := by decide +kernel
theorem dX8_begin_3 : decode cX8_begin 3 = .ok (.getfield 15, 3) := by decide +kernel
theorem dX8_begin_6 : decode cX8_begin 6 = .ok (.arraylength, 1) := by decide +kernel
theorem dX8_begin_7 : decode cX8_begin 7 = .ok (.if_icmp .ge 7, 3) := by decide +kernel
theorem dX8_begin_10 : decode cX8_begin 10 = .ok (.iload_n 1, 1) := by decide +kernel
theorem dX8_begin_11 : decode cX8_begin 11 = .ok (.goto 8, 3) := by decide +kernel
theorem dX8_begin_14 : decode cX8_begin 14 = .ok (.aload_n 0, 1) := by decide +kernel
theorem dX8_begin_15 : decode cX8_begin 15 = .ok (.getfield 15, 3) := by decide +kernel
theorem dX8_begin_18 : decode cX8_begin 18 = .ok (.arraylength, 1) := by decide +kernel
theorem dX8_begin_19 : decode cX8_begin 19 = .ok (.putfield 31, 3) := by decide +kernel
theorem dX8_begin_22 : decode cX8_begin 22 = .ok (.aload_n 0, 1) := by decide +kernel
theorem dX8_begin_23 : decode cX8_begin 23 = .ok (.iconst 0, 1) := by decide +kernel
theorem dX8_begin_24 : decode cX8_begin 24 = .ok (.putfield 34, 3) := by decide +kernel
theorem dX8_begin_27 : decode cX8_begin 27 = .ok (.aload_n 0, 1) := by decide +kernel
theorem dX8_begin_28 : decode cX8_begin 28 = .ok (.invokevirtual 37, 3) := by decide +kernel
theorem dX8_begin_31 : decode cX8_begin 31 = .ok (.return_, 1) := by decide +kernel
theorem dX8_next_0 : decode cX8_next 0 = .ok (.aload_n 0, 1) := by decide +kernel
theorem dX8_next_1 : decode cX8_next 1 = .ok (.getfield 34, 3) := by decide +kernel
theorem dX8_next_4 : decode cX8_next 4 = .ok (.aload_n 0, 1) := by decide +kernel
theorem dX8_next_5 : decode cX8_next 5 = .ok (.getfield 31, 3) := by decide +kernel
theorem dX8_next_8 : decode cX8_next 8 = .ok (.if_icmp .ge 44, 3) := by decide +kernel
theorem dX8_next_11 : decode cX8_next 11 = .ok (.aload_n 0, 1) := by decide +kernel
theorem dX8_next_12 : decode cX8_next 12 = .ok (.getfield 15, 3) := by decide +kernel
theorem dX8_next_15 : decode cX8_next 15 = .ok (.aload_n 0, 1) := by decide +kernel
theorem dX8_next_16 : decode cX8_next 16 = .ok (.getfield 34, 3) := by decide +kernel
theorem dX8_next_19 : decode cX8_next 19 = .ok (.baload, 1) := by decide +kernel
theorem dX8_next_20 : decode cX8_next 20 = .ok (.bipush 10, 2) := by decide +kernel
theorem dX8_next_22 : decode cX8_next 22 = .ok (.if_icmp .eq 17, 3) := by decide +kernel
theorem dX8_next_25 : decode cX8_next 25 = .ok (.aload_n 0, 1) := by decide +kernel
theorem dX8_next_26 : decode cX8_next 26 = .ok (.getfield 15, 3) := by decide +kernel
theorem dX8_next_29 : decode cX8_next 29 = .ok (.aload_n 0, 1) := by decide +kernel
theorem dX8_next_30 : decode cX8_next 30 = .ok (.getfield 34, 3) := by decide +kernel
theorem dX8_next_33 : decode cX8_next 33 = .ok (.baload, 1) := by decide +kernel
theorem dX8_next_34 : decode cX8_next 34 = .ok (.bipush 32, 2) := by decide +kernel
theorem dX8_next_36 : decode cX8_next 36 = .ok (.if_icmp .ne 16, 3) := by decide +kernel
theorem dX8_next_39 : decode cX8_next 39 = .ok (.aload_n 0, 1) := by decide +kernel
theorem dX8_next_40 : decode cX8_next 40 = .ok (.dup, 1) := by decide +kernel
theorem dX8_next_41 : decode cX8_next 41 = .ok (.getfield 34, 3) := by decide +kernel
theorem dX8_next_44 : decode cX8_next 44 = .ok (.iconst 1, 1) := by decide +kernel
theorem dX8_next_45 : decode cX8_next 45 = .ok (.iadd, 1) := by decide +kernel
theorem dX8_next_46 : decode cX8_next 46 = .ok (.putfield 34, 3) := by decide +kernel
theorem dX8_next_49 : decode cX8_next 49 = .ok (.goto (-49), 3) := by decide +kernel
theorem dX8_next_52 : decode cX8_next 52 = .ok (.aload_n 0, 1) := by decide +kernel
theorem dX8_next_53 : decode cX8_next 53 = .ok (.aload_n 0, 1) := by decide +kernel
theorem dX8_next_54 : decode cX8_next 54 = .ok (.getfield 34, 3) := by decide +kernel
theorem dX8_next_57 : decode cX8_next 57 = .ok (.putfield 40, 3) := by decide +kernel
theorem dX8_next_60 : decode cX8_next 60 = .ok (.aload_n 0, 1) := by decide +kernel
theorem dX8_next_61 : decode cX8_next 61 = .ok (.getfield 34, 3) := by decide +kernel
theorem dX8_next_64 : decode cX8_next 64 = .ok (.aload_n 0, 1) := by decide +kernel
theorem dX8_next_65 : decode cX8_next 65 = .ok (.getfield 31, 3) := by decide +kernel
theorem dX8_next_68 : decode cX8_next 68 = .ok (.if_icmp .lt 11, 3) := by decide +kernel
theorem dX8_next_71 : decode cX8_next 71 = .ok (.aload_n 0, 1) := by decide +kernel
theorem dX8_next_72 : decode cX8_next 72 = .ok (.iconst 0, 1) := by decide +kernel
theorem dX8_next_73 : decode cX8_next 73 = .ok (.putfield 43, 3) := by decide +kernel
theorem dX8_next_76 : decode cX8_next 76 = .ok (.goto 86, 3) := by decide +kernel
theorem dX8_next_79 : decode cX8_next 79 = .ok (.aload_n 0, 1) := by decide +kernel
theorem dX8_next_80 : decode cX8_next 80 = .ok (.getfield 15, 3) := by decide +kernel
theorem dX8_next_83 : decode cX8_next 83 = .ok (.aload_n 0, 1) := by decide +kernel
theorem dX8_next_84 : decode cX8_next 84 = .ok (.getfield 34, 3) := by decide +kernel
theorem dX8_next_87 : decode cX8_next 87 = .ok (.baload, 1) := by decide +kernel
theorem dX8_next_88 : decode cX8_next 88 = .ok (.bipush 97, 2) := by decide +kernel
theorem dX8_next_90 : decode cX8_next 90 = .ok (.if_icmp .lt 24, 3) := by decide +kernel
theorem dX8_next_93 : decode cX8_next 93 = .ok (.aload_n 0, 1) := by decide +kernel
theorem dX8_next_94 : decode cX8_next 94 = .ok (.getfield 15, 3) := by decide +kernel
theorem dX8_next_97 : decode cX8_next 97 = .ok (.aload_n 0, 1) := by decide +kernel
theorem dX8_next_98 : decode cX8_next 98 = .ok (.getfield 34, 3) := by decide +kernel
theorem dX8_next_101 : decode cX8_next 101 = .ok (.baload, 1) := by decide +kernel
theorem dX8_next_102 : decode cX8_next 102 = .ok (.bipush 122, 2) := by decide +kernel
theorem dX8_next_104 : decode cX8_next 104 = .ok (.if_icmp .gt 10, 3) := by decide +kernel
theorem dX8_next_107 : decode cX8_next 107 = .ok (.aload_n 0, 1) := by decide +kernel
theorem dX8_next_108 : decode cX8_next 108 = .ok (.invokevirtual 46, 3) := by decide +kernel
theorem dX8_next_111 : decode cX8_next 111 = .ok (.goto 51, 3) := by decide +kernel
theorem dX8_next_114 : decode cX8_next 114 = .ok (.aload_n 0, 1) := by decide +kernel
theorem dX8_next_115 : decode cX8_next 115 = .ok (.getfield 15, 3) := by decide +kernel
theorem dX8_next_118 : decode cX8_next 118 = .ok (.aload_n 0, 1) := by decide +kernel
theorem dX8_next_119 : decode cX8_next 119 = .ok (.getfield 34, 3) := by decide +kernel
theorem dX8_next_122 : decode cX8_next 122 = .ok (.baload, 1) := by decide +kernel
theorem dX8_next_123 : decode cX8_next 123 = .ok (.bipush 48, 2) := by decide +kernel
theorem dX8_next_125 : decode cX8_next 125 = .ok (.if_icmp .lt 24, 3) := by decide +kernel
theorem dX8_next_128 : decode cX8_next 128 = .ok (.aload_n 0, 1) := by decide +kernel
theorem dX8_next_129 : decode cX8_next 129 = .ok (.getfield 15, 3) := by decide +kernel
theorem dX8_next_132 : decode cX8_next 132 = .ok (.aload_n 0, 1) := by decide +kernel
theorem dX8_next_133 : decode cX8_next 133 = .ok (.getfield 34, 3) := by decide +kernel
theorem dX8_next_136 : decode cX8_next 136 = .ok (.baload, 1) := by decide +kernel
theorem dX8_next_137 : decode cX8_next 137 = .ok (.bipush 57, 2) := by decide +kernel
theorem dX8_next_139 : decode cX8_next 139 = .ok (.if_icmp .gt 10, 3) := by decide +kernel
theorem dX8_next_142 : decode cX8_next 142 = .ok (.aload_n 0, 1) := by decide +kernel
theorem dX8_next_143 : decode cX8_next 143 = .ok (.invokevirtual 49, 3) := by decide +kernel
theorem dX8_next_146 : decode cX8_next 146 = .ok (.goto 16, 3) := by decide +kernel
theorem dX8_next_149 : decode cX8_next 149 = .ok (.aload_n 0, 1) := by decide +kernel
theorem dX8_next_150 : decode cX8_next 150 = .ok (.aload_n 0, 1) := by decide +kernel
theorem dX8_next_151 : decode cX8_next 151 = .ok (.getfield 15, 3) := by decide +kernel
theorem dX8_next_154 : decode cX8_next 154 = .ok (.aload_n 0, 1) := by decide +kernel
theorem dX8_next_155 : decode cX8_next 155 = .ok (.getfield 34, 3) := by decide +kernel
theorem dX8_next_158 : decode cX8_next 158 = .ok (.baload, 1) := by decide +kernel
theorem dX8_next_159 : decode cX8_next 159 = .ok (.invokevirtual 52, 3) := by decide +kernel
theorem dX8_next_162 : decode cX8_next 162 = .ok (.return_, 1) := by decide +kernel
theorem dX8_readWord_0 : decode cX8_readWord 0 = .ok (.aload_n 0, 1) := by decide +kernel
theorem dX8_readWord_1 : decode cX8_readWord 1 = .ok (.iconst 0, 1) := by decide +kernel
theorem dX8_readWord_2 : decode cX8_readWord 2 = .ok (.putfield 56, 3) := by decide +kernel
theorem dX8_readWord_5 : decode cX8_readWord 5 = .ok (.aload_n 0, 1) := by decide +kernel
theorem dX8_readWord_6 : decode cX8_readWord 6 = .ok (.getfield 34, 3) := by decide +kernel
theorem dX8_readWord_9 : decode cX8_readWord 9 = .ok (.aload_n 0, 1) := by decide +kernel
theorem dX8_readWord_10 : decode cX8_readWord 10 = .ok (.getfield 31, 3) := by decide +kernel
theorem dX8_readWord_13 : decode cX8_readWord 13 = .ok (.if_icmp .ge 90, 3) := by decide +kernel
theorem dX8_readWord_16 : decode cX8_readWord 16 = .ok (.aload_n 0, 1) := by decide +kernel
theorem dX8_readWord_17 : decode cX8_readWord 17 = .ok (.getfield 15, 3) := by decide +kernel
theorem dX8_readWord_20 : decode cX8_readWord 20 = .ok (.aload_n 0, 1) := by decide +kernel
theorem dX8_readWord_21 : decode cX8_readWord 21 = .ok (.getfield 34, 3) := by decide +kernel
theorem dX8_readWord_24 : decode cX8_readWord 24 = .ok (.baload, 1) := by decide +kernel
theorem dX8_readWord_25 : decode cX8_readWord 25 = .ok (.bipush 97, 2) := by decide +kernel
theorem dX8_readWord_27 : decode cX8_readWord 27 = .ok (.if_icmp .lt 76, 3) := by decide +kernel
theorem dX8_readWord_30 : decode cX8_readWord 30 = .ok (.aload_n 0, 1) := by decide +kernel
theorem dX8_readWord_31 : decode cX8_readWord 31 = .ok (.getfield 15, 3) := by decide +kernel
theorem dX8_readWord_34 : decode cX8_readWord 34 = .ok (.aload_n 0, 1) := by decide +kernel
theorem dX8_readWord_35 : decode cX8_readWord 35 = .ok (.getfield 34, 3) := by decide +kernel
theorem dX8_readWord_38 : decode cX8_readWord 38 = .ok (.baload, 1) := by decide +kernel
theorem dX8_readWord_39 : decode cX8_readWord 39 = .ok (.bipush 122, 2) := by decide +kernel
theorem dX8_readWord_41 : decode cX8_readWord 41 = .ok (.if_icmp .gt 62, 3) := by decide +kernel
theorem dX8_readWord_44 : decode cX8_readWord 44 = .ok (.aload_n 0, 1) := by decide +kernel
theorem dX8_readWord_45 : decode cX8_readWord 45 = .ok (.getfield 34, 3) := by decide +kernel
theorem dX8_readWord_48 : decode cX8_readWord 48 = .ok (.aload_n 0, 1) := by decide +kernel
theorem dX8_readWord_49 : decode cX8_readWord 49 = .ok (.getfield 40, 3) := by decide +kernel
theorem dX8_readWord_52 : decode cX8_readWord 52 = .ok (.isub, 1) := by decide +kernel
theorem dX8_readWord_53 : decode cX8_readWord 53 = .ok (.istore_n 1, 1) := by decide +kernel
theorem dX8_readWord_54 : decode cX8_readWord 54 = .ok (.iload_n 1, 1) := by decide +kernel
theorem dX8_readWord_55 : decode cX8_readWord 55 = .ok (.bipush 6, 2) := by decide +kernel
theorem dX8_readWord_57 : decode cX8_readWord 57 = .ok (.if_icmp .ge 33, 3) := by decide +kernel
theorem dX8_readWord_60 : decode cX8_readWord 60 = .ok (.aload_n 0, 1) := by decide +kernel
theorem dX8_readWord_61 : decode cX8_readWord 61 = .ok (.dup, 1) := by decide +kernel
theorem dX8_readWord_62 : decode cX8_readWord 62 = .ok (.getfield 56, 3) := by decide +kernel
theorem dX8_readWord_65 : decode cX8_readWord 65 = .ok (.aload_n 0, 1) := by decide +kernel
theorem dX8_readWord_66 : decode cX8_readWord 66 = .ok (.getfield 15, 3) := by decide +kernel
theorem dX8_readWord_69 : decode cX8_readWord 69 = .ok (.aload_n 0, 1) := by decide +kernel
theorem dX8_readWord_70 : decode cX8_readWord 70 = .ok (.getfield 34, 3) := by decide +kernel
theorem dX8_readWord_73 : decode cX8_readWord 73 = .ok (.baload, 1) := by decide +kernel
theorem dX8_readWord_74 : decode cX8_readWord 74 = .ok (.bipush 97, 2) := by decide +kernel
theorem dX8_readWord_76 : decode cX8_readWord 76 = .ok (.isub, 1) := by decide +kernel
theorem dX8_readWord_77 : decode cX8_readWord 77 = .ok (.iconst 1, 1) := by decide +kernel
theorem dX8_readWord_78 : decode cX8_readWord 78 = .ok (.iadd, 1) := by decide +kernel
theorem dX8_readWord_79 : decode cX8_readWord 79 = .ok (.bipush 25, 2) := by decide +kernel
theorem dX8_readWord_81 : decode cX8_readWord 81 = .ok (.iconst 5, 1) := by decide +kernel
theorem dX8_readWord_82 : decode cX8_readWord 82 = .ok (.iload_n 1, 1) := by decide +kernel
theorem dX8_readWord_83 : decode cX8_readWord 83 = .ok (.imul, 1) := by decide +kernel
theorem dX8_readWord_84 : decode cX8_readWord 84 = .ok (.isub, 1) := by decide +kernel
theorem dX8_readWord_85 : decode cX8_readWord 85 = .ok (.ishl, 1) := by decide +kernel
theorem dX8_readWord_86 : decode cX8_readWord 86 = .ok (.ior, 1) := by decide +kernel
theorem dX8_readWord_87 : decode cX8_readWord 87 = .ok (.putfield 56, 3) := by decide +kernel
theorem dX8_readWord_90 : decode cX8_readWord 90 = .ok (.aload_n 0, 1) := by decide +kernel
theorem dX8_readWord_91 : decode cX8_readWord 91 = .ok (.dup, 1) := by decide +kernel
theorem dX8_readWord_92 : decode cX8_readWord 92 = .ok (.getfield 34, 3) := by decide +kernel
theorem dX8_readWord_95 : decode cX8_readWord 95 = .ok (.iconst 1, 1) := by decide +kernel
theorem dX8_readWord_96 : decode cX8_readWord 96 = .ok (.iadd, 1) := by decide +kernel
theorem dX8_readWord_97 : decode cX8_readWord 97 = .ok (.putfield 34, 3) := by decide +kernel
theorem dX8_readWord_100 : decode cX8_readWord 100 = .ok (.goto (-95), 3) := by decide +kernel
theorem dX8_readWord_103 : decode cX8_readWord 103 = .ok (.aload_n 0, 1) := by decide +kernel
theorem dX8_readWord_104 : decode cX8_readWord 104 = .ok (.iconst 3, 1) := by decide +kernel
theorem dX8_readWord_105 : decode cX8_readWord 105 = .ok (.putfield 43, 3) := by decide +kernel
theorem dX8_readWord_108 : decode cX8_readWord 108 = .ok (.iconst 0, 1) := by decide +kernel
theorem dX8_readWord_109 : decode cX8_readWord 109 = .ok (.istore_n 1, 1) := by decide +kernel
theorem dX8_readWord_110 : decode cX8_readWord 110 = .ok (.iload_n 1, 1) := by decide +kernel
theorem dX8_readWord_111 : decode cX8_readWord 111 = .ok (.bipush 19, 2) := by decide +kernel
theorem dX8_readWord_113 : decode cX8_readWord 113 = .ok (.if_icmp .ge 30, 3) := by decide +kernel
theorem dX8_readWord_116 : decode cX8_readWord 116 = .ok (.aload_n 0, 1) := by decide +kernel
theorem dX8_readWord_117 : decode cX8_readWord 117 = .ok (.getfield 9, 3) := by decide +kernel
theorem dX8_readWord_120 : decode cX8_readWord 120 = .ok (.iload_n 1, 1) := by decide +kernel
theorem dX8_readWord_121 : decode cX8_readWord 121 = .ok (.iaload, 1) := by decide +kernel
theorem dX8_readWord_122 : decode cX8_readWord 122 = .ok (.aload_n 0, 1) := by decide +kernel
theorem dX8_readWord_123 : decode cX8_readWord 123 = .ok (.getfield 56, 3) := by decide +kernel
theorem dX8_readWord_126 : decode cX8_readWord 126 = .ok (.if_icmp .ne 11, 3) := by decide +kernel
theorem dX8_readWord_129 : decode cX8_readWord 129 = .ok (.aload_n 0, 1) := by decide +kernel
theorem dX8_readWord_130 : decode cX8_readWord 130 = .ok (.bipush 20, 2) := by decide +kernel
theorem dX8_readWord_132 : decode cX8_readWord 132 = .ok (.iload_n 1, 1) := by decide +kernel
theorem dX8_readWord_133 : decode cX8_readWord 133 = .ok (.iadd, 1) := by decide +kernel
theorem dX8_readWord_134 : decode cX8_readWord 134 = .ok (.putfield 43, 3) := by decide +kernel
theorem dX8_readWord_137 : decode cX8_readWord 137 = .ok (.iinc 1 1, 3) := by decide +kernel
theorem dX8_readWord_140 : decode cX8_readWord 140 = .ok (.goto (-30), 3) := by decide +kernel
theorem dX8_readWord_143 : decode cX8_readWord 143 = .ok (.aload_n 0, 1) := by decide +kernel
theorem dX8_readWord_144 : decode cX8_readWord 144 = .ok (.getfield 34, 3) := by decide +kernel
theorem dX8_readWord_147 : decode cX8_readWord 147 = .ok (.aload_n 0, 1) := by decide +kernel
theorem dX8_readWord_148 : decode cX8_readWord 148 = .ok (.getfield 40, 3) := by decide +kernel
theorem dX8_readWord_151 : decode cX8_readWord 151 = .ok (.isub, 1) := by decide +kernel
theorem dX8_readWord_152 : decode cX8_readWord 152 = .ok (.bipush 6, 2) := by decide +kernel
theorem dX8_readWord_154 : decode cX8_readWord 154 = .ok (.if_icmp .le 8, 3) := by decide +kernel
theorem dX8_readWord_157 : decode cX8_readWord 157 = .ok (.aload_n 0, 1) := by decide +kernel
theorem dX8_readWord_158 : decode cX8_readWord 158 = .ok (.iconst 1, 1) := by decide +kernel
theorem dX8_readWord_159 : decode cX8_readWord 159 = .ok (.putfield 43, 3) := by decide +kernel
theorem dX8_readWord_162 : decode cX8_readWord 162 = .ok (.return_, 1) := by decide +kernel
theorem dX8_readNumber_0 : decode cX8_readNumber 0 = .ok (.aload_n 0, 1) := by decide +kernel
theorem dX8_readNumber_1 : decode cX8_readNumber 1 = .ok (.iconst 0, 1) := by decide +kernel
theorem dX8_readNumber_2 : decode cX8_readNumber 2 = .ok (.putfield 59, 3) := by decide +kernel
theorem dX8_readNumber_5 : decode cX8_readNumber 5 = .ok (.aload_n 0, 1) := by decide +kernel
theorem dX8_readNumber_6 : decode cX8_readNumber 6 = .ok (.getfield 34, 3) := by decide +kernel
theorem dX8_readNumber_9 : decode cX8_readNumber 9 = .ok (.aload_n 0, 1) := by decide +kernel
theorem dX8_readNumber_10 : decode cX8_readNumber 10 = .ok (.getfield 31, 3) := by decide +kernel
theorem dX8_readNumber_13 : decode cX8_readNumber 13 = .ok (.if_icmp .ge 77, 3) := by decide +kernel
theorem dX8_readNumber_16 : decode cX8_readNumber 16 = .ok (.aload_n 0, 1) := by decide +kernel
theorem dX8_readNumber_17 : decode cX8_readNumber 17 = .ok (.getfield 15, 3) := by decide +kernel
theorem dX8_readNumber_20 : decode cX8_readNumber 20 = .ok (.aload_n 0, 1) := by decide +kernel
theorem dX8_readNumber_21 : decode cX8_readNumber 21 = .ok (.getfield 34, 3) := by decide +kernel
theorem dX8_readNumber_24 : decode cX8_readNumber 24 = .ok (.baload, 1) := by decide +kernel
theorem dX8_readNumber_25 : decode cX8_readNumber 25 = .ok (.bipush 48, 2) := by decide +kernel
theorem dX8_readNumber_27 : decode cX8_readNumber 27 = .ok (.if_icmp .lt 63, 3) := by decide +kernel
theorem dX8_readNumber_30 : decode cX8_readNumber 30 = .ok (.aload_n 0, 1) := by decide +kernel
theorem dX8_readNumber_31 : decode cX8_readNumber 31 = .ok (.getfield 15, 3) := by decide +kernel
theorem dX8_readNumber_34 : decode cX8_readNumber 34 = .ok (.aload_n 0, 1) := by decide +kernel
theorem dX8_readNumber_35 : decode cX8_readNumber 35 = .ok (.getfield 34, 3) := by decide +kernel
theorem dX8_readNumber_38 : decode cX8_readNumber 38 = .ok (.baload, 1) := by decide +kernel
theorem dX8_readNumber_39 : decode cX8_readNumber 39 = .ok (.bipush 57, 2) := by decide +kernel
theorem dX8_readNumber_41 : decode cX8_readNumber 41 = .ok (.if_icmp .gt 49, 3) := by decide +kernel
theorem dX8_readNumber_44 : decode cX8_readNumber 44 = .ok (.aload_n 0, 1) := by decide +kernel
theorem dX8_readNumber_45 : decode cX8_readNumber 45 = .ok (.getfield 59, 3) := by decide +kernel
theorem dX8_readNumber_48 : decode cX8_readNumber 48 = .ok (.ldc 62, 2) := by decide +kernel
theorem dX8_readNumber_50 : decode cX8_readNumber 50 = .ok (.if_icmp .gt 27, 3) := by decide +kernel
theorem dX8_readNumber_53 : decode cX8_readNumber 53 = .ok (.aload_n 0, 1) := by decide +kernel
theorem dX8_readNumber_54 : decode cX8_readNumber 54 = .ok (.bipush 10, 2) := by decide +kernel
theorem dX8_readNumber_56 : decode cX8_readNumber 56 = .ok (.aload_n 0, 1) := by decide +kernel
theorem dX8_readNumber_57 : decode cX8_readNumber 57 = .ok (.getfield 59, 3) := by decide +kernel
theorem dX8_readNumber_60 : decode cX8_readNumber 60 = .ok (.imul, 1) := by decide +kernel
theorem dX8_readNumber_61 : decode cX8_readNumber 61 = .ok (.aload_n 0, 1) := by decide +kernel
theorem dX8_readNumber_62 : decode cX8_readNumber 62 = .ok (.getfield 15, 3) := by decide +kernel
theorem dX8_readNumber_65 : decode cX8_readNumber 65 = .ok (.aload_n 0, 1) := by decide +kernel
theorem dX8_readNumber_66 : decode cX8_readNumber 66 = .ok (.getfield 34, 3) := by decide +kernel
theorem dX8_readNumber_69 : decode cX8_readNumber 69 = .ok (.baload, 1) := by decide +kernel
theorem dX8_readNumber_70 : decode cX8_readNumber 70 = .ok (.iadd, 1) := by decide +kernel
theorem dX8_readNumber_71 : decode cX8_readNumber 71 = .ok (.bipush 48, 2) := by decide +kernel
theorem dX8_readNumber_73 : decode cX8_readNumber 73 = .ok (.isub, 1) := by decide +kernel
theorem dX8_readNumber_74 : decode cX8_readNumber 74 = .ok (.putfield 59, 3) := by decide +kernel
theorem dX8_readNumber_77 : decode cX8_readNumber 77 = .ok (.aload_n 0, 1) := by decide +kernel
theorem dX8_readNumber_78 : decode cX8_readNumber 78 = .ok (.dup, 1) := by decide +kernel
theorem dX8_readNumber_79 : decode cX8_readNumber 79 = .ok (.getfield 34, 3) := by decide +kernel
theorem dX8_readNumber_82 : decode cX8_readNumber 82 = .ok (.iconst 1, 1) := by decide +kernel
theorem dX8_readNumber_83 : decode cX8_readNumber 83 = .ok (.iadd, 1) := by decide +kernel
theorem dX8_readNumber_84 : decode cX8_readNumber 84 = .ok (.putfield 34, 3) := by decide +kernel
theorem dX8_readNumber_87 : decode cX8_readNumber 87 = .ok (.goto (-82), 3) := by decide +kernel
theorem dX8_readNumber_90 : decode cX8_readNumber 90 = .ok (.aload_n 0, 1) := by decide +kernel
theorem dX8_readNumber_91 : decode cX8_readNumber 91 = .ok (.iconst 2, 1) := by decide +kernel
theorem dX8_readNumber_92 : decode cX8_readNumber 92 = .ok (.putfield 43, 3) := by decide +kernel
theorem dX8_readNumber_95 : decode cX8_readNumber 95 = .ok (.return_, 1) := by decide +kernel
theorem dX8_readSign_0 : decode cX8_readSign 0 = .ok (.aload_n 0, 1) := by decide +kernel
theorem dX8_readSign_1 : decode cX8_readSign 1 = .ok (.dup, 1) := by decide +kernel
theorem dX8_readSign_2 : decode cX8_readSign 2 = .ok (.getfield 34, 3) := by decide +kernel
theorem dX8_readSign_5 : decode cX8_readSign 5 = .ok (.iconst 1, 1) := by decide +kernel
theorem dX8_readSign_6 : decode cX8_readSign 6 = .ok (.iadd, 1) := by decide +kernel
theorem dX8_readSign_7 : decode cX8_readSign 7 = .ok (.putfield 34, 3) := by decide +kernel
theorem dX8_readSign_10 : decode cX8_readSign 10 = .ok (.aload_n 0, 1) := by decide +kernel
theorem dX8_readSign_11 : decode cX8_readSign 11 = .ok (.getfield 34, 3) := by decide +kernel
theorem dX8_readSign_14 : decode cX8_readSign 14 = .ok (.aload_n 0, 1) := by decide +kernel
theorem dX8_readSign_15 : decode cX8_readSign 15 = .ok (.getfield 31, 3) := by decide +kernel
theorem dX8_readSign_18 : decode cX8_readSign 18 = .ok (.if_icmp .ge 15, 3) := by decide +kernel
theorem dX8_readSign_21 : decode cX8_readSign 21 = .ok (.aload_n 0, 1) := by decide +kernel
theorem dX8_readSign_22 : decode cX8_readSign 22 = .ok (.getfield 15, 3) := by decide +kernel
theorem dX8_readSign_25 : decode cX8_readSign 25 = .ok (.aload_n 0, 1) := by decide +kernel
theorem dX8_readSign_26 : decode cX8_readSign 26 = .ok (.getfield 34, 3) := by decide +kernel
theorem dX8_readSign_29 : decode cX8_readSign 29 = .ok (.baload, 1) := by decide +kernel
theorem dX8_readSign_30 : decode cX8_readSign 30 = .ok (.goto 4, 3) := by decide +kernel
theorem dX8_readSign_33 : decode cX8_readSign 33 = .ok (.iconst 0, 1) := by decide +kernel
theorem dX8_readSign_34 : decode cX8_readSign 34 = .ok (.istore_n 2, 1) := by decide +kernel
theorem dX8_readSign_35 : decode cX8_readSign 35 = .ok (.iload_n 1, 1) := by decide +kernel
theorem dX8_readSign_36 : decode cX8_readSign 36 = .ok (.tableswitch 229 40 62 #[116, 124, 151, 133, 229, 142, 229, 160, 229, 229, 229, 229, 229, 229, 229, 229, 229, 229, 229, 108, 178, 169, 209], 108) := by decide +kernel
theorem dX8_readSign_144 : decode cX8_readSign 144 = .ok (.aload_n 0, 1) := by decide +kernel
theorem dX8_readSign_145 : decode cX8_readSign 145 = .ok (.iconst 4, 1) := by decide +kernel
theorem dX8_readSign_146 : decode cX8_readSign 146 = .ok (.putfield 43, 3) := by decide +kernel
theorem dX8_readSign_149 : decode cX8_readSign 149 = .ok (.goto 121, 3) := by decide +kernel
theorem dX8_readSign_152 : decode cX8_readSign 152 = .ok (.aload_n 0, 1) := by decide +kernel
theorem dX8_readSign_153 : decode cX8_readSign 153 = .ok (.iconst 5, 1) := by decide +kernel
theorem dX8_readSign_154 : decode cX8_readSign 154 = .ok (.putfield 43, 3) := by decide +kernel
theorem dX8_readSign_157 : decode cX8_readSign 157 = .ok (.goto 113, 3) := by decide +kernel
theorem dX8_readSign_160 : decode cX8_readSign 160 = .ok (.aload_n 0, 1) := by decide +kernel
theorem dX8_readSign_161 : decode cX8_readSign 161 = .ok (.bipush 6, 2) := by decide +kernel
theorem dX8_readSign_163 : decode cX8_readSign 163 = .ok (.putfield 43, 3) := by decide +kernel
theorem dX8_readSign_166 : decode cX8_readSign 166 = .ok (.goto 104, 3) := by decide +kernel
theorem dX8_readSign_169 : decode cX8_readSign 169 = .ok (.aload_n 0, 1) := by decide +kernel
theorem dX8_readSign_170 : decode cX8_readSign 170 = .ok (.bipush 7, 2) := by decide +kernel
theorem dX8_readSign_172 : decode cX8_readSign 172 = .ok (.putfield 43, 3) := by decide +kernel
theorem dX8_readSign_175 : decode cX8_readSign 175 = .ok (.goto 95, 3) := by decide +kernel
theorem dX8_readSign_178 : decode cX8_readSign 178 = .ok (.aload_n 0, 1) := by decide +kernel
theorem dX8_readSign_179 : decode cX8_readSign 179 = .ok (.bipush 8, 2) := by decide +kernel
theorem dX8_readSign_181 : decode cX8_readSign 181 = .ok (.putfield 43, 3) := by decide +kernel
theorem dX8_readSign_184 : decode cX8_readSign 184 = .ok (.goto 86, 3) := by decide +kernel
theorem dX8_readSign_187 : decode cX8_readSign 187 = .ok (.aload_n 0, 1) := by decide +kernel
theorem dX8_readSign_188 : decode cX8_readSign 188 = .ok (.bipush 9, 2) := by decide +kernel
theorem dX8_readSign_190 : decode cX8_readSign 190 = .ok (.putfield 43, 3) := by decide +kernel
theorem dX8_readSign_193 : decode cX8_readSign 193 = .ok (.goto 77, 3) := by decide +kernel
theorem dX8_readSign_196 : decode cX8_readSign 196 = .ok (.aload_n 0, 1) := by decide +kernel
theorem dX8_readSign_197 : decode cX8_readSign 197 = .ok (.bipush 10, 2) := by decide +kernel
theorem dX8_readSign_199 : decode cX8_readSign 199 = .ok (.putfield 43, 3) := by decide +kernel
theorem dX8_readSign_202 : decode cX8_readSign 202 = .ok (.goto 68, 3) := by decide +kernel
theorem dX8_readSign_205 : decode cX8_readSign 205 = .ok (.aload_n 0, 1) := by decide +kernel
theorem dX8_readSign_206 : decode cX8_readSign 206 = .ok (.bipush 13, 2) := by decide +kernel
theorem dX8_readSign_208 : decode cX8_readSign 208 = .ok (.putfield 43, 3) := by decide +kernel
theorem dX8_readSign_211 : decode cX8_readSign 211 = .ok (.goto 59, 3) := by decide +kernel
theorem dX8_readSign_214 : decode cX8_readSign 214 = .ok (.aload_n 0, 1) := by decide +kernel
theorem dX8_readSign_215 : decode cX8_readSign 215 = .ok (.iload_n 2, 1) := by decide +kernel
theorem dX8_readSign_216 : decode cX8_readSign 216 = .ok (.bipush 61, 2) := by decide +kernel
theorem dX8_readSign_218 : decode cX8_readSign 218 = .ok (.if_icmp .ne 8, 3) := by decide +kernel
theorem dX8_readSign_221 : decode cX8_readSign 221 = .ok (.bipush 12, 2) := by decide +kernel
theorem dX8_readSign_223 : decode cX8_readSign 223 = .ok (.goto 16, 3) := by decide +kernel
theorem dX8_readSign_226 : decode cX8_readSign 226 = .ok (.iload_n 2, 1) := by decide +kernel
theorem dX8_readSign_227 : decode cX8_readSign 227 = .ok (.bipush 62, 2) := by decide +kernel
theorem dX8_readSign_229 : decode cX8_readSign 229 = .ok (.if_icmp .ne 8, 3) := by decide +kernel
theorem dX8_readSign_232 : decode cX8_readSign 232 = .ok (.bipush 14, 2) := by decide +kernel
theorem dX8_readSign_234 : decode cX8_readSign 234 = .ok (.goto 5, 3) := by decide +kernel
theorem dX8_readSign_237 : decode cX8_readSign 237 = .ok (.bipush 11, 2) := by decide +kernel
theorem dX8_readSign_239 : decode cX8_readSign 239 = .ok (.putfield 43, 3) := by decide +kernel
theorem dX8_readSign_242 : decode cX8_readSign 242 = .ok (.goto 28, 3) := by decide +kernel
theorem dX8_readSign_245 : decode cX8_readSign 245 = .ok (.aload_n 0, 1) := by decide +kernel
theorem dX8_readSign_246 : decode cX8_readSign 246 = .ok (.iload_n 2, 1) := by decide +kernel
theorem dX8_readSign_247 : decode cX8_readSign 247 = .ok (.bipush 61, 2) := by decide +kernel
theorem dX8_readSign_249 : decode cX8_readSign 249 = .ok (.if_icmp .ne 8, 3) := by decide +kernel
theorem dX8_readSign_252 : decode cX8_readSign 252 = .ok (.bipush 15, 2) := by decide +kernel
theorem dX8_readSign_254 : decode cX8_readSign 254 = .ok (.goto 5, 3) := by decide +kernel
theorem dX8_readSign_257 : decode cX8_readSign 257 = .ok (.bipush 16, 2) := by decide +kernel
theorem dX8_readSign_259 : decode cX8_readSign 259 = .ok (.putfield 43, 3) := by decide +kernel
theorem dX8_readSign_262 : decode cX8_readSign 262 = .ok (.goto 8, 3) := by decide +kernel
theorem dX8_readSign_265 : decode cX8_readSign 265 = .ok (.aload_n 0, 1) := by decide +kernel
theorem dX8_readSign_266 : decode cX8_readSign 266 = .ok (.iconst 1, 1) := by decide +kernel
theorem dX8_readSign_267 : decode cX8_readSign 267 = .ok (.putfield 43, 3) := by decide +kernel
theorem dX8_readSign_270 : decode cX8_readSign 270 = .ok (.aload_n 0, 1) := by decide +kernel
theorem dX8_readSign_271 : decode cX8_readSign 271 = .ok (.getfield 43, 3) := by decide +kernel
theorem dX8_readSign_274 : decode cX8_readSign 274 = .ok (.bipush 12, 2) := by decide +kernel
theorem dX8_readSign_276 : decode cX8_readSign 276 = .ok (.if_icmp .eq 21, 3) := by decide +kernel
theorem dX8_readSign_279 : decode cX8_readSign 279 = .ok (.aload_n 0, 1) := by decide +kernel
theorem dX8_readSign_280 : decode cX8_readSign 280 = .ok (.getfield 43, 3) := by decide +kernel
theorem dX8_readSign_283 : decode cX8_readSign 283 = .ok (.bipush 14, 2) := by decide +kernel
theorem dX8_readSign_285 : decode cX8_readSign 285 = .ok (.if_icmp .eq 12, 3) := by decide +kernel
theorem dX8_readSign_288 : decode cX8_readSign 288 = .ok (.aload_n 0, 1) := by decide +kernel
theorem dX8_readSign_289 : decode cX8_readSign 289 = .ok (.getfield 43, 3) := by decide +kernel
theorem dX8_readSign_292 : decode cX8_readSign 292 = .ok (.bipush 15, 2) := by decide +kernel
theorem dX8_readSign_294 : decode cX8_readSign 294 = .ok (.if_icmp .ne 13, 3) := by decide +kernel
theorem dX8_readSign_297 : decode cX8_readSign 297 = .ok (.aload_n 0, 1) := by decide +kernel
theorem dX8_readSign_298 : decode cX8_readSign 298 = .ok (.dup, 1) := by decide +kernel
theorem dX8_readSign_299 : decode cX8_readSign 299 = .ok (.getfield 34, 3) := by decide +kernel
theorem dX8_readSign_302 : decode cX8_readSign 302 = .ok (.iconst 1, 1) := by decide +kernel
theorem dX8_readSign_303 : decode cX8_readSign 303 = .ok (.iadd, 1) := by decide +kernel
theorem dX8_readSign_304 : decode cX8_readSign 304 = .ok (.putfield 34, 3) := by decide +kernel
theorem dX8_readSign_307 : decode cX8_readSign 307 = .ok (.return_, 1) := by decide +kernel
def wp_X8_readWord_90 (Q : ck_H → Prop) (K103 : ck_H → Prop) (Kc : ck_H → Prop) (h : ck_H) : Prop := (∀ h9, h9 = ck_sI h 3 3 ((h.1 3 3) + (1 : Int32)) → Kc h9)
def wp_X8_readWord_5 (Q : ck_H → Prop) (K103 : ck_H → Prop) : Nat → ck_H → Prop
  | 0 => fun _ => False
  | n + 1 => fun h => (((h.1 3 2) ≤ (h.1 3 3) → K103 h) ∧ (¬ (h.1 3 2) ≤ (h.1 3 3) → (vp_in (h.1 3 3) 700 ∧ (((h.1 1 (h.1 3 3).toNatClampNeg) < (97 : Int32) → K103 h) ∧ (¬ (h.1 1 (h.1 3 3).toNatClampNeg) < (97 : Int32) → (vp_in (h.1 3 3) 700 ∧ (((122 : Int32) < (h.1 1 (h.1 3 3).toNatClampNeg) → K103 h) ∧ (¬ (122 : Int32) < (h.1 1 (h.1 3 3).toNatClampNeg) → (∀ v7, v7 = ((h.1 3 3) - (h.1 3 5)) → (((6 : Int32) ≤ v7 → wp_X8_readWord_90 Q K103 (wp_X8_readWord_5 Q K103 n) h) ∧ (¬ (6 : Int32) ≤ v7 → (vp_in (h.1 3 3) 700 ∧ (∀ h11, h11 = ck_sI h 3 7 ((h.1 3 7) ||| ((((h.1 1 (h.1 3 3).toNatClampNeg) - (97 : Int32)) + (1 : Int32)) <<< (((25 : Int32) - ((5 : Int32) * v7)) &&& 31))) → wp_X8_readWord_90 Q K103 (wp_X8_readWord_5 Q K103 n) h11)))))))))))))
def wp_X8_readWord_137 (Q : ck_H → Prop) (K143 : ck_H → Prop) (Kc : Int32 → ck_H → Prop) (x1 : Int32) (h : ck_H) : Prop := (∀ v17, v17 = x1 + 1 → Kc v17 h)
def wp_X8_readWord_110 (Q : ck_H → Prop) (K143 : ck_H → Prop) : Nat → Int32 → ck_H → Prop
  | 0 => fun _ _ => False
  | n + 1 => fun x1 h => (((19 : Int32) ≤ x1 → K143 h) ∧ (¬ (19 : Int32) ≤ x1 → (vp_in x1 19 ∧ ((¬ (h.1 4 x1.toNatClampNeg) = (h.1 3 7) → wp_X8_readWord_137 Q K143 (wp_X8_readWord_110 Q K143 n) x1 h) ∧ ((h.1 4 x1.toNatClampNeg) = (h.1 3 7) → (∀ h18, h18 = ck_sI h 3 4 ((20 : Int32) + x1) → wp_X8_readWord_137 Q K143 (wp_X8_readWord_110 Q K143 n) x1 h18))))))
def wp_X8_readWord_103 (Q : ck_H → Prop) (h : ck_H) : Prop := (∀ h13, h13 = ck_sI h 3 4 (3 : Int32) → wp_X8_readWord_110 Q (fun h19 => ((((h19.1 3 3) - (h19.1 3 5)) ≤ (6 : Int32) → Q h19) ∧ (¬ ((h19.1 3 3) - (h19.1 3 5)) ≤ (6 : Int32) → (∀ h21, h21 = ck_sI h19 3 4 (1 : Int32) → Q h21)))) lpN (0 : Int32) h13)
def wp_X8_readWord (h : ck_H) (Q : ck_H → Prop) : Prop := (∀ h1, h1 = ck_sI h 3 7 (0 : Int32) → wp_X8_readWord_5 Q (fun h12 => wp_X8_readWord_103 Q h12) lpN h1)
set_option maxHeartbeats 4000000 in
set_option maxRecDepth 100000 in
theorem cp_X8_readWord_90 {gr : Bool} {Q : ck_H → Prop} {K103 : ck_H → Prop} {Kc : ck_H → Prop} (hK103 : ∀ (h : ck_H), K103 h → ck_W cX8_readWord 2 RX8 none 2 0 0 false gr (ck_Qv ck_shX Q) ck_shX h 0 0 103 [(0, .ref 3)] []) (hKc : ∀ (h : ck_H), Kc h → ck_W cX8_readWord 2 RX8 none 2 0 0 false gr (ck_Qv ck_shX Q) ck_shX h 0 0 5 [(0, .ref 3)] []) : ∀ (h : ck_H), wp_X8_readWord_90 Q K103 Kc h → ck_W cX8_readWord 2 RX8 none 2 0 0 false gr (ck_Qv ck_shX Q) ck_shX h 0 0 90 [(0, .ref 3)] [] := by
  intro h hq
  refine ck_aload_n 0 dX8_readWord_90 rfl rfl ?_
  refine ck_dup dX8_readWord_91 rfl ?_
  refine ck_getI clX8 3 rfl rfl (by decide) fl_X8_34 dX8_readWord_92 ?_
  refine ck_iconst (v := 1) dX8_readWord_95 (by decide) ?_
  refine ck_iadd dX8_readWord_96 ?_
  refine ck_putI clX8 3 rfl rfl (by decide) fl_X8_34 rfl rfl rfl dX8_readWord_97 ?_
  refine ck_nmH (fun h9 eh9 => ?_)
  have hq := hq h9 eh9
  refine ck_goto (tgt := 5) dX8_readWord_100 (by decide) ?_
  exact hKc  _ hq
set_option maxHeartbeats 4000000 in
set_option maxRecDepth 100000 in
theorem cp_X8_readWord_5 {gr : Bool} {Q : ck_H → Prop} {K103 : ck_H → Prop} (hK103 : ∀ (h : ck_H), K103 h → ck_W cX8_readWord 2 RX8 none 2 0 0 false gr (ck_Qv ck_shX Q) ck_shX h 0 0 103 [(0, .ref 3)] []) : ∀ (n : Nat) (h : ck_H), wp_X8_readWord_5 Q K103 n h → ck_W cX8_readWord 2 RX8 none 2 0 0 false gr (ck_Qv ck_shX Q) ck_shX h 0 0 5 [(0, .ref 3)] [] := by
  intro n
  induction n with
  | zero => intro h hq; exact hq.elim
  | succ n hKc =>
    intro h hq
    refine ck_aload_n 0 dX8_readWord_5 rfl rfl ?_
    refine ck_getI clX8 3 rfl rfl (by decide) fl_X8_34 dX8_readWord_6 ?_
    refine ck_aload_n 0 dX8_readWord_9 rfl rfl ?_
    refine ck_getI clX8 2 rfl rfl (by decide) fl_X8_31 dX8_readWord_10 ?_
    refine ck_icmp_ge (tgt := 103) dX8_readWord_13 (by decide) (fun c2 => ?_) (fun c2 => ?_)
    · have hq := hq.1 c2
      exact hK103  _ hq
    · have hq := hq.2 c2
      refine ck_aload_n 0 dX8_readWord_16 rfl rfl ?_
      refine ck_getR clX8 0 rfl rfl (by decide) fl_X8_15 dX8_readWord_17 ?_
      refine ck_aload_n 0 dX8_readWord_20 rfl rfl ?_
      refine ck_getI clX8 3 rfl rfl (by decide) fl_X8_34 dX8_readWord_21 ?_
      obtain ⟨b3, hq⟩ := hq
      refine ck_bald rfl rfl b3 dX8_readWord_24 ?_
      refine ck_bipush (v := 97) dX8_readWord_25 (by decide) ?_
      refine ck_icmp_lt (tgt := 103) dX8_readWord_27 (by decide) (fun c4 => ?_) (fun c4 => ?_)
      · have hq := hq.1 c4
        exact hK103  _ hq
      · have hq := hq.2 c4
        refine ck_aload_n 0 dX8_readWord_30 rfl rfl ?_
        refine ck_getR clX8 0 rfl rfl (by decide) fl_X8_15 dX8_readWord_31 ?_
        refine ck_aload_n 0 dX8_readWord_34 rfl rfl ?_
        refine ck_getI clX8 3 rfl rfl (by decide) fl_X8_34 dX8_readWord_35 ?_
        obtain ⟨b5, hq⟩ := hq
        refine ck_bald rfl rfl b5 dX8_readWord_38 ?_
        refine ck_bipush (v := 122) dX8_readWord_39 (by decide) ?_
        refine ck_icmp_gt (tgt := 103) dX8_readWord_41 (by decide) (fun c6 => ?_) (fun c6 => ?_)
        · have hq := hq.1 c6
          exact hK103  _ hq
        · have hq := hq.2 c6
          refine ck_aload_n 0 dX8_readWord_44 rfl rfl ?_
          refine ck_getI clX8 3 rfl rfl (by decide) fl_X8_34 dX8_readWord_45 ?_
          refine ck_aload_n 0 dX8_readWord_48 rfl rfl ?_
          refine ck_getI clX8 5 rfl rfl (by decide) fl_X8_40 dX8_readWord_49 ?_
          refine ck_isub dX8_readWord_52 ?_
          refine ck_nmI (fun v7 ev7 => ?_)
          have hq := hq v7 ev7
          refine ck_istore_n (lv' := [(1, .int v7), (0, .ref 3)]) dX8_readWord_53 rfl (by decide) rfl ?_
          refine ck_iload_n 0 dX8_readWord_54 rfl rfl ?_
          refine ck_bipush (v := 6) dX8_readWord_55 (by decide) ?_
          refine ck_icmp_ge (tgt := 90) dX8_readWord_57 (by decide) (fun c8 => ?_) (fun c8 => ?_)
          · have hq := hq.1 c8
            refine ck_loc [1] rfl ?_
            exact cp_X8_readWord_90 hK103 hKc  _ hq
          · have hq := hq.2 c8
            refine ck_aload_n 1 dX8_readWord_60 rfl rfl ?_
            refine ck_dup dX8_readWord_61 rfl ?_
            refine ck_getI clX8 7 rfl rfl (by decide) fl_X8_56 dX8_readWord_62 ?_
            refine ck_aload_n 1 dX8_readWord_65 rfl rfl ?_
            refine ck_getR clX8 0 rfl rfl (by decide) fl_X8_15 dX8_readWord_66 ?_
            refine ck_aload_n 1 dX8_readWord_69 rfl rfl ?_
            refine ck_getI clX8 3 rfl rfl (by decide) fl_X8_34 dX8_readWord_70 ?_
            obtain ⟨b10, hq⟩ := hq
            refine ck_bald rfl rfl b10 dX8_readWord_73 ?_
            refine ck_bipush (v := 97) dX8_readWord_74 (by decide) ?_
            refine ck_isub dX8_readWord_76 ?_
            refine ck_iconst (v := 1) dX8_readWord_77 (by decide) ?_
            refine ck_iadd dX8_readWord_78 ?_
            refine ck_bipush (v := 25) dX8_readWord_79 (by decide) ?_
            refine ck_iconst (v := 5) dX8_readWord_81 (by decide) ?_
            refine ck_iload_n 0 dX8_readWord_82 rfl rfl ?_
            refine ck_imul dX8_readWord_83 ?_
            refine ck_isub dX8_readWord_84 ?_
            refine ck_ishl dX8_readWord_85 ?_
            refine ck_ior dX8_readWord_86 ?_
            refine ck_putI clX8 7 rfl rfl (by decide) fl_X8_56 rfl rfl rfl dX8_readWord_87 ?_
            refine ck_nmH (fun h11 eh11 => ?_)
            have hq := hq h11 eh11
            refine ck_loc [1] rfl ?_
            exact cp_X8_readWord_90 hK103 hKc  _ hq
set_option maxHeartbeats 4000000 in
set_option maxRecDepth 100000 in
theorem cp_X8_readWord_137 {gr : Bool} {Q : ck_H → Prop} {K143 : ck_H → Prop} {Kc : Int32 → ck_H → Prop} (hK143 : ∀ (h : ck_H), K143 h → ck_W cX8_readWord 2 RX8 none 2 0 0 false gr (ck_Qv ck_shX Q) ck_shX h 0 0 143 [(0, .ref 3)] []) (hKc : ∀ (x1 : Int32) (h : ck_H), Kc x1 h → ck_W cX8_readWord 2 RX8 none 2 0 0 false gr (ck_Qv ck_shX Q) ck_shX h 0 0 110 [(0, .ref 3), (1, .int x1)] []) : ∀ (x1 : Int32) (h : ck_H), wp_X8_readWord_137 Q K143 Kc x1 h → ck_W cX8_readWord 2 RX8 none 2 0 0 false gr (ck_Qv ck_shX Q) ck_shX h 0 0 137 [(0, .ref 3), (1, .int x1)] [] := by
  intro x1 h hq
  obtain ⟨v17, ev17⟩ : ∃ z : Int32, z = x1 + 1 := ⟨_, rfl⟩
  have hq := hq v17 ev17
  refine ck_iinc (v := v17) (lv' := [(1, .int v17), (0, .ref 3)]) 1 dX8_readWord_137 rfl (by rw [ev17]; rfl) (by decide) rfl ?_
  refine ck_goto (tgt := 110) dX8_readWord_140 (by decide) ?_
  refine ck_loc [1, 0] rfl ?_
  exact hKc _ _ hq
set_option maxHeartbeats 4000000 in
set_option maxRecDepth 100000 in
theorem cp_X8_readWord_110 {gr : Bool} {Q : ck_H → Prop} {K143 : ck_H → Prop} (hK143 : ∀ (h : ck_H), K143 h → ck_W cX8_readWord 2 RX8 none 2 0 0 false gr (ck_Qv ck_shX Q) ck_shX h 0 0 143 [(0, .ref 3)] []) : ∀ (n : Nat) (x1 : Int32) (h : ck_H), wp_X8_readWord_110 Q K143 n x1 h → ck_W cX8_readWord 2 RX8 none 2 0 0 false gr (ck_Qv ck_shX Q) ck_shX h 0 0 110 [(0, .ref 3), (1, .int x1)] [] := by
  intro n
  induction n with
  | zero => intro x1 h hq; exact hq.elim
  | succ n hKc =>
    intro x1 h hq
    refine ck_iload_n 1 dX8_readWord_110 rfl rfl ?_
    refine ck_bipush (v := 19) dX8_readWord_111 (by decide) ?_
    refine ck_icmp_ge (tgt := 143) dX8_readWord_113 (by decide) (fun c14 => ?_) (fun c14 => ?_)
    · have hq := hq.1 c14
      refine ck_loc [0] rfl ?_
      exact hK143  _ hq
    · have hq := hq.2 c14
      refine ck_aload_n 0 dX8_readWord_116 rfl rfl ?_
      refine ck_getR clX8 1 rfl rfl (by decide) fl_X8_9 dX8_readWord_117 ?_
      refine ck_iload_n 1 dX8_readWord_120 rfl rfl ?_
      obtain ⟨b15, hq⟩ := hq
      refine ck_iald rfl rfl b15 dX8_readWord_121 ?_
      refine ck_aload_n 0 dX8_readWord_122 rfl rfl ?_
      refine ck_getI clX8 7 rfl rfl (by decide) fl_X8_56 dX8_readWord_123 ?_
      refine ck_icmp_ne (tgt := 137) dX8_readWord_126 (by decide) (fun c16 => ?_) (fun c16 => ?_)
      · have hq := hq.1 c16
        exact cp_X8_readWord_137 hK143 hKc _ _ hq
      · have hq := hq.2 c16
        refine ck_aload_n 0 dX8_readWord_129 rfl rfl ?_
        refine ck_bipush (v := 20) dX8_readWord_130 (by decide) ?_
        refine ck_iload_n 1 dX8_readWord_132 rfl rfl ?_
        refine ck_iadd dX8_readWord_133 ?_
        refine ck_putI clX8 4 rfl rfl (by decide) fl_X8_43 rfl rfl rfl dX8_readWord_134 ?_
        refine ck_nmH (fun h18 eh18 => ?_)
        have hq := hq h18 eh18
        exact cp_X8_readWord_137 hK143 hKc _ _ hq
set_option maxHeartbeats 4000000 in
set_option maxRecDepth 100000 in
theorem cp_X8_readWord_103 {gr : Bool} {Q : ck_H → Prop} : ∀ (h : ck_H), wp_X8_readWord_103 Q h → ck_W cX8_readWord 2 RX8 none 2 0 0 false gr (ck_Qv ck_shX Q) ck_shX h 0 0 103 [(0, .ref 3)] [] := by
  intro h hq
  refine ck_aload_n 0 dX8_readWord_103 rfl rfl ?_
  refine ck_iconst (v := 3) dX8_readWord_104 (by decide) ?_
  refine ck_putI clX8 4 rfl rfl (by decide) fl_X8_43 rfl rfl rfl dX8_readWord_105 ?_
  refine ck_nmH (fun h13 eh13 => ?_)
  have hq := hq h13 eh13
  refine ck_iconst (v := 0) dX8_readWord_108 (by decide) ?_
  refine ck_istore_n (lv' := [(1, .int (0 : Int32)), (0, .ref 3)]) dX8_readWord_109 rfl (by decide) rfl ?_
  refine ck_loc [1, 0] rfl ?_
  refine cp_X8_readWord_110 (fun h19 hq => ?_) lpN _ _ hq
  · refine ck_aload_n 0 dX8_readWord_143 rfl rfl ?_
    refine ck_getI clX8 3 rfl rfl (by decide) fl_X8_34 dX8_readWord_144 ?_
    refine ck_aload_n 0 dX8_readWord_147 rfl rfl ?_
    refine ck_getI clX8 5 rfl rfl (by decide) fl_X8_40 dX8_readWord_148 ?_
    refine ck_isub dX8_readWord_151 ?_
    refine ck_bipush (v := 6) dX8_readWord_152 (by decide) ?_
    refine ck_icmp_le (tgt := 162) dX8_readWord_154 (by decide) (fun c20 => ?_) (fun c20 => ?_)
    · have hq := hq.1 c20
      exact ck_vret rfl rfl rfl dX8_readWord_162 ⟨rfl, rfl, hq⟩
    · have hq := hq.2 c20
      refine ck_aload_n 0 dX8_readWord_157 rfl rfl ?_
      refine ck_iconst (v := 1) dX8_readWord_158 (by decide) ?_
      refine ck_putI clX8 4 rfl rfl (by decide) fl_X8_43 rfl rfl rfl dX8_readWord_159 ?_
      refine ck_nmH (fun h21 eh21 => ?_)
      have hq := hq h21 eh21
      exact ck_vret rfl rfl rfl dX8_readWord_162 ⟨rfl, rfl, hq⟩
set_option maxHeartbeats 4000000 in
set_option maxRecDepth 100000 in
theorem c_X8_readWord {gr : Bool} {h : ck_H} {Q : ck_H → Prop} (hq : wp_X8_readWord h Q) : ck_M yX8_readWord cX8_readWord 2 none 2 0 0 gr ck_shX h [.ref 3] (ck_Qv ck_shX Q) := by
  refine ck_entry (lv := [(0, .ref 3)]) false (own := RX8) rfl (fun q => by cases q) (by decide) (Nat.le_of_ble_eq_true rfl) rfl ?_
  refine ck_aload_n 0 dX8_readWord_0 rfl rfl ?_
  refine ck_iconst (v := 0) dX8_readWord_1 (by decide) ?_
  refine ck_putI clX8 7 rfl rfl (by decide) fl_X8_56 rfl rfl rfl dX8_readWord_2 ?_
  refine ck_nmH (fun h1 eh1 => ?_)
  have hq := hq h1 eh1
  refine cp_X8_readWord_5 (fun h12 hq => ?_) lpN  _ hq
  · exact cp_X8_readWord_103  _ hq
def wp_X8_readNumber_77 (Q : ck_H → Prop) (K90 : ck_H → Prop) (Kc : ck_H → Prop) (h : ck_H) : Prop := (∀ h8, h8 = ck_sI h 3 3 ((h.1 3 3) + (1 : Int32)) → Kc h8)
def wp_X8_readNumber_5 (Q : ck_H → Prop) (K90 : ck_H → Prop) : Nat → ck_H → Prop
  | 0 => fun _ => False
  | n + 1 => fun h => (((h.1 3 2) ≤ (h.1 3 3) → K90 h) ∧ (¬ (h.1 3 2) ≤ (h.1 3 3) → (vp_in (h.1 3 3) 700 ∧ (((h.1 1 (h.1 3 3).toNatClampNeg) < (48 : Int32) → K90 h) ∧ (¬ (h.1 1 (h.1 3 3).toNatClampNeg) < (48 : Int32) → (vp_in (h.1 3 3) 700 ∧ (((57 : Int32) < (h.1 1 (h.1 3 3).toNatClampNeg) → K90 h) ∧ (¬ (57 : Int32) < (h.1 1 (h.1 3 3).toNatClampNeg) → (((99999 : Int32) < (h.1 3 6) → wp_X8_readNumber_77 Q K90 (wp_X8_readNumber_5 Q K90 n) h) ∧ (¬ (99999 : Int32) < (h.1 3 6) → (vp_in (h.1 3 3) 700 ∧ (∀ h10, h10 = ck_sI h 3 6 ((((10 : Int32) * (h.1 3 6)) + (h.1 1 (h.1 3 3).toNatClampNeg)) - (48 : Int32)) → wp_X8_readNumber_77 Q K90 (wp_X8_readNumber_5 Q K90 n) h10))))))))))))
def wp_X8_readNumber_90 (Q : ck_H → Prop) (h : ck_H) : Prop := (∀ h12, h12 = ck_sI h 3 4 (2 : Int32) → Q h12)
def wp_X8_readNumber (h : ck_H) (Q : ck_H → Prop) : Prop := (∀ h1, h1 = ck_sI h 3 6 (0 : Int32) → wp_X8_readNumber_5 Q (fun h11 => wp_X8_readNumber_90 Q h11) lpN h1)
set_option maxHeartbeats 4000000 in
set_option maxRecDepth 100000 in
theorem cp_X8_readNumber_77 {gr : Bool} {Q : ck_H → Prop} {K90 : ck_H → Prop} {Kc : ck_H → Prop} (hK90 : ∀ (h : ck_H), K90 h → ck_W cX8_readNumber 1 RX8 none 2 0 0 false gr (ck_Qv ck_shX Q) ck_shX h 0 0 90 [(0, .ref 3)] []) (hKc : ∀ (h : ck_H), Kc h → ck_W cX8_readNumber 1 RX8 none 2 0 0 false gr (ck_Qv ck_shX Q) ck_shX h 0 0 5 [(0, .ref 3)] []) : ∀ (h : ck_H), wp_X8_readNumber_77 Q K90 Kc h → ck_W cX8_readNumber 1 RX8 none 2 0 0 false gr (ck_Qv ck_shX Q) ck_shX h 0 0 77 [(0, .ref 3)] [] := by
  intro h hq
  refine ck_aload_n 0 dX8_readNumber_77 rfl rfl ?_
  refine ck_dup dX8_readNumber_78 rfl ?_
  refine ck_getI clX8 3 rfl rfl (by decide) fl_X8_34 dX8_readNumber_79 ?_
  refine ck_iconst (v := 1) dX8_readNumber_82 (by decide) ?_
  refine ck_iadd dX8_readNumber_83 ?_
  refine ck_putI clX8 3 rfl rfl (by decide) fl_X8_34 rfl rfl rfl dX8_readNumber_84 ?_
  refine ck_nmH (fun h8 eh8 => ?_)
  have hq := hq h8 eh8
  refine ck_goto (tgt := 5) dX8_readNumber_87 (by decide) ?_
  exact hKc  _ hq
set_option maxHeartbeats 4000000 in
set_option maxRecDepth 100000 in
theorem cp_X8_readNumber_5 {gr : Bool} {Q : ck_H → Prop} {K90 : ck_H → Prop} (hK90 : ∀ (h : ck_H), K90 h → ck_W cX8_readNumber 1 RX8 none 2 0 0 false gr (ck_Qv ck_shX Q) ck_shX h 0 0 90 [(0, .ref 3)] []) : ∀ (n : Nat) (h : ck_H), wp_X8_readNumber_5 Q K90 n h → ck_W cX8_readNumber 1 RX8 none 2 0 0 false gr (ck_Qv ck_shX Q) ck_shX h 0 0 5 [(0, .ref 3)] [] := by
  intro n
  induction n with
  | zero => intro h hq; exact hq.elim
  | succ n hKc =>
    intro h hq
    refine ck_aload_n 0 dX8_readNumber_5 rfl rfl ?_
    refine ck_getI clX8 3 rfl rfl (by decide) fl_X8_34 dX8_readNumber_6 ?_
    refine ck_aload_n 0 dX8_readNumber_9 rfl rfl ?_
    refine ck_getI clX8 2 rfl rfl (by decide) fl_X8_31 dX8_readNumber_10 ?_
    refine ck_icmp_ge (tgt := 90) dX8_readNumber_13 (by decide) (fun c2 => ?_) (fun c2 => ?_)
    · have hq := hq.1 c2
      exact hK90  _ hq
    · have hq := hq.2 c2
      refine ck_aload_n 0 dX8_readNumber_16 rfl rfl ?_
      refine ck_getR clX8 0 rfl rfl (by decide) fl_X8_15 dX8_readNumber_17 ?_
      refine ck_aload_n 0 dX8_readNumber_20 rfl rfl ?_
      refine ck_getI clX8 3 rfl rfl (by decide) fl_X8_34 dX8_readNumber_21 ?_
      obtain ⟨b3, hq⟩ := hq
      refine ck_bald rfl rfl b3 dX8_readNumber_24 ?_
      refine ck_bipush (v := 48) dX8_readNumber_25 (by decide) ?_
      refine ck_icmp_lt (tgt := 90) dX8_readNumber_27 (by decide) (fun c4 => ?_) (fun c4 => ?_)
      · have hq := hq.1 c4
        exact hK90  _ hq
      · have hq := hq.2 c4
        refine ck_aload_n 0 dX8_readNumber_30 rfl rfl ?_
        refine ck_getR clX8 0 rfl rfl (by decide) fl_X8_15 dX8_readNumber_31 ?_
        refine ck_aload_n 0 dX8_readNumber_34 rfl rfl ?_
        refine ck_getI clX8 3 rfl rfl (by decide) fl_X8_34 dX8_readNumber_35 ?_
        obtain ⟨b5, hq⟩ := hq
        refine ck_bald rfl rfl b5 dX8_readNumber_38 ?_
        refine ck_bipush (v := 57) dX8_readNumber_39 (by decide) ?_
        refine ck_icmp_gt (tgt := 90) dX8_readNumber_41 (by decide) (fun c6 => ?_) (fun c6 => ?_)
        · have hq := hq.1 c6
          exact hK90  _ hq
        · have hq := hq.2 c6
          refine ck_aload_n 0 dX8_readNumber_44 rfl rfl ?_
          refine ck_getI clX8 6 rfl rfl (by decide) fl_X8_59 dX8_readNumber_45 ?_
          refine ck_ldc con_X8_62 dX8_readNumber_48 ?_
          refine ck_icmp_gt (tgt := 77) dX8_readNumber_50 (by decide) (fun c7 => ?_) (fun c7 => ?_)
          · have hq := hq.1 c7
            exact cp_X8_readNumber_77 hK90 hKc  _ hq
          · have hq := hq.2 c7
            refine ck_aload_n 0 dX8_readNumber_53 rfl rfl ?_
            refine ck_bipush (v := 10) dX8_readNumber_54 (by decide) ?_
            refine ck_aload_n 0 dX8_readNumber_56 rfl rfl ?_
            refine ck_getI clX8 6 rfl rfl (by decide) fl_X8_59 dX8_readNumber_57 ?_
            refine ck_imul dX8_readNumber_60 ?_
            refine ck_aload_n 0 dX8_readNumber_61 rfl rfl ?_
            refine ck_getR clX8 0 rfl rfl (by decide) fl_X8_15 dX8_readNumber_62 ?_
            refine ck_aload_n 0 dX8_readNumber_65 rfl rfl ?_
            refine ck_getI clX8 3 rfl rfl (by decide) fl_X8_34 dX8_readNumber_66 ?_
            obtain ⟨b9, hq⟩ := hq
            refine ck_bald rfl rfl b9 dX8_readNumber_69 ?_
            refine ck_iadd dX8_readNumber_70 ?_
            refine ck_bipush (v := 48) dX8_readNumber_71 (by decide) ?_
            refine ck_isub dX8_readNumber_73 ?_
            refine ck_putI clX8 6 rfl rfl (by decide) fl_X8_59 rfl rfl rfl dX8_readNumber_74 ?_
            refine ck_nmH (fun h10 eh10 => ?_)
            have hq := hq h10 eh10
            exact cp_X8_readNumber_77 hK90 hKc  _ hq
set_option maxHeartbeats 4000000 in
set_option maxRecDepth 100000 in
theorem cp_X8_readNumber_90 {gr : Bool} {Q : ck_H → Prop} : ∀ (h : ck_H), wp_X8_readNumber_90 Q h → ck_W cX8_readNumber 1 RX8 none 2 0 0 false gr (ck_Qv ck_shX Q) ck_shX h 0 0 90 [(0, .ref 3)] [] := by
  intro h hq
  refine ck_aload_n 0 dX8_readNumber_90 rfl rfl ?_
  refine ck_iconst (v := 2) dX8_readNumber_91 (by decide) ?_
  refine ck_putI clX8 4 rfl rfl (by decide) fl_X8_43 rfl rfl rfl dX8_readNumber_92 ?_
  refine ck_nmH (fun h12 eh12 => ?_)
  have hq := hq h12 eh12
  exact ck_vret rfl rfl rfl dX8_readNumber_95 ⟨rfl, rfl, hq⟩
set_option maxHeartbeats 4000000 in
set_option maxRecDepth 100000 in
theorem c_X8_readNumber {gr : Bool} {h : ck_H} {Q : ck_H → Prop} (hq : wp_X8_readNumber h Q) : ck_M yX8_readNumber cX8_readNumber 1 none 2 0 0 gr ck_shX h [.ref 3] (ck_Qv ck_shX Q) := by
  refine ck_entry (lv := [(0, .ref 3)]) false (own := RX8) rfl (fun q => by cases q) (by decide) (Nat.le_of_ble_eq_true rfl) rfl ?_
  refine ck_aload_n 0 dX8_readNumber_0 rfl rfl ?_
  refine ck_iconst (v := 0) dX8_readNumber_1 (by decide) ?_
  refine ck_putI clX8 6 rfl rfl (by decide) fl_X8_59 rfl rfl rfl dX8_readNumber_2 ?_
  refine ck_nmH (fun h1 eh1 => ?_)
  have hq := hq h1 eh1
  refine cp_X8_readNumber_5 (fun h11 hq => ?_) lpN  _ hq
  · exact cp_X8_readNumber_90  _ hq
def wp_X8_readSign_297 (Q : ck_H → Prop) (h : ck_H) : Prop := (∀ h6, h6 = ck_sI h 3 3 ((h.1 3 3) + (1 : Int32)) → Q h6)
def wp_X8_readSign_270 (Q : ck_H → Prop) (h : ck_H) : Prop := (((h.1 3 4) = (12 : Int32) → wp_X8_readSign_297 Q h) ∧ (¬ (h.1 3 4) = (12 : Int32) → (((h.1 3 4) = (14 : Int32) → wp_X8_readSign_297 Q h) ∧ (¬ (h.1 3 4) = (14 : Int32) → ((¬ (h.1 3 4) = (15 : Int32) → Q h) ∧ ((h.1 3 4) = (15 : Int32) → wp_X8_readSign_297 Q h))))))
def wp_X8_readSign_265 (Q : ck_H → Prop) (h : ck_H) : Prop := (∀ h16, h16 = ck_sI h 3 4 (1 : Int32) → wp_X8_readSign_270 Q h16)
def wp_X8_readSign_239 (Q : ck_H → Prop) (y1 : Int32) (h : ck_H) : Prop := (∀ h38, h38 = ck_sI h 3 4 y1 → wp_X8_readSign_270 Q h38)
def wp_X8_readSign_259 (Q : ck_H → Prop) (y1 : Int32) (h : ck_H) : Prop := (∀ h43, h43 = ck_sI h 3 4 y1 → wp_X8_readSign_270 Q h43)
def wp_X8_readSign_34 (Q : ck_H → Prop) (x1 : Int32) (y0 : Int32) (h : ck_H) : Prop := ((x1 = 40 → (∀ h4, h4 = ck_sI h 3 4 (5 : Int32) → wp_X8_readSign_270 Q h4)) ∧ (¬ x1 = 40 → ((x1 = 41 → (∀ h10, h10 = ck_sI h 3 4 (6 : Int32) → wp_X8_readSign_270 Q h10)) ∧ (¬ x1 = 41 → ((x1 = 42 → (∀ h12, h12 = ck_sI h 3 4 (9 : Int32) → wp_X8_readSign_270 Q h12)) ∧ (¬ x1 = 42 → ((x1 = 43 → (∀ h14, h14 = ck_sI h 3 4 (7 : Int32) → wp_X8_readSign_270 Q h14)) ∧ (¬ x1 = 43 → ((x1 = 44 → wp_X8_readSign_265 Q h) ∧ (¬ x1 = 44 → ((x1 = 45 → (∀ h18, h18 = ck_sI h 3 4 (8 : Int32) → wp_X8_readSign_270 Q h18)) ∧ (¬ x1 = 45 → ((x1 = 46 → wp_X8_readSign_265 Q h) ∧ (¬ x1 = 46 → ((x1 = 47 → (∀ h21, h21 = ck_sI h 3 4 (10 : Int32) → wp_X8_readSign_270 Q h21)) ∧ (¬ x1 = 47 → ((x1 = 48 → wp_X8_readSign_265 Q h) ∧ (¬ x1 = 48 → ((x1 = 49 → wp_X8_readSign_265 Q h) ∧ (¬ x1 = 49 → ((x1 = 50 → wp_X8_readSign_265 Q h) ∧ (¬ x1 = 50 → ((x1 = 51 → wp_X8_readSign_265 Q h) ∧ (¬ x1 = 51 → ((x1 = 52 → wp_X8_readSign_265 Q h) ∧ (¬ x1 = 52 → ((x1 = 53 → wp_X8_readSign_265 Q h) ∧ (¬ x1 = 53 → ((x1 = 54 → wp_X8_readSign_265 Q h) ∧ (¬ x1 = 54 → ((x1 = 55 → wp_X8_readSign_265 Q h) ∧ (¬ x1 = 55 → ((x1 = 56 → wp_X8_readSign_265 Q h) ∧ (¬ x1 = 56 → ((x1 = 57 → wp_X8_readSign_265 Q h) ∧ (¬ x1 = 57 → ((x1 = 58 → wp_X8_readSign_265 Q h) ∧ (¬ x1 = 58 → ((x1 = 59 → (∀ h34, h34 = ck_sI h 3 4 (4 : Int32) → wp_X8_readSign_270 Q h34)) ∧ (¬ x1 = 59 → ((x1 = 60 → ((¬ y0 = (61 : Int32) → ((¬ y0 = (62 : Int32) → wp_X8_readSign_239 Q (11 : Int32) h) ∧ (y0 = (62 : Int32) → wp_X8_readSign_239 Q (14 : Int32) h))) ∧ (y0 = (61 : Int32) → wp_X8_readSign_239 Q (12 : Int32) h))) ∧ (¬ x1 = 60 → ((x1 = 61 → (∀ h40, h40 = ck_sI h 3 4 (13 : Int32) → wp_X8_readSign_270 Q h40)) ∧ (¬ x1 = 61 → ((x1 = 62 → ((¬ y0 = (61 : Int32) → wp_X8_readSign_259 Q (16 : Int32) h) ∧ (y0 = (61 : Int32) → wp_X8_readSign_259 Q (15 : Int32) h))) ∧ (¬ x1 = 62 → wp_X8_readSign_265 Q h))))))))))))))))))))))))))))))))))))))))))))))
def wp_X8_readSign (x1 : Int32) (h : ck_H) (Q : ck_H → Prop) : Prop := (∀ h1, h1 = ck_sI h 3 3 ((h.1 3 3) + (1 : Int32)) → (((h1.1 3 2) ≤ (h1.1 3 3) → wp_X8_readSign_34 Q x1 (0 : Int32) h1) ∧ (¬ (h1.1 3 2) ≤ (h1.1 3 3) → (vp_in (h1.1 3 3) 700 ∧ wp_X8_readSign_34 Q x1 (h1.1 1 (h1.1 3 3).toNatClampNeg) h1))))
set_option maxHeartbeats 4000000 in
set_option maxRecDepth 100000 in
theorem cp_X8_readSign_297 {gr : Bool} {Q : ck_H → Prop} : ∀ (h : ck_H), wp_X8_readSign_297 Q h → ck_W cX8_readSign 3 RX8 none 2 0 0 false gr (ck_Qv ck_shX Q) ck_shX h 0 0 297 [(0, .ref 3)] [] := by
  intro h hq
  refine ck_aload_n 0 dX8_readSign_297 rfl rfl ?_
  refine ck_dup dX8_readSign_298 rfl ?_
  refine ck_getI clX8 3 rfl rfl (by decide) fl_X8_34 dX8_readSign_299 ?_
  refine ck_iconst (v := 1) dX8_readSign_302 (by decide) ?_
  refine ck_iadd dX8_readSign_303 ?_
  refine ck_putI clX8 3 rfl rfl (by decide) fl_X8_34 rfl rfl rfl dX8_readSign_304 ?_
  refine ck_nmH (fun h6 eh6 => ?_)
  have hq := hq h6 eh6
  exact ck_vret rfl rfl rfl dX8_readSign_307 ⟨rfl, rfl, hq⟩
set_option maxHeartbeats 4000000 in
set_option maxRecDepth 100000 in
theorem cp_X8_readSign_270 {gr : Bool} {Q : ck_H → Prop} : ∀ (h : ck_H), wp_X8_readSign_270 Q h → ck_W cX8_readSign 3 RX8 none 2 0 0 false gr (ck_Qv ck_shX Q) ck_shX h 0 0 270 [(0, .ref 3)] [] := by
  intro h hq
  refine ck_aload_n 0 dX8_readSign_270 rfl rfl ?_
  refine ck_getI clX8 4 rfl rfl (by decide) fl_X8_43 dX8_readSign_271 ?_
  refine ck_bipush (v := 12) dX8_readSign_274 (by decide) ?_
  refine ck_icmp_eq (tgt := 297) dX8_readSign_276 (by decide) (fun c5 => ?_) (fun c5 => ?_)
  · have hq := hq.1 c5
    exact cp_X8_readSign_297  _ hq
  · have hq := hq.2 c5
    refine ck_aload_n 0 dX8_readSign_279 rfl rfl ?_
    refine ck_getI clX8 4 rfl rfl (by decide) fl_X8_43 dX8_readSign_280 ?_
    refine ck_bipush (v := 14) dX8_readSign_283 (by decide) ?_
    refine ck_icmp_eq (tgt := 297) dX8_readSign_285 (by decide) (fun c7 => ?_) (fun c7 => ?_)
    · have hq := hq.1 c7
      exact cp_X8_readSign_297  _ hq
    · have hq := hq.2 c7
      refine ck_aload_n 0 dX8_readSign_288 rfl rfl ?_
      refine ck_getI clX8 4 rfl rfl (by decide) fl_X8_43 dX8_readSign_289 ?_
      refine ck_bipush (v := 15) dX8_readSign_292 (by decide) ?_
      refine ck_icmp_ne (tgt := 307) dX8_readSign_294 (by decide) (fun c8 => ?_) (fun c8 => ?_)
      · have hq := hq.1 c8
        exact ck_vret rfl rfl rfl dX8_readSign_307 ⟨rfl, rfl, hq⟩
      · have hq := hq.2 c8
        exact cp_X8_readSign_297  _ hq
set_option maxHeartbeats 4000000 in
set_option maxRecDepth 100000 in
theorem cp_X8_readSign_265 {gr : Bool} {Q : ck_H → Prop} : ∀ (h : ck_H), wp_X8_readSign_265 Q h → ck_W cX8_readSign 3 RX8 none 2 0 0 false gr (ck_Qv ck_shX Q) ck_shX h 0 0 265 [(0, .ref 3)] [] := by
  intro h hq
  refine ck_aload_n 0 dX8_readSign_265 rfl rfl ?_
  refine ck_iconst (v := 1) dX8_readSign_266 (by decide) ?_
  refine ck_putI clX8 4 rfl rfl (by decide) fl_X8_43 rfl rfl rfl dX8_readSign_267 ?_
  refine ck_nmH (fun h16 eh16 => ?_)
  have hq := hq h16 eh16
  exact cp_X8_readSign_270  _ hq
set_option maxHeartbeats 4000000 in
set_option maxRecDepth 100000 in
theorem cp_X8_readSign_239 {gr : Bool} {Q : ck_H → Prop} : ∀ (y1 : Int32) (h : ck_H), wp_X8_readSign_239 Q y1 h → ck_W cX8_readSign 3 RX8 none 2 0 0 false gr (ck_Qv ck_shX Q) ck_shX h 0 0 239 [(0, .ref 3)] [.int y1, .ref 3] := by
  intro y1 h hq
  refine ck_putI clX8 4 rfl rfl (by decide) fl_X8_43 rfl rfl rfl dX8_readSign_239 ?_
  refine ck_nmH (fun h38 eh38 => ?_)
  have hq := hq h38 eh38
  refine ck_goto (tgt := 270) dX8_readSign_242 (by decide) ?_
  exact cp_X8_readSign_270  _ hq
set_option maxHeartbeats 4000000 in
set_option maxRecDepth 100000 in
theorem cp_X8_readSign_259 {gr : Bool} {Q : ck_H → Prop} : ∀ (y1 : Int32) (h : ck_H), wp_X8_readSign_259 Q y1 h → ck_W cX8_readSign 3 RX8 none 2 0 0 false gr (ck_Qv ck_shX Q) ck_shX h 0 0 259 [(0, .ref 3)] [.int y1, .ref 3] := by
  intro y1 h hq
  refine ck_putI clX8 4 rfl rfl (by decide) fl_X8_43 rfl rfl rfl dX8_readSign_259 ?_
  refine ck_nmH (fun h43 eh43 => ?_)
  have hq := hq h43 eh43
  refine ck_goto (tgt := 270) dX8_readSign_262 (by decide) ?_
  exact cp_X8_readSign_270  _ hq
set_option maxHeartbeats 4000000 in
set_option maxRecDepth 100000 in
theorem cp_X8_readSign_34 {gr : Bool} {Q : ck_H → Prop} : ∀ (x1 : Int32) (y0 : Int32) (h : ck_H), wp_X8_readSign_34 Q x1 y0 h → ck_W cX8_readSign 3 RX8 none 2 0 0 false gr (ck_Qv ck_shX Q) ck_shX h 0 0 34 [(0, .ref 3), (1, .int x1)] [.int y0] := by
  intro x1 y0 h hq
  refine ck_istore_n (lv' := [(2, .int y0), (0, .ref 3), (1, .int x1)]) dX8_readSign_34 rfl (by decide) rfl ?_
  refine ck_iload_n 2 dX8_readSign_35 rfl rfl ?_
  by_cases c3 : x1 = 40
  · have hq := hq.1 c3
    refine ck_tabIn (tgt := 152) dX8_readSign_36 (by rw [c3]; decide) (by rw [c3]; decide) (by rw [c3]; rfl) (by decide) ?_
    refine ck_aload_n 1 dX8_readSign_152 rfl rfl ?_
    refine ck_iconst (v := 5) dX8_readSign_153 (by decide) ?_
    refine ck_putI clX8 4 rfl rfl (by decide) fl_X8_43 rfl rfl rfl dX8_readSign_154 ?_
    refine ck_nmH (fun h4 eh4 => ?_)
    have hq := hq h4 eh4
    refine ck_goto (tgt := 270) dX8_readSign_157 (by decide) ?_
    refine ck_loc [1] rfl ?_
    exact cp_X8_readSign_270  _ hq
  have hq := hq.2 c3
  by_cases c9 : x1 = 41
  · have hq := hq.1 c9
    refine ck_tabIn (tgt := 160) dX8_readSign_36 (by rw [c9]; decide) (by rw [c9]; decide) (by rw [c9]; rfl) (by decide) ?_
    refine ck_aload_n 1 dX8_readSign_160 rfl rfl ?_
    refine ck_bipush (v := 6) dX8_readSign_161 (by decide) ?_
    refine ck_putI clX8 4 rfl rfl (by decide) fl_X8_43 rfl rfl rfl dX8_readSign_163 ?_
    refine ck_nmH (fun h10 eh10 => ?_)
    have hq := hq h10 eh10
    refine ck_goto (tgt := 270) dX8_readSign_166 (by decide) ?_
    refine ck_loc [1] rfl ?_
    exact cp_X8_readSign_270  _ hq
  have hq := hq.2 c9
  by_cases c11 : x1 = 42
  · have hq := hq.1 c11
    refine ck_tabIn (tgt := 187) dX8_readSign_36 (by rw [c11]; decide) (by rw [c11]; decide) (by rw [c11]; rfl) (by decide) ?_
    refine ck_aload_n 1 dX8_readSign_187 rfl rfl ?_
    refine ck_bipush (v := 9) dX8_readSign_188 (by decide) ?_
    refine ck_putI clX8 4 rfl rfl (by decide) fl_X8_43 rfl rfl rfl dX8_readSign_190 ?_
    refine ck_nmH (fun h12 eh12 => ?_)
    have hq := hq h12 eh12
    refine ck_goto (tgt := 270) dX8_readSign_193 (by decide) ?_
    refine ck_loc [1] rfl ?_
    exact cp_X8_readSign_270  _ hq
  have hq := hq.2 c11
  by_cases c13 : x1 = 43
  · have hq := hq.1 c13
    refine ck_tabIn (tgt := 169) dX8_readSign_36 (by rw [c13]; decide) (by rw [c13]; decide) (by rw [c13]; rfl) (by decide) ?_
    refine ck_aload_n 1 dX8_readSign_169 rfl rfl ?_
    refine ck_bipush (v := 7) dX8_readSign_170 (by decide) ?_
    refine ck_putI clX8 4 rfl rfl (by decide) fl_X8_43 rfl rfl rfl dX8_readSign_172 ?_
    refine ck_nmH (fun h14 eh14 => ?_)
    have hq := hq h14 eh14
    refine ck_goto (tgt := 270) dX8_readSign_175 (by decide) ?_
    refine ck_loc [1] rfl ?_
    exact cp_X8_readSign_270  _ hq
  have hq := hq.2 c13
  by_cases c15 : x1 = 44
  · have hq := hq.1 c15
    refine ck_tabIn (tgt := 265) dX8_readSign_36 (by rw [c15]; decide) (by rw [c15]; decide) (by rw [c15]; rfl) (by decide) ?_
    refine ck_loc [1] rfl ?_
    exact cp_X8_readSign_265  _ hq
  have hq := hq.2 c15
  by_cases c17 : x1 = 45
  · have hq := hq.1 c17
    refine ck_tabIn (tgt := 178) dX8_readSign_36 (by rw [c17]; decide) (by rw [c17]; decide) (by rw [c17]; rfl) (by decide) ?_
    refine ck_aload_n 1 dX8_readSign_178 rfl rfl ?_
    refine ck_bipush (v := 8) dX8_readSign_179 (by decide) ?_
    refine ck_putI clX8 4 rfl rfl (by decide) fl_X8_43 rfl rfl rfl dX8_readSign_181 ?_
    refine ck_nmH (fun h18 eh18 => ?_)
    have hq := hq h18 eh18
    refine ck_goto (tgt := 270) dX8_readSign_184 (by decide) ?_
    refine ck_loc [1] rfl ?_
    exact cp_X8_readSign_270  _ hq
  have hq := hq.2 c17
  by_cases c19 : x1 = 46
  · have hq := hq.1 c19
    refine ck_tabIn (tgt := 265) dX8_readSign_36 (by rw [c19]; decide) (by rw [c19]; decide) (by rw [c19]; rfl) (by decide) ?_
    refine ck_loc [1] rfl ?_
    exact cp_X8_readSign_265  _ hq
  have hq := hq.2 c19
  by_cases c20 : x1 = 47
  · have hq := hq.1 c20
    refine ck_tabIn (tgt := 196) dX8_readSign_36 (by rw [c20]; decide) (by rw [c20]; decide) (by rw [c20]; rfl) (by decide) ?_
    refine ck_aload_n 1 dX8_readSign_196 rfl rfl ?_
    refine ck_bipush (v := 10) dX8_readSign_197 (by decide) ?_
    refine ck_putI clX8 4 rfl rfl (by decide) fl_X8_43 rfl rfl rfl dX8_readSign_199 ?_
    refine ck_nmH (fun h21 eh21 => ?_)
    have hq := hq h21 eh21
    refine ck_goto (tgt := 270) dX8_readSign_202 (by decide) ?_
    refine ck_loc [1] rfl ?_
    exact cp_X8_readSign_270  _ hq
  have hq := hq.2 c20
  by_cases c22 : x1 = 48
  · have hq := hq.1 c22
    refine ck_tabIn (tgt := 265) dX8_readSign_36 (by rw [c22]; decide) (by rw [c22]; decide) (by rw [c22]; rfl) (by decide) ?_
    refine ck_loc [1] rfl ?_
    exact cp_X8_readSign_265  _ hq
  have hq := hq.2 c22
  by_cases c23 : x1 = 49
  · have hq := hq.1 c23
    refine ck_tabIn (tgt := 265) dX8_readSign_36 (by rw [c23]; decide) (by rw [c23]; decide) (by rw [c23]; rfl) (by decide) ?_
    refine ck_loc [1] rfl ?_
    exact cp_X8_readSign_265  _ hq
  have hq := hq.2 c23
  by_cases c24 : x1 = 50
  · have hq := hq.1 c24
    refine ck_tabIn (tgt := 265) dX8_readSign_36 (by rw [c24]; decide) (by rw [c24]; decide) (by rw [c24]; rfl) (by decide) ?_
    refine ck_loc [1] rfl ?_
    exact cp_X8_readSign_265  _ hq
  have hq := hq.2 c24
  by_cases c25 : x1 = 51
  · have hq := hq.1 c25
    refine ck_tabIn (tgt := 265) dX8_readSign_36 (by rw [c25]; decide) (by rw [c25]; decide) (by rw [c25]; rfl) (by decide) ?_
    refine ck_loc [1] rfl ?_
    exact cp_X8_readSign_265  _ hq
  have hq := hq.2 c25
  by_cases c26 : x1 = 52
  · have hq := hq.1 c26
    refine ck_tabIn (tgt := 265) dX8_readSign_36 (by rw [c26]; decide) (by rw [c26]; decide) (by rw [c26]; rfl) (by decide) ?_
    refine ck_loc [1] rfl ?_
    exact cp_X8_readSign_265  _ hq
  have hq := hq.2 c26
  by_cases c27 : x1 = 53
  · have hq := hq.1 c27
    refine ck_tabIn (tgt := 265) dX8_readSign_36 (by rw [c27]; decide) (by rw [c27]; decide) (by rw [c27]; rfl) (by decide) ?_
    refine ck_loc [1] rfl ?_
    exact cp_X8_readSign_265  _ hq
  have hq := hq.2 c27
  by_cases c28 : x1 = 54
  · have hq := hq.1 c28
    refine ck_tabIn (tgt := 265) dX8_readSign_36 (by rw [c28]; decide) (by rw [c28]; decide) (by rw [c28]; rfl) (by decide) ?_
    refine ck_loc [1] rfl ?_
    exact cp_X8_readSign_265  _ hq
  have hq := hq.2 c28
  by_cases c29 : x1 = 55
  · have hq := hq.1 c29
    refine ck_tabIn (tgt := 265) dX8_readSign_36 (by rw [c29]; decide) (by rw [c29]; decide) (by rw [c29]; rfl) (by decide) ?_
    refine ck_loc [1] rfl ?_
    exact cp_X8_readSign_265  _ hq
  have hq := hq.2 c29
  by_cases c30 : x1 = 56
  · have hq := hq.1 c30
    refine ck_tabIn (tgt := 265) dX8_readSign_36 (by rw [c30]; decide) (by rw [c30]; decide) (by rw [c30]; rfl) (by decide) ?_
    refine ck_loc [1] rfl ?_
    exact cp_X8_readSign_265  _ hq
  have hq := hq.2 c30
  by_cases c31 : x1 = 57
  · have hq := hq.1 c31
    refine ck_tabIn (tgt := 265) dX8_readSign_36 (by rw [c31]; decide) (by rw [c31]; decide) (by rw [c31]; rfl) (by decide) ?_
    refine ck_loc [1] rfl ?_
    exact cp_X8_readSign_265  _ hq
  have hq := hq.2 c31
  by_cases c32 : x1 = 58
  · have hq := hq.1 c32
    refine ck_tabIn (tgt := 265) dX8_readSign_36 (by rw [c32]; decide) (by rw [c32]; decide) (by rw [c32]; rfl) (by decide) ?_
    refine ck_loc [1] rfl ?_
    exact cp_X8_readSign_265  _ hq
  have hq := hq.2 c32
  by_cases c33 : x1 = 59
  · have hq := hq.1 c33
    refine ck_tabIn (tgt := 144) dX8_readSign_36 (by rw [c33]; decide) (by rw [c33]; decide) (by rw [c33]; rfl) (by decide) ?_
    refine ck_aload_n 1 dX8_readSign_144 rfl rfl ?_
    refine ck_iconst (v := 4) dX8_readSign_145 (by decide) ?_
    refine ck_putI clX8 4 rfl rfl (by decide) fl_X8_43 rfl rfl rfl dX8_readSign_146 ?_
    refine ck_nmH (fun h34 eh34 => ?_)
    have hq := hq h34 eh34
    refine ck_goto (tgt := 270) dX8_readSign_149 (by decide) ?_
    refine ck_loc [1] rfl ?_
    exact cp_X8_readSign_270  _ hq
  have hq := hq.2 c33
  by_cases c35 : x1 = 60
  · have hq := hq.1 c35
    refine ck_tabIn (tgt := 214) dX8_readSign_36 (by rw [c35]; decide) (by rw [c35]; decide) (by rw [c35]; rfl) (by decide) ?_
    refine ck_aload_n 1 dX8_readSign_214 rfl rfl ?_
    refine ck_iload_n 0 dX8_readSign_215 rfl rfl ?_
    refine ck_bipush (v := 61) dX8_readSign_216 (by decide) ?_
    refine ck_icmp_ne (tgt := 226) dX8_readSign_218 (by decide) (fun c36 => ?_) (fun c36 => ?_)
    · have hq := hq.1 c36
      refine ck_iload_n 0 dX8_readSign_226 rfl rfl ?_
      refine ck_bipush (v := 62) dX8_readSign_227 (by decide) ?_
      refine ck_icmp_ne (tgt := 237) dX8_readSign_229 (by decide) (fun c37 => ?_) (fun c37 => ?_)
      · have hq := hq.1 c37
        refine ck_bipush (v := 11) dX8_readSign_237 (by decide) ?_
        refine ck_loc [1] rfl ?_
        exact cp_X8_readSign_239 _ _ hq
      · have hq := hq.2 c37
        refine ck_bipush (v := 14) dX8_readSign_232 (by decide) ?_
        refine ck_goto (tgt := 239) dX8_readSign_234 (by decide) ?_
        refine ck_loc [1] rfl ?_
        exact cp_X8_readSign_239 _ _ hq
    · have hq := hq.2 c36
      refine ck_bipush (v := 12) dX8_readSign_221 (by decide) ?_
      refine ck_goto (tgt := 239) dX8_readSign_223 (by decide) ?_
      refine ck_loc [1] rfl ?_
      exact cp_X8_readSign_239 _ _ hq
  have hq := hq.2 c35
  by_cases c39 : x1 = 61
  · have hq := hq.1 c39
    refine ck_tabIn (tgt := 205) dX8_readSign_36 (by rw [c39]; decide) (by rw [c39]; decide) (by rw [c39]; rfl) (by decide) ?_
    refine ck_aload_n 1 dX8_readSign_205 rfl rfl ?_
    refine ck_bipush (v := 13) dX8_readSign_206 (by decide) ?_
    refine ck_putI clX8 4 rfl rfl (by decide) fl_X8_43 rfl rfl rfl dX8_readSign_208 ?_
    refine ck_nmH (fun h40 eh40 => ?_)
    have hq := hq h40 eh40
    refine ck_goto (tgt := 270) dX8_readSign_211 (by decide) ?_
    refine ck_loc [1] rfl ?_
    exact cp_X8_readSign_270  _ hq
  have hq := hq.2 c39
  by_cases c41 : x1 = 62
  · have hq := hq.1 c41
    refine ck_tabIn (tgt := 245) dX8_readSign_36 (by rw [c41]; decide) (by rw [c41]; decide) (by rw [c41]; rfl) (by decide) ?_
    refine ck_aload_n 1 dX8_readSign_245 rfl rfl ?_
    refine ck_iload_n 0 dX8_readSign_246 rfl rfl ?_
    refine ck_bipush (v := 61) dX8_readSign_247 (by decide) ?_
    refine ck_icmp_ne (tgt := 257) dX8_readSign_249 (by decide) (fun c42 => ?_) (fun c42 => ?_)
    · have hq := hq.1 c42
      refine ck_bipush (v := 16) dX8_readSign_257 (by decide) ?_
      refine ck_loc [1] rfl ?_
      exact cp_X8_readSign_259 _ _ hq
    · have hq := hq.2 c42
      refine ck_bipush (v := 15) dX8_readSign_252 (by decide) ?_
      refine ck_goto (tgt := 259) dX8_readSign_254 (by decide) ?_
      refine ck_loc [1] rfl ?_
      exact cp_X8_readSign_259 _ _ hq
  have hq := hq.2 c41
  refine ck_tabOut (tgt := 265) dX8_readSign_36 (by have z0 := lv_neT c3 (a := 40) (by decide); have z1 := lv_neT c9 (a := 41) (by decide); have z2 := lv_neT c11 (a := 42) (by decide); have z3 := lv_neT c13 (a := 43) (by decide); have z4 := lv_neT c15 (a := 44) (by decide); have z5 := lv_neT c17 (a := 45) (by decide); have z6 := lv_neT c19 (a := 46) (by decide); have z7 := lv_neT c20 (a := 47) (by decide); have z8 := lv_neT c22 (a := 48) (by decide); have z9 := lv_neT c23 (a := 49) (by decide); have z10 := lv_neT c24 (a := 50) (by decide); have z11 := lv_neT c25 (a := 51) (by decide); have z12 := lv_neT c26 (a := 52) (by decide); have z13 := lv_neT c27 (a := 53) (by decide); have z14 := lv_neT c28 (a := 54) (by decide); have z15 := lv_neT c29 (a := 55) (by decide); have z16 := lv_neT c30 (a := 56) (by decide); have z17 := lv_neT c31 (a := 57) (by decide); have z18 := lv_neT c32 (a := 58) (by decide); have z19 := lv_neT c33 (a := 59) (by decide); have z20 := lv_neT c35 (a := 60) (by decide); have z21 := lv_neT c39 (a := 61) (by decide); have z22 := lv_neT c41 (a := 62) (by decide); omega) (by decide) ?_
  refine ck_loc [1] rfl ?_
  exact cp_X8_readSign_265  _ hq
set_option maxHeartbeats 4000000 in
set_option maxRecDepth 100000 in
theorem c_X8_readSign {gr : Bool} {x1 : Int32} {h : ck_H} {Q : ck_H → Prop} (hq : wp_X8_readSign x1 h Q) : ck_M yX8_readSign cX8_readSign 3 none 2 0 0 gr ck_shX h [.ref 3, .int x1] (ck_Qv ck_shX Q) := by
  refine ck_entry (lv := [(0, .ref 3), (1, .int x1)]) false (own := RX8) rfl (fun q => by cases q) (by decide) (Nat.le_of_ble_eq_true rfl) rfl ?_
  refine ck_aload_n 0 dX8_readSign_0 rfl rfl ?_
  refine ck_dup dX8_readSign_1 rfl ?_
  refine ck_getI clX8 3 rfl rfl (by decide) fl_X8_34 dX8_readSign_2 ?_
  refine ck_iconst (v := 1) dX8_readSign_5 (by decide) ?_
  refine ck_iadd dX8_readSign_6 ?_
  refine ck_putI clX8 3 rfl rfl (by decide) fl_X8_34 rfl rfl rfl dX8_readSign_7 ?_
  refine ck_nmH (fun h1 eh1 => ?_)
  have hq := hq h1 eh1
  refine ck_aload_n 0 dX8_readSign_10 rfl rfl ?_
  refine ck_getI clX8 3 rfl rfl (by decide) fl_X8_34 dX8_readSign_11 ?_
  refine ck_aload_n 0 dX8_readSign_14 rfl rfl ?_
  refine ck_getI clX8 2 rfl rfl (by decide) fl_X8_31 dX8_readSign_15 ?_
  refine ck_icmp_ge (tgt := 33) dX8_readSign_18 (by decide) (fun c2 => ?_) (fun c2 => ?_)
  · have hq := hq.1 c2
    refine ck_iconst (v := 0) dX8_readSign_33 (by decide) ?_
    exact cp_X8_readSign_34 _ _ _ hq
  · have hq := hq.2 c2
    refine ck_aload_n 0 dX8_readSign_21 rfl rfl ?_
    refine ck_getR clX8 0 rfl rfl (by decide) fl_X8_15 dX8_readSign_22 ?_
    refine ck_aload_n 0 dX8_readSign_25 rfl rfl ?_
    refine ck_getI clX8 3 rfl rfl (by decide) fl_X8_34 dX8_readSign_26 ?_
    obtain ⟨b44, hq⟩ := hq
    refine ck_bald rfl rfl b44 dX8_readSign_29 ?_
    refine ck_goto (tgt := 34) dX8_readSign_30 (by decide) ?_
    exact cp_X8_readSign_34 _ _ _ hq
def wp_X8_next_39 (Q : ck_H → Prop) (K52 : ck_H → Prop) (Kc : ck_H → Prop) (h : ck_H) : Prop := (∀ h4, h4 = ck_sI h 3 3 ((h.1 3 3) + (1 : Int32)) → Kc h4)
def wp_X8_next_0 (Q : ck_H → Prop) (K52 : ck_H → Prop) : Nat → ck_H → Prop
  | 0 => fun _ => False
  | n + 1 => fun h => (((h.1 3 2) ≤ (h.1 3 3) → K52 h) ∧ (¬ (h.1 3 2) ≤ (h.1 3 3) → (vp_in (h.1 3 3) 700 ∧ (((h.1 1 (h.1 3 3).toNatClampNeg) = (10 : Int32) → wp_X8_next_39 Q K52 (wp_X8_next_0 Q K52 n) h) ∧ (¬ (h.1 1 (h.1 3 3).toNatClampNeg) = (10 : Int32) → (vp_in (h.1 3 3) 700 ∧ ((¬ (h.1 1 (h.1 3 3).toNatClampNeg) = (32 : Int32) → K52 h) ∧ ((h.1 1 (h.1 3 3).toNatClampNeg) = (32 : Int32) → wp_X8_next_39 Q K52 (wp_X8_next_0 Q K52 n) h))))))))
def wp_X8_next_149 (Q : ck_H → Prop) (h : ck_H) : Prop := (vp_in (h.1 3 3) 700 ∧ (wp_X8_readSign (h.1 1 (h.1 3 3).toNatClampNeg) h (fun h15 => Q h15)))
def wp_X8_next_114 (Q : ck_H → Prop) (h : ck_H) : Prop := (vp_in (h.1 3 3) 700 ∧ (((h.1 1 (h.1 3 3).toNatClampNeg) < (48 : Int32) → wp_X8_next_149 Q h) ∧ (¬ (h.1 1 (h.1 3 3).toNatClampNeg) < (48 : Int32) → (vp_in (h.1 3 3) 700 ∧ (((57 : Int32) < (h.1 1 (h.1 3 3).toNatClampNeg) → wp_X8_next_149 Q h) ∧ (¬ (57 : Int32) < (h.1 1 (h.1 3 3).toNatClampNeg) → (wp_X8_readNumber h (fun h18 => Q h18))))))))
def wp_X8_next_52 (Q : ck_H → Prop) (h : ck_H) : Prop := (∀ h8, h8 = ck_sI h 3 5 (h.1 3 3) → (((h8.1 3 3) < (h8.1 3 2) → (vp_in (h8.1 3 3) 700 ∧ (((h8.1 1 (h8.1 3 3).toNatClampNeg) < (97 : Int32) → wp_X8_next_114 Q h8) ∧ (¬ (h8.1 1 (h8.1 3 3).toNatClampNeg) < (97 : Int32) → (vp_in (h8.1 3 3) 700 ∧ (((122 : Int32) < (h8.1 1 (h8.1 3 3).toNatClampNeg) → wp_X8_next_114 Q h8) ∧ (¬ (122 : Int32) < (h8.1 1 (h8.1 3 3).toNatClampNeg) → (wp_X8_readWord h8 (fun h21 => Q h21))))))))) ∧ (¬ (h8.1 3 3) < (h8.1 3 2) → (∀ h22, h22 = ck_sI h8 3 4 (0 : Int32) → Q h22))))
def wp_X8_next (h : ck_H) (Q : ck_H → Prop) : Prop := wp_X8_next_0 Q (fun h7 => wp_X8_next_52 Q h7) lpN h
set_option maxHeartbeats 4000000 in
set_option maxRecDepth 100000 in
theorem cp_X8_next_39 {gr : Bool} {Q : ck_H → Prop} {K52 : ck_H → Prop} {Kc : ck_H → Prop} (hK52 : ∀ (h : ck_H), K52 h → ck_W cX8_next 1 RX8 none 3 0 0 false gr (ck_Qv ck_shX Q) ck_shX h 0 0 52 [(0, .ref 3)] []) (hKc : ∀ (h : ck_H), Kc h → ck_W cX8_next 1 RX8 none 3 0 0 false gr (ck_Qv ck_shX Q) ck_shX h 0 0 0 [(0, .ref 3)] []) : ∀ (h : ck_H), wp_X8_next_39 Q K52 Kc h → ck_W cX8_next 1 RX8 none 3 0 0 false gr (ck_Qv ck_shX Q) ck_shX h 0 0 39 [(0, .ref 3)] [] := by
  intro h hq
  refine ck_aload_n 0 dX8_next_39 rfl rfl ?_
  refine ck_dup dX8_next_40 rfl ?_
  refine ck_getI clX8 3 rfl rfl (by decide) fl_X8_34 dX8_next_41 ?_
  refine ck_iconst (v := 1) dX8_next_44 (by decide) ?_
  refine ck_iadd dX8_next_45 ?_
  refine ck_putI clX8 3 rfl rfl (by decide) fl_X8_34 rfl rfl rfl dX8_next_46 ?_
  refine ck_nmH (fun h4 eh4 => ?_)
  have hq := hq h4 eh4
  refine ck_goto (tgt := 0) dX8_next_49 (by decide) ?_
  exact hKc  _ hq
set_option maxHeartbeats 4000000 in
set_option maxRecDepth 100000 in
theorem cp_X8_next_0 {gr : Bool} {Q : ck_H → Prop} {K52 : ck_H → Prop} (hK52 : ∀ (h : ck_H), K52 h → ck_W cX8_next 1 RX8 none 3 0 0 false gr (ck_Qv ck_shX Q) ck_shX h 0 0 52 [(0, .ref 3)] []) : ∀ (n : Nat) (h : ck_H), wp_X8_next_0 Q K52 n h → ck_W cX8_next 1 RX8 none 3 0 0 false gr (ck_Qv ck_shX Q) ck_shX h 0 0 0 [(0, .ref 3)] [] := by
  intro n
  induction n with
  | zero => intro h hq; exact hq.elim
  | succ n hKc =>
    intro h hq
    refine ck_aload_n 0 dX8_next_0 rfl rfl ?_
    refine ck_getI clX8 3 rfl rfl (by decide) fl_X8_34 dX8_next_1 ?_
    refine ck_aload_n 0 dX8_next_4 rfl rfl ?_
    refine ck_getI clX8 2 rfl rfl (by decide) fl_X8_31 dX8_next_5 ?_
    refine ck_icmp_ge (tgt := 52) dX8_next_8 (by decide) (fun c1 => ?_) (fun c1 => ?_)
    · have hq := hq.1 c1
      exact hK52  _ hq
    · have hq := hq.2 c1
      refine ck_aload_n 0 dX8_next_11 rfl rfl ?_
      refine ck_getR clX8 0 rfl rfl (by decide) fl_X8_15 dX8_next_12 ?_
      refine ck_aload_n 0 dX8_next_15 rfl rfl ?_
      refine ck_getI clX8 3 rfl rfl (by decide) fl_X8_34 dX8_next_16 ?_
      obtain ⟨b2, hq⟩ := hq
      refine ck_bald rfl rfl b2 dX8_next_19 ?_
      refine ck_bipush (v := 10) dX8_next_20 (by decide) ?_
      refine ck_icmp_eq (tgt := 39) dX8_next_22 (by decide) (fun c3 => ?_) (fun c3 => ?_)
      · have hq := hq.1 c3
        exact cp_X8_next_39 hK52 hKc  _ hq
      · have hq := hq.2 c3
        refine ck_aload_n 0 dX8_next_25 rfl rfl ?_
        refine ck_getR clX8 0 rfl rfl (by decide) fl_X8_15 dX8_next_26 ?_
        refine ck_aload_n 0 dX8_next_29 rfl rfl ?_
        refine ck_getI clX8 3 rfl rfl (by decide) fl_X8_34 dX8_next_30 ?_
        obtain ⟨b5, hq⟩ := hq
        refine ck_bald rfl rfl b5 dX8_next_33 ?_
        refine ck_bipush (v := 32) dX8_next_34 (by decide) ?_
        refine ck_icmp_ne (tgt := 52) dX8_next_36 (by decide) (fun c6 => ?_) (fun c6 => ?_)
        · have hq := hq.1 c6
          exact hK52  _ hq
        · have hq := hq.2 c6
          exact cp_X8_next_39 hK52 hKc  _ hq
set_option maxHeartbeats 4000000 in
set_option maxRecDepth 100000 in
theorem cp_X8_next_149 {gr : Bool} {Q : ck_H → Prop} : ∀ (h : ck_H), wp_X8_next_149 Q h → ck_W cX8_next 1 RX8 none 3 0 0 false gr (ck_Qv ck_shX Q) ck_shX h 0 0 149 [(0, .ref 3)] [] := by
  intro h hq
  refine ck_aload_n 0 dX8_next_149 rfl rfl ?_
  refine ck_aload_n 0 dX8_next_150 rfl rfl ?_
  refine ck_getR clX8 0 rfl rfl (by decide) fl_X8_15 dX8_next_151 ?_
  refine ck_aload_n 0 dX8_next_154 rfl rfl ?_
  refine ck_getI clX8 3 rfl rfl (by decide) fl_X8_34 dX8_next_155 ?_
  obtain ⟨b14, hq⟩ := hq
  refine ck_bald rfl rfl b14 dX8_next_158 ?_
  refine ck_callV (c_X8_readSign hq) rfl cal_X8_readSign rfl ml_X8_52 vir_X8_readSign rfl rfl (by decide) (Nat.le_of_ble_eq_true rfl) (Nat.le_of_ble_eq_true rfl) (by decide) (by decide) dX8_next_159 ?_
  rintro _ _ h15 ⟨rfl, rfl, hq⟩
  exact ck_vret rfl rfl rfl dX8_next_162 ⟨rfl, rfl, hq⟩
set_option maxHeartbeats 4000000 in
set_option maxRecDepth 100000 in
theorem cp_X8_next_114 {gr : Bool} {Q : ck_H → Prop} : ∀ (h : ck_H), wp_X8_next_114 Q h → ck_W cX8_next 1 RX8 none 3 0 0 false gr (ck_Qv ck_shX Q) ck_shX h 0 0 114 [(0, .ref 3)] [] := by
  intro h hq
  refine ck_aload_n 0 dX8_next_114 rfl rfl ?_
  refine ck_getR clX8 0 rfl rfl (by decide) fl_X8_15 dX8_next_115 ?_
  refine ck_aload_n 0 dX8_next_118 rfl rfl ?_
  refine ck_getI clX8 3 rfl rfl (by decide) fl_X8_34 dX8_next_119 ?_
  obtain ⟨b12, hq⟩ := hq
  refine ck_bald rfl rfl b12 dX8_next_122 ?_
  refine ck_bipush (v := 48) dX8_next_123 (by decide) ?_
  refine ck_icmp_lt (tgt := 149) dX8_next_125 (by decide) (fun c13 => ?_) (fun c13 => ?_)
  · have hq := hq.1 c13
    exact cp_X8_next_149  _ hq
  · have hq := hq.2 c13
    refine ck_aload_n 0 dX8_next_128 rfl rfl ?_
    refine ck_getR clX8 0 rfl rfl (by decide) fl_X8_15 dX8_next_129 ?_
    refine ck_aload_n 0 dX8_next_132 rfl rfl ?_
    refine ck_getI clX8 3 rfl rfl (by decide) fl_X8_34 dX8_next_133 ?_
    obtain ⟨b16, hq⟩ := hq
    refine ck_bald rfl rfl b16 dX8_next_136 ?_
    refine ck_bipush (v := 57) dX8_next_137 (by decide) ?_
    refine ck_icmp_gt (tgt := 149) dX8_next_139 (by decide) (fun c17 => ?_) (fun c17 => ?_)
    · have hq := hq.1 c17
      exact cp_X8_next_149  _ hq
    · have hq := hq.2 c17
      refine ck_aload_n 0 dX8_next_142 rfl rfl ?_
      refine ck_callV (c_X8_readNumber hq) rfl cal_X8_readNumber rfl ml_X8_49 vir_X8_readNumber rfl rfl (by decide) (Nat.le_of_ble_eq_true rfl) (Nat.le_of_ble_eq_true rfl) (by decide) (by decide) dX8_next_143 ?_
      rintro _ _ h18 ⟨rfl, rfl, hq⟩
      refine ck_goto (tgt := 162) dX8_next_146 (by decide) ?_
      exact ck_vret rfl rfl rfl dX8_next_162 ⟨rfl, rfl, hq⟩
set_option maxHeartbeats 4000000 in
set_option maxRecDepth 100000 in
theorem cp_X8_next_52 {gr : Bool} {Q : ck_H → Prop} : ∀ (h : ck_H), wp_X8_next_52 Q h → ck_W cX8_next 1 RX8 none 3 0 0 false gr (ck_Qv ck_shX Q) ck_shX h 0 0 52 [(0, .ref 3)] [] := by
  intro h hq
  refine ck_aload_n 0 dX8_next_52 rfl rfl ?_
  refine ck_aload_n 0 dX8_next_53 rfl rfl ?_
  refine ck_getI clX8 3 rfl rfl (by decide) fl_X8_34 dX8_next_54 ?_
  refine ck_putI clX8 5 rfl rfl (by decide) fl_X8_40 rfl rfl rfl dX8_next_57 ?_
  refine ck_nmH (fun h8 eh8 => ?_)
  have hq := hq h8 eh8
  refine ck_aload_n 0 dX8_next_60 rfl rfl ?_
  refine ck_getI clX8 3 rfl rfl (by decide) fl_X8_34 dX8_next_61 ?_
  refine ck_aload_n 0 dX8_next_64 rfl rfl ?_
  refine ck_getI clX8 2 rfl rfl (by decide) fl_X8_31 dX8_next_65 ?_
  refine ck_icmp_lt (tgt := 79) dX8_next_68 (by decide) (fun c9 => ?_) (fun c9 => ?_)
  · have hq := hq.1 c9
    refine ck_aload_n 0 dX8_next_79 rfl rfl ?_
    refine ck_getR clX8 0 rfl rfl (by decide) fl_X8_15 dX8_next_80 ?_
    refine ck_aload_n 0 dX8_next_83 rfl rfl ?_
    refine ck_getI clX8 3 rfl rfl (by decide) fl_X8_34 dX8_next_84 ?_
    obtain ⟨b10, hq⟩ := hq
    refine ck_bald rfl rfl b10 dX8_next_87 ?_
    refine ck_bipush (v := 97) dX8_next_88 (by decide) ?_
    refine ck_icmp_lt (tgt := 114) dX8_next_90 (by decide) (fun c11 => ?_) (fun c11 => ?_)
    · have hq := hq.1 c11
      exact cp_X8_next_114  _ hq
    · have hq := hq.2 c11
      refine ck_aload_n 0 dX8_next_93 rfl rfl ?_
      refine ck_getR clX8 0 rfl rfl (by decide) fl_X8_15 dX8_next_94 ?_
      refine ck_aload_n 0 dX8_next_97 rfl rfl ?_
      refine ck_getI clX8 3 rfl rfl (by decide) fl_X8_34 dX8_next_98 ?_
      obtain ⟨b19, hq⟩ := hq
      refine ck_bald rfl rfl b19 dX8_next_101 ?_
      refine ck_bipush (v := 122) dX8_next_102 (by decide) ?_
      refine ck_icmp_gt (tgt := 114) dX8_next_104 (by decide) (fun c20 => ?_) (fun c20 => ?_)
      · have hq := hq.1 c20
        exact cp_X8_next_114  _ hq
      · have hq := hq.2 c20
        refine ck_aload_n 0 dX8_next_107 rfl rfl ?_
        refine ck_callV (c_X8_readWord hq) rfl cal_X8_readWord rfl ml_X8_46 vir_X8_readWord rfl rfl (by decide) (Nat.le_of_ble_eq_true rfl) (Nat.le_of_ble_eq_true rfl) (by decide) (by decide) dX8_next_108 ?_
        rintro _ _ h21 ⟨rfl, rfl, hq⟩
        refine ck_goto (tgt := 162) dX8_next_111 (by decide) ?_
        exact ck_vret rfl rfl rfl dX8_next_162 ⟨rfl, rfl, hq⟩
  · have hq := hq.2 c9
    refine ck_aload_n 0 dX8_next_71 rfl rfl ?_
    refine ck_iconst (v := 0) dX8_next_72 (by decide) ?_
    refine ck_putI clX8 4 rfl rfl (by decide) fl_X8_43 rfl rfl rfl dX8_next_73 ?_
    refine ck_nmH (fun h22 eh22 => ?_)
    have hq := hq h22 eh22
    refine ck_goto (tgt := 162) dX8_next_76 (by decide) ?_
    exact ck_vret rfl rfl rfl dX8_next_162 ⟨rfl, rfl, hq⟩
set_option maxHeartbeats 4000000 in
set_option maxRecDepth 100000 in
theorem c_X8_next {gr : Bool} {h : ck_H} {Q : ck_H → Prop} (hq : wp_X8_next h Q) : ck_M yX8_next cX8_next 1 none 3 0 0 gr ck_shX h [.ref 3] (ck_Qv ck_shX Q) := by
  refine ck_entry (lv := [(0, .ref 3)]) false (own := RX8) rfl (fun q => by cases q) (by decide) (Nat.le_of_ble_eq_true rfl) rfl ?_
  refine cp_X8_next_0 (fun h7 hq => ?_) lpN  _ hq
  · exact cp_X8_next_52  _ hq
def wp_X8_begin_19 (Q : ck_H → Prop) (y1 : Int32) (h : ck_H) : Prop := (∀ h2, h2 = ck_sI h 3 2 y1 → (∀ h3, h3 = ck_sI h2 3 3 (0 : Int32) → (wp_X8_next h3 (fun h4 => Q h4))))
def wp_X8_begin (x1 : Int32) (h : ck_H) (Q : ck_H → Prop) : Prop := (((700 : Int32) ≤ x1 → wp_X8_begin_19 Q (700 : Int32) h) ∧ (¬ (700 : Int32) ≤ x1 → wp_X8_begin_19 Q x1 h))
set_option maxHeartbeats 4000000 in
set_option maxRecDepth 100000 in
theorem cp_X8_begin_19 {gr : Bool} {Q : ck_H → Prop} : ∀ (y1 : Int32) (h : ck_H), wp_X8_begin_19 Q y1 h → ck_W cX8_begin 2 RX8 none 4 0 0 false gr (ck_Qv ck_shX Q) ck_shX h 0 0 19 [(0, .ref 3)] [.int y1, .ref 3] := by
  intro y1 h hq
  refine ck_putI clX8 2 rfl rfl (by decide) fl_X8_31 rfl rfl rfl dX8_begin_19 ?_
  refine ck_nmH (fun h2 eh2 => ?_)
  have hq := hq h2 eh2
  refine ck_aload_n 0 dX8_begin_22 rfl rfl ?_
  refine ck_iconst (v := 0) dX8_begin_23 (by decide) ?_
  refine ck_putI clX8 3 rfl rfl (by decide) fl_X8_34 rfl rfl rfl dX8_begin_24 ?_
  refine ck_nmH (fun h3 eh3 => ?_)
  have hq := hq h3 eh3
  refine ck_aload_n 0 dX8_begin_27 rfl rfl ?_
  refine ck_callV (c_X8_next hq) rfl cal_X8_next rfl ml_X8_37 vir_X8_next rfl rfl (by decide) (Nat.le_of_ble_eq_true rfl) (Nat.le_of_ble_eq_true rfl) (by decide) (by decide) dX8_begin_28 ?_
  rintro _ _ h4 ⟨rfl, rfl, hq⟩
  exact ck_vret rfl rfl rfl dX8_begin_31 ⟨rfl, rfl, hq⟩
set_option maxHeartbeats 4000000 in
set_option maxRecDepth 100000 in
theorem c_X8_begin {gr : Bool} {x1 : Int32} {h : ck_H} {Q : ck_H → Prop} (hq : wp_X8_begin x1 h Q) : ck_M yX8_begin cX8_begin 2 none 4 0 0 gr ck_shX h [.ref 3, .int x1] (ck_Qv ck_shX Q) := by
  refine ck_entry (lv := [(0, .ref 3), (1, .int x1)]) false (own := RX8) rfl (fun q => by cases q) (by decide) (Nat.le_of_ble_eq_true rfl) rfl ?_
  refine ck_aload_n 0 dX8_begin_0 rfl rfl ?_
  refine ck_iload_n 1 dX8_begin_1 rfl rfl ?_
  refine ck_aload_n 0 dX8_begin_2 rfl rfl ?_
  refine ck_getR clX8 0 rfl rfl (by decide) fl_X8_15 dX8_begin_3 ?_
  refine ck_alen1 (v := 700) rfl (by decide) dX8_begin_6 ?_
  refine ck_icmp_ge (tgt := 14) dX8_begin_7 (by decide) (fun c1 => ?_) (fun c1 => ?_)
  · have hq := hq.1 c1
    refine ck_aload_n 0 dX8_begin_14 rfl rfl ?_
    refine ck_getR clX8 0 rfl rfl (by decide) fl_X8_15 dX8_begin_15 ?_
    refine ck_alen1 (v := 700) rfl (by decide) dX8_begin_18 ?_
    refine ck_loc [0] rfl ?_
    exact cp_X8_begin_19 _ _ hq
  · have hq := hq.2 c1
    refine ck_iload_n 1 dX8_begin_10 rfl rfl ?_
    refine ck_goto (tgt := 19) dX8_begin_11 (by decide) ?_
    refine ck_loc [0] rfl ?_
    exact cp_X8_begin_19 _ _ hq
