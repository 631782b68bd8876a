theorem dX12_copies_0 : decode cX12_copies 0 = .ok (.aload_n 0, 1) := by decide +kernel
theorem dX12_copies_1 : decode cX12_copies 1 = .ok (.getfield 72, 3) := by decide +kernel
theorem dX12_copies_4 : decode cX12_copies 4 = .ok (.iload_n 1, 1) := by decide +kernel
theorem dX12_copies_5 : decode cX12_copies 5 = .ok (.aload_n 0, 1) := by decide +kernel
theorem dX12_copies_6 : decode cX12_copies 6 = .ok (.getfield 72, 3) := by decide +kernel
theorem dX12_copies_9 : decode cX12_copies 9 = .ok (.iload_n 2, 1) := by decide +kernel
theorem dX12_copies_10 : decode cX12_copies 10 = .ok (.iaload, 1) := by decide +kernel
theorem dX12_copies_11 : decode cX12_copies 11 = .ok (.iastore, 1) := by decide +kernel
theorem dX12_copies_12 : decode cX12_copies 12 = .ok (.aload_n 0, 1) := by decide +kernel
theorem dX12_copies_13 : decode cX12_copies 13 = .ok (.getfield 75, 3) := by decide +kernel
theorem dX12_copies_16 : decode cX12_copies 16 = .ok (.iload_n 1, 1) := by decide +kernel
theorem dX12_copies_17 : decode cX12_copies 17 = .ok (.aload_n 0, 1) := by decide +kernel
theorem dX12_copies_18 : decode cX12_copies 18 = .ok (.getfield 75, 3) := by decide +kernel
theorem dX12_copies_21 : decode cX12_copies 21 = .ok (.iload_n 2, 1) := by decide +kernel
theorem dX12_copies_22 : decode cX12_copies 22 = .ok (.iaload, 1) := by decide +kernel
theorem dX12_copies_23 : decode cX12_copies 23 = .ok (.iastore, 1) := by decide +kernel
theorem dX12_copies_24 : decode cX12_copies 24 = .ok (.aload_n 0, 1) := by decide +kernel
theorem dX12_copies_25 : decode cX12_copies 25 = .ok (.getfield 78, 3) := by decide +kernel
theorem dX12_copies_28 : decode cX12_copies 28 = .ok (.iload_n 1, 1) := by decide +kernel
theorem dX12_copies_29 : decode cX12_copies 29 = .ok (.aload_n 0, 1) := by decide +kernel
theorem dX12_copies_30 : decode cX12_copies 30 = .ok (.getfield 78, 3) := by decide +kernel
theorem dX12_copies_33 : decode cX12_copies 33 = .ok (.iload_n 2, 1) := by decide +kernel
theorem dX12_copies_34 : decode cX12_copies 34 = .ok (.iaload, 1) := by decide +kernel
theorem dX12_copies_35 : decode cX12_copies 35 = .ok (.iastore, 1) := by decide +kernel
theorem dX12_copies_36 : decode cX12_copies 36 = .ok (.aload_n 0, 1) := by decide +kernel
theorem dX12_copies_37 : decode cX12_copies 37 = .ok (.getfield 81, 3) := by decide +kernel
theorem dX12_copies_40 : decode cX12_copies 40 = .ok (.iload_n 1, 1) := by decide +kernel
theorem dX12_copies_41 : decode cX12_copies 41 = .ok (.aload_n 0, 1) := by decide +kernel
theorem dX12_copies_42 : decode cX12_copies 42 = .ok (.getfield 81, 3) := by decide +kernel
theorem dX12_copies_45 : decode cX12_copies 45 = .ok (.iload_n 2, 1) := by decide +kernel
theorem dX12_copies_46 : decode cX12_copies 46 = .ok (.iaload, 1) := by decide +kernel
theorem dX12_copies_47 : decode cX12_copies 47 = .ok (.iastore, 1) := by decide +kernel
theorem dX12_copies_48 : decode cX12_copies 48 = .ok (.iconst 0, 1) := by decide +kernel
theorem dX12_copies_49 : decode cX12_copies 49 = .ok (.istore_n 3, 1) := by decide +kernel
theorem dX12_copies_50 : decode cX12_copies 50 = .ok (.iload_n 3, 1) := by decide +kernel
theorem dX12_copies_51 : decode cX12_copies 51 = .ok (.iconst 4, 1) := by decide +kernel
theorem dX12_copies_52 : decode cX12_copies 52 = .ok (.if_icmp .ge 49, 3) := by decide +kernel
theorem dX12_copies_55 : decode cX12_copies 55 = .ok (.aload_n 0, 1) := by decide +kernel
theorem dX12_copies_56 : decode cX12_copies 56 = .ok (.getfield 84, 3) := by decide +kernel
theorem dX12_copies_59 : decode cX12_copies 59 = .ok (.iconst 4, 1) := by decide +kernel
theorem dX12_copies_60 : decode cX12_copies 60 = .ok (.iload_n 1, 1) := by decide +kernel
theorem dX12_copies_61 : decode cX12_copies 61 = .ok (.imul, 1) := by decide +kernel
theorem dX12_copies_62 : decode cX12_copies 62 = .ok (.iload_n 3, 1) := by decide +kernel
theorem dX12_copies_63 : decode cX12_copies 63 = .ok (.iadd, 1) := by decide +kernel
theorem dX12_copies_64 : decode cX12_copies 64 = .ok (.aload_n 0, 1) := by decide +kernel
theorem dX12_copies_65 : decode cX12_copies 65 = .ok (.getfield 84, 3) := by decide +kernel
theorem dX12_copies_68 : decode cX12_copies 68 = .ok (.iconst 4, 1) := by decide +kernel
theorem dX12_copies_69 : decode cX12_copies 69 = .ok (.iload_n 2, 1) := by decide +kernel
theorem dX12_copies_70 : decode cX12_copies 70 = .ok (.imul, 1) := by decide +kernel
theorem dX12_copies_71 : decode cX12_copies 71 = .ok (.iload_n 3, 1) := by decide +kernel
theorem dX12_copies_72 : decode cX12_copies 72 = .ok (.iadd, 1) := by decide +kernel
theorem dX12_copies_73 : decode cX12_copies 73 = .ok (.iaload, 1) := by decide +kernel
theorem dX12_copies_74 : decode cX12_copies 74 = .ok (.iastore, 1) := by decide +kernel
theorem dX12_copies_75 : decode cX12_copies 75 = .ok (.aload_n 0, 1) := by decide +kernel
theorem dX12_copies_76 : decode cX12_copies 76 = .ok (.getfield 87, 3) := by decide +kernel
theorem dX12_copies_79 : decode cX12_copies 79 = .ok (.iconst 4, 1) := by decide +kernel
theorem dX12_copies_80 : decode cX12_copies 80 = .ok (.iload_n 1, 1) := by decide +kernel
theorem dX12_copies_81 : decode cX12_copies 81 = .ok (.imul, 1) := by decide +kernel
theorem dX12_copies_82 : decode cX12_copies 82 = .ok (.iload_n 3, 1) := by decide +kernel
theorem dX12_copies_83 : decode cX12_copies 83 = .ok (.iadd, 1) := by decide +kernel
theorem dX12_copies_84 : decode cX12_copies 84 = .ok (.aload_n 0, 1) := by decide +kernel
theorem dX12_copies_85 : decode cX12_copies 85 = .ok (.getfield 87, 3) := by decide +kernel
theorem dX12_copies_88 : decode cX12_copies 88 = .ok (.iconst 4, 1) := by decide +kernel
theorem dX12_copies_89 : decode cX12_copies 89 = .ok (.iload_n 2, 1) := by decide +kernel
theorem dX12_copies_90 : decode cX12_copies 90 = .ok (.imul, 1) := by decide +kernel
theorem dX12_copies_91 : decode cX12_copies 91 = .ok (.iload_n 3, 1) := by decide +kernel
theorem dX12_copies_92 : decode cX12_copies 92 = .ok (.iadd, 1) := by decide +kernel
theorem dX12_copies_93 : decode cX12_copies 93 = .ok (.iaload, 1) := by decide +kernel
theorem dX12_copies_94 : decode cX12_copies 94 = .ok (.iastore, 1) := by decide +kernel
theorem dX12_copies_95 : decode cX12_copies 95 = .ok (.iinc 3 1, 3) := by decide +kernel
theorem dX12_copies_98 : decode cX12_copies 98 = .ok (.goto (-48), 3) := by decide +kernel
theorem dX12_copies_101 : decode cX12_copies 101 = .ok (.iconst 0, 1) := by decide +kernel
theorem dX12_copies_102 : decode cX12_copies 102 = .ok (.istore_n 3, 1) := by decide +kernel
theorem dX12_copies_103 : decode cX12_copies 103 = .ok (.iload_n 3, 1) := by decide +kernel
theorem dX12_copies_104 : decode cX12_copies 104 = .ok (.bipush 10, 2) := by decide +kernel
theorem dX12_copies_106 : decode cX12_copies 106 = .ok (.if_icmp .ge 75, 3) := by decide +kernel
theorem dX12_copies_109 : decode cX12_copies 109 = .ok (.aload_n 0, 1) := by decide +kernel
theorem dX12_copies_110 : decode cX12_copies 110 = .ok (.getfield 90, 3) := by decide +kernel
theorem dX12_copies_113 : decode cX12_copies 113 = .ok (.bipush 10, 2) := by decide +kernel
theorem dX12_copies_115 : decode cX12_copies 115 = .ok (.iload_n 1, 1) := by decide +kernel
theorem dX12_copies_116 : decode cX12_copies 116 = .ok (.imul, 1) := by decide +kernel
theorem dX12_copies_117 : decode cX12_copies 117 = .ok (.iload_n 3, 1) := by decide +kernel
theorem dX12_copies_118 : decode cX12_copies 118 = .ok (.iadd, 1) := by decide +kernel
theorem dX12_copies_119 : decode cX12_copies 119 = .ok (.aload_n 0, 1) := by decide +kernel
theorem dX12_copies_120 : decode cX12_copies 120 = .ok (.getfield 90, 3) := by decide +kernel
theorem dX12_copies_123 : decode cX12_copies 123 = .ok (.bipush 10, 2) := by decide +kernel
theorem dX12_copies_125 : decode cX12_copies 125 = .ok (.iload_n 2, 1) := by decide +kernel
theorem dX12_copies_126 : decode cX12_copies 126 = .ok (.imul, 1) := by decide +kernel
theorem dX12_copies_127 : decode cX12_copies 127 = .ok (.iload_n 3, 1) := by decide +kernel
theorem dX12_copies_128 : decode cX12_copies 128 = .ok (.iadd, 1) := by decide +kernel
theorem dX12_copies_129 : decode cX12_copies 129 = .ok (.iaload, 1) := by decide +kernel
theorem dX12_copies_130 : decode cX12_copies 130 = .ok (.iastore, 1) := by decide +kernel
theorem dX12_copies_131 : decode cX12_copies 131 = .ok (.aload_n 0, 1) := by decide +kernel
theorem dX12_copies_132 : decode cX12_copies 132 = .ok (.getfield 93, 3) := by decide +kernel
theorem dX12_copies_135 : decode cX12_copies 135 = .ok (.bipush 10, 2) := by decide +kernel
theorem dX12_copies_137 : decode cX12_copies 137 = .ok (.iload_n 1, 1) := by decide +kernel
theorem dX12_copies_138 : decode cX12_copies 138 = .ok (.imul, 1) := by decide +kernel
theorem dX12_copies_139 : decode cX12_copies 139 = .ok (.iload_n 3, 1) := by decide +kernel
theorem dX12_copies_140 : decode cX12_copies 140 = .ok (.iadd, 1) := by decide +kernel
theorem dX12_copies_141 : decode cX12_copies 141 = .ok (.aload_n 0, 1) := by decide +kernel
theorem dX12_copies_142 : decode cX12_copies 142 = .ok (.getfield 93, 3) := by decide +kernel
theorem dX12_copies_145 : decode cX12_copies 145 = .ok (.bipush 10, 2) := by decide +kernel
theorem dX12_copies_147 : decode cX12_copies 147 = .ok (.iload_n 2, 1) := by decide +kernel
theorem dX12_copies_148 : decode cX12_copies 148 = .ok (.imul, 1) := by decide +kernel
theorem dX12_copies_149 : decode cX12_copies 149 = .ok (.iload_n 3, 1) := by decide +kernel
theorem dX12_copies_150 : decode cX12_copies 150 = .ok (.iadd, 1) := by decide +kernel
theorem dX12_copies_151 : decode cX12_copies 151 = .ok (.iaload, 1) := by decide +kernel
theorem dX12_copies_152 : decode cX12_copies 152 = .ok (.iastore, 1) := by decide +kernel
theorem dX12_copies_153 : decode cX12_copies 153 = .ok (.aload_n 0, 1) := by decide +kernel
theorem dX12_copies_154 : decode cX12_copies 154 = .ok (.getfield 96, 3) := by decide +kernel
theorem dX12_copies_157 : decode cX12_copies 157 = .ok (.bipush 10, 2) := by decide +kernel
theorem dX12_copies_159 : decode cX12_copies 159 = .ok (.iload_n 1, 1) := by decide +kernel
theorem dX12_copies_160 : decode cX12_copies 160 = .ok (.imul, 1) := by decide +kernel
theorem dX12_copies_161 : decode cX12_copies 161 = .ok (.iload_n 3, 1) := by decide +kernel
theorem dX12_copies_162 : decode cX12_copies 162 = .ok (.iadd, 1) := by decide +kernel
theorem dX12_copies_163 : decode cX12_copies 163 = .ok (.aload_n 0, 1) := by decide +kernel
theorem dX12_copies_164 : decode cX12_copies 164 = .ok (.getfield 96, 3) := by decide +kernel
theorem dX12_copies_167 : decode cX12_copies 167 = .ok (.bipush 10, 2) := by decide +kernel
theorem dX12_copies_169 : decode cX12_copies 169 = .ok (.iload_n 2, 1) := by decide +kernel
theorem dX12_copies_170 : decode cX12_copies 170 = .ok (.imul, 1) := by decide +kernel
theorem dX12_copies_171 : decode cX12_copies 171 = .ok (.iload_n 3, 1) := by decide +kernel
theorem dX12_copies_172 : decode cX12_copies 172 = .ok (.iadd, 1) := by decide +kernel
theorem dX12_copies_173 : decode cX12_copies 173 = .ok (.iaload, 1) := by decide +kernel
theorem dX12_copies_174 : decode cX12_copies 174 = .ok (.iastore, 1) := by decide +kernel
theorem dX12_copies_175 : decode cX12_copies 175 = .ok (.iinc 3 1, 3) := by decide +kernel
theorem dX12_copies_178 : decode cX12_copies 178 = .ok (.goto (-75), 3) := by decide +kernel
theorem dX12_copies_181 : decode cX12_copies 181 = .ok (.return_, 1) := by decide +kernel
theorem dX12_verdictAt_0 : decode cX12_verdictAt 0 = .ok (.aload_n 0, 1) := by decide +kernel
theorem dX12_verdictAt_1 : decode cX12_verdictAt 1 = .ok (.iload_n 1, 1) := by decide +kernel
theorem dX12_verdictAt_2 : decode cX12_verdictAt 2 = .ok (.iload_n 2, 1) := by decide +kernel
theorem dX12_verdictAt_3 : decode cX12_verdictAt 3 = .ok (.iload_n 3, 1) := by decide +kernel
theorem dX12_verdictAt_4 : decode cX12_verdictAt 4 = .ok (.iload 4, 2) := by decide +kernel
theorem dX12_verdictAt_6 : decode cX12_verdictAt 6 = .ok (.invokevirtual 355, 3) := by decide +kernel
theorem dX12_verdictAt_9 : decode cX12_verdictAt 9 = .ok (.iload 4, 2) := by decide +kernel
theorem dX12_verdictAt_11 : decode cX12_verdictAt 11 = .ok (.isub, 1) := by decide +kernel
theorem dX12_verdictAt_12 : decode cX12_verdictAt 12 = .ok (.istore 5, 2) := by decide +kernel
theorem dX12_verdictAt_14 : decode cX12_verdictAt 14 = .ok (.iload 5, 2) := by decide +kernel
theorem dX12_verdictAt_16 : decode cX12_verdictAt 16 = .ok (.ifCond .ge 5, 3) := by decide +kernel
theorem dX12_verdictAt_19 : decode cX12_verdictAt 19 = .ok (.iconst 0, 1) := by decide +kernel
theorem dX12_verdictAt_20 : decode cX12_verdictAt 20 = .ok (.ireturn, 1) := by decide +kernel
theorem dX12_verdictAt_21 : decode cX12_verdictAt 21 = .ok (.aload_n 0, 1) := by decide +kernel
theorem dX12_verdictAt_22 : decode cX12_verdictAt 22 = .ok (.iload_n 1, 1) := by decide +kernel
theorem dX12_verdictAt_23 : decode cX12_verdictAt 23 = .ok (.iload_n 2, 1) := by decide +kernel
theorem dX12_verdictAt_24 : decode cX12_verdictAt 24 = .ok (.iload_n 3, 1) := by decide +kernel
theorem dX12_verdictAt_25 : decode cX12_verdictAt 25 = .ok (.iload 4, 2) := by decide +kernel
theorem dX12_verdictAt_27 : decode cX12_verdictAt 27 = .ok (.invokevirtual 358, 3) := by decide +kernel
theorem dX12_verdictAt_30 : decode cX12_verdictAt 30 = .ok (.istore 6, 2) := by decide +kernel
theorem dX12_verdictAt_32 : decode cX12_verdictAt 32 = .ok (.iload 5, 2) := by decide +kernel
theorem dX12_verdictAt_34 : decode cX12_verdictAt 34 = .ok (.iload 6, 2) := by decide +kernel
theorem dX12_verdictAt_36 : decode cX12_verdictAt 36 = .ok (.if_icmp .ge 7, 3) := by decide +kernel
theorem dX12_verdictAt_39 : decode cX12_verdictAt 39 = .ok (.iconst 1, 1) := by decide +kernel
theorem dX12_verdictAt_40 : decode cX12_verdictAt 40 = .ok (.goto 17, 3) := by decide +kernel
theorem dX12_verdictAt_43 : decode cX12_verdictAt 43 = .ok (.iload 5, 2) := by decide +kernel
theorem dX12_verdictAt_45 : decode cX12_verdictAt 45 = .ok (.iconst 2, 1) := by decide +kernel
theorem dX12_verdictAt_46 : decode cX12_verdictAt 46 = .ok (.iload 6, 2) := by decide +kernel
theorem dX12_verdictAt_48 : decode cX12_verdictAt 48 = .ok (.imul, 1) := by decide +kernel
theorem dX12_verdictAt_49 : decode cX12_verdictAt 49 = .ok (.if_icmp .ge 7, 3) := by decide +kernel
theorem dX12_verdictAt_52 : decode cX12_verdictAt 52 = .ok (.iconst 2, 1) := by decide +kernel
theorem dX12_verdictAt_53 : decode cX12_verdictAt 53 = .ok (.goto 4, 3) := by decide +kernel
theorem dX12_verdictAt_56 : decode cX12_verdictAt 56 = .ok (.iconst 3, 1) := by decide +kernel
theorem dX12_verdictAt_57 : decode cX12_verdictAt 57 = .ok (.ireturn, 1) := by decide +kernel
theorem dX12_hardness_0 : decode cX12_hardness 0 = .ok (.aload_n 0, 1) := by decide +kernel
theorem dX12_hardness_1 : decode cX12_hardness 1 = .ok (.getfield 28, 3) := by decide +kernel
theorem dX12_hardness_4 : decode cX12_hardness 4 = .ok (.aload_n 0, 1) := by decide +kernel
theorem dX12_hardness_5 : decode cX12_hardness 5 = .ok (.getfield 43, 3) := by decide +kernel
theorem dX12_hardness_8 : decode cX12_hardness 8 = .ok (.iload_n 2, 1) := by decide +kernel
theorem dX12_hardness_9 : decode cX12_hardness 9 = .ok (.iaload, 1) := by decide +kernel
theorem dX12_hardness_10 : decode cX12_hardness 10 = .ok (.iaload, 1) := by decide +kernel
theorem dX12_hardness_11 : decode cX12_hardness 11 = .ok (.aload_n 0, 1) := by decide +kernel
theorem dX12_hardness_12 : decode cX12_hardness 12 = .ok (.getfield 78, 3) := by decide +kernel
theorem dX12_hardness_15 : decode cX12_hardness 15 = .ok (.iload_n 1, 1) := by decide +kernel
theorem dX12_hardness_16 : decode cX12_hardness 16 = .ok (.iaload, 1) := by decide +kernel
theorem dX12_hardness_17 : decode cX12_hardness 17 = .ok (.iload_n 2, 1) := by decide +kernel
theorem dX12_hardness_18 : decode cX12_hardness 18 = .ok (.ishr, 1) := by decide +kernel
theorem dX12_hardness_19 : decode cX12_hardness 19 = .ok (.iconst 1, 1) := by decide +kernel
theorem dX12_hardness_20 : decode cX12_hardness 20 = .ok (.iand, 1) := by decide +kernel
theorem dX12_hardness_21 : decode cX12_hardness 21 = .ok (.iconst 1, 1) := by decide +kernel
theorem dX12_hardness_22 : decode cX12_hardness 22 = .ok (.if_icmp .ne 16, 3) := by decide +kernel
theorem dX12_hardness_25 : decode cX12_hardness 25 = .ok (.aload_n 0, 1) := by decide +kernel
theorem dX12_hardness_26 : decode cX12_hardness 26 = .ok (.getfield 352, 3) := by decide +kernel
theorem dX12_hardness_29 : decode cX12_hardness 29 = .ok (.iconst 3, 1) := by decide +kernel
theorem dX12_hardness_30 : decode cX12_hardness 30 = .ok (.if_icmp .eq 8, 3) := by decide +kernel
theorem dX12_hardness_33 : decode cX12_hardness 33 = .ok (.bipush 30, 2) := by decide +kernel
theorem dX12_hardness_35 : decode cX12_hardness 35 = .ok (.goto 4, 3) := by decide +kernel
theorem dX12_hardness_38 : decode cX12_hardness 38 = .ok (.iconst 0, 1) := by decide +kernel
theorem dX12_hardness_39 : decode cX12_hardness 39 = .ok (.iadd, 1) := by decide +kernel
theorem dX12_hardness_40 : decode cX12_hardness 40 = .ok (.ireturn, 1) := by decide +kernel
theorem dX12_tries_0 : decode cX12_tries 0 = .ok (.aload_n 0, 1) := by decide +kernel
theorem dX12_tries_1 : decode cX12_tries 1 = .ok (.getfield 90, 3) := by decide +kernel
theorem dX12_tries_4 : decode cX12_tries 4 = .ok (.bipush 10, 2) := by decide +kernel
theorem dX12_tries_6 : decode cX12_tries 6 = .ok (.iload_n 1, 1) := by decide +kernel
theorem dX12_tries_7 : decode cX12_tries 7 = .ok (.imul, 1) := by decide +kernel
theorem dX12_tries_8 : decode cX12_tries 8 = .ok (.iload_n 2, 1) := by decide +kernel
theorem dX12_tries_9 : decode cX12_tries 9 = .ok (.iadd, 1) := by decide +kernel
theorem dX12_tries_10 : decode cX12_tries 10 = .ok (.iaload, 1) := by decide +kernel
theorem dX12_tries_11 : decode cX12_tries 11 = .ok (.istore_n 3, 1) := by decide +kernel
theorem dX12_tries_12 : decode cX12_tries 12 = .ok (.aload_n 0, 1) := by decide +kernel
theorem dX12_tries_13 : decode cX12_tries 13 = .ok (.getfield 43, 3) := by decide +kernel
theorem dX12_tries_16 : decode cX12_tries 16 = .ok (.iload_n 2, 1) := by decide +kernel
theorem dX12_tries_17 : decode cX12_tries 17 = .ok (.iaload, 1) := by decide +kernel
theorem dX12_tries_18 : decode cX12_tries 18 = .ok (.istore 4, 2) := by decide +kernel
theorem dX12_tries_20 : decode cX12_tries 20 = .ok (.aload_n 0, 1) := by decide +kernel
theorem dX12_tries_21 : decode cX12_tries 21 = .ok (.iload_n 1, 1) := by decide +kernel
theorem dX12_tries_22 : decode cX12_tries 22 = .ok (.iload_n 2, 1) := by decide +kernel
theorem dX12_tries_23 : decode cX12_tries 23 = .ok (.invokevirtual 361, 3) := by decide +kernel
theorem dX12_tries_26 : decode cX12_tries 26 = .ok (.istore 5, 2) := by decide +kernel
theorem dX12_tries_28 : decode cX12_tries 28 = .ok (.aload_n 0, 1) := by decide +kernel
theorem dX12_tries_29 : decode cX12_tries 29 = .ok (.getfield 364, 3) := by decide +kernel
theorem dX12_tries_32 : decode cX12_tries 32 = .ok (.ifCond .eq 38, 3) := by decide +kernel
theorem dX12_tries_35 : decode cX12_tries 35 = .ok (.aload_n 0, 1) := by decide +kernel
theorem dX12_tries_36 : decode cX12_tries 36 = .ok (.aload_n 0, 1) := by decide +kernel
theorem dX12_tries_37 : decode cX12_tries 37 = .ok (.getfield 367, 3) := by decide +kernel
theorem dX12_tries_40 : decode cX12_tries 40 = .ok (.ldc_w 370, 3) := by decide +kernel
theorem dX12_tries_43 : decode cX12_tries 43 = .ok (.imul, 1) := by decide +kernel
theorem dX12_tries_44 : decode cX12_tries 44 = .ok (.sipush 12345, 3) := by decide +kernel
theorem dX12_tries_47 : decode cX12_tries 47 = .ok (.iadd, 1) := by decide +kernel
theorem dX12_tries_48 : decode cX12_tries 48 = .ok (.ldc_w 373, 3) := by decide +kernel
theorem dX12_tries_51 : decode cX12_tries 51 = .ok (.iand, 1) := by decide +kernel
theorem dX12_tries_52 : decode cX12_tries 52 = .ok (.putfield 367, 3) := by decide +kernel
theorem dX12_tries_55 : decode cX12_tries 55 = .ok (.iload 5, 2) := by decide +kernel
theorem dX12_tries_57 : decode cX12_tries 57 = .ok (.aload_n 0, 1) := by decide +kernel
theorem dX12_tries_58 : decode cX12_tries 58 = .ok (.getfield 367, 3) := by decide +kernel
theorem dX12_tries_61 : decode cX12_tries 61 = .ok (.bipush 16, 2) := by decide +kernel
theorem dX12_tries_63 : decode cX12_tries 63 = .ok (.ishr, 1) := by decide +kernel
theorem dX12_tries_64 : decode cX12_tries 64 = .ok (.bipush 10, 2) := by decide +kernel
theorem dX12_tries_66 : decode cX12_tries 66 = .ok (.irem, 1) := by decide +kernel
theorem dX12_tries_67 : decode cX12_tries 67 = .ok (.iadd, 1) := by decide +kernel
theorem dX12_tries_68 : decode cX12_tries 68 = .ok (.istore 5, 2) := by decide +kernel
theorem dX12_tries_70 : decode cX12_tries 70 = .ok (.aload_n 0, 1) := by decide +kernel
theorem dX12_tries_71 : decode cX12_tries 71 = .ok (.iload_n 1, 1) := by decide +kernel
theorem dX12_tries_72 : decode cX12_tries 72 = .ok (.iload_n 3, 1) := by decide +kernel
theorem dX12_tries_73 : decode cX12_tries 73 = .ok (.iload 4, 2) := by decide +kernel
theorem dX12_tries_75 : decode cX12_tries 75 = .ok (.iload 5, 2) := by decide +kernel
theorem dX12_tries_77 : decode cX12_tries 77 = .ok (.invokevirtual 355, 3) := by decide +kernel
theorem dX12_tries_80 : decode cX12_tries 80 = .ok (.istore 6, 2) := by decide +kernel
theorem dX12_tries_82 : decode cX12_tries 82 = .ok (.aload_n 0, 1) := by decide +kernel
theorem dX12_tries_83 : decode cX12_tries 83 = .ok (.iload_n 1, 1) := by decide +kernel
theorem dX12_tries_84 : decode cX12_tries 84 = .ok (.iload_n 3, 1) := by decide +kernel
theorem dX12_tries_85 : decode cX12_tries 85 = .ok (.iload 4, 2) := by decide +kernel
theorem dX12_tries_87 : decode cX12_tries 87 = .ok (.iload 5, 2) := by decide +kernel
theorem dX12_tries_89 : decode cX12_tries 89 = .ok (.invokevirtual 358, 3) := by decide +kernel
theorem dX12_tries_92 : decode cX12_tries 92 = .ok (.istore 7, 2) := by decide +kernel
theorem dX12_tries_94 : decode cX12_tries 94 = .ok (.aload_n 0, 1) := by decide +kernel
theorem dX12_tries_95 : decode cX12_tries 95 = .ok (.iload_n 1, 1) := by decide +kernel
theorem dX12_tries_96 : decode cX12_tries 96 = .ok (.iload_n 3, 1) := by decide +kernel
theorem dX12_tries_97 : decode cX12_tries 97 = .ok (.iload 4, 2) := by decide +kernel
theorem dX12_tries_99 : decode cX12_tries 99 = .ok (.iload 5, 2) := by decide +kernel
theorem dX12_tries_101 : decode cX12_tries 101 = .ok (.invokevirtual 374, 3) := by decide +kernel
theorem dX12_tries_104 : decode cX12_tries 104 = .ok (.istore 8, 2) := by decide +kernel
theorem dX12_tries_106 : decode cX12_tries 106 = .ok (.iconst 4, 1) := by decide +kernel
theorem dX12_tries_107 : decode cX12_tries 107 = .ok (.iload_n 1, 1) := by decide +kernel
theorem dX12_tries_108 : decode cX12_tries 108 = .ok (.imul, 1) := by decide +kernel
theorem dX12_tries_109 : decode cX12_tries 109 = .ok (.iload_n 3, 1) := by decide +kernel
theorem dX12_tries_110 : decode cX12_tries 110 = .ok (.iadd, 1) := by decide +kernel
theorem dX12_tries_111 : decode cX12_tries 111 = .ok (.istore 9, 2) := by decide +kernel
theorem dX12_tries_113 : decode cX12_tries 113 = .ok (.aload_n 0, 1) := by decide +kernel
theorem dX12_tries_114 : decode cX12_tries 114 = .ok (.getfield 96, 3) := by decide +kernel
theorem dX12_tries_117 : decode cX12_tries 117 = .ok (.bipush 10, 2) := by decide +kernel
theorem dX12_tries_119 : decode cX12_tries 119 = .ok (.iload_n 1, 1) := by decide +kernel
theorem dX12_tries_120 : decode cX12_tries 120 = .ok (.imul, 1) := by decide +kernel
theorem dX12_tries_121 : decode cX12_tries 121 = .ok (.iload_n 2, 1) := by decide +kernel
theorem dX12_tries_122 : decode cX12_tries 122 = .ok (.iadd, 1) := by decide +kernel
theorem dX12_tries_123 : decode cX12_tries 123 = .ok (.iload 8, 2) := by decide +kernel
theorem dX12_tries_125 : decode cX12_tries 125 = .ok (.iastore, 1) := by decide +kernel
theorem dX12_tries_126 : decode cX12_tries 126 = .ok (.aload_n 0, 1) := by decide +kernel
theorem dX12_tries_127 : decode cX12_tries 127 = .ok (.getfield 87, 3) := by decide +kernel
theorem dX12_tries_130 : decode cX12_tries 130 = .ok (.iload 9, 2) := by decide +kernel
theorem dX12_tries_132 : decode cX12_tries 132 = .ok (.dup2, 1) := by decide +kernel
theorem dX12_tries_133 : decode cX12_tries 133 = .ok (.iaload, 1) := by decide +kernel
theorem dX12_tries_134 : decode cX12_tries 134 = .ok (.iconst 1, 1) := by decide +kernel
theorem dX12_tries_135 : decode cX12_tries 135 = .ok (.iadd, 1) := by decide +kernel
theorem dX12_tries_136 : decode cX12_tries 136 = .ok (.iastore, 1) := by decide +kernel
theorem dX12_tries_137 : decode cX12_tries 137 = .ok (.iload 8, 2) := by decide +kernel
theorem dX12_tries_139 : decode cX12_tries 139 = .ok (.ifCond .ne 48, 3) := by decide +kernel
theorem dX12_tries_142 : decode cX12_tries 142 = .ok (.iload 5, 2) := by decide +kernel
theorem dX12_tries_144 : decode cX12_tries 144 = .ok (.iload 6, 2) := by decide +kernel
theorem dX12_tries_146 : decode cX12_tries 146 = .ok (.isub, 1) := by decide +kernel
theorem dX12_tries_147 : decode cX12_tries 147 = .ok (.iconst 2, 1) := by decide +kernel
theorem dX12_tries_148 : decode cX12_tries 148 = .ok (.iload 7, 2) := by decide +kernel
theorem dX12_tries_150 : decode cX12_tries 150 = .ok (.imul, 1) := by decide +kernel
theorem dX12_tries_151 : decode cX12_tries 151 = .ok (.if_icmp .lt 13, 3) := by decide +kernel
theorem dX12_tries_154 : decode cX12_tries 154 = .ok (.aload_n 0, 1) := by decide +kernel
theorem dX12_tries_155 : decode cX12_tries 155 = .ok (.getfield 84, 3) := by decide +kernel
theorem dX12_tries_158 : decode cX12_tries 158 = .ok (.iload 9, 2) := by decide +kernel
theorem dX12_tries_160 : decode cX12_tries 160 = .ok (.iaload, 1) := by decide +kernel
theorem dX12_tries_161 : decode cX12_tries 161 = .ok (.ifCond .ne 4, 3) := by decide +kernel
theorem dX12_tries_164 : decode cX12_tries 164 = .ok (.return_, 1) := by decide +kernel
theorem dX12_tries_165 : decode cX12_tries 165 = .ok (.aload_n 0, 1) := by decide +kernel
theorem dX12_tries_166 : decode cX12_tries 166 = .ok (.getfield 84, 3) := by decide +kernel
theorem dX12_tries_169 : decode cX12_tries 169 = .ok (.iload 9, 2) := by decide +kernel
theorem dX12_tries_171 : decode cX12_tries 171 = .ok (.dup2, 1) := by decide +kernel
theorem dX12_tries_172 : decode cX12_tries 172 = .ok (.iaload, 1) := by decide +kernel
theorem dX12_tries_173 : decode cX12_tries 173 = .ok (.iconst 1, 1) := by decide +kernel
theorem dX12_tries_174 : decode cX12_tries 174 = .ok (.isub, 1) := by decide +kernel
theorem dX12_tries_175 : decode cX12_tries 175 = .ok (.iastore, 1) := by decide +kernel
theorem dX12_tries_176 : decode cX12_tries 176 = .ok (.aload_n 0, 1) := by decide +kernel
theorem dX12_tries_177 : decode cX12_tries 177 = .ok (.getfield 81, 3) := by decide +kernel
theorem dX12_tries_180 : decode cX12_tries 180 = .ok (.iload_n 1, 1) := by decide +kernel
theorem dX12_tries_181 : decode cX12_tries 181 = .ok (.dup2, 1) := by decide +kernel
theorem dX12_tries_182 : decode cX12_tries 182 = .ok (.iaload, 1) := by decide +kernel
theorem dX12_tries_183 : decode cX12_tries 183 = .ok (.iconst 1, 1) := by decide +kernel
theorem dX12_tries_184 : decode cX12_tries 184 = .ok (.iadd, 1) := by decide +kernel
theorem dX12_tries_185 : decode cX12_tries 185 = .ok (.iastore, 1) := by decide +kernel
theorem dX12_tries_186 : decode cX12_tries 186 = .ok (.return_, 1) := by decide +kernel
theorem dX12_tries_187 : decode cX12_tries 187 = .ok (.aload_n 0, 1) := by decide +kernel
theorem dX12_tries_188 : decode cX12_tries 188 = .ok (.getfield 352, 3) := by decide +kernel
theorem dX12_tries_191 : decode cX12_tries 191 = .ok (.iconst 1, 1) := by decide +kernel
theorem dX12_tries_192 : decode cX12_tries 192 = .ok (.if_icmp .ne 4, 3) := by decide +kernel
theorem dX12_tries_195 : decode cX12_tries 195 = .ok (.return_, 1) := by decide +kernel
theorem dX12_tries_196 : decode cX12_tries 196 = .ok (.aload_n 0, 1) := by decide +kernel
theorem dX12_tries_197 : decode cX12_tries 197 = .ok (.iload_n 1, 1) := by decide +kernel
theorem dX12_tries_198 : decode cX12_tries 198 = .ok (.iload_n 3, 1) := by decide +kernel
theorem dX12_tries_199 : decode cX12_tries 199 = .ok (.iload 4, 2) := by decide +kernel
theorem dX12_tries_201 : decode cX12_tries 201 = .ok (.iload 5, 2) := by decide +kernel
theorem dX12_tries_203 : decode cX12_tries 203 = .ok (.invokevirtual 344, 3) := by decide +kernel
theorem dX12_tries_206 : decode cX12_tries 206 = .ok (.aload_n 0, 1) := by decide +kernel
theorem dX12_tries_207 : decode cX12_tries 207 = .ok (.getfield 75, 3) := by decide +kernel
theorem dX12_tries_210 : decode cX12_tries 210 = .ok (.iload_n 1, 1) := by decide +kernel
theorem dX12_tries_211 : decode cX12_tries 211 = .ok (.iconst 1, 1) := by decide +kernel
theorem dX12_tries_212 : decode cX12_tries 212 = .ok (.aload_n 0, 1) := by decide +kernel
theorem dX12_tries_213 : decode cX12_tries 213 = .ok (.getfield 75, 3) := by decide +kernel
theorem dX12_tries_216 : decode cX12_tries 216 = .ok (.iload_n 1, 1) := by decide +kernel
theorem dX12_tries_217 : decode cX12_tries 217 = .ok (.iaload, 1) := by decide +kernel
theorem dX12_tries_218 : decode cX12_tries 218 = .ok (.aload_n 0, 1) := by decide +kernel
theorem dX12_tries_219 : decode cX12_tries 219 = .ok (.iconst 2, 1) := by decide +kernel
theorem dX12_tries_220 : decode cX12_tries 220 = .ok (.iconst 0, 1) := by decide +kernel
theorem dX12_tries_221 : decode cX12_tries 221 = .ok (.bipush 9, 2) := by decide +kernel
theorem dX12_tries_223 : decode cX12_tries 223 = .ok (.iconst 1, 1) := by decide +kernel
theorem dX12_tries_224 : decode cX12_tries 224 = .ok (.invokevirtual 348, 3) := by decide +kernel
theorem dX12_tries_227 : decode cX12_tries 227 = .ok (.isub, 1) := by decide +kernel
theorem dX12_tries_228 : decode cX12_tries 228 = .ok (.invokestatic 377, 3) := by decide +kernel
theorem dX12_tries_231 : decode cX12_tries 231 = .ok (.iastore, 1) := by decide +kernel
theorem dX12_tries_232 : decode cX12_tries 232 = .ok (.return_, 1) := by decide +kernel
theorem dX12_isDue_0 : decode cX12_isDue 0 = .ok (.aload_n 0, 1) := by decide +kernel
theorem dX12_isDue_1 : decode cX12_isDue 1 = .ok (.iload_n 1, 1) := by decide +kernel
theorem dX12_isDue_2 : decode cX12_isDue 2 = .ok (.iload_n 2, 1) := by decide +kernel
theorem dX12_isDue_3 : decode cX12_isDue 3 = .ok (.invokevirtual 379, 3) := by decide +kernel
theorem dX12_isDue_6 : decode cX12_isDue 6 = .ok (.ifCond .eq 53, 3) := by decide +kernel
theorem dX12_isDue_9 : decode cX12_isDue 9 = .ok (.aload_n 0, 1) := by decide +kernel
theorem dX12_isDue_10 : decode cX12_isDue 10 = .ok (.getfield 93, 3) := by decide +kernel
theorem dX12_isDue_13 : decode cX12_isDue 13 = .ok (.bipush 10, 2) := by decide +kernel
theorem dX12_isDue_15 : decode cX12_isDue 15 = .ok (.iload_n 1, 1) := by decide +kernel
theorem dX12_isDue_16 : decode cX12_isDue 16 = .ok (.imul, 1) := by decide +kernel
theorem dX12_isDue_17 : decode cX12_isDue 17 = .ok (.iload_n 2, 1) := by decide +kernel
theorem dX12_isDue_18 : decode cX12_isDue 18 = .ok (.iadd, 1) := by decide +kernel
theorem dX12_isDue_19 : decode cX12_isDue 19 = .ok (.iaload, 1) := by decide +kernel
theorem dX12_isDue_20 : decode cX12_isDue 20 = .ok (.aload_n 0, 1) := by decide +kernel
theorem dX12_isDue_21 : decode cX12_isDue 21 = .ok (.getfield 72, 3) := by decide +kernel
theorem dX12_isDue_24 : decode cX12_isDue 24 = .ok (.iload_n 1, 1) := by decide +kernel
theorem dX12_isDue_25 : decode cX12_isDue 25 = .ok (.iaload, 1) := by decide +kernel
theorem dX12_isDue_26 : decode cX12_isDue 26 = .ok (.if_icmp .ne 33, 3) := by decide +kernel
theorem dX12_isDue_29 : decode cX12_isDue 29 = .ok (.aload_n 0, 1) := by decide +kernel
theorem dX12_isDue_30 : decode cX12_isDue 30 = .ok (.getfield 352, 3) := by decide +kernel
theorem dX12_isDue_33 : decode cX12_isDue 33 = .ok (.iconst 2, 1) := by decide +kernel
theorem dX12_isDue_34 : decode cX12_isDue 34 = .ok (.if_icmp .ne 21, 3) := by decide +kernel
theorem dX12_isDue_37 : decode cX12_isDue 37 = .ok (.aload_n 0, 1) := by decide +kernel
theorem dX12_isDue_38 : decode cX12_isDue 38 = .ok (.getfield 90, 3) := by decide +kernel
theorem dX12_isDue_41 : decode cX12_isDue 41 = .ok (.bipush 10, 2) := by decide +kernel
theorem dX12_isDue_43 : decode cX12_isDue 43 = .ok (.iload_n 1, 1) := by decide +kernel
theorem dX12_isDue_44 : decode cX12_isDue 44 = .ok (.imul, 1) := by decide +kernel
theorem dX12_isDue_45 : decode cX12_isDue 45 = .ok (.iload_n 2, 1) := by decide +kernel
theorem dX12_isDue_46 : decode cX12_isDue 46 = .ok (.iadd, 1) := by decide +kernel
theorem dX12_isDue_47 : decode cX12_isDue 47 = .ok (.iaload, 1) := by decide +kernel
theorem dX12_isDue_48 : decode cX12_isDue 48 = .ok (.aload_n 0, 1) := by decide +kernel
theorem dX12_isDue_49 : decode cX12_isDue 49 = .ok (.getfield 99, 3) := by decide +kernel
theorem dX12_isDue_52 : decode cX12_isDue 52 = .ok (.if_icmp .eq 7, 3) := by decide +kernel
theorem dX12_isDue_55 : decode cX12_isDue 55 = .ok (.iconst 1, 1) := by decide +kernel
theorem dX12_isDue_56 : decode cX12_isDue 56 = .ok (.goto 4, 3) := by decide +kernel
theorem dX12_isDue_59 : decode cX12_isDue 59 = .ok (.iconst 0, 1) := by decide +kernel
theorem dX12_isDue_60 : decode cX12_isDue 60 = .ok (.ireturn, 1) := by decide +kernel
theorem dX12_triesAll_0 : decode cX12_triesAll 0 = .ok (.iconst 0, 1) := by decide +kernel
theorem dX12_triesAll_1 : decode cX12_triesAll 1 = .ok (.istore_n 2, 1) := by decide +kernel
theorem dX12_triesAll_2 : decode cX12_triesAll 2 = .ok (.iload_n 2, 1) := by decide +kernel
theorem dX12_triesAll_3 : decode cX12_triesAll 3 = .ok (.aload_n 0, 1) := by decide +kernel
theorem dX12_triesAll_4 : decode cX12_triesAll 4 = .ok (.getfield 13, 3) := by decide +kernel
theorem dX12_triesAll_7 : decode cX12_triesAll 7 = .ok (.iconst 2, 1) := by decide +kernel
theorem dX12_triesAll_8 : decode cX12_triesAll 8 = .ok (.iaload, 1) := by decide +kernel
theorem dX12_triesAll_9 : decode cX12_triesAll 9 = .ok (.if_icmp .ge 24, 3) := by decide +kernel
theorem dX12_triesAll_12 : decode cX12_triesAll 12 = .ok (.aload_n 0, 1) := by decide +kernel
theorem dX12_triesAll_13 : decode cX12_triesAll 13 = .ok (.iload_n 1, 1) := by decide +kernel
theorem dX12_triesAll_14 : decode cX12_triesAll 14 = .ok (.iload_n 2, 1) := by decide +kernel
theorem dX12_triesAll_15 : decode cX12_triesAll 15 = .ok (.invokevirtual 383, 3) := by decide +kernel
theorem dX12_triesAll_18 : decode cX12_triesAll 18 = .ok (.ifCond .eq 9, 3) := by decide +kernel
theorem dX12_triesAll_21 : decode cX12_triesAll 21 = .ok (.aload_n 0, 1) := by decide +kernel
theorem dX12_triesAll_22 : decode cX12_triesAll 22 = .ok (.iload_n 1, 1) := by decide +kernel
theorem dX12_triesAll_23 : decode cX12_triesAll 23 = .ok (.iload_n 2, 1) := by decide +kernel
theorem dX12_triesAll_24 : decode cX12_triesAll 24 = .ok (.invokevirtual 386, 3) := by decide +kernel
theorem dX12_triesAll_27 : decode cX12_triesAll 27 = .ok (.iinc 2 1, 3) := by decide +kernel
theorem dX12_triesAll_30 : decode cX12_triesAll 30 = .ok (.goto (-28), 3) := by decide +kernel
theorem dX12_triesAll_33 : decode cX12_triesAll 33 = .ok (.return_, 1) := by decide +kernel
theorem dX12_slack_0 : decode cX12_slack 0 = .ok (.aload_n 0, 1) := by decide +kernel
theorem dX12_slack_1 : decode cX12_slack 1 = .ok (.iconst 0, 1) := by decide +kernel
theorem dX12_slack_2 : decode cX12_slack 2 = .ok (.putfield 145, 3) := by decide +kernel
theorem dX12_slack_5 : decode cX12_slack 5 = .ok (.aload_n 0, 1) := by decide +kernel
theorem dX12_slack_6 : decode cX12_slack 6 = .ok (.iload_n 1, 1) := by decide +kernel
theorem dX12_slack_7 : decode cX12_slack 7 = .ok (.invokevirtual 404, 3) := by decide +kernel
theorem dX12_slack_10 : decode cX12_slack 10 = .ok (.ifCond .eq 27, 3) := by decide +kernel
theorem dX12_slack_13 : decode cX12_slack 13 = .ok (.aload_n 0, 1) := by decide +kernel
theorem dX12_slack_14 : decode cX12_slack 14 = .ok (.iload_n 2, 1) := by decide +kernel
theorem dX12_slack_15 : decode cX12_slack 15 = .ok (.invokevirtual 410, 3) := by decide +kernel
theorem dX12_slack_18 : decode cX12_slack 18 = .ok (.ifCond .eq 19, 3) := by decide +kernel
theorem dX12_slack_21 : decode cX12_slack 21 = .ok (.aload_n 0, 1) := by decide +kernel
theorem dX12_slack_22 : decode cX12_slack 22 = .ok (.iconst 0, 1) := by decide +kernel
theorem dX12_slack_23 : decode cX12_slack 23 = .ok (.iload_n 1, 1) := by decide +kernel
theorem dX12_slack_24 : decode cX12_slack 24 = .ok (.iload_n 2, 1) := by decide +kernel
theorem dX12_slack_25 : decode cX12_slack 25 = .ok (.aload_n 0, 1) := by decide +kernel
theorem dX12_slack_26 : decode cX12_slack 26 = .ok (.getfield 28, 3) := by decide +kernel
theorem dX12_slack_29 : decode cX12_slack 29 = .ok (.iload_n 2, 1) := by decide +kernel
theorem dX12_slack_30 : decode cX12_slack 30 = .ok (.iaload, 1) := by decide +kernel
theorem dX12_slack_31 : decode cX12_slack 31 = .ok (.invokevirtual 358, 3) := by decide +kernel
theorem dX12_slack_34 : decode cX12_slack 34 = .ok (.goto 4, 3) := by decide +kernel
theorem dX12_slack_37 : decode cX12_slack 37 = .ok (.iconst (-1), 1) := by decide +kernel
theorem dX12_slack_38 : decode cX12_slack 38 = .ok (.ireturn, 1) := by decide +kernel
theorem dX12_verdict_0 : decode cX12_verdict 0 = .ok (.aload_n 0, 1) := by decide +kernel
theorem dX12_verdict_1 : decode cX12_verdict 1 = .ok (.iconst 0, 1) := by decide +kernel
theorem dX12_verdict_2 : decode cX12_verdict 2 = .ok (.putfield 145, 3) := by decide +kernel
theorem dX12_verdict_5 : decode cX12_verdict 5 = .ok (.aload_n 0, 1) := by decide +kernel
theorem dX12_verdict_6 : decode cX12_verdict 6 = .ok (.iload_n 1, 1) := by decide +kernel
theorem dX12_verdict_7 : decode cX12_verdict 7 = .ok (.invokevirtual 404, 3) := by decide +kernel
theorem dX12_verdict_10 : decode cX12_verdict 10 = .ok (.ifCond .eq 27, 3) := by decide +kernel
theorem dX12_verdict_13 : decode cX12_verdict 13 = .ok (.aload_n 0, 1) := by decide +kernel
theorem dX12_verdict_14 : decode cX12_verdict 14 = .ok (.iload_n 2, 1) := by decide +kernel
theorem dX12_verdict_15 : decode cX12_verdict 15 = .ok (.invokevirtual 410, 3) := by decide +kernel
theorem dX12_verdict_18 : decode cX12_verdict 18 = .ok (.ifCond .eq 19, 3) := by decide +kernel
theorem dX12_verdict_21 : decode cX12_verdict 21 = .ok (.aload_n 0, 1) := by decide +kernel
theorem dX12_verdict_22 : decode cX12_verdict 22 = .ok (.iconst 0, 1) := by decide +kernel
theorem dX12_verdict_23 : decode cX12_verdict 23 = .ok (.iload_n 1, 1) := by decide +kernel
theorem dX12_verdict_24 : decode cX12_verdict 24 = .ok (.iload_n 2, 1) := by decide +kernel
theorem dX12_verdict_25 : decode cX12_verdict 25 = .ok (.aload_n 0, 1) := by decide +kernel
theorem dX12_verdict_26 : decode cX12_verdict 26 = .ok (.getfield 28, 3) := by decide +kernel
theorem dX12_verdict_29 : decode cX12_verdict 29 = .ok (.iload_n 2, 1) := by decide +kernel
theorem dX12_verdict_30 : decode cX12_verdict 30 = .ok (.iaload, 1) := by decide +kernel
theorem dX12_verdict_31 : decode cX12_verdict 31 = .ok (.invokevirtual 374, 3) := by decide +kernel
theorem dX12_verdict_34 : decode cX12_verdict 34 = .ok (.goto 4, 3) := by decide +kernel
theorem dX12_verdict_37 : decode cX12_verdict 37 = .ok (.iconst (-1), 1) := by decide +kernel
theorem dX12_verdict_38 : decode cX12_verdict 38 = .ok (.ireturn, 1) := by decide +kernel
theorem dX12_law_0 : decode cX12_law 0 = .ok (.aload_n 0, 1) := by decide +kernel
theorem dX12_law_1 : decode cX12_law 1 = .ok (.iconst 0, 1) := by decide +kernel
theorem dX12_law_2 : decode cX12_law 2 = .ok (.putfield 145, 3) := by decide +kernel
theorem dX12_law_5 : decode cX12_law 5 = .ok (.iload_n 1, 1) := by decide +kernel
theorem dX12_law_6 : decode cX12_law 6 = .ok (.ifCond .lt 32, 3) := by decide +kernel
theorem dX12_law_9 : decode cX12_law 9 = .ok (.iload_n 1, 1) := by decide +kernel
theorem dX12_law_10 : decode cX12_law 10 = .ok (.iconst 2, 1) := by decide +kernel
theorem dX12_law_11 : decode cX12_law 11 = .ok (.if_icmp .gt 27, 3) := by decide +kernel
theorem dX12_law_14 : decode cX12_law 14 = .ok (.aload_n 0, 1) := by decide +kernel
theorem dX12_law_15 : decode cX12_law 15 = .ok (.iload_n 1, 1) := by decide +kernel
theorem dX12_law_16 : decode cX12_law 16 = .ok (.invokevirtual 331, 3) := by decide +kernel
theorem dX12_law_19 : decode cX12_law 19 = .ok (.ifCond .eq 19, 3) := by decide +kernel
theorem dX12_law_22 : decode cX12_law 22 = .ok (.aload_n 0, 1) := by decide +kernel
theorem dX12_law_23 : decode cX12_law 23 = .ok (.iload_n 2, 1) := by decide +kernel
theorem dX12_law_24 : decode cX12_law 24 = .ok (.invokevirtual 404, 3) := by decide +kernel
theorem dX12_law_27 : decode cX12_law 27 = .ok (.ifCond .eq 11, 3) := by decide +kernel
theorem dX12_law_30 : decode cX12_law 30 = .ok (.aload_n 0, 1) := by decide +kernel
theorem dX12_law_31 : decode cX12_law 31 = .ok (.iload_n 3, 1) := by decide +kernel
theorem dX12_law_32 : decode cX12_law 32 = .ok (.invokevirtual 410, 3) := by decide +kernel
theorem dX12_law_35 : decode cX12_law 35 = .ok (.ifCond .ne 7, 3) := by decide +kernel
theorem dX12_law_38 : decode cX12_law 38 = .ok (.ldc2_w 415, 3) := by decide +kernel
theorem dX12_law_41 : decode cX12_law 41 = .ok (.lreturn, 1) := by decide +kernel
theorem dX12_law_42 : decode cX12_law 42 = .ok (.aload_n 0, 1) := by decide +kernel
theorem dX12_law_43 : decode cX12_law 43 = .ok (.iconst 0, 1) := by decide +kernel
theorem dX12_law_44 : decode cX12_law 44 = .ok (.iload_n 2, 1) := by decide +kernel
theorem dX12_law_45 : decode cX12_law 45 = .ok (.iload_n 3, 1) := by decide +kernel
theorem dX12_law_46 : decode cX12_law 46 = .ok (.aload_n 0, 1) := by decide +kernel
theorem dX12_law_47 : decode cX12_law 47 = .ok (.getfield 28, 3) := by decide +kernel
theorem dX12_law_50 : decode cX12_law 50 = .ok (.iload_n 3, 1) := by decide +kernel
theorem dX12_law_51 : decode cX12_law 51 = .ok (.iaload, 1) := by decide +kernel
theorem dX12_law_52 : decode cX12_law 52 = .ok (.invokevirtual 344, 3) := by decide +kernel
theorem dX12_law_55 : decode cX12_law 55 = .ok (.aload_n 0, 1) := by decide +kernel
theorem dX12_law_56 : decode cX12_law 56 = .ok (.iload_n 1, 1) := by decide +kernel
theorem dX12_law_57 : decode cX12_law 57 = .ok (.invokevirtual 334, 3) := by decide +kernel
theorem dX12_law_60 : decode cX12_law 60 = .ok (.ifCond .eq 12, 3) := by decide +kernel
theorem dX12_law_63 : decode cX12_law 63 = .ok (.aload_n 0, 1) := by decide +kernel
theorem dX12_law_64 : decode cX12_law 64 = .ok (.getfield 69, 3) := by decide +kernel
theorem dX12_law_67 : decode cX12_law 67 = .ok (.iconst 0, 1) := by decide +kernel
theorem dX12_law_68 : decode cX12_law 68 = .ok (.laload, 1) := by decide +kernel
theorem dX12_law_69 : decode cX12_law 69 = .ok (.goto 6, 3) := by decide +kernel
theorem dX12_law_72 : decode cX12_law 72 = .ok (.ldc2_w 415, 3) := by decide +kernel
theorem dX12_law_75 : decode cX12_law 75 = .ok (.lreturn, 1) := by decide +kernel
theorem dX12_keepNow_0 : decode cX12_keepNow 0 = .ok (.aload_n 0, 1) := by decide +kernel
theorem dX12_keepNow_1 : decode cX12_keepNow 1 = .ok (.getfield 302, 3) := by decide +kernel
theorem dX12_keepNow_4 : decode cX12_keepNow 4 = .ok (.bipush 20, 2) := by decide +kernel
theorem dX12_keepNow_6 : decode cX12_keepNow 6 = .ok (.if_icmp .ne 39, 3) := by decide +kernel
theorem dX12_keepNow_9 : decode cX12_keepNow 9 = .ok (.iconst 1, 1) := by decide +kernel
theorem dX12_keepNow_10 : decode cX12_keepNow 10 = .ok (.istore_n 1, 1) := by decide +kernel
theorem dX12_keepNow_11 : decode cX12_keepNow 11 = .ok (.iload_n 1, 1) := by decide +kernel
theorem dX12_keepNow_12 : decode cX12_keepNow 12 = .ok (.bipush 20, 2) := by decide +kernel
theorem dX12_keepNow_14 : decode cX12_keepNow 14 = .ok (.if_icmp .ge 21, 3) := by decide +kernel
theorem dX12_keepNow_17 : decode cX12_keepNow 17 = .ok (.aload_n 0, 1) := by decide +kernel
theorem dX12_keepNow_18 : decode cX12_keepNow 18 = .ok (.iconst 3, 1) := by decide +kernel
theorem dX12_keepNow_19 : decode cX12_keepNow 19 = .ok (.iload_n 1, 1) := by decide +kernel
theorem dX12_keepNow_20 : decode cX12_keepNow 20 = .ok (.iadd, 1) := by decide +kernel
theorem dX12_keepNow_21 : decode cX12_keepNow 21 = .ok (.iconst 1, 1) := by decide +kernel
theorem dX12_keepNow_22 : decode cX12_keepNow 22 = .ok (.isub, 1) := by decide +kernel
theorem dX12_keepNow_23 : decode cX12_keepNow 23 = .ok (.iconst 3, 1) := by decide +kernel
theorem dX12_keepNow_24 : decode cX12_keepNow 24 = .ok (.iload_n 1, 1) := by decide +kernel
theorem dX12_keepNow_25 : decode cX12_keepNow 25 = .ok (.iadd, 1) := by decide +kernel
theorem dX12_keepNow_26 : decode cX12_keepNow 26 = .ok (.invokevirtual 417, 3) := by decide +kernel
theorem dX12_keepNow_29 : decode cX12_keepNow 29 = .ok (.iinc 1 1, 3) := by decide +kernel
theorem dX12_keepNow_32 : decode cX12_keepNow 32 = .ok (.goto (-21), 3) := by decide +kernel
theorem dX12_keepNow_35 : decode cX12_keepNow 35 = .ok (.aload_n 0, 1) := by decide +kernel
theorem dX12_keepNow_36 : decode cX12_keepNow 36 = .ok (.dup, 1) := by decide +kernel
theorem dX12_keepNow_37 : decode cX12_keepNow 37 = .ok (.getfield 302, 3) := by decide +kernel
theorem dX12_keepNow_40 : decode cX12_keepNow 40 = .ok (.iconst 1, 1) := by decide +kernel
theorem dX12_keepNow_41 : decode cX12_keepNow 41 = .ok (.isub, 1) := by decide +kernel
theorem dX12_keepNow_42 : decode cX12_keepNow 42 = .ok (.putfield 302, 3) := by decide +kernel
theorem dX12_keepNow_45 : decode cX12_keepNow 45 = .ok (.aload_n 0, 1) := by decide +kernel
theorem dX12_keepNow_46 : decode cX12_keepNow 46 = .ok (.iconst 3, 1) := by decide +kernel
theorem dX12_keepNow_47 : decode cX12_keepNow 47 = .ok (.aload_n 0, 1) := by decide +kernel
theorem dX12_keepNow_48 : decode cX12_keepNow 48 = .ok (.getfield 302, 3) := by decide +kernel
theorem dX12_keepNow_51 : decode cX12_keepNow 51 = .ok (.iadd, 1) := by decide +kernel
theorem dX12_keepNow_52 : decode cX12_keepNow 52 = .ok (.iconst 0, 1) := by decide +kernel
theorem dX12_keepNow_53 : decode cX12_keepNow 53 = .ok (.invokevirtual 417, 3) := by decide +kernel
theorem dX12_keepNow_56 : decode cX12_keepNow 56 = .ok (.aload_n 0, 1) := by decide +kernel
theorem dX12_keepNow_57 : decode cX12_keepNow 57 = .ok (.dup, 1) := by decide +kernel
theorem dX12_keepNow_58 : decode cX12_keepNow 58 = .ok (.getfield 302, 3) := by decide +kernel
theorem dX12_keepNow_61 : decode cX12_keepNow 61 = .ok (.iconst 1, 1) := by decide +kernel
theorem dX12_keepNow_62 : decode cX12_keepNow 62 = .ok (.iadd, 1) := by decide +kernel
theorem dX12_keepNow_63 : decode cX12_keepNow 63 = .ok (.putfield 302, 3) := by decide +kernel
theorem dX12_keepNow_66 : decode cX12_keepNow 66 = .ok (.return_, 1) := by decide +kernel
theorem dX12_give_0 : decode cX12_give 0 = .ok (.aload_n 0, 1) := by decide +kernel
theorem dX12_give_1 : decode cX12_give 1 = .ok (.iconst 0, 1) := by decide +kernel
theorem dX12_give_2 : decode cX12_give 2 = .ok (.putfield 145, 3) := by decide +kernel
theorem dX12_give_5 : decode cX12_give 5 = .ok (.aload_n 0, 1) := by decide +kernel
theorem dX12_give_6 : decode cX12_give 6 = .ok (.iload_n 1, 1) := by decide +kernel
theorem dX12_give_7 : decode cX12_give 7 = .ok (.invokevirtual 401, 3) := by decide +kernel
theorem dX12_give_10 : decode cX12_give 10 = .ok (.ifCond .eq 30, 3) := by decide +kernel
theorem dX12_give_13 : decode cX12_give 13 = .ok (.aload_n 0, 1) := by decide +kernel
theorem dX12_give_14 : decode cX12_give 14 = .ok (.iload_n 2, 1) := by decide +kernel
theorem dX12_give_15 : decode cX12_give 15 = .ok (.invokevirtual 404, 3) := by decide +kernel
theorem dX12_give_18 : decode cX12_give 18 = .ok (.ifCond .eq 22, 3) := by decide +kernel
theorem dX12_give_21 : decode cX12_give 21 = .ok (.aload_n 0, 1) := by decide +kernel
theorem dX12_give_22 : decode cX12_give 22 = .ok (.iconst 0, 1) := by decide +kernel
theorem dX12_give_23 : decode cX12_give 23 = .ok (.iload_n 1, 1) := by decide +kernel
theorem dX12_give_24 : decode cX12_give 24 = .ok (.invokevirtual 379, 3) := by decide +kernel
theorem dX12_give_27 : decode cX12_give 27 = .ok (.ifCond .eq 13, 3) := by decide +kernel
theorem dX12_give_30 : decode cX12_give 30 = .ok (.aload_n 0, 1) := by decide +kernel
theorem dX12_give_31 : decode cX12_give 31 = .ok (.getfield 90, 3) := by decide +kernel
theorem dX12_give_34 : decode cX12_give 34 = .ok (.iload_n 1, 1) := by decide +kernel
theorem dX12_give_35 : decode cX12_give 35 = .ok (.iaload, 1) := by decide +kernel
theorem dX12_give_36 : decode cX12_give 36 = .ok (.iload_n 2, 1) := by decide +kernel
theorem dX12_give_37 : decode cX12_give 37 = .ok (.if_icmp .ne 5, 3) := by decide +kernel
theorem dX12_give_40 : decode cX12_give 40 = .ok (.iconst 0, 1) := by decide +kernel
theorem dX12_give_41 : decode cX12_give 41 = .ok (.ireturn, 1) := by decide +kernel
theorem dX12_give_42 : decode cX12_give 42 = .ok (.aload_n 0, 1) := by decide +kernel
theorem dX12_give_43 : decode cX12_give 43 = .ok (.invokevirtual 420, 3) := by decide +kernel
theorem dX12_give_46 : decode cX12_give 46 = .ok (.aload_n 0, 1) := by decide +kernel
theorem dX12_give_47 : decode cX12_give 47 = .ok (.getfield 90, 3) := by decide +kernel
theorem dX12_give_50 : decode cX12_give 50 = .ok (.iload_n 1, 1) := by decide +kernel
theorem dX12_give_51 : decode cX12_give 51 = .ok (.iload_n 2, 1) := by decide +kernel
theorem dX12_give_52 : decode cX12_give 52 = .ok (.iastore, 1) := by decide +kernel
theorem dX12_give_53 : decode cX12_give 53 = .ok (.iconst 1, 1) := by decide +kernel
theorem dX12_give_54 : decode cX12_give 54 = .ok (.ireturn, 1) := by decide +kernel
theorem dX12_stone_0 : decode cX12_stone 0 = .ok (.aload_n 0, 1) := by decide +kernel
theorem dX12_stone_1 : decode cX12_stone 1 = .ok (.iconst 0, 1) := by decide +kernel
theorem dX12_stone_2 : decode cX12_stone 2 = .ok (.putfield 145, 3) := by decide +kernel
theorem dX12_stone_5 : decode cX12_stone 5 = .ok (.aload_n 0, 1) := by decide +kernel
theorem dX12_stone_6 : decode cX12_stone 6 = .ok (.iload_n 1, 1) := by decide +kernel
theorem dX12_stone_7 : decode cX12_stone 7 = .ok (.invokevirtual 401, 3) := by decide +kernel
theorem dX12_stone_10 : decode cX12_stone 10 = .ok (.ifCond .eq 35, 3) := by decide +kernel
theorem dX12_stone_13 : decode cX12_stone 13 = .ok (.aload_n 0, 1) := by decide +kernel
theorem dX12_stone_14 : decode cX12_stone 14 = .ok (.iconst 0, 1) := by decide +kernel
theorem dX12_stone_15 : decode cX12_stone 15 = .ok (.iload_n 1, 1) := by decide +kernel
theorem dX12_stone_16 : decode cX12_stone 16 = .ok (.invokevirtual 379, 3) := by decide +kernel
theorem dX12_stone_19 : decode cX12_stone 19 = .ok (.ifCond .eq 26, 3) := by decide +kernel
theorem dX12_stone_22 : decode cX12_stone 22 = .ok (.aload_n 0, 1) := by decide +kernel
theorem dX12_stone_23 : decode cX12_stone 23 = .ok (.getfield 78, 3) := by decide +kernel
theorem dX12_stone_26 : decode cX12_stone 26 = .ok (.iconst 0, 1) := by decide +kernel
theorem dX12_stone_27 : decode cX12_stone 27 = .ok (.iaload, 1) := by decide +kernel
theorem dX12_stone_28 : decode cX12_stone 28 = .ok (.iload_n 1, 1) := by decide +kernel
theorem dX12_stone_29 : decode cX12_stone 29 = .ok (.ishr, 1) := by decide +kernel
theorem dX12_stone_30 : decode cX12_stone 30 = .ok (.iconst 1, 1) := by decide +kernel
theorem dX12_stone_31 : decode cX12_stone 31 = .ok (.iand, 1) := by decide +kernel
theorem dX12_stone_32 : decode cX12_stone 32 = .ok (.iconst 1, 1) := by decide +kernel
theorem dX12_stone_33 : decode cX12_stone 33 = .ok (.if_icmp .ne 7, 3) := by decide +kernel
theorem dX12_stone_36 : decode cX12_stone 36 = .ok (.iconst 1, 1) := by decide +kernel
theorem dX12_stone_37 : decode cX12_stone 37 = .ok (.goto 4, 3) := by decide +kernel
theorem dX12_stone_40 : decode cX12_stone 40 = .ok (.iconst 0, 1) := by decide +kernel
theorem dX12_stone_41 : decode cX12_stone 41 = .ok (.iload_n 2, 1) := by decide +kernel
theorem dX12_stone_42 : decode cX12_stone 42 = .ok (.if_icmp .ne 5, 3) := by decide +kernel
theorem dX12_stone_45 : decode cX12_stone 45 = .ok (.iconst 0, 1) := by decide +kernel
theorem dX12_stone_46 : decode cX12_stone 46 = .ok (.ireturn, 1) := by decide +kernel
theorem dX12_stone_47 : decode cX12_stone 47 = .ok (.aload_n 0, 1) := by decide +kernel
theorem dX12_stone_48 : decode cX12_stone 48 = .ok (.invokevirtual 420, 3) := by decide +kernel
theorem dX12_stone_51 : decode cX12_stone 51 = .ok (.aload_n 0, 1) := by decide +kernel
theorem dX12_stone_52 : decode cX12_stone 52 = .ok (.getfield 78, 3) := by decide +kernel
theorem dX12_stone_55 : decode cX12_stone 55 = .ok (.iconst 0, 1) := by decide +kernel
theorem dX12_stone_56 : decode cX12_stone 56 = .ok (.dup2, 1) := by decide +kernel
theorem dX12_stone_57 : decode cX12_stone 57 = .ok (.iaload, 1) := by decide +kernel
theorem dX12_stone_58 : decode cX12_stone 58 = .ok (.iconst 1, 1) := by decide +kernel
theorem dX12_stone_59 : decode cX12_stone 59 = .ok (.iload_n 1, 1) := by decide +kernel
theorem dX12_stone_60 : decode cX12_stone 60 = .ok (.ishl, 1) := by decide +kernel
theorem dX12_stone_61 : decode cX12_stone 61 = .ok (.ixor, 1) := by decide +kernel
theorem dX12_stone_62 : decode cX12_stone 62 = .ok (.iastore, 1) := by decide +kernel
theorem dX12_stone_63 : decode cX12_stone 63 = .ok (.iconst 1, 1) := by decide +kernel
theorem dX12_stone_64 : decode cX12_stone 64 = .ok (.ireturn, 1) := by decide +kernel
theorem dX12_put_0 : decode cX12_put 0 = .ok (.aload_n 0, 1) := by decide +kernel
theorem dX12_put_1 : decode cX12_put 1 = .ok (.iconst 0, 1) := by decide +kernel
theorem dX12_put_2 : decode cX12_put 2 = .ok (.putfield 145, 3) := by decide +kernel
theorem dX12_put_5 : decode cX12_put 5 = .ok (.aload_n 0, 1) := by decide +kernel
theorem dX12_put_6 : decode cX12_put 6 = .ok (.iload_n 1, 1) := by decide +kernel
theorem dX12_put_7 : decode cX12_put 7 = .ok (.invokevirtual 401, 3) := by decide +kernel
theorem dX12_put_10 : decode cX12_put 10 = .ok (.ifCond .eq 39, 3) := by decide +kernel
theorem dX12_put_13 : decode cX12_put 13 = .ok (.iload_n 2, 1) := by decide +kernel
theorem dX12_put_14 : decode cX12_put 14 = .ok (.aload_n 0, 1) := by decide +kernel
theorem dX12_put_15 : decode cX12_put 15 = .ok (.getfield 72, 3) := by decide +kernel
theorem dX12_put_18 : decode cX12_put 18 = .ok (.iconst 0, 1) := by decide +kernel
theorem dX12_put_19 : decode cX12_put 19 = .ok (.iaload, 1) := by decide +kernel
theorem dX12_put_20 : decode cX12_put 20 = .ok (.if_icmp .lt 29, 3) := by decide +kernel
theorem dX12_put_23 : decode cX12_put 23 = .ok (.iload_n 2, 1) := by decide +kernel
theorem dX12_put_24 : decode cX12_put 24 = .ok (.sipush 9999, 3) := by decide +kernel
theorem dX12_put_27 : decode cX12_put 27 = .ok (.if_icmp .gt 22, 3) := by decide +kernel
theorem dX12_put_30 : decode cX12_put 30 = .ok (.aload_n 0, 1) := by decide +kernel
theorem dX12_put_31 : decode cX12_put 31 = .ok (.iconst 0, 1) := by decide +kernel
theorem dX12_put_32 : decode cX12_put 32 = .ok (.iload_n 1, 1) := by decide +kernel
theorem dX12_put_33 : decode cX12_put 33 = .ok (.invokevirtual 379, 3) := by decide +kernel
theorem dX12_put_36 : decode cX12_put 36 = .ok (.ifCond .eq 13, 3) := by decide +kernel
theorem dX12_put_39 : decode cX12_put 39 = .ok (.aload_n 0, 1) := by decide +kernel
theorem dX12_put_40 : decode cX12_put 40 = .ok (.getfield 93, 3) := by decide +kernel
theorem dX12_put_43 : decode cX12_put 43 = .ok (.iload_n 1, 1) := by decide +kernel
theorem dX12_put_44 : decode cX12_put 44 = .ok (.iaload, 1) := by decide +kernel
theorem dX12_put_45 : decode cX12_put 45 = .ok (.iload_n 2, 1) := by decide +kernel
theorem dX12_put_46 : decode cX12_put 46 = .ok (.if_icmp .ne 5, 3) := by decide +kernel
theorem dX12_put_49 : decode cX12_put 49 = .ok (.iconst 0, 1) := by decide +kernel
theorem dX12_put_50 : decode cX12_put 50 = .ok (.ireturn, 1) := by decide +kernel
theorem dX12_put_51 : decode cX12_put 51 = .ok (.aload_n 0, 1) := by decide +kernel
theorem dX12_put_52 : decode cX12_put 52 = .ok (.invokevirtual 420, 3) := by decide +kernel
theorem dX12_put_55 : decode cX12_put 55 = .ok (.aload_n 0, 1) := by decide +kernel
theorem dX12_put_56 : decode cX12_put 56 = .ok (.getfield 93, 3) := by decide +kernel
theorem dX12_put_59 : decode cX12_put 59 = .ok (.iload_n 1, 1) := by decide +kernel
theorem dX12_put_60 : decode cX12_put 60 = .ok (.iload_n 2, 1) := by decide +kernel
theorem dX12_put_61 : decode cX12_put 61 = .ok (.iastore, 1) := by decide +kernel
theorem dX12_put_62 : decode cX12_put 62 = .ok (.iconst 1, 1) := by decide +kernel
theorem dX12_put_63 : decode cX12_put 63 = .ok (.ireturn, 1) := by decide +kernel
theorem dX12_oil_0 : decode cX12_oil 0 = .ok (.aload_n 0, 1) := by decide +kernel
theorem dX12_oil_1 : decode cX12_oil 1 = .ok (.iconst 0, 1) := by decide +kernel
theorem dX12_oil_2 : decode cX12_oil 2 = .ok (.putfield 145, 3) := by decide +kernel
theorem dX12_oil_5 : decode cX12_oil 5 = .ok (.iload_n 1, 1) := by decide +kernel
theorem dX12_oil_6 : decode cX12_oil 6 = .ok (.iconst 1, 1) := by decide +kernel
theorem dX12_oil_7 : decode cX12_oil 7 = .ok (.if_icmp .lt 22, 3) := by decide +kernel
theorem dX12_oil_10 : decode cX12_oil 10 = .ok (.iload_n 1, 1) := by decide +kernel
theorem dX12_oil_11 : decode cX12_oil 11 = .ok (.bipush 98, 2) := by decide +kernel
theorem dX12_oil_13 : decode cX12_oil 13 = .ok (.if_icmp .gt 16, 3) := by decide +kernel
theorem dX12_oil_16 : decode cX12_oil 16 = .ok (.aload_n 0, 1) := by decide +kernel
theorem dX12_oil_17 : decode cX12_oil 17 = .ok (.getfield 75, 3) := by decide +kernel
theorem dX12_oil_20 : decode cX12_oil 20 = .ok (.iconst 0, 1) := by decide +kernel
theorem dX12_oil_21 : decode cX12_oil 21 = .ok (.iaload, 1) := by decide +kernel
theorem dX12_oil_22 : decode cX12_oil 22 = .ok (.iload_n 1, 1) := by decide +kernel
theorem dX12_oil_23 : decode cX12_oil 23 = .ok (.iadd, 1) := by decide +kernel
theorem dX12_oil_24 : decode cX12_oil 24 = .ok (.bipush 99, 2) := by decide +kernel
theorem dX12_oil_26 : decode cX12_oil 26 = .ok (.if_icmp .le 5, 3) := by decide +kernel
theorem dX12_oil_29 : decode cX12_oil 29 = .ok (.iconst (-1), 1) := by decide +kernel
theorem dX12_oil_30 : decode cX12_oil 30 = .ok (.ireturn, 1) := by decide +kernel
theorem dX12_oil_31 : decode cX12_oil 31 = .ok (.aload_n 0, 1) := by decide +kernel
theorem dX12_oil_32 : decode cX12_oil 32 = .ok (.invokevirtual 420, 3) := by decide +kernel
theorem dX12_oil_35 : decode cX12_oil 35 = .ok (.aload_n 0, 1) := by decide +kernel
theorem dX12_oil_36 : decode cX12_oil 36 = .ok (.getfield 75, 3) := by decide +kernel
theorem dX12_oil_39 : decode cX12_oil 39 = .ok (.iconst 0, 1) := by decide +kernel
theorem dX12_oil_40 : decode cX12_oil 40 = .ok (.dup2, 1) := by decide +kernel
theorem dX12_oil_41 : decode cX12_oil 41 = .ok (.iaload, 1) := by decide +kernel
theorem dX12_oil_42 : decode cX12_oil 42 = .ok (.iload_n 1, 1) := by decide +kernel
theorem dX12_oil_43 : decode cX12_oil 43 = .ok (.iadd, 1) := by decide +kernel
theorem dX12_oil_44 : decode cX12_oil 44 = .ok (.iastore, 1) := by decide +kernel
theorem dX12_oil_45 : decode cX12_oil 45 = .ok (.aload_n 0, 1) := by decide +kernel
theorem dX12_oil_46 : decode cX12_oil 46 = .ok (.getfield 75, 3) := by decide +kernel
theorem dX12_oil_49 : decode cX12_oil 49 = .ok (.iconst 0, 1) := by decide +kernel
theorem dX12_oil_50 : decode cX12_oil 50 = .ok (.iaload, 1) := by decide +kernel
theorem dX12_oil_51 : decode cX12_oil 51 = .ok (.ireturn, 1) := by decide +kernel
def wp_X12_slack (x1 : Int32) (x2 : Int32) (h : ck_H) (Q : Int32 → ck_H → Prop) : Prop := (∀ h1, h1 = ck_sI h 0 0 (0 : Int32) → (wp_X12_isJudge x1 h1 (fun r3 h2 => ((r3 = 0 → Q (-1 : Int32) h2) ∧ (¬ r3 = 0 → (wp_X12_isNut x2 h2 (fun r6 h5 => ((r6 = 0 → Q (-1 : Int32) h5) ∧ (¬ r6 = 0 → (vp_in x2 12 ∧ (wp_X12_slackOf (0 : Int32) x1 x2 (h5.1 7 x2.toNatClampNeg) h5 (fun r10 h9 => Q r10 h9))))))))))))
set_option maxHeartbeats 4000000 in
set_option maxRecDepth 100000 in
theorem c_X12_slack {gr : Bool} {x1 : Int32} {x2 : Int32} {h : ck_H} {Q : Int32 → ck_H → Prop} (hq : wp_X12_slack x1 x2 h Q) : ck_M yX12_slack cX12_slack 3 (some .int) 7 0 0 gr ck_shM h [.ref 0, .int x1, .int x2] (ck_Qi ck_shM Q) := by
  refine ck_entry (lv := [(0, .ref 0), (1, .int x1), (2, .int x2)]) false (own := RX12) rfl (fun q => by cases q) (by decide) (Nat.le_of_ble_eq_true rfl) rfl ?_
  refine ck_aload_n 0 dX12_slack_0 rfl rfl ?_
  refine ck_iconst (v := 0) dX12_slack_1 (by decide) ?_
  refine ck_putI clX12 0 rfl rfl (by decide) fl_X12_145 rfl rfl rfl dX12_slack_2 ?_
  refine ck_nmH (fun h1 eh1 => ?_)
  have hq := hq h1 eh1
  refine ck_aload_n 0 dX12_slack_5 rfl rfl ?_
  refine ck_iload_n 1 dX12_slack_6 rfl rfl ?_
  refine ck_callV (c_X12_isJudge hq) rfl cal_X12_isJudge rfl ml_X12_404 vir_X12_isJudge rfl rfl (by decide) (Nat.le_of_ble_eq_true rfl) (Nat.le_of_ble_eq_true rfl) (by decide) (by decide) dX12_slack_7 ?_
  rintro _ _ h2 ⟨r3, rfl, rfl, hq⟩
  refine ck_if_eq (tgt := 37) dX12_slack_10 (by decide) (fun c4 => ?_) (fun c4 => ?_)
  · have hq := hq.1 c4
    refine ck_iconst (v := -1) dX12_slack_37 (by decide) ?_
    exact ck_iret rfl rfl rfl rfl dX12_slack_38 ⟨_, rfl, rfl, hq⟩
  · have hq := hq.2 c4
    refine ck_aload_n 0 dX12_slack_13 rfl rfl ?_
    refine ck_iload_n 2 dX12_slack_14 rfl rfl ?_
    refine ck_callV (c_X12_isNut hq) rfl cal_X12_isNut rfl ml_X12_410 vir_X12_isNut rfl rfl (by decide) (Nat.le_of_ble_eq_true rfl) (Nat.le_of_ble_eq_true rfl) (by decide) (by decide) dX12_slack_15 ?_
    rintro _ _ h5 ⟨r6, rfl, rfl, hq⟩
    refine ck_if_eq (tgt := 37) dX12_slack_18 (by decide) (fun c7 => ?_) (fun c7 => ?_)
    · have hq := hq.1 c7
      refine ck_iconst (v := -1) dX12_slack_37 (by decide) ?_
      exact ck_iret rfl rfl rfl rfl dX12_slack_38 ⟨_, rfl, rfl, hq⟩
    · have hq := hq.2 c7
      refine ck_aload_n 0 dX12_slack_21 rfl rfl ?_
      refine ck_iconst (v := 0) dX12_slack_22 (by decide) ?_
      refine ck_iload_n 1 dX12_slack_23 rfl rfl ?_
      refine ck_iload_n 2 dX12_slack_24 rfl rfl ?_
      refine ck_aload_n 0 dX12_slack_25 rfl rfl ?_
      refine ck_getR clX12 8 rfl rfl (by decide) fl_X12_28 dX12_slack_26 ?_
      refine ck_iload_n 2 dX12_slack_29 rfl rfl ?_
      obtain ⟨b8, hq⟩ := hq
      refine ck_iald rfl rfl b8 dX12_slack_30 ?_
      refine ck_callV (c_X12_slackOf hq) rfl cal_X12_slackOf rfl ml_X12_358 vir_X12_slackOf rfl rfl (by decide) (Nat.le_of_ble_eq_true rfl) (Nat.le_of_ble_eq_true rfl) (by decide) (by decide) dX12_slack_31 ?_
      rintro _ _ h9 ⟨r10, rfl, rfl, hq⟩
      refine ck_goto (tgt := 38) dX12_slack_34 (by decide) ?_
      exact ck_iret rfl rfl rfl rfl dX12_slack_38 ⟨_, rfl, rfl, hq⟩
def wp_X12_verdictAt (x1 : Int32) (x2 : Int32) (x3 : Int32) (x4 : Int32) (h : ck_H) (Q : Int32 → ck_H → Prop) : Prop := (wp_X12_forceOf x1 x2 x3 x4 h (fun r2 h1 => (∀ v3, v3 = (r2 - x4) → ((0 ≤ v3 → (wp_X12_slackOf x1 x2 x3 x4 h1 (fun r6 h5 => ((r6 ≤ v3 → ((((2 : Int32) * r6) ≤ v3 → Q (3 : Int32) h5) ∧ (¬ ((2 : Int32) * r6) ≤ v3 → Q (2 : Int32) h5))) ∧ (¬ r6 ≤ v3 → Q (1 : Int32) h5))))) ∧ (¬ 0 ≤ v3 → Q (0 : Int32) h1)))))
set_option maxHeartbeats 4000000 in
set_option maxRecDepth 100000 in
theorem c_X12_verdictAt {gr : Bool} {x1 : Int32} {x2 : Int32} {x3 : Int32} {x4 : Int32} {h : ck_H} {Q : Int32 → ck_H → Prop} (hq : wp_X12_verdictAt x1 x2 x3 x4 h Q) : ck_M yX12_verdictAt cX12_verdictAt 7 (some .int) 7 0 0 gr ck_shM h [.ref 0, .int x1, .int x2, .int x3, .int x4] (ck_Qi ck_shM Q) := by
  refine ck_entry (lv := [(0, .ref 0), (1, .int x1), (2, .int x2), (3, .int x3), (4, .int x4)]) false (own := RX12) rfl (fun q => by cases q) (by decide) (Nat.le_of_ble_eq_true rfl) rfl ?_
  refine ck_aload_n 0 dX12_verdictAt_0 rfl rfl ?_
  refine ck_iload_n 1 dX12_verdictAt_1 rfl rfl ?_
  refine ck_iload_n 2 dX12_verdictAt_2 rfl rfl ?_
  refine ck_iload_n 3 dX12_verdictAt_3 rfl rfl ?_
  refine ck_iload 4 dX12_verdictAt_4 rfl ?_
  refine ck_callV (c_X12_forceOf hq) rfl cal_X12_forceOf rfl ml_X12_355 vir_X12_forceOf rfl rfl (by decide) (Nat.le_of_ble_eq_true rfl) (Nat.le_of_ble_eq_true rfl) (by decide) (by decide) dX12_verdictAt_6 ?_
  rintro _ _ h1 ⟨r2, rfl, rfl, hq⟩
  refine ck_iload 4 dX12_verdictAt_9 rfl ?_
  refine ck_isub dX12_verdictAt_11 ?_
  refine ck_nmI (fun v3 ev3 => ?_)
  have hq := hq v3 ev3
  refine ck_istore (lv' := [(5, .int v3), (0, .ref 0), (1, .int x1), (2, .int x2), (3, .int x3), (4, .int x4)]) dX12_verdictAt_12 (by decide) rfl ?_
  refine ck_iload 0 dX12_verdictAt_14 rfl ?_
  refine ck_if_ge (tgt := 21) dX12_verdictAt_16 (by decide) (fun c4 => ?_) (fun c4 => ?_)
  · have hq := hq.1 c4
    refine ck_aload_n 1 dX12_verdictAt_21 rfl rfl ?_
    refine ck_iload_n 2 dX12_verdictAt_22 rfl rfl ?_
    refine ck_iload_n 3 dX12_verdictAt_23 rfl rfl ?_
    refine ck_iload_n 4 dX12_verdictAt_24 rfl rfl ?_
    refine ck_iload 5 dX12_verdictAt_25 rfl ?_
    refine ck_callV (c_X12_slackOf hq) rfl cal_X12_slackOf rfl ml_X12_358 vir_X12_slackOf rfl rfl (by decide) (Nat.le_of_ble_eq_true rfl) (Nat.le_of_ble_eq_true rfl) (by decide) (by decide) dX12_verdictAt_27 ?_
    rintro _ _ h5 ⟨r6, rfl, rfl, hq⟩
    refine ck_istore (lv' := [(6, .int r6), (5, .int v3), (0, .ref 0), (1, .int x1), (2, .int x2), (3, .int x3), (4, .int x4)]) dX12_verdictAt_30 (by decide) rfl ?_
    refine ck_iload 1 dX12_verdictAt_32 rfl ?_
    refine ck_iload 0 dX12_verdictAt_34 rfl ?_
    refine ck_icmp_ge (tgt := 43) dX12_verdictAt_36 (by decide) (fun c7 => ?_) (fun c7 => ?_)
    · have hq := hq.1 c7
      refine ck_iload 1 dX12_verdictAt_43 rfl ?_
      refine ck_iconst (v := 2) dX12_verdictAt_45 (by decide) ?_
      refine ck_iload 0 dX12_verdictAt_46 rfl ?_
      refine ck_imul dX12_verdictAt_48 ?_
      refine ck_icmp_ge (tgt := 56) dX12_verdictAt_49 (by decide) (fun c8 => ?_) (fun c8 => ?_)
      · have hq := hq.1 c8
        refine ck_iconst (v := 3) dX12_verdictAt_56 (by decide) ?_
        exact ck_iret rfl rfl rfl rfl dX12_verdictAt_57 ⟨_, rfl, rfl, hq⟩
      · have hq := hq.2 c8
        refine ck_iconst (v := 2) dX12_verdictAt_52 (by decide) ?_
        refine ck_goto (tgt := 57) dX12_verdictAt_53 (by decide) ?_
        exact ck_iret rfl rfl rfl rfl dX12_verdictAt_57 ⟨_, rfl, rfl, hq⟩
    · have hq := hq.2 c7
      refine ck_iconst (v := 1) dX12_verdictAt_39 (by decide) ?_
      refine ck_goto (tgt := 57) dX12_verdictAt_40 (by decide) ?_
      exact ck_iret rfl rfl rfl rfl dX12_verdictAt_57 ⟨_, rfl, rfl, hq⟩
  · have hq := hq.2 c4
    refine ck_iconst (v := 0) dX12_verdictAt_19 (by decide) ?_
    exact ck_iret rfl rfl rfl rfl dX12_verdictAt_20 ⟨_, rfl, rfl, hq⟩
def wp_X12_verdict (x1 : Int32) (x2 : Int32) (h : ck_H) (Q : Int32 → ck_H → Prop) : Prop := (∀ h1, h1 = ck_sI h 0 0 (0 : Int32) → (wp_X12_isJudge x1 h1 (fun r3 h2 => ((r3 = 0 → Q (-1 : Int32) h2) ∧ (¬ r3 = 0 → (wp_X12_isNut x2 h2 (fun r6 h5 => ((r6 = 0 → Q (-1 : Int32) h5) ∧ (¬ r6 = 0 → (vp_in x2 12 ∧ (wp_X12_verdictAt (0 : Int32) x1 x2 (h5.1 7 x2.toNatClampNeg) h5 (fun r10 h9 => Q r10 h9))))))))))))
set_option maxHeartbeats 4000000 in
set_option maxRecDepth 100000 in
theorem c_X12_verdict {gr : Bool} {x1 : Int32} {x2 : Int32} {h : ck_H} {Q : Int32 → ck_H → Prop} (hq : wp_X12_verdict x1 x2 h Q) : ck_M yX12_verdict cX12_verdict 3 (some .int) 8 0 0 gr ck_shM h [.ref 0, .int x1, .int x2] (ck_Qi ck_shM Q) := by
  refine ck_entry (lv := [(0, .ref 0), (1, .int x1), (2, .int x2)]) false (own := RX12) rfl (fun q => by cases q) (by decide) (Nat.le_of_ble_eq_true rfl) rfl ?_
  refine ck_aload_n 0 dX12_verdict_0 rfl rfl ?_
  refine ck_iconst (v := 0) dX12_verdict_1 (by decide) ?_
  refine ck_putI clX12 0 rfl rfl (by decide) fl_X12_145 rfl rfl rfl dX12_verdict_2 ?_
  refine ck_nmH (fun h1 eh1 => ?_)
  have hq := hq h1 eh1
  refine ck_aload_n 0 dX12_verdict_5 rfl rfl ?_
  refine ck_iload_n 1 dX12_verdict_6 rfl rfl ?_
  refine ck_callV (c_X12_isJudge hq) rfl cal_X12_isJudge rfl ml_X12_404 vir_X12_isJudge rfl rfl (by decide) (Nat.le_of_ble_eq_true rfl) (Nat.le_of_ble_eq_true rfl) (by decide) (by decide) dX12_verdict_7 ?_
  rintro _ _ h2 ⟨r3, rfl, rfl, hq⟩
  refine ck_if_eq (tgt := 37) dX12_verdict_10 (by decide) (fun c4 => ?_) (fun c4 => ?_)
  · have hq := hq.1 c4
    refine ck_iconst (v := -1) dX12_verdict_37 (by decide) ?_
    exact ck_iret rfl rfl rfl rfl dX12_verdict_38 ⟨_, rfl, rfl, hq⟩
  · have hq := hq.2 c4
    refine ck_aload_n 0 dX12_verdict_13 rfl rfl ?_
    refine ck_iload_n 2 dX12_verdict_14 rfl rfl ?_
    refine ck_callV (c_X12_isNut hq) rfl cal_X12_isNut rfl ml_X12_410 vir_X12_isNut rfl rfl (by decide) (Nat.le_of_ble_eq_true rfl) (Nat.le_of_ble_eq_true rfl) (by decide) (by decide) dX12_verdict_15 ?_
    rintro _ _ h5 ⟨r6, rfl, rfl, hq⟩
    refine ck_if_eq (tgt := 37) dX12_verdict_18 (by decide) (fun c7 => ?_) (fun c7 => ?_)
    · have hq := hq.1 c7
      refine ck_iconst (v := -1) dX12_verdict_37 (by decide) ?_
      exact ck_iret rfl rfl rfl rfl dX12_verdict_38 ⟨_, rfl, rfl, hq⟩
    · have hq := hq.2 c7
      refine ck_aload_n 0 dX12_verdict_21 rfl rfl ?_
      refine ck_iconst (v := 0) dX12_verdict_22 (by decide) ?_
      refine ck_iload_n 1 dX12_verdict_23 rfl rfl ?_
      refine ck_iload_n 2 dX12_verdict_24 rfl rfl ?_
      refine ck_aload_n 0 dX12_verdict_25 rfl rfl ?_
      refine ck_getR clX12 8 rfl rfl (by decide) fl_X12_28 dX12_verdict_26 ?_
      refine ck_iload_n 2 dX12_verdict_29 rfl rfl ?_
      obtain ⟨b8, hq⟩ := hq
      refine ck_iald rfl rfl b8 dX12_verdict_30 ?_
      refine ck_callV (c_X12_verdictAt hq) rfl cal_X12_verdictAt rfl ml_X12_374 vir_X12_verdictAt rfl rfl (by decide) (Nat.le_of_ble_eq_true rfl) (Nat.le_of_ble_eq_true rfl) (by decide) (by decide) dX12_verdict_31 ?_
      rintro _ _ h9 ⟨r10, rfl, rfl, hq⟩
      refine ck_goto (tgt := 38) dX12_verdict_34 (by decide) ?_
      exact ck_iret rfl rfl rfl rfl dX12_verdict_38 ⟨_, rfl, rfl, hq⟩
def wp_X12_law (x1 : Int32) (x2 : Int32) (x3 : Int32) (h : ck_H) (Q : Int64 → ck_H → Prop) : Prop := (∀ h1, h1 = ck_sI h 0 0 (0 : Int32) → ((x1 < 0 → Q (-9223372036854775808 : Int64) h1) ∧ (¬ x1 < 0 → (((2 : Int32) < x1 → Q (-9223372036854775808 : Int64) h1) ∧ (¬ (2 : Int32) < x1 → (wp_X12_hasLaw x1 h1 (fun r5 h4 => ((r5 = 0 → Q (-9223372036854775808 : Int64) h4) ∧ (¬ r5 = 0 → (wp_X12_isJudge x2 h4 (fun r8 h7 => ((r8 = 0 → Q (-9223372036854775808 : Int64) h7) ∧ (¬ r8 = 0 → (wp_X12_isNut x3 h7 (fun r11 h10 => ((¬ r11 = 0 → (vp_in x3 12 ∧ (wp_X12_calls (0 : Int32) x2 x3 (h10.1 7 x3.toNatClampNeg) h10 (fun h14 => (wp_X12_goes x1 h14 (fun r16 h15 => ((r16 = 0 → Q (-9223372036854775808 : Int64) h15) ∧ (¬ r16 = 0 → Q (h15.2 19 0) h15)))))))) ∧ (r11 = 0 → Q (-9223372036854775808 : Int64) h10)))))))))))))))))
set_option maxHeartbeats 4000000 in
set_option maxRecDepth 100000 in
theorem c_X12_law {gr : Bool} {x1 : Int32} {x2 : Int32} {x3 : Int32} {h : ck_H} {Q : Int64 → ck_H → Prop} (hq : wp_X12_law x1 x2 x3 h Q) : ck_M yX12_law cX12_law 4 (some .long) 5 0 0 gr ck_shM h [.ref 0, .int x1, .int x2, .int x3] (ck_Ql ck_shM Q) := by
  refine ck_entry (lv := [(0, .ref 0), (1, .int x1), (2, .int x2), (3, .int x3)]) false (own := RX12) rfl (fun q => by cases q) (by decide) (Nat.le_of_ble_eq_true rfl) rfl ?_
  refine ck_aload_n 0 dX12_law_0 rfl rfl ?_
  refine ck_iconst (v := 0) dX12_law_1 (by decide) ?_
  refine ck_putI clX12 0 rfl rfl (by decide) fl_X12_145 rfl rfl rfl dX12_law_2 ?_
  refine ck_nmH (fun h1 eh1 => ?_)
  have hq := hq h1 eh1
  refine ck_iload_n 1 dX12_law_5 rfl rfl ?_
  refine ck_if_lt (tgt := 38) dX12_law_6 (by decide) (fun c2 => ?_) (fun c2 => ?_)
  · have hq := hq.1 c2
    refine ck_ldc2 con_X12_415 dX12_law_38 ?_
    exact ck_lret rfl rfl rfl dX12_law_41 ⟨_, rfl, rfl, hq⟩
  · have hq := hq.2 c2
    refine ck_iload_n 1 dX12_law_9 rfl rfl ?_
    refine ck_iconst (v := 2) dX12_law_10 (by decide) ?_
    refine ck_icmp_gt (tgt := 38) dX12_law_11 (by decide) (fun c3 => ?_) (fun c3 => ?_)
    · have hq := hq.1 c3
      refine ck_ldc2 con_X12_415 dX12_law_38 ?_
      exact ck_lret rfl rfl rfl dX12_law_41 ⟨_, rfl, rfl, hq⟩
    · have hq := hq.2 c3
      refine ck_aload_n 0 dX12_law_14 rfl rfl ?_
      refine ck_iload_n 1 dX12_law_15 rfl rfl ?_
      refine ck_callV (c_X12_hasLaw hq) rfl cal_X12_hasLaw rfl ml_X12_331 vir_X12_hasLaw rfl rfl (by decide) (Nat.le_of_ble_eq_true rfl) (Nat.le_of_ble_eq_true rfl) (by decide) (by decide) dX12_law_16 ?_
      rintro _ _ h4 ⟨r5, rfl, rfl, hq⟩
      refine ck_if_eq (tgt := 38) dX12_law_19 (by decide) (fun c6 => ?_) (fun c6 => ?_)
      · have hq := hq.1 c6
        refine ck_ldc2 con_X12_415 dX12_law_38 ?_
        exact ck_lret rfl rfl rfl dX12_law_41 ⟨_, rfl, rfl, hq⟩
      · have hq := hq.2 c6
        refine ck_aload_n 0 dX12_law_22 rfl rfl ?_
        refine ck_iload_n 2 dX12_law_23 rfl rfl ?_
        refine ck_callV (c_X12_isJudge hq) rfl cal_X12_isJudge rfl ml_X12_404 vir_X12_isJudge rfl rfl (by decide) (Nat.le_of_ble_eq_true rfl) (Nat.le_of_ble_eq_true rfl) (by decide) (by decide) dX12_law_24 ?_
        rintro _ _ h7 ⟨r8, rfl, rfl, hq⟩
        refine ck_if_eq (tgt := 38) dX12_law_27 (by decide) (fun c9 => ?_) (fun c9 => ?_)
        · have hq := hq.1 c9
          refine ck_ldc2 con_X12_415 dX12_law_38 ?_
          exact ck_lret rfl rfl rfl dX12_law_41 ⟨_, rfl, rfl, hq⟩
        · have hq := hq.2 c9
          refine ck_aload_n 0 dX12_law_30 rfl rfl ?_
          refine ck_iload_n 3 dX12_law_31 rfl rfl ?_
          refine ck_callV (c_X12_isNut hq) rfl cal_X12_isNut rfl ml_X12_410 vir_X12_isNut rfl rfl (by decide) (Nat.le_of_ble_eq_true rfl) (Nat.le_of_ble_eq_true rfl) (by decide) (by decide) dX12_law_32 ?_
          rintro _ _ h10 ⟨r11, rfl, rfl, hq⟩
          refine ck_if_ne (tgt := 42) dX12_law_35 (by decide) (fun c12 => ?_) (fun c12 => ?_)
          · have hq := hq.1 c12
            refine ck_aload_n 0 dX12_law_42 rfl rfl ?_
            refine ck_iconst (v := 0) dX12_law_43 (by decide) ?_
            refine ck_iload_n 2 dX12_law_44 rfl rfl ?_
            refine ck_iload_n 3 dX12_law_45 rfl rfl ?_
            refine ck_aload_n 0 dX12_law_46 rfl rfl ?_
            refine ck_getR clX12 8 rfl rfl (by decide) fl_X12_28 dX12_law_47 ?_
            refine ck_iload_n 3 dX12_law_50 rfl rfl ?_
            obtain ⟨b13, hq⟩ := hq
            refine ck_iald rfl rfl b13 dX12_law_51 ?_
            refine ck_callV (c_X12_calls hq) rfl cal_X12_calls rfl ml_X12_344 vir_X12_calls rfl rfl (by decide) (Nat.le_of_ble_eq_true rfl) (Nat.le_of_ble_eq_true rfl) (by decide) (by decide) dX12_law_52 ?_
            rintro _ _ h14 ⟨rfl, rfl, hq⟩
            refine ck_aload_n 0 dX12_law_55 rfl rfl ?_
            refine ck_iload_n 1 dX12_law_56 rfl rfl ?_
            refine ck_callV (c_X12_goes hq) rfl cal_X12_goes rfl ml_X12_334 vir_X12_goes rfl rfl (by decide) (Nat.le_of_ble_eq_true rfl) (Nat.le_of_ble_eq_true rfl) (by decide) (by decide) dX12_law_57 ?_
            rintro _ _ h15 ⟨r16, rfl, rfl, hq⟩
            refine ck_if_eq (tgt := 72) dX12_law_60 (by decide) (fun c17 => ?_) (fun c17 => ?_)
            · have hq := hq.1 c17
              refine ck_ldc2 con_X12_415 dX12_law_72 ?_
              exact ck_lret rfl rfl rfl dX12_law_75 ⟨_, rfl, rfl, hq⟩
            · have hq := hq.2 c17
              refine ck_aload_n 0 dX12_law_63 rfl rfl ?_
              refine ck_getR clX12 33 rfl rfl (by decide) fl_X12_69 dX12_law_64 ?_
              refine ck_iconst (v := 0) dX12_law_67 (by decide) ?_
              refine ck_lald (j := 0) (by decide) rfl (ck_inL (by decide)) dX12_law_68 ?_
              refine ck_goto (tgt := 75) dX12_law_69 (by decide) ?_
              exact ck_lret rfl rfl rfl dX12_law_75 ⟨_, rfl, rfl, hq⟩
          · have hq := hq.2 c12
            refine ck_ldc2 con_X12_415 dX12_law_38 ?_
            exact ck_lret rfl rfl rfl dX12_law_41 ⟨_, rfl, rfl, hq⟩
def wp_X12_copies_50 (Q : ck_H → Prop) (K101 : Int32 → Int32 → ck_H → Prop) : Nat → Int32 → Int32 → Int32 → ck_H → Prop
  | 0 => fun _ _ _ _ => False
  | n + 1 => fun x1 x2 x3 h => (((4 : Int32) ≤ x3 → K101 x1 x2 h) ∧ (¬ (4 : Int32) ≤ x3 → (vp_in (((4 : Int32) * x2) + x3) 92 ∧ (vp_in (((4 : Int32) * x1) + x3) 92 ∧ (∀ h16, h16 = ck_sI h 24 (((4 : Int32) * x1) + x3).toNatClampNeg (h.1 24 (((4 : Int32) * x2) + x3).toNatClampNeg) → (vp_in (((4 : Int32) * x2) + x3) 92 ∧ (vp_in (((4 : Int32) * x1) + x3) 92 ∧ (∀ h19, h19 = ck_sI h16 25 (((4 : Int32) * x1) + x3).toNatClampNeg (h16.1 25 (((4 : Int32) * x2) + x3).toNatClampNeg) → (∀ v20, v20 = x3 + 1 → (wp_X12_copies_50 Q K101 n) x1 x2 v20 h19)))))))))
def wp_X12_copies_103 (Q : ck_H → Prop) : Nat → Int32 → Int32 → Int32 → ck_H → Prop
  | 0 => fun _ _ _ _ => False
  | n + 1 => fun x1 x2 x3 h => (((10 : Int32) ≤ x3 → Q h) ∧ (¬ (10 : Int32) ≤ x3 → (vp_in (((10 : Int32) * x2) + x3) 230 ∧ (vp_in (((10 : Int32) * x1) + x3) 230 ∧ (∀ h27, h27 = ck_sI h 26 (((10 : Int32) * x1) + x3).toNatClampNeg (h.1 26 (((10 : Int32) * x2) + x3).toNatClampNeg) → (vp_in (((10 : Int32) * x2) + x3) 230 ∧ (vp_in (((10 : Int32) * x1) + x3) 230 ∧ (∀ h30, h30 = ck_sI h27 27 (((10 : Int32) * x1) + x3).toNatClampNeg (h27.1 27 (((10 : Int32) * x2) + x3).toNatClampNeg) → (vp_in (((10 : Int32) * x2) + x3) 230 ∧ (vp_in (((10 : Int32) * x1) + x3) 230 ∧ (∀ h33, h33 = ck_sI h30 28 (((10 : Int32) * x1) + x3).toNatClampNeg (h30.1 28 (((10 : Int32) * x2) + x3).toNatClampNeg) → (∀ v34, v34 = x3 + 1 → (wp_X12_copies_103 Q n) x1 x2 v34 h33))))))))))))
def wp_X12_copies (x1 : Int32) (x2 : Int32) (h : ck_H) (Q : ck_H → Prop) : Prop := (vp_in x2 23 ∧ (vp_in x1 23 ∧ (∀ h3, h3 = ck_sI h 20 x1.toNatClampNeg (h.1 20 x2.toNatClampNeg) → (vp_in x2 23 ∧ (vp_in x1 23 ∧ (∀ h6, h6 = ck_sI h3 21 x1.toNatClampNeg (h3.1 21 x2.toNatClampNeg) → (vp_in x2 23 ∧ (vp_in x1 23 ∧ (∀ h9, h9 = ck_sI h6 22 x1.toNatClampNeg (h6.1 22 x2.toNatClampNeg) → (vp_in x2 23 ∧ (vp_in x1 23 ∧ (∀ h12, h12 = ck_sI h9 23 x1.toNatClampNeg (h9.1 23 x2.toNatClampNeg) → wp_X12_copies_50 Q (fun x22 x23 h21 => wp_X12_copies_103 Q lpN x22 x23 (0 : Int32) h21) lpN x1 x2 (0 : Int32) h12))))))))))))
set_option maxHeartbeats 4000000 in
set_option maxRecDepth 100000 in
theorem cp_X12_copies_50 {gr : Bool} {Q : ck_H → Prop} {K101 : Int32 → Int32 → ck_H → Prop} (hK101 : ∀ (x1 : Int32) (x2 : Int32) (h : ck_H), K101 x1 x2 h → ck_W cX12_copies 4 RX12 none 2 0 0 false gr (ck_Qv ck_shM Q) ck_shM h 0 0 101 [(0, .ref 0), (1, .int x1), (2, .int x2)] []) : ∀ (n : Nat) (x1 : Int32) (x2 : Int32) (x3 : Int32) (h : ck_H), wp_X12_copies_50 Q K101 n x1 x2 x3 h → ck_W cX12_copies 4 RX12 none 2 0 0 false gr (ck_Qv ck_shM Q) ck_shM h 0 0 50 [(0, .ref 0), (1, .int x1), (2, .int x2), (3, .int x3)] [] := by
  intro n
  induction n with
  | zero => intro x1 x2 x3 h hq; exact hq.elim
  | succ n hKc =>
    intro x1 x2 x3 h hq
    refine ck_iload_n 3 dX12_copies_50 rfl rfl ?_
    refine ck_iconst (v := 4) dX12_copies_51 (by decide) ?_
    refine ck_icmp_ge (tgt := 101) dX12_copies_52 (by decide) (fun c13 => ?_) (fun c13 => ?_)
    · have hq := hq.1 c13
      refine ck_loc [0, 1, 2] rfl ?_
      exact hK101 _ _ _ hq
    · have hq := hq.2 c13
      refine ck_aload_n 0 dX12_copies_55 rfl rfl ?_
      refine ck_getR clX12 39 rfl rfl (by decide) fl_X12_84 dX12_copies_56 ?_
      refine ck_iconst (v := 4) dX12_copies_59 (by decide) ?_
      refine ck_iload_n 1 dX12_copies_60 rfl rfl ?_
      refine ck_imul dX12_copies_61 ?_
      refine ck_iload_n 3 dX12_copies_62 rfl rfl ?_
      refine ck_iadd dX12_copies_63 ?_
      refine ck_aload_n 0 dX12_copies_64 rfl rfl ?_
      refine ck_getR clX12 39 rfl rfl (by decide) fl_X12_84 dX12_copies_65 ?_
      refine ck_iconst (v := 4) dX12_copies_68 (by decide) ?_
      refine ck_iload_n 2 dX12_copies_69 rfl rfl ?_
      refine ck_imul dX12_copies_70 ?_
      refine ck_iload_n 3 dX12_copies_71 rfl rfl ?_
      refine ck_iadd dX12_copies_72 ?_
      obtain ⟨b14, hq⟩ := hq
      refine ck_iald rfl rfl b14 dX12_copies_73 ?_
      obtain ⟨b15, hq⟩ := hq
      refine ck_iast rfl rfl b15 dX12_copies_74 ?_
      refine ck_nmH (fun h16 eh16 => ?_)
      have hq := hq h16 eh16
      refine ck_aload_n 0 dX12_copies_75 rfl rfl ?_
      refine ck_getR clX12 40 rfl rfl (by decide) fl_X12_87 dX12_copies_76 ?_
      refine ck_iconst (v := 4) dX12_copies_79 (by decide) ?_
      refine ck_iload_n 1 dX12_copies_80 rfl rfl ?_
      refine ck_imul dX12_copies_81 ?_
      refine ck_iload_n 3 dX12_copies_82 rfl rfl ?_
      refine ck_iadd dX12_copies_83 ?_
      refine ck_aload_n 0 dX12_copies_84 rfl rfl ?_
      refine ck_getR clX12 40 rfl rfl (by decide) fl_X12_87 dX12_copies_85 ?_
      refine ck_iconst (v := 4) dX12_copies_88 (by decide) ?_
      refine ck_iload_n 2 dX12_copies_89 rfl rfl ?_
      refine ck_imul dX12_copies_90 ?_
      refine ck_iload_n 3 dX12_copies_91 rfl rfl ?_
      refine ck_iadd dX12_copies_92 ?_
      obtain ⟨b17, hq⟩ := hq
      refine ck_iald rfl rfl b17 dX12_copies_93 ?_
      obtain ⟨b18, hq⟩ := hq
      refine ck_iast rfl rfl b18 dX12_copies_94 ?_
      refine ck_nmH (fun h19 eh19 => ?_)
      have hq := hq h19 eh19
      obtain ⟨v20, ev20⟩ : ∃ z : Int32, z = x3 + 1 := ⟨_, rfl⟩
      have hq := hq v20 ev20
      refine ck_iinc (v := v20) (lv' := [(3, .int v20), (0, .ref 0), (1, .int x1), (2, .int x2)]) 3 dX12_copies_95 rfl (by rw [ev20]; rfl) (by decide) rfl ?_
      refine ck_goto (tgt := 50) dX12_copies_98 (by decide) ?_
      refine ck_loc [1, 2, 3, 0] rfl ?_
      exact hKc _ _ _ _ hq
set_option maxHeartbeats 4000000 in
set_option maxRecDepth 100000 in
theorem cp_X12_copies_103 {gr : Bool} {Q : ck_H → Prop} : ∀ (n : Nat) (x1 : Int32) (x2 : Int32) (x3 : Int32) (h : ck_H), wp_X12_copies_103 Q n x1 x2 x3 h → ck_W cX12_copies 4 RX12 none 2 0 0 false gr (ck_Qv ck_shM Q) ck_shM h 0 0 103 [(0, .ref 0), (1, .int x1), (2, .int x2), (3, .int x3)] [] := by
  intro n
  induction n with
  | zero => intro x1 x2 x3 h hq; exact hq.elim
  | succ n hKc =>
    intro x1 x2 x3 h hq
    refine ck_iload_n 3 dX12_copies_103 rfl rfl ?_
    refine ck_bipush (v := 10) dX12_copies_104 (by decide) ?_
    refine ck_icmp_ge (tgt := 181) dX12_copies_106 (by decide) (fun c24 => ?_) (fun c24 => ?_)
    · have hq := hq.1 c24
      exact ck_vret rfl rfl rfl dX12_copies_181 ⟨rfl, rfl, hq⟩
    · have hq := hq.2 c24
      refine ck_aload_n 0 dX12_copies_109 rfl rfl ?_
      refine ck_getR clX12 41 rfl rfl (by decide) fl_X12_90 dX12_copies_110 ?_
      refine ck_bipush (v := 10) dX12_copies_113 (by decide) ?_
      refine ck_iload_n 1 dX12_copies_115 rfl rfl ?_
      refine ck_imul dX12_copies_116 ?_
      refine ck_iload_n 3 dX12_copies_117 rfl rfl ?_
      refine ck_iadd dX12_copies_118 ?_
      refine ck_aload_n 0 dX12_copies_119 rfl rfl ?_
      refine ck_getR clX12 41 rfl rfl (by decide) fl_X12_90 dX12_copies_120 ?_
      refine ck_bipush (v := 10) dX12_copies_123 (by decide) ?_
      refine ck_iload_n 2 dX12_copies_125 rfl rfl ?_
      refine ck_imul dX12_copies_126 ?_
      refine ck_iload_n 3 dX12_copies_127 rfl rfl ?_
      refine ck_iadd dX12_copies_128 ?_
      obtain ⟨b25, hq⟩ := hq
      refine ck_iald rfl rfl b25 dX12_copies_129 ?_
      obtain ⟨b26, hq⟩ := hq
      refine ck_iast rfl rfl b26 dX12_copies_130 ?_
      refine ck_nmH (fun h27 eh27 => ?_)
      have hq := hq h27 eh27
      refine ck_aload_n 0 dX12_copies_131 rfl rfl ?_
      refine ck_getR clX12 42 rfl rfl (by decide) fl_X12_93 dX12_copies_132 ?_
      refine ck_bipush (v := 10) dX12_copies_135 (by decide) ?_
      refine ck_iload_n 1 dX12_copies_137 rfl rfl ?_
      refine ck_imul dX12_copies_138 ?_
      refine ck_iload_n 3 dX12_copies_139 rfl rfl ?_
      refine ck_iadd dX12_copies_140 ?_
      refine ck_aload_n 0 dX12_copies_141 rfl rfl ?_
      refine ck_getR clX12 42 rfl rfl (by decide) fl_X12_93 dX12_copies_142 ?_
      refine ck_bipush (v := 10) dX12_copies_145 (by decide) ?_
      refine ck_iload_n 2 dX12_copies_147 rfl rfl ?_
      refine ck_imul dX12_copies_148 ?_
      refine ck_iload_n 3 dX12_copies_149 rfl rfl ?_
      refine ck_iadd dX12_copies_150 ?_
      obtain ⟨b28, hq⟩ := hq
      refine ck_iald rfl rfl b28 dX12_copies_151 ?_
      obtain ⟨b29, hq⟩ := hq
      refine ck_iast rfl rfl b29 dX12_copies_152 ?_
      refine ck_nmH (fun h30 eh30 => ?_)
      have hq := hq h30 eh30
      refine ck_aload_n 0 dX12_copies_153 rfl rfl ?_
      refine ck_getR clX12 43 rfl rfl (by decide) fl_X12_96 dX12_copies_154 ?_
      refine ck_bipush (v := 10) dX12_copies_157 (by decide) ?_
      refine ck_iload_n 1 dX12_copies_159 rfl rfl ?_
      refine ck_imul dX12_copies_160 ?_
      refine ck_iload_n 3 dX12_copies_161 rfl rfl ?_
      refine ck_iadd dX12_copies_162 ?_
      refine ck_aload_n 0 dX12_copies_163 rfl rfl ?_
      refine ck_getR clX12 43 rfl rfl (by decide) fl_X12_96 dX12_copies_164 ?_
      refine ck_bipush (v := 10) dX12_copies_167 (by decide) ?_
      refine ck_iload_n 2 dX12_copies_169 rfl rfl ?_
      refine ck_imul dX12_copies_170 ?_
      refine ck_iload_n 3 dX12_copies_171 rfl rfl ?_
      refine ck_iadd dX12_copies_172 ?_
      obtain ⟨b31, hq⟩ := hq
      refine ck_iald rfl rfl b31 dX12_copies_173 ?_
      obtain ⟨b32, hq⟩ := hq
      refine ck_iast rfl rfl b32 dX12_copies_174 ?_
      refine ck_nmH (fun h33 eh33 => ?_)
      have hq := hq h33 eh33
      obtain ⟨v34, ev34⟩ : ∃ z : Int32, z = x3 + 1 := ⟨_, rfl⟩
      have hq := hq v34 ev34
      refine ck_iinc (v := v34) (lv' := [(3, .int v34), (0, .ref 0), (1, .int x1), (2, .int x2)]) 3 dX12_copies_175 rfl (by rw [ev34]; rfl) (by decide) rfl ?_
      refine ck_goto (tgt := 103) dX12_copies_178 (by decide) ?_
      refine ck_loc [1, 2, 3, 0] rfl ?_
      exact hKc _ _ _ _ hq
set_option maxHeartbeats 4000000 in
set_option maxRecDepth 100000 in
theorem c_X12_copies {gr : Bool} {x1 : Int32} {x2 : Int32} {h : ck_H} {Q : ck_H → Prop} (hq : wp_X12_copies x1 x2 h Q) : ck_M yX12_copies cX12_copies 4 none 2 0 0 gr ck_shM h [.ref 0, .int x1, .int x2] (ck_Qv ck_shM Q) := by
  refine ck_entry (lv := [(0, .ref 0), (1, .int x1), (2, .int x2)]) false (own := RX12) rfl (fun q => by cases q) (by decide) (Nat.le_of_ble_eq_true rfl) rfl ?_
  refine ck_aload_n 0 dX12_copies_0 rfl rfl ?_
  refine ck_getR clX12 35 rfl rfl (by decide) fl_X12_72 dX12_copies_1 ?_
  refine ck_iload_n 1 dX12_copies_4 rfl rfl ?_
  refine ck_aload_n 0 dX12_copies_5 rfl rfl ?_
  refine ck_getR clX12 35 rfl rfl (by decide) fl_X12_72 dX12_copies_6 ?_
  refine ck_iload_n 2 dX12_copies_9 rfl rfl ?_
  obtain ⟨b1, hq⟩ := hq
  refine ck_iald rfl rfl b1 dX12_copies_10 ?_
  obtain ⟨b2, hq⟩ := hq
  refine ck_iast rfl rfl b2 dX12_copies_11 ?_
  refine ck_nmH (fun h3 eh3 => ?_)
  have hq := hq h3 eh3
  refine ck_aload_n 0 dX12_copies_12 rfl rfl ?_
  refine ck_getR clX12 36 rfl rfl (by decide) fl_X12_75 dX12_copies_13 ?_
  refine ck_iload_n 1 dX12_copies_16 rfl rfl ?_
  refine ck_aload_n 0 dX12_copies_17 rfl rfl ?_
  refine ck_getR clX12 36 rfl rfl (by decide) fl_X12_75 dX12_copies_18 ?_
  refine ck_iload_n 2 dX12_copies_21 rfl rfl ?_
  obtain ⟨b4, hq⟩ := hq
  refine ck_iald rfl rfl b4 dX12_copies_22 ?_
  obtain ⟨b5, hq⟩ := hq
  refine ck_iast rfl rfl b5 dX12_copies_23 ?_
  refine ck_nmH (fun h6 eh6 => ?_)
  have hq := hq h6 eh6
  refine ck_aload_n 0 dX12_copies_24 rfl rfl ?_
  refine ck_getR clX12 37 rfl rfl (by decide) fl_X12_78 dX12_copies_25 ?_
  refine ck_iload_n 1 dX12_copies_28 rfl rfl ?_
  refine ck_aload_n 0 dX12_copies_29 rfl rfl ?_
  refine ck_getR clX12 37 rfl rfl (by decide) fl_X12_78 dX12_copies_30 ?_
  refine ck_iload_n 2 dX12_copies_33 rfl rfl ?_
  obtain ⟨b7, hq⟩ := hq
  refine ck_iald rfl rfl b7 dX12_copies_34 ?_
  obtain ⟨b8, hq⟩ := hq
  refine ck_iast rfl rfl b8 dX12_copies_35 ?_
  refine ck_nmH (fun h9 eh9 => ?_)
  have hq := hq h9 eh9
  refine ck_aload_n 0 dX12_copies_36 rfl rfl ?_
  refine ck_getR clX12 38 rfl rfl (by decide) fl_X12_81 dX12_copies_37 ?_
  refine ck_iload_n 1 dX12_copies_40 rfl rfl ?_
  refine ck_aload_n 0 dX12_copies_41 rfl rfl ?_
  refine ck_getR clX12 38 rfl rfl (by decide) fl_X12_81 dX12_copies_42 ?_
  refine ck_iload_n 2 dX12_copies_45 rfl rfl ?_
  obtain ⟨b10, hq⟩ := hq
  refine ck_iald rfl rfl b10 dX12_copies_46 ?_
  obtain ⟨b11, hq⟩ := hq
  refine ck_iast rfl rfl b11 dX12_copies_47 ?_
  refine ck_nmH (fun h12 eh12 => ?_)
  have hq := hq h12 eh12
  refine ck_iconst (v := 0) dX12_copies_48 (by decide) ?_
  refine ck_istore_n (lv' := [(3, .int (0 : Int32)), (0, .ref 0), (1, .int x1), (2, .int x2)]) dX12_copies_49 rfl (by decide) rfl ?_
  refine ck_loc [1, 2, 3, 0] rfl ?_
  refine cp_X12_copies_50 (fun x22 x23 h21 hq => ?_) lpN _ _ _ _ hq
  · refine ck_iconst (v := 0) dX12_copies_101 (by decide) ?_
    refine ck_istore_n (lv' := [(3, .int (0 : Int32)), (0, .ref 0), (1, .int x22), (2, .int x23)]) dX12_copies_102 rfl (by decide) rfl ?_
    refine ck_loc [1, 2, 3, 0] rfl ?_
    refine cp_X12_copies_103 lpN _ _ _ _ hq
def wp_X12_keepNow_45 (Q : ck_H → Prop) (h : ck_H) : Prop := (wp_X12_copies ((3 : Int32) + (h.1 0 45)) (0 : Int32) h (fun h2 => (∀ h3, h3 = ck_sI h2 0 45 ((h2.1 0 45) + (1 : Int32)) → Q h3)))
def wp_X12_keepNow_11 (Q : ck_H → Prop) (K35 : ck_H → Prop) : Nat → Int32 → ck_H → Prop
  | 0 => fun _ _ => False
  | n + 1 => fun x1 h => (((20 : Int32) ≤ x1 → K35 h) ∧ (¬ (20 : Int32) ≤ x1 → (wp_X12_copies (((3 : Int32) + x1) - (1 : Int32)) ((3 : Int32) + x1) h (fun h5 => (∀ v6, v6 = x1 + 1 → (wp_X12_keepNow_11 Q K35 n) v6 h5)))))
def wp_X12_keepNow (h : ck_H) (Q : ck_H → Prop) : Prop := ((¬ (h.1 0 45) = (20 : Int32) → wp_X12_keepNow_45 Q h) ∧ ((h.1 0 45) = (20 : Int32) → wp_X12_keepNow_11 Q (fun h7 => (∀ h8, h8 = ck_sI h7 0 45 ((h7.1 0 45) - (1 : Int32)) → wp_X12_keepNow_45 Q h8)) lpN (1 : Int32) h))
set_option maxHeartbeats 4000000 in
set_option maxRecDepth 100000 in
theorem cp_X12_keepNow_45 {gr : Bool} {Q : ck_H → Prop} : ∀ (h : ck_H), wp_X12_keepNow_45 Q h → ck_W cX12_keepNow 2 RX12 none 3 0 0 false gr (ck_Qv ck_shM Q) ck_shM h 0 0 45 [(0, .ref 0)] [] := by
  intro h hq
  refine ck_aload_n 0 dX12_keepNow_45 rfl rfl ?_
  refine ck_iconst (v := 3) dX12_keepNow_46 (by decide) ?_
  refine ck_aload_n 0 dX12_keepNow_47 rfl rfl ?_
  refine ck_getI clX12 45 rfl rfl (by decide) fl_X12_302 dX12_keepNow_48 ?_
  refine ck_iadd dX12_keepNow_51 ?_
  refine ck_iconst (v := 0) dX12_keepNow_52 (by decide) ?_
  refine ck_callV (c_X12_copies hq) rfl cal_X12_copies rfl ml_X12_417 vir_X12_copies rfl rfl (by decide) (Nat.le_of_ble_eq_true rfl) (Nat.le_of_ble_eq_true rfl) (by decide) (by decide) dX12_keepNow_53 ?_
  rintro _ _ h2 ⟨rfl, rfl, hq⟩
  refine ck_aload_n 0 dX12_keepNow_56 rfl rfl ?_
  refine ck_dup dX12_keepNow_57 rfl ?_
  refine ck_getI clX12 45 rfl rfl (by decide) fl_X12_302 dX12_keepNow_58 ?_
  refine ck_iconst (v := 1) dX12_keepNow_61 (by decide) ?_
  refine ck_iadd dX12_keepNow_62 ?_
  refine ck_putI clX12 45 rfl rfl (by decide) fl_X12_302 rfl rfl rfl dX12_keepNow_63 ?_
  refine ck_nmH (fun h3 eh3 => ?_)
  have hq := hq h3 eh3
  exact ck_vret rfl rfl rfl dX12_keepNow_66 ⟨rfl, rfl, hq⟩
set_option maxHeartbeats 4000000 in
set_option maxRecDepth 100000 in
theorem cp_X12_keepNow_11 {gr : Bool} {Q : ck_H → Prop} {K35 : ck_H → Prop} (hK35 : ∀ (h : ck_H), K35 h → ck_W cX12_keepNow 2 RX12 none 3 0 0 false gr (ck_Qv ck_shM Q) ck_shM h 0 0 35 [(0, .ref 0)] []) : ∀ (n : Nat) (x1 : Int32) (h : ck_H), wp_X12_keepNow_11 Q K35 n x1 h → ck_W cX12_keepNow 2 RX12 none 3 0 0 false gr (ck_Qv ck_shM Q) ck_shM h 0 0 11 [(0, .ref 0), (1, .int x1)] [] := by
  intro n
  induction n with
  | zero => intro x1 h hq; exact hq.elim
  | succ n hKc =>
    intro x1 h hq
    refine ck_iload_n 1 dX12_keepNow_11 rfl rfl ?_
    refine ck_bipush (v := 20) dX12_keepNow_12 (by decide) ?_
    refine ck_icmp_ge (tgt := 35) dX12_keepNow_14 (by decide) (fun c4 => ?_) (fun c4 => ?_)
    · have hq := hq.1 c4
      refine ck_loc [0] rfl ?_
      exact hK35  _ hq
    · have hq := hq.2 c4
      refine ck_aload_n 0 dX12_keepNow_17 rfl rfl ?_
      refine ck_iconst (v := 3) dX12_keepNow_18 (by decide) ?_
      refine ck_iload_n 1 dX12_keepNow_19 rfl rfl ?_
      refine ck_iadd dX12_keepNow_20 ?_
      refine ck_iconst (v := 1) dX12_keepNow_21 (by decide) ?_
      refine ck_isub dX12_keepNow_22 ?_
      refine ck_iconst (v := 3) dX12_keepNow_23 (by decide) ?_
      refine ck_iload_n 1 dX12_keepNow_24 rfl rfl ?_
      refine ck_iadd dX12_keepNow_25 ?_
      refine ck_callV (c_X12_copies hq) rfl cal_X12_copies rfl ml_X12_417 vir_X12_copies rfl rfl (by decide) (Nat.le_of_ble_eq_true rfl) (Nat.le_of_ble_eq_true rfl) (by decide) (by decide) dX12_keepNow_26 ?_
      rintro _ _ h5 ⟨rfl, rfl, hq⟩
      obtain ⟨v6, ev6⟩ : ∃ z : Int32, z = x1 + 1 := ⟨_, rfl⟩
      have hq := hq v6 ev6
      refine ck_iinc (v := v6) (lv' := [(1, .int v6), (0, .ref 0)]) 1 dX12_keepNow_29 rfl (by rw [ev6]; rfl) (by decide) rfl ?_
      refine ck_goto (tgt := 11) dX12_keepNow_32 (by decide) ?_
      refine ck_loc [1, 0] rfl ?_
      exact hKc _ _ hq
set_option maxHeartbeats 4000000 in
set_option maxRecDepth 100000 in
theorem c_X12_keepNow {gr : Bool} {h : ck_H} {Q : ck_H → Prop} (hq : wp_X12_keepNow h Q) : ck_M yX12_keepNow cX12_keepNow 2 none 3 0 0 gr ck_shM h [.ref 0] (ck_Qv ck_shM Q) := by
  refine ck_entry (lv := [(0, .ref 0)]) false (own := RX12) rfl (fun q => by cases q) (by decide) (Nat.le_of_ble_eq_true rfl) rfl ?_
  refine ck_aload_n 0 dX12_keepNow_0 rfl rfl ?_
  refine ck_getI clX12 45 rfl rfl (by decide) fl_X12_302 dX12_keepNow_1 ?_
  refine ck_bipush (v := 20) dX12_keepNow_4 (by decide) ?_
  refine ck_icmp_ne (tgt := 45) dX12_keepNow_6 (by decide) (fun c1 => ?_) (fun c1 => ?_)
  · have hq := hq.1 c1
    exact cp_X12_keepNow_45  _ hq
  · have hq := hq.2 c1
    refine ck_iconst (v := 1) dX12_keepNow_9 (by decide) ?_
    refine ck_istore_n (lv' := [(1, .int (1 : Int32)), (0, .ref 0)]) dX12_keepNow_10 rfl (by decide) rfl ?_
    refine ck_loc [1, 0] rfl ?_
    refine cp_X12_keepNow_11 (fun h7 hq => ?_) lpN _ _ hq
    · refine ck_aload_n 0 dX12_keepNow_35 rfl rfl ?_
      refine ck_dup dX12_keepNow_36 rfl ?_
      refine ck_getI clX12 45 rfl rfl (by decide) fl_X12_302 dX12_keepNow_37 ?_
      refine ck_iconst (v := 1) dX12_keepNow_40 (by decide) ?_
      refine ck_isub dX12_keepNow_41 ?_
      refine ck_putI clX12 45 rfl rfl (by decide) fl_X12_302 rfl rfl rfl dX12_keepNow_42 ?_
      refine ck_nmH (fun h8 eh8 => ?_)
      have hq := hq h8 eh8
      exact cp_X12_keepNow_45  _ hq
def wp_X12_give (x1 : Int32) (x2 : Int32) (h : ck_H) (Q : Int32 → ck_H → Prop) : Prop := (∀ h1, h1 = ck_sI h 0 0 (0 : Int32) → (wp_X12_isSuit x1 h1 (fun r3 h2 => ((r3 = 0 → Q (0 : Int32) h2) ∧ (¬ r3 = 0 → (wp_X12_isJudge x2 h2 (fun r6 h5 => ((r6 = 0 → Q (0 : Int32) h5) ∧ (¬ r6 = 0 → (wp_X12_isOpen (0 : Int32) x1 h5 (fun r9 h8 => ((r9 = 0 → Q (0 : Int32) h8) ∧ (¬ r9 = 0 → (vp_in x1 230 ∧ ((¬ (h8.1 26 x1.toNatClampNeg) = x2 → (wp_X12_keepNow h8 (fun h13 => (vp_in x1 230 ∧ (∀ h15, h15 = ck_sI h13 26 x1.toNatClampNeg x2 → Q (1 : Int32) h15))))) ∧ ((h8.1 26 x1.toNatClampNeg) = x2 → Q (0 : Int32) h8))))))))))))))))
set_option maxHeartbeats 4000000 in
set_option maxRecDepth 100000 in
theorem c_X12_give {gr : Bool} {x1 : Int32} {x2 : Int32} {h : ck_H} {Q : Int32 → ck_H → Prop} (hq : wp_X12_give x1 x2 h Q) : ck_M yX12_give cX12_give 3 (some .boolean) 4 0 0 gr ck_shM h [.ref 0, .int x1, .int x2] (ck_Qi ck_shM Q) := by
  refine ck_entry (lv := [(0, .ref 0), (1, .int x1), (2, .int x2)]) false (own := RX12) rfl (fun q => by cases q) (by decide) (Nat.le_of_ble_eq_true rfl) rfl ?_
  refine ck_aload_n 0 dX12_give_0 rfl rfl ?_
  refine ck_iconst (v := 0) dX12_give_1 (by decide) ?_
  refine ck_putI clX12 0 rfl rfl (by decide) fl_X12_145 rfl rfl rfl dX12_give_2 ?_
  refine ck_nmH (fun h1 eh1 => ?_)
  have hq := hq h1 eh1
  refine ck_aload_n 0 dX12_give_5 rfl rfl ?_
  refine ck_iload_n 1 dX12_give_6 rfl rfl ?_
  refine ck_callV (c_X12_isSuit hq) rfl cal_X12_isSuit rfl ml_X12_401 vir_X12_isSuit rfl rfl (by decide) (Nat.le_of_ble_eq_true rfl) (Nat.le_of_ble_eq_true rfl) (by decide) (by decide) dX12_give_7 ?_
  rintro _ _ h2 ⟨r3, rfl, rfl, hq⟩
  refine ck_if_eq (tgt := 40) dX12_give_10 (by decide) (fun c4 => ?_) (fun c4 => ?_)
  · have hq := hq.1 c4
    refine ck_iconst (v := 0) dX12_give_40 (by decide) ?_
    exact ck_iret rfl (by decide) rfl rfl dX12_give_41 ⟨_, rfl, rfl, hq⟩
  · have hq := hq.2 c4
    refine ck_aload_n 0 dX12_give_13 rfl rfl ?_
    refine ck_iload_n 2 dX12_give_14 rfl rfl ?_
    refine ck_callV (c_X12_isJudge hq) rfl cal_X12_isJudge rfl ml_X12_404 vir_X12_isJudge rfl rfl (by decide) (Nat.le_of_ble_eq_true rfl) (Nat.le_of_ble_eq_true rfl) (by decide) (by decide) dX12_give_15 ?_
    rintro _ _ h5 ⟨r6, rfl, rfl, hq⟩
    refine ck_if_eq (tgt := 40) dX12_give_18 (by decide) (fun c7 => ?_) (fun c7 => ?_)
    · have hq := hq.1 c7
      refine ck_iconst (v := 0) dX12_give_40 (by decide) ?_
      exact ck_iret rfl (by decide) rfl rfl dX12_give_41 ⟨_, rfl, rfl, hq⟩
    · have hq := hq.2 c7
      refine ck_aload_n 0 dX12_give_21 rfl rfl ?_
      refine ck_iconst (v := 0) dX12_give_22 (by decide) ?_
      refine ck_iload_n 1 dX12_give_23 rfl rfl ?_
      refine ck_callV (c_X12_isOpen hq) rfl cal_X12_isOpen rfl ml_X12_379 vir_X12_isOpen rfl rfl (by decide) (Nat.le_of_ble_eq_true rfl) (Nat.le_of_ble_eq_true rfl) (by decide) (by decide) dX12_give_24 ?_
      rintro _ _ h8 ⟨r9, rfl, rfl, hq⟩
      refine ck_if_eq (tgt := 40) dX12_give_27 (by decide) (fun c10 => ?_) (fun c10 => ?_)
      · have hq := hq.1 c10
        refine ck_iconst (v := 0) dX12_give_40 (by decide) ?_
        exact ck_iret rfl (by decide) rfl rfl dX12_give_41 ⟨_, rfl, rfl, hq⟩
      · have hq := hq.2 c10
        refine ck_aload_n 0 dX12_give_30 rfl rfl ?_
        refine ck_getR clX12 41 rfl rfl (by decide) fl_X12_90 dX12_give_31 ?_
        refine ck_iload_n 1 dX12_give_34 rfl rfl ?_
        obtain ⟨b11, hq⟩ := hq
        refine ck_iald rfl rfl b11 dX12_give_35 ?_
        refine ck_iload_n 2 dX12_give_36 rfl rfl ?_
        refine ck_icmp_ne (tgt := 42) dX12_give_37 (by decide) (fun c12 => ?_) (fun c12 => ?_)
        · have hq := hq.1 c12
          refine ck_aload_n 0 dX12_give_42 rfl rfl ?_
          refine ck_callV (c_X12_keepNow hq) rfl cal_X12_keepNow rfl ml_X12_420 vir_X12_keepNow rfl rfl (by decide) (Nat.le_of_ble_eq_true rfl) (Nat.le_of_ble_eq_true rfl) (by decide) (by decide) dX12_give_43 ?_
          rintro _ _ h13 ⟨rfl, rfl, hq⟩
          refine ck_aload_n 0 dX12_give_46 rfl rfl ?_
          refine ck_getR clX12 41 rfl rfl (by decide) fl_X12_90 dX12_give_47 ?_
          refine ck_iload_n 1 dX12_give_50 rfl rfl ?_
          refine ck_iload_n 2 dX12_give_51 rfl rfl ?_
          obtain ⟨b14, hq⟩ := hq
          refine ck_iast rfl rfl b14 dX12_give_52 ?_
          refine ck_nmH (fun h15 eh15 => ?_)
          have hq := hq h15 eh15
          refine ck_iconst (v := 1) dX12_give_53 (by decide) ?_
          exact ck_iret rfl (by decide) rfl rfl dX12_give_54 ⟨_, rfl, rfl, hq⟩
        · have hq := hq.2 c12
          refine ck_iconst (v := 0) dX12_give_40 (by decide) ?_
          exact ck_iret rfl (by decide) rfl rfl dX12_give_41 ⟨_, rfl, rfl, hq⟩
def wp_X12_stone_41 (Q : Int32 → ck_H → Prop) (x1 : Int32) (x2 : Int32) (y0 : Int32) (h : ck_H) : Prop := ((¬ y0 = x2 → (wp_X12_keepNow h (fun h10 => (∀ h11, h11 = ck_sI h10 22 0 ((h10.1 22 0) ^^^ ((1 : Int32) <<< (x1 &&& 31))) → Q (1 : Int32) h11)))) ∧ (y0 = x2 → Q (0 : Int32) h))
def wp_X12_stone (x1 : Int32) (x2 : Int32) (h : ck_H) (Q : Int32 → ck_H → Prop) : Prop := (∀ h1, h1 = ck_sI h 0 0 (0 : Int32) → (wp_X12_isSuit x1 h1 (fun r3 h2 => ((r3 = 0 → Q (0 : Int32) h2) ∧ (¬ r3 = 0 → (wp_X12_isOpen (0 : Int32) x1 h2 (fun r6 h5 => ((r6 = 0 → Q (0 : Int32) h5) ∧ (¬ r6 = 0 → ((¬ (((h5.1 22 0) >>> (x1 &&& 31)) &&& (1 : Int32)) = (1 : Int32) → wp_X12_stone_41 Q x1 x2 (0 : Int32) h5) ∧ ((((h5.1 22 0) >>> (x1 &&& 31)) &&& (1 : Int32)) = (1 : Int32) → wp_X12_stone_41 Q x1 x2 (1 : Int32) h5)))))))))))
set_option maxHeartbeats 4000000 in
set_option maxRecDepth 100000 in
theorem cp_X12_stone_41 {gr : Bool} {Q : Int32 → ck_H → Prop} : ∀ (x1 : Int32) (x2 : Int32) (y0 : Int32) (h : ck_H), wp_X12_stone_41 Q x1 x2 y0 h → ck_W cX12_stone 3 RX12 (some .boolean) 4 0 0 false gr (ck_Qi ck_shM Q) ck_shM h 0 0 41 [(0, .ref 0), (1, .int x1), (2, .int x2)] [.int y0] := by
  intro x1 x2 y0 h hq
  refine ck_iload_n 2 dX12_stone_41 rfl rfl ?_
  refine ck_icmp_ne (tgt := 47) dX12_stone_42 (by decide) (fun c9 => ?_) (fun c9 => ?_)
  · have hq := hq.1 c9
    refine ck_aload_n 0 dX12_stone_47 rfl rfl ?_
    refine ck_callV (c_X12_keepNow hq) rfl cal_X12_keepNow rfl ml_X12_420 vir_X12_keepNow rfl rfl (by decide) (Nat.le_of_ble_eq_true rfl) (Nat.le_of_ble_eq_true rfl) (by decide) (by decide) dX12_stone_48 ?_
    rintro _ _ h10 ⟨rfl, rfl, hq⟩
    refine ck_aload_n 0 dX12_stone_51 rfl rfl ?_
    refine ck_getR clX12 37 rfl rfl (by decide) fl_X12_78 dX12_stone_52 ?_
    refine ck_iconst (v := 0) dX12_stone_55 (by decide) ?_
    refine ck_dup2 dX12_stone_56 rfl rfl ?_
    refine ck_iald (j := 0) (by decide) rfl (ck_inL (by decide)) dX12_stone_57 ?_
    refine ck_iconst (v := 1) dX12_stone_58 (by decide) ?_
    refine ck_iload_n 1 dX12_stone_59 rfl rfl ?_
    refine ck_ishl dX12_stone_60 ?_
    refine ck_ixor dX12_stone_61 ?_
    refine ck_iast (j := 0) (by decide) rfl (ck_inL (by decide)) dX12_stone_62 ?_
    refine ck_nmH (fun h11 eh11 => ?_)
    have hq := hq h11 eh11
    refine ck_iconst (v := 1) dX12_stone_63 (by decide) ?_
    exact ck_iret rfl (by decide) rfl rfl dX12_stone_64 ⟨_, rfl, rfl, hq⟩
  · have hq := hq.2 c9
    refine ck_iconst (v := 0) dX12_stone_45 (by decide) ?_
    exact ck_iret rfl (by decide) rfl rfl dX12_stone_46 ⟨_, rfl, rfl, hq⟩
set_option maxHeartbeats 4000000 in
set_option maxRecDepth 100000 in
theorem c_X12_stone {gr : Bool} {x1 : Int32} {x2 : Int32} {h : ck_H} {Q : Int32 → ck_H → Prop} (hq : wp_X12_stone x1 x2 h Q) : ck_M yX12_stone cX12_stone 3 (some .boolean) 4 0 0 gr ck_shM h [.ref 0, .int x1, .int x2] (ck_Qi ck_shM Q) := by
  refine ck_entry (lv := [(0, .ref 0), (1, .int x1), (2, .int x2)]) false (own := RX12) rfl (fun q => by cases q) (by decide) (Nat.le_of_ble_eq_true rfl) rfl ?_
  refine ck_aload_n 0 dX12_stone_0 rfl rfl ?_
  refine ck_iconst (v := 0) dX12_stone_1 (by decide) ?_
  refine ck_putI clX12 0 rfl rfl (by decide) fl_X12_145 rfl rfl rfl dX12_stone_2 ?_
  refine ck_nmH (fun h1 eh1 => ?_)
  have hq := hq h1 eh1
  refine ck_aload_n 0 dX12_stone_5 rfl rfl ?_
  refine ck_iload_n 1 dX12_stone_6 rfl rfl ?_
  refine ck_callV (c_X12_isSuit hq) rfl cal_X12_isSuit rfl ml_X12_401 vir_X12_isSuit rfl rfl (by decide) (Nat.le_of_ble_eq_true rfl) (Nat.le_of_ble_eq_true rfl) (by decide) (by decide) dX12_stone_7 ?_
  rintro _ _ h2 ⟨r3, rfl, rfl, hq⟩
  refine ck_if_eq (tgt := 45) dX12_stone_10 (by decide) (fun c4 => ?_) (fun c4 => ?_)
  · have hq := hq.1 c4
    refine ck_iconst (v := 0) dX12_stone_45 (by decide) ?_
    exact ck_iret rfl (by decide) rfl rfl dX12_stone_46 ⟨_, rfl, rfl, hq⟩
  · have hq := hq.2 c4
    refine ck_aload_n 0 dX12_stone_13 rfl rfl ?_
    refine ck_iconst (v := 0) dX12_stone_14 (by decide) ?_
    refine ck_iload_n 1 dX12_stone_15 rfl rfl ?_
    refine ck_callV (c_X12_isOpen hq) rfl cal_X12_isOpen rfl ml_X12_379 vir_X12_isOpen rfl rfl (by decide) (Nat.le_of_ble_eq_true rfl) (Nat.le_of_ble_eq_true rfl) (by decide) (by decide) dX12_stone_16 ?_
    rintro _ _ h5 ⟨r6, rfl, rfl, hq⟩
    refine ck_if_eq (tgt := 45) dX12_stone_19 (by decide) (fun c7 => ?_) (fun c7 => ?_)
    · have hq := hq.1 c7
      refine ck_iconst (v := 0) dX12_stone_45 (by decide) ?_
      exact ck_iret rfl (by decide) rfl rfl dX12_stone_46 ⟨_, rfl, rfl, hq⟩
    · have hq := hq.2 c7
      refine ck_aload_n 0 dX12_stone_22 rfl rfl ?_
      refine ck_getR clX12 37 rfl rfl (by decide) fl_X12_78 dX12_stone_23 ?_
      refine ck_iconst (v := 0) dX12_stone_26 (by decide) ?_
      refine ck_iald (j := 0) (by decide) rfl (ck_inL (by decide)) dX12_stone_27 ?_
      refine ck_iload_n 1 dX12_stone_28 rfl rfl ?_
      refine ck_ishr dX12_stone_29 ?_
      refine ck_iconst (v := 1) dX12_stone_30 (by decide) ?_
      refine ck_iand dX12_stone_31 ?_
      refine ck_iconst (v := 1) dX12_stone_32 (by decide) ?_
      refine ck_icmp_ne (tgt := 40) dX12_stone_33 (by decide) (fun c8 => ?_) (fun c8 => ?_)
      · have hq := hq.1 c8
        refine ck_iconst (v := 0) dX12_stone_40 (by decide) ?_
        exact cp_X12_stone_41 _ _ _ _ hq
      · have hq := hq.2 c8
        refine ck_iconst (v := 1) dX12_stone_36 (by decide) ?_
        refine ck_goto (tgt := 41) dX12_stone_37 (by decide) ?_
        exact cp_X12_stone_41 _ _ _ _ hq
def wp_X12_put (x1 : Int32) (x2 : Int32) (h : ck_H) (Q : Int32 → ck_H → Prop) : Prop := (∀ h1, h1 = ck_sI h 0 0 (0 : Int32) → (wp_X12_isSuit x1 h1 (fun r3 h2 => ((r3 = 0 → Q (0 : Int32) h2) ∧ (¬ r3 = 0 → ((x2 < (h2.1 20 0) → Q (0 : Int32) h2) ∧ (¬ x2 < (h2.1 20 0) → (((9999 : Int32) < x2 → Q (0 : Int32) h2) ∧ (¬ (9999 : Int32) < x2 → (wp_X12_isOpen (0 : Int32) x1 h2 (fun r8 h7 => ((r8 = 0 → Q (0 : Int32) h7) ∧ (¬ r8 = 0 → (vp_in x1 230 ∧ ((¬ (h7.1 27 x1.toNatClampNeg) = x2 → (wp_X12_keepNow h7 (fun h12 => (vp_in x1 230 ∧ (∀ h14, h14 = ck_sI h12 27 x1.toNatClampNeg x2 → Q (1 : Int32) h14))))) ∧ ((h7.1 27 x1.toNatClampNeg) = x2 → Q (0 : Int32) h7))))))))))))))))
set_option maxHeartbeats 4000000 in
set_option maxRecDepth 100000 in
theorem c_X12_put {gr : Bool} {x1 : Int32} {x2 : Int32} {h : ck_H} {Q : Int32 → ck_H → Prop} (hq : wp_X12_put x1 x2 h Q) : ck_M yX12_put cX12_put 3 (some .boolean) 4 0 0 gr ck_shM h [.ref 0, .int x1, .int x2] (ck_Qi ck_shM Q) := by
  refine ck_entry (lv := [(0, .ref 0), (1, .int x1), (2, .int x2)]) false (own := RX12) rfl (fun q => by cases q) (by decide) (Nat.le_of_ble_eq_true rfl) rfl ?_
  refine ck_aload_n 0 dX12_put_0 rfl rfl ?_
  refine ck_iconst (v := 0) dX12_put_1 (by decide) ?_
  refine ck_putI clX12 0 rfl rfl (by decide) fl_X12_145 rfl rfl rfl dX12_put_2 ?_
  refine ck_nmH (fun h1 eh1 => ?_)
  have hq := hq h1 eh1
  refine ck_aload_n 0 dX12_put_5 rfl rfl ?_
  refine ck_iload_n 1 dX12_put_6 rfl rfl ?_
  refine ck_callV (c_X12_isSuit hq) rfl cal_X12_isSuit rfl ml_X12_401 vir_X12_isSuit rfl rfl (by decide) (Nat.le_of_ble_eq_true rfl) (Nat.le_of_ble_eq_true rfl) (by decide) (by decide) dX12_put_7 ?_
  rintro _ _ h2 ⟨r3, rfl, rfl, hq⟩
  refine ck_if_eq (tgt := 49) dX12_put_10 (by decide) (fun c4 => ?_) (fun c4 => ?_)
  · have hq := hq.1 c4
    refine ck_iconst (v := 0) dX12_put_49 (by decide) ?_
    exact ck_iret rfl (by decide) rfl rfl dX12_put_50 ⟨_, rfl, rfl, hq⟩
  · have hq := hq.2 c4
    refine ck_iload_n 2 dX12_put_13 rfl rfl ?_
    refine ck_aload_n 0 dX12_put_14 rfl rfl ?_
    refine ck_getR clX12 35 rfl rfl (by decide) fl_X12_72 dX12_put_15 ?_
    refine ck_iconst (v := 0) dX12_put_18 (by decide) ?_
    refine ck_iald (j := 0) (by decide) rfl (ck_inL (by decide)) dX12_put_19 ?_
    refine ck_icmp_lt (tgt := 49) dX12_put_20 (by decide) (fun c5 => ?_) (fun c5 => ?_)
    · have hq := hq.1 c5
      refine ck_iconst (v := 0) dX12_put_49 (by decide) ?_
      exact ck_iret rfl (by decide) rfl rfl dX12_put_50 ⟨_, rfl, rfl, hq⟩
    · have hq := hq.2 c5
      refine ck_iload_n 2 dX12_put_23 rfl rfl ?_
      refine ck_sipush (v := 9999) dX12_put_24 (by decide) ?_
      refine ck_icmp_gt (tgt := 49) dX12_put_27 (by decide) (fun c6 => ?_) (fun c6 => ?_)
      · have hq := hq.1 c6
        refine ck_iconst (v := 0) dX12_put_49 (by decide) ?_
        exact ck_iret rfl (by decide) rfl rfl dX12_put_50 ⟨_, rfl, rfl, hq⟩
      · have hq := hq.2 c6
        refine ck_aload_n 0 dX12_put_30 rfl rfl ?_
        refine ck_iconst (v := 0) dX12_put_31 (by decide) ?_
        refine ck_iload_n 1 dX12_put_32 rfl rfl ?_
        refine ck_callV (c_X12_isOpen hq) rfl cal_X12_isOpen rfl ml_X12_379 vir_X12_isOpen rfl rfl (by decide) (Nat.le_of_ble_eq_true rfl) (Nat.le_of_ble_eq_true rfl) (by decide) (by decide) dX12_put_33 ?_
        rintro _ _ h7 ⟨r8, rfl, rfl, hq⟩
        refine ck_if_eq (tgt := 49) dX12_put_36 (by decide) (fun c9 => ?_) (fun c9 => ?_)
        · have hq := hq.1 c9
          refine ck_iconst (v := 0) dX12_put_49 (by decide) ?_
          exact ck_iret rfl (by decide) rfl rfl dX12_put_50 ⟨_, rfl, rfl, hq⟩
        · have hq := hq.2 c9
          refine ck_aload_n 0 dX12_put_39 rfl rfl ?_
          refine ck_getR clX12 42 rfl rfl (by decide) fl_X12_93 dX12_put_40 ?_
          refine ck_iload_n 1 dX12_put_43 rfl rfl ?_
          obtain ⟨b10, hq⟩ := hq
          refine ck_iald rfl rfl b10 dX12_put_44 ?_
          refine ck_iload_n 2 dX12_put_45 rfl rfl ?_
          refine ck_icmp_ne (tgt := 51) dX12_put_46 (by decide) (fun c11 => ?_) (fun c11 => ?_)
          · have hq := hq.1 c11
            refine ck_aload_n 0 dX12_put_51 rfl rfl ?_
            refine ck_callV (c_X12_keepNow hq) rfl cal_X12_keepNow rfl ml_X12_420 vir_X12_keepNow rfl rfl (by decide) (Nat.le_of_ble_eq_true rfl) (Nat.le_of_ble_eq_true rfl) (by decide) (by decide) dX12_put_52 ?_
            rintro _ _ h12 ⟨rfl, rfl, hq⟩
            refine ck_aload_n 0 dX12_put_55 rfl rfl ?_
            refine ck_getR clX12 42 rfl rfl (by decide) fl_X12_93 dX12_put_56 ?_
            refine ck_iload_n 1 dX12_put_59 rfl rfl ?_
            refine ck_iload_n 2 dX12_put_60 rfl rfl ?_
            obtain ⟨b13, hq⟩ := hq
            refine ck_iast rfl rfl b13 dX12_put_61 ?_
            refine ck_nmH (fun h14 eh14 => ?_)
            have hq := hq h14 eh14
            refine ck_iconst (v := 1) dX12_put_62 (by decide) ?_
            exact ck_iret rfl (by decide) rfl rfl dX12_put_63 ⟨_, rfl, rfl, hq⟩
          · have hq := hq.2 c11
            refine ck_iconst (v := 0) dX12_put_49 (by decide) ?_
            exact ck_iret rfl (by decide) rfl rfl dX12_put_50 ⟨_, rfl, rfl, hq⟩
def wp_X12_oil (x1 : Int32) (h : ck_H) (Q : Int32 → ck_H → Prop) : Prop := (∀ h1, h1 = ck_sI h 0 0 (0 : Int32) → ((x1 < (1 : Int32) → Q (-1 : Int32) h1) ∧ (¬ x1 < (1 : Int32) → (((98 : Int32) < x1 → Q (-1 : Int32) h1) ∧ (¬ (98 : Int32) < x1 → ((((h1.1 21 0) + x1) ≤ (99 : Int32) → (wp_X12_keepNow h1 (fun h5 => (∀ h6, h6 = ck_sI h5 21 0 ((h5.1 21 0) + x1) → Q (h6.1 21 0) h6)))) ∧ (¬ ((h1.1 21 0) + x1) ≤ (99 : Int32) → Q (-1 : Int32) h1)))))))
set_option maxHeartbeats 4000000 in
set_option maxRecDepth 100000 in
theorem c_X12_oil {gr : Bool} {x1 : Int32} {h : ck_H} {Q : Int32 → ck_H → Prop} (hq : wp_X12_oil x1 h Q) : ck_M yX12_oil cX12_oil 2 (some .int) 4 0 0 gr ck_shM h [.ref 0, .int x1] (ck_Qi ck_shM Q) := by
  refine ck_entry (lv := [(0, .ref 0), (1, .int x1)]) false (own := RX12) rfl (fun q => by cases q) (by decide) (Nat.le_of_ble_eq_true rfl) rfl ?_
  refine ck_aload_n 0 dX12_oil_0 rfl rfl ?_
  refine ck_iconst (v := 0) dX12_oil_1 (by decide) ?_
  refine ck_putI clX12 0 rfl rfl (by decide) fl_X12_145 rfl rfl rfl dX12_oil_2 ?_
  refine ck_nmH (fun h1 eh1 => ?_)
  have hq := hq h1 eh1
  refine ck_iload_n 1 dX12_oil_5 rfl rfl ?_
  refine ck_iconst (v := 1) dX12_oil_6 (by decide) ?_
  refine ck_icmp_lt (tgt := 29) dX12_oil_7 (by decide) (fun c2 => ?_) (fun c2 => ?_)
  · have hq := hq.1 c2
    refine ck_iconst (v := -1) dX12_oil_29 (by decide) ?_
    exact ck_iret rfl rfl rfl rfl dX12_oil_30 ⟨_, rfl, rfl, hq⟩
  · have hq := hq.2 c2
    refine ck_iload_n 1 dX12_oil_10 rfl rfl ?_
    refine ck_bipush (v := 98) dX12_oil_11 (by decide) ?_
    refine ck_icmp_gt (tgt := 29) dX12_oil_13 (by decide) (fun c3 => ?_) (fun c3 => ?_)
    · have hq := hq.1 c3
      refine ck_iconst (v := -1) dX12_oil_29 (by decide) ?_
      exact ck_iret rfl rfl rfl rfl dX12_oil_30 ⟨_, rfl, rfl, hq⟩
    · have hq := hq.2 c3
      refine ck_aload_n 0 dX12_oil_16 rfl rfl ?_
      refine ck_getR clX12 36 rfl rfl (by decide) fl_X12_75 dX12_oil_17 ?_
      refine ck_iconst (v := 0) dX12_oil_20 (by decide) ?_
      refine ck_iald (j := 0) (by decide) rfl (ck_inL (by decide)) dX12_oil_21 ?_
      refine ck_iload_n 1 dX12_oil_22 rfl rfl ?_
      refine ck_iadd dX12_oil_23 ?_
      refine ck_bipush (v := 99) dX12_oil_24 (by decide) ?_
      refine ck_icmp_le (tgt := 31) dX12_oil_26 (by decide) (fun c4 => ?_) (fun c4 => ?_)
      · have hq := hq.1 c4
        refine ck_aload_n 0 dX12_oil_31 rfl rfl ?_
        refine ck_callV (c_X12_keepNow hq) rfl cal_X12_keepNow rfl ml_X12_420 vir_X12_keepNow rfl rfl (by decide) (Nat.le_of_ble_eq_true rfl) (Nat.le_of_ble_eq_true rfl) (by decide) (by decide) dX12_oil_32 ?_
        rintro _ _ h5 ⟨rfl, rfl, hq⟩
        refine ck_aload_n 0 dX12_oil_35 rfl rfl ?_
        refine ck_getR clX12 36 rfl rfl (by decide) fl_X12_75 dX12_oil_36 ?_
        refine ck_iconst (v := 0) dX12_oil_39 (by decide) ?_
        refine ck_dup2 dX12_oil_40 rfl rfl ?_
        refine ck_iald (j := 0) (by decide) rfl (ck_inL (by decide)) dX12_oil_41 ?_
        refine ck_iload_n 1 dX12_oil_42 rfl rfl ?_
        refine ck_iadd dX12_oil_43 ?_
        refine ck_iast (j := 0) (by decide) rfl (ck_inL (by decide)) dX12_oil_44 ?_
        refine ck_nmH (fun h6 eh6 => ?_)
        have hq := hq h6 eh6
        refine ck_aload_n 0 dX12_oil_45 rfl rfl ?_
        refine ck_getR clX12 36 rfl rfl (by decide) fl_X12_75 dX12_oil_46 ?_
        refine ck_iconst (v := 0) dX12_oil_49 (by decide) ?_
        refine ck_iald (j := 0) (by decide) rfl (ck_inL (by decide)) dX12_oil_50 ?_
        exact ck_iret rfl rfl rfl rfl dX12_oil_51 ⟨_, rfl, rfl, hq⟩
      · have hq := hq.2 c4
        refine ck_iconst (v := -1) dX12_oil_29 (by decide) ?_
        exact ck_iret rfl rfl rfl rfl dX12_oil_30 ⟨_, rfl, rfl, hq⟩
def wp_X12_isDue_55 (Q : Int32 → ck_H → Prop) (h : ck_H) : Prop := Q (1 : Int32) h
def wp_X12_isDue (x1 : Int32) (x2 : Int32) (h : ck_H) (Q : Int32 → ck_H → Prop) : Prop := (wp_X12_isOpen x1 x2 h (fun r2 h1 => ((r2 = 0 → Q (0 : Int32) h1) ∧ (¬ r2 = 0 → (vp_in (((10 : Int32) * x1) + x2) 230 ∧ (vp_in x1 23 ∧ ((¬ (h1.1 27 (((10 : Int32) * x1) + x2).toNatClampNeg) = (h1.1 20 x1.toNatClampNeg) → Q (0 : Int32) h1) ∧ ((h1.1 27 (((10 : Int32) * x1) + x2).toNatClampNeg) = (h1.1 20 x1.toNatClampNeg) → ((¬ (h1.1 0 46) = (2 : Int32) → wp_X12_isDue_55 Q h1) ∧ ((h1.1 0 46) = (2 : Int32) → (vp_in (((10 : Int32) * x1) + x2) 230 ∧ (((h1.1 26 (((10 : Int32) * x1) + x2).toNatClampNeg) = (h1.1 0 47) → Q (0 : Int32) h1) ∧ (¬ (h1.1 26 (((10 : Int32) * x1) + x2).toNatClampNeg) = (h1.1 0 47) → wp_X12_isDue_55 Q h1)))))))))))))
set_option maxHeartbeats 4000000 in
set_option maxRecDepth 100000 in
theorem cp_X12_isDue_55 {gr : Bool} {Q : Int32 → ck_H → Prop} : ∀ (h : ck_H), wp_X12_isDue_55 Q h → ck_W cX12_isDue 3 RX12 (some .boolean) 3 0 0 false gr (ck_Qi ck_shM Q) ck_shM h 0 0 55 [] [] := by
  intro h hq
  refine ck_iconst (v := 1) dX12_isDue_55 (by decide) ?_
  refine ck_goto (tgt := 60) dX12_isDue_56 (by decide) ?_
  exact ck_iret rfl (by decide) rfl rfl dX12_isDue_60 ⟨_, rfl, rfl, hq⟩
set_option maxHeartbeats 4000000 in
set_option maxRecDepth 100000 in
theorem c_X12_isDue {gr : Bool} {x1 : Int32} {x2 : Int32} {h : ck_H} {Q : Int32 → ck_H → Prop} (hq : wp_X12_isDue x1 x2 h Q) : ck_M yX12_isDue cX12_isDue 3 (some .boolean) 3 0 0 gr ck_shM h [.ref 0, .int x1, .int x2] (ck_Qi ck_shM Q) := by
  refine ck_entry (lv := [(0, .ref 0), (1, .int x1), (2, .int x2)]) false (own := RX12) rfl (fun q => by cases q) (by decide) (Nat.le_of_ble_eq_true rfl) rfl ?_
  refine ck_aload_n 0 dX12_isDue_0 rfl rfl ?_
  refine ck_iload_n 1 dX12_isDue_1 rfl rfl ?_
  refine ck_iload_n 2 dX12_isDue_2 rfl rfl ?_
  refine ck_callV (c_X12_isOpen hq) rfl cal_X12_isOpen rfl ml_X12_379 vir_X12_isOpen rfl rfl (by decide) (Nat.le_of_ble_eq_true rfl) (Nat.le_of_ble_eq_true rfl) (by decide) (by decide) dX12_isDue_3 ?_
  rintro _ _ h1 ⟨r2, rfl, rfl, hq⟩
  refine ck_if_eq (tgt := 59) dX12_isDue_6 (by decide) (fun c3 => ?_) (fun c3 => ?_)
  · have hq := hq.1 c3
    refine ck_iconst (v := 0) dX12_isDue_59 (by decide) ?_
    exact ck_iret rfl (by decide) rfl rfl dX12_isDue_60 ⟨_, rfl, rfl, hq⟩
  · have hq := hq.2 c3
    refine ck_aload_n 0 dX12_isDue_9 rfl rfl ?_
    refine ck_getR clX12 42 rfl rfl (by decide) fl_X12_93 dX12_isDue_10 ?_
    refine ck_bipush (v := 10) dX12_isDue_13 (by decide) ?_
    refine ck_iload_n 1 dX12_isDue_15 rfl rfl ?_
    refine ck_imul dX12_isDue_16 ?_
    refine ck_iload_n 2 dX12_isDue_17 rfl rfl ?_
    refine ck_iadd dX12_isDue_18 ?_
    obtain ⟨b4, hq⟩ := hq
    refine ck_iald rfl rfl b4 dX12_isDue_19 ?_
    refine ck_aload_n 0 dX12_isDue_20 rfl rfl ?_
    refine ck_getR clX12 35 rfl rfl (by decide) fl_X12_72 dX12_isDue_21 ?_
    refine ck_iload_n 1 dX12_isDue_24 rfl rfl ?_
    obtain ⟨b5, hq⟩ := hq
    refine ck_iald rfl rfl b5 dX12_isDue_25 ?_
    refine ck_icmp_ne (tgt := 59) dX12_isDue_26 (by decide) (fun c6 => ?_) (fun c6 => ?_)
    · have hq := hq.1 c6
      refine ck_iconst (v := 0) dX12_isDue_59 (by decide) ?_
      exact ck_iret rfl (by decide) rfl rfl dX12_isDue_60 ⟨_, rfl, rfl, hq⟩
    · have hq := hq.2 c6
      refine ck_aload_n 0 dX12_isDue_29 rfl rfl ?_
      refine ck_getI clX12 46 rfl rfl (by decide) fl_X12_352 dX12_isDue_30 ?_
      refine ck_iconst (v := 2) dX12_isDue_33 (by decide) ?_
      refine ck_icmp_ne (tgt := 55) dX12_isDue_34 (by decide) (fun c7 => ?_) (fun c7 => ?_)
      · have hq := hq.1 c7
        refine ck_loc [] rfl ?_
        exact cp_X12_isDue_55  _ hq
      · have hq := hq.2 c7
        refine ck_aload_n 0 dX12_isDue_37 rfl rfl ?_
        refine ck_getR clX12 41 rfl rfl (by decide) fl_X12_90 dX12_isDue_38 ?_
        refine ck_bipush (v := 10) dX12_isDue_41 (by decide) ?_
        refine ck_iload_n 1 dX12_isDue_43 rfl rfl ?_
        refine ck_imul dX12_isDue_44 ?_
        refine ck_iload_n 2 dX12_isDue_45 rfl rfl ?_
        refine ck_iadd dX12_isDue_46 ?_
        obtain ⟨b8, hq⟩ := hq
        refine ck_iald rfl rfl b8 dX12_isDue_47 ?_
        refine ck_aload_n 0 dX12_isDue_48 rfl rfl ?_
        refine ck_getI clX12 47 rfl rfl (by decide) fl_X12_99 dX12_isDue_49 ?_
        refine ck_icmp_eq (tgt := 59) dX12_isDue_52 (by decide) (fun c9 => ?_) (fun c9 => ?_)
        · have hq := hq.1 c9
          refine ck_iconst (v := 0) dX12_isDue_59 (by decide) ?_
          exact ck_iret rfl (by decide) rfl rfl dX12_isDue_60 ⟨_, rfl, rfl, hq⟩
        · have hq := hq.2 c9
          refine ck_loc [] rfl ?_
          exact cp_X12_isDue_55  _ hq
def wp_X12_hardness (x1 : Int32) (x2 : Int32) (h : ck_H) (Q : Int32 → ck_H → Prop) : Prop := (vp_in x2 20 ∧ (vp_in (h.1 12 x2.toNatClampNeg) 12 ∧ (vp_in x1 23 ∧ ((¬ (((h.1 22 x1.toNatClampNeg) >>> (x2 &&& 31)) &&& (1 : Int32)) = (1 : Int32) → Q ((h.1 7 (h.1 12 x2.toNatClampNeg).toNatClampNeg) + (0 : Int32)) h) ∧ ((((h.1 22 x1.toNatClampNeg) >>> (x2 &&& 31)) &&& (1 : Int32)) = (1 : Int32) → (((h.1 0 46) = (3 : Int32) → Q ((h.1 7 (h.1 12 x2.toNatClampNeg).toNatClampNeg) + (0 : Int32)) h) ∧ (¬ (h.1 0 46) = (3 : Int32) → Q ((h.1 7 (h.1 12 x2.toNatClampNeg).toNatClampNeg) + (30 : Int32)) h)))))))
set_option maxHeartbeats 4000000 in
set_option maxRecDepth 100000 in
theorem c_X12_hardness {gr : Bool} {x1 : Int32} {x2 : Int32} {h : ck_H} {Q : Int32 → ck_H → Prop} (hq : wp_X12_hardness x1 x2 h Q) : ck_M yX12_hardness cX12_hardness 3 (some .int) 2 0 0 gr ck_shM h [.ref 0, .int x1, .int x2] (ck_Qi ck_shM Q) := by
  refine ck_entry (lv := [(0, .ref 0), (1, .int x1), (2, .int x2)]) false (own := RX12) rfl (fun q => by cases q) (by decide) (Nat.le_of_ble_eq_true rfl) rfl ?_
  refine ck_aload_n 0 dX12_hardness_0 rfl rfl ?_
  refine ck_getR clX12 8 rfl rfl (by decide) fl_X12_28 dX12_hardness_1 ?_
  refine ck_aload_n 0 dX12_hardness_4 rfl rfl ?_
  refine ck_getR clX12 13 rfl rfl (by decide) fl_X12_43 dX12_hardness_5 ?_
  refine ck_iload_n 2 dX12_hardness_8 rfl rfl ?_
  obtain ⟨b1, hq⟩ := hq
  refine ck_iald rfl rfl b1 dX12_hardness_9 ?_
  obtain ⟨b2, hq⟩ := hq
  refine ck_iald rfl rfl b2 dX12_hardness_10 ?_
  refine ck_aload_n 0 dX12_hardness_11 rfl rfl ?_
  refine ck_getR clX12 37 rfl rfl (by decide) fl_X12_78 dX12_hardness_12 ?_
  refine ck_iload_n 1 dX12_hardness_15 rfl rfl ?_
  obtain ⟨b3, hq⟩ := hq
  refine ck_iald rfl rfl b3 dX12_hardness_16 ?_
  refine ck_iload_n 2 dX12_hardness_17 rfl rfl ?_
  refine ck_ishr dX12_hardness_18 ?_
  refine ck_iconst (v := 1) dX12_hardness_19 (by decide) ?_
  refine ck_iand dX12_hardness_20 ?_
  refine ck_iconst (v := 1) dX12_hardness_21 (by decide) ?_
  refine ck_icmp_ne (tgt := 38) dX12_hardness_22 (by decide) (fun c4 => ?_) (fun c4 => ?_)
  · have hq := hq.1 c4
    refine ck_iconst (v := 0) dX12_hardness_38 (by decide) ?_
    refine ck_iadd dX12_hardness_39 ?_
    exact ck_iret rfl rfl rfl rfl dX12_hardness_40 ⟨_, rfl, rfl, hq⟩
  · have hq := hq.2 c4
    refine ck_aload_n 0 dX12_hardness_25 rfl rfl ?_
    refine ck_getI clX12 46 rfl rfl (by decide) fl_X12_352 dX12_hardness_26 ?_
    refine ck_iconst (v := 3) dX12_hardness_29 (by decide) ?_
    refine ck_icmp_eq (tgt := 38) dX12_hardness_30 (by decide) (fun c5 => ?_) (fun c5 => ?_)
    · have hq := hq.1 c5
      refine ck_iconst (v := 0) dX12_hardness_38 (by decide) ?_
      refine ck_iadd dX12_hardness_39 ?_
      exact ck_iret rfl rfl rfl rfl dX12_hardness_40 ⟨_, rfl, rfl, hq⟩
    · have hq := hq.2 c5
      refine ck_bipush (v := 30) dX12_hardness_33 (by decide) ?_
      refine ck_goto (tgt := 39) dX12_hardness_35 (by decide) ?_
      refine ck_iadd dX12_hardness_39 ?_
      exact ck_iret rfl rfl rfl rfl dX12_hardness_40 ⟨_, rfl, rfl, hq⟩
def wp_X12_tries_70 (Q : ck_H → Prop) (x1 : Int32) (x2 : Int32) (x3 : Int32) (x4 : Int32) (x5 : Int32) (h : ck_H) : Prop := (wp_X12_forceOf x1 x3 x4 x5 h (fun r9 h8 => (wp_X12_slackOf x1 x3 x4 x5 h8 (fun r11 h10 => (wp_X12_verdictAt x1 x3 x4 x5 h10 (fun r13 h12 => (∀ v14, v14 = (((4 : Int32) * x1) + x3) → (vp_in (((10 : Int32) * x1) + x2) 230 ∧ (∀ h16, h16 = ck_sI h12 28 (((10 : Int32) * x1) + x2).toNatClampNeg r13 → (vp_in v14 92 ∧ (vp_in v14 92 ∧ (∀ h19, h19 = ck_sI h16 25 v14.toNatClampNeg ((h16.1 25 v14.toNatClampNeg) + (1 : Int32)) → ((¬ r13 = 0 → ((¬ (h19.1 0 46) = (1 : Int32) → (wp_X12_calls x1 x3 x4 x5 h19 (fun h22 => (vp_in x1 23 ∧ (wp_X12_within (2 : Int32) (0 : Int32) (9 : Int32) (1 : Int32) h22 (fun r25 h24 => (vp_in x1 23 ∧ (∀ h27, h27 = ck_sI h24 21 x1.toNatClampNeg (if (1 : Int32) < ((h22.1 21 x1.toNatClampNeg) - r25) then ((h22.1 21 x1.toNatClampNeg) - r25) else (1 : Int32)) → Q h27)))))))) ∧ ((h19.1 0 46) = (1 : Int32) → Q h19))) ∧ (r13 = 0 → (((x5 - r9) < ((2 : Int32) * r11) → Q h19) ∧ (¬ (x5 - r9) < ((2 : Int32) * r11) → (vp_in v14 92 ∧ ((¬ (h19.1 24 v14.toNatClampNeg) = 0 → (vp_in v14 92 ∧ (vp_in v14 92 ∧ (∀ h33, h33 = ck_sI h19 24 v14.toNatClampNeg ((h19.1 24 v14.toNatClampNeg) - (1 : Int32)) → (vp_in x1 23 ∧ (vp_in x1 23 ∧ (∀ h36, h36 = ck_sI h33 23 x1.toNatClampNeg ((h33.1 23 x1.toNatClampNeg) + (1 : Int32)) → Q h36))))))) ∧ ((h19.1 24 v14.toNatClampNeg) = 0 → Q h19)))))))))))))))))))
def wp_X12_tries (x1 : Int32) (x2 : Int32) (h : ck_H) (Q : ck_H → Prop) : Prop := (vp_in (((10 : Int32) * x1) + x2) 230 ∧ (∀ v2, v2 = (h.1 26 (((10 : Int32) * x1) + x2).toNatClampNeg) → (vp_in x2 20 ∧ (∀ v4, v4 = (h.1 12 x2.toNatClampNeg) → (wp_X12_hardness x1 x2 h (fun r6 h5 => (((h5.1 0 49) = 0 → wp_X12_tries_70 Q x1 x2 v2 v4 r6 h5) ∧ (¬ (h5.1 0 49) = 0 → (∀ h37, h37 = ck_sI h5 0 50 ((((h5.1 0 50) * (1103515245 : Int32)) + (12345 : Int32)) &&& (2147483647 : Int32)) → (∀ v38, v38 = (r6 + (ck_rem ((h37.1 0 50) >>> ((16 : Int32) &&& 31)) (10 : Int32))) → wp_X12_tries_70 Q x1 x2 v2 v4 v38 h37))))))))))
set_option maxHeartbeats 4000000 in
set_option maxRecDepth 100000 in
theorem cp_X12_tries_70 {gr : Bool} {Q : ck_H → Prop} : ∀ (x1 : Int32) (x2 : Int32) (x3 : Int32) (x4 : Int32) (x5 : Int32) (h : ck_H), wp_X12_tries_70 Q x1 x2 x3 x4 x5 h → ck_W cX12_tries 10 RX12 none 8 0 0 false gr (ck_Qv ck_shM Q) ck_shM h 0 0 70 [(0, .ref 0), (1, .int x1), (2, .int x2), (3, .int x3), (4, .int x4), (5, .int x5)] [] := by
  intro x1 x2 x3 x4 x5 h hq
  refine ck_aload_n 0 dX12_tries_70 rfl rfl ?_
  refine ck_iload_n 1 dX12_tries_71 rfl rfl ?_
  refine ck_iload_n 3 dX12_tries_72 rfl rfl ?_
  refine ck_iload 4 dX12_tries_73 rfl ?_
  refine ck_iload 5 dX12_tries_75 rfl ?_
  refine ck_callV (c_X12_forceOf hq) rfl cal_X12_forceOf rfl ml_X12_355 vir_X12_forceOf rfl rfl (by decide) (Nat.le_of_ble_eq_true rfl) (Nat.le_of_ble_eq_true rfl) (by decide) (by decide) dX12_tries_77 ?_
  rintro _ _ h8 ⟨r9, rfl, rfl, hq⟩
  refine ck_istore (lv' := [(6, .int r9), (0, .ref 0), (1, .int x1), (2, .int x2), (3, .int x3), (4, .int x4), (5, .int x5)]) dX12_tries_80 (by decide) rfl ?_
  refine ck_aload_n 1 dX12_tries_82 rfl rfl ?_
  refine ck_iload_n 2 dX12_tries_83 rfl rfl ?_
  refine ck_iload_n 4 dX12_tries_84 rfl rfl ?_
  refine ck_iload 5 dX12_tries_85 rfl ?_
  refine ck_iload 6 dX12_tries_87 rfl ?_
  refine ck_callV (c_X12_slackOf hq) rfl cal_X12_slackOf rfl ml_X12_358 vir_X12_slackOf rfl rfl (by decide) (Nat.le_of_ble_eq_true rfl) (Nat.le_of_ble_eq_true rfl) (by decide) (by decide) dX12_tries_89 ?_
  rintro _ _ h10 ⟨r11, rfl, rfl, hq⟩
  refine ck_istore (lv' := [(7, .int r11), (6, .int r9), (0, .ref 0), (1, .int x1), (2, .int x2), (3, .int x3), (4, .int x4), (5, .int x5)]) dX12_tries_92 (by decide) rfl ?_
  refine ck_aload_n 2 dX12_tries_94 rfl rfl ?_
  refine ck_iload_n 3 dX12_tries_95 rfl rfl ?_
  refine ck_iload_n 5 dX12_tries_96 rfl rfl ?_
  refine ck_iload 6 dX12_tries_97 rfl ?_
  refine ck_iload 7 dX12_tries_99 rfl ?_
  refine ck_callV (c_X12_verdictAt hq) rfl cal_X12_verdictAt rfl ml_X12_374 vir_X12_verdictAt rfl rfl (by decide) (Nat.le_of_ble_eq_true rfl) (Nat.le_of_ble_eq_true rfl) (by decide) (by decide) dX12_tries_101 ?_
  rintro _ _ h12 ⟨r13, rfl, rfl, hq⟩
  refine ck_istore (lv' := [(8, .int r13), (7, .int r11), (6, .int r9), (0, .ref 0), (1, .int x1), (2, .int x2), (3, .int x3), (4, .int x4), (5, .int x5)]) dX12_tries_104 (by decide) rfl ?_
  refine ck_iconst (v := 4) dX12_tries_106 (by decide) ?_
  refine ck_iload_n 4 dX12_tries_107 rfl rfl ?_
  refine ck_imul dX12_tries_108 ?_
  refine ck_iload_n 6 dX12_tries_109 rfl rfl ?_
  refine ck_iadd dX12_tries_110 ?_
  refine ck_nmI (fun v14 ev14 => ?_)
  have hq := hq v14 ev14
  refine ck_istore (lv' := [(9, .int v14), (8, .int r13), (7, .int r11), (6, .int r9), (0, .ref 0), (1, .int x1), (2, .int x2), (3, .int x3), (4, .int x4), (5, .int x5)]) dX12_tries_111 (by decide) rfl ?_
  refine ck_aload_n 4 dX12_tries_113 rfl rfl ?_
  refine ck_getR clX12 43 rfl rfl (by decide) fl_X12_96 dX12_tries_114 ?_
  refine ck_bipush (v := 10) dX12_tries_117 (by decide) ?_
  refine ck_iload_n 5 dX12_tries_119 rfl rfl ?_
  refine ck_imul dX12_tries_120 ?_
  refine ck_iload_n 6 dX12_tries_121 rfl rfl ?_
  refine ck_iadd dX12_tries_122 ?_
  refine ck_iload 1 dX12_tries_123 rfl ?_
  obtain ⟨b15, hq⟩ := hq
  refine ck_iast rfl rfl b15 dX12_tries_125 ?_
  refine ck_nmH (fun h16 eh16 => ?_)
  have hq := hq h16 eh16
  refine ck_aload_n 4 dX12_tries_126 rfl rfl ?_
  refine ck_getR clX12 40 rfl rfl (by decide) fl_X12_87 dX12_tries_127 ?_
  refine ck_iload 0 dX12_tries_130 rfl ?_
  refine ck_dup2 dX12_tries_132 rfl rfl ?_
  obtain ⟨b17, hq⟩ := hq
  refine ck_iald rfl rfl b17 dX12_tries_133 ?_
  refine ck_iconst (v := 1) dX12_tries_134 (by decide) ?_
  refine ck_iadd dX12_tries_135 ?_
  obtain ⟨b18, hq⟩ := hq
  refine ck_iast rfl rfl b18 dX12_tries_136 ?_
  refine ck_nmH (fun h19 eh19 => ?_)
  have hq := hq h19 eh19
  refine ck_iload 1 dX12_tries_137 rfl ?_
  refine ck_if_ne (tgt := 187) dX12_tries_139 (by decide) (fun c20 => ?_) (fun c20 => ?_)
  · have hq := hq.1 c20
    refine ck_aload_n 4 dX12_tries_187 rfl rfl ?_
    refine ck_getI clX12 46 rfl rfl (by decide) fl_X12_352 dX12_tries_188 ?_
    refine ck_iconst (v := 1) dX12_tries_191 (by decide) ?_
    refine ck_icmp_ne (tgt := 196) dX12_tries_192 (by decide) (fun c21 => ?_) (fun c21 => ?_)
    · have hq := hq.1 c21
      refine ck_aload_n 4 dX12_tries_196 rfl rfl ?_
      refine ck_iload_n 5 dX12_tries_197 rfl rfl ?_
      refine ck_iload_n 7 dX12_tries_198 rfl rfl ?_
      refine ck_iload 8 dX12_tries_199 rfl ?_
      refine ck_iload 9 dX12_tries_201 rfl ?_
      refine ck_callV (c_X12_calls hq) rfl cal_X12_calls rfl ml_X12_344 vir_X12_calls rfl rfl (by decide) (Nat.le_of_ble_eq_true rfl) (Nat.le_of_ble_eq_true rfl) (by decide) (by decide) dX12_tries_203 ?_
      rintro _ _ h22 ⟨rfl, rfl, hq⟩
      refine ck_aload_n 4 dX12_tries_206 rfl rfl ?_
      refine ck_getR clX12 36 rfl rfl (by decide) fl_X12_75 dX12_tries_207 ?_
      refine ck_iload_n 5 dX12_tries_210 rfl rfl ?_
      refine ck_iconst (v := 1) dX12_tries_211 (by decide) ?_
      refine ck_aload_n 4 dX12_tries_212 rfl rfl ?_
      refine ck_getR clX12 36 rfl rfl (by decide) fl_X12_75 dX12_tries_213 ?_
      refine ck_iload_n 5 dX12_tries_216 rfl rfl ?_
      obtain ⟨b23, hq⟩ := hq
      refine ck_iald rfl rfl b23 dX12_tries_217 ?_
      refine ck_aload_n 4 dX12_tries_218 rfl rfl ?_
      refine ck_iconst (v := 2) dX12_tries_219 (by decide) ?_
      refine ck_iconst (v := 0) dX12_tries_220 (by decide) ?_
      refine ck_bipush (v := 9) dX12_tries_221 (by decide) ?_
      refine ck_iconst (v := 1) dX12_tries_223 (by decide) ?_
      refine ck_callV (c_X12_within hq) rfl cal_X12_within rfl ml_X12_348 vir_X12_within rfl rfl (by decide) (Nat.le_of_ble_eq_true rfl) (Nat.le_of_ble_eq_true rfl) (by decide) (by decide) dX12_tries_224 ?_
      rintro _ _ h24 ⟨r25, rfl, rfl, hq⟩
      refine ck_isub dX12_tries_227 ?_
      refine ck_mmax ml_X12_377 w_mmax (by decide) (Nat.le_of_ble_eq_true rfl) (by decide) (by decide) dX12_tries_228 ?_
      obtain ⟨b26, hq⟩ := hq
      refine ck_iast rfl rfl b26 dX12_tries_231 ?_
      refine ck_nmH (fun h27 eh27 => ?_)
      have hq := hq h27 eh27
      exact ck_vret rfl rfl rfl dX12_tries_232 ⟨rfl, rfl, hq⟩
    · have hq := hq.2 c21
      exact ck_vret rfl rfl rfl dX12_tries_195 ⟨rfl, rfl, hq⟩
  · have hq := hq.2 c20
    refine ck_iload 9 dX12_tries_142 rfl ?_
    refine ck_iload 3 dX12_tries_144 rfl ?_
    refine ck_isub dX12_tries_146 ?_
    refine ck_iconst (v := 2) dX12_tries_147 (by decide) ?_
    refine ck_iload 2 dX12_tries_148 rfl ?_
    refine ck_imul dX12_tries_150 ?_
    refine ck_icmp_lt (tgt := 164) dX12_tries_151 (by decide) (fun c28 => ?_) (fun c28 => ?_)
    · have hq := hq.1 c28
      exact ck_vret rfl rfl rfl dX12_tries_164 ⟨rfl, rfl, hq⟩
    · have hq := hq.2 c28
      refine ck_aload_n 4 dX12_tries_154 rfl rfl ?_
      refine ck_getR clX12 39 rfl rfl (by decide) fl_X12_84 dX12_tries_155 ?_
      refine ck_iload 0 dX12_tries_158 rfl ?_
      obtain ⟨b29, hq⟩ := hq
      refine ck_iald rfl rfl b29 dX12_tries_160 ?_
      refine ck_if_ne (tgt := 165) dX12_tries_161 (by decide) (fun c30 => ?_) (fun c30 => ?_)
      · have hq := hq.1 c30
        refine ck_aload_n 4 dX12_tries_165 rfl rfl ?_
        refine ck_getR clX12 39 rfl rfl (by decide) fl_X12_84 dX12_tries_166 ?_
        refine ck_iload 0 dX12_tries_169 rfl ?_
        refine ck_dup2 dX12_tries_171 rfl rfl ?_
        obtain ⟨b31, hq⟩ := hq
        refine ck_iald rfl rfl b31 dX12_tries_172 ?_
        refine ck_iconst (v := 1) dX12_tries_173 (by decide) ?_
        refine ck_isub dX12_tries_174 ?_
        obtain ⟨b32, hq⟩ := hq
        refine ck_iast rfl rfl b32 dX12_tries_175 ?_
        refine ck_nmH (fun h33 eh33 => ?_)
        have hq := hq h33 eh33
        refine ck_aload_n 4 dX12_tries_176 rfl rfl ?_
        refine ck_getR clX12 38 rfl rfl (by decide) fl_X12_81 dX12_tries_177 ?_
        refine ck_iload_n 5 dX12_tries_180 rfl rfl ?_
        refine ck_dup2 dX12_tries_181 rfl rfl ?_
        obtain ⟨b34, hq⟩ := hq
        refine ck_iald rfl rfl b34 dX12_tries_182 ?_
        refine ck_iconst (v := 1) dX12_tries_183 (by decide) ?_
        refine ck_iadd dX12_tries_184 ?_
        obtain ⟨b35, hq⟩ := hq
        refine ck_iast rfl rfl b35 dX12_tries_185 ?_
        refine ck_nmH (fun h36 eh36 => ?_)
        have hq := hq h36 eh36
        exact ck_vret rfl rfl rfl dX12_tries_186 ⟨rfl, rfl, hq⟩
      · have hq := hq.2 c30
        exact ck_vret rfl rfl rfl dX12_tries_164 ⟨rfl, rfl, hq⟩
set_option maxHeartbeats 4000000 in
set_option maxRecDepth 100000 in
theorem c_X12_tries {gr : Bool} {x1 : Int32} {x2 : Int32} {h : ck_H} {Q : ck_H → Prop} (hq : wp_X12_tries x1 x2 h Q) : ck_M yX12_tries cX12_tries 10 none 8 0 0 gr ck_shM h [.ref 0, .int x1, .int x2] (ck_Qv ck_shM Q) := by
  refine ck_entry (lv := [(0, .ref 0), (1, .int x1), (2, .int x2)]) false (own := RX12) rfl (fun q => by cases q) (by decide) (Nat.le_of_ble_eq_true rfl) rfl ?_
  refine ck_aload_n 0 dX12_tries_0 rfl rfl ?_
  refine ck_getR clX12 41 rfl rfl (by decide) fl_X12_90 dX12_tries_1 ?_
  refine ck_bipush (v := 10) dX12_tries_4 (by decide) ?_
  refine ck_iload_n 1 dX12_tries_6 rfl rfl ?_
  refine ck_imul dX12_tries_7 ?_
  refine ck_iload_n 2 dX12_tries_8 rfl rfl ?_
  refine ck_iadd dX12_tries_9 ?_
  obtain ⟨b1, hq⟩ := hq
  refine ck_iald rfl rfl b1 dX12_tries_10 ?_
  refine ck_nmI (fun v2 ev2 => ?_)
  have hq := hq v2 ev2
  refine ck_istore_n (lv' := [(3, .int v2), (0, .ref 0), (1, .int x1), (2, .int x2)]) dX12_tries_11 rfl (by decide) rfl ?_
  refine ck_aload_n 1 dX12_tries_12 rfl rfl ?_
  refine ck_getR clX12 13 rfl rfl (by decide) fl_X12_43 dX12_tries_13 ?_
  refine ck_iload_n 3 dX12_tries_16 rfl rfl ?_
  obtain ⟨b3, hq⟩ := hq
  refine ck_iald rfl rfl b3 dX12_tries_17 ?_
  refine ck_nmI (fun v4 ev4 => ?_)
  have hq := hq v4 ev4
  refine ck_istore (lv' := [(4, .int v4), (3, .int v2), (0, .ref 0), (1, .int x1), (2, .int x2)]) dX12_tries_18 (by decide) rfl ?_
  refine ck_aload_n 2 dX12_tries_20 rfl rfl ?_
  refine ck_iload_n 3 dX12_tries_21 rfl rfl ?_
  refine ck_iload_n 4 dX12_tries_22 rfl rfl ?_
  refine ck_callV (c_X12_hardness hq) rfl cal_X12_hardness rfl ml_X12_361 vir_X12_hardness rfl rfl (by decide) (Nat.le_of_ble_eq_true rfl) (Nat.le_of_ble_eq_true rfl) (by decide) (by decide) dX12_tries_23 ?_
  rintro _ _ h5 ⟨r6, rfl, rfl, hq⟩
  refine ck_istore (lv' := [(5, .int r6), (4, .int v4), (3, .int v2), (0, .ref 0), (1, .int x1), (2, .int x2)]) dX12_tries_26 (by decide) rfl ?_
  refine ck_aload_n 3 dX12_tries_28 rfl rfl ?_
  refine ck_getI clX12 49 rfl rfl (by decide) fl_X12_364 dX12_tries_29 ?_
  refine ck_if_eq (tgt := 70) dX12_tries_32 (by decide) (fun c7 => ?_) (fun c7 => ?_)
  · have hq := hq.1 c7
    refine ck_loc [3, 4, 5, 2, 1, 0] rfl ?_
    exact cp_X12_tries_70 _ _ _ _ _ _ hq
  · have hq := hq.2 c7
    refine ck_aload_n 3 dX12_tries_35 rfl rfl ?_
    refine ck_aload_n 3 dX12_tries_36 rfl rfl ?_
    refine ck_getI clX12 50 rfl rfl (by decide) fl_X12_367 dX12_tries_37 ?_
    refine ck_ldcw con_X12_370 dX12_tries_40 ?_
    refine ck_imul dX12_tries_43 ?_
    refine ck_sipush (v := 12345) dX12_tries_44 (by decide) ?_
    refine ck_iadd dX12_tries_47 ?_
    refine ck_ldcw con_X12_373 dX12_tries_48 ?_
    refine ck_iand dX12_tries_51 ?_
    refine ck_putI clX12 50 rfl rfl (by decide) fl_X12_367 rfl rfl rfl dX12_tries_52 ?_
    refine ck_nmH (fun h37 eh37 => ?_)
    have hq := hq h37 eh37
    refine ck_iload 0 dX12_tries_55 rfl ?_
    refine ck_aload_n 3 dX12_tries_57 rfl rfl ?_
    refine ck_getI clX12 50 rfl rfl (by decide) fl_X12_367 dX12_tries_58 ?_
    refine ck_bipush (v := 16) dX12_tries_61 (by decide) ?_
    refine ck_ishr dX12_tries_63 ?_
    refine ck_bipush (v := 10) dX12_tries_64 (by decide) ?_
    refine ck_irem dX12_tries_66 (by decide) ?_
    refine ck_iadd dX12_tries_67 ?_
    refine ck_nmI (fun v38 ev38 => ?_)
    have hq := hq v38 ev38
    refine ck_istore (lv' := [(5, .int v38), (4, .int v4), (3, .int v2), (0, .ref 0), (1, .int x1), (2, .int x2)]) dX12_tries_68 (by decide) rfl ?_
    refine ck_loc [3, 4, 5, 2, 1, 0] rfl ?_
    exact cp_X12_tries_70 _ _ _ _ _ _ hq
def wp_X12_triesAll_27 (Q : ck_H → Prop) (Kc : Int32 → Int32 → ck_H → Prop) (x1 : Int32) (x2 : Int32) (h : ck_H) : Prop := (∀ v5, v5 = x2 + 1 → Kc x1 v5 h)
def wp_X12_triesAll_2 (Q : ck_H → Prop) : Nat → Int32 → Int32 → ck_H → Prop
  | 0 => fun _ _ _ => False
  | n + 1 => fun x1 x2 h => (((h.1 2 2) ≤ x2 → Q h) ∧ (¬ (h.1 2 2) ≤ x2 → (wp_X12_isDue x1 x2 h (fun r3 h2 => ((r3 = 0 → wp_X12_triesAll_27 Q (wp_X12_triesAll_2 Q n) x1 x2 h2) ∧ (¬ r3 = 0 → (wp_X12_tries x1 x2 h2 (fun h6 => wp_X12_triesAll_27 Q (wp_X12_triesAll_2 Q n) x1 x2 h6))))))))
def wp_X12_triesAll (x1 : Int32) (h : ck_H) (Q : ck_H → Prop) : Prop := wp_X12_triesAll_2 Q lpN x1 (0 : Int32) h
set_option maxHeartbeats 4000000 in
set_option maxRecDepth 100000 in
theorem cp_X12_triesAll_27 {gr : Bool} {Q : ck_H → Prop} {Kc : Int32 → Int32 → ck_H → Prop} (hKc : ∀ (x1 : Int32) (x2 : Int32) (h : ck_H), Kc x1 x2 h → ck_W cX12_triesAll 3 RX12 none 9 0 0 false gr (ck_Qv ck_shM Q) ck_shM h 0 0 2 [(0, .ref 0), (1, .int x1), (2, .int x2)] []) : ∀ (x1 : Int32) (x2 : Int32) (h : ck_H), wp_X12_triesAll_27 Q Kc x1 x2 h → ck_W cX12_triesAll 3 RX12 none 9 0 0 false gr (ck_Qv ck_shM Q) ck_shM h 0 0 27 [(0, .ref 0), (1, .int x1), (2, .int x2)] [] := by
  intro x1 x2 h hq
  obtain ⟨v5, ev5⟩ : ∃ z : Int32, z = x2 + 1 := ⟨_, rfl⟩
  have hq := hq v5 ev5
  refine ck_iinc (v := v5) (lv' := [(2, .int v5), (0, .ref 0), (1, .int x1)]) 2 dX12_triesAll_27 rfl (by rw [ev5]; rfl) (by decide) rfl ?_
  refine ck_goto (tgt := 2) dX12_triesAll_30 (by decide) ?_
  refine ck_loc [1, 2, 0] rfl ?_
  exact hKc _ _ _ hq
set_option maxHeartbeats 4000000 in
set_option maxRecDepth 100000 in
theorem cp_X12_triesAll_2 {gr : Bool} {Q : ck_H → Prop} : ∀ (n : Nat) (x1 : Int32) (x2 : Int32) (h : ck_H), wp_X12_triesAll_2 Q n x1 x2 h → ck_W cX12_triesAll 3 RX12 none 9 0 0 false gr (ck_Qv ck_shM Q) ck_shM h 0 0 2 [(0, .ref 0), (1, .int x1), (2, .int x2)] [] := by
  intro n
  induction n with
  | zero => intro x1 x2 h hq; exact hq.elim
  | succ n hKc =>
    intro x1 x2 h hq
    refine ck_iload_n 2 dX12_triesAll_2 rfl rfl ?_
    refine ck_aload_n 0 dX12_triesAll_3 rfl rfl ?_
    refine ck_getR clX12 3 rfl rfl (by decide) fl_X12_13 dX12_triesAll_4 ?_
    refine ck_iconst (v := 2) dX12_triesAll_7 (by decide) ?_
    refine ck_iald (j := 2) (by decide) rfl (ck_inL (by decide)) dX12_triesAll_8 ?_
    refine ck_icmp_ge (tgt := 33) dX12_triesAll_9 (by decide) (fun c1 => ?_) (fun c1 => ?_)
    · have hq := hq.1 c1
      exact ck_vret rfl rfl rfl dX12_triesAll_33 ⟨rfl, rfl, hq⟩
    · have hq := hq.2 c1
      refine ck_aload_n 0 dX12_triesAll_12 rfl rfl ?_
      refine ck_iload_n 1 dX12_triesAll_13 rfl rfl ?_
      refine ck_iload_n 2 dX12_triesAll_14 rfl rfl ?_
      refine ck_callV (c_X12_isDue hq) rfl cal_X12_isDue rfl ml_X12_383 vir_X12_isDue rfl rfl (by decide) (Nat.le_of_ble_eq_true rfl) (Nat.le_of_ble_eq_true rfl) (by decide) (by decide) dX12_triesAll_15 ?_
      rintro _ _ h2 ⟨r3, rfl, rfl, hq⟩
      refine ck_if_eq (tgt := 27) dX12_triesAll_18 (by decide) (fun c4 => ?_) (fun c4 => ?_)
      · have hq := hq.1 c4
        exact cp_X12_triesAll_27 hKc _ _ _ hq
      · have hq := hq.2 c4
        refine ck_aload_n 0 dX12_triesAll_21 rfl rfl ?_
        refine ck_iload_n 1 dX12_triesAll_22 rfl rfl ?_
        refine ck_iload_n 2 dX12_triesAll_23 rfl rfl ?_
        refine ck_callV (c_X12_tries hq) rfl cal_X12_tries rfl ml_X12_386 vir_X12_tries rfl rfl (by decide) (Nat.le_of_ble_eq_true rfl) (Nat.le_of_ble_eq_true rfl) (by decide) (by decide) dX12_triesAll_24 ?_
        rintro _ _ h6 ⟨rfl, rfl, hq⟩
        exact cp_X12_triesAll_27 hKc _ _ _ hq
set_option maxHeartbeats 4000000 in
set_option maxRecDepth 100000 in
theorem c_X12_triesAll {gr : Bool} {x1 : Int32} {h : ck_H} {Q : ck_H → Prop} (hq : wp_X12_triesAll x1 h Q) : ck_M yX12_triesAll cX12_triesAll 3 none 9 0 0 gr ck_shM h [.ref 0, .int x1] (ck_Qv ck_shM Q) := by
  refine ck_entry (lv := [(0, .ref 0), (1, .int x1)]) false (own := RX12) rfl (fun q => by cases q) (by decide) (Nat.le_of_ble_eq_true rfl) rfl ?_
  refine ck_iconst (v := 0) dX12_triesAll_0 (by decide) ?_
  refine ck_istore_n (lv' := [(2, .int (0 : Int32)), (0, .ref 0), (1, .int x1)]) dX12_triesAll_1 rfl (by decide) rfl ?_
  refine ck_loc [1, 2, 0] rfl ?_
  refine cp_X12_triesAll_2 lpN _ _ _ hq
