theorem dX12_known_0 : decode cX12_known 0 = .ok (.aload_n 0, 1) := by decide +kernel
theorem dX12_known_1 : decode cX12_known 1 = .ok (.iconst 0, 1) := by decide +kernel
theorem dX12_known_2 : decode cX12_known 2 = .ok (.putfield 145, 3) := by decide +kernel
theorem dX12_known_5 : decode cX12_known 5 = .ok (.iload_n 1, 1) := by decide +kernel
theorem dX12_known_6 : decode cX12_known 6 = .ok (.iconst (-1), 1) := by decide +kernel
theorem dX12_known_7 : decode cX12_known 7 = .ok (.if_icmp .lt 11, 3) := by decide +kernel
theorem dX12_known_10 : decode cX12_known 10 = .ok (.iload_n 1, 1) := by decide +kernel
theorem dX12_known_11 : decode cX12_known 11 = .ok (.aload_n 0, 1) := by decide +kernel
theorem dX12_known_12 : decode cX12_known 12 = .ok (.getfield 295, 3) := by decide +kernel
theorem dX12_known_15 : decode cX12_known 15 = .ok (.if_icmp .le 5, 3) := by decide +kernel
theorem dX12_known_18 : decode cX12_known 18 = .ok (.iconst 0, 1) := by decide +kernel
theorem dX12_known_19 : decode cX12_known 19 = .ok (.ireturn, 1) := by decide +kernel
theorem dX12_known_20 : decode cX12_known 20 = .ok (.aload_n 0, 1) := by decide +kernel
theorem dX12_known_21 : decode cX12_known 21 = .ok (.iload_n 1, 1) := by decide +kernel
theorem dX12_known_22 : decode cX12_known 22 = .ok (.putfield 123, 3) := by decide +kernel
theorem dX12_known_25 : decode cX12_known 25 = .ok (.iconst 1, 1) := by decide +kernel
theorem dX12_known_26 : decode cX12_known 26 = .ok (.ireturn, 1) := by decide +kernel
theorem dX12_knownMany_0 : decode cX12_knownMany 0 = .ok (.aload_n 0, 1) := by decide +kernel
theorem dX12_knownMany_1 : decode cX12_knownMany 1 = .ok (.getfield 123, 3) := by decide +kernel
theorem dX12_knownMany_4 : decode cX12_knownMany 4 = .ok (.iconst (-1), 1) := by decide +kernel
theorem dX12_knownMany_5 : decode cX12_knownMany 5 = .ok (.if_icmp .ne 10, 3) := by decide +kernel
theorem dX12_knownMany_8 : decode cX12_knownMany 8 = .ok (.aload_n 0, 1) := by decide +kernel
theorem dX12_knownMany_9 : decode cX12_knownMany 9 = .ok (.getfield 295, 3) := by decide +kernel
theorem dX12_knownMany_12 : decode cX12_knownMany 12 = .ok (.goto 7, 3) := by decide +kernel
theorem dX12_knownMany_15 : decode cX12_knownMany 15 = .ok (.aload_n 0, 1) := by decide +kernel
theorem dX12_knownMany_16 : decode cX12_knownMany 16 = .ok (.getfield 123, 3) := by decide +kernel
theorem dX12_knownMany_19 : decode cX12_knownMany 19 = .ok (.ireturn, 1) := by decide +kernel
theorem dX12_fitsLever_0 : decode cX12_fitsLever 0 = .ok (.aload_n 0, 1) := by decide +kernel
theorem dX12_fitsLever_1 : decode cX12_fitsLever 1 = .ok (.iconst 1, 1) := by decide +kernel
theorem dX12_fitsLever_2 : decode cX12_fitsLever 2 = .ok (.invokevirtual 328, 3) := by decide +kernel
theorem dX12_fitsLever_5 : decode cX12_fitsLever 5 = .ok (.aload_n 0, 1) := by decide +kernel
theorem dX12_fitsLever_6 : decode cX12_fitsLever 6 = .ok (.iload_n 1, 1) := by decide +kernel
theorem dX12_fitsLever_7 : decode cX12_fitsLever 7 = .ok (.iconst 1, 1) := by decide +kernel
theorem dX12_fitsLever_8 : decode cX12_fitsLever 8 = .ok (.iadd, 1) := by decide +kernel
theorem dX12_fitsLever_9 : decode cX12_fitsLever 9 = .ok (.invokevirtual 423, 3) := by decide +kernel
theorem dX12_fitsLever_12 : decode cX12_fitsLever 12 = .ok (.iconst 0, 1) := by decide +kernel
theorem dX12_fitsLever_13 : decode cX12_fitsLever 13 = .ok (.istore_n 2, 1) := by decide +kernel
theorem dX12_fitsLever_14 : decode cX12_fitsLever 14 = .ok (.iload_n 2, 1) := by decide +kernel
theorem dX12_fitsLever_15 : decode cX12_fitsLever 15 = .ok (.aload_n 0, 1) := by decide +kernel
theorem dX12_fitsLever_16 : decode cX12_fitsLever 16 = .ok (.invokevirtual 477, 3) := by decide +kernel
theorem dX12_fitsLever_19 : decode cX12_fitsLever 19 = .ok (.if_icmp .ge 70, 3) := by decide +kernel
theorem dX12_fitsLever_22 : decode cX12_fitsLever 22 = .ok (.aload_n 0, 1) := by decide +kernel
theorem dX12_fitsLever_23 : decode cX12_fitsLever 23 = .ok (.getfield 139, 3) := by decide +kernel
theorem dX12_fitsLever_26 : decode cX12_fitsLever 26 = .ok (.iload_n 2, 1) := by decide +kernel
theorem dX12_fitsLever_27 : decode cX12_fitsLever 27 = .ok (.baload, 1) := by decide +kernel
theorem dX12_fitsLever_28 : decode cX12_fitsLever 28 = .ok (.ifCond .ne 55, 3) := by decide +kernel
theorem dX12_fitsLever_31 : decode cX12_fitsLever 31 = .ok (.aload_n 0, 1) := by decide +kernel
theorem dX12_fitsLever_32 : decode cX12_fitsLever 32 = .ok (.getfield 136, 3) := by decide +kernel
theorem dX12_fitsLever_35 : decode cX12_fitsLever 35 = .ok (.iload_n 2, 1) := by decide +kernel
theorem dX12_fitsLever_36 : decode cX12_fitsLever 36 = .ok (.iaload, 1) := by decide +kernel
theorem dX12_fitsLever_37 : decode cX12_fitsLever 37 = .ok (.iconst (-1), 1) := by decide +kernel
theorem dX12_fitsLever_38 : decode cX12_fitsLever 38 = .ok (.if_icmp .eq 6, 3) := by decide +kernel
theorem dX12_fitsLever_41 : decode cX12_fitsLever 41 = .ok (.goto 42, 3) := by decide +kernel
theorem dX12_fitsLever_44 : decode cX12_fitsLever 44 = .ok (.aload_n 0, 1) := by decide +kernel
theorem dX12_fitsLever_45 : decode cX12_fitsLever 45 = .ok (.getfield 96, 3) := by decide +kernel
theorem dX12_fitsLever_48 : decode cX12_fitsLever 48 = .ok (.bipush 10, 2) := by decide +kernel
theorem dX12_fitsLever_50 : decode cX12_fitsLever 50 = .ok (.aload_n 0, 1) := by decide +kernel
theorem dX12_fitsLever_51 : decode cX12_fitsLever 51 = .ok (.getfield 126, 3) := by decide +kernel
theorem dX12_fitsLever_54 : decode cX12_fitsLever 54 = .ok (.iload_n 2, 1) := by decide +kernel
theorem dX12_fitsLever_55 : decode cX12_fitsLever 55 = .ok (.iaload, 1) := by decide +kernel
theorem dX12_fitsLever_56 : decode cX12_fitsLever 56 = .ok (.iadd, 1) := by decide +kernel
theorem dX12_fitsLever_57 : decode cX12_fitsLever 57 = .ok (.iaload, 1) := by decide +kernel
theorem dX12_fitsLever_58 : decode cX12_fitsLever 58 = .ok (.aload_n 0, 1) := by decide +kernel
theorem dX12_fitsLever_59 : decode cX12_fitsLever 59 = .ok (.getfield 129, 3) := by decide +kernel
theorem dX12_fitsLever_62 : decode cX12_fitsLever 62 = .ok (.iload_n 2, 1) := by decide +kernel
theorem dX12_fitsLever_63 : decode cX12_fitsLever 63 = .ok (.iaload, 1) := by decide +kernel
theorem dX12_fitsLever_64 : decode cX12_fitsLever 64 = .ok (.if_icmp .ne 7, 3) := by decide +kernel
theorem dX12_fitsLever_67 : decode cX12_fitsLever 67 = .ok (.iconst 1, 1) := by decide +kernel
theorem dX12_fitsLever_68 : decode cX12_fitsLever 68 = .ok (.goto 4, 3) := by decide +kernel
theorem dX12_fitsLever_71 : decode cX12_fitsLever 71 = .ok (.iconst 0, 1) := by decide +kernel
theorem dX12_fitsLever_72 : decode cX12_fitsLever 72 = .ok (.aload_n 0, 1) := by decide +kernel
theorem dX12_fitsLever_73 : decode cX12_fitsLever 73 = .ok (.getfield 132, 3) := by decide +kernel
theorem dX12_fitsLever_76 : decode cX12_fitsLever 76 = .ok (.iload_n 2, 1) := by decide +kernel
theorem dX12_fitsLever_77 : decode cX12_fitsLever 77 = .ok (.baload, 1) := by decide +kernel
theorem dX12_fitsLever_78 : decode cX12_fitsLever 78 = .ok (.if_icmp .eq 5, 3) := by decide +kernel
theorem dX12_fitsLever_81 : decode cX12_fitsLever 81 = .ok (.iconst 0, 1) := by decide +kernel
theorem dX12_fitsLever_82 : decode cX12_fitsLever 82 = .ok (.ireturn, 1) := by decide +kernel
theorem dX12_fitsLever_83 : decode cX12_fitsLever 83 = .ok (.iinc 2 1, 3) := by decide +kernel
theorem dX12_fitsLever_86 : decode cX12_fitsLever 86 = .ok (.goto (-72), 3) := by decide +kernel
theorem dX12_fitsLever_89 : decode cX12_fitsLever 89 = .ok (.iconst 1, 1) := by decide +kernel
theorem dX12_fitsLever_90 : decode cX12_fitsLever 90 = .ok (.ireturn, 1) := by decide +kernel
theorem dX12_levers_0 : decode cX12_levers 0 = .ok (.aload_n 0, 1) := by decide +kernel
theorem dX12_levers_1 : decode cX12_levers 1 = .ok (.iconst 0, 1) := by decide +kernel
theorem dX12_levers_2 : decode cX12_levers 2 = .ok (.putfield 145, 3) := by decide +kernel
theorem dX12_levers_5 : decode cX12_levers 5 = .ok (.iconst (-1), 1) := by decide +kernel
theorem dX12_levers_6 : decode cX12_levers 6 = .ok (.istore_n 1, 1) := by decide +kernel
theorem dX12_levers_7 : decode cX12_levers 7 = .ok (.iconst 0, 1) := by decide +kernel
theorem dX12_levers_8 : decode cX12_levers 8 = .ok (.istore_n 2, 1) := by decide +kernel
theorem dX12_levers_9 : decode cX12_levers 9 = .ok (.iload_n 2, 1) := by decide +kernel
theorem dX12_levers_10 : decode cX12_levers 10 = .ok (.aload_n 0, 1) := by decide +kernel
theorem dX12_levers_11 : decode cX12_levers 11 = .ok (.invokevirtual 477, 3) := by decide +kernel
theorem dX12_levers_14 : decode cX12_levers 14 = .ok (.if_icmp .ge 16, 3) := by decide +kernel
theorem dX12_levers_17 : decode cX12_levers 17 = .ok (.aload_n 0, 1) := by decide +kernel
theorem dX12_levers_18 : decode cX12_levers 18 = .ok (.getfield 139, 3) := by decide +kernel
theorem dX12_levers_21 : decode cX12_levers 21 = .ok (.iload_n 2, 1) := by decide +kernel
theorem dX12_levers_22 : decode cX12_levers 22 = .ok (.iconst 0, 1) := by decide +kernel
theorem dX12_levers_23 : decode cX12_levers 23 = .ok (.bastore, 1) := by decide +kernel
theorem dX12_levers_24 : decode cX12_levers 24 = .ok (.iinc 2 1, 3) := by decide +kernel
theorem dX12_levers_27 : decode cX12_levers 27 = .ok (.goto (-18), 3) := by decide +kernel
theorem dX12_levers_30 : decode cX12_levers 30 = .ok (.aload_n 0, 1) := by decide +kernel
theorem dX12_levers_31 : decode cX12_levers 31 = .ok (.invokevirtual 477, 3) := by decide +kernel
theorem dX12_levers_34 : decode cX12_levers 34 = .ok (.iconst 1, 1) := by decide +kernel
theorem dX12_levers_35 : decode cX12_levers 35 = .ok (.isub, 1) := by decide +kernel
theorem dX12_levers_36 : decode cX12_levers 36 = .ok (.istore_n 2, 1) := by decide +kernel
theorem dX12_levers_37 : decode cX12_levers 37 = .ok (.iload_n 2, 1) := by decide +kernel
theorem dX12_levers_38 : decode cX12_levers 38 = .ok (.ifCond .lt 40, 3) := by decide +kernel
theorem dX12_levers_41 : decode cX12_levers 41 = .ok (.aload_n 0, 1) := by decide +kernel
theorem dX12_levers_42 : decode cX12_levers 42 = .ok (.getfield 139, 3) := by decide +kernel
theorem dX12_levers_45 : decode cX12_levers 45 = .ok (.iload_n 2, 1) := by decide +kernel
theorem dX12_levers_46 : decode cX12_levers 46 = .ok (.baload, 1) := by decide +kernel
theorem dX12_levers_47 : decode cX12_levers 47 = .ok (.ifCond .ne 25, 3) := by decide +kernel
theorem dX12_levers_50 : decode cX12_levers 50 = .ok (.aload_n 0, 1) := by decide +kernel
theorem dX12_levers_51 : decode cX12_levers 51 = .ok (.getfield 136, 3) := by decide +kernel
theorem dX12_levers_54 : decode cX12_levers 54 = .ok (.iload_n 2, 1) := by decide +kernel
theorem dX12_levers_55 : decode cX12_levers 55 = .ok (.iaload, 1) := by decide +kernel
theorem dX12_levers_56 : decode cX12_levers 56 = .ok (.iconst (-1), 1) := by decide +kernel
theorem dX12_levers_57 : decode cX12_levers 57 = .ok (.if_icmp .eq 15, 3) := by decide +kernel
theorem dX12_levers_60 : decode cX12_levers 60 = .ok (.aload_n 0, 1) := by decide +kernel
theorem dX12_levers_61 : decode cX12_levers 61 = .ok (.getfield 139, 3) := by decide +kernel
theorem dX12_levers_64 : decode cX12_levers 64 = .ok (.aload_n 0, 1) := by decide +kernel
theorem dX12_levers_65 : decode cX12_levers 65 = .ok (.getfield 136, 3) := by decide +kernel
theorem dX12_levers_68 : decode cX12_levers 68 = .ok (.iload_n 2, 1) := by decide +kernel
theorem dX12_levers_69 : decode cX12_levers 69 = .ok (.iaload, 1) := by decide +kernel
theorem dX12_levers_70 : decode cX12_levers 70 = .ok (.iconst 1, 1) := by decide +kernel
theorem dX12_levers_71 : decode cX12_levers 71 = .ok (.bastore, 1) := by decide +kernel
theorem dX12_levers_72 : decode cX12_levers 72 = .ok (.iinc 2 (-1), 3) := by decide +kernel
theorem dX12_levers_75 : decode cX12_levers 75 = .ok (.goto (-38), 3) := by decide +kernel
theorem dX12_levers_78 : decode cX12_levers 78 = .ok (.iconst 0, 1) := by decide +kernel
theorem dX12_levers_79 : decode cX12_levers 79 = .ok (.istore_n 2, 1) := by decide +kernel
theorem dX12_levers_80 : decode cX12_levers 80 = .ok (.iload_n 2, 1) := by decide +kernel
theorem dX12_levers_81 : decode cX12_levers 81 = .ok (.aload_n 0, 1) := by decide +kernel
theorem dX12_levers_82 : decode cX12_levers 82 = .ok (.invokevirtual 477, 3) := by decide +kernel
theorem dX12_levers_85 : decode cX12_levers 85 = .ok (.if_icmp .ge 44, 3) := by decide +kernel
theorem dX12_levers_88 : decode cX12_levers 88 = .ok (.aload_n 0, 1) := by decide +kernel
theorem dX12_levers_89 : decode cX12_levers 89 = .ok (.getfield 139, 3) := by decide +kernel
theorem dX12_levers_92 : decode cX12_levers 92 = .ok (.iload_n 2, 1) := by decide +kernel
theorem dX12_levers_93 : decode cX12_levers 93 = .ok (.baload, 1) := by decide +kernel
theorem dX12_levers_94 : decode cX12_levers 94 = .ok (.ifCond .ne 29, 3) := by decide +kernel
theorem dX12_levers_97 : decode cX12_levers 97 = .ok (.aload_n 0, 1) := by decide +kernel
theorem dX12_levers_98 : decode cX12_levers 98 = .ok (.getfield 136, 3) := by decide +kernel
theorem dX12_levers_101 : decode cX12_levers 101 = .ok (.iload_n 2, 1) := by decide +kernel
theorem dX12_levers_102 : decode cX12_levers 102 = .ok (.iaload, 1) := by decide +kernel
theorem dX12_levers_103 : decode cX12_levers 103 = .ok (.iconst (-1), 1) := by decide +kernel
theorem dX12_levers_104 : decode cX12_levers 104 = .ok (.if_icmp .ne 19, 3) := by decide +kernel
theorem dX12_levers_107 : decode cX12_levers 107 = .ok (.iload_n 1, 1) := by decide +kernel
theorem dX12_levers_108 : decode cX12_levers 108 = .ok (.aload_n 0, 1) := by decide +kernel
theorem dX12_levers_109 : decode cX12_levers 109 = .ok (.getfield 46, 3) := by decide +kernel
theorem dX12_levers_112 : decode cX12_levers 112 = .ok (.aload_n 0, 1) := by decide +kernel
theorem dX12_levers_113 : decode cX12_levers 113 = .ok (.getfield 126, 3) := by decide +kernel
theorem dX12_levers_116 : decode cX12_levers 116 = .ok (.iload_n 2, 1) := by decide +kernel
theorem dX12_levers_117 : decode cX12_levers 117 = .ok (.iaload, 1) := by decide +kernel
theorem dX12_levers_118 : decode cX12_levers 118 = .ok (.iaload, 1) := by decide +kernel
theorem dX12_levers_119 : decode cX12_levers 119 = .ok (.invokestatic 377, 3) := by decide +kernel
theorem dX12_levers_122 : decode cX12_levers 122 = .ok (.istore_n 1, 1) := by decide +kernel
theorem dX12_levers_123 : decode cX12_levers 123 = .ok (.iinc 2 1, 3) := by decide +kernel
theorem dX12_levers_126 : decode cX12_levers 126 = .ok (.goto (-46), 3) := by decide +kernel
theorem dX12_levers_129 : decode cX12_levers 129 = .ok (.iconst 0, 1) := by decide +kernel
theorem dX12_levers_130 : decode cX12_levers 130 = .ok (.istore_n 2, 1) := by decide +kernel
theorem dX12_levers_131 : decode cX12_levers 131 = .ok (.iconst 0, 1) := by decide +kernel
theorem dX12_levers_132 : decode cX12_levers 132 = .ok (.istore_n 3, 1) := by decide +kernel
theorem dX12_levers_133 : decode cX12_levers 133 = .ok (.iload_n 3, 1) := by decide +kernel
theorem dX12_levers_134 : decode cX12_levers 134 = .ok (.bipush 10, 2) := by decide +kernel
theorem dX12_levers_136 : decode cX12_levers 136 = .ok (.if_icmp .ge 37, 3) := by decide +kernel
theorem dX12_levers_139 : decode cX12_levers 139 = .ok (.aload_n 0, 1) := by decide +kernel
theorem dX12_levers_140 : decode cX12_levers 140 = .ok (.bipush 10, 2) := by decide +kernel
theorem dX12_levers_142 : decode cX12_levers 142 = .ok (.iload_n 3, 1) := by decide +kernel
theorem dX12_levers_143 : decode cX12_levers 143 = .ok (.imul, 1) := by decide +kernel
theorem dX12_levers_144 : decode cX12_levers 144 = .ok (.iconst 5, 1) := by decide +kernel
theorem dX12_levers_145 : decode cX12_levers 145 = .ok (.iadd, 1) := by decide +kernel
theorem dX12_levers_146 : decode cX12_levers 146 = .ok (.putfield 102, 3) := by decide +kernel
theorem dX12_levers_149 : decode cX12_levers 149 = .ok (.iload_n 2, 1) := by decide +kernel
theorem dX12_levers_150 : decode cX12_levers 150 = .ok (.aload_n 0, 1) := by decide +kernel
theorem dX12_levers_151 : decode cX12_levers 151 = .ok (.iload_n 1, 1) := by decide +kernel
theorem dX12_levers_152 : decode cX12_levers 152 = .ok (.invokevirtual 480, 3) := by decide +kernel
theorem dX12_levers_155 : decode cX12_levers 155 = .ok (.ifCond .eq 9, 3) := by decide +kernel
theorem dX12_levers_158 : decode cX12_levers 158 = .ok (.iconst 1, 1) := by decide +kernel
theorem dX12_levers_159 : decode cX12_levers 159 = .ok (.iload_n 3, 1) := by decide +kernel
theorem dX12_levers_160 : decode cX12_levers 160 = .ok (.ishl, 1) := by decide +kernel
theorem dX12_levers_161 : decode cX12_levers 161 = .ok (.goto 4, 3) := by decide +kernel
theorem dX12_levers_164 : decode cX12_levers 164 = .ok (.iconst 0, 1) := by decide +kernel
theorem dX12_levers_165 : decode cX12_levers 165 = .ok (.ior, 1) := by decide +kernel
theorem dX12_levers_166 : decode cX12_levers 166 = .ok (.istore_n 2, 1) := by decide +kernel
theorem dX12_levers_167 : decode cX12_levers 167 = .ok (.iinc 3 1, 3) := by decide +kernel
theorem dX12_levers_170 : decode cX12_levers 170 = .ok (.goto (-37), 3) := by decide +kernel
theorem dX12_levers_173 : decode cX12_levers 173 = .ok (.aload_n 0, 1) := by decide +kernel
theorem dX12_levers_174 : decode cX12_levers 174 = .ok (.iconst (-1), 1) := by decide +kernel
theorem dX12_levers_175 : decode cX12_levers 175 = .ok (.putfield 102, 3) := by decide +kernel
theorem dX12_levers_178 : decode cX12_levers 178 = .ok (.iload_n 2, 1) := by decide +kernel
theorem dX12_levers_179 : decode cX12_levers 179 = .ok (.ireturn, 1) := by decide +kernel
theorem dX12_chance_0 : decode cX12_chance 0 = .ok (.aload_n 0, 1) := by decide +kernel
theorem dX12_chance_1 : decode cX12_chance 1 = .ok (.iconst 0, 1) := by decide +kernel
theorem dX12_chance_2 : decode cX12_chance 2 = .ok (.putfield 145, 3) := by decide +kernel
theorem dX12_chance_5 : decode cX12_chance 5 = .ok (.iload_n 1, 1) := by decide +kernel
theorem dX12_chance_6 : decode cX12_chance 6 = .ok (.ifCond .lt 25, 3) := by decide +kernel
theorem dX12_chance_9 : decode cX12_chance 9 = .ok (.iload_n 2, 1) := by decide +kernel
theorem dX12_chance_10 : decode cX12_chance 10 = .ok (.iconst 1, 1) := by decide +kernel
theorem dX12_chance_11 : decode cX12_chance 11 = .ok (.if_icmp .lt 20, 3) := by decide +kernel
theorem dX12_chance_14 : decode cX12_chance 14 = .ok (.iload_n 2, 1) := by decide +kernel
theorem dX12_chance_15 : decode cX12_chance 15 = .ok (.bipush 99, 2) := by decide +kernel
theorem dX12_chance_17 : decode cX12_chance 17 = .ok (.if_icmp .gt 14, 3) := by decide +kernel
theorem dX12_chance_20 : decode cX12_chance 20 = .ok (.iload_n 3, 1) := by decide +kernel
theorem dX12_chance_21 : decode cX12_chance 21 = .ok (.ifCond .lt 10, 3) := by decide +kernel
theorem dX12_chance_24 : decode cX12_chance 24 = .ok (.iload_n 3, 1) := by decide +kernel
theorem dX12_chance_25 : decode cX12_chance 25 = .ok (.sipush 999, 3) := by decide +kernel
theorem dX12_chance_28 : decode cX12_chance 28 = .ok (.if_icmp .le 5, 3) := by decide +kernel
theorem dX12_chance_31 : decode cX12_chance 31 = .ok (.iconst (-1), 1) := by decide +kernel
theorem dX12_chance_32 : decode cX12_chance 32 = .ok (.ireturn, 1) := by decide +kernel
theorem dX12_chance_33 : decode cX12_chance 33 = .ok (.aload_n 0, 1) := by decide +kernel
theorem dX12_chance_34 : decode cX12_chance 34 = .ok (.iload_n 1, 1) := by decide +kernel
theorem dX12_chance_35 : decode cX12_chance 35 = .ok (.putfield 367, 3) := by decide +kernel
theorem dX12_chance_38 : decode cX12_chance 38 = .ok (.aload_n 0, 1) := by decide +kernel
theorem dX12_chance_39 : decode cX12_chance 39 = .ok (.iconst 1, 1) := by decide +kernel
theorem dX12_chance_40 : decode cX12_chance 40 = .ok (.putfield 364, 3) := by decide +kernel
theorem dX12_chance_43 : decode cX12_chance 43 = .ok (.iconst 0, 1) := by decide +kernel
theorem dX12_chance_44 : decode cX12_chance 44 = .ok (.istore 4, 2) := by decide +kernel
theorem dX12_chance_46 : decode cX12_chance 46 = .ok (.iconst 0, 1) := by decide +kernel
theorem dX12_chance_47 : decode cX12_chance 47 = .ok (.istore 5, 2) := by decide +kernel
theorem dX12_chance_49 : decode cX12_chance 49 = .ok (.iload 5, 2) := by decide +kernel
theorem dX12_chance_51 : decode cX12_chance 51 = .ok (.bipush 10, 2) := by decide +kernel
theorem dX12_chance_53 : decode cX12_chance 53 = .ok (.if_icmp .ge 45, 3) := by decide +kernel
theorem dX12_chance_56 : decode cX12_chance 56 = .ok (.aload_n 0, 1) := by decide +kernel
theorem dX12_chance_57 : decode cX12_chance 57 = .ok (.iconst 1, 1) := by decide +kernel
theorem dX12_chance_58 : decode cX12_chance 58 = .ok (.iconst 0, 1) := by decide +kernel
theorem dX12_chance_59 : decode cX12_chance 59 = .ok (.invokevirtual 417, 3) := by decide +kernel
theorem dX12_chance_62 : decode cX12_chance 62 = .ok (.aload_n 0, 1) := by decide +kernel
theorem dX12_chance_63 : decode cX12_chance 63 = .ok (.iload_n 2, 1) := by decide +kernel
theorem dX12_chance_64 : decode cX12_chance 64 = .ok (.invokevirtual 423, 3) := by decide +kernel
theorem dX12_chance_67 : decode cX12_chance 67 = .ok (.iload 4, 2) := by decide +kernel
theorem dX12_chance_69 : decode cX12_chance 69 = .ok (.aload_n 0, 1) := by decide +kernel
theorem dX12_chance_70 : decode cX12_chance 70 = .ok (.iconst 1, 1) := by decide +kernel
theorem dX12_chance_71 : decode cX12_chance 71 = .ok (.invokevirtual 429, 3) := by decide +kernel
theorem dX12_chance_74 : decode cX12_chance 74 = .ok (.aload_n 0, 1) := by decide +kernel
theorem dX12_chance_75 : decode cX12_chance 75 = .ok (.iconst 0, 1) := by decide +kernel
theorem dX12_chance_76 : decode cX12_chance 76 = .ok (.invokevirtual 429, 3) := by decide +kernel
theorem dX12_chance_79 : decode cX12_chance 79 = .ok (.isub, 1) := by decide +kernel
theorem dX12_chance_80 : decode cX12_chance 80 = .ok (.iload_n 3, 1) := by decide +kernel
theorem dX12_chance_81 : decode cX12_chance 81 = .ok (.if_icmp .lt 7, 3) := by decide +kernel
theorem dX12_chance_84 : decode cX12_chance 84 = .ok (.iconst 1, 1) := by decide +kernel
theorem dX12_chance_85 : decode cX12_chance 85 = .ok (.goto 4, 3) := by decide +kernel
theorem dX12_chance_88 : decode cX12_chance 88 = .ok (.iconst 0, 1) := by decide +kernel
theorem dX12_chance_89 : decode cX12_chance 89 = .ok (.iadd, 1) := by decide +kernel
theorem dX12_chance_90 : decode cX12_chance 90 = .ok (.istore 4, 2) := by decide +kernel
theorem dX12_chance_92 : decode cX12_chance 92 = .ok (.iinc 5 1, 3) := by decide +kernel
theorem dX12_chance_95 : decode cX12_chance 95 = .ok (.goto (-46), 3) := by decide +kernel
theorem dX12_chance_98 : decode cX12_chance 98 = .ok (.aload_n 0, 1) := by decide +kernel
theorem dX12_chance_99 : decode cX12_chance 99 = .ok (.iconst 0, 1) := by decide +kernel
theorem dX12_chance_100 : decode cX12_chance 100 = .ok (.putfield 364, 3) := by decide +kernel
theorem dX12_chance_103 : decode cX12_chance 103 = .ok (.iload 4, 2) := by decide +kernel
theorem dX12_chance_105 : decode cX12_chance 105 = .ok (.ireturn, 1) := by decide +kernel
theorem dX12_tried_0 : decode cX12_tried 0 = .ok (.aload_n 0, 1) := by decide +kernel
theorem dX12_tried_1 : decode cX12_tried 1 = .ok (.iconst 0, 1) := by decide +kernel
theorem dX12_tried_2 : decode cX12_tried 2 = .ok (.putfield 145, 3) := by decide +kernel
theorem dX12_tried_5 : decode cX12_tried 5 = .ok (.iload_n 1, 1) := by decide +kernel
theorem dX12_tried_6 : decode cX12_tried 6 = .ok (.iconst 2, 1) := by decide +kernel
theorem dX12_tried_7 : decode cX12_tried 7 = .ok (.if_icmp .ne 11, 3) := by decide +kernel
theorem dX12_tried_10 : decode cX12_tried 10 = .ok (.aload_n 0, 1) := by decide +kernel
theorem dX12_tried_11 : decode cX12_tried 11 = .ok (.iload_n 2, 1) := by decide +kernel
theorem dX12_tried_12 : decode cX12_tried 12 = .ok (.invokevirtual 404, 3) := by decide +kernel
theorem dX12_tried_15 : decode cX12_tried 15 = .ok (.goto 21, 3) := by decide +kernel
theorem dX12_tried_18 : decode cX12_tried 18 = .ok (.iload_n 1, 1) := by decide +kernel
theorem dX12_tried_19 : decode cX12_tried 19 = .ok (.ifCond .lt 16, 3) := by decide +kernel
theorem dX12_tried_22 : decode cX12_tried 22 = .ok (.iload_n 1, 1) := by decide +kernel
theorem dX12_tried_23 : decode cX12_tried 23 = .ok (.iconst 5, 1) := by decide +kernel
theorem dX12_tried_24 : decode cX12_tried 24 = .ok (.if_icmp .gt 11, 3) := by decide +kernel
theorem dX12_tried_27 : decode cX12_tried 27 = .ok (.iload_n 2, 1) := by decide +kernel
theorem dX12_tried_28 : decode cX12_tried 28 = .ok (.ifCond .ne 7, 3) := by decide +kernel
theorem dX12_tried_31 : decode cX12_tried 31 = .ok (.iconst 1, 1) := by decide +kernel
theorem dX12_tried_32 : decode cX12_tried 32 = .ok (.goto 4, 3) := by decide +kernel
theorem dX12_tried_35 : decode cX12_tried 35 = .ok (.iconst 0, 1) := by decide +kernel
theorem dX12_tried_36 : decode cX12_tried 36 = .ok (.istore 4, 2) := by decide +kernel
theorem dX12_tried_38 : decode cX12_tried 38 = .ok (.iload 4, 2) := by decide +kernel
theorem dX12_tried_40 : decode cX12_tried 40 = .ok (.ifCond .eq 13, 3) := by decide +kernel
theorem dX12_tried_43 : decode cX12_tried 43 = .ok (.iload_n 3, 1) := by decide +kernel
theorem dX12_tried_44 : decode cX12_tried 44 = .ok (.ifCond .lt 9, 3) := by decide +kernel
theorem dX12_tried_47 : decode cX12_tried 47 = .ok (.iload_n 3, 1) := by decide +kernel
theorem dX12_tried_48 : decode cX12_tried 48 = .ok (.bipush 99, 2) := by decide +kernel
theorem dX12_tried_50 : decode cX12_tried 50 = .ok (.if_icmp .le 5, 3) := by decide +kernel
theorem dX12_tried_53 : decode cX12_tried 53 = .ok (.iconst (-1), 1) := by decide +kernel
theorem dX12_tried_54 : decode cX12_tried 54 = .ok (.ireturn, 1) := by decide +kernel
theorem dX12_tried_55 : decode cX12_tried 55 = .ok (.aload_n 0, 1) := by decide +kernel
theorem dX12_tried_56 : decode cX12_tried 56 = .ok (.iload_n 1, 1) := by decide +kernel
theorem dX12_tried_57 : decode cX12_tried 57 = .ok (.putfield 352, 3) := by decide +kernel
theorem dX12_tried_60 : decode cX12_tried 60 = .ok (.aload_n 0, 1) := by decide +kernel
theorem dX12_tried_61 : decode cX12_tried 61 = .ok (.iload_n 2, 1) := by decide +kernel
theorem dX12_tried_62 : decode cX12_tried 62 = .ok (.putfield 99, 3) := by decide +kernel
theorem dX12_tried_65 : decode cX12_tried 65 = .ok (.aload_n 0, 1) := by decide +kernel
theorem dX12_tried_66 : decode cX12_tried 66 = .ok (.iconst 1, 1) := by decide +kernel
theorem dX12_tried_67 : decode cX12_tried 67 = .ok (.iconst 0, 1) := by decide +kernel
theorem dX12_tried_68 : decode cX12_tried 68 = .ok (.invokevirtual 417, 3) := by decide +kernel
theorem dX12_tried_71 : decode cX12_tried 71 = .ok (.iload_n 1, 1) := by decide +kernel
theorem dX12_tried_72 : decode cX12_tried 72 = .ok (.iconst 5, 1) := by decide +kernel
theorem dX12_tried_73 : decode cX12_tried 73 = .ok (.if_icmp .ne 11, 3) := by decide +kernel
theorem dX12_tried_76 : decode cX12_tried 76 = .ok (.aload_n 0, 1) := by decide +kernel
theorem dX12_tried_77 : decode cX12_tried 77 = .ok (.getfield 75, 3) := by decide +kernel
theorem dX12_tried_80 : decode cX12_tried 80 = .ok (.iconst 1, 1) := by decide +kernel
theorem dX12_tried_81 : decode cX12_tried 81 = .ok (.bipush 99, 2) := by decide +kernel
theorem dX12_tried_83 : decode cX12_tried 83 = .ok (.iastore, 1) := by decide +kernel
theorem dX12_tried_84 : decode cX12_tried 84 = .ok (.aload_n 0, 1) := by decide +kernel
theorem dX12_tried_85 : decode cX12_tried 85 = .ok (.iload_n 3, 1) := by decide +kernel
theorem dX12_tried_86 : decode cX12_tried 86 = .ok (.invokevirtual 423, 3) := by decide +kernel
theorem dX12_tried_89 : decode cX12_tried 89 = .ok (.aload_n 0, 1) := by decide +kernel
theorem dX12_tried_90 : decode cX12_tried 90 = .ok (.iconst 0, 1) := by decide +kernel
theorem dX12_tried_91 : decode cX12_tried 91 = .ok (.putfield 352, 3) := by decide +kernel
theorem dX12_tried_94 : decode cX12_tried 94 = .ok (.aload_n 0, 1) := by decide +kernel
theorem dX12_tried_95 : decode cX12_tried 95 = .ok (.iconst (-1), 1) := by decide +kernel
theorem dX12_tried_96 : decode cX12_tried 96 = .ok (.putfield 99, 3) := by decide +kernel
theorem dX12_tried_99 : decode cX12_tried 99 = .ok (.aload_n 0, 1) := by decide +kernel
theorem dX12_tried_100 : decode cX12_tried 100 = .ok (.iconst 1, 1) := by decide +kernel
theorem dX12_tried_101 : decode cX12_tried 101 = .ok (.invokevirtual 429, 3) := by decide +kernel
theorem dX12_tried_104 : decode cX12_tried 104 = .ok (.aload_n 0, 1) := by decide +kernel
theorem dX12_tried_105 : decode cX12_tried 105 = .ok (.iconst 0, 1) := by decide +kernel
theorem dX12_tried_106 : decode cX12_tried 106 = .ok (.invokevirtual 429, 3) := by decide +kernel
theorem dX12_tried_109 : decode cX12_tried 109 = .ok (.isub, 1) := by decide +kernel
theorem dX12_tried_110 : decode cX12_tried 110 = .ok (.ireturn, 1) := by decide +kernel
theorem dX12_undo_0 : decode cX12_undo 0 = .ok (.aload_n 0, 1) := by decide +kernel
theorem dX12_undo_1 : decode cX12_undo 1 = .ok (.iconst 0, 1) := by decide +kernel
theorem dX12_undo_2 : decode cX12_undo 2 = .ok (.putfield 145, 3) := by decide +kernel
theorem dX12_undo_5 : decode cX12_undo 5 = .ok (.aload_n 0, 1) := by decide +kernel
theorem dX12_undo_6 : decode cX12_undo 6 = .ok (.getfield 302, 3) := by decide +kernel
theorem dX12_undo_9 : decode cX12_undo 9 = .ok (.ifCond .ne 5, 3) := by decide +kernel
theorem dX12_undo_12 : decode cX12_undo 12 = .ok (.iconst (-1), 1) := by decide +kernel
theorem dX12_undo_13 : decode cX12_undo 13 = .ok (.ireturn, 1) := by decide +kernel
theorem dX12_undo_14 : decode cX12_undo 14 = .ok (.aload_n 0, 1) := by decide +kernel
theorem dX12_undo_15 : decode cX12_undo 15 = .ok (.dup, 1) := by decide +kernel
theorem dX12_undo_16 : decode cX12_undo 16 = .ok (.getfield 302, 3) := by decide +kernel
theorem dX12_undo_19 : decode cX12_undo 19 = .ok (.iconst 1, 1) := by decide +kernel
theorem dX12_undo_20 : decode cX12_undo 20 = .ok (.isub, 1) := by decide +kernel
theorem dX12_undo_21 : decode cX12_undo 21 = .ok (.putfield 302, 3) := by decide +kernel
theorem dX12_undo_24 : decode cX12_undo 24 = .ok (.aload_n 0, 1) := by decide +kernel
theorem dX12_undo_25 : decode cX12_undo 25 = .ok (.iconst 0, 1) := by decide +kernel
theorem dX12_undo_26 : decode cX12_undo 26 = .ok (.iconst 3, 1) := by decide +kernel
theorem dX12_undo_27 : decode cX12_undo 27 = .ok (.aload_n 0, 1) := by decide +kernel
theorem dX12_undo_28 : decode cX12_undo 28 = .ok (.getfield 302, 3) := by decide +kernel
theorem dX12_undo_31 : decode cX12_undo 31 = .ok (.iadd, 1) := by decide +kernel
theorem dX12_undo_32 : decode cX12_undo 32 = .ok (.invokevirtual 417, 3) := by decide +kernel
theorem dX12_undo_35 : decode cX12_undo 35 = .ok (.aload_n 0, 1) := by decide +kernel
theorem dX12_undo_36 : decode cX12_undo 36 = .ok (.getfield 302, 3) := by decide +kernel
theorem dX12_undo_39 : decode cX12_undo 39 = .ok (.ireturn, 1) := by decide +kernel
theorem dX12_keep_0 : decode cX12_keep 0 = .ok (.aload_n 0, 1) := by decide +kernel
theorem dX12_keep_1 : decode cX12_keep 1 = .ok (.iconst 0, 1) := by decide +kernel
theorem dX12_keep_2 : decode cX12_keep 2 = .ok (.putfield 145, 3) := by decide +kernel
theorem dX12_keep_5 : decode cX12_keep 5 = .ok (.aload_n 0, 1) := by decide +kernel
theorem dX12_keep_6 : decode cX12_keep 6 = .ok (.iconst 2, 1) := by decide +kernel
theorem dX12_keep_7 : decode cX12_keep 7 = .ok (.iconst 0, 1) := by decide +kernel
theorem dX12_keep_8 : decode cX12_keep 8 = .ok (.invokevirtual 417, 3) := by decide +kernel
theorem dX12_keep_11 : decode cX12_keep 11 = .ok (.aload_n 0, 1) := by decide +kernel
theorem dX12_keep_12 : decode cX12_keep 12 = .ok (.iconst 1, 1) := by decide +kernel
theorem dX12_keep_13 : decode cX12_keep 13 = .ok (.putfield 298, 3) := by decide +kernel
theorem dX12_keep_16 : decode cX12_keep 16 = .ok (.aload_n 0, 1) := by decide +kernel
theorem dX12_keep_17 : decode cX12_keep 17 = .ok (.getfield 72, 3) := by decide +kernel
theorem dX12_keep_20 : decode cX12_keep 20 = .ok (.iconst 0, 1) := by decide +kernel
theorem dX12_keep_21 : decode cX12_keep 21 = .ok (.iaload, 1) := by decide +kernel
theorem dX12_keep_22 : decode cX12_keep 22 = .ok (.ireturn, 1) := by decide +kernel
theorem dX12_back_0 : decode cX12_back 0 = .ok (.aload_n 0, 1) := by decide +kernel
theorem dX12_back_1 : decode cX12_back 1 = .ok (.iconst 0, 1) := by decide +kernel
theorem dX12_back_2 : decode cX12_back 2 = .ok (.putfield 145, 3) := by decide +kernel
theorem dX12_back_5 : decode cX12_back 5 = .ok (.aload_n 0, 1) := by decide +kernel
theorem dX12_back_6 : decode cX12_back 6 = .ok (.getfield 298, 3) := by decide +kernel
theorem dX12_back_9 : decode cX12_back 9 = .ok (.ifCond .ne 5, 3) := by decide +kernel
theorem dX12_back_12 : decode cX12_back 12 = .ok (.iconst (-1), 1) := by decide +kernel
theorem dX12_back_13 : decode cX12_back 13 = .ok (.ireturn, 1) := by decide +kernel
theorem dX12_back_14 : decode cX12_back 14 = .ok (.aload_n 0, 1) := by decide +kernel
theorem dX12_back_15 : decode cX12_back 15 = .ok (.iconst 0, 1) := by decide +kernel
theorem dX12_back_16 : decode cX12_back 16 = .ok (.iconst 2, 1) := by decide +kernel
theorem dX12_back_17 : decode cX12_back 17 = .ok (.invokevirtual 417, 3) := by decide +kernel
theorem dX12_back_20 : decode cX12_back 20 = .ok (.aload_n 0, 1) := by decide +kernel
theorem dX12_back_21 : decode cX12_back 21 = .ok (.iconst 0, 1) := by decide +kernel
theorem dX12_back_22 : decode cX12_back 22 = .ok (.putfield 302, 3) := by decide +kernel
theorem dX12_back_25 : decode cX12_back 25 = .ok (.aload_n 0, 1) := by decide +kernel
theorem dX12_back_26 : decode cX12_back 26 = .ok (.getfield 72, 3) := by decide +kernel
theorem dX12_back_29 : decode cX12_back 29 = .ok (.iconst 0, 1) := by decide +kernel
theorem dX12_back_30 : decode cX12_back 30 = .ok (.iaload, 1) := by decide +kernel
theorem dX12_back_31 : decode cX12_back 31 = .ok (.ireturn, 1) := by decide +kernel
theorem dX12_mouseAll_0 : decode cX12_mouseAll 0 = .ok (.iconst 0, 1) := by decide +kernel
theorem dX12_mouseAll_1 : decode cX12_mouseAll 1 = .ok (.istore_n 1, 1) := by decide +kernel
theorem dX12_mouseAll_2 : decode cX12_mouseAll 2 = .ok (.iconst 0, 1) := by decide +kernel
theorem dX12_mouseAll_3 : decode cX12_mouseAll 3 = .ok (.istore_n 2, 1) := by decide +kernel
theorem dX12_mouseAll_4 : decode cX12_mouseAll 4 = .ok (.iload_n 2, 1) := by decide +kernel
theorem dX12_mouseAll_5 : decode cX12_mouseAll 5 = .ok (.aload_n 0, 1) := by decide +kernel
theorem dX12_mouseAll_6 : decode cX12_mouseAll 6 = .ok (.getfield 13, 3) := by decide +kernel
theorem dX12_mouseAll_9 : decode cX12_mouseAll 9 = .ok (.iconst 2, 1) := by decide +kernel
theorem dX12_mouseAll_10 : decode cX12_mouseAll 10 = .ok (.iaload, 1) := by decide +kernel
theorem dX12_mouseAll_11 : decode cX12_mouseAll 11 = .ok (.if_icmp .ge 37, 3) := by decide +kernel
theorem dX12_mouseAll_14 : decode cX12_mouseAll 14 = .ok (.iload_n 1, 1) := by decide +kernel
theorem dX12_mouseAll_15 : decode cX12_mouseAll 15 = .ok (.aload_n 0, 1) := by decide +kernel
theorem dX12_mouseAll_16 : decode cX12_mouseAll 16 = .ok (.getfield 96, 3) := by decide +kernel
theorem dX12_mouseAll_19 : decode cX12_mouseAll 19 = .ok (.iload_n 2, 1) := by decide +kernel
theorem dX12_mouseAll_20 : decode cX12_mouseAll 20 = .ok (.iaload, 1) := by decide +kernel
theorem dX12_mouseAll_21 : decode cX12_mouseAll 21 = .ok (.iconst 3, 1) := by decide +kernel
theorem dX12_mouseAll_22 : decode cX12_mouseAll 22 = .ok (.if_icmp .ne 17, 3) := by decide +kernel
theorem dX12_mouseAll_25 : decode cX12_mouseAll 25 = .ok (.aload_n 0, 1) := by decide +kernel
theorem dX12_mouseAll_26 : decode cX12_mouseAll 26 = .ok (.getfield 31, 3) := by decide +kernel
theorem dX12_mouseAll_29 : decode cX12_mouseAll 29 = .ok (.aload_n 0, 1) := by decide +kernel
theorem dX12_mouseAll_30 : decode cX12_mouseAll 30 = .ok (.getfield 43, 3) := by decide +kernel
theorem dX12_mouseAll_33 : decode cX12_mouseAll 33 = .ok (.iload_n 2, 1) := by decide +kernel
theorem dX12_mouseAll_34 : decode cX12_mouseAll 34 = .ok (.iaload, 1) := by decide +kernel
theorem dX12_mouseAll_35 : decode cX12_mouseAll 35 = .ok (.iaload, 1) := by decide +kernel
theorem dX12_mouseAll_36 : decode cX12_mouseAll 36 = .ok (.goto 4, 3) := by decide +kernel
theorem dX12_mouseAll_39 : decode cX12_mouseAll 39 = .ok (.iconst 0, 1) := by decide +kernel
theorem dX12_mouseAll_40 : decode cX12_mouseAll 40 = .ok (.iadd, 1) := by decide +kernel
theorem dX12_mouseAll_41 : decode cX12_mouseAll 41 = .ok (.istore_n 1, 1) := by decide +kernel
theorem dX12_mouseAll_42 : decode cX12_mouseAll 42 = .ok (.iinc 2 1, 3) := by decide +kernel
theorem dX12_mouseAll_45 : decode cX12_mouseAll 45 = .ok (.goto (-41), 3) := by decide +kernel
theorem dX12_mouseAll_48 : decode cX12_mouseAll 48 = .ok (.iload_n 1, 1) := by decide +kernel
theorem dX12_mouseAll_49 : decode cX12_mouseAll 49 = .ok (.ireturn, 1) := by decide +kernel
theorem dX12_count_0 : decode cX12_count 0 = .ok (.aload_n 0, 1) := by decide +kernel
theorem dX12_count_1 : decode cX12_count 1 = .ok (.iconst 0, 1) := by decide +kernel
theorem dX12_count_2 : decode cX12_count 2 = .ok (.putfield 145, 3) := by decide +kernel
theorem dX12_count_5 : decode cX12_count 5 = .ok (.iload_n 1, 1) := by decide +kernel
theorem dX12_count_6 : decode cX12_count 6 = .ok (.tableswitch 182 0 15 #[78, 85, 92, 99, 107, 114, 121, 128, 135, 142, 149, 155, 160, 167, 172, 177], 78) := by decide +kernel
theorem dX12_count_84 : decode cX12_count 84 = .ok (.aload_n 0, 1) := by decide +kernel
theorem dX12_count_85 : decode cX12_count 85 = .ok (.getfield 13, 3) := by decide +kernel
theorem dX12_count_88 : decode cX12_count 88 = .ok (.iconst 0, 1) := by decide +kernel
theorem dX12_count_89 : decode cX12_count 89 = .ok (.iaload, 1) := by decide +kernel
theorem dX12_count_90 : decode cX12_count 90 = .ok (.ireturn, 1) := by decide +kernel
theorem dX12_count_91 : decode cX12_count 91 = .ok (.aload_n 0, 1) := by decide +kernel
theorem dX12_count_92 : decode cX12_count 92 = .ok (.getfield 13, 3) := by decide +kernel
theorem dX12_count_95 : decode cX12_count 95 = .ok (.iconst 1, 1) := by decide +kernel
theorem dX12_count_96 : decode cX12_count 96 = .ok (.iaload, 1) := by decide +kernel
theorem dX12_count_97 : decode cX12_count 97 = .ok (.ireturn, 1) := by decide +kernel
theorem dX12_count_98 : decode cX12_count 98 = .ok (.aload_n 0, 1) := by decide +kernel
theorem dX12_count_99 : decode cX12_count 99 = .ok (.getfield 13, 3) := by decide +kernel
theorem dX12_count_102 : decode cX12_count 102 = .ok (.iconst 2, 1) := by decide +kernel
theorem dX12_count_103 : decode cX12_count 103 = .ok (.iaload, 1) := by decide +kernel
theorem dX12_count_104 : decode cX12_count 104 = .ok (.ireturn, 1) := by decide +kernel
theorem dX12_count_105 : decode cX12_count 105 = .ok (.aload_n 0, 1) := by decide +kernel
theorem dX12_count_106 : decode cX12_count 106 = .ok (.getfield 13, 3) := by decide +kernel
theorem dX12_count_109 : decode cX12_count 109 = .ok (.bipush 6, 2) := by decide +kernel
theorem dX12_count_111 : decode cX12_count 111 = .ok (.iaload, 1) := by decide +kernel
theorem dX12_count_112 : decode cX12_count 112 = .ok (.ireturn, 1) := by decide +kernel
theorem dX12_count_113 : decode cX12_count 113 = .ok (.aload_n 0, 1) := by decide +kernel
theorem dX12_count_114 : decode cX12_count 114 = .ok (.getfield 72, 3) := by decide +kernel
theorem dX12_count_117 : decode cX12_count 117 = .ok (.iconst 0, 1) := by decide +kernel
theorem dX12_count_118 : decode cX12_count 118 = .ok (.iaload, 1) := by decide +kernel
theorem dX12_count_119 : decode cX12_count 119 = .ok (.ireturn, 1) := by decide +kernel
theorem dX12_count_120 : decode cX12_count 120 = .ok (.aload_n 0, 1) := by decide +kernel
theorem dX12_count_121 : decode cX12_count 121 = .ok (.getfield 75, 3) := by decide +kernel
theorem dX12_count_124 : decode cX12_count 124 = .ok (.iconst 0, 1) := by decide +kernel
theorem dX12_count_125 : decode cX12_count 125 = .ok (.iaload, 1) := by decide +kernel
theorem dX12_count_126 : decode cX12_count 126 = .ok (.ireturn, 1) := by decide +kernel
theorem dX12_count_127 : decode cX12_count 127 = .ok (.aload_n 0, 1) := by decide +kernel
theorem dX12_count_128 : decode cX12_count 128 = .ok (.iconst 0, 1) := by decide +kernel
theorem dX12_count_129 : decode cX12_count 129 = .ok (.iconst 0, 1) := by decide +kernel
theorem dX12_count_130 : decode cX12_count 130 = .ok (.invokevirtual 426, 3) := by decide +kernel
theorem dX12_count_133 : decode cX12_count 133 = .ok (.ireturn, 1) := by decide +kernel
theorem dX12_count_134 : decode cX12_count 134 = .ok (.aload_n 0, 1) := by decide +kernel
theorem dX12_count_135 : decode cX12_count 135 = .ok (.iconst 0, 1) := by decide +kernel
theorem dX12_count_136 : decode cX12_count 136 = .ok (.iconst 1, 1) := by decide +kernel
theorem dX12_count_137 : decode cX12_count 137 = .ok (.invokevirtual 426, 3) := by decide +kernel
theorem dX12_count_140 : decode cX12_count 140 = .ok (.ireturn, 1) := by decide +kernel
theorem dX12_count_141 : decode cX12_count 141 = .ok (.aload_n 0, 1) := by decide +kernel
theorem dX12_count_142 : decode cX12_count 142 = .ok (.iconst 0, 1) := by decide +kernel
theorem dX12_count_143 : decode cX12_count 143 = .ok (.iconst 2, 1) := by decide +kernel
theorem dX12_count_144 : decode cX12_count 144 = .ok (.invokevirtual 426, 3) := by decide +kernel
theorem dX12_count_147 : decode cX12_count 147 = .ok (.ireturn, 1) := by decide +kernel
theorem dX12_count_148 : decode cX12_count 148 = .ok (.aload_n 0, 1) := by decide +kernel
theorem dX12_count_149 : decode cX12_count 149 = .ok (.iconst 0, 1) := by decide +kernel
theorem dX12_count_150 : decode cX12_count 150 = .ok (.iconst 3, 1) := by decide +kernel
theorem dX12_count_151 : decode cX12_count 151 = .ok (.invokevirtual 426, 3) := by decide +kernel
theorem dX12_count_154 : decode cX12_count 154 = .ok (.ireturn, 1) := by decide +kernel
theorem dX12_count_155 : decode cX12_count 155 = .ok (.aload_n 0, 1) := by decide +kernel
theorem dX12_count_156 : decode cX12_count 156 = .ok (.iconst 0, 1) := by decide +kernel
theorem dX12_count_157 : decode cX12_count 157 = .ok (.invokevirtual 429, 3) := by decide +kernel
theorem dX12_count_160 : decode cX12_count 160 = .ok (.ireturn, 1) := by decide +kernel
theorem dX12_count_161 : decode cX12_count 161 = .ok (.aload_n 0, 1) := by decide +kernel
theorem dX12_count_162 : decode cX12_count 162 = .ok (.invokevirtual 483, 3) := by decide +kernel
theorem dX12_count_165 : decode cX12_count 165 = .ok (.ireturn, 1) := by decide +kernel
theorem dX12_count_166 : decode cX12_count 166 = .ok (.aload_n 0, 1) := by decide +kernel
theorem dX12_count_167 : decode cX12_count 167 = .ok (.getfield 81, 3) := by decide +kernel
theorem dX12_count_170 : decode cX12_count 170 = .ok (.iconst 0, 1) := by decide +kernel
theorem dX12_count_171 : decode cX12_count 171 = .ok (.iaload, 1) := by decide +kernel
theorem dX12_count_172 : decode cX12_count 172 = .ok (.ireturn, 1) := by decide +kernel
theorem dX12_count_173 : decode cX12_count 173 = .ok (.aload_n 0, 1) := by decide +kernel
theorem dX12_count_174 : decode cX12_count 174 = .ok (.getfield 295, 3) := by decide +kernel
theorem dX12_count_177 : decode cX12_count 177 = .ok (.ireturn, 1) := by decide +kernel
theorem dX12_count_178 : decode cX12_count 178 = .ok (.aload_n 0, 1) := by decide +kernel
theorem dX12_count_179 : decode cX12_count 179 = .ok (.invokevirtual 477, 3) := by decide +kernel
theorem dX12_count_182 : decode cX12_count 182 = .ok (.ireturn, 1) := by decide +kernel
theorem dX12_count_183 : decode cX12_count 183 = .ok (.aload_n 0, 1) := by decide +kernel
theorem dX12_count_184 : decode cX12_count 184 = .ok (.getfield 302, 3) := by decide +kernel
theorem dX12_count_187 : decode cX12_count 187 = .ok (.ireturn, 1) := by decide +kernel
theorem dX12_count_188 : decode cX12_count 188 = .ok (.iconst (-1), 1) := by decide +kernel
theorem dX12_count_189 : decode cX12_count 189 = .ok (.ireturn, 1) := by decide +kernel
def wp_X12_known (x1 : Int32) (h : ck_H) (Q : Int32 → ck_H → Prop) : Prop := (∀ h1, h1 = ck_sI h 0 0 (0 : Int32) → ((x1 < (-1 : Int32) → Q (0 : Int32) h1) ∧ (¬ x1 < (-1 : Int32) → ((x1 ≤ (h1.1 0 62) → (∀ h4, h4 = ck_sI h1 0 63 x1 → Q (1 : Int32) h4)) ∧ (¬ x1 ≤ (h1.1 0 62) → Q (0 : Int32) h1)))))
set_option maxHeartbeats 4000000 in
set_option maxRecDepth 100000 in
theorem c_X12_known {gr : Bool} {x1 : Int32} {h : ck_H} {Q : Int32 → ck_H → Prop} (hq : wp_X12_known x1 h Q) : ck_M yX12_known cX12_known 2 (some .boolean) 2 0 0 gr ck_shM h [.ref 0, .int x1] (ck_Qi ck_shM Q) := by
  refine ck_entry (lv := [(0, .ref 0), (1, .int x1)]) false (own := RX12) rfl (fun q => by cases q) (by decide) (Nat.le_of_ble_eq_true rfl) rfl ?_
  refine ck_aload_n 0 dX12_known_0 rfl rfl ?_
  refine ck_iconst (v := 0) dX12_known_1 (by decide) ?_
  refine ck_putI clX12 0 rfl rfl (by decide) fl_X12_145 rfl rfl rfl dX12_known_2 ?_
  refine ck_nmH (fun h1 eh1 => ?_)
  have hq := hq h1 eh1
  refine ck_iload_n 1 dX12_known_5 rfl rfl ?_
  refine ck_iconst (v := -1) dX12_known_6 (by decide) ?_
  refine ck_icmp_lt (tgt := 18) dX12_known_7 (by decide) (fun c2 => ?_) (fun c2 => ?_)
  · have hq := hq.1 c2
    refine ck_iconst (v := 0) dX12_known_18 (by decide) ?_
    exact ck_iret rfl (by decide) rfl rfl dX12_known_19 ⟨_, rfl, rfl, hq⟩
  · have hq := hq.2 c2
    refine ck_iload_n 1 dX12_known_10 rfl rfl ?_
    refine ck_aload_n 0 dX12_known_11 rfl rfl ?_
    refine ck_getI clX12 62 rfl rfl (by decide) fl_X12_295 dX12_known_12 ?_
    refine ck_icmp_le (tgt := 20) dX12_known_15 (by decide) (fun c3 => ?_) (fun c3 => ?_)
    · have hq := hq.1 c3
      refine ck_aload_n 0 dX12_known_20 rfl rfl ?_
      refine ck_iload_n 1 dX12_known_21 rfl rfl ?_
      refine ck_putI clX12 63 rfl rfl (by decide) fl_X12_123 rfl rfl rfl dX12_known_22 ?_
      refine ck_nmH (fun h4 eh4 => ?_)
      have hq := hq h4 eh4
      refine ck_iconst (v := 1) dX12_known_25 (by decide) ?_
      exact ck_iret rfl (by decide) rfl rfl dX12_known_26 ⟨_, rfl, rfl, hq⟩
    · have hq := hq.2 c3
      refine ck_iconst (v := 0) dX12_known_18 (by decide) ?_
      exact ck_iret rfl (by decide) rfl rfl dX12_known_19 ⟨_, rfl, rfl, hq⟩
def wp_X12_knownMany (h : ck_H) (Q : Int32 → ck_H → Prop) : Prop := ((¬ (h.1 0 63) = (-1 : Int32) → Q (h.1 0 63) h) ∧ ((h.1 0 63) = (-1 : Int32) → Q (h.1 0 62) h))
set_option maxHeartbeats 4000000 in
set_option maxRecDepth 100000 in
theorem c_X12_knownMany {gr : Bool} {h : ck_H} {Q : Int32 → ck_H → Prop} (hq : wp_X12_knownMany h Q) : ck_M yX12_knownMany cX12_knownMany 1 (some .int) 2 0 0 gr ck_shM h [.ref 0] (ck_Qi ck_shM Q) := by
  refine ck_entry (lv := [(0, .ref 0)]) false (own := RX12) rfl (fun q => by cases q) (by decide) (Nat.le_of_ble_eq_true rfl) rfl ?_
  refine ck_aload_n 0 dX12_knownMany_0 rfl rfl ?_
  refine ck_getI clX12 63 rfl rfl (by decide) fl_X12_123 dX12_knownMany_1 ?_
  refine ck_iconst (v := -1) dX12_knownMany_4 (by decide) ?_
  refine ck_icmp_ne (tgt := 15) dX12_knownMany_5 (by decide) (fun c1 => ?_) (fun c1 => ?_)
  · have hq := hq.1 c1
    refine ck_aload_n 0 dX12_knownMany_15 rfl rfl ?_
    refine ck_getI clX12 63 rfl rfl (by decide) fl_X12_123 dX12_knownMany_16 ?_
    exact ck_iret rfl rfl rfl rfl dX12_knownMany_19 ⟨_, rfl, rfl, hq⟩
  · have hq := hq.2 c1
    refine ck_aload_n 0 dX12_knownMany_8 rfl rfl ?_
    refine ck_getI clX12 62 rfl rfl (by decide) fl_X12_295 dX12_knownMany_9 ?_
    refine ck_goto (tgt := 19) dX12_knownMany_12 (by decide) ?_
    exact ck_iret rfl rfl rfl rfl dX12_knownMany_19 ⟨_, rfl, rfl, hq⟩
def wp_X12_fitsLever_83 (Q : Int32 → ck_H → Prop) (Kc : Int32 → ck_H → Prop) (x2 : Int32) (h : ck_H) : Prop := (∀ v8, v8 = x2 + 1 → Kc v8 h)
def wp_X12_fitsLever_72 (Q : Int32 → ck_H → Prop) (Kc : Int32 → ck_H → Prop) (x2 : Int32) (y0 : Int32) (h : ck_H) : Prop := (vp_in x2 24 ∧ ((y0 = (h.1 37 x2.toNatClampNeg) → wp_X12_fitsLever_83 Q Kc x2 h) ∧ (¬ y0 = (h.1 37 x2.toNatClampNeg) → Q (0 : Int32) h)))
def wp_X12_fitsLever_14 (Q : Int32 → ck_H → Prop) : Nat → Int32 → ck_H → Prop
  | 0 => fun _ _ => False
  | n + 1 => fun x2 h => (wp_X12_knownMany h (fun r4 h3 => ((r4 ≤ x2 → Q (1 : Int32) h3) ∧ (¬ r4 ≤ x2 → (vp_in x2 24 ∧ ((¬ (h3.1 39 x2.toNatClampNeg) = 0 → wp_X12_fitsLever_83 Q (wp_X12_fitsLever_14 Q n) x2 h3) ∧ ((h3.1 39 x2.toNatClampNeg) = 0 → (vp_in x2 24 ∧ (((h3.1 38 x2.toNatClampNeg) = (-1 : Int32) → (vp_in x2 24 ∧ (vp_in ((10 : Int32) + (h3.1 35 x2.toNatClampNeg)) 230 ∧ (vp_in x2 24 ∧ ((¬ (h3.1 28 ((10 : Int32) + (h3.1 35 x2.toNatClampNeg)).toNatClampNeg) = (h3.1 36 x2.toNatClampNeg) → wp_X12_fitsLever_72 Q (wp_X12_fitsLever_14 Q n) x2 (0 : Int32) h3) ∧ ((h3.1 28 ((10 : Int32) + (h3.1 35 x2.toNatClampNeg)).toNatClampNeg) = (h3.1 36 x2.toNatClampNeg) → wp_X12_fitsLever_72 Q (wp_X12_fitsLever_14 Q n) x2 (1 : Int32) h3)))))) ∧ (¬ (h3.1 38 x2.toNatClampNeg) = (-1 : Int32) → wp_X12_fitsLever_83 Q (wp_X12_fitsLever_14 Q n) x2 h3))))))))))
def wp_X12_fitsLever (x1 : Int32) (h : ck_H) (Q : Int32 → ck_H → Prop) : Prop := (wp_X12_starts (1 : Int32) h (fun h1 => (wp_X12_goesOn (x1 + (1 : Int32)) h1 (fun h2 => wp_X12_fitsLever_14 Q lpN (0 : Int32) h2))))
set_option maxHeartbeats 4000000 in
set_option maxRecDepth 100000 in
theorem cp_X12_fitsLever_83 {gr : Bool} {Q : Int32 → ck_H → Prop} {Kc : Int32 → ck_H → Prop} (hKc : ∀ (x2 : Int32) (h : ck_H), Kc x2 h → ck_W cX12_fitsLever 3 RX12 (some .boolean) 12 0 0 false gr (ck_Qi ck_shM Q) ck_shM h 0 0 14 [(0, .ref 0), (2, .int x2)] []) : ∀ (x2 : Int32) (h : ck_H), wp_X12_fitsLever_83 Q Kc x2 h → ck_W cX12_fitsLever 3 RX12 (some .boolean) 12 0 0 false gr (ck_Qi ck_shM Q) ck_shM h 0 0 83 [(0, .ref 0), (2, .int x2)] [] := by
  intro x2 h hq
  obtain ⟨v8, ev8⟩ : ∃ z : Int32, z = x2 + 1 := ⟨_, rfl⟩
  have hq := hq v8 ev8
  refine ck_iinc (v := v8) (lv' := [(2, .int v8), (0, .ref 0)]) 1 dX12_fitsLever_83 rfl (by rw [ev8]; rfl) (by decide) rfl ?_
  refine ck_goto (tgt := 14) dX12_fitsLever_86 (by decide) ?_
  refine ck_loc [1, 0] rfl ?_
  exact hKc _ _ hq
set_option maxHeartbeats 4000000 in
set_option maxRecDepth 100000 in
theorem cp_X12_fitsLever_72 {gr : Bool} {Q : Int32 → ck_H → Prop} {Kc : Int32 → ck_H → Prop} (hKc : ∀ (x2 : Int32) (h : ck_H), Kc x2 h → ck_W cX12_fitsLever 3 RX12 (some .boolean) 12 0 0 false gr (ck_Qi ck_shM Q) ck_shM h 0 0 14 [(0, .ref 0), (2, .int x2)] []) : ∀ (x2 : Int32) (y0 : Int32) (h : ck_H), wp_X12_fitsLever_72 Q Kc x2 y0 h → ck_W cX12_fitsLever 3 RX12 (some .boolean) 12 0 0 false gr (ck_Qi ck_shM Q) ck_shM h 0 0 72 [(0, .ref 0), (2, .int x2)] [.int y0] := by
  intro x2 y0 h hq
  refine ck_aload_n 0 dX12_fitsLever_72 rfl rfl ?_
  refine ck_getR clX12 66 rfl rfl (by decide) fl_X12_132 dX12_fitsLever_73 ?_
  refine ck_iload_n 1 dX12_fitsLever_76 rfl rfl ?_
  obtain ⟨b15, hq⟩ := hq
  refine ck_zald rfl rfl b15 dX12_fitsLever_77 ?_
  refine ck_icmp_eq (tgt := 83) dX12_fitsLever_78 (by decide) (fun c16 => ?_) (fun c16 => ?_)
  · have hq := hq.1 c16
    exact cp_X12_fitsLever_83 hKc _ _ hq
  · have hq := hq.2 c16
    refine ck_iconst (v := 0) dX12_fitsLever_81 (by decide) ?_
    exact ck_iret rfl (by decide) rfl rfl dX12_fitsLever_82 ⟨_, rfl, rfl, hq⟩
set_option maxHeartbeats 4000000 in
set_option maxRecDepth 100000 in
theorem cp_X12_fitsLever_14 {gr : Bool} {Q : Int32 → ck_H → Prop} : ∀ (n : Nat) (x2 : Int32) (h : ck_H), wp_X12_fitsLever_14 Q n x2 h → ck_W cX12_fitsLever 3 RX12 (some .boolean) 12 0 0 false gr (ck_Qi ck_shM Q) ck_shM h 0 0 14 [(0, .ref 0), (2, .int x2)] [] := by
  intro n
  induction n with
  | zero => intro x2 h hq; exact hq.elim
  | succ n hKc =>
    intro x2 h hq
    unfold wp_X12_fitsLever_14 at hq
    refine ck_iload_n 1 dX12_fitsLever_14 rfl rfl ?_
    refine ck_aload_n 0 dX12_fitsLever_15 rfl rfl ?_
    refine ck_callV (c_X12_knownMany hq) rfl cal_X12_knownMany rfl ml_X12_477 vir_X12_knownMany rfl rfl (by decide) (Nat.le_of_ble_eq_true rfl) (Nat.le_of_ble_eq_true rfl) (by decide) (by decide) dX12_fitsLever_16 ?_
    rintro _ _ h3 ⟨r4, rfl, rfl, hq⟩
    refine ck_icmp_ge (tgt := 89) dX12_fitsLever_19 (by decide) (fun c5 => ?_) (fun c5 => ?_)
    · have hq := hq.1 c5
      refine ck_iconst (v := 1) dX12_fitsLever_89 (by decide) ?_
      exact ck_iret rfl (by decide) rfl rfl dX12_fitsLever_90 ⟨_, rfl, rfl, hq⟩
    · have hq := hq.2 c5
      refine ck_aload_n 0 dX12_fitsLever_22 rfl rfl ?_
      refine ck_getR clX12 68 rfl rfl (by decide) fl_X12_139 dX12_fitsLever_23 ?_
      refine ck_iload_n 1 dX12_fitsLever_26 rfl rfl ?_
      obtain ⟨b6, hq⟩ := hq
      refine ck_zald rfl rfl b6 dX12_fitsLever_27 ?_
      refine ck_if_ne (tgt := 83) dX12_fitsLever_28 (by decide) (fun c7 => ?_) (fun c7 => ?_)
      · have hq := hq.1 c7
        exact cp_X12_fitsLever_83 hKc _ _ hq
      · have hq := hq.2 c7
        refine ck_aload_n 0 dX12_fitsLever_31 rfl rfl ?_
        refine ck_getR clX12 67 rfl rfl (by decide) fl_X12_136 dX12_fitsLever_32 ?_
        refine ck_iload_n 1 dX12_fitsLever_35 rfl rfl ?_
        obtain ⟨b9, hq⟩ := hq
        refine ck_iald rfl rfl b9 dX12_fitsLever_36 ?_
        refine ck_iconst (v := -1) dX12_fitsLever_37 (by decide) ?_
        refine ck_icmp_eq (tgt := 44) dX12_fitsLever_38 (by decide) (fun c10 => ?_) (fun c10 => ?_)
        · have hq := hq.1 c10
          refine ck_aload_n 0 dX12_fitsLever_44 rfl rfl ?_
          refine ck_getR clX12 43 rfl rfl (by decide) fl_X12_96 dX12_fitsLever_45 ?_
          refine ck_bipush (v := 10) dX12_fitsLever_48 (by decide) ?_
          refine ck_aload_n 0 dX12_fitsLever_50 rfl rfl ?_
          refine ck_getR clX12 64 rfl rfl (by decide) fl_X12_126 dX12_fitsLever_51 ?_
          refine ck_iload_n 1 dX12_fitsLever_54 rfl rfl ?_
          obtain ⟨b11, hq⟩ := hq
          refine ck_iald rfl rfl b11 dX12_fitsLever_55 ?_
          refine ck_iadd dX12_fitsLever_56 ?_
          obtain ⟨b12, hq⟩ := hq
          refine ck_iald rfl rfl b12 dX12_fitsLever_57 ?_
          refine ck_aload_n 0 dX12_fitsLever_58 rfl rfl ?_
          refine ck_getR clX12 65 rfl rfl (by decide) fl_X12_129 dX12_fitsLever_59 ?_
          refine ck_iload_n 1 dX12_fitsLever_62 rfl rfl ?_
          obtain ⟨b13, hq⟩ := hq
          refine ck_iald rfl rfl b13 dX12_fitsLever_63 ?_
          refine ck_icmp_ne (tgt := 71) dX12_fitsLever_64 (by decide) (fun c14 => ?_) (fun c14 => ?_)
          · have hq := hq.1 c14
            refine ck_iconst (v := 0) dX12_fitsLever_71 (by decide) ?_
            exact cp_X12_fitsLever_72 hKc _ _ _ hq
          · have hq := hq.2 c14
            refine ck_iconst (v := 1) dX12_fitsLever_67 (by decide) ?_
            refine ck_goto (tgt := 72) dX12_fitsLever_68 (by decide) ?_
            exact cp_X12_fitsLever_72 hKc _ _ _ hq
        · have hq := hq.2 c10
          refine ck_goto (tgt := 83) dX12_fitsLever_41 (by decide) ?_
          exact cp_X12_fitsLever_83 hKc _ _ hq
set_option maxHeartbeats 4000000 in
set_option maxRecDepth 100000 in
theorem c_X12_fitsLever {gr : Bool} {x1 : Int32} {h : ck_H} {Q : Int32 → ck_H → Prop} (hq : wp_X12_fitsLever x1 h Q) : ck_M yX12_fitsLever cX12_fitsLever 3 (some .boolean) 12 0 0 gr ck_shM h [.ref 0, .int x1] (ck_Qi ck_shM Q) := by
  refine ck_entry (lv := [(0, .ref 0), (1, .int x1)]) false (own := RX12) rfl (fun q => by cases q) (by decide) (Nat.le_of_ble_eq_true rfl) rfl ?_
  refine ck_aload_n 0 dX12_fitsLever_0 rfl rfl ?_
  refine ck_iconst (v := 1) dX12_fitsLever_1 (by decide) ?_
  refine ck_callV (c_X12_starts hq) rfl cal_X12_starts rfl ml_X12_328 vir_X12_starts rfl rfl (by decide) (Nat.le_of_ble_eq_true rfl) (Nat.le_of_ble_eq_true rfl) (by decide) (by decide) dX12_fitsLever_2 ?_
  rintro _ _ h1 ⟨rfl, rfl, hq⟩
  refine ck_aload_n 0 dX12_fitsLever_5 rfl rfl ?_
  refine ck_iload_n 1 dX12_fitsLever_6 rfl rfl ?_
  refine ck_iconst (v := 1) dX12_fitsLever_7 (by decide) ?_
  refine ck_iadd dX12_fitsLever_8 ?_
  refine ck_callV (c_X12_goesOn hq) rfl cal_X12_goesOn rfl ml_X12_423 vir_X12_goesOn rfl rfl (by decide) (Nat.le_of_ble_eq_true rfl) (Nat.le_of_ble_eq_true rfl) (by decide) (by decide) dX12_fitsLever_9 ?_
  rintro _ _ h2 ⟨rfl, rfl, hq⟩
  refine ck_iconst (v := 0) dX12_fitsLever_12 (by decide) ?_
  refine ck_istore_n (lv' := [(2, .int (0 : Int32)), (0, .ref 0), (1, .int x1)]) dX12_fitsLever_13 rfl (by decide) rfl ?_
  refine ck_loc [1, 0] rfl ?_
  refine cp_X12_fitsLever_14 lpN _ _ hq
def wp_X12_levers_9 (Q : Int32 → ck_H → Prop) (K30 : Int32 → ck_H → Prop) : Nat → Int32 → Int32 → ck_H → Prop
  | 0 => fun _ _ _ => False
  | n + 1 => fun x1 x2 h => (wp_X12_knownMany h (fun r3 h2 => ((r3 ≤ x2 → K30 x1 h2) ∧ (¬ r3 ≤ x2 → (vp_in x2 24 ∧ (∀ h6, h6 = ck_sI h2 39 x2.toNatClampNeg (vp_nar .boolean (0 : Int32)) → (∀ v7, v7 = x2 + 1 → (wp_X12_levers_9 Q K30 n) x1 v7 h6)))))))
def wp_X12_levers_72 (Q : Int32 → ck_H → Prop) (K78 : Int32 → ck_H → Prop) (Kc : Int32 → Int32 → ck_H → Prop) (x1 : Int32) (x2 : Int32) (h : ck_H) : Prop := (∀ v16, v16 = x2 + (-1) → Kc x1 v16 h)
def wp_X12_levers_37 (Q : Int32 → ck_H → Prop) (K78 : Int32 → ck_H → Prop) : Nat → Int32 → Int32 → ck_H → Prop
  | 0 => fun _ _ _ => False
  | n + 1 => fun x1 x2 h => ((x2 < 0 → K78 x1 h) ∧ (¬ x2 < 0 → (vp_in x2 24 ∧ ((¬ (h.1 39 x2.toNatClampNeg) = 0 → wp_X12_levers_72 Q K78 (wp_X12_levers_37 Q K78 n) x1 x2 h) ∧ ((h.1 39 x2.toNatClampNeg) = 0 → (vp_in x2 24 ∧ (((h.1 38 x2.toNatClampNeg) = (-1 : Int32) → wp_X12_levers_72 Q K78 (wp_X12_levers_37 Q K78 n) x1 x2 h) ∧ (¬ (h.1 38 x2.toNatClampNeg) = (-1 : Int32) → (vp_in x2 24 ∧ (vp_in (h.1 38 x2.toNatClampNeg) 24 ∧ (∀ h21, h21 = ck_sI h 39 (h.1 38 x2.toNatClampNeg).toNatClampNeg (vp_nar .boolean (1 : Int32)) → wp_X12_levers_72 Q K78 (wp_X12_levers_37 Q K78 n) x1 x2 h21)))))))))))
def wp_X12_levers_123 (Q : Int32 → ck_H → Prop) (K129 : Int32 → ck_H → Prop) (Kc : Int32 → Int32 → ck_H → Prop) (x1 : Int32) (x2 : Int32) (h : ck_H) : Prop := (∀ v29, v29 = x2 + 1 → Kc x1 v29 h)
def wp_X12_levers_80 (Q : Int32 → ck_H → Prop) (K129 : Int32 → ck_H → Prop) : Nat → Int32 → Int32 → ck_H → Prop
  | 0 => fun _ _ _ => False
  | n + 1 => fun x1 x2 h => (wp_X12_knownMany h (fun r25 h24 => ((r25 ≤ x2 → K129 x1 h24) ∧ (¬ r25 ≤ x2 → (vp_in x2 24 ∧ ((¬ (h24.1 39 x2.toNatClampNeg) = 0 → wp_X12_levers_123 Q K129 (wp_X12_levers_80 Q K129 n) x1 x2 h24) ∧ ((h24.1 39 x2.toNatClampNeg) = 0 → (vp_in x2 24 ∧ ((¬ (h24.1 38 x2.toNatClampNeg) = (-1 : Int32) → wp_X12_levers_123 Q K129 (wp_X12_levers_80 Q K129 n) x1 x2 h24) ∧ ((h24.1 38 x2.toNatClampNeg) = (-1 : Int32) → (vp_in x2 24 ∧ (vp_in (h24.1 35 x2.toNatClampNeg) 20 ∧ (∀ v34, v34 = (if x1 < (h24.1 13 (h24.1 35 x2.toNatClampNeg).toNatClampNeg) then (h24.1 13 (h24.1 35 x2.toNatClampNeg).toNatClampNeg) else x1) → wp_X12_levers_123 Q K129 (wp_X12_levers_80 Q K129 n) v34 x2 h24)))))))))))))
def wp_X12_levers_165 (Q : Int32 → ck_H → Prop) (K173 : Int32 → ck_H → Prop) (Kc : Int32 → Int32 → Int32 → ck_H → Prop) (x1 : Int32) (x3 : Int32) (y0 : Int32) (y1 : Int32) (h : ck_H) : Prop := (∀ v42, v42 = (y0 ||| y1) → (∀ v43, v43 = x3 + 1 → Kc x1 v42 v43 h))
def wp_X12_levers_133 (Q : Int32 → ck_H → Prop) (K173 : Int32 → ck_H → Prop) : Nat → Int32 → Int32 → Int32 → ck_H → Prop
  | 0 => fun _ _ _ _ => False
  | n + 1 => fun x1 x2 x3 h => (((10 : Int32) ≤ x3 → K173 x2 h) ∧ (¬ (10 : Int32) ≤ x3 → (∀ h38, h38 = ck_sI h 0 48 (((10 : Int32) * x3) + (5 : Int32)) → (wp_X12_fitsLever x1 h38 (fun r40 h39 => ((r40 = 0 → wp_X12_levers_165 Q K173 (wp_X12_levers_133 Q K173 n) x1 x3 x2 (0 : Int32) h39) ∧ (¬ r40 = 0 → wp_X12_levers_165 Q K173 (wp_X12_levers_133 Q K173 n) x1 x3 x2 ((1 : Int32) <<< (x3 &&& 31)) h39)))))))
def wp_X12_levers (h : ck_H) (Q : Int32 → ck_H → Prop) : Prop := (∀ h1, h1 = ck_sI h 0 0 (0 : Int32) → wp_X12_levers_9 Q (fun x9 h8 => (wp_X12_knownMany h8 (fun r11 h10 => (∀ v12, v12 = (r11 - (1 : Int32)) → wp_X12_levers_37 Q (fun x23 h22 => wp_X12_levers_80 Q (fun x36 h35 => wp_X12_levers_133 Q (fun x45 h44 => (∀ h46, h46 = ck_sI h44 0 48 (-1 : Int32) → Q x45 h46)) lpN x36 (0 : Int32) (0 : Int32) h35) lpN x23 (0 : Int32) h22) lpN x9 v12 h10)))) lpN (-1 : Int32) (0 : Int32) h1)
set_option maxHeartbeats 4000000 in
set_option maxRecDepth 100000 in
theorem cp_X12_levers_9 {gr : Bool} {Q : Int32 → ck_H → Prop} {K30 : Int32 → ck_H → Prop} (hK30 : ∀ (x1 : Int32) (h : ck_H), K30 x1 h → ck_W cX12_levers 4 RX12 (some .int) 13 0 0 false gr (ck_Qi ck_shM Q) ck_shM h 0 0 30 [(0, .ref 0), (1, .int x1)] []) : ∀ (n : Nat) (x1 : Int32) (x2 : Int32) (h : ck_H), wp_X12_levers_9 Q K30 n x1 x2 h → ck_W cX12_levers 4 RX12 (some .int) 13 0 0 false gr (ck_Qi ck_shM Q) ck_shM h 0 0 9 [(0, .ref 0), (1, .int x1), (2, .int x2)] [] := by
  intro n
  induction n with
  | zero => intro x1 x2 h hq; exact hq.elim
  | succ n hKc =>
    intro x1 x2 h hq
    unfold wp_X12_levers_9 at hq
    refine ck_iload_n 2 dX12_levers_9 rfl rfl ?_
    refine ck_aload_n 0 dX12_levers_10 rfl rfl ?_
    refine ck_callV (c_X12_knownMany hq) rfl cal_X12_knownMany rfl ml_X12_477 vir_X12_knownMany rfl rfl (by decide) (Nat.le_of_ble_eq_true rfl) (Nat.le_of_ble_eq_true rfl) (by decide) (by decide) dX12_levers_11 ?_
    rintro _ _ h2 ⟨r3, rfl, rfl, hq⟩
    refine ck_icmp_ge (tgt := 30) dX12_levers_14 (by decide) (fun c4 => ?_) (fun c4 => ?_)
    · have hq := hq.1 c4
      refine ck_loc [0, 1] rfl ?_
      exact hK30 _ _ hq
    · have hq := hq.2 c4
      refine ck_aload_n 0 dX12_levers_17 rfl rfl ?_
      refine ck_getR clX12 68 rfl rfl (by decide) fl_X12_139 dX12_levers_18 ?_
      refine ck_iload_n 2 dX12_levers_21 rfl rfl ?_
      refine ck_iconst (v := 0) dX12_levers_22 (by decide) ?_
      obtain ⟨b5, hq⟩ := hq
      refine ck_zast rfl rfl b5 dX12_levers_23 ?_
      refine ck_nmH (fun h6 eh6 => ?_)
      have hq := hq h6 eh6
      obtain ⟨v7, ev7⟩ : ∃ z : Int32, z = x2 + 1 := ⟨_, rfl⟩
      have hq := hq v7 ev7
      refine ck_iinc (v := v7) (lv' := [(2, .int v7), (0, .ref 0), (1, .int x1)]) 2 dX12_levers_24 rfl (by rw [ev7]; rfl) (by decide) rfl ?_
      refine ck_goto (tgt := 9) dX12_levers_27 (by decide) ?_
      refine ck_loc [1, 2, 0] rfl ?_
      exact hKc _ _ _ hq
set_option maxHeartbeats 4000000 in
set_option maxRecDepth 100000 in
theorem cp_X12_levers_72 {gr : Bool} {Q : Int32 → ck_H → Prop} {K78 : Int32 → ck_H → Prop} {Kc : Int32 → Int32 → ck_H → Prop} (hK78 : ∀ (x1 : Int32) (h : ck_H), K78 x1 h → ck_W cX12_levers 4 RX12 (some .int) 13 0 0 false gr (ck_Qi ck_shM Q) ck_shM h 0 0 78 [(0, .ref 0), (1, .int x1)] []) (hKc : ∀ (x1 : Int32) (x2 : Int32) (h : ck_H), Kc x1 x2 h → ck_W cX12_levers 4 RX12 (some .int) 13 0 0 false gr (ck_Qi ck_shM Q) ck_shM h 0 0 37 [(0, .ref 0), (1, .int x1), (2, .int x2)] []) : ∀ (x1 : Int32) (x2 : Int32) (h : ck_H), wp_X12_levers_72 Q K78 Kc x1 x2 h → ck_W cX12_levers 4 RX12 (some .int) 13 0 0 false gr (ck_Qi ck_shM Q) ck_shM h 0 0 72 [(0, .ref 0), (1, .int x1), (2, .int x2)] [] := by
  intro x1 x2 h hq
  obtain ⟨v16, ev16⟩ : ∃ z : Int32, z = x2 + (-1) := ⟨_, rfl⟩
  have hq := hq v16 ev16
  refine ck_iinc (v := v16) (lv' := [(2, .int v16), (0, .ref 0), (1, .int x1)]) 2 dX12_levers_72 rfl (by rw [ev16]; rfl) (by decide) rfl ?_
  refine ck_goto (tgt := 37) dX12_levers_75 (by decide) ?_
  refine ck_loc [1, 2, 0] rfl ?_
  exact hKc _ _ _ hq
set_option maxHeartbeats 4000000 in
set_option maxRecDepth 100000 in
theorem cp_X12_levers_37 {gr : Bool} {Q : Int32 → ck_H → Prop} {K78 : Int32 → ck_H → Prop} (hK78 : ∀ (x1 : Int32) (h : ck_H), K78 x1 h → ck_W cX12_levers 4 RX12 (some .int) 13 0 0 false gr (ck_Qi ck_shM Q) ck_shM h 0 0 78 [(0, .ref 0), (1, .int x1)] []) : ∀ (n : Nat) (x1 : Int32) (x2 : Int32) (h : ck_H), wp_X12_levers_37 Q K78 n x1 x2 h → ck_W cX12_levers 4 RX12 (some .int) 13 0 0 false gr (ck_Qi ck_shM Q) ck_shM h 0 0 37 [(0, .ref 0), (1, .int x1), (2, .int x2)] [] := by
  intro n
  induction n with
  | zero => intro x1 x2 h hq; exact hq.elim
  | succ n hKc =>
    intro x1 x2 h hq
    refine ck_iload_n 2 dX12_levers_37 rfl rfl ?_
    refine ck_if_lt (tgt := 78) dX12_levers_38 (by decide) (fun c13 => ?_) (fun c13 => ?_)
    · have hq := hq.1 c13
      refine ck_loc [0, 1] rfl ?_
      exact hK78 _ _ hq
    · have hq := hq.2 c13
      refine ck_aload_n 0 dX12_levers_41 rfl rfl ?_
      refine ck_getR clX12 68 rfl rfl (by decide) fl_X12_139 dX12_levers_42 ?_
      refine ck_iload_n 2 dX12_levers_45 rfl rfl ?_
      obtain ⟨b14, hq⟩ := hq
      refine ck_zald rfl rfl b14 dX12_levers_46 ?_
      refine ck_if_ne (tgt := 72) dX12_levers_47 (by decide) (fun c15 => ?_) (fun c15 => ?_)
      · have hq := hq.1 c15
        exact cp_X12_levers_72 hK78 hKc _ _ _ hq
      · have hq := hq.2 c15
        refine ck_aload_n 0 dX12_levers_50 rfl rfl ?_
        refine ck_getR clX12 67 rfl rfl (by decide) fl_X12_136 dX12_levers_51 ?_
        refine ck_iload_n 2 dX12_levers_54 rfl rfl ?_
        obtain ⟨b17, hq⟩ := hq
        refine ck_iald rfl rfl b17 dX12_levers_55 ?_
        refine ck_iconst (v := -1) dX12_levers_56 (by decide) ?_
        refine ck_icmp_eq (tgt := 72) dX12_levers_57 (by decide) (fun c18 => ?_) (fun c18 => ?_)
        · have hq := hq.1 c18
          exact cp_X12_levers_72 hK78 hKc _ _ _ hq
        · have hq := hq.2 c18
          refine ck_aload_n 0 dX12_levers_60 rfl rfl ?_
          refine ck_getR clX12 68 rfl rfl (by decide) fl_X12_139 dX12_levers_61 ?_
          refine ck_aload_n 0 dX12_levers_64 rfl rfl ?_
          refine ck_getR clX12 67 rfl rfl (by decide) fl_X12_136 dX12_levers_65 ?_
          refine ck_iload_n 2 dX12_levers_68 rfl rfl ?_
          obtain ⟨b19, hq⟩ := hq
          refine ck_iald rfl rfl b19 dX12_levers_69 ?_
          refine ck_iconst (v := 1) dX12_levers_70 (by decide) ?_
          obtain ⟨b20, hq⟩ := hq
          refine ck_zast rfl rfl b20 dX12_levers_71 ?_
          refine ck_nmH (fun h21 eh21 => ?_)
          have hq := hq h21 eh21
          exact cp_X12_levers_72 hK78 hKc _ _ _ hq
set_option maxHeartbeats 4000000 in
set_option maxRecDepth 100000 in
theorem cp_X12_levers_123 {gr : Bool} {Q : Int32 → ck_H → Prop} {K129 : Int32 → ck_H → Prop} {Kc : Int32 → Int32 → ck_H → Prop} (hK129 : ∀ (x1 : Int32) (h : ck_H), K129 x1 h → ck_W cX12_levers 4 RX12 (some .int) 13 0 0 false gr (ck_Qi ck_shM Q) ck_shM h 0 0 129 [(0, .ref 0), (1, .int x1)] []) (hKc : ∀ (x1 : Int32) (x2 : Int32) (h : ck_H), Kc x1 x2 h → ck_W cX12_levers 4 RX12 (some .int) 13 0 0 false gr (ck_Qi ck_shM Q) ck_shM h 0 0 80 [(0, .ref 0), (1, .int x1), (2, .int x2)] []) : ∀ (x1 : Int32) (x2 : Int32) (h : ck_H), wp_X12_levers_123 Q K129 Kc x1 x2 h → ck_W cX12_levers 4 RX12 (some .int) 13 0 0 false gr (ck_Qi ck_shM Q) ck_shM h 0 0 123 [(0, .ref 0), (1, .int x1), (2, .int x2)] [] := by
  intro x1 x2 h hq
  obtain ⟨v29, ev29⟩ : ∃ z : Int32, z = x2 + 1 := ⟨_, rfl⟩
  have hq := hq v29 ev29
  refine ck_iinc (v := v29) (lv' := [(2, .int v29), (0, .ref 0), (1, .int x1)]) 2 dX12_levers_123 rfl (by rw [ev29]; rfl) (by decide) rfl ?_
  refine ck_goto (tgt := 80) dX12_levers_126 (by decide) ?_
  refine ck_loc [1, 2, 0] rfl ?_
  exact hKc _ _ _ hq
set_option maxHeartbeats 4000000 in
set_option maxRecDepth 100000 in
theorem cp_X12_levers_80 {gr : Bool} {Q : Int32 → ck_H → Prop} {K129 : Int32 → ck_H → Prop} (hK129 : ∀ (x1 : Int32) (h : ck_H), K129 x1 h → ck_W cX12_levers 4 RX12 (some .int) 13 0 0 false gr (ck_Qi ck_shM Q) ck_shM h 0 0 129 [(0, .ref 0), (1, .int x1)] []) : ∀ (n : Nat) (x1 : Int32) (x2 : Int32) (h : ck_H), wp_X12_levers_80 Q K129 n x1 x2 h → ck_W cX12_levers 4 RX12 (some .int) 13 0 0 false gr (ck_Qi ck_shM Q) ck_shM h 0 0 80 [(0, .ref 0), (1, .int x1), (2, .int x2)] [] := by
  intro n
  induction n with
  | zero => intro x1 x2 h hq; exact hq.elim
  | succ n hKc =>
    intro x1 x2 h hq
    unfold wp_X12_levers_80 at hq
    refine ck_iload_n 2 dX12_levers_80 rfl rfl ?_
    refine ck_aload_n 0 dX12_levers_81 rfl rfl ?_
    refine ck_callV (c_X12_knownMany hq) rfl cal_X12_knownMany rfl ml_X12_477 vir_X12_knownMany rfl rfl (by decide) (Nat.le_of_ble_eq_true rfl) (Nat.le_of_ble_eq_true rfl) (by decide) (by decide) dX12_levers_82 ?_
    rintro _ _ h24 ⟨r25, rfl, rfl, hq⟩
    refine ck_icmp_ge (tgt := 129) dX12_levers_85 (by decide) (fun c26 => ?_) (fun c26 => ?_)
    · have hq := hq.1 c26
      refine ck_loc [0, 1] rfl ?_
      exact hK129 _ _ hq
    · have hq := hq.2 c26
      refine ck_aload_n 0 dX12_levers_88 rfl rfl ?_
      refine ck_getR clX12 68 rfl rfl (by decide) fl_X12_139 dX12_levers_89 ?_
      refine ck_iload_n 2 dX12_levers_92 rfl rfl ?_
      obtain ⟨b27, hq⟩ := hq
      refine ck_zald rfl rfl b27 dX12_levers_93 ?_
      refine ck_if_ne (tgt := 123) dX12_levers_94 (by decide) (fun c28 => ?_) (fun c28 => ?_)
      · have hq := hq.1 c28
        exact cp_X12_levers_123 hK129 hKc _ _ _ hq
      · have hq := hq.2 c28
        refine ck_aload_n 0 dX12_levers_97 rfl rfl ?_
        refine ck_getR clX12 67 rfl rfl (by decide) fl_X12_136 dX12_levers_98 ?_
        refine ck_iload_n 2 dX12_levers_101 rfl rfl ?_
        obtain ⟨b30, hq⟩ := hq
        refine ck_iald rfl rfl b30 dX12_levers_102 ?_
        refine ck_iconst (v := -1) dX12_levers_103 (by decide) ?_
        refine ck_icmp_ne (tgt := 123) dX12_levers_104 (by decide) (fun c31 => ?_) (fun c31 => ?_)
        · have hq := hq.1 c31
          exact cp_X12_levers_123 hK129 hKc _ _ _ hq
        · have hq := hq.2 c31
          refine ck_iload_n 1 dX12_levers_107 rfl rfl ?_
          refine ck_aload_n 0 dX12_levers_108 rfl rfl ?_
          refine ck_getR clX12 14 rfl rfl (by decide) fl_X12_46 dX12_levers_109 ?_
          refine ck_aload_n 0 dX12_levers_112 rfl rfl ?_
          refine ck_getR clX12 64 rfl rfl (by decide) fl_X12_126 dX12_levers_113 ?_
          refine ck_iload_n 2 dX12_levers_116 rfl rfl ?_
          obtain ⟨b32, hq⟩ := hq
          refine ck_iald rfl rfl b32 dX12_levers_117 ?_
          obtain ⟨b33, hq⟩ := hq
          refine ck_iald rfl rfl b33 dX12_levers_118 ?_
          refine ck_mmax ml_X12_377 w_mmax (by decide) (Nat.le_of_ble_eq_true rfl) (by decide) (by decide) dX12_levers_119 ?_
          refine ck_nmI (fun v34 ev34 => ?_)
          have hq := hq v34 ev34
          refine ck_istore_n (lv' := [(1, .int v34), (0, .ref 0), (2, .int x2)]) dX12_levers_122 rfl (by decide) rfl ?_
          refine ck_loc [1, 0, 2] rfl ?_
          exact cp_X12_levers_123 hK129 hKc _ _ _ hq
set_option maxHeartbeats 4000000 in
set_option maxRecDepth 100000 in
theorem cp_X12_levers_165 {gr : Bool} {Q : Int32 → ck_H → Prop} {K173 : Int32 → ck_H → Prop} {Kc : Int32 → Int32 → Int32 → ck_H → Prop} (hK173 : ∀ (x2 : Int32) (h : ck_H), K173 x2 h → ck_W cX12_levers 4 RX12 (some .int) 13 0 0 false gr (ck_Qi ck_shM Q) ck_shM h 0 0 173 [(0, .ref 0), (2, .int x2)] []) (hKc : ∀ (x1 : Int32) (x2 : Int32) (x3 : Int32) (h : ck_H), Kc x1 x2 x3 h → ck_W cX12_levers 4 RX12 (some .int) 13 0 0 false gr (ck_Qi ck_shM Q) ck_shM h 0 0 133 [(0, .ref 0), (1, .int x1), (2, .int x2), (3, .int x3)] []) : ∀ (x1 : Int32) (x3 : Int32) (y0 : Int32) (y1 : Int32) (h : ck_H), wp_X12_levers_165 Q K173 Kc x1 x3 y0 y1 h → ck_W cX12_levers 4 RX12 (some .int) 13 0 0 false gr (ck_Qi ck_shM Q) ck_shM h 0 0 165 [(0, .ref 0), (1, .int x1), (3, .int x3)] [.int y1, .int y0] := by
  intro x1 x3 y0 y1 h hq
  refine ck_ior dX12_levers_165 ?_
  refine ck_nmI (fun v42 ev42 => ?_)
  have hq := hq v42 ev42
  refine ck_istore_n (lv' := [(2, .int v42), (0, .ref 0), (1, .int x1), (3, .int x3)]) dX12_levers_166 rfl (by decide) rfl ?_
  obtain ⟨v43, ev43⟩ : ∃ z : Int32, z = x3 + 1 := ⟨_, rfl⟩
  have hq := hq v43 ev43
  refine ck_iinc (v := v43) (lv' := [(3, .int v43), (2, .int v42), (0, .ref 0), (1, .int x1)]) 3 dX12_levers_167 rfl (by rw [ev43]; rfl) (by decide) rfl ?_
  refine ck_goto (tgt := 133) dX12_levers_170 (by decide) ?_
  refine ck_loc [2, 3, 1, 0] rfl ?_
  exact hKc _ _ _ _ hq
set_option maxHeartbeats 4000000 in
set_option maxRecDepth 100000 in
theorem cp_X12_levers_133 {gr : Bool} {Q : Int32 → ck_H → Prop} {K173 : Int32 → ck_H → Prop} (hK173 : ∀ (x2 : Int32) (h : ck_H), K173 x2 h → ck_W cX12_levers 4 RX12 (some .int) 13 0 0 false gr (ck_Qi ck_shM Q) ck_shM h 0 0 173 [(0, .ref 0), (2, .int x2)] []) : ∀ (n : Nat) (x1 : Int32) (x2 : Int32) (x3 : Int32) (h : ck_H), wp_X12_levers_133 Q K173 n x1 x2 x3 h → ck_W cX12_levers 4 RX12 (some .int) 13 0 0 false gr (ck_Qi ck_shM Q) ck_shM h 0 0 133 [(0, .ref 0), (1, .int x1), (2, .int x2), (3, .int x3)] [] := by
  intro n
  induction n with
  | zero => intro x1 x2 x3 h hq; exact hq.elim
  | succ n hKc =>
    intro x1 x2 x3 h hq
    refine ck_iload_n 3 dX12_levers_133 rfl rfl ?_
    refine ck_bipush (v := 10) dX12_levers_134 (by decide) ?_
    refine ck_icmp_ge (tgt := 173) dX12_levers_136 (by decide) (fun c37 => ?_) (fun c37 => ?_)
    · have hq := hq.1 c37
      refine ck_loc [0, 2] rfl ?_
      exact hK173 _ _ hq
    · have hq := hq.2 c37
      refine ck_aload_n 0 dX12_levers_139 rfl rfl ?_
      refine ck_bipush (v := 10) dX12_levers_140 (by decide) ?_
      refine ck_iload_n 3 dX12_levers_142 rfl rfl ?_
      refine ck_imul dX12_levers_143 ?_
      refine ck_iconst (v := 5) dX12_levers_144 (by decide) ?_
      refine ck_iadd dX12_levers_145 ?_
      refine ck_putI clX12 48 rfl rfl (by decide) fl_X12_102 rfl rfl rfl dX12_levers_146 ?_
      refine ck_nmH (fun h38 eh38 => ?_)
      have hq := hq h38 eh38
      refine ck_iload_n 2 dX12_levers_149 rfl rfl ?_
      refine ck_aload_n 0 dX12_levers_150 rfl rfl ?_
      refine ck_iload_n 1 dX12_levers_151 rfl rfl ?_
      refine ck_callV (c_X12_fitsLever hq) rfl cal_X12_fitsLever rfl ml_X12_480 vir_X12_fitsLever rfl rfl (by decide) (Nat.le_of_ble_eq_true rfl) (Nat.le_of_ble_eq_true rfl) (by decide) (by decide) dX12_levers_152 ?_
      rintro _ _ h39 ⟨r40, rfl, rfl, hq⟩
      refine ck_if_eq (tgt := 164) dX12_levers_155 (by decide) (fun c41 => ?_) (fun c41 => ?_)
      · have hq := hq.1 c41
        refine ck_iconst (v := 0) dX12_levers_164 (by decide) ?_
        refine ck_loc [0, 1, 3] rfl ?_
        exact cp_X12_levers_165 hK173 hKc _ _ _ _ _ hq
      · have hq := hq.2 c41
        refine ck_iconst (v := 1) dX12_levers_158 (by decide) ?_
        refine ck_iload_n 3 dX12_levers_159 rfl rfl ?_
        refine ck_ishl dX12_levers_160 ?_
        refine ck_goto (tgt := 165) dX12_levers_161 (by decide) ?_
        refine ck_loc [0, 1, 3] rfl ?_
        exact cp_X12_levers_165 hK173 hKc _ _ _ _ _ hq
set_option maxHeartbeats 4000000 in
set_option maxRecDepth 100000 in
theorem c_X12_levers {gr : Bool} {h : ck_H} {Q : Int32 → ck_H → Prop} (hq : wp_X12_levers h Q) : ck_M yX12_levers cX12_levers 4 (some .int) 13 0 0 gr ck_shM h [.ref 0] (ck_Qi ck_shM Q) := by
  refine ck_entry (lv := [(0, .ref 0)]) false (own := RX12) rfl (fun q => by cases q) (by decide) (Nat.le_of_ble_eq_true rfl) rfl ?_
  refine ck_aload_n 0 dX12_levers_0 rfl rfl ?_
  refine ck_iconst (v := 0) dX12_levers_1 (by decide) ?_
  refine ck_putI clX12 0 rfl rfl (by decide) fl_X12_145 rfl rfl rfl dX12_levers_2 ?_
  refine ck_nmH (fun h1 eh1 => ?_)
  have hq := hq h1 eh1
  refine ck_iconst (v := -1) dX12_levers_5 (by decide) ?_
  refine ck_istore_n (lv' := [(1, .int (-1 : Int32)), (0, .ref 0)]) dX12_levers_6 rfl (by decide) rfl ?_
  refine ck_iconst (v := 0) dX12_levers_7 (by decide) ?_
  refine ck_istore_n (lv' := [(2, .int (0 : Int32)), (1, .int (-1 : Int32)), (0, .ref 0)]) dX12_levers_8 rfl (by decide) rfl ?_
  refine ck_loc [2, 1, 0] rfl ?_
  refine cp_X12_levers_9 (fun x9 h8 hq => ?_) lpN _ _ _ hq
  · refine ck_aload_n 0 dX12_levers_30 rfl rfl ?_
    refine ck_callV (c_X12_knownMany hq) rfl cal_X12_knownMany rfl ml_X12_477 vir_X12_knownMany rfl rfl (by decide) (Nat.le_of_ble_eq_true rfl) (Nat.le_of_ble_eq_true rfl) (by decide) (by decide) dX12_levers_31 ?_
    rintro _ _ h10 ⟨r11, rfl, rfl, hq⟩
    refine ck_iconst (v := 1) dX12_levers_34 (by decide) ?_
    refine ck_isub dX12_levers_35 ?_
    refine ck_nmI (fun v12 ev12 => ?_)
    have hq := hq v12 ev12
    refine ck_istore_n (lv' := [(2, .int v12), (0, .ref 0), (1, .int x9)]) dX12_levers_36 rfl (by decide) rfl ?_
    refine ck_loc [1, 2, 0] rfl ?_
    refine cp_X12_levers_37 (fun x23 h22 hq => ?_) lpN _ _ _ hq
    · refine ck_iconst (v := 0) dX12_levers_78 (by decide) ?_
      refine ck_istore_n (lv' := [(2, .int (0 : Int32)), (0, .ref 0), (1, .int x23)]) dX12_levers_79 rfl (by decide) rfl ?_
      refine ck_loc [1, 2, 0] rfl ?_
      refine cp_X12_levers_80 (fun x36 h35 hq => ?_) lpN _ _ _ hq
      · refine ck_iconst (v := 0) dX12_levers_129 (by decide) ?_
        refine ck_istore_n (lv' := [(2, .int (0 : Int32)), (0, .ref 0), (1, .int x36)]) dX12_levers_130 rfl (by decide) rfl ?_
        refine ck_iconst (v := 0) dX12_levers_131 (by decide) ?_
        refine ck_istore_n (lv' := [(3, .int (0 : Int32)), (2, .int (0 : Int32)), (0, .ref 0), (1, .int x36)]) dX12_levers_132 rfl (by decide) rfl ?_
        refine ck_loc [2, 3, 1, 0] rfl ?_
        refine cp_X12_levers_133 (fun x45 h44 hq => ?_) lpN _ _ _ _ hq
        · refine ck_aload_n 0 dX12_levers_173 rfl rfl ?_
          refine ck_iconst (v := -1) dX12_levers_174 (by decide) ?_
          refine ck_putI clX12 48 rfl rfl (by decide) fl_X12_102 rfl rfl rfl dX12_levers_175 ?_
          refine ck_nmH (fun h46 eh46 => ?_)
          have hq := hq h46 eh46
          refine ck_iload_n 1 dX12_levers_178 rfl rfl ?_
          exact ck_iret rfl rfl rfl rfl dX12_levers_179 ⟨_, rfl, rfl, hq⟩
def wp_X12_chance_89 (Q : Int32 → ck_H → Prop) (K98 : Int32 → ck_H → Prop) (Kc : Int32 → Int32 → Int32 → Int32 → ck_H → Prop) (x2 : Int32) (x3 : Int32) (x5 : Int32) (y0 : Int32) (y1 : Int32) (h : ck_H) : Prop := (∀ v17, v17 = (y0 + y1) → (∀ v18, v18 = x5 + 1 → Kc x2 x3 v17 v18 h))
def wp_X12_chance_49 (Q : Int32 → ck_H → Prop) (K98 : Int32 → ck_H → Prop) : Nat → Int32 → Int32 → Int32 → Int32 → ck_H → Prop
  | 0 => fun _ _ _ _ _ => False
  | n + 1 => fun x2 x3 x4 x5 h => (((10 : Int32) ≤ x5 → K98 x4 h) ∧ (¬ (10 : Int32) ≤ x5 → (wp_X12_copies (1 : Int32) (0 : Int32) h (fun h10 => (wp_X12_goesOn x2 h10 (fun h11 => (wp_X12_gainAll (1 : Int32) h11 (fun r13 h12 => (wp_X12_gainAll (0 : Int32) h12 (fun r15 h14 => (((r13 - r15) < x3 → wp_X12_chance_89 Q K98 (wp_X12_chance_49 Q K98 n) x2 x3 x5 x4 (0 : Int32) h14) ∧ (¬ (r13 - r15) < x3 → wp_X12_chance_89 Q K98 (wp_X12_chance_49 Q K98 n) x2 x3 x5 x4 (1 : Int32) h14))))))))))))
def wp_X12_chance (x1 : Int32) (x2 : Int32) (x3 : Int32) (h : ck_H) (Q : Int32 → ck_H → Prop) : Prop := (∀ h1, h1 = ck_sI h 0 0 (0 : Int32) → ((x1 < 0 → Q (-1 : Int32) h1) ∧ (¬ x1 < 0 → ((x2 < (1 : Int32) → Q (-1 : Int32) h1) ∧ (¬ x2 < (1 : Int32) → (((99 : Int32) < x2 → Q (-1 : Int32) h1) ∧ (¬ (99 : Int32) < x2 → ((x3 < 0 → Q (-1 : Int32) h1) ∧ (¬ x3 < 0 → ((x3 ≤ (999 : Int32) → (∀ h7, h7 = ck_sI h1 0 50 x1 → (∀ h8, h8 = ck_sI h7 0 49 (1 : Int32) → wp_X12_chance_49 Q (fun x20 h19 => (∀ h21, h21 = ck_sI h19 0 49 (0 : Int32) → Q x20 h21)) lpN x2 x3 (0 : Int32) (0 : Int32) h8))) ∧ (¬ x3 ≤ (999 : Int32) → Q (-1 : Int32) h1)))))))))))
set_option maxHeartbeats 4000000 in
set_option maxRecDepth 100000 in
theorem cp_X12_chance_89 {gr : Bool} {Q : Int32 → ck_H → Prop} {K98 : Int32 → ck_H → Prop} {Kc : Int32 → Int32 → Int32 → Int32 → ck_H → Prop} (hK98 : ∀ (x4 : Int32) (h : ck_H), K98 x4 h → ck_W cX12_chance 6 RX12 (some .int) 12 0 0 false gr (ck_Qi ck_shM Q) ck_shM h 0 0 98 [(0, .ref 0), (4, .int x4)] []) (hKc : ∀ (x2 : Int32) (x3 : Int32) (x4 : Int32) (x5 : Int32) (h : ck_H), Kc x2 x3 x4 x5 h → ck_W cX12_chance 6 RX12 (some .int) 12 0 0 false gr (ck_Qi ck_shM Q) ck_shM h 0 0 49 [(0, .ref 0), (2, .int x2), (3, .int x3), (4, .int x4), (5, .int x5)] []) : ∀ (x2 : Int32) (x3 : Int32) (x5 : Int32) (y0 : Int32) (y1 : Int32) (h : ck_H), wp_X12_chance_89 Q K98 Kc x2 x3 x5 y0 y1 h → ck_W cX12_chance 6 RX12 (some .int) 12 0 0 false gr (ck_Qi ck_shM Q) ck_shM h 0 0 89 [(0, .ref 0), (2, .int x2), (3, .int x3), (5, .int x5)] [.int y1, .int y0] := by
  intro x2 x3 x5 y0 y1 h hq
  refine ck_iadd dX12_chance_89 ?_
  refine ck_nmI (fun v17 ev17 => ?_)
  have hq := hq v17 ev17
  refine ck_istore (lv' := [(4, .int v17), (0, .ref 0), (2, .int x2), (3, .int x3), (5, .int x5)]) dX12_chance_90 (by decide) rfl ?_
  obtain ⟨v18, ev18⟩ : ∃ z : Int32, z = x5 + 1 := ⟨_, rfl⟩
  have hq := hq v18 ev18
  refine ck_iinc (v := v18) (lv' := [(5, .int v18), (4, .int v17), (0, .ref 0), (2, .int x2), (3, .int x3)]) 4 dX12_chance_92 rfl (by rw [ev18]; rfl) (by decide) rfl ?_
  refine ck_goto (tgt := 49) dX12_chance_95 (by decide) ?_
  refine ck_loc [2, 3, 4, 1, 0] rfl ?_
  exact hKc _ _ _ _ _ hq
set_option maxHeartbeats 4000000 in
set_option maxRecDepth 100000 in
theorem cp_X12_chance_49 {gr : Bool} {Q : Int32 → ck_H → Prop} {K98 : Int32 → ck_H → Prop} (hK98 : ∀ (x4 : Int32) (h : ck_H), K98 x4 h → ck_W cX12_chance 6 RX12 (some .int) 12 0 0 false gr (ck_Qi ck_shM Q) ck_shM h 0 0 98 [(0, .ref 0), (4, .int x4)] []) : ∀ (n : Nat) (x2 : Int32) (x3 : Int32) (x4 : Int32) (x5 : Int32) (h : ck_H), wp_X12_chance_49 Q K98 n x2 x3 x4 x5 h → ck_W cX12_chance 6 RX12 (some .int) 12 0 0 false gr (ck_Qi ck_shM Q) ck_shM h 0 0 49 [(0, .ref 0), (2, .int x2), (3, .int x3), (4, .int x4), (5, .int x5)] [] := by
  intro n
  induction n with
  | zero => intro x2 x3 x4 x5 h hq; exact hq.elim
  | succ n hKc =>
    intro x2 x3 x4 x5 h hq
    refine ck_iload 4 dX12_chance_49 rfl ?_
    refine ck_bipush (v := 10) dX12_chance_51 (by decide) ?_
    refine ck_icmp_ge (tgt := 98) dX12_chance_53 (by decide) (fun c9 => ?_) (fun c9 => ?_)
    · have hq := hq.1 c9
      refine ck_loc [0, 3] rfl ?_
      exact hK98 _ _ hq
    · have hq := hq.2 c9
      refine ck_aload_n 0 dX12_chance_56 rfl rfl ?_
      refine ck_iconst (v := 1) dX12_chance_57 (by decide) ?_
      refine ck_iconst (v := 0) dX12_chance_58 (by decide) ?_
      refine ck_callV (c_X12_copies hq) rfl cal_X12_copies rfl ml_X12_417 vir_X12_copies rfl rfl (by decide) (Nat.le_of_ble_eq_true rfl) (Nat.le_of_ble_eq_true rfl) (by decide) (by decide) dX12_chance_59 ?_
      rintro _ _ h10 ⟨rfl, rfl, hq⟩
      refine ck_aload_n 0 dX12_chance_62 rfl rfl ?_
      refine ck_iload_n 1 dX12_chance_63 rfl rfl ?_
      refine ck_callV (c_X12_goesOn hq) rfl cal_X12_goesOn rfl ml_X12_423 vir_X12_goesOn rfl rfl (by decide) (Nat.le_of_ble_eq_true rfl) (Nat.le_of_ble_eq_true rfl) (by decide) (by decide) dX12_chance_64 ?_
      rintro _ _ h11 ⟨rfl, rfl, hq⟩
      refine ck_iload 3 dX12_chance_67 rfl ?_
      refine ck_aload_n 0 dX12_chance_69 rfl rfl ?_
      refine ck_iconst (v := 1) dX12_chance_70 (by decide) ?_
      refine ck_callV (c_X12_gainAll hq) rfl cal_X12_gainAll rfl ml_X12_429 vir_X12_gainAll rfl rfl (by decide) (Nat.le_of_ble_eq_true rfl) (Nat.le_of_ble_eq_true rfl) (by decide) (by decide) dX12_chance_71 ?_
      rintro _ _ h12 ⟨r13, rfl, rfl, hq⟩
      refine ck_aload_n 0 dX12_chance_74 rfl rfl ?_
      refine ck_iconst (v := 0) dX12_chance_75 (by decide) ?_
      refine ck_callV (c_X12_gainAll hq) rfl cal_X12_gainAll rfl ml_X12_429 vir_X12_gainAll rfl rfl (by decide) (Nat.le_of_ble_eq_true rfl) (Nat.le_of_ble_eq_true rfl) (by decide) (by decide) dX12_chance_76 ?_
      rintro _ _ h14 ⟨r15, rfl, rfl, hq⟩
      refine ck_isub dX12_chance_79 ?_
      refine ck_iload_n 2 dX12_chance_80 rfl rfl ?_
      refine ck_icmp_lt (tgt := 88) dX12_chance_81 (by decide) (fun c16 => ?_) (fun c16 => ?_)
      · have hq := hq.1 c16
        refine ck_iconst (v := 0) dX12_chance_88 (by decide) ?_
        refine ck_loc [0, 1, 2, 4] rfl ?_
        exact cp_X12_chance_89 hK98 hKc _ _ _ _ _ _ hq
      · have hq := hq.2 c16
        refine ck_iconst (v := 1) dX12_chance_84 (by decide) ?_
        refine ck_goto (tgt := 89) dX12_chance_85 (by decide) ?_
        refine ck_loc [0, 1, 2, 4] rfl ?_
        exact cp_X12_chance_89 hK98 hKc _ _ _ _ _ _ hq
set_option maxHeartbeats 4000000 in
set_option maxRecDepth 100000 in
theorem c_X12_chance {gr : Bool} {x1 : Int32} {x2 : Int32} {x3 : Int32} {h : ck_H} {Q : Int32 → ck_H → Prop} (hq : wp_X12_chance x1 x2 x3 h Q) : ck_M yX12_chance cX12_chance 6 (some .int) 12 0 0 gr ck_shM h [.ref 0, .int x1, .int x2, .int x3] (ck_Qi ck_shM Q) := by
  refine ck_entry (lv := [(0, .ref 0), (1, .int x1), (2, .int x2), (3, .int x3)]) false (own := RX12) rfl (fun q => by cases q) (by decide) (Nat.le_of_ble_eq_true rfl) rfl ?_
  refine ck_aload_n 0 dX12_chance_0 rfl rfl ?_
  refine ck_iconst (v := 0) dX12_chance_1 (by decide) ?_
  refine ck_putI clX12 0 rfl rfl (by decide) fl_X12_145 rfl rfl rfl dX12_chance_2 ?_
  refine ck_nmH (fun h1 eh1 => ?_)
  have hq := hq h1 eh1
  refine ck_iload_n 1 dX12_chance_5 rfl rfl ?_
  refine ck_if_lt (tgt := 31) dX12_chance_6 (by decide) (fun c2 => ?_) (fun c2 => ?_)
  · have hq := hq.1 c2
    refine ck_iconst (v := -1) dX12_chance_31 (by decide) ?_
    exact ck_iret rfl rfl rfl rfl dX12_chance_32 ⟨_, rfl, rfl, hq⟩
  · have hq := hq.2 c2
    refine ck_iload_n 2 dX12_chance_9 rfl rfl ?_
    refine ck_iconst (v := 1) dX12_chance_10 (by decide) ?_
    refine ck_icmp_lt (tgt := 31) dX12_chance_11 (by decide) (fun c3 => ?_) (fun c3 => ?_)
    · have hq := hq.1 c3
      refine ck_iconst (v := -1) dX12_chance_31 (by decide) ?_
      exact ck_iret rfl rfl rfl rfl dX12_chance_32 ⟨_, rfl, rfl, hq⟩
    · have hq := hq.2 c3
      refine ck_iload_n 2 dX12_chance_14 rfl rfl ?_
      refine ck_bipush (v := 99) dX12_chance_15 (by decide) ?_
      refine ck_icmp_gt (tgt := 31) dX12_chance_17 (by decide) (fun c4 => ?_) (fun c4 => ?_)
      · have hq := hq.1 c4
        refine ck_iconst (v := -1) dX12_chance_31 (by decide) ?_
        exact ck_iret rfl rfl rfl rfl dX12_chance_32 ⟨_, rfl, rfl, hq⟩
      · have hq := hq.2 c4
        refine ck_iload_n 3 dX12_chance_20 rfl rfl ?_
        refine ck_if_lt (tgt := 31) dX12_chance_21 (by decide) (fun c5 => ?_) (fun c5 => ?_)
        · have hq := hq.1 c5
          refine ck_iconst (v := -1) dX12_chance_31 (by decide) ?_
          exact ck_iret rfl rfl rfl rfl dX12_chance_32 ⟨_, rfl, rfl, hq⟩
        · have hq := hq.2 c5
          refine ck_iload_n 3 dX12_chance_24 rfl rfl ?_
          refine ck_sipush (v := 999) dX12_chance_25 (by decide) ?_
          refine ck_icmp_le (tgt := 33) dX12_chance_28 (by decide) (fun c6 => ?_) (fun c6 => ?_)
          · have hq := hq.1 c6
            refine ck_aload_n 0 dX12_chance_33 rfl rfl ?_
            refine ck_iload_n 1 dX12_chance_34 rfl rfl ?_
            refine ck_putI clX12 50 rfl rfl (by decide) fl_X12_367 rfl rfl rfl dX12_chance_35 ?_
            refine ck_nmH (fun h7 eh7 => ?_)
            have hq := hq h7 eh7
            refine ck_aload_n 0 dX12_chance_38 rfl rfl ?_
            refine ck_iconst (v := 1) dX12_chance_39 (by decide) ?_
            refine ck_putI clX12 49 rfl rfl (by decide) fl_X12_364 rfl (by decide) (by decide) dX12_chance_40 ?_
            refine ck_nmH (fun h8 eh8 => ?_)
            have hq := hq h8 eh8
            refine ck_iconst (v := 0) dX12_chance_43 (by decide) ?_
            refine ck_istore (lv' := [(4, .int (0 : Int32)), (0, .ref 0), (1, .int x1), (2, .int x2), (3, .int x3)]) dX12_chance_44 (by decide) rfl ?_
            refine ck_iconst (v := 0) dX12_chance_46 (by decide) ?_
            refine ck_istore (lv' := [(5, .int (0 : Int32)), (4, .int (0 : Int32)), (0, .ref 0), (1, .int x1), (2, .int x2), (3, .int x3)]) dX12_chance_47 (by decide) rfl ?_
            refine ck_loc [2, 4, 5, 1, 0] rfl ?_
            refine cp_X12_chance_49 (fun x20 h19 hq => ?_) lpN _ _ _ _ _ hq
            · refine ck_aload_n 0 dX12_chance_98 rfl rfl ?_
              refine ck_iconst (v := 0) dX12_chance_99 (by decide) ?_
              refine ck_putI clX12 49 rfl rfl (by decide) fl_X12_364 rfl (by decide) (by decide) dX12_chance_100 ?_
              refine ck_nmH (fun h21 eh21 => ?_)
              have hq := hq h21 eh21
              refine ck_iload 1 dX12_chance_103 rfl ?_
              exact ck_iret rfl rfl rfl rfl dX12_chance_105 ⟨_, rfl, rfl, hq⟩
          · have hq := hq.2 c6
            refine ck_iconst (v := -1) dX12_chance_31 (by decide) ?_
            exact ck_iret rfl rfl rfl rfl dX12_chance_32 ⟨_, rfl, rfl, hq⟩
def wp_X12_tried_84 (Q : Int32 → ck_H → Prop) (x3 : Int32) (h : ck_H) : Prop := (wp_X12_goesOn x3 h (fun h11 => (∀ h12, h12 = ck_sI h11 0 46 (0 : Int32) → (∀ h13, h13 = ck_sI h12 0 47 (-1 : Int32) → (wp_X12_gainAll (1 : Int32) h13 (fun r15 h14 => (wp_X12_gainAll (0 : Int32) h14 (fun r17 h16 => Q (r15 - r17) h16))))))))
def wp_X12_tried_36 (Q : Int32 → ck_H → Prop) (x1 : Int32) (x2 : Int32) (x3 : Int32) (y0 : Int32) (h : ck_H) : Prop := ((y0 = 0 → Q (-1 : Int32) h) ∧ (¬ y0 = 0 → ((x3 < 0 → Q (-1 : Int32) h) ∧ (¬ x3 < 0 → ((x3 ≤ (99 : Int32) → (∀ h7, h7 = ck_sI h 0 46 x1 → (∀ h8, h8 = ck_sI h7 0 47 x2 → (wp_X12_copies (1 : Int32) (0 : Int32) h8 (fun h9 => ((¬ x1 = (5 : Int32) → wp_X12_tried_84 Q x3 h9) ∧ (x1 = (5 : Int32) → (∀ h18, h18 = ck_sI h9 21 1 (99 : Int32) → wp_X12_tried_84 Q x3 h18)))))))) ∧ (¬ x3 ≤ (99 : Int32) → Q (-1 : Int32) h))))))
def wp_X12_tried_35 (Q : Int32 → ck_H → Prop) (x1 : Int32) (x2 : Int32) (x3 : Int32) (h : ck_H) : Prop := wp_X12_tried_36 Q x1 x2 x3 (0 : Int32) h
def wp_X12_tried (x1 : Int32) (x2 : Int32) (x3 : Int32) (h : ck_H) (Q : Int32 → ck_H → Prop) : Prop := (∀ h1, h1 = ck_sI h 0 0 (0 : Int32) → ((¬ x1 = (2 : Int32) → ((x1 < 0 → wp_X12_tried_35 Q x1 x2 x3 h1) ∧ (¬ x1 < 0 → (((5 : Int32) < x1 → wp_X12_tried_35 Q x1 x2 x3 h1) ∧ (¬ (5 : Int32) < x1 → ((¬ x2 = 0 → wp_X12_tried_35 Q x1 x2 x3 h1) ∧ (x2 = 0 → wp_X12_tried_36 Q x1 x2 x3 (1 : Int32) h1))))))) ∧ (x1 = (2 : Int32) → (wp_X12_isJudge x2 h1 (fun r22 h21 => wp_X12_tried_36 Q x1 x2 x3 r22 h21)))))
set_option maxHeartbeats 4000000 in
set_option maxRecDepth 100000 in
theorem cp_X12_tried_84 {gr : Bool} {Q : Int32 → ck_H → Prop} : ∀ (x3 : Int32) (h : ck_H), wp_X12_tried_84 Q x3 h → ck_W cX12_tried 5 RX12 (some .int) 12 0 0 false gr (ck_Qi ck_shM Q) ck_shM h 0 0 84 [(0, .ref 0), (3, .int x3)] [] := by
  intro x3 h hq
  refine ck_aload_n 0 dX12_tried_84 rfl rfl ?_
  refine ck_iload_n 1 dX12_tried_85 rfl rfl ?_
  refine ck_callV (c_X12_goesOn hq) rfl cal_X12_goesOn rfl ml_X12_423 vir_X12_goesOn rfl rfl (by decide) (Nat.le_of_ble_eq_true rfl) (Nat.le_of_ble_eq_true rfl) (by decide) (by decide) dX12_tried_86 ?_
  rintro _ _ h11 ⟨rfl, rfl, hq⟩
  refine ck_aload_n 0 dX12_tried_89 rfl rfl ?_
  refine ck_iconst (v := 0) dX12_tried_90 (by decide) ?_
  refine ck_putI clX12 46 rfl rfl (by decide) fl_X12_352 rfl rfl rfl dX12_tried_91 ?_
  refine ck_nmH (fun h12 eh12 => ?_)
  have hq := hq h12 eh12
  refine ck_aload_n 0 dX12_tried_94 rfl rfl ?_
  refine ck_iconst (v := -1) dX12_tried_95 (by decide) ?_
  refine ck_putI clX12 47 rfl rfl (by decide) fl_X12_99 rfl rfl rfl dX12_tried_96 ?_
  refine ck_nmH (fun h13 eh13 => ?_)
  have hq := hq h13 eh13
  refine ck_aload_n 0 dX12_tried_99 rfl rfl ?_
  refine ck_iconst (v := 1) dX12_tried_100 (by decide) ?_
  refine ck_callV (c_X12_gainAll hq) rfl cal_X12_gainAll rfl ml_X12_429 vir_X12_gainAll rfl rfl (by decide) (Nat.le_of_ble_eq_true rfl) (Nat.le_of_ble_eq_true rfl) (by decide) (by decide) dX12_tried_101 ?_
  rintro _ _ h14 ⟨r15, rfl, rfl, hq⟩
  refine ck_aload_n 0 dX12_tried_104 rfl rfl ?_
  refine ck_iconst (v := 0) dX12_tried_105 (by decide) ?_
  refine ck_callV (c_X12_gainAll hq) rfl cal_X12_gainAll rfl ml_X12_429 vir_X12_gainAll rfl rfl (by decide) (Nat.le_of_ble_eq_true rfl) (Nat.le_of_ble_eq_true rfl) (by decide) (by decide) dX12_tried_106 ?_
  rintro _ _ h16 ⟨r17, rfl, rfl, hq⟩
  refine ck_isub dX12_tried_109 ?_
  exact ck_iret rfl rfl rfl rfl dX12_tried_110 ⟨_, rfl, rfl, hq⟩
set_option maxHeartbeats 4000000 in
set_option maxRecDepth 100000 in
theorem cp_X12_tried_36 {gr : Bool} {Q : Int32 → ck_H → Prop} : ∀ (x1 : Int32) (x2 : Int32) (x3 : Int32) (y0 : Int32) (h : ck_H), wp_X12_tried_36 Q x1 x2 x3 y0 h → ck_W cX12_tried 5 RX12 (some .int) 12 0 0 false gr (ck_Qi ck_shM Q) ck_shM h 0 0 36 [(0, .ref 0), (1, .int x1), (2, .int x2), (3, .int x3)] [.int y0] := by
  intro x1 x2 x3 y0 h hq
  refine ck_istore (lv' := [(4, .int y0), (0, .ref 0), (1, .int x1), (2, .int x2), (3, .int x3)]) dX12_tried_36 (by decide) rfl ?_
  refine ck_iload 0 dX12_tried_38 rfl ?_
  refine ck_if_eq (tgt := 53) dX12_tried_40 (by decide) (fun c4 => ?_) (fun c4 => ?_)
  · have hq := hq.1 c4
    refine ck_iconst (v := -1) dX12_tried_53 (by decide) ?_
    exact ck_iret rfl rfl rfl rfl dX12_tried_54 ⟨_, rfl, rfl, hq⟩
  · have hq := hq.2 c4
    refine ck_iload_n 4 dX12_tried_43 rfl rfl ?_
    refine ck_if_lt (tgt := 53) dX12_tried_44 (by decide) (fun c5 => ?_) (fun c5 => ?_)
    · have hq := hq.1 c5
      refine ck_iconst (v := -1) dX12_tried_53 (by decide) ?_
      exact ck_iret rfl rfl rfl rfl dX12_tried_54 ⟨_, rfl, rfl, hq⟩
    · have hq := hq.2 c5
      refine ck_iload_n 4 dX12_tried_47 rfl rfl ?_
      refine ck_bipush (v := 99) dX12_tried_48 (by decide) ?_
      refine ck_icmp_le (tgt := 55) dX12_tried_50 (by decide) (fun c6 => ?_) (fun c6 => ?_)
      · have hq := hq.1 c6
        refine ck_aload_n 1 dX12_tried_55 rfl rfl ?_
        refine ck_iload_n 2 dX12_tried_56 rfl rfl ?_
        refine ck_putI clX12 46 rfl rfl (by decide) fl_X12_352 rfl rfl rfl dX12_tried_57 ?_
        refine ck_nmH (fun h7 eh7 => ?_)
        have hq := hq h7 eh7
        refine ck_aload_n 1 dX12_tried_60 rfl rfl ?_
        refine ck_iload_n 3 dX12_tried_61 rfl rfl ?_
        refine ck_putI clX12 47 rfl rfl (by decide) fl_X12_99 rfl rfl rfl dX12_tried_62 ?_
        refine ck_nmH (fun h8 eh8 => ?_)
        have hq := hq h8 eh8
        refine ck_aload_n 1 dX12_tried_65 rfl rfl ?_
        refine ck_iconst (v := 1) dX12_tried_66 (by decide) ?_
        refine ck_iconst (v := 0) dX12_tried_67 (by decide) ?_
        refine ck_callV (c_X12_copies hq) rfl cal_X12_copies rfl ml_X12_417 vir_X12_copies rfl rfl (by decide) (Nat.le_of_ble_eq_true rfl) (Nat.le_of_ble_eq_true rfl) (by decide) (by decide) dX12_tried_68 ?_
        rintro _ _ h9 ⟨rfl, rfl, hq⟩
        refine ck_iload_n 2 dX12_tried_71 rfl rfl ?_
        refine ck_iconst (v := 5) dX12_tried_72 (by decide) ?_
        refine ck_icmp_ne (tgt := 84) dX12_tried_73 (by decide) (fun c10 => ?_) (fun c10 => ?_)
        · have hq := hq.1 c10
          refine ck_loc [1, 4] rfl ?_
          exact cp_X12_tried_84 _ _ hq
        · have hq := hq.2 c10
          refine ck_aload_n 1 dX12_tried_76 rfl rfl ?_
          refine ck_getR clX12 36 rfl rfl (by decide) fl_X12_75 dX12_tried_77 ?_
          refine ck_iconst (v := 1) dX12_tried_80 (by decide) ?_
          refine ck_bipush (v := 99) dX12_tried_81 (by decide) ?_
          refine ck_iast (j := 1) (by decide) rfl (ck_inL (by decide)) dX12_tried_83 ?_
          refine ck_nmH (fun h18 eh18 => ?_)
          have hq := hq h18 eh18
          refine ck_loc [1, 4] rfl ?_
          exact cp_X12_tried_84 _ _ hq
      · have hq := hq.2 c6
        refine ck_iconst (v := -1) dX12_tried_53 (by decide) ?_
        exact ck_iret rfl rfl rfl rfl dX12_tried_54 ⟨_, rfl, rfl, hq⟩
set_option maxHeartbeats 4000000 in
set_option maxRecDepth 100000 in
theorem cp_X12_tried_35 {gr : Bool} {Q : Int32 → ck_H → Prop} : ∀ (x1 : Int32) (x2 : Int32) (x3 : Int32) (h : ck_H), wp_X12_tried_35 Q x1 x2 x3 h → ck_W cX12_tried 5 RX12 (some .int) 12 0 0 false gr (ck_Qi ck_shM Q) ck_shM h 0 0 35 [(0, .ref 0), (1, .int x1), (2, .int x2), (3, .int x3)] [] := by
  intro x1 x2 x3 h hq
  refine ck_iconst (v := 0) dX12_tried_35 (by decide) ?_
  exact cp_X12_tried_36 _ _ _ _ _ hq
set_option maxHeartbeats 4000000 in
set_option maxRecDepth 100000 in
theorem c_X12_tried {gr : Bool} {x1 : Int32} {x2 : Int32} {x3 : Int32} {h : ck_H} {Q : Int32 → ck_H → Prop} (hq : wp_X12_tried x1 x2 x3 h Q) : ck_M yX12_tried cX12_tried 5 (some .int) 12 0 0 gr ck_shM h [.ref 0, .int x1, .int x2, .int x3] (ck_Qi ck_shM Q) := by
  refine ck_entry (lv := [(0, .ref 0), (1, .int x1), (2, .int x2), (3, .int x3)]) false (own := RX12) rfl (fun q => by cases q) (by decide) (Nat.le_of_ble_eq_true rfl) rfl ?_
  refine ck_aload_n 0 dX12_tried_0 rfl rfl ?_
  refine ck_iconst (v := 0) dX12_tried_1 (by decide) ?_
  refine ck_putI clX12 0 rfl rfl (by decide) fl_X12_145 rfl rfl rfl dX12_tried_2 ?_
  refine ck_nmH (fun h1 eh1 => ?_)
  have hq := hq h1 eh1
  refine ck_iload_n 1 dX12_tried_5 rfl rfl ?_
  refine ck_iconst (v := 2) dX12_tried_6 (by decide) ?_
  refine ck_icmp_ne (tgt := 18) dX12_tried_7 (by decide) (fun c2 => ?_) (fun c2 => ?_)
  · have hq := hq.1 c2
    refine ck_iload_n 1 dX12_tried_18 rfl rfl ?_
    refine ck_if_lt (tgt := 35) dX12_tried_19 (by decide) (fun c3 => ?_) (fun c3 => ?_)
    · have hq := hq.1 c3
      exact cp_X12_tried_35 _ _ _ _ hq
    · have hq := hq.2 c3
      refine ck_iload_n 1 dX12_tried_22 rfl rfl ?_
      refine ck_iconst (v := 5) dX12_tried_23 (by decide) ?_
      refine ck_icmp_gt (tgt := 35) dX12_tried_24 (by decide) (fun c19 => ?_) (fun c19 => ?_)
      · have hq := hq.1 c19
        exact cp_X12_tried_35 _ _ _ _ hq
      · have hq := hq.2 c19
        refine ck_iload_n 2 dX12_tried_27 rfl rfl ?_
        refine ck_if_ne (tgt := 35) dX12_tried_28 (by decide) (fun c20 => ?_) (fun c20 => ?_)
        · have hq := hq.1 c20
          exact cp_X12_tried_35 _ _ _ _ hq
        · have hq := hq.2 c20
          refine ck_iconst (v := 1) dX12_tried_31 (by decide) ?_
          refine ck_goto (tgt := 36) dX12_tried_32 (by decide) ?_
          exact cp_X12_tried_36 _ _ _ _ _ hq
  · have hq := hq.2 c2
    refine ck_aload_n 0 dX12_tried_10 rfl rfl ?_
    refine ck_iload_n 2 dX12_tried_11 rfl rfl ?_
    refine ck_callV (c_X12_isJudge hq) rfl cal_X12_isJudge rfl ml_X12_404 vir_X12_isJudge rfl rfl (by decide) (Nat.le_of_ble_eq_true rfl) (Nat.le_of_ble_eq_true rfl) (by decide) (by decide) dX12_tried_12 ?_
    rintro _ _ h21 ⟨r22, rfl, rfl, hq⟩
    refine ck_goto (tgt := 36) dX12_tried_15 (by decide) ?_
    exact cp_X12_tried_36 _ _ _ _ _ hq
def wp_X12_undo (h : ck_H) (Q : Int32 → ck_H → Prop) : Prop := (∀ h1, h1 = ck_sI h 0 0 (0 : Int32) → ((¬ (h1.1 0 45) = 0 → (∀ h3, h3 = ck_sI h1 0 45 ((h1.1 0 45) - (1 : Int32)) → (wp_X12_copies (0 : Int32) ((3 : Int32) + (h3.1 0 45)) h3 (fun h4 => Q (h4.1 0 45) h4)))) ∧ ((h1.1 0 45) = 0 → Q (-1 : Int32) h1)))
set_option maxHeartbeats 4000000 in
set_option maxRecDepth 100000 in
theorem c_X12_undo {gr : Bool} {h : ck_H} {Q : Int32 → ck_H → Prop} (hq : wp_X12_undo h Q) : ck_M yX12_undo cX12_undo 1 (some .int) 3 0 0 gr ck_shM h [.ref 0] (ck_Qi ck_shM Q) := by
  refine ck_entry (lv := [(0, .ref 0)]) false (own := RX12) rfl (fun q => by cases q) (by decide) (Nat.le_of_ble_eq_true rfl) rfl ?_
  refine ck_aload_n 0 dX12_undo_0 rfl rfl ?_
  refine ck_iconst (v := 0) dX12_undo_1 (by decide) ?_
  refine ck_putI clX12 0 rfl rfl (by decide) fl_X12_145 rfl rfl rfl dX12_undo_2 ?_
  refine ck_nmH (fun h1 eh1 => ?_)
  have hq := hq h1 eh1
  refine ck_aload_n 0 dX12_undo_5 rfl rfl ?_
  refine ck_getI clX12 45 rfl rfl (by decide) fl_X12_302 dX12_undo_6 ?_
  refine ck_if_ne (tgt := 14) dX12_undo_9 (by decide) (fun c2 => ?_) (fun c2 => ?_)
  · have hq := hq.1 c2
    refine ck_aload_n 0 dX12_undo_14 rfl rfl ?_
    refine ck_dup dX12_undo_15 rfl ?_
    refine ck_getI clX12 45 rfl rfl (by decide) fl_X12_302 dX12_undo_16 ?_
    refine ck_iconst (v := 1) dX12_undo_19 (by decide) ?_
    refine ck_isub dX12_undo_20 ?_
    refine ck_putI clX12 45 rfl rfl (by decide) fl_X12_302 rfl rfl rfl dX12_undo_21 ?_
    refine ck_nmH (fun h3 eh3 => ?_)
    have hq := hq h3 eh3
    refine ck_aload_n 0 dX12_undo_24 rfl rfl ?_
    refine ck_iconst (v := 0) dX12_undo_25 (by decide) ?_
    refine ck_iconst (v := 3) dX12_undo_26 (by decide) ?_
    refine ck_aload_n 0 dX12_undo_27 rfl rfl ?_
    refine ck_getI clX12 45 rfl rfl (by decide) fl_X12_302 dX12_undo_28 ?_
    refine ck_iadd dX12_undo_31 ?_
    refine ck_callV (c_X12_copies hq) rfl cal_X12_copies rfl ml_X12_417 vir_X12_copies rfl rfl (by decide) (Nat.le_of_ble_eq_true rfl) (Nat.le_of_ble_eq_true rfl) (by decide) (by decide) dX12_undo_32 ?_
    rintro _ _ h4 ⟨rfl, rfl, hq⟩
    refine ck_aload_n 0 dX12_undo_35 rfl rfl ?_
    refine ck_getI clX12 45 rfl rfl (by decide) fl_X12_302 dX12_undo_36 ?_
    exact ck_iret rfl rfl rfl rfl dX12_undo_39 ⟨_, rfl, rfl, hq⟩
  · have hq := hq.2 c2
    refine ck_iconst (v := -1) dX12_undo_12 (by decide) ?_
    exact ck_iret rfl rfl rfl rfl dX12_undo_13 ⟨_, rfl, rfl, hq⟩
def wp_X12_keep (h : ck_H) (Q : Int32 → ck_H → Prop) : Prop := (∀ h1, h1 = ck_sI h 0 0 (0 : Int32) → (wp_X12_copies (2 : Int32) (0 : Int32) h1 (fun h2 => (∀ h3, h3 = ck_sI h2 0 44 (1 : Int32) → Q (h3.1 20 0) h3))))
set_option maxHeartbeats 4000000 in
set_option maxRecDepth 100000 in
theorem c_X12_keep {gr : Bool} {h : ck_H} {Q : Int32 → ck_H → Prop} (hq : wp_X12_keep h Q) : ck_M yX12_keep cX12_keep 1 (some .int) 3 0 0 gr ck_shM h [.ref 0] (ck_Qi ck_shM Q) := by
  refine ck_entry (lv := [(0, .ref 0)]) false (own := RX12) rfl (fun q => by cases q) (by decide) (Nat.le_of_ble_eq_true rfl) rfl ?_
  refine ck_aload_n 0 dX12_keep_0 rfl rfl ?_
  refine ck_iconst (v := 0) dX12_keep_1 (by decide) ?_
  refine ck_putI clX12 0 rfl rfl (by decide) fl_X12_145 rfl rfl rfl dX12_keep_2 ?_
  refine ck_nmH (fun h1 eh1 => ?_)
  have hq := hq h1 eh1
  refine ck_aload_n 0 dX12_keep_5 rfl rfl ?_
  refine ck_iconst (v := 2) dX12_keep_6 (by decide) ?_
  refine ck_iconst (v := 0) dX12_keep_7 (by decide) ?_
  refine ck_callV (c_X12_copies hq) rfl cal_X12_copies rfl ml_X12_417 vir_X12_copies rfl rfl (by decide) (Nat.le_of_ble_eq_true rfl) (Nat.le_of_ble_eq_true rfl) (by decide) (by decide) dX12_keep_8 ?_
  rintro _ _ h2 ⟨rfl, rfl, hq⟩
  refine ck_aload_n 0 dX12_keep_11 rfl rfl ?_
  refine ck_iconst (v := 1) dX12_keep_12 (by decide) ?_
  refine ck_putI clX12 44 rfl rfl (by decide) fl_X12_298 rfl (by decide) (by decide) dX12_keep_13 ?_
  refine ck_nmH (fun h3 eh3 => ?_)
  have hq := hq h3 eh3
  refine ck_aload_n 0 dX12_keep_16 rfl rfl ?_
  refine ck_getR clX12 35 rfl rfl (by decide) fl_X12_72 dX12_keep_17 ?_
  refine ck_iconst (v := 0) dX12_keep_20 (by decide) ?_
  refine ck_iald (j := 0) (by decide) rfl (ck_inL (by decide)) dX12_keep_21 ?_
  exact ck_iret rfl rfl rfl rfl dX12_keep_22 ⟨_, rfl, rfl, hq⟩
def wp_X12_back (h : ck_H) (Q : Int32 → ck_H → Prop) : Prop := (∀ h1, h1 = ck_sI h 0 0 (0 : Int32) → ((¬ (h1.1 0 44) = 0 → (wp_X12_copies (0 : Int32) (2 : Int32) h1 (fun h3 => (∀ h4, h4 = ck_sI h3 0 45 (0 : Int32) → Q (h4.1 20 0) h4)))) ∧ ((h1.1 0 44) = 0 → Q (-1 : Int32) h1)))
set_option maxHeartbeats 4000000 in
set_option maxRecDepth 100000 in
theorem c_X12_back {gr : Bool} {h : ck_H} {Q : Int32 → ck_H → Prop} (hq : wp_X12_back h Q) : ck_M yX12_back cX12_back 1 (some .int) 3 0 0 gr ck_shM h [.ref 0] (ck_Qi ck_shM Q) := by
  refine ck_entry (lv := [(0, .ref 0)]) false (own := RX12) rfl (fun q => by cases q) (by decide) (Nat.le_of_ble_eq_true rfl) rfl ?_
  refine ck_aload_n 0 dX12_back_0 rfl rfl ?_
  refine ck_iconst (v := 0) dX12_back_1 (by decide) ?_
  refine ck_putI clX12 0 rfl rfl (by decide) fl_X12_145 rfl rfl rfl dX12_back_2 ?_
  refine ck_nmH (fun h1 eh1 => ?_)
  have hq := hq h1 eh1
  refine ck_aload_n 0 dX12_back_5 rfl rfl ?_
  refine ck_getI clX12 44 rfl rfl (by decide) fl_X12_298 dX12_back_6 ?_
  refine ck_if_ne (tgt := 14) dX12_back_9 (by decide) (fun c2 => ?_) (fun c2 => ?_)
  · have hq := hq.1 c2
    refine ck_aload_n 0 dX12_back_14 rfl rfl ?_
    refine ck_iconst (v := 0) dX12_back_15 (by decide) ?_
    refine ck_iconst (v := 2) dX12_back_16 (by decide) ?_
    refine ck_callV (c_X12_copies hq) rfl cal_X12_copies rfl ml_X12_417 vir_X12_copies rfl rfl (by decide) (Nat.le_of_ble_eq_true rfl) (Nat.le_of_ble_eq_true rfl) (by decide) (by decide) dX12_back_17 ?_
    rintro _ _ h3 ⟨rfl, rfl, hq⟩
    refine ck_aload_n 0 dX12_back_20 rfl rfl ?_
    refine ck_iconst (v := 0) dX12_back_21 (by decide) ?_
    refine ck_putI clX12 45 rfl rfl (by decide) fl_X12_302 rfl rfl rfl dX12_back_22 ?_
    refine ck_nmH (fun h4 eh4 => ?_)
    have hq := hq h4 eh4
    refine ck_aload_n 0 dX12_back_25 rfl rfl ?_
    refine ck_getR clX12 35 rfl rfl (by decide) fl_X12_72 dX12_back_26 ?_
    refine ck_iconst (v := 0) dX12_back_29 (by decide) ?_
    refine ck_iald (j := 0) (by decide) rfl (ck_inL (by decide)) dX12_back_30 ?_
    exact ck_iret rfl rfl rfl rfl dX12_back_31 ⟨_, rfl, rfl, hq⟩
  · have hq := hq.2 c2
    refine ck_iconst (v := -1) dX12_back_12 (by decide) ?_
    exact ck_iret rfl rfl rfl rfl dX12_back_13 ⟨_, rfl, rfl, hq⟩
def wp_X12_mouseAll_40 (Q : Int32 → ck_H → Prop) (Kc : Int32 → Int32 → ck_H → Prop) (x2 : Int32) (y0 : Int32) (y1 : Int32) (h : ck_H) : Prop := (∀ v4, v4 = (y0 + y1) → (∀ v5, v5 = x2 + 1 → Kc v4 v5 h))
def wp_X12_mouseAll_4 (Q : Int32 → ck_H → Prop) : Nat → Int32 → Int32 → ck_H → Prop
  | 0 => fun _ _ _ => False
  | n + 1 => fun x1 x2 h => (((h.1 2 2) ≤ x2 → Q x1 h) ∧ (¬ (h.1 2 2) ≤ x2 → (vp_in x2 230 ∧ ((¬ (h.1 28 x2.toNatClampNeg) = (3 : Int32) → wp_X12_mouseAll_40 Q (wp_X12_mouseAll_4 Q n) x2 x1 (0 : Int32) h) ∧ ((h.1 28 x2.toNatClampNeg) = (3 : Int32) → (vp_in x2 20 ∧ (vp_in (h.1 12 x2.toNatClampNeg) 12 ∧ wp_X12_mouseAll_40 Q (wp_X12_mouseAll_4 Q n) x2 x1 (h.1 8 (h.1 12 x2.toNatClampNeg).toNatClampNeg) h)))))))
def wp_X12_mouseAll (h : ck_H) (Q : Int32 → ck_H → Prop) : Prop := wp_X12_mouseAll_4 Q lpN (0 : Int32) (0 : Int32) h
set_option maxHeartbeats 4000000 in
set_option maxRecDepth 100000 in
theorem cp_X12_mouseAll_40 {gr : Bool} {Q : Int32 → ck_H → Prop} {Kc : Int32 → Int32 → ck_H → Prop} (hKc : ∀ (x1 : Int32) (x2 : Int32) (h : ck_H), Kc x1 x2 h → ck_W cX12_mouseAll 3 RX12 (some .int) 2 0 0 false gr (ck_Qi ck_shM Q) ck_shM h 0 0 4 [(0, .ref 0), (1, .int x1), (2, .int x2)] []) : ∀ (x2 : Int32) (y0 : Int32) (y1 : Int32) (h : ck_H), wp_X12_mouseAll_40 Q Kc x2 y0 y1 h → ck_W cX12_mouseAll 3 RX12 (some .int) 2 0 0 false gr (ck_Qi ck_shM Q) ck_shM h 0 0 40 [(0, .ref 0), (2, .int x2)] [.int y1, .int y0] := by
  intro x2 y0 y1 h hq
  refine ck_iadd dX12_mouseAll_40 ?_
  refine ck_nmI (fun v4 ev4 => ?_)
  have hq := hq v4 ev4
  refine ck_istore_n (lv' := [(1, .int v4), (0, .ref 0), (2, .int x2)]) dX12_mouseAll_41 rfl (by decide) rfl ?_
  obtain ⟨v5, ev5⟩ : ∃ z : Int32, z = x2 + 1 := ⟨_, rfl⟩
  have hq := hq v5 ev5
  refine ck_iinc (v := v5) (lv' := [(2, .int v5), (1, .int v4), (0, .ref 0)]) 2 dX12_mouseAll_42 rfl (by rw [ev5]; rfl) (by decide) rfl ?_
  refine ck_goto (tgt := 4) dX12_mouseAll_45 (by decide) ?_
  refine ck_loc [2, 1, 0] rfl ?_
  exact hKc _ _ _ hq
set_option maxHeartbeats 4000000 in
set_option maxRecDepth 100000 in
theorem cp_X12_mouseAll_4 {gr : Bool} {Q : Int32 → ck_H → Prop} : ∀ (n : Nat) (x1 : Int32) (x2 : Int32) (h : ck_H), wp_X12_mouseAll_4 Q n x1 x2 h → ck_W cX12_mouseAll 3 RX12 (some .int) 2 0 0 false gr (ck_Qi ck_shM Q) ck_shM h 0 0 4 [(0, .ref 0), (1, .int x1), (2, .int x2)] [] := by
  intro n
  induction n with
  | zero => intro x1 x2 h hq; exact hq.elim
  | succ n hKc =>
    intro x1 x2 h hq
    refine ck_iload_n 2 dX12_mouseAll_4 rfl rfl ?_
    refine ck_aload_n 0 dX12_mouseAll_5 rfl rfl ?_
    refine ck_getR clX12 3 rfl rfl (by decide) fl_X12_13 dX12_mouseAll_6 ?_
    refine ck_iconst (v := 2) dX12_mouseAll_9 (by decide) ?_
    refine ck_iald (j := 2) (by decide) rfl (ck_inL (by decide)) dX12_mouseAll_10 ?_
    refine ck_icmp_ge (tgt := 48) dX12_mouseAll_11 (by decide) (fun c1 => ?_) (fun c1 => ?_)
    · have hq := hq.1 c1
      refine ck_iload_n 1 dX12_mouseAll_48 rfl rfl ?_
      exact ck_iret rfl rfl rfl rfl dX12_mouseAll_49 ⟨_, rfl, rfl, hq⟩
    · have hq := hq.2 c1
      refine ck_iload_n 1 dX12_mouseAll_14 rfl rfl ?_
      refine ck_aload_n 0 dX12_mouseAll_15 rfl rfl ?_
      refine ck_getR clX12 43 rfl rfl (by decide) fl_X12_96 dX12_mouseAll_16 ?_
      refine ck_iload_n 2 dX12_mouseAll_19 rfl rfl ?_
      obtain ⟨b2, hq⟩ := hq
      refine ck_iald rfl rfl b2 dX12_mouseAll_20 ?_
      refine ck_iconst (v := 3) dX12_mouseAll_21 (by decide) ?_
      refine ck_icmp_ne (tgt := 39) dX12_mouseAll_22 (by decide) (fun c3 => ?_) (fun c3 => ?_)
      · have hq := hq.1 c3
        refine ck_iconst (v := 0) dX12_mouseAll_39 (by decide) ?_
        refine ck_loc [0, 2] rfl ?_
        exact cp_X12_mouseAll_40 hKc _ _ _ _ hq
      · have hq := hq.2 c3
        refine ck_aload_n 0 dX12_mouseAll_25 rfl rfl ?_
        refine ck_getR clX12 9 rfl rfl (by decide) fl_X12_31 dX12_mouseAll_26 ?_
        refine ck_aload_n 0 dX12_mouseAll_29 rfl rfl ?_
        refine ck_getR clX12 13 rfl rfl (by decide) fl_X12_43 dX12_mouseAll_30 ?_
        refine ck_iload_n 2 dX12_mouseAll_33 rfl rfl ?_
        obtain ⟨b6, hq⟩ := hq
        refine ck_iald rfl rfl b6 dX12_mouseAll_34 ?_
        obtain ⟨b7, hq⟩ := hq
        refine ck_iald rfl rfl b7 dX12_mouseAll_35 ?_
        refine ck_goto (tgt := 40) dX12_mouseAll_36 (by decide) ?_
        refine ck_loc [0, 2] rfl ?_
        exact cp_X12_mouseAll_40 hKc _ _ _ _ hq
set_option maxHeartbeats 4000000 in
set_option maxRecDepth 100000 in
theorem c_X12_mouseAll {gr : Bool} {h : ck_H} {Q : Int32 → ck_H → Prop} (hq : wp_X12_mouseAll h Q) : ck_M yX12_mouseAll cX12_mouseAll 3 (some .int) 2 0 0 gr ck_shM h [.ref 0] (ck_Qi ck_shM Q) := by
  refine ck_entry (lv := [(0, .ref 0)]) false (own := RX12) rfl (fun q => by cases q) (by decide) (Nat.le_of_ble_eq_true rfl) rfl ?_
  refine ck_iconst (v := 0) dX12_mouseAll_0 (by decide) ?_
  refine ck_istore_n (lv' := [(1, .int (0 : Int32)), (0, .ref 0)]) dX12_mouseAll_1 rfl (by decide) rfl ?_
  refine ck_iconst (v := 0) dX12_mouseAll_2 (by decide) ?_
  refine ck_istore_n (lv' := [(2, .int (0 : Int32)), (1, .int (0 : Int32)), (0, .ref 0)]) dX12_mouseAll_3 rfl (by decide) rfl ?_
  refine ck_loc [2, 1, 0] rfl ?_
  refine cp_X12_mouseAll_4 lpN _ _ _ hq
def wp_X12_count (x1 : Int32) (h : ck_H) (Q : Int32 → ck_H → Prop) : Prop := (∀ h1, h1 = ck_sI h 0 0 (0 : Int32) → ((x1 = 0 → Q (h1.1 2 0) h1) ∧ (¬ x1 = 0 → ((x1 = 1 → Q (h1.1 2 1) h1) ∧ (¬ x1 = 1 → ((x1 = 2 → Q (h1.1 2 2) h1) ∧ (¬ x1 = 2 → ((x1 = 3 → Q (h1.1 2 6) h1) ∧ (¬ x1 = 3 → ((x1 = 4 → Q (h1.1 20 0) h1) ∧ (¬ x1 = 4 → ((x1 = 5 → Q (h1.1 21 0) h1) ∧ (¬ x1 = 5 → ((x1 = 6 → (wp_X12_manyOf (0 : Int32) (0 : Int32) h1 (fun r10 h9 => Q r10 h9))) ∧ (¬ x1 = 6 → ((x1 = 7 → (wp_X12_manyOf (0 : Int32) (1 : Int32) h1 (fun r13 h12 => Q r13 h12))) ∧ (¬ x1 = 7 → ((x1 = 8 → (wp_X12_manyOf (0 : Int32) (2 : Int32) h1 (fun r16 h15 => Q r16 h15))) ∧ (¬ x1 = 8 → ((x1 = 9 → (wp_X12_manyOf (0 : Int32) (3 : Int32) h1 (fun r19 h18 => Q r19 h18))) ∧ (¬ x1 = 9 → ((x1 = 10 → (wp_X12_gainAll (0 : Int32) h1 (fun r22 h21 => Q r22 h21))) ∧ (¬ x1 = 10 → ((x1 = 11 → (wp_X12_mouseAll h1 (fun r25 h24 => Q r25 h24))) ∧ (¬ x1 = 11 → ((x1 = 12 → Q (h1.1 23 0) h1) ∧ (¬ x1 = 12 → ((x1 = 13 → Q (h1.1 0 62) h1) ∧ (¬ x1 = 13 → ((x1 = 14 → (wp_X12_knownMany h1 (fun r30 h29 => Q r30 h29))) ∧ (¬ x1 = 14 → ((x1 = 15 → Q (h1.1 0 45) h1) ∧ (¬ x1 = 15 → Q (-1 : Int32) h1)))))))))))))))))))))))))))))))))
set_option maxHeartbeats 4000000 in
set_option maxRecDepth 100000 in
theorem c_X12_count {gr : Bool} {x1 : Int32} {h : ck_H} {Q : Int32 → ck_H → Prop} (hq : wp_X12_count x1 h Q) : ck_M yX12_count cX12_count 2 (some .int) 4 0 0 gr ck_shM h [.ref 0, .int x1] (ck_Qi ck_shM Q) := by
  refine ck_entry (lv := [(0, .ref 0), (1, .int x1)]) false (own := RX12) rfl (fun q => by cases q) (by decide) (Nat.le_of_ble_eq_true rfl) rfl ?_
  refine ck_aload_n 0 dX12_count_0 rfl rfl ?_
  refine ck_iconst (v := 0) dX12_count_1 (by decide) ?_
  refine ck_putI clX12 0 rfl rfl (by decide) fl_X12_145 rfl rfl rfl dX12_count_2 ?_
  refine ck_nmH (fun h1 eh1 => ?_)
  have hq := hq h1 eh1
  refine ck_iload_n 1 dX12_count_5 rfl rfl ?_
  by_cases c2 : x1 = 0
  · have hq := hq.1 c2
    refine ck_tabIn (tgt := 84) dX12_count_6 (by rw [c2]; decide) (by rw [c2]; decide) (by rw [c2]; rfl) (by decide) ?_
    refine ck_aload_n 0 dX12_count_84 rfl rfl ?_
    refine ck_getR clX12 3 rfl rfl (by decide) fl_X12_13 dX12_count_85 ?_
    refine ck_iconst (v := 0) dX12_count_88 (by decide) ?_
    refine ck_iald (j := 0) (by decide) rfl (ck_inL (by decide)) dX12_count_89 ?_
    exact ck_iret rfl rfl rfl rfl dX12_count_90 ⟨_, rfl, rfl, hq⟩
  have hq := hq.2 c2
  by_cases c3 : x1 = 1
  · have hq := hq.1 c3
    refine ck_tabIn (tgt := 91) dX12_count_6 (by rw [c3]; decide) (by rw [c3]; decide) (by rw [c3]; rfl) (by decide) ?_
    refine ck_aload_n 0 dX12_count_91 rfl rfl ?_
    refine ck_getR clX12 3 rfl rfl (by decide) fl_X12_13 dX12_count_92 ?_
    refine ck_iconst (v := 1) dX12_count_95 (by decide) ?_
    refine ck_iald (j := 1) (by decide) rfl (ck_inL (by decide)) dX12_count_96 ?_
    exact ck_iret rfl rfl rfl rfl dX12_count_97 ⟨_, rfl, rfl, hq⟩
  have hq := hq.2 c3
  by_cases c4 : x1 = 2
  · have hq := hq.1 c4
    refine ck_tabIn (tgt := 98) dX12_count_6 (by rw [c4]; decide) (by rw [c4]; decide) (by rw [c4]; rfl) (by decide) ?_
    refine ck_aload_n 0 dX12_count_98 rfl rfl ?_
    refine ck_getR clX12 3 rfl rfl (by decide) fl_X12_13 dX12_count_99 ?_
    refine ck_iconst (v := 2) dX12_count_102 (by decide) ?_
    refine ck_iald (j := 2) (by decide) rfl (ck_inL (by decide)) dX12_count_103 ?_
    exact ck_iret rfl rfl rfl rfl dX12_count_104 ⟨_, rfl, rfl, hq⟩
  have hq := hq.2 c4
  by_cases c5 : x1 = 3
  · have hq := hq.1 c5
    refine ck_tabIn (tgt := 105) dX12_count_6 (by rw [c5]; decide) (by rw [c5]; decide) (by rw [c5]; rfl) (by decide) ?_
    refine ck_aload_n 0 dX12_count_105 rfl rfl ?_
    refine ck_getR clX12 3 rfl rfl (by decide) fl_X12_13 dX12_count_106 ?_
    refine ck_bipush (v := 6) dX12_count_109 (by decide) ?_
    refine ck_iald (j := 6) (by decide) rfl (ck_inL (by decide)) dX12_count_111 ?_
    exact ck_iret rfl rfl rfl rfl dX12_count_112 ⟨_, rfl, rfl, hq⟩
  have hq := hq.2 c5
  by_cases c6 : x1 = 4
  · have hq := hq.1 c6
    refine ck_tabIn (tgt := 113) dX12_count_6 (by rw [c6]; decide) (by rw [c6]; decide) (by rw [c6]; rfl) (by decide) ?_
    refine ck_aload_n 0 dX12_count_113 rfl rfl ?_
    refine ck_getR clX12 35 rfl rfl (by decide) fl_X12_72 dX12_count_114 ?_
    refine ck_iconst (v := 0) dX12_count_117 (by decide) ?_
    refine ck_iald (j := 0) (by decide) rfl (ck_inL (by decide)) dX12_count_118 ?_
    exact ck_iret rfl rfl rfl rfl dX12_count_119 ⟨_, rfl, rfl, hq⟩
  have hq := hq.2 c6
  by_cases c7 : x1 = 5
  · have hq := hq.1 c7
    refine ck_tabIn (tgt := 120) dX12_count_6 (by rw [c7]; decide) (by rw [c7]; decide) (by rw [c7]; rfl) (by decide) ?_
    refine ck_aload_n 0 dX12_count_120 rfl rfl ?_
    refine ck_getR clX12 36 rfl rfl (by decide) fl_X12_75 dX12_count_121 ?_
    refine ck_iconst (v := 0) dX12_count_124 (by decide) ?_
    refine ck_iald (j := 0) (by decide) rfl (ck_inL (by decide)) dX12_count_125 ?_
    exact ck_iret rfl rfl rfl rfl dX12_count_126 ⟨_, rfl, rfl, hq⟩
  have hq := hq.2 c7
  by_cases c8 : x1 = 6
  · have hq := hq.1 c8
    refine ck_tabIn (tgt := 127) dX12_count_6 (by rw [c8]; decide) (by rw [c8]; decide) (by rw [c8]; rfl) (by decide) ?_
    refine ck_aload_n 0 dX12_count_127 rfl rfl ?_
    refine ck_iconst (v := 0) dX12_count_128 (by decide) ?_
    refine ck_iconst (v := 0) dX12_count_129 (by decide) ?_
    refine ck_callV (c_X12_manyOf hq) rfl cal_X12_manyOf rfl ml_X12_426 vir_X12_manyOf rfl rfl (by decide) (Nat.le_of_ble_eq_true rfl) (Nat.le_of_ble_eq_true rfl) (by decide) (by decide) dX12_count_130 ?_
    rintro _ _ h9 ⟨r10, rfl, rfl, hq⟩
    exact ck_iret rfl rfl rfl rfl dX12_count_133 ⟨_, rfl, rfl, hq⟩
  have hq := hq.2 c8
  by_cases c11 : x1 = 7
  · have hq := hq.1 c11
    refine ck_tabIn (tgt := 134) dX12_count_6 (by rw [c11]; decide) (by rw [c11]; decide) (by rw [c11]; rfl) (by decide) ?_
    refine ck_aload_n 0 dX12_count_134 rfl rfl ?_
    refine ck_iconst (v := 0) dX12_count_135 (by decide) ?_
    refine ck_iconst (v := 1) dX12_count_136 (by decide) ?_
    refine ck_callV (c_X12_manyOf hq) rfl cal_X12_manyOf rfl ml_X12_426 vir_X12_manyOf rfl rfl (by decide) (Nat.le_of_ble_eq_true rfl) (Nat.le_of_ble_eq_true rfl) (by decide) (by decide) dX12_count_137 ?_
    rintro _ _ h12 ⟨r13, rfl, rfl, hq⟩
    exact ck_iret rfl rfl rfl rfl dX12_count_140 ⟨_, rfl, rfl, hq⟩
  have hq := hq.2 c11
  by_cases c14 : x1 = 8
  · have hq := hq.1 c14
    refine ck_tabIn (tgt := 141) dX12_count_6 (by rw [c14]; decide) (by rw [c14]; decide) (by rw [c14]; rfl) (by decide) ?_
    refine ck_aload_n 0 dX12_count_141 rfl rfl ?_
    refine ck_iconst (v := 0) dX12_count_142 (by decide) ?_
    refine ck_iconst (v := 2) dX12_count_143 (by decide) ?_
    refine ck_callV (c_X12_manyOf hq) rfl cal_X12_manyOf rfl ml_X12_426 vir_X12_manyOf rfl rfl (by decide) (Nat.le_of_ble_eq_true rfl) (Nat.le_of_ble_eq_true rfl) (by decide) (by decide) dX12_count_144 ?_
    rintro _ _ h15 ⟨r16, rfl, rfl, hq⟩
    exact ck_iret rfl rfl rfl rfl dX12_count_147 ⟨_, rfl, rfl, hq⟩
  have hq := hq.2 c14
  by_cases c17 : x1 = 9
  · have hq := hq.1 c17
    refine ck_tabIn (tgt := 148) dX12_count_6 (by rw [c17]; decide) (by rw [c17]; decide) (by rw [c17]; rfl) (by decide) ?_
    refine ck_aload_n 0 dX12_count_148 rfl rfl ?_
    refine ck_iconst (v := 0) dX12_count_149 (by decide) ?_
    refine ck_iconst (v := 3) dX12_count_150 (by decide) ?_
    refine ck_callV (c_X12_manyOf hq) rfl cal_X12_manyOf rfl ml_X12_426 vir_X12_manyOf rfl rfl (by decide) (Nat.le_of_ble_eq_true rfl) (Nat.le_of_ble_eq_true rfl) (by decide) (by decide) dX12_count_151 ?_
    rintro _ _ h18 ⟨r19, rfl, rfl, hq⟩
    exact ck_iret rfl rfl rfl rfl dX12_count_154 ⟨_, rfl, rfl, hq⟩
  have hq := hq.2 c17
  by_cases c20 : x1 = 10
  · have hq := hq.1 c20
    refine ck_tabIn (tgt := 155) dX12_count_6 (by rw [c20]; decide) (by rw [c20]; decide) (by rw [c20]; rfl) (by decide) ?_
    refine ck_aload_n 0 dX12_count_155 rfl rfl ?_
    refine ck_iconst (v := 0) dX12_count_156 (by decide) ?_
    refine ck_callV (c_X12_gainAll hq) rfl cal_X12_gainAll rfl ml_X12_429 vir_X12_gainAll rfl rfl (by decide) (Nat.le_of_ble_eq_true rfl) (Nat.le_of_ble_eq_true rfl) (by decide) (by decide) dX12_count_157 ?_
    rintro _ _ h21 ⟨r22, rfl, rfl, hq⟩
    exact ck_iret rfl rfl rfl rfl dX12_count_160 ⟨_, rfl, rfl, hq⟩
  have hq := hq.2 c20
  by_cases c23 : x1 = 11
  · have hq := hq.1 c23
    refine ck_tabIn (tgt := 161) dX12_count_6 (by rw [c23]; decide) (by rw [c23]; decide) (by rw [c23]; rfl) (by decide) ?_
    refine ck_aload_n 0 dX12_count_161 rfl rfl ?_
    refine ck_callV (c_X12_mouseAll hq) rfl cal_X12_mouseAll rfl ml_X12_483 vir_X12_mouseAll rfl rfl (by decide) (Nat.le_of_ble_eq_true rfl) (Nat.le_of_ble_eq_true rfl) (by decide) (by decide) dX12_count_162 ?_
    rintro _ _ h24 ⟨r25, rfl, rfl, hq⟩
    exact ck_iret rfl rfl rfl rfl dX12_count_165 ⟨_, rfl, rfl, hq⟩
  have hq := hq.2 c23
  by_cases c26 : x1 = 12
  · have hq := hq.1 c26
    refine ck_tabIn (tgt := 166) dX12_count_6 (by rw [c26]; decide) (by rw [c26]; decide) (by rw [c26]; rfl) (by decide) ?_
    refine ck_aload_n 0 dX12_count_166 rfl rfl ?_
    refine ck_getR clX12 38 rfl rfl (by decide) fl_X12_81 dX12_count_167 ?_
    refine ck_iconst (v := 0) dX12_count_170 (by decide) ?_
    refine ck_iald (j := 0) (by decide) rfl (ck_inL (by decide)) dX12_count_171 ?_
    exact ck_iret rfl rfl rfl rfl dX12_count_172 ⟨_, rfl, rfl, hq⟩
  have hq := hq.2 c26
  by_cases c27 : x1 = 13
  · have hq := hq.1 c27
    refine ck_tabIn (tgt := 173) dX12_count_6 (by rw [c27]; decide) (by rw [c27]; decide) (by rw [c27]; rfl) (by decide) ?_
    refine ck_aload_n 0 dX12_count_173 rfl rfl ?_
    refine ck_getI clX12 62 rfl rfl (by decide) fl_X12_295 dX12_count_174 ?_
    exact ck_iret rfl rfl rfl rfl dX12_count_177 ⟨_, rfl, rfl, hq⟩
  have hq := hq.2 c27
  by_cases c28 : x1 = 14
  · have hq := hq.1 c28
    refine ck_tabIn (tgt := 178) dX12_count_6 (by rw [c28]; decide) (by rw [c28]; decide) (by rw [c28]; rfl) (by decide) ?_
    refine ck_aload_n 0 dX12_count_178 rfl rfl ?_
    refine ck_callV (c_X12_knownMany hq) rfl cal_X12_knownMany rfl ml_X12_477 vir_X12_knownMany rfl rfl (by decide) (Nat.le_of_ble_eq_true rfl) (Nat.le_of_ble_eq_true rfl) (by decide) (by decide) dX12_count_179 ?_
    rintro _ _ h29 ⟨r30, rfl, rfl, hq⟩
    exact ck_iret rfl rfl rfl rfl dX12_count_182 ⟨_, rfl, rfl, hq⟩
  have hq := hq.2 c28
  by_cases c31 : x1 = 15
  · have hq := hq.1 c31
    refine ck_tabIn (tgt := 183) dX12_count_6 (by rw [c31]; decide) (by rw [c31]; decide) (by rw [c31]; rfl) (by decide) ?_
    refine ck_aload_n 0 dX12_count_183 rfl rfl ?_
    refine ck_getI clX12 45 rfl rfl (by decide) fl_X12_302 dX12_count_184 ?_
    exact ck_iret rfl rfl rfl rfl dX12_count_187 ⟨_, rfl, rfl, hq⟩
  have hq := hq.2 c31
  refine ck_tabOut (tgt := 188) dX12_count_6 (by have z0 := lv_neT c2 (a := 0) (by decide); have z1 := lv_neT c3 (a := 1) (by decide); have z2 := lv_neT c4 (a := 2) (by decide); have z3 := lv_neT c5 (a := 3) (by decide); have z4 := lv_neT c6 (a := 4) (by decide); have z5 := lv_neT c7 (a := 5) (by decide); have z6 := lv_neT c8 (a := 6) (by decide); have z7 := lv_neT c11 (a := 7) (by decide); have z8 := lv_neT c14 (a := 8) (by decide); have z9 := lv_neT c17 (a := 9) (by decide); have z10 := lv_neT c20 (a := 10) (by decide); have z11 := lv_neT c23 (a := 11) (by decide); have z12 := lv_neT c26 (a := 12) (by decide); have z13 := lv_neT c27 (a := 13) (by decide); have z14 := lv_neT c28 (a := 14) (by decide); have z15 := lv_neT c31 (a := 15) (by decide); omega) (by decide) ?_
  refine ck_iconst (v := -1) dX12_count_188 (by decide) ?_
  exact ck_iret rfl rfl rfl rfl dX12_count_189 ⟨_, rfl, rfl, hq⟩
