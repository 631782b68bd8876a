theorem dX12_spoil_0 : decode cX12_spoil 0 = .ok (.aload_n 0, 1) := by decide +kernel
theorem dX12_spoil_1 : decode cX12_spoil 1 = .ok (.iconst 0, 1) := by decide +kernel
theorem dX12_spoil_2 : decode cX12_spoil 2 = .ok (.putfield 145, 3) := by decide +kernel
theorem dX12_spoil_5 : decode cX12_spoil 5 = .ok (.iload_n 1, 1) := by decide +kernel
theorem dX12_spoil_6 : decode cX12_spoil 6 = .ok (.iconst 1, 1) := by decide +kernel
theorem dX12_spoil_7 : decode cX12_spoil 7 = .ok (.if_icmp .lt 20, 3) := by decide +kernel
theorem dX12_spoil_10 : decode cX12_spoil 10 = .ok (.iload_n 1, 1) := by decide +kernel
theorem dX12_spoil_11 : decode cX12_spoil 11 = .ok (.bipush 60, 2) := by decide +kernel
theorem dX12_spoil_13 : decode cX12_spoil 13 = .ok (.if_icmp .gt 14, 3) := by decide +kernel
theorem dX12_spoil_16 : decode cX12_spoil 16 = .ok (.iload_n 2, 1) := by decide +kernel
theorem dX12_spoil_17 : decode cX12_spoil 17 = .ok (.ifCond .lt 10, 3) := by decide +kernel
theorem dX12_spoil_20 : decode cX12_spoil 20 = .ok (.iload_n 2, 1) := by decide +kernel
theorem dX12_spoil_21 : decode cX12_spoil 21 = .ok (.sipush 999, 3) := by decide +kernel
theorem dX12_spoil_24 : decode cX12_spoil 24 = .ok (.if_icmp .le 5, 3) := by decide +kernel
theorem dX12_spoil_27 : decode cX12_spoil 27 = .ok (.iconst (-1), 1) := by decide +kernel
theorem dX12_spoil_28 : decode cX12_spoil 28 = .ok (.ireturn, 1) := by decide +kernel
theorem dX12_spoil_29 : decode cX12_spoil 29 = .ok (.iconst 0, 1) := by decide +kernel
theorem dX12_spoil_30 : decode cX12_spoil 30 = .ok (.istore_n 3, 1) := by decide +kernel
theorem dX12_spoil_31 : decode cX12_spoil 31 = .ok (.iconst 0, 1) := by decide +kernel
theorem dX12_spoil_32 : decode cX12_spoil 32 = .ok (.istore 4, 2) := by decide +kernel
theorem dX12_spoil_34 : decode cX12_spoil 34 = .ok (.iload 4, 2) := by decide +kernel
theorem dX12_spoil_36 : decode cX12_spoil 36 = .ok (.aload_n 0, 1) := by decide +kernel
theorem dX12_spoil_37 : decode cX12_spoil 37 = .ok (.getfield 13, 3) := by decide +kernel
theorem dX12_spoil_40 : decode cX12_spoil 40 = .ok (.iconst 2, 1) := by decide +kernel
theorem dX12_spoil_41 : decode cX12_spoil 41 = .ok (.iaload, 1) := by decide +kernel
theorem dX12_spoil_42 : decode cX12_spoil 42 = .ok (.if_icmp .ge 44, 3) := by decide +kernel
theorem dX12_spoil_45 : decode cX12_spoil 45 = .ok (.iload_n 3, 1) := by decide +kernel
theorem dX12_spoil_46 : decode cX12_spoil 46 = .ok (.aload_n 0, 1) := by decide +kernel
theorem dX12_spoil_47 : decode cX12_spoil 47 = .ok (.iconst 0, 1) := by decide +kernel
theorem dX12_spoil_48 : decode cX12_spoil 48 = .ok (.iload 4, 2) := by decide +kernel
theorem dX12_spoil_50 : decode cX12_spoil 50 = .ok (.invokevirtual 379, 3) := by decide +kernel
theorem dX12_spoil_53 : decode cX12_spoil 53 = .ok (.ifCond .eq 24, 3) := by decide +kernel
theorem dX12_spoil_56 : decode cX12_spoil 56 = .ok (.aload_n 0, 1) := by decide +kernel
theorem dX12_spoil_57 : decode cX12_spoil 57 = .ok (.getfield 78, 3) := by decide +kernel
theorem dX12_spoil_60 : decode cX12_spoil 60 = .ok (.iconst 0, 1) := by decide +kernel
theorem dX12_spoil_61 : decode cX12_spoil 61 = .ok (.iaload, 1) := by decide +kernel
theorem dX12_spoil_62 : decode cX12_spoil 62 = .ok (.iload 4, 2) := by decide +kernel
theorem dX12_spoil_64 : decode cX12_spoil 64 = .ok (.ishr, 1) := by decide +kernel
theorem dX12_spoil_65 : decode cX12_spoil 65 = .ok (.iconst 1, 1) := by decide +kernel
theorem dX12_spoil_66 : decode cX12_spoil 66 = .ok (.iand, 1) := by decide +kernel
theorem dX12_spoil_67 : decode cX12_spoil 67 = .ok (.ifCond .ne 10, 3) := by decide +kernel
theorem dX12_spoil_70 : decode cX12_spoil 70 = .ok (.iconst 1, 1) := by decide +kernel
theorem dX12_spoil_71 : decode cX12_spoil 71 = .ok (.iload 4, 2) := by decide +kernel
theorem dX12_spoil_73 : decode cX12_spoil 73 = .ok (.ishl, 1) := by decide +kernel
theorem dX12_spoil_74 : decode cX12_spoil 74 = .ok (.goto 4, 3) := by decide +kernel
theorem dX12_spoil_77 : decode cX12_spoil 77 = .ok (.iconst 0, 1) := by decide +kernel
theorem dX12_spoil_78 : decode cX12_spoil 78 = .ok (.ior, 1) := by decide +kernel
theorem dX12_spoil_79 : decode cX12_spoil 79 = .ok (.istore_n 3, 1) := by decide +kernel
theorem dX12_spoil_80 : decode cX12_spoil 80 = .ok (.iinc 4 1, 3) := by decide +kernel
theorem dX12_spoil_83 : decode cX12_spoil 83 = .ok (.goto (-49), 3) := by decide +kernel
theorem dX12_spoil_86 : decode cX12_spoil 86 = .ok (.bipush (-2), 2) := by decide +kernel
theorem dX12_spoil_88 : decode cX12_spoil 88 = .ok (.istore 4, 2) := by decide +kernel
theorem dX12_spoil_90 : decode cX12_spoil 90 = .ok (.iconst 0, 1) := by decide +kernel
theorem dX12_spoil_91 : decode cX12_spoil 91 = .ok (.istore 5, 2) := by decide +kernel
theorem dX12_spoil_93 : decode cX12_spoil 93 = .ok (.iload 5, 2) := by decide +kernel
theorem dX12_spoil_95 : decode cX12_spoil 95 = .ok (.iload_n 3, 1) := by decide +kernel
theorem dX12_spoil_96 : decode cX12_spoil 96 = .ok (.if_icmp .gt 80, 3) := by decide +kernel
theorem dX12_spoil_99 : decode cX12_spoil 99 = .ok (.iload 5, 2) := by decide +kernel
theorem dX12_spoil_101 : decode cX12_spoil 101 = .ok (.iload_n 3, 1) := by decide +kernel
theorem dX12_spoil_102 : decode cX12_spoil 102 = .ok (.iconst (-1), 1) := by decide +kernel
theorem dX12_spoil_103 : decode cX12_spoil 103 = .ok (.ixor, 1) := by decide +kernel
theorem dX12_spoil_104 : decode cX12_spoil 104 = .ok (.iand, 1) := by decide +kernel
theorem dX12_spoil_105 : decode cX12_spoil 105 = .ok (.ifCond .ne 65, 3) := by decide +kernel
theorem dX12_spoil_108 : decode cX12_spoil 108 = .ok (.iload 4, 2) := by decide +kernel
theorem dX12_spoil_110 : decode cX12_spoil 110 = .ok (.ifCond .lt 19, 3) := by decide +kernel
theorem dX12_spoil_113 : decode cX12_spoil 113 = .ok (.iload 5, 2) := by decide +kernel
theorem dX12_spoil_115 : decode cX12_spoil 115 = .ok (.invokestatic 459, 3) := by decide +kernel
theorem dX12_spoil_118 : decode cX12_spoil 118 = .ok (.iload 4, 2) := by decide +kernel
theorem dX12_spoil_120 : decode cX12_spoil 120 = .ok (.invokestatic 459, 3) := by decide +kernel
theorem dX12_spoil_123 : decode cX12_spoil 123 = .ok (.if_icmp .lt 6, 3) := by decide +kernel
theorem dX12_spoil_126 : decode cX12_spoil 126 = .ok (.goto 44, 3) := by decide +kernel
theorem dX12_spoil_129 : decode cX12_spoil 129 = .ok (.aload_n 0, 1) := by decide +kernel
theorem dX12_spoil_130 : decode cX12_spoil 130 = .ok (.iconst 1, 1) := by decide +kernel
theorem dX12_spoil_131 : decode cX12_spoil 131 = .ok (.iconst 0, 1) := by decide +kernel
theorem dX12_spoil_132 : decode cX12_spoil 132 = .ok (.invokevirtual 417, 3) := by decide +kernel
theorem dX12_spoil_135 : decode cX12_spoil 135 = .ok (.aload_n 0, 1) := by decide +kernel
theorem dX12_spoil_136 : decode cX12_spoil 136 = .ok (.getfield 78, 3) := by decide +kernel
theorem dX12_spoil_139 : decode cX12_spoil 139 = .ok (.iconst 1, 1) := by decide +kernel
theorem dX12_spoil_140 : decode cX12_spoil 140 = .ok (.dup2, 1) := by decide +kernel
theorem dX12_spoil_141 : decode cX12_spoil 141 = .ok (.iaload, 1) := by decide +kernel
theorem dX12_spoil_142 : decode cX12_spoil 142 = .ok (.iload 5, 2) := by decide +kernel
theorem dX12_spoil_144 : decode cX12_spoil 144 = .ok (.ior, 1) := by decide +kernel
theorem dX12_spoil_145 : decode cX12_spoil 145 = .ok (.iastore, 1) := by decide +kernel
theorem dX12_spoil_146 : decode cX12_spoil 146 = .ok (.aload_n 0, 1) := by decide +kernel
theorem dX12_spoil_147 : decode cX12_spoil 147 = .ok (.iload_n 1, 1) := by decide +kernel
theorem dX12_spoil_148 : decode cX12_spoil 148 = .ok (.invokevirtual 423, 3) := by decide +kernel
theorem dX12_spoil_151 : decode cX12_spoil 151 = .ok (.aload_n 0, 1) := by decide +kernel
theorem dX12_spoil_152 : decode cX12_spoil 152 = .ok (.iconst 1, 1) := by decide +kernel
theorem dX12_spoil_153 : decode cX12_spoil 153 = .ok (.invokevirtual 429, 3) := by decide +kernel
theorem dX12_spoil_156 : decode cX12_spoil 156 = .ok (.aload_n 0, 1) := by decide +kernel
theorem dX12_spoil_157 : decode cX12_spoil 157 = .ok (.iconst 0, 1) := by decide +kernel
theorem dX12_spoil_158 : decode cX12_spoil 158 = .ok (.invokevirtual 429, 3) := by decide +kernel
theorem dX12_spoil_161 : decode cX12_spoil 161 = .ok (.isub, 1) := by decide +kernel
theorem dX12_spoil_162 : decode cX12_spoil 162 = .ok (.iload_n 2, 1) := by decide +kernel
theorem dX12_spoil_163 : decode cX12_spoil 163 = .ok (.if_icmp .gt 7, 3) := by decide +kernel
theorem dX12_spoil_166 : decode cX12_spoil 166 = .ok (.iload 5, 2) := by decide +kernel
theorem dX12_spoil_168 : decode cX12_spoil 168 = .ok (.istore 4, 2) := by decide +kernel
theorem dX12_spoil_170 : decode cX12_spoil 170 = .ok (.iinc 5 1, 3) := by decide +kernel
theorem dX12_spoil_173 : decode cX12_spoil 173 = .ok (.goto (-80), 3) := by decide +kernel
theorem dX12_spoil_176 : decode cX12_spoil 176 = .ok (.iload 4, 2) := by decide +kernel
theorem dX12_spoil_178 : decode cX12_spoil 178 = .ok (.ireturn, 1) := by decide +kernel
theorem dX12_laySettle_0 : decode cX12_laySettle 0 = .ok (.aload_n 0, 1) := by decide +kernel
theorem dX12_laySettle_1 : decode cX12_laySettle 1 = .ok (.getfield 31, 3) := by decide +kernel
theorem dX12_laySettle_4 : decode cX12_laySettle 4 = .ok (.aload_n 0, 1) := by decide +kernel
theorem dX12_laySettle_5 : decode cX12_laySettle 5 = .ok (.getfield 43, 3) := by decide +kernel
theorem dX12_laySettle_8 : decode cX12_laySettle 8 = .ok (.iload_n 1, 1) := by decide +kernel
theorem dX12_laySettle_9 : decode cX12_laySettle 9 = .ok (.iaload, 1) := by decide +kernel
theorem dX12_laySettle_10 : decode cX12_laySettle 10 = .ok (.iaload, 1) := by decide +kernel
theorem dX12_laySettle_11 : decode cX12_laySettle 11 = .ok (.istore_n 2, 1) := by decide +kernel
theorem dX12_laySettle_12 : decode cX12_laySettle 12 = .ok (.aload_n 0, 1) := by decide +kernel
theorem dX12_laySettle_13 : decode cX12_laySettle 13 = .ok (.iconst 0, 1) := by decide +kernel
theorem dX12_laySettle_14 : decode cX12_laySettle 14 = .ok (.aload_n 0, 1) := by decide +kernel
theorem dX12_laySettle_15 : decode cX12_laySettle 15 = .ok (.getfield 90, 3) := by decide +kernel
theorem dX12_laySettle_18 : decode cX12_laySettle 18 = .ok (.iload_n 1, 1) := by decide +kernel
theorem dX12_laySettle_19 : decode cX12_laySettle 19 = .ok (.iaload, 1) := by decide +kernel
theorem dX12_laySettle_20 : decode cX12_laySettle 20 = .ok (.aload_n 0, 1) := by decide +kernel
theorem dX12_laySettle_21 : decode cX12_laySettle 21 = .ok (.getfield 43, 3) := by decide +kernel
theorem dX12_laySettle_24 : decode cX12_laySettle 24 = .ok (.iload_n 1, 1) := by decide +kernel
theorem dX12_laySettle_25 : decode cX12_laySettle 25 = .ok (.iaload, 1) := by decide +kernel
theorem dX12_laySettle_26 : decode cX12_laySettle 26 = .ok (.aload_n 0, 1) := by decide +kernel
theorem dX12_laySettle_27 : decode cX12_laySettle 27 = .ok (.iconst 0, 1) := by decide +kernel
theorem dX12_laySettle_28 : decode cX12_laySettle 28 = .ok (.iload_n 1, 1) := by decide +kernel
theorem dX12_laySettle_29 : decode cX12_laySettle 29 = .ok (.invokevirtual 361, 3) := by decide +kernel
theorem dX12_laySettle_32 : decode cX12_laySettle 32 = .ok (.invokevirtual 374, 3) := by decide +kernel
theorem dX12_laySettle_35 : decode cX12_laySettle 35 = .ok (.istore_n 3, 1) := by decide +kernel
theorem dX12_laySettle_36 : decode cX12_laySettle 36 = .ok (.iconst 0, 1) := by decide +kernel
theorem dX12_laySettle_37 : decode cX12_laySettle 37 = .ok (.istore 4, 2) := by decide +kernel
theorem dX12_laySettle_39 : decode cX12_laySettle 39 = .ok (.iload 4, 2) := by decide +kernel
theorem dX12_laySettle_41 : decode cX12_laySettle 41 = .ok (.iconst 4, 1) := by decide +kernel
theorem dX12_laySettle_42 : decode cX12_laySettle 42 = .ok (.if_icmp .ge 100, 3) := by decide +kernel
theorem dX12_laySettle_45 : decode cX12_laySettle 45 = .ok (.iload_n 3, 1) := by decide +kernel
theorem dX12_laySettle_46 : decode cX12_laySettle 46 = .ok (.iconst 1, 1) := by decide +kernel
theorem dX12_laySettle_47 : decode cX12_laySettle 47 = .ok (.if_icmp .ne 7, 3) := by decide +kernel
theorem dX12_laySettle_50 : decode cX12_laySettle 50 = .ok (.iload_n 2, 1) := by decide +kernel
theorem dX12_laySettle_51 : decode cX12_laySettle 51 = .ok (.goto 15, 3) := by decide +kernel
theorem dX12_laySettle_54 : decode cX12_laySettle 54 = .ok (.iload_n 3, 1) := by decide +kernel
theorem dX12_laySettle_55 : decode cX12_laySettle 55 = .ok (.iconst 2, 1) := by decide +kernel
theorem dX12_laySettle_56 : decode cX12_laySettle 56 = .ok (.if_icmp .ne 9, 3) := by decide +kernel
theorem dX12_laySettle_59 : decode cX12_laySettle 59 = .ok (.iload_n 2, 1) := by decide +kernel
theorem dX12_laySettle_60 : decode cX12_laySettle 60 = .ok (.iconst 2, 1) := by decide +kernel
theorem dX12_laySettle_61 : decode cX12_laySettle 61 = .ok (.idiv, 1) := by decide +kernel
theorem dX12_laySettle_62 : decode cX12_laySettle 62 = .ok (.goto 4, 3) := by decide +kernel
theorem dX12_laySettle_65 : decode cX12_laySettle 65 = .ok (.iconst 0, 1) := by decide +kernel
theorem dX12_laySettle_66 : decode cX12_laySettle 66 = .ok (.istore 5, 2) := by decide +kernel
theorem dX12_laySettle_68 : decode cX12_laySettle 68 = .ok (.iload_n 3, 1) := by decide +kernel
theorem dX12_laySettle_69 : decode cX12_laySettle 69 = .ok (.iconst 2, 1) := by decide +kernel
theorem dX12_laySettle_70 : decode cX12_laySettle 70 = .ok (.if_icmp .ne 9, 3) := by decide +kernel
theorem dX12_laySettle_73 : decode cX12_laySettle 73 = .ok (.iload_n 2, 1) := by decide +kernel
theorem dX12_laySettle_74 : decode cX12_laySettle 74 = .ok (.iconst 2, 1) := by decide +kernel
theorem dX12_laySettle_75 : decode cX12_laySettle 75 = .ok (.idiv, 1) := by decide +kernel
theorem dX12_laySettle_76 : decode cX12_laySettle 76 = .ok (.goto 4, 3) := by decide +kernel
theorem dX12_laySettle_79 : decode cX12_laySettle 79 = .ok (.iconst 0, 1) := by decide +kernel
theorem dX12_laySettle_80 : decode cX12_laySettle 80 = .ok (.istore 6, 2) := by decide +kernel
theorem dX12_laySettle_82 : decode cX12_laySettle 82 = .ok (.aload_n 0, 1) := by decide +kernel
theorem dX12_laySettle_83 : decode cX12_laySettle 83 = .ok (.getfield 117, 3) := by decide +kernel
theorem dX12_laySettle_86 : decode cX12_laySettle 86 = .ok (.iload 4, 2) := by decide +kernel
theorem dX12_laySettle_88 : decode cX12_laySettle 88 = .ok (.iload 4, 2) := by decide +kernel
theorem dX12_laySettle_90 : decode cX12_laySettle 90 = .ok (.ifCond .ne 9, 3) := by decide +kernel
theorem dX12_laySettle_93 : decode cX12_laySettle 93 = .ok (.iload_n 2, 1) := by decide +kernel
theorem dX12_laySettle_94 : decode cX12_laySettle 94 = .ok (.iconst 2, 1) := by decide +kernel
theorem dX12_laySettle_95 : decode cX12_laySettle 95 = .ok (.idiv, 1) := by decide +kernel
theorem dX12_laySettle_96 : decode cX12_laySettle 96 = .ok (.goto 12, 3) := by decide +kernel
theorem dX12_laySettle_99 : decode cX12_laySettle 99 = .ok (.iload 5, 2) := by decide +kernel
theorem dX12_laySettle_101 : decode cX12_laySettle 101 = .ok (.iconst 5, 1) := by decide +kernel
theorem dX12_laySettle_102 : decode cX12_laySettle 102 = .ok (.iload 4, 2) := by decide +kernel
theorem dX12_laySettle_104 : decode cX12_laySettle 104 = .ok (.iconst 2, 1) := by decide +kernel
theorem dX12_laySettle_105 : decode cX12_laySettle 105 = .ok (.idiv, 1) := by decide +kernel
theorem dX12_laySettle_106 : decode cX12_laySettle 106 = .ok (.imul, 1) := by decide +kernel
theorem dX12_laySettle_107 : decode cX12_laySettle 107 = .ok (.isub, 1) := by decide +kernel
theorem dX12_laySettle_108 : decode cX12_laySettle 108 = .ok (.iastore, 1) := by decide +kernel
theorem dX12_laySettle_109 : decode cX12_laySettle 109 = .ok (.aload_n 0, 1) := by decide +kernel
theorem dX12_laySettle_110 : decode cX12_laySettle 110 = .ok (.getfield 120, 3) := by decide +kernel
theorem dX12_laySettle_113 : decode cX12_laySettle 113 = .ok (.iload 4, 2) := by decide +kernel
theorem dX12_laySettle_115 : decode cX12_laySettle 115 = .ok (.iload 4, 2) := by decide +kernel
theorem dX12_laySettle_117 : decode cX12_laySettle 117 = .ok (.ifCond .ne 9, 3) := by decide +kernel
theorem dX12_laySettle_120 : decode cX12_laySettle 120 = .ok (.iload_n 2, 1) := by decide +kernel
theorem dX12_laySettle_121 : decode cX12_laySettle 121 = .ok (.iconst 2, 1) := by decide +kernel
theorem dX12_laySettle_122 : decode cX12_laySettle 122 = .ok (.idiv, 1) := by decide +kernel
theorem dX12_laySettle_123 : decode cX12_laySettle 123 = .ok (.goto 12, 3) := by decide +kernel
theorem dX12_laySettle_126 : decode cX12_laySettle 126 = .ok (.iload 6, 2) := by decide +kernel
theorem dX12_laySettle_128 : decode cX12_laySettle 128 = .ok (.iconst 5, 1) := by decide +kernel
theorem dX12_laySettle_129 : decode cX12_laySettle 129 = .ok (.iload 4, 2) := by decide +kernel
theorem dX12_laySettle_131 : decode cX12_laySettle 131 = .ok (.iconst 2, 1) := by decide +kernel
theorem dX12_laySettle_132 : decode cX12_laySettle 132 = .ok (.irem, 1) := by decide +kernel
theorem dX12_laySettle_133 : decode cX12_laySettle 133 = .ok (.imul, 1) := by decide +kernel
theorem dX12_laySettle_134 : decode cX12_laySettle 134 = .ok (.isub, 1) := by decide +kernel
theorem dX12_laySettle_135 : decode cX12_laySettle 135 = .ok (.iastore, 1) := by decide +kernel
theorem dX12_laySettle_136 : decode cX12_laySettle 136 = .ok (.iinc 4 1, 3) := by decide +kernel
theorem dX12_laySettle_139 : decode cX12_laySettle 139 = .ok (.goto (-100), 3) := by decide +kernel
theorem dX12_laySettle_142 : decode cX12_laySettle 142 = .ok (.return_, 1) := by decide +kernel
theorem dX12_isRest_0 : decode cX12_isRest 0 = .ok (.aload_n 0, 1) := by decide +kernel
theorem dX12_isRest_1 : decode cX12_isRest 1 = .ok (.getfield 117, 3) := by decide +kernel
theorem dX12_isRest_4 : decode cX12_isRest 4 = .ok (.iload_n 1, 1) := by decide +kernel
theorem dX12_isRest_5 : decode cX12_isRest 5 = .ok (.iconst 2, 1) := by decide +kernel
theorem dX12_isRest_6 : decode cX12_isRest 6 = .ok (.iadd, 1) := by decide +kernel
theorem dX12_isRest_7 : decode cX12_isRest 7 = .ok (.iconst 4, 1) := by decide +kernel
theorem dX12_isRest_8 : decode cX12_isRest 8 = .ok (.irem, 1) := by decide +kernel
theorem dX12_isRest_9 : decode cX12_isRest 9 = .ok (.iaload, 1) := by decide +kernel
theorem dX12_isRest_10 : decode cX12_isRest 10 = .ok (.aload_n 0, 1) := by decide +kernel
theorem dX12_isRest_11 : decode cX12_isRest 11 = .ok (.getfield 117, 3) := by decide +kernel
theorem dX12_isRest_14 : decode cX12_isRest 14 = .ok (.iload_n 1, 1) := by decide +kernel
theorem dX12_isRest_15 : decode cX12_isRest 15 = .ok (.iaload, 1) := by decide +kernel
theorem dX12_isRest_16 : decode cX12_isRest 16 = .ok (.if_icmp .gt 32, 3) := by decide +kernel
theorem dX12_isRest_19 : decode cX12_isRest 19 = .ok (.aload_n 0, 1) := by decide +kernel
theorem dX12_isRest_20 : decode cX12_isRest 20 = .ok (.getfield 120, 3) := by decide +kernel
theorem dX12_isRest_23 : decode cX12_isRest 23 = .ok (.iload_n 1, 1) := by decide +kernel
theorem dX12_isRest_24 : decode cX12_isRest 24 = .ok (.iconst 2, 1) := by decide +kernel
theorem dX12_isRest_25 : decode cX12_isRest 25 = .ok (.idiv, 1) := by decide +kernel
theorem dX12_isRest_26 : decode cX12_isRest 26 = .ok (.iconst 2, 1) := by decide +kernel
theorem dX12_isRest_27 : decode cX12_isRest 27 = .ok (.imul, 1) := by decide +kernel
theorem dX12_isRest_28 : decode cX12_isRest 28 = .ok (.iconst 1, 1) := by decide +kernel
theorem dX12_isRest_29 : decode cX12_isRest 29 = .ok (.iadd, 1) := by decide +kernel
theorem dX12_isRest_30 : decode cX12_isRest 30 = .ok (.iload_n 1, 1) := by decide +kernel
theorem dX12_isRest_31 : decode cX12_isRest 31 = .ok (.iconst 2, 1) := by decide +kernel
theorem dX12_isRest_32 : decode cX12_isRest 32 = .ok (.irem, 1) := by decide +kernel
theorem dX12_isRest_33 : decode cX12_isRest 33 = .ok (.isub, 1) := by decide +kernel
theorem dX12_isRest_34 : decode cX12_isRest 34 = .ok (.iaload, 1) := by decide +kernel
theorem dX12_isRest_35 : decode cX12_isRest 35 = .ok (.aload_n 0, 1) := by decide +kernel
theorem dX12_isRest_36 : decode cX12_isRest 36 = .ok (.getfield 120, 3) := by decide +kernel
theorem dX12_isRest_39 : decode cX12_isRest 39 = .ok (.iload_n 1, 1) := by decide +kernel
theorem dX12_isRest_40 : decode cX12_isRest 40 = .ok (.iaload, 1) := by decide +kernel
theorem dX12_isRest_41 : decode cX12_isRest 41 = .ok (.if_icmp .gt 7, 3) := by decide +kernel
theorem dX12_isRest_44 : decode cX12_isRest 44 = .ok (.iconst 1, 1) := by decide +kernel
theorem dX12_isRest_45 : decode cX12_isRest 45 = .ok (.goto 4, 3) := by decide +kernel
theorem dX12_isRest_48 : decode cX12_isRest 48 = .ok (.iconst 0, 1) := by decide +kernel
theorem dX12_isRest_49 : decode cX12_isRest 49 = .ok (.ireturn, 1) := by decide +kernel
theorem dX12_restOf_0 : decode cX12_restOf 0 = .ok (.iconst 0, 1) := by decide +kernel
theorem dX12_restOf_1 : decode cX12_restOf 1 = .ok (.istore_n 2, 1) := by decide +kernel
theorem dX12_restOf_2 : decode cX12_restOf 2 = .ok (.iconst 0, 1) := by decide +kernel
theorem dX12_restOf_3 : decode cX12_restOf 3 = .ok (.istore_n 3, 1) := by decide +kernel
theorem dX12_restOf_4 : decode cX12_restOf 4 = .ok (.iload_n 3, 1) := by decide +kernel
theorem dX12_restOf_5 : decode cX12_restOf 5 = .ok (.iconst 4, 1) := by decide +kernel
theorem dX12_restOf_6 : decode cX12_restOf 6 = .ok (.if_icmp .ge 39, 3) := by decide +kernel
theorem dX12_restOf_9 : decode cX12_restOf 9 = .ok (.aload_n 0, 1) := by decide +kernel
theorem dX12_restOf_10 : decode cX12_restOf 10 = .ok (.iload_n 3, 1) := by decide +kernel
theorem dX12_restOf_11 : decode cX12_restOf 11 = .ok (.invokevirtual 462, 3) := by decide +kernel
theorem dX12_restOf_14 : decode cX12_restOf 14 = .ok (.ifCond .ne 6, 3) := by decide +kernel
theorem dX12_restOf_17 : decode cX12_restOf 17 = .ok (.goto 22, 3) := by decide +kernel
theorem dX12_restOf_20 : decode cX12_restOf 20 = .ok (.iload_n 2, 1) := by decide +kernel
theorem dX12_restOf_21 : decode cX12_restOf 21 = .ok (.iload_n 1, 1) := by decide +kernel
theorem dX12_restOf_22 : decode cX12_restOf 22 = .ok (.if_icmp .ne 14, 3) := by decide +kernel
theorem dX12_restOf_25 : decode cX12_restOf 25 = .ok (.bipush 10, 2) := by decide +kernel
theorem dX12_restOf_27 : decode cX12_restOf 27 = .ok (.iload_n 3, 1) := by decide +kernel
theorem dX12_restOf_28 : decode cX12_restOf 28 = .ok (.iconst 2, 1) := by decide +kernel
theorem dX12_restOf_29 : decode cX12_restOf 29 = .ok (.idiv, 1) := by decide +kernel
theorem dX12_restOf_30 : decode cX12_restOf 30 = .ok (.imul, 1) := by decide +kernel
theorem dX12_restOf_31 : decode cX12_restOf 31 = .ok (.iload_n 3, 1) := by decide +kernel
theorem dX12_restOf_32 : decode cX12_restOf 32 = .ok (.iconst 2, 1) := by decide +kernel
theorem dX12_restOf_33 : decode cX12_restOf 33 = .ok (.irem, 1) := by decide +kernel
theorem dX12_restOf_34 : decode cX12_restOf 34 = .ok (.iadd, 1) := by decide +kernel
theorem dX12_restOf_35 : decode cX12_restOf 35 = .ok (.ireturn, 1) := by decide +kernel
theorem dX12_restOf_36 : decode cX12_restOf 36 = .ok (.iinc 2 1, 3) := by decide +kernel
theorem dX12_restOf_39 : decode cX12_restOf 39 = .ok (.iinc 3 1, 3) := by decide +kernel
theorem dX12_restOf_42 : decode cX12_restOf 42 = .ok (.goto (-38), 3) := by decide +kernel
theorem dX12_restOf_45 : decode cX12_restOf 45 = .ok (.iload_n 1, 1) := by decide +kernel
theorem dX12_restOf_46 : decode cX12_restOf 46 = .ok (.iconst (-1), 1) := by decide +kernel
theorem dX12_restOf_47 : decode cX12_restOf 47 = .ok (.if_icmp .ne 7, 3) := by decide +kernel
theorem dX12_restOf_50 : decode cX12_restOf 50 = .ok (.iload_n 2, 1) := by decide +kernel
theorem dX12_restOf_51 : decode cX12_restOf 51 = .ok (.goto 5, 3) := by decide +kernel
theorem dX12_restOf_54 : decode cX12_restOf 54 = .ok (.bipush (-2), 2) := by decide +kernel
theorem dX12_restOf_56 : decode cX12_restOf 56 = .ok (.ireturn, 1) := by decide +kernel
theorem dX12_isOpenSuit_0 : decode cX12_isOpenSuit 0 = .ok (.aload_n 0, 1) := by decide +kernel
theorem dX12_isOpenSuit_1 : decode cX12_isOpenSuit 1 = .ok (.iload_n 1, 1) := by decide +kernel
theorem dX12_isOpenSuit_2 : decode cX12_isOpenSuit 2 = .ok (.invokevirtual 401, 3) := by decide +kernel
theorem dX12_isOpenSuit_5 : decode cX12_isOpenSuit 5 = .ok (.ifCond .eq 16, 3) := by decide +kernel
theorem dX12_isOpenSuit_8 : decode cX12_isOpenSuit 8 = .ok (.aload_n 0, 1) := by decide +kernel
theorem dX12_isOpenSuit_9 : decode cX12_isOpenSuit 9 = .ok (.iconst 0, 1) := by decide +kernel
theorem dX12_isOpenSuit_10 : decode cX12_isOpenSuit 10 = .ok (.iload_n 1, 1) := by decide +kernel
theorem dX12_isOpenSuit_11 : decode cX12_isOpenSuit 11 = .ok (.invokevirtual 379, 3) := by decide +kernel
theorem dX12_isOpenSuit_14 : decode cX12_isOpenSuit 14 = .ok (.ifCond .eq 7, 3) := by decide +kernel
theorem dX12_isOpenSuit_17 : decode cX12_isOpenSuit 17 = .ok (.iconst 1, 1) := by decide +kernel
theorem dX12_isOpenSuit_18 : decode cX12_isOpenSuit 18 = .ok (.goto 4, 3) := by decide +kernel
theorem dX12_isOpenSuit_21 : decode cX12_isOpenSuit 21 = .ok (.iconst 0, 1) := by decide +kernel
theorem dX12_isOpenSuit_22 : decode cX12_isOpenSuit 22 = .ok (.ireturn, 1) := by decide +kernel
theorem dX12_rests_0 : decode cX12_rests 0 = .ok (.aload_n 0, 1) := by decide +kernel
theorem dX12_rests_1 : decode cX12_rests 1 = .ok (.iconst 0, 1) := by decide +kernel
theorem dX12_rests_2 : decode cX12_rests 2 = .ok (.putfield 145, 3) := by decide +kernel
theorem dX12_rests_5 : decode cX12_rests 5 = .ok (.aload_n 0, 1) := by decide +kernel
theorem dX12_rests_6 : decode cX12_rests 6 = .ok (.iload_n 1, 1) := by decide +kernel
theorem dX12_rests_7 : decode cX12_rests 7 = .ok (.invokevirtual 465, 3) := by decide +kernel
theorem dX12_rests_10 : decode cX12_rests 10 = .ok (.ifCond .ne 5, 3) := by decide +kernel
theorem dX12_rests_13 : decode cX12_rests 13 = .ok (.iconst (-1), 1) := by decide +kernel
theorem dX12_rests_14 : decode cX12_rests 14 = .ok (.ireturn, 1) := by decide +kernel
theorem dX12_rests_15 : decode cX12_rests 15 = .ok (.aload_n 0, 1) := by decide +kernel
theorem dX12_rests_16 : decode cX12_rests 16 = .ok (.iload_n 1, 1) := by decide +kernel
theorem dX12_rests_17 : decode cX12_rests 17 = .ok (.invokevirtual 468, 3) := by decide +kernel
theorem dX12_rests_20 : decode cX12_rests 20 = .ok (.aload_n 0, 1) := by decide +kernel
theorem dX12_rests_21 : decode cX12_rests 21 = .ok (.iconst (-1), 1) := by decide +kernel
theorem dX12_rests_22 : decode cX12_rests 22 = .ok (.invokevirtual 471, 3) := by decide +kernel
theorem dX12_rests_25 : decode cX12_rests 25 = .ok (.ireturn, 1) := by decide +kernel
theorem dX12_rest_0 : decode cX12_rest 0 = .ok (.aload_n 0, 1) := by decide +kernel
theorem dX12_rest_1 : decode cX12_rest 1 = .ok (.iconst 0, 1) := by decide +kernel
theorem dX12_rest_2 : decode cX12_rest 2 = .ok (.putfield 145, 3) := by decide +kernel
theorem dX12_rest_5 : decode cX12_rest 5 = .ok (.aload_n 0, 1) := by decide +kernel
theorem dX12_rest_6 : decode cX12_rest 6 = .ok (.iload_n 1, 1) := by decide +kernel
theorem dX12_rest_7 : decode cX12_rest 7 = .ok (.invokevirtual 465, 3) := by decide +kernel
theorem dX12_rest_10 : decode cX12_rest 10 = .ok (.ifCond .eq 7, 3) := by decide +kernel
theorem dX12_rest_13 : decode cX12_rest 13 = .ok (.iload_n 2, 1) := by decide +kernel
theorem dX12_rest_14 : decode cX12_rest 14 = .ok (.ifCond .ge 5, 3) := by decide +kernel
theorem dX12_rest_17 : decode cX12_rest 17 = .ok (.iconst (-1), 1) := by decide +kernel
theorem dX12_rest_18 : decode cX12_rest 18 = .ok (.ireturn, 1) := by decide +kernel
theorem dX12_rest_19 : decode cX12_rest 19 = .ok (.aload_n 0, 1) := by decide +kernel
theorem dX12_rest_20 : decode cX12_rest 20 = .ok (.iload_n 1, 1) := by decide +kernel
theorem dX12_rest_21 : decode cX12_rest 21 = .ok (.invokevirtual 468, 3) := by decide +kernel
theorem dX12_rest_24 : decode cX12_rest 24 = .ok (.aload_n 0, 1) := by decide +kernel
theorem dX12_rest_25 : decode cX12_rest 25 = .ok (.iload_n 2, 1) := by decide +kernel
theorem dX12_rest_26 : decode cX12_rest 26 = .ok (.invokevirtual 471, 3) := by decide +kernel
theorem dX12_rest_29 : decode cX12_rest 29 = .ok (.ireturn, 1) := by decide +kernel
theorem dX12_twins_0 : decode cX12_twins 0 = .ok (.aload_n 0, 1) := by decide +kernel
theorem dX12_twins_1 : decode cX12_twins 1 = .ok (.iconst 0, 1) := by decide +kernel
theorem dX12_twins_2 : decode cX12_twins 2 = .ok (.putfield 145, 3) := by decide +kernel
theorem dX12_twins_5 : decode cX12_twins 5 = .ok (.iconst 0, 1) := by decide +kernel
theorem dX12_twins_6 : decode cX12_twins 6 = .ok (.istore_n 1, 1) := by decide +kernel
theorem dX12_twins_7 : decode cX12_twins 7 = .ok (.iconst 0, 1) := by decide +kernel
theorem dX12_twins_8 : decode cX12_twins 8 = .ok (.istore_n 2, 1) := by decide +kernel
theorem dX12_twins_9 : decode cX12_twins 9 = .ok (.iload_n 2, 1) := by decide +kernel
theorem dX12_twins_10 : decode cX12_twins 10 = .ok (.aload_n 0, 1) := by decide +kernel
theorem dX12_twins_11 : decode cX12_twins 11 = .ok (.getfield 13, 3) := by decide +kernel
theorem dX12_twins_14 : decode cX12_twins 14 = .ok (.iconst 2, 1) := by decide +kernel
theorem dX12_twins_15 : decode cX12_twins 15 = .ok (.iaload, 1) := by decide +kernel
theorem dX12_twins_16 : decode cX12_twins 16 = .ok (.if_icmp .ge 85, 3) := by decide +kernel
theorem dX12_twins_19 : decode cX12_twins 19 = .ok (.iload_n 2, 1) := by decide +kernel
theorem dX12_twins_20 : decode cX12_twins 20 = .ok (.iconst 1, 1) := by decide +kernel
theorem dX12_twins_21 : decode cX12_twins 21 = .ok (.iadd, 1) := by decide +kernel
theorem dX12_twins_22 : decode cX12_twins 22 = .ok (.istore_n 3, 1) := by decide +kernel
theorem dX12_twins_23 : decode cX12_twins 23 = .ok (.iload_n 3, 1) := by decide +kernel
theorem dX12_twins_24 : decode cX12_twins 24 = .ok (.aload_n 0, 1) := by decide +kernel
theorem dX12_twins_25 : decode cX12_twins 25 = .ok (.getfield 13, 3) := by decide +kernel
theorem dX12_twins_28 : decode cX12_twins 28 = .ok (.iconst 2, 1) := by decide +kernel
theorem dX12_twins_29 : decode cX12_twins 29 = .ok (.iaload, 1) := by decide +kernel
theorem dX12_twins_30 : decode cX12_twins 30 = .ok (.if_icmp .ge 65, 3) := by decide +kernel
theorem dX12_twins_33 : decode cX12_twins 33 = .ok (.iload_n 1, 1) := by decide +kernel
theorem dX12_twins_34 : decode cX12_twins 34 = .ok (.aload_n 0, 1) := by decide +kernel
theorem dX12_twins_35 : decode cX12_twins 35 = .ok (.getfield 43, 3) := by decide +kernel
theorem dX12_twins_38 : decode cX12_twins 38 = .ok (.iload_n 2, 1) := by decide +kernel
theorem dX12_twins_39 : decode cX12_twins 39 = .ok (.iaload, 1) := by decide +kernel
theorem dX12_twins_40 : decode cX12_twins 40 = .ok (.aload_n 0, 1) := by decide +kernel
theorem dX12_twins_41 : decode cX12_twins 41 = .ok (.getfield 43, 3) := by decide +kernel
theorem dX12_twins_44 : decode cX12_twins 44 = .ok (.iload_n 3, 1) := by decide +kernel
theorem dX12_twins_45 : decode cX12_twins 45 = .ok (.iaload, 1) := by decide +kernel
theorem dX12_twins_46 : decode cX12_twins 46 = .ok (.if_icmp .ne 40, 3) := by decide +kernel
theorem dX12_twins_49 : decode cX12_twins 49 = .ok (.aload_n 0, 1) := by decide +kernel
theorem dX12_twins_50 : decode cX12_twins 50 = .ok (.iconst 0, 1) := by decide +kernel
theorem dX12_twins_51 : decode cX12_twins 51 = .ok (.iload_n 2, 1) := by decide +kernel
theorem dX12_twins_52 : decode cX12_twins 52 = .ok (.invokevirtual 379, 3) := by decide +kernel
theorem dX12_twins_55 : decode cX12_twins 55 = .ok (.ifCond .ne 31, 3) := by decide +kernel
theorem dX12_twins_58 : decode cX12_twins 58 = .ok (.aload_n 0, 1) := by decide +kernel
theorem dX12_twins_59 : decode cX12_twins 59 = .ok (.iconst 0, 1) := by decide +kernel
theorem dX12_twins_60 : decode cX12_twins 60 = .ok (.iload_n 3, 1) := by decide +kernel
theorem dX12_twins_61 : decode cX12_twins 61 = .ok (.invokevirtual 379, 3) := by decide +kernel
theorem dX12_twins_64 : decode cX12_twins 64 = .ok (.ifCond .ne 22, 3) := by decide +kernel
theorem dX12_twins_67 : decode cX12_twins 67 = .ok (.aload_n 0, 1) := by decide +kernel
theorem dX12_twins_68 : decode cX12_twins 68 = .ok (.getfield 96, 3) := by decide +kernel
theorem dX12_twins_71 : decode cX12_twins 71 = .ok (.iload_n 2, 1) := by decide +kernel
theorem dX12_twins_72 : decode cX12_twins 72 = .ok (.iaload, 1) := by decide +kernel
theorem dX12_twins_73 : decode cX12_twins 73 = .ok (.aload_n 0, 1) := by decide +kernel
theorem dX12_twins_74 : decode cX12_twins 74 = .ok (.getfield 96, 3) := by decide +kernel
theorem dX12_twins_77 : decode cX12_twins 77 = .ok (.iload_n 3, 1) := by decide +kernel
theorem dX12_twins_78 : decode cX12_twins 78 = .ok (.iaload, 1) := by decide +kernel
theorem dX12_twins_79 : decode cX12_twins 79 = .ok (.if_icmp .eq 7, 3) := by decide +kernel
theorem dX12_twins_82 : decode cX12_twins 82 = .ok (.iconst 1, 1) := by decide +kernel
theorem dX12_twins_83 : decode cX12_twins 83 = .ok (.goto 4, 3) := by decide +kernel
theorem dX12_twins_86 : decode cX12_twins 86 = .ok (.iconst 0, 1) := by decide +kernel
theorem dX12_twins_87 : decode cX12_twins 87 = .ok (.iadd, 1) := by decide +kernel
theorem dX12_twins_88 : decode cX12_twins 88 = .ok (.istore_n 1, 1) := by decide +kernel
theorem dX12_twins_89 : decode cX12_twins 89 = .ok (.iinc 3 1, 3) := by decide +kernel
theorem dX12_twins_92 : decode cX12_twins 92 = .ok (.goto (-69), 3) := by decide +kernel
theorem dX12_twins_95 : decode cX12_twins 95 = .ok (.iinc 2 1, 3) := by decide +kernel
theorem dX12_twins_98 : decode cX12_twins 98 = .ok (.goto (-89), 3) := by decide +kernel
theorem dX12_twins_101 : decode cX12_twins 101 = .ok (.iload_n 1, 1) := by decide +kernel
theorem dX12_twins_102 : decode cX12_twins 102 = .ok (.ireturn, 1) := by decide +kernel
theorem dX12_common_0 : decode cX12_common 0 = .ok (.iload_n 0, 1) := by decide +kernel
theorem dX12_common_1 : decode cX12_common 1 = .ok (.istore_n 2, 1) := by decide +kernel
theorem dX12_common_2 : decode cX12_common 2 = .ok (.iload_n 1, 1) := by decide +kernel
theorem dX12_common_3 : decode cX12_common 3 = .ok (.istore_n 3, 1) := by decide +kernel
theorem dX12_common_4 : decode cX12_common 4 = .ok (.iload_n 3, 1) := by decide +kernel
theorem dX12_common_5 : decode cX12_common 5 = .ok (.ifCond .eq 16, 3) := by decide +kernel
theorem dX12_common_8 : decode cX12_common 8 = .ok (.iload_n 2, 1) := by decide +kernel
theorem dX12_common_9 : decode cX12_common 9 = .ok (.iload_n 3, 1) := by decide +kernel
theorem dX12_common_10 : decode cX12_common 10 = .ok (.irem, 1) := by decide +kernel
theorem dX12_common_11 : decode cX12_common 11 = .ok (.istore 4, 2) := by decide +kernel
theorem dX12_common_13 : decode cX12_common 13 = .ok (.iload_n 3, 1) := by decide +kernel
theorem dX12_common_14 : decode cX12_common 14 = .ok (.istore_n 2, 1) := by decide +kernel
theorem dX12_common_15 : decode cX12_common 15 = .ok (.iload 4, 2) := by decide +kernel
theorem dX12_common_17 : decode cX12_common 17 = .ok (.istore_n 3, 1) := by decide +kernel
theorem dX12_common_18 : decode cX12_common 18 = .ok (.goto (-14), 3) := by decide +kernel
theorem dX12_common_21 : decode cX12_common 21 = .ok (.iload_n 2, 1) := by decide +kernel
theorem dX12_common_22 : decode cX12_common 22 = .ok (.ireturn, 1) := by decide +kernel
theorem dX12_likely_0 : decode cX12_likely 0 = .ok (.aload_n 0, 1) := by decide +kernel
theorem dX12_likely_1 : decode cX12_likely 1 = .ok (.iconst 0, 1) := by decide +kernel
theorem dX12_likely_2 : decode cX12_likely 2 = .ok (.putfield 145, 3) := by decide +kernel
theorem dX12_likely_5 : decode cX12_likely 5 = .ok (.aload_n 0, 1) := by decide +kernel
theorem dX12_likely_6 : decode cX12_likely 6 = .ok (.iload_n 1, 1) := by decide +kernel
theorem dX12_likely_7 : decode cX12_likely 7 = .ok (.invokevirtual 465, 3) := by decide +kernel
theorem dX12_likely_10 : decode cX12_likely 10 = .ok (.ifCond .eq 12, 3) := by decide +kernel
theorem dX12_likely_13 : decode cX12_likely 13 = .ok (.iload_n 2, 1) := by decide +kernel
theorem dX12_likely_14 : decode cX12_likely 14 = .ok (.ifCond .lt 8, 3) := by decide +kernel
theorem dX12_likely_17 : decode cX12_likely 17 = .ok (.iload_n 2, 1) := by decide +kernel
theorem dX12_likely_18 : decode cX12_likely 18 = .ok (.iconst 1, 1) := by decide +kernel
theorem dX12_likely_19 : decode cX12_likely 19 = .ok (.if_icmp .le 5, 3) := by decide +kernel
theorem dX12_likely_22 : decode cX12_likely 22 = .ok (.iconst (-1), 1) := by decide +kernel
theorem dX12_likely_23 : decode cX12_likely 23 = .ok (.ireturn, 1) := by decide +kernel
theorem dX12_likely_24 : decode cX12_likely 24 = .ok (.iconst 0, 1) := by decide +kernel
theorem dX12_likely_25 : decode cX12_likely 25 = .ok (.istore_n 3, 1) := by decide +kernel
theorem dX12_likely_26 : decode cX12_likely 26 = .ok (.iconst 0, 1) := by decide +kernel
theorem dX12_likely_27 : decode cX12_likely 27 = .ok (.istore 4, 2) := by decide +kernel
theorem dX12_likely_29 : decode cX12_likely 29 = .ok (.iload 4, 2) := by decide +kernel
theorem dX12_likely_31 : decode cX12_likely 31 = .ok (.bipush 10, 2) := by decide +kernel
theorem dX12_likely_33 : decode cX12_likely 33 = .ok (.if_icmp .ge 47, 3) := by decide +kernel
theorem dX12_likely_36 : decode cX12_likely 36 = .ok (.iload_n 3, 1) := by decide +kernel
theorem dX12_likely_37 : decode cX12_likely 37 = .ok (.aload_n 0, 1) := by decide +kernel
theorem dX12_likely_38 : decode cX12_likely 38 = .ok (.iconst 0, 1) := by decide +kernel
theorem dX12_likely_39 : decode cX12_likely 39 = .ok (.aload_n 0, 1) := by decide +kernel
theorem dX12_likely_40 : decode cX12_likely 40 = .ok (.getfield 90, 3) := by decide +kernel
theorem dX12_likely_43 : decode cX12_likely 43 = .ok (.iload_n 1, 1) := by decide +kernel
theorem dX12_likely_44 : decode cX12_likely 44 = .ok (.iaload, 1) := by decide +kernel
theorem dX12_likely_45 : decode cX12_likely 45 = .ok (.aload_n 0, 1) := by decide +kernel
theorem dX12_likely_46 : decode cX12_likely 46 = .ok (.getfield 43, 3) := by decide +kernel
theorem dX12_likely_49 : decode cX12_likely 49 = .ok (.iload_n 1, 1) := by decide +kernel
theorem dX12_likely_50 : decode cX12_likely 50 = .ok (.iaload, 1) := by decide +kernel
theorem dX12_likely_51 : decode cX12_likely 51 = .ok (.aload_n 0, 1) := by decide +kernel
theorem dX12_likely_52 : decode cX12_likely 52 = .ok (.iconst 0, 1) := by decide +kernel
theorem dX12_likely_53 : decode cX12_likely 53 = .ok (.iload_n 1, 1) := by decide +kernel
theorem dX12_likely_54 : decode cX12_likely 54 = .ok (.invokevirtual 361, 3) := by decide +kernel
theorem dX12_likely_57 : decode cX12_likely 57 = .ok (.iload 4, 2) := by decide +kernel
theorem dX12_likely_59 : decode cX12_likely 59 = .ok (.iadd, 1) := by decide +kernel
theorem dX12_likely_60 : decode cX12_likely 60 = .ok (.invokevirtual 374, 3) := by decide +kernel
theorem dX12_likely_63 : decode cX12_likely 63 = .ok (.iconst 1, 1) := by decide +kernel
theorem dX12_likely_64 : decode cX12_likely 64 = .ok (.if_icmp .ne 7, 3) := by decide +kernel
theorem dX12_likely_67 : decode cX12_likely 67 = .ok (.iconst 1, 1) := by decide +kernel
theorem dX12_likely_68 : decode cX12_likely 68 = .ok (.goto 4, 3) := by decide +kernel
theorem dX12_likely_71 : decode cX12_likely 71 = .ok (.iconst 0, 1) := by decide +kernel
theorem dX12_likely_72 : decode cX12_likely 72 = .ok (.iadd, 1) := by decide +kernel
theorem dX12_likely_73 : decode cX12_likely 73 = .ok (.istore_n 3, 1) := by decide +kernel
theorem dX12_likely_74 : decode cX12_likely 74 = .ok (.iinc 4 1, 3) := by decide +kernel
theorem dX12_likely_77 : decode cX12_likely 77 = .ok (.goto (-48), 3) := by decide +kernel
theorem dX12_likely_80 : decode cX12_likely 80 = .ok (.iload_n 3, 1) := by decide +kernel
theorem dX12_likely_81 : decode cX12_likely 81 = .ok (.bipush 10, 2) := by decide +kernel
theorem dX12_likely_83 : decode cX12_likely 83 = .ok (.invokestatic 474, 3) := by decide +kernel
theorem dX12_likely_86 : decode cX12_likely 86 = .ok (.istore 4, 2) := by decide +kernel
theorem dX12_likely_88 : decode cX12_likely 88 = .ok (.iload_n 2, 1) := by decide +kernel
theorem dX12_likely_89 : decode cX12_likely 89 = .ok (.ifCond .ne 10, 3) := by decide +kernel
theorem dX12_likely_92 : decode cX12_likely 92 = .ok (.iload_n 3, 1) := by decide +kernel
theorem dX12_likely_93 : decode cX12_likely 93 = .ok (.iload 4, 2) := by decide +kernel
theorem dX12_likely_95 : decode cX12_likely 95 = .ok (.idiv, 1) := by decide +kernel
theorem dX12_likely_96 : decode cX12_likely 96 = .ok (.goto 8, 3) := by decide +kernel
theorem dX12_likely_99 : decode cX12_likely 99 = .ok (.bipush 10, 2) := by decide +kernel
theorem dX12_likely_101 : decode cX12_likely 101 = .ok (.iload 4, 2) := by decide +kernel
theorem dX12_likely_103 : decode cX12_likely 103 = .ok (.idiv, 1) := by decide +kernel
theorem dX12_likely_104 : decode cX12_likely 104 = .ok (.ireturn, 1) := by decide +kernel
theorem dX12_crown_0 : decode cX12_crown 0 = .ok (.aload_n 0, 1) := by decide +kernel
theorem dX12_crown_1 : decode cX12_crown 1 = .ok (.iconst 0, 1) := by decide +kernel
theorem dX12_crown_2 : decode cX12_crown 2 = .ok (.putfield 145, 3) := by decide +kernel
theorem dX12_crown_5 : decode cX12_crown 5 = .ok (.iconst (-1), 1) := by decide +kernel
theorem dX12_crown_6 : decode cX12_crown 6 = .ok (.istore_n 1, 1) := by decide +kernel
theorem dX12_crown_7 : decode cX12_crown 7 = .ok (.iconst 0, 1) := by decide +kernel
theorem dX12_crown_8 : decode cX12_crown 8 = .ok (.istore_n 2, 1) := by decide +kernel
theorem dX12_crown_9 : decode cX12_crown 9 = .ok (.iload_n 2, 1) := by decide +kernel
theorem dX12_crown_10 : decode cX12_crown 10 = .ok (.aload_n 0, 1) := by decide +kernel
theorem dX12_crown_11 : decode cX12_crown 11 = .ok (.getfield 13, 3) := by decide +kernel
theorem dX12_crown_14 : decode cX12_crown 14 = .ok (.iconst 0, 1) := by decide +kernel
theorem dX12_crown_15 : decode cX12_crown 15 = .ok (.iaload, 1) := by decide +kernel
theorem dX12_crown_16 : decode cX12_crown 16 = .ok (.if_icmp .ge 31, 3) := by decide +kernel
theorem dX12_crown_19 : decode cX12_crown 19 = .ok (.iload_n 1, 1) := by decide +kernel
theorem dX12_crown_20 : decode cX12_crown 20 = .ok (.iconst (-1), 1) := by decide +kernel
theorem dX12_crown_21 : decode cX12_crown 21 = .ok (.if_icmp .eq 18, 3) := by decide +kernel
theorem dX12_crown_24 : decode cX12_crown 24 = .ok (.aload_n 0, 1) := by decide +kernel
theorem dX12_crown_25 : decode cX12_crown 25 = .ok (.iload_n 2, 1) := by decide +kernel
theorem dX12_crown_26 : decode cX12_crown 26 = .ok (.iconst 1, 1) := by decide +kernel
theorem dX12_crown_27 : decode cX12_crown 27 = .ok (.invokevirtual 407, 3) := by decide +kernel
theorem dX12_crown_30 : decode cX12_crown 30 = .ok (.aload_n 0, 1) := by decide +kernel
theorem dX12_crown_31 : decode cX12_crown 31 = .ok (.iload_n 1, 1) := by decide +kernel
theorem dX12_crown_32 : decode cX12_crown 32 = .ok (.iconst 1, 1) := by decide +kernel
theorem dX12_crown_33 : decode cX12_crown 33 = .ok (.invokevirtual 407, 3) := by decide +kernel
theorem dX12_crown_36 : decode cX12_crown 36 = .ok (.if_icmp .le 5, 3) := by decide +kernel
theorem dX12_crown_39 : decode cX12_crown 39 = .ok (.iload_n 2, 1) := by decide +kernel
theorem dX12_crown_40 : decode cX12_crown 40 = .ok (.istore_n 1, 1) := by decide +kernel
theorem dX12_crown_41 : decode cX12_crown 41 = .ok (.iinc 2 1, 3) := by decide +kernel
theorem dX12_crown_44 : decode cX12_crown 44 = .ok (.goto (-35), 3) := by decide +kernel
theorem dX12_crown_47 : decode cX12_crown 47 = .ok (.iload_n 1, 1) := by decide +kernel
theorem dX12_crown_48 : decode cX12_crown 48 = .ok (.ireturn, 1) := by decide +kernel
theorem dX12_nextTooth_0 : decode cX12_nextTooth 0 = .ok (.aload_n 0, 1) := by decide +kernel
theorem dX12_nextTooth_1 : decode cX12_nextTooth 1 = .ok (.iconst 0, 1) := by decide +kernel
theorem dX12_nextTooth_2 : decode cX12_nextTooth 2 = .ok (.putfield 145, 3) := by decide +kernel
theorem dX12_nextTooth_5 : decode cX12_nextTooth 5 = .ok (.aload_n 0, 1) := by decide +kernel
theorem dX12_nextTooth_6 : decode cX12_nextTooth 6 = .ok (.iconst 1, 1) := by decide +kernel
theorem dX12_nextTooth_7 : decode cX12_nextTooth 7 = .ok (.iconst 0, 1) := by decide +kernel
theorem dX12_nextTooth_8 : decode cX12_nextTooth 8 = .ok (.invokevirtual 417, 3) := by decide +kernel
theorem dX12_nextTooth_11 : decode cX12_nextTooth 11 = .ok (.iconst 1, 1) := by decide +kernel
theorem dX12_nextTooth_12 : decode cX12_nextTooth 12 = .ok (.istore_n 1, 1) := by decide +kernel
theorem dX12_nextTooth_13 : decode cX12_nextTooth 13 = .ok (.iload_n 1, 1) := by decide +kernel
theorem dX12_nextTooth_14 : decode cX12_nextTooth 14 = .ok (.bipush 99, 2) := by decide +kernel
theorem dX12_nextTooth_16 : decode cX12_nextTooth 16 = .ok (.if_icmp .gt 31, 3) := by decide +kernel
theorem dX12_nextTooth_19 : decode cX12_nextTooth 19 = .ok (.aload_n 0, 1) := by decide +kernel
theorem dX12_nextTooth_20 : decode cX12_nextTooth 20 = .ok (.iconst 1, 1) := by decide +kernel
theorem dX12_nextTooth_21 : decode cX12_nextTooth 21 = .ok (.invokevirtual 395, 3) := by decide +kernel
theorem dX12_nextTooth_24 : decode cX12_nextTooth 24 = .ok (.aload_n 0, 1) := by decide +kernel
theorem dX12_nextTooth_25 : decode cX12_nextTooth 25 = .ok (.getfield 81, 3) := by decide +kernel
theorem dX12_nextTooth_28 : decode cX12_nextTooth 28 = .ok (.iconst 1, 1) := by decide +kernel
theorem dX12_nextTooth_29 : decode cX12_nextTooth 29 = .ok (.iaload, 1) := by decide +kernel
theorem dX12_nextTooth_30 : decode cX12_nextTooth 30 = .ok (.aload_n 0, 1) := by decide +kernel
theorem dX12_nextTooth_31 : decode cX12_nextTooth 31 = .ok (.getfield 81, 3) := by decide +kernel
theorem dX12_nextTooth_34 : decode cX12_nextTooth 34 = .ok (.iconst 0, 1) := by decide +kernel
theorem dX12_nextTooth_35 : decode cX12_nextTooth 35 = .ok (.iaload, 1) := by decide +kernel
theorem dX12_nextTooth_36 : decode cX12_nextTooth 36 = .ok (.if_icmp .le 5, 3) := by decide +kernel
theorem dX12_nextTooth_39 : decode cX12_nextTooth 39 = .ok (.iload_n 1, 1) := by decide +kernel
theorem dX12_nextTooth_40 : decode cX12_nextTooth 40 = .ok (.ireturn, 1) := by decide +kernel
theorem dX12_nextTooth_41 : decode cX12_nextTooth 41 = .ok (.iinc 1 1, 3) := by decide +kernel
theorem dX12_nextTooth_44 : decode cX12_nextTooth 44 = .ok (.goto (-31), 3) := by decide +kernel
theorem dX12_nextTooth_47 : decode cX12_nextTooth 47 = .ok (.bipush (-2), 2) := by decide +kernel
theorem dX12_nextTooth_49 : decode cX12_nextTooth 49 = .ok (.ireturn, 1) := by decide +kernel
theorem dX12_wholeBy_0 : decode cX12_wholeBy 0 = .ok (.aload_n 0, 1) := by decide +kernel
theorem dX12_wholeBy_1 : decode cX12_wholeBy 1 = .ok (.iconst 0, 1) := by decide +kernel
theorem dX12_wholeBy_2 : decode cX12_wholeBy 2 = .ok (.putfield 145, 3) := by decide +kernel
theorem dX12_wholeBy_5 : decode cX12_wholeBy 5 = .ok (.aload_n 0, 1) := by decide +kernel
theorem dX12_wholeBy_6 : decode cX12_wholeBy 6 = .ok (.iload_n 1, 1) := by decide +kernel
theorem dX12_wholeBy_7 : decode cX12_wholeBy 7 = .ok (.invokevirtual 465, 3) := by decide +kernel
theorem dX12_wholeBy_10 : decode cX12_wholeBy 10 = .ok (.ifCond .ne 5, 3) := by decide +kernel
theorem dX12_wholeBy_13 : decode cX12_wholeBy 13 = .ok (.iconst (-1), 1) := by decide +kernel
theorem dX12_wholeBy_14 : decode cX12_wholeBy 14 = .ok (.ireturn, 1) := by decide +kernel
theorem dX12_wholeBy_15 : decode cX12_wholeBy 15 = .ok (.iconst 0, 1) := by decide +kernel
theorem dX12_wholeBy_16 : decode cX12_wholeBy 16 = .ok (.istore_n 2, 1) := by decide +kernel
theorem dX12_wholeBy_17 : decode cX12_wholeBy 17 = .ok (.iconst 0, 1) := by decide +kernel
theorem dX12_wholeBy_18 : decode cX12_wholeBy 18 = .ok (.istore_n 3, 1) := by decide +kernel
theorem dX12_wholeBy_19 : decode cX12_wholeBy 19 = .ok (.iload_n 3, 1) := by decide +kernel
theorem dX12_wholeBy_20 : decode cX12_wholeBy 20 = .ok (.aload_n 0, 1) := by decide +kernel
theorem dX12_wholeBy_21 : decode cX12_wholeBy 21 = .ok (.getfield 13, 3) := by decide +kernel
theorem dX12_wholeBy_24 : decode cX12_wholeBy 24 = .ok (.iconst 0, 1) := by decide +kernel
theorem dX12_wholeBy_25 : decode cX12_wholeBy 25 = .ok (.iaload, 1) := by decide +kernel
theorem dX12_wholeBy_26 : decode cX12_wholeBy 26 = .ok (.if_icmp .ge 41, 3) := by decide +kernel
theorem dX12_wholeBy_29 : decode cX12_wholeBy 29 = .ok (.iload_n 2, 1) := by decide +kernel
theorem dX12_wholeBy_30 : decode cX12_wholeBy 30 = .ok (.aload_n 0, 1) := by decide +kernel
theorem dX12_wholeBy_31 : decode cX12_wholeBy 31 = .ok (.iconst 0, 1) := by decide +kernel
theorem dX12_wholeBy_32 : decode cX12_wholeBy 32 = .ok (.iload_n 3, 1) := by decide +kernel
theorem dX12_wholeBy_33 : decode cX12_wholeBy 33 = .ok (.aload_n 0, 1) := by decide +kernel
theorem dX12_wholeBy_34 : decode cX12_wholeBy 34 = .ok (.getfield 43, 3) := by decide +kernel
theorem dX12_wholeBy_37 : decode cX12_wholeBy 37 = .ok (.iload_n 1, 1) := by decide +kernel
theorem dX12_wholeBy_38 : decode cX12_wholeBy 38 = .ok (.iaload, 1) := by decide +kernel
theorem dX12_wholeBy_39 : decode cX12_wholeBy 39 = .ok (.aload_n 0, 1) := by decide +kernel
theorem dX12_wholeBy_40 : decode cX12_wholeBy 40 = .ok (.iconst 0, 1) := by decide +kernel
theorem dX12_wholeBy_41 : decode cX12_wholeBy 41 = .ok (.iload_n 1, 1) := by decide +kernel
theorem dX12_wholeBy_42 : decode cX12_wholeBy 42 = .ok (.invokevirtual 361, 3) := by decide +kernel
theorem dX12_wholeBy_45 : decode cX12_wholeBy 45 = .ok (.invokevirtual 374, 3) := by decide +kernel
theorem dX12_wholeBy_48 : decode cX12_wholeBy 48 = .ok (.iconst 1, 1) := by decide +kernel
theorem dX12_wholeBy_49 : decode cX12_wholeBy 49 = .ok (.if_icmp .ne 9, 3) := by decide +kernel
theorem dX12_wholeBy_52 : decode cX12_wholeBy 52 = .ok (.iconst 1, 1) := by decide +kernel
theorem dX12_wholeBy_53 : decode cX12_wholeBy 53 = .ok (.iload_n 3, 1) := by decide +kernel
theorem dX12_wholeBy_54 : decode cX12_wholeBy 54 = .ok (.ishl, 1) := by decide +kernel
theorem dX12_wholeBy_55 : decode cX12_wholeBy 55 = .ok (.goto 4, 3) := by decide +kernel
theorem dX12_wholeBy_58 : decode cX12_wholeBy 58 = .ok (.iconst 0, 1) := by decide +kernel
theorem dX12_wholeBy_59 : decode cX12_wholeBy 59 = .ok (.ior, 1) := by decide +kernel
theorem dX12_wholeBy_60 : decode cX12_wholeBy 60 = .ok (.istore_n 2, 1) := by decide +kernel
theorem dX12_wholeBy_61 : decode cX12_wholeBy 61 = .ok (.iinc 3 1, 3) := by decide +kernel
theorem dX12_wholeBy_64 : decode cX12_wholeBy 64 = .ok (.goto (-45), 3) := by decide +kernel
theorem dX12_wholeBy_67 : decode cX12_wholeBy 67 = .ok (.iload_n 2, 1) := by decide +kernel
theorem dX12_wholeBy_68 : decode cX12_wholeBy 68 = .ok (.ireturn, 1) := by decide +kernel
theorem dX12_docket_0 : decode cX12_docket 0 = .ok (.aload_n 0, 1) := by decide +kernel
theorem dX12_docket_1 : decode cX12_docket 1 = .ok (.iconst 0, 1) := by decide +kernel
theorem dX12_docket_2 : decode cX12_docket 2 = .ok (.putfield 145, 3) := by decide +kernel
theorem dX12_docket_5 : decode cX12_docket 5 = .ok (.iload_n 1, 1) := by decide +kernel
theorem dX12_docket_6 : decode cX12_docket 6 = .ok (.ifCond .lt 10, 3) := by decide +kernel
theorem dX12_docket_9 : decode cX12_docket 9 = .ok (.iload_n 1, 1) := by decide +kernel
theorem dX12_docket_10 : decode cX12_docket 10 = .ok (.sipush 9999, 3) := by decide +kernel
theorem dX12_docket_13 : decode cX12_docket 13 = .ok (.if_icmp .le 5, 3) := by decide +kernel
theorem dX12_docket_16 : decode cX12_docket 16 = .ok (.iconst (-1), 1) := by decide +kernel
theorem dX12_docket_17 : decode cX12_docket 17 = .ok (.ireturn, 1) := by decide +kernel
theorem dX12_docket_18 : decode cX12_docket 18 = .ok (.iconst 0, 1) := by decide +kernel
theorem dX12_docket_19 : decode cX12_docket 19 = .ok (.istore_n 2, 1) := by decide +kernel
theorem dX12_docket_20 : decode cX12_docket 20 = .ok (.iconst 0, 1) := by decide +kernel
theorem dX12_docket_21 : decode cX12_docket 21 = .ok (.istore_n 3, 1) := by decide +kernel
theorem dX12_docket_22 : decode cX12_docket 22 = .ok (.iload_n 3, 1) := by decide +kernel
theorem dX12_docket_23 : decode cX12_docket 23 = .ok (.aload_n 0, 1) := by decide +kernel
theorem dX12_docket_24 : decode cX12_docket 24 = .ok (.getfield 13, 3) := by decide +kernel
theorem dX12_docket_27 : decode cX12_docket 27 = .ok (.iconst 2, 1) := by decide +kernel
theorem dX12_docket_28 : decode cX12_docket 28 = .ok (.iaload, 1) := by decide +kernel
theorem dX12_docket_29 : decode cX12_docket 29 = .ok (.if_icmp .ge 38, 3) := by decide +kernel
theorem dX12_docket_32 : decode cX12_docket 32 = .ok (.iload_n 2, 1) := by decide +kernel
theorem dX12_docket_33 : decode cX12_docket 33 = .ok (.aload_n 0, 1) := by decide +kernel
theorem dX12_docket_34 : decode cX12_docket 34 = .ok (.iconst 0, 1) := by decide +kernel
theorem dX12_docket_35 : decode cX12_docket 35 = .ok (.iload_n 3, 1) := by decide +kernel
theorem dX12_docket_36 : decode cX12_docket 36 = .ok (.invokevirtual 379, 3) := by decide +kernel
theorem dX12_docket_39 : decode cX12_docket 39 = .ok (.ifCond .eq 19, 3) := by decide +kernel
theorem dX12_docket_42 : decode cX12_docket 42 = .ok (.aload_n 0, 1) := by decide +kernel
theorem dX12_docket_43 : decode cX12_docket 43 = .ok (.getfield 93, 3) := by decide +kernel
theorem dX12_docket_46 : decode cX12_docket 46 = .ok (.iload_n 3, 1) := by decide +kernel
theorem dX12_docket_47 : decode cX12_docket 47 = .ok (.iaload, 1) := by decide +kernel
theorem dX12_docket_48 : decode cX12_docket 48 = .ok (.iload_n 1, 1) := by decide +kernel
theorem dX12_docket_49 : decode cX12_docket 49 = .ok (.if_icmp .ne 9, 3) := by decide +kernel
theorem dX12_docket_52 : decode cX12_docket 52 = .ok (.iconst 1, 1) := by decide +kernel
theorem dX12_docket_53 : decode cX12_docket 53 = .ok (.iload_n 3, 1) := by decide +kernel
theorem dX12_docket_54 : decode cX12_docket 54 = .ok (.ishl, 1) := by decide +kernel
theorem dX12_docket_55 : decode cX12_docket 55 = .ok (.goto 4, 3) := by decide +kernel
theorem dX12_docket_58 : decode cX12_docket 58 = .ok (.iconst 0, 1) := by decide +kernel
theorem dX12_docket_59 : decode cX12_docket 59 = .ok (.ior, 1) := by decide +kernel
theorem dX12_docket_60 : decode cX12_docket 60 = .ok (.istore_n 2, 1) := by decide +kernel
theorem dX12_docket_61 : decode cX12_docket 61 = .ok (.iinc 3 1, 3) := by decide +kernel
theorem dX12_docket_64 : decode cX12_docket 64 = .ok (.goto (-42), 3) := by decide +kernel
theorem dX12_docket_67 : decode cX12_docket 67 = .ok (.iload_n 2, 1) := by decide +kernel
theorem dX12_docket_68 : decode cX12_docket 68 = .ok (.ireturn, 1) := by decide +kernel
theorem dX12_note_0 : decode cX12_note 0 = .ok (.aload_n 0, 1) := by decide +kernel
theorem dX12_note_1 : decode cX12_note 1 = .ok (.iconst 0, 1) := by decide +kernel
theorem dX12_note_2 : decode cX12_note 2 = .ok (.putfield 145, 3) := by decide +kernel
theorem dX12_note_5 : decode cX12_note 5 = .ok (.aload_n 0, 1) := by decide +kernel
theorem dX12_note_6 : decode cX12_note 6 = .ok (.iload_n 1, 1) := by decide +kernel
theorem dX12_note_7 : decode cX12_note 7 = .ok (.invokevirtual 401, 3) := by decide +kernel
theorem dX12_note_10 : decode cX12_note 10 = .ok (.ifCond .eq 21, 3) := by decide +kernel
theorem dX12_note_13 : decode cX12_note 13 = .ok (.iload_n 2, 1) := by decide +kernel
theorem dX12_note_14 : decode cX12_note 14 = .ok (.ifCond .lt 17, 3) := by decide +kernel
theorem dX12_note_17 : decode cX12_note 17 = .ok (.iload_n 2, 1) := by decide +kernel
theorem dX12_note_18 : decode cX12_note 18 = .ok (.iconst 3, 1) := by decide +kernel
theorem dX12_note_19 : decode cX12_note 19 = .ok (.if_icmp .gt 12, 3) := by decide +kernel
theorem dX12_note_22 : decode cX12_note 22 = .ok (.aload_n 0, 1) := by decide +kernel
theorem dX12_note_23 : decode cX12_note 23 = .ok (.getfield 295, 3) := by decide +kernel
theorem dX12_note_26 : decode cX12_note 26 = .ok (.bipush 24, 2) := by decide +kernel
theorem dX12_note_28 : decode cX12_note 28 = .ok (.if_icmp .ne 5, 3) := by decide +kernel
theorem dX12_note_31 : decode cX12_note 31 = .ok (.iconst (-1), 1) := by decide +kernel
theorem dX12_note_32 : decode cX12_note 32 = .ok (.ireturn, 1) := by decide +kernel
theorem dX12_note_33 : decode cX12_note 33 = .ok (.aload_n 0, 1) := by decide +kernel
theorem dX12_note_34 : decode cX12_note 34 = .ok (.getfield 126, 3) := by decide +kernel
theorem dX12_note_37 : decode cX12_note 37 = .ok (.aload_n 0, 1) := by decide +kernel
theorem dX12_note_38 : decode cX12_note 38 = .ok (.getfield 295, 3) := by decide +kernel
theorem dX12_note_41 : decode cX12_note 41 = .ok (.iload_n 1, 1) := by decide +kernel
theorem dX12_note_42 : decode cX12_note 42 = .ok (.iastore, 1) := by decide +kernel
theorem dX12_note_43 : decode cX12_note 43 = .ok (.aload_n 0, 1) := by decide +kernel
theorem dX12_note_44 : decode cX12_note 44 = .ok (.getfield 129, 3) := by decide +kernel
theorem dX12_note_47 : decode cX12_note 47 = .ok (.aload_n 0, 1) := by decide +kernel
theorem dX12_note_48 : decode cX12_note 48 = .ok (.getfield 295, 3) := by decide +kernel
theorem dX12_note_51 : decode cX12_note 51 = .ok (.iload_n 2, 1) := by decide +kernel
theorem dX12_note_52 : decode cX12_note 52 = .ok (.iastore, 1) := by decide +kernel
theorem dX12_note_53 : decode cX12_note 53 = .ok (.aload_n 0, 1) := by decide +kernel
theorem dX12_note_54 : decode cX12_note 54 = .ok (.getfield 132, 3) := by decide +kernel
theorem dX12_note_57 : decode cX12_note 57 = .ok (.aload_n 0, 1) := by decide +kernel
theorem dX12_note_58 : decode cX12_note 58 = .ok (.getfield 295, 3) := by decide +kernel
theorem dX12_note_61 : decode cX12_note 61 = .ok (.iload_n 3, 1) := by decide +kernel
theorem dX12_note_62 : decode cX12_note 62 = .ok (.bastore, 1) := by decide +kernel
theorem dX12_note_63 : decode cX12_note 63 = .ok (.aload_n 0, 1) := by decide +kernel
theorem dX12_note_64 : decode cX12_note 64 = .ok (.getfield 136, 3) := by decide +kernel
theorem dX12_note_67 : decode cX12_note 67 = .ok (.aload_n 0, 1) := by decide +kernel
theorem dX12_note_68 : decode cX12_note 68 = .ok (.getfield 295, 3) := by decide +kernel
theorem dX12_note_71 : decode cX12_note 71 = .ok (.iconst (-1), 1) := by decide +kernel
theorem dX12_note_72 : decode cX12_note 72 = .ok (.iastore, 1) := by decide +kernel
theorem dX12_note_73 : decode cX12_note 73 = .ok (.aload_n 0, 1) := by decide +kernel
theorem dX12_note_74 : decode cX12_note 74 = .ok (.dup, 1) := by decide +kernel
theorem dX12_note_75 : decode cX12_note 75 = .ok (.getfield 295, 3) := by decide +kernel
theorem dX12_note_78 : decode cX12_note 78 = .ok (.iconst 1, 1) := by decide +kernel
theorem dX12_note_79 : decode cX12_note 79 = .ok (.iadd, 1) := by decide +kernel
theorem dX12_note_80 : decode cX12_note 80 = .ok (.putfield 295, 3) := by decide +kernel
theorem dX12_note_83 : decode cX12_note 83 = .ok (.aload_n 0, 1) := by decide +kernel
theorem dX12_note_84 : decode cX12_note 84 = .ok (.getfield 295, 3) := by decide +kernel
theorem dX12_note_87 : decode cX12_note 87 = .ok (.iconst 1, 1) := by decide +kernel
theorem dX12_note_88 : decode cX12_note 88 = .ok (.isub, 1) := by decide +kernel
theorem dX12_note_89 : decode cX12_note 89 = .ok (.ireturn, 1) := by decide +kernel
theorem dX12_out_0 : decode cX12_out 0 = .ok (.aload_n 0, 1) := by decide +kernel
theorem dX12_out_1 : decode cX12_out 1 = .ok (.iconst 0, 1) := by decide +kernel
theorem dX12_out_2 : decode cX12_out 2 = .ok (.putfield 145, 3) := by decide +kernel
theorem dX12_out_5 : decode cX12_out 5 = .ok (.iload_n 1, 1) := by decide +kernel
theorem dX12_out_6 : decode cX12_out 6 = .ok (.ifCond .lt 20, 3) := by decide +kernel
theorem dX12_out_9 : decode cX12_out 9 = .ok (.iload_n 1, 1) := by decide +kernel
theorem dX12_out_10 : decode cX12_out 10 = .ok (.aload_n 0, 1) := by decide +kernel
theorem dX12_out_11 : decode cX12_out 11 = .ok (.getfield 295, 3) := by decide +kernel
theorem dX12_out_14 : decode cX12_out 14 = .ok (.if_icmp .ge 12, 3) := by decide +kernel
theorem dX12_out_17 : decode cX12_out 17 = .ok (.aload_n 0, 1) := by decide +kernel
theorem dX12_out_18 : decode cX12_out 18 = .ok (.getfield 295, 3) := by decide +kernel
theorem dX12_out_21 : decode cX12_out 21 = .ok (.bipush 24, 2) := by decide +kernel
theorem dX12_out_23 : decode cX12_out 23 = .ok (.if_icmp .ne 5, 3) := by decide +kernel
theorem dX12_out_26 : decode cX12_out 26 = .ok (.iconst (-1), 1) := by decide +kernel
theorem dX12_out_27 : decode cX12_out 27 = .ok (.ireturn, 1) := by decide +kernel
theorem dX12_out_28 : decode cX12_out 28 = .ok (.aload_n 0, 1) := by decide +kernel
theorem dX12_out_29 : decode cX12_out 29 = .ok (.getfield 136, 3) := by decide +kernel
theorem dX12_out_32 : decode cX12_out 32 = .ok (.aload_n 0, 1) := by decide +kernel
theorem dX12_out_33 : decode cX12_out 33 = .ok (.getfield 295, 3) := by decide +kernel
theorem dX12_out_36 : decode cX12_out 36 = .ok (.iload_n 1, 1) := by decide +kernel
theorem dX12_out_37 : decode cX12_out 37 = .ok (.iastore, 1) := by decide +kernel
theorem dX12_out_38 : decode cX12_out 38 = .ok (.aload_n 0, 1) := by decide +kernel
theorem dX12_out_39 : decode cX12_out 39 = .ok (.dup, 1) := by decide +kernel
theorem dX12_out_40 : decode cX12_out 40 = .ok (.getfield 295, 3) := by decide +kernel
theorem dX12_out_43 : decode cX12_out 43 = .ok (.iconst 1, 1) := by decide +kernel
theorem dX12_out_44 : decode cX12_out 44 = .ok (.iadd, 1) := by decide +kernel
theorem dX12_out_45 : decode cX12_out 45 = .ok (.putfield 295, 3) := by decide +kernel
theorem dX12_out_48 : decode cX12_out 48 = .ok (.aload_n 0, 1) := by decide +kernel
theorem dX12_out_49 : decode cX12_out 49 = .ok (.getfield 295, 3) := by decide +kernel
theorem dX12_out_52 : decode cX12_out 52 = .ok (.iconst 1, 1) := by decide +kernel
theorem dX12_out_53 : decode cX12_out 53 = .ok (.isub, 1) := by decide +kernel
theorem dX12_out_54 : decode cX12_out 54 = .ok (.ireturn, 1) := by decide +kernel
def wp_X12_spoil_78 (Q : Int32 → ck_H → Prop) (K86 : Int32 → Int32 → Int32 → ck_H → Prop) (Kc : Int32 → Int32 → Int32 → Int32 → ck_H → Prop) (x1 : Int32) (x2 : Int32) (x4 : Int32) (y0 : Int32) (y1 : Int32) (h : ck_H) : Prop := (∀ v10, v10 = (y0 ||| y1) → (∀ v11, v11 = x4 + 1 → Kc x1 x2 v10 v11 h))
def wp_X12_spoil_77 (Q : Int32 → ck_H → Prop) (K86 : Int32 → Int32 → Int32 → ck_H → Prop) (Kc : Int32 → Int32 → Int32 → Int32 → ck_H → Prop) (x1 : Int32) (x2 : Int32) (x4 : Int32) (y0 : Int32) (h : ck_H) : Prop := wp_X12_spoil_78 Q K86 Kc x1 x2 x4 y0 (0 : Int32) h
def wp_X12_spoil_34 (Q : Int32 → ck_H → Prop) (K86 : Int32 → Int32 → Int32 → ck_H → Prop) : Nat → Int32 → Int32 → Int32 → Int32 → ck_H → Prop
  | 0 => fun _ _ _ _ _ => False
  | n + 1 => fun x1 x2 x3 x4 h => (((h.1 2 2) ≤ x4 → K86 x1 x2 x3 h) ∧ (¬ (h.1 2 2) ≤ x4 → (wp_X12_isOpen (0 : Int32) x4 h (fun r8 h7 => ((r8 = 0 → wp_X12_spoil_77 Q K86 (wp_X12_spoil_34 Q K86 n) x1 x2 x4 x3 h7) ∧ (¬ r8 = 0 → ((¬ (((h7.1 22 0) >>> (x4 &&& 31)) &&& (1 : Int32)) = 0 → wp_X12_spoil_77 Q K86 (wp_X12_spoil_34 Q K86 n) x1 x2 x4 x3 h7) ∧ ((((h7.1 22 0) >>> (x4 &&& 31)) &&& (1 : Int32)) = 0 → wp_X12_spoil_78 Q K86 (wp_X12_spoil_34 Q K86 n) x1 x2 x4 x3 ((1 : Int32) <<< (x4 &&& 31)) h7))))))))
def wp_X12_spoil_170 (Q : Int32 → ck_H → Prop) (Kc : Int32 → Int32 → Int32 → Int32 → Int32 → ck_H → Prop) (x1 : Int32) (x2 : Int32) (x3 : Int32) (x4 : Int32) (x5 : Int32) (h : ck_H) : Prop := (∀ v19, v19 = x5 + 1 → Kc x1 x2 x3 x4 v19 h)
def wp_X12_spoil_129 (Q : Int32 → ck_H → Prop) (Kc : Int32 → Int32 → Int32 → Int32 → Int32 → ck_H → Prop) (x1 : Int32) (x2 : Int32) (x3 : Int32) (x4 : Int32) (x5 : Int32) (h : ck_H) : Prop := (wp_X12_copies (1 : Int32) (0 : Int32) h (fun h21 => (∀ h22, h22 = ck_sI h21 22 1 ((h21.1 22 1) ||| x5) → (wp_X12_goesOn x1 h22 (fun h23 => (wp_X12_gainAll (1 : Int32) h23 (fun r25 h24 => (wp_X12_gainAll (0 : Int32) h24 (fun r27 h26 => ((x2 < (r25 - r27) → wp_X12_spoil_170 Q Kc x1 x2 x3 x4 x5 h26) ∧ (¬ x2 < (r25 - r27) → wp_X12_spoil_170 Q Kc x1 x2 x3 x5 x5 h26)))))))))))
def wp_X12_spoil_93 (Q : Int32 → ck_H → Prop) : Nat → Int32 → Int32 → Int32 → Int32 → Int32 → ck_H → Prop
  | 0 => fun _ _ _ _ _ _ => False
  | n + 1 => fun x1 x2 x3 x4 x5 h => ((x3 < x5 → Q x4 h) ∧ (¬ x3 < x5 → ((¬ (x5 &&& (x3 ^^^ (-1 : Int32))) = 0 → wp_X12_spoil_170 Q (wp_X12_spoil_93 Q n) x1 x2 x3 x4 x5 h) ∧ ((x5 &&& (x3 ^^^ (-1 : Int32))) = 0 → ((x4 < 0 → wp_X12_spoil_129 Q (wp_X12_spoil_93 Q n) x1 x2 x3 x4 x5 h) ∧ (¬ x4 < 0 → (wp_X12_bitsOf x5 h (fun r30 h29 => (wp_X12_bitsOf x4 h29 (fun r32 h31 => ((r30 < r32 → wp_X12_spoil_129 Q (wp_X12_spoil_93 Q n) x1 x2 x3 x4 x5 h31) ∧ (¬ r30 < r32 → wp_X12_spoil_170 Q (wp_X12_spoil_93 Q n) x1 x2 x3 x4 x5 h31))))))))))))
def wp_X12_spoil (x1 : Int32) (x2 : Int32) (h : ck_H) (Q : Int32 → ck_H → Prop) : Prop := (∀ h1, h1 = ck_sI h 0 0 (0 : Int32) → ((x1 < (1 : Int32) → Q (-1 : Int32) h1) ∧ (¬ x1 < (1 : Int32) → (((60 : Int32) < x1 → Q (-1 : Int32) h1) ∧ (¬ (60 : Int32) < x1 → ((x2 < 0 → Q (-1 : Int32) h1) ∧ (¬ x2 < 0 → ((x2 ≤ (999 : Int32) → wp_X12_spoil_34 Q (fun x14 x15 x16 h13 => wp_X12_spoil_93 Q lpN x14 x15 x16 (-2 : Int32) (0 : Int32) h13) lpN x1 x2 (0 : Int32) (0 : Int32) h1) ∧ (¬ x2 ≤ (999 : Int32) → Q (-1 : Int32) h1)))))))))
set_option maxHeartbeats 4000000 in
set_option maxRecDepth 100000 in
theorem cp_X12_spoil_78 {gr : Bool} {Q : Int32 → ck_H → Prop} {K86 : Int32 → Int32 → Int32 → ck_H → Prop} {Kc : Int32 → Int32 → Int32 → Int32 → ck_H → Prop} (hK86 : ∀ (x1 : Int32) (x2 : Int32) (x3 : Int32) (h : ck_H), K86 x1 x2 x3 h → ck_W cX12_spoil 6 RX12 (some .int) 12 0 0 false gr (ck_Qi ck_shM Q) ck_shM h 0 0 86 [(0, .ref 0), (1, .int x1), (2, .int x2), (3, .int x3)] []) (hKc : ∀ (x1 : Int32) (x2 : Int32) (x3 : Int32) (x4 : Int32) (h : ck_H), Kc x1 x2 x3 x4 h → ck_W cX12_spoil 6 RX12 (some .int) 12 0 0 false gr (ck_Qi ck_shM Q) ck_shM h 0 0 34 [(0, .ref 0), (1, .int x1), (2, .int x2), (3, .int x3), (4, .int x4)] []) : ∀ (x1 : Int32) (x2 : Int32) (x4 : Int32) (y0 : Int32) (y1 : Int32) (h : ck_H), wp_X12_spoil_78 Q K86 Kc x1 x2 x4 y0 y1 h → ck_W cX12_spoil 6 RX12 (some .int) 12 0 0 false gr (ck_Qi ck_shM Q) ck_shM h 0 0 78 [(0, .ref 0), (1, .int x1), (2, .int x2), (4, .int x4)] [.int y1, .int y0] := by
  intro x1 x2 x4 y0 y1 h hq
  refine ck_ior dX12_spoil_78 ?_
  refine ck_nmI (fun v10 ev10 => ?_)
  have hq := hq v10 ev10
  refine ck_istore_n (lv' := [(3, .int v10), (0, .ref 0), (1, .int x1), (2, .int x2), (4, .int x4)]) dX12_spoil_79 rfl (by decide) rfl ?_
  obtain ⟨v11, ev11⟩ : ∃ z : Int32, z = x4 + 1 := ⟨_, rfl⟩
  have hq := hq v11 ev11
  refine ck_iinc (v := v11) (lv' := [(4, .int v11), (3, .int v10), (0, .ref 0), (1, .int x1), (2, .int x2)]) 4 dX12_spoil_80 rfl (by rw [ev11]; rfl) (by decide) rfl ?_
  refine ck_goto (tgt := 34) dX12_spoil_83 (by decide) ?_
  refine ck_loc [2, 3, 4, 1, 0] rfl ?_
  exact hKc _ _ _ _ _ hq
set_option maxHeartbeats 4000000 in
set_option maxRecDepth 100000 in
theorem cp_X12_spoil_77 {gr : Bool} {Q : Int32 → ck_H → Prop} {K86 : Int32 → Int32 → Int32 → ck_H → Prop} {Kc : Int32 → Int32 → Int32 → Int32 → ck_H → Prop} (hK86 : ∀ (x1 : Int32) (x2 : Int32) (x3 : Int32) (h : ck_H), K86 x1 x2 x3 h → ck_W cX12_spoil 6 RX12 (some .int) 12 0 0 false gr (ck_Qi ck_shM Q) ck_shM h 0 0 86 [(0, .ref 0), (1, .int x1), (2, .int x2), (3, .int x3)] []) (hKc : ∀ (x1 : Int32) (x2 : Int32) (x3 : Int32) (x4 : Int32) (h : ck_H), Kc x1 x2 x3 x4 h → ck_W cX12_spoil 6 RX12 (some .int) 12 0 0 false gr (ck_Qi ck_shM Q) ck_shM h 0 0 34 [(0, .ref 0), (1, .int x1), (2, .int x2), (3, .int x3), (4, .int x4)] []) : ∀ (x1 : Int32) (x2 : Int32) (x4 : Int32) (y0 : Int32) (h : ck_H), wp_X12_spoil_77 Q K86 Kc x1 x2 x4 y0 h → ck_W cX12_spoil 6 RX12 (some .int) 12 0 0 false gr (ck_Qi ck_shM Q) ck_shM h 0 0 77 [(0, .ref 0), (1, .int x1), (2, .int x2), (4, .int x4)] [.int y0] := by
  intro x1 x2 x4 y0 h hq
  refine ck_iconst (v := 0) dX12_spoil_77 (by decide) ?_
  exact cp_X12_spoil_78 hK86 hKc _ _ _ _ _ _ hq
set_option maxHeartbeats 4000000 in
set_option maxRecDepth 100000 in
theorem cp_X12_spoil_34 {gr : Bool} {Q : Int32 → ck_H → Prop} {K86 : Int32 → Int32 → Int32 → ck_H → Prop} (hK86 : ∀ (x1 : Int32) (x2 : Int32) (x3 : Int32) (h : ck_H), K86 x1 x2 x3 h → ck_W cX12_spoil 6 RX12 (some .int) 12 0 0 false gr (ck_Qi ck_shM Q) ck_shM h 0 0 86 [(0, .ref 0), (1, .int x1), (2, .int x2), (3, .int x3)] []) : ∀ (n : Nat) (x1 : Int32) (x2 : Int32) (x3 : Int32) (x4 : Int32) (h : ck_H), wp_X12_spoil_34 Q K86 n x1 x2 x3 x4 h → ck_W cX12_spoil 6 RX12 (some .int) 12 0 0 false gr (ck_Qi ck_shM Q) ck_shM h 0 0 34 [(0, .ref 0), (1, .int x1), (2, .int x2), (3, .int x3), (4, .int x4)] [] := by
  intro n
  induction n with
  | zero => intro x1 x2 x3 x4 h hq; exact hq.elim
  | succ n hKc =>
    intro x1 x2 x3 x4 h hq
    refine ck_iload 4 dX12_spoil_34 rfl ?_
    refine ck_aload_n 0 dX12_spoil_36 rfl rfl ?_
    refine ck_getR clX12 3 rfl rfl (by decide) fl_X12_13 dX12_spoil_37 ?_
    refine ck_iconst (v := 2) dX12_spoil_40 (by decide) ?_
    refine ck_iald (j := 2) (by decide) rfl (ck_inL (by decide)) dX12_spoil_41 ?_
    refine ck_icmp_ge (tgt := 86) dX12_spoil_42 (by decide) (fun c6 => ?_) (fun c6 => ?_)
    · have hq := hq.1 c6
      refine ck_loc [0, 1, 2, 3] rfl ?_
      exact hK86 _ _ _ _ hq
    · have hq := hq.2 c6
      refine ck_iload_n 3 dX12_spoil_45 rfl rfl ?_
      refine ck_aload_n 0 dX12_spoil_46 rfl rfl ?_
      refine ck_iconst (v := 0) dX12_spoil_47 (by decide) ?_
      refine ck_iload 4 dX12_spoil_48 rfl ?_
      refine ck_callV (c_X12_isOpen hq) rfl cal_X12_isOpen rfl ml_X12_379 vir_X12_isOpen rfl rfl (by decide) (Nat.le_of_ble_eq_true rfl) (Nat.le_of_ble_eq_true rfl) (by decide) (by decide) dX12_spoil_50 ?_
      rintro _ _ h7 ⟨r8, rfl, rfl, hq⟩
      refine ck_if_eq (tgt := 77) dX12_spoil_53 (by decide) (fun c9 => ?_) (fun c9 => ?_)
      · have hq := hq.1 c9
        refine ck_loc [0, 1, 2, 4] rfl ?_
        exact cp_X12_spoil_77 hK86 hKc _ _ _ _ _ hq
      · have hq := hq.2 c9
        refine ck_aload_n 0 dX12_spoil_56 rfl rfl ?_
        refine ck_getR clX12 37 rfl rfl (by decide) fl_X12_78 dX12_spoil_57 ?_
        refine ck_iconst (v := 0) dX12_spoil_60 (by decide) ?_
        refine ck_iald (j := 0) (by decide) rfl (ck_inL (by decide)) dX12_spoil_61 ?_
        refine ck_iload 4 dX12_spoil_62 rfl ?_
        refine ck_ishr dX12_spoil_64 ?_
        refine ck_iconst (v := 1) dX12_spoil_65 (by decide) ?_
        refine ck_iand dX12_spoil_66 ?_
        refine ck_if_ne (tgt := 77) dX12_spoil_67 (by decide) (fun c12 => ?_) (fun c12 => ?_)
        · have hq := hq.1 c12
          refine ck_loc [0, 1, 2, 4] rfl ?_
          exact cp_X12_spoil_77 hK86 hKc _ _ _ _ _ hq
        · have hq := hq.2 c12
          refine ck_iconst (v := 1) dX12_spoil_70 (by decide) ?_
          refine ck_iload 4 dX12_spoil_71 rfl ?_
          refine ck_ishl dX12_spoil_73 ?_
          refine ck_goto (tgt := 78) dX12_spoil_74 (by decide) ?_
          refine ck_loc [0, 1, 2, 4] rfl ?_
          exact cp_X12_spoil_78 hK86 hKc _ _ _ _ _ _ hq
set_option maxHeartbeats 4000000 in
set_option maxRecDepth 100000 in
theorem cp_X12_spoil_170 {gr : Bool} {Q : Int32 → ck_H → Prop} {Kc : Int32 → Int32 → Int32 → Int32 → Int32 → ck_H → Prop} (hKc : ∀ (x1 : Int32) (x2 : Int32) (x3 : Int32) (x4 : Int32) (x5 : Int32) (h : ck_H), Kc x1 x2 x3 x4 x5 h → ck_W cX12_spoil 6 RX12 (some .int) 12 0 0 false gr (ck_Qi ck_shM Q) ck_shM h 0 0 93 [(0, .ref 0), (1, .int x1), (2, .int x2), (3, .int x3), (4, .int x4), (5, .int x5)] []) : ∀ (x1 : Int32) (x2 : Int32) (x3 : Int32) (x4 : Int32) (x5 : Int32) (h : ck_H), wp_X12_spoil_170 Q Kc x1 x2 x3 x4 x5 h → ck_W cX12_spoil 6 RX12 (some .int) 12 0 0 false gr (ck_Qi ck_shM Q) ck_shM h 0 0 170 [(0, .ref 0), (1, .int x1), (2, .int x2), (3, .int x3), (4, .int x4), (5, .int x5)] [] := by
  intro x1 x2 x3 x4 x5 h hq
  obtain ⟨v19, ev19⟩ : ∃ z : Int32, z = x5 + 1 := ⟨_, rfl⟩
  have hq := hq v19 ev19
  refine ck_iinc (v := v19) (lv' := [(5, .int v19), (0, .ref 0), (1, .int x1), (2, .int x2), (3, .int x3), (4, .int x4)]) 5 dX12_spoil_170 rfl (by rw [ev19]; rfl) (by decide) rfl ?_
  refine ck_goto (tgt := 93) dX12_spoil_173 (by decide) ?_
  refine ck_loc [1, 2, 3, 4, 5, 0] rfl ?_
  exact hKc _ _ _ _ _ _ hq
set_option maxHeartbeats 4000000 in
set_option maxRecDepth 100000 in
theorem cp_X12_spoil_129 {gr : Bool} {Q : Int32 → ck_H → Prop} {Kc : Int32 → Int32 → Int32 → Int32 → Int32 → ck_H → Prop} (hKc : ∀ (x1 : Int32) (x2 : Int32) (x3 : Int32) (x4 : Int32) (x5 : Int32) (h : ck_H), Kc x1 x2 x3 x4 x5 h → ck_W cX12_spoil 6 RX12 (some .int) 12 0 0 false gr (ck_Qi ck_shM Q) ck_shM h 0 0 93 [(0, .ref 0), (1, .int x1), (2, .int x2), (3, .int x3), (4, .int x4), (5, .int x5)] []) : ∀ (x1 : Int32) (x2 : Int32) (x3 : Int32) (x4 : Int32) (x5 : Int32) (h : ck_H), wp_X12_spoil_129 Q Kc x1 x2 x3 x4 x5 h → ck_W cX12_spoil 6 RX12 (some .int) 12 0 0 false gr (ck_Qi ck_shM Q) ck_shM h 0 0 129 [(0, .ref 0), (1, .int x1), (2, .int x2), (3, .int x3), (4, .int x4), (5, .int x5)] [] := by
  intro x1 x2 x3 x4 x5 h hq
  refine ck_aload_n 0 dX12_spoil_129 rfl rfl ?_
  refine ck_iconst (v := 1) dX12_spoil_130 (by decide) ?_
  refine ck_iconst (v := 0) dX12_spoil_131 (by decide) ?_
  refine ck_callV (c_X12_copies hq) rfl cal_X12_copies rfl ml_X12_417 vir_X12_copies rfl rfl (by decide) (Nat.le_of_ble_eq_true rfl) (Nat.le_of_ble_eq_true rfl) (by decide) (by decide) dX12_spoil_132 ?_
  rintro _ _ h21 ⟨rfl, rfl, hq⟩
  refine ck_aload_n 0 dX12_spoil_135 rfl rfl ?_
  refine ck_getR clX12 37 rfl rfl (by decide) fl_X12_78 dX12_spoil_136 ?_
  refine ck_iconst (v := 1) dX12_spoil_139 (by decide) ?_
  refine ck_dup2 dX12_spoil_140 rfl rfl ?_
  refine ck_iald (j := 1) (by decide) rfl (ck_inL (by decide)) dX12_spoil_141 ?_
  refine ck_iload 5 dX12_spoil_142 rfl ?_
  refine ck_ior dX12_spoil_144 ?_
  refine ck_iast (j := 1) (by decide) rfl (ck_inL (by decide)) dX12_spoil_145 ?_
  refine ck_nmH (fun h22 eh22 => ?_)
  have hq := hq h22 eh22
  refine ck_aload_n 0 dX12_spoil_146 rfl rfl ?_
  refine ck_iload_n 1 dX12_spoil_147 rfl rfl ?_
  refine ck_callV (c_X12_goesOn hq) rfl cal_X12_goesOn rfl ml_X12_423 vir_X12_goesOn rfl rfl (by decide) (Nat.le_of_ble_eq_true rfl) (Nat.le_of_ble_eq_true rfl) (by decide) (by decide) dX12_spoil_148 ?_
  rintro _ _ h23 ⟨rfl, rfl, hq⟩
  refine ck_aload_n 0 dX12_spoil_151 rfl rfl ?_
  refine ck_iconst (v := 1) dX12_spoil_152 (by decide) ?_
  refine ck_callV (c_X12_gainAll hq) rfl cal_X12_gainAll rfl ml_X12_429 vir_X12_gainAll rfl rfl (by decide) (Nat.le_of_ble_eq_true rfl) (Nat.le_of_ble_eq_true rfl) (by decide) (by decide) dX12_spoil_153 ?_
  rintro _ _ h24 ⟨r25, rfl, rfl, hq⟩
  refine ck_aload_n 0 dX12_spoil_156 rfl rfl ?_
  refine ck_iconst (v := 0) dX12_spoil_157 (by decide) ?_
  refine ck_callV (c_X12_gainAll hq) rfl cal_X12_gainAll rfl ml_X12_429 vir_X12_gainAll rfl rfl (by decide) (Nat.le_of_ble_eq_true rfl) (Nat.le_of_ble_eq_true rfl) (by decide) (by decide) dX12_spoil_158 ?_
  rintro _ _ h26 ⟨r27, rfl, rfl, hq⟩
  refine ck_isub dX12_spoil_161 ?_
  refine ck_iload_n 2 dX12_spoil_162 rfl rfl ?_
  refine ck_icmp_gt (tgt := 170) dX12_spoil_163 (by decide) (fun c28 => ?_) (fun c28 => ?_)
  · have hq := hq.1 c28
    exact cp_X12_spoil_170 hKc _ _ _ _ _ _ hq
  · have hq := hq.2 c28
    refine ck_iload 5 dX12_spoil_166 rfl ?_
    refine ck_istore (lv' := [(4, .int x5), (0, .ref 0), (1, .int x1), (2, .int x2), (3, .int x3), (5, .int x5)]) dX12_spoil_168 (by decide) rfl ?_
    refine ck_loc [1, 2, 3, 4, 0, 5] rfl ?_
    exact cp_X12_spoil_170 hKc _ _ _ _ _ _ hq
set_option maxHeartbeats 4000000 in
set_option maxRecDepth 100000 in
theorem cp_X12_spoil_93 {gr : Bool} {Q : Int32 → ck_H → Prop} : ∀ (n : Nat) (x1 : Int32) (x2 : Int32) (x3 : Int32) (x4 : Int32) (x5 : Int32) (h : ck_H), wp_X12_spoil_93 Q n x1 x2 x3 x4 x5 h → ck_W cX12_spoil 6 RX12 (some .int) 12 0 0 false gr (ck_Qi ck_shM Q) ck_shM h 0 0 93 [(0, .ref 0), (1, .int x1), (2, .int x2), (3, .int x3), (4, .int x4), (5, .int x5)] [] := by
  intro n
  induction n with
  | zero => intro x1 x2 x3 x4 x5 h hq; exact hq.elim
  | succ n hKc =>
    intro x1 x2 x3 x4 x5 h hq
    refine ck_iload 5 dX12_spoil_93 rfl ?_
    refine ck_iload_n 3 dX12_spoil_95 rfl rfl ?_
    refine ck_icmp_gt (tgt := 176) dX12_spoil_96 (by decide) (fun c17 => ?_) (fun c17 => ?_)
    · have hq := hq.1 c17
      refine ck_iload 4 dX12_spoil_176 rfl ?_
      exact ck_iret rfl rfl rfl rfl dX12_spoil_178 ⟨_, rfl, rfl, hq⟩
    · have hq := hq.2 c17
      refine ck_iload 5 dX12_spoil_99 rfl ?_
      refine ck_iload_n 3 dX12_spoil_101 rfl rfl ?_
      refine ck_iconst (v := -1) dX12_spoil_102 (by decide) ?_
      refine ck_ixor dX12_spoil_103 ?_
      refine ck_iand dX12_spoil_104 ?_
      refine ck_if_ne (tgt := 170) dX12_spoil_105 (by decide) (fun c18 => ?_) (fun c18 => ?_)
      · have hq := hq.1 c18
        exact cp_X12_spoil_170 hKc _ _ _ _ _ _ hq
      · have hq := hq.2 c18
        refine ck_iload 4 dX12_spoil_108 rfl ?_
        refine ck_if_lt (tgt := 129) dX12_spoil_110 (by decide) (fun c20 => ?_) (fun c20 => ?_)
        · have hq := hq.1 c20
          exact cp_X12_spoil_129 hKc _ _ _ _ _ _ hq
        · have hq := hq.2 c20
          refine ck_iload 5 dX12_spoil_113 rfl ?_
          refine ck_callS (c_X12_bitsOf hq) rfl cal_X12_bitsOf rfl ml_X12_459 sta_X12_bitsOf (by decide) (Nat.le_of_ble_eq_true rfl) (Nat.le_of_ble_eq_true rfl) (by decide) (by decide) dX12_spoil_115 ?_
          rintro _ _ h29 ⟨r30, rfl, rfl, hq⟩
          refine ck_iload 4 dX12_spoil_118 rfl ?_
          refine ck_callS (c_X12_bitsOf hq) rfl cal_X12_bitsOf rfl ml_X12_459 sta_X12_bitsOf (by decide) (Nat.le_of_ble_eq_true rfl) (Nat.le_of_ble_eq_true rfl) (by decide) (by decide) dX12_spoil_120 ?_
          rintro _ _ h31 ⟨r32, rfl, rfl, hq⟩
          refine ck_icmp_lt (tgt := 129) dX12_spoil_123 (by decide) (fun c33 => ?_) (fun c33 => ?_)
          · have hq := hq.1 c33
            exact cp_X12_spoil_129 hKc _ _ _ _ _ _ hq
          · have hq := hq.2 c33
            refine ck_goto (tgt := 170) dX12_spoil_126 (by decide) ?_
            exact cp_X12_spoil_170 hKc _ _ _ _ _ _ hq
set_option maxHeartbeats 4000000 in
set_option maxRecDepth 100000 in
theorem c_X12_spoil {gr : Bool} {x1 : Int32} {x2 : Int32} {h : ck_H} {Q : Int32 → ck_H → Prop} (hq : wp_X12_spoil x1 x2 h Q) : ck_M yX12_spoil cX12_spoil 6 (some .int) 12 0 0 gr ck_shM h [.ref 0, .int x1, .int x2] (ck_Qi ck_shM Q) := by
  refine ck_entry (lv := [(0, .ref 0), (1, .int x1), (2, .int x2)]) false (own := RX12) rfl (fun q => by cases q) (by decide) (Nat.le_of_ble_eq_true rfl) rfl ?_
  refine ck_aload_n 0 dX12_spoil_0 rfl rfl ?_
  refine ck_iconst (v := 0) dX12_spoil_1 (by decide) ?_
  refine ck_putI clX12 0 rfl rfl (by decide) fl_X12_145 rfl rfl rfl dX12_spoil_2 ?_
  refine ck_nmH (fun h1 eh1 => ?_)
  have hq := hq h1 eh1
  refine ck_iload_n 1 dX12_spoil_5 rfl rfl ?_
  refine ck_iconst (v := 1) dX12_spoil_6 (by decide) ?_
  refine ck_icmp_lt (tgt := 27) dX12_spoil_7 (by decide) (fun c2 => ?_) (fun c2 => ?_)
  · have hq := hq.1 c2
    refine ck_iconst (v := -1) dX12_spoil_27 (by decide) ?_
    exact ck_iret rfl rfl rfl rfl dX12_spoil_28 ⟨_, rfl, rfl, hq⟩
  · have hq := hq.2 c2
    refine ck_iload_n 1 dX12_spoil_10 rfl rfl ?_
    refine ck_bipush (v := 60) dX12_spoil_11 (by decide) ?_
    refine ck_icmp_gt (tgt := 27) dX12_spoil_13 (by decide) (fun c3 => ?_) (fun c3 => ?_)
    · have hq := hq.1 c3
      refine ck_iconst (v := -1) dX12_spoil_27 (by decide) ?_
      exact ck_iret rfl rfl rfl rfl dX12_spoil_28 ⟨_, rfl, rfl, hq⟩
    · have hq := hq.2 c3
      refine ck_iload_n 2 dX12_spoil_16 rfl rfl ?_
      refine ck_if_lt (tgt := 27) dX12_spoil_17 (by decide) (fun c4 => ?_) (fun c4 => ?_)
      · have hq := hq.1 c4
        refine ck_iconst (v := -1) dX12_spoil_27 (by decide) ?_
        exact ck_iret rfl rfl rfl rfl dX12_spoil_28 ⟨_, rfl, rfl, hq⟩
      · have hq := hq.2 c4
        refine ck_iload_n 2 dX12_spoil_20 rfl rfl ?_
        refine ck_sipush (v := 999) dX12_spoil_21 (by decide) ?_
        refine ck_icmp_le (tgt := 29) dX12_spoil_24 (by decide) (fun c5 => ?_) (fun c5 => ?_)
        · have hq := hq.1 c5
          refine ck_iconst (v := 0) dX12_spoil_29 (by decide) ?_
          refine ck_istore_n (lv' := [(3, .int (0 : Int32)), (0, .ref 0), (1, .int x1), (2, .int x2)]) dX12_spoil_30 rfl (by decide) rfl ?_
          refine ck_iconst (v := 0) dX12_spoil_31 (by decide) ?_
          refine ck_istore (lv' := [(4, .int (0 : Int32)), (3, .int (0 : Int32)), (0, .ref 0), (1, .int x1), (2, .int x2)]) dX12_spoil_32 (by decide) rfl ?_
          refine ck_loc [2, 3, 4, 1, 0] rfl ?_
          refine cp_X12_spoil_34 (fun x14 x15 x16 h13 hq => ?_) lpN _ _ _ _ _ hq
          · refine ck_bipush (v := -2) dX12_spoil_86 (by decide) ?_
            refine ck_istore (lv' := [(4, .int (-2 : Int32)), (0, .ref 0), (1, .int x14), (2, .int x15), (3, .int x16)]) dX12_spoil_88 (by decide) rfl ?_
            refine ck_iconst (v := 0) dX12_spoil_90 (by decide) ?_
            refine ck_istore (lv' := [(5, .int (0 : Int32)), (4, .int (-2 : Int32)), (0, .ref 0), (1, .int x14), (2, .int x15), (3, .int x16)]) dX12_spoil_91 (by decide) rfl ?_
            refine ck_loc [2, 3, 4, 5, 1, 0] rfl ?_
            refine cp_X12_spoil_93 lpN _ _ _ _ _ _ hq
        · have hq := hq.2 c5
          refine ck_iconst (v := -1) dX12_spoil_27 (by decide) ?_
          exact ck_iret rfl rfl rfl rfl dX12_spoil_28 ⟨_, rfl, rfl, hq⟩
def wp_X12_isOpenSuit (x1 : Int32) (h : ck_H) (Q : Int32 → ck_H → Prop) : Prop := (wp_X12_isSuit x1 h (fun r2 h1 => ((r2 = 0 → Q (0 : Int32) h1) ∧ (¬ r2 = 0 → (wp_X12_isOpen (0 : Int32) x1 h1 (fun r5 h4 => ((r5 = 0 → Q (0 : Int32) h4) ∧ (¬ r5 = 0 → Q (1 : Int32) h4))))))))
set_option maxHeartbeats 4000000 in
set_option maxRecDepth 100000 in
theorem c_X12_isOpenSuit {gr : Bool} {x1 : Int32} {h : ck_H} {Q : Int32 → ck_H → Prop} (hq : wp_X12_isOpenSuit x1 h Q) : ck_M yX12_isOpenSuit cX12_isOpenSuit 2 (some .boolean) 3 0 0 gr ck_shM h [.ref 0, .int x1] (ck_Qi ck_shM Q) := by
  refine ck_entry (lv := [(0, .ref 0), (1, .int x1)]) false (own := RX12) rfl (fun q => by cases q) (by decide) (Nat.le_of_ble_eq_true rfl) rfl ?_
  refine ck_aload_n 0 dX12_isOpenSuit_0 rfl rfl ?_
  refine ck_iload_n 1 dX12_isOpenSuit_1 rfl rfl ?_
  refine ck_callV (c_X12_isSuit hq) rfl cal_X12_isSuit rfl ml_X12_401 vir_X12_isSuit rfl rfl (by decide) (Nat.le_of_ble_eq_true rfl) (Nat.le_of_ble_eq_true rfl) (by decide) (by decide) dX12_isOpenSuit_2 ?_
  rintro _ _ h1 ⟨r2, rfl, rfl, hq⟩
  refine ck_if_eq (tgt := 21) dX12_isOpenSuit_5 (by decide) (fun c3 => ?_) (fun c3 => ?_)
  · have hq := hq.1 c3
    refine ck_iconst (v := 0) dX12_isOpenSuit_21 (by decide) ?_
    exact ck_iret rfl (by decide) rfl rfl dX12_isOpenSuit_22 ⟨_, rfl, rfl, hq⟩
  · have hq := hq.2 c3
    refine ck_aload_n 0 dX12_isOpenSuit_8 rfl rfl ?_
    refine ck_iconst (v := 0) dX12_isOpenSuit_9 (by decide) ?_
    refine ck_iload_n 1 dX12_isOpenSuit_10 rfl rfl ?_
    refine ck_callV (c_X12_isOpen hq) rfl cal_X12_isOpen rfl ml_X12_379 vir_X12_isOpen rfl rfl (by decide) (Nat.le_of_ble_eq_true rfl) (Nat.le_of_ble_eq_true rfl) (by decide) (by decide) dX12_isOpenSuit_11 ?_
    rintro _ _ h4 ⟨r5, rfl, rfl, hq⟩
    refine ck_if_eq (tgt := 21) dX12_isOpenSuit_14 (by decide) (fun c6 => ?_) (fun c6 => ?_)
    · have hq := hq.1 c6
      refine ck_iconst (v := 0) dX12_isOpenSuit_21 (by decide) ?_
      exact ck_iret rfl (by decide) rfl rfl dX12_isOpenSuit_22 ⟨_, rfl, rfl, hq⟩
    · have hq := hq.2 c6
      refine ck_iconst (v := 1) dX12_isOpenSuit_17 (by decide) ?_
      refine ck_goto (tgt := 22) dX12_isOpenSuit_18 (by decide) ?_
      exact ck_iret rfl (by decide) rfl rfl dX12_isOpenSuit_22 ⟨_, rfl, rfl, hq⟩
def wp_X12_laySettle_135 (Q : ck_H → Prop) (Kc : Int32 → Int32 → Int32 → ck_H → Prop) (x2 : Int32) (x3 : Int32) (x4 : Int32) (y1 : Int32) (y2 : Int32) (h : ck_H) : Prop := (vp_in y1 4 ∧ (∀ h19, h19 = ck_sI h 34 y1.toNatClampNeg y2 → (∀ v20, v20 = x4 + 1 → Kc x2 x3 v20 h19)))
def wp_X12_laySettle_108 (Q : ck_H → Prop) (Kc : Int32 → Int32 → Int32 → ck_H → Prop) (x2 : Int32) (x3 : Int32) (x4 : Int32) (x6 : Int32) (y1 : Int32) (y2 : Int32) (h : ck_H) : Prop := (vp_in y1 4 ∧ (∀ h16, h16 = ck_sI h 33 y1.toNatClampNeg y2 → ((¬ x4 = 0 → wp_X12_laySettle_135 Q Kc x2 x3 x4 x4 (x6 - ((5 : Int32) * (ck_rem x4 (2 : Int32)))) h16) ∧ (x4 = 0 → wp_X12_laySettle_135 Q Kc x2 x3 x4 x4 (x2 / (2 : Int32)) h16))))
def wp_X12_laySettle_80 (Q : ck_H → Prop) (Kc : Int32 → Int32 → Int32 → ck_H → Prop) (x2 : Int32) (x3 : Int32) (x4 : Int32) (x5 : Int32) (y0 : Int32) (h : ck_H) : Prop := ((¬ x4 = 0 → wp_X12_laySettle_108 Q Kc x2 x3 x4 y0 x4 (x5 - ((5 : Int32) * (x4 / (2 : Int32)))) h) ∧ (x4 = 0 → wp_X12_laySettle_108 Q Kc x2 x3 x4 y0 x4 (x2 / (2 : Int32)) h))
def wp_X12_laySettle_66 (Q : ck_H → Prop) (Kc : Int32 → Int32 → Int32 → ck_H → Prop) (x2 : Int32) (x3 : Int32) (x4 : Int32) (y0 : Int32) (h : ck_H) : Prop := ((¬ x3 = (2 : Int32) → wp_X12_laySettle_80 Q Kc x2 x3 x4 y0 (0 : Int32) h) ∧ (x3 = (2 : Int32) → wp_X12_laySettle_80 Q Kc x2 x3 x4 y0 (x2 / (2 : Int32)) h))
def wp_X12_laySettle_39 (Q : ck_H → Prop) : Nat → Int32 → Int32 → Int32 → ck_H → Prop
  | 0 => fun _ _ _ _ => False
  | n + 1 => fun x2 x3 x4 h => (((4 : Int32) ≤ x4 → Q h) ∧ (¬ (4 : Int32) ≤ x4 → ((¬ x3 = (1 : Int32) → ((¬ x3 = (2 : Int32) → wp_X12_laySettle_66 Q (wp_X12_laySettle_39 Q n) x2 x3 x4 (0 : Int32) h) ∧ (x3 = (2 : Int32) → wp_X12_laySettle_66 Q (wp_X12_laySettle_39 Q n) x2 x3 x4 (x2 / (2 : Int32)) h))) ∧ (x3 = (1 : Int32) → wp_X12_laySettle_66 Q (wp_X12_laySettle_39 Q n) x2 x3 x4 x2 h))))
def wp_X12_laySettle (x1 : Int32) (h : ck_H) (Q : ck_H → Prop) : Prop := (vp_in x1 20 ∧ (vp_in (h.1 12 x1.toNatClampNeg) 12 ∧ (∀ v3, v3 = (h.1 8 (h.1 12 x1.toNatClampNeg).toNatClampNeg) → (vp_in x1 230 ∧ (vp_in x1 20 ∧ (wp_X12_hardness (0 : Int32) x1 h (fun r7 h6 => (wp_X12_verdictAt (0 : Int32) (h.1 26 x1.toNatClampNeg) (h.1 12 x1.toNatClampNeg) r7 h6 (fun r9 h8 => wp_X12_laySettle_39 Q lpN v3 r9 (0 : Int32) h8)))))))))
set_option maxHeartbeats 4000000 in
set_option maxRecDepth 100000 in
theorem cp_X12_laySettle_135 {gr : Bool} {Q : ck_H → Prop} {Kc : Int32 → Int32 → Int32 → ck_H → Prop} (hKc : ∀ (x2 : Int32) (x3 : Int32) (x4 : Int32) (h : ck_H), Kc x2 x3 x4 h → ck_W cX12_laySettle 7 RX12 none 8 0 0 false gr (ck_Qv ck_shM Q) ck_shM h 0 0 39 [(0, .ref 0), (2, .int x2), (3, .int x3), (4, .int x4)] []) : ∀ (x2 : Int32) (x3 : Int32) (x4 : Int32) (y1 : Int32) (y2 : Int32) (h : ck_H), wp_X12_laySettle_135 Q Kc x2 x3 x4 y1 y2 h → ck_W cX12_laySettle 7 RX12 none 8 0 0 false gr (ck_Qv ck_shM Q) ck_shM h 0 0 135 [(0, .ref 0), (2, .int x2), (3, .int x3), (4, .int x4)] [.int y2, .int y1, .ref 34] := by
  intro x2 x3 x4 y1 y2 h hq
  obtain ⟨b18, hq⟩ := hq
  refine ck_iast rfl rfl b18 dX12_laySettle_135 ?_
  refine ck_nmH (fun h19 eh19 => ?_)
  have hq := hq h19 eh19
  obtain ⟨v20, ev20⟩ : ∃ z : Int32, z = x4 + 1 := ⟨_, rfl⟩
  have hq := hq v20 ev20
  refine ck_iinc (v := v20) (lv' := [(4, .int v20), (0, .ref 0), (2, .int x2), (3, .int x3)]) 3 dX12_laySettle_136 rfl (by rw [ev20]; rfl) (by decide) rfl ?_
  refine ck_goto (tgt := 39) dX12_laySettle_139 (by decide) ?_
  refine ck_loc [1, 2, 3, 0] rfl ?_
  exact hKc _ _ _ _ hq
set_option maxHeartbeats 4000000 in
set_option maxRecDepth 100000 in
theorem cp_X12_laySettle_108 {gr : Bool} {Q : ck_H → Prop} {Kc : Int32 → Int32 → Int32 → ck_H → Prop} (hKc : ∀ (x2 : Int32) (x3 : Int32) (x4 : Int32) (h : ck_H), Kc x2 x3 x4 h → ck_W cX12_laySettle 7 RX12 none 8 0 0 false gr (ck_Qv ck_shM Q) ck_shM h 0 0 39 [(0, .ref 0), (2, .int x2), (3, .int x3), (4, .int x4)] []) : ∀ (x2 : Int32) (x3 : Int32) (x4 : Int32) (x6 : Int32) (y1 : Int32) (y2 : Int32) (h : ck_H), wp_X12_laySettle_108 Q Kc x2 x3 x4 x6 y1 y2 h → ck_W cX12_laySettle 7 RX12 none 8 0 0 false gr (ck_Qv ck_shM Q) ck_shM h 0 0 108 [(0, .ref 0), (2, .int x2), (3, .int x3), (4, .int x4), (6, .int x6)] [.int y2, .int y1, .ref 33] := by
  intro x2 x3 x4 x6 y1 y2 h hq
  obtain ⟨b15, hq⟩ := hq
  refine ck_iast rfl rfl b15 dX12_laySettle_108 ?_
  refine ck_nmH (fun h16 eh16 => ?_)
  have hq := hq h16 eh16
  refine ck_aload_n 0 dX12_laySettle_109 rfl rfl ?_
  refine ck_getR clX12 61 rfl rfl (by decide) fl_X12_120 dX12_laySettle_110 ?_
  refine ck_iload 3 dX12_laySettle_113 rfl ?_
  refine ck_iload 3 dX12_laySettle_115 rfl ?_
  refine ck_if_ne (tgt := 126) dX12_laySettle_117 (by decide) (fun c17 => ?_) (fun c17 => ?_)
  · have hq := hq.1 c17
    refine ck_iload 4 dX12_laySettle_126 rfl ?_
    refine ck_iconst (v := 5) dX12_laySettle_128 (by decide) ?_
    refine ck_iload 3 dX12_laySettle_129 rfl ?_
    refine ck_iconst (v := 2) dX12_laySettle_131 (by decide) ?_
    refine ck_irem dX12_laySettle_132 (by decide) ?_
    refine ck_imul dX12_laySettle_133 ?_
    refine ck_isub dX12_laySettle_134 ?_
    refine ck_loc [0, 1, 2, 3] rfl ?_
    exact cp_X12_laySettle_135 hKc _ _ _ _ _ _ hq
  · have hq := hq.2 c17
    refine ck_iload_n 1 dX12_laySettle_120 rfl rfl ?_
    refine ck_iconst (v := 2) dX12_laySettle_121 (by decide) ?_
    refine ck_idiv dX12_laySettle_122 (by decide) ?_
    refine ck_goto (tgt := 135) dX12_laySettle_123 (by decide) ?_
    refine ck_loc [0, 1, 2, 3] rfl ?_
    exact cp_X12_laySettle_135 hKc _ _ _ _ _ _ hq
set_option maxHeartbeats 4000000 in
set_option maxRecDepth 100000 in
theorem cp_X12_laySettle_80 {gr : Bool} {Q : ck_H → Prop} {Kc : Int32 → Int32 → Int32 → ck_H → Prop} (hKc : ∀ (x2 : Int32) (x3 : Int32) (x4 : Int32) (h : ck_H), Kc x2 x3 x4 h → ck_W cX12_laySettle 7 RX12 none 8 0 0 false gr (ck_Qv ck_shM Q) ck_shM h 0 0 39 [(0, .ref 0), (2, .int x2), (3, .int x3), (4, .int x4)] []) : ∀ (x2 : Int32) (x3 : Int32) (x4 : Int32) (x5 : Int32) (y0 : Int32) (h : ck_H), wp_X12_laySettle_80 Q Kc x2 x3 x4 x5 y0 h → ck_W cX12_laySettle 7 RX12 none 8 0 0 false gr (ck_Qv ck_shM Q) ck_shM h 0 0 80 [(0, .ref 0), (2, .int x2), (3, .int x3), (4, .int x4), (5, .int x5)] [.int y0] := by
  intro x2 x3 x4 x5 y0 h hq
  refine ck_istore (lv' := [(6, .int y0), (0, .ref 0), (2, .int x2), (3, .int x3), (4, .int x4), (5, .int x5)]) dX12_laySettle_80 (by decide) rfl ?_
  refine ck_aload_n 1 dX12_laySettle_82 rfl rfl ?_
  refine ck_getR clX12 60 rfl rfl (by decide) fl_X12_117 dX12_laySettle_83 ?_
  refine ck_iload 4 dX12_laySettle_86 rfl ?_
  refine ck_iload 4 dX12_laySettle_88 rfl ?_
  refine ck_if_ne (tgt := 99) dX12_laySettle_90 (by decide) (fun c14 => ?_) (fun c14 => ?_)
  · have hq := hq.1 c14
    refine ck_iload 5 dX12_laySettle_99 rfl ?_
    refine ck_iconst (v := 5) dX12_laySettle_101 (by decide) ?_
    refine ck_iload 4 dX12_laySettle_102 rfl ?_
    refine ck_iconst (v := 2) dX12_laySettle_104 (by decide) ?_
    refine ck_idiv dX12_laySettle_105 (by decide) ?_
    refine ck_imul dX12_laySettle_106 ?_
    refine ck_isub dX12_laySettle_107 ?_
    refine ck_loc [1, 2, 3, 4, 0] rfl ?_
    exact cp_X12_laySettle_108 hKc _ _ _ _ _ _ _ hq
  · have hq := hq.2 c14
    refine ck_iload_n 2 dX12_laySettle_93 rfl rfl ?_
    refine ck_iconst (v := 2) dX12_laySettle_94 (by decide) ?_
    refine ck_idiv dX12_laySettle_95 (by decide) ?_
    refine ck_goto (tgt := 108) dX12_laySettle_96 (by decide) ?_
    refine ck_loc [1, 2, 3, 4, 0] rfl ?_
    exact cp_X12_laySettle_108 hKc _ _ _ _ _ _ _ hq
set_option maxHeartbeats 4000000 in
set_option maxRecDepth 100000 in
theorem cp_X12_laySettle_66 {gr : Bool} {Q : ck_H → Prop} {Kc : Int32 → Int32 → Int32 → ck_H → Prop} (hKc : ∀ (x2 : Int32) (x3 : Int32) (x4 : Int32) (h : ck_H), Kc x2 x3 x4 h → ck_W cX12_laySettle 7 RX12 none 8 0 0 false gr (ck_Qv ck_shM Q) ck_shM h 0 0 39 [(0, .ref 0), (2, .int x2), (3, .int x3), (4, .int x4)] []) : ∀ (x2 : Int32) (x3 : Int32) (x4 : Int32) (y0 : Int32) (h : ck_H), wp_X12_laySettle_66 Q Kc x2 x3 x4 y0 h → ck_W cX12_laySettle 7 RX12 none 8 0 0 false gr (ck_Qv ck_shM Q) ck_shM h 0 0 66 [(0, .ref 0), (2, .int x2), (3, .int x3), (4, .int x4)] [.int y0] := by
  intro x2 x3 x4 y0 h hq
  refine ck_istore (lv' := [(5, .int y0), (0, .ref 0), (2, .int x2), (3, .int x3), (4, .int x4)]) dX12_laySettle_66 (by decide) rfl ?_
  refine ck_iload_n 3 dX12_laySettle_68 rfl rfl ?_
  refine ck_iconst (v := 2) dX12_laySettle_69 (by decide) ?_
  refine ck_icmp_ne (tgt := 79) dX12_laySettle_70 (by decide) (fun c13 => ?_) (fun c13 => ?_)
  · have hq := hq.1 c13
    refine ck_iconst (v := 0) dX12_laySettle_79 (by decide) ?_
    refine ck_loc [1, 2, 3, 4, 0] rfl ?_
    exact cp_X12_laySettle_80 hKc _ _ _ _ _ _ hq
  · have hq := hq.2 c13
    refine ck_iload_n 2 dX12_laySettle_73 rfl rfl ?_
    refine ck_iconst (v := 2) dX12_laySettle_74 (by decide) ?_
    refine ck_idiv dX12_laySettle_75 (by decide) ?_
    refine ck_goto (tgt := 80) dX12_laySettle_76 (by decide) ?_
    refine ck_loc [1, 2, 3, 4, 0] rfl ?_
    exact cp_X12_laySettle_80 hKc _ _ _ _ _ _ hq
set_option maxHeartbeats 4000000 in
set_option maxRecDepth 100000 in
theorem cp_X12_laySettle_39 {gr : Bool} {Q : ck_H → Prop} : ∀ (n : Nat) (x2 : Int32) (x3 : Int32) (x4 : Int32) (h : ck_H), wp_X12_laySettle_39 Q n x2 x3 x4 h → ck_W cX12_laySettle 7 RX12 none 8 0 0 false gr (ck_Qv ck_shM Q) ck_shM h 0 0 39 [(0, .ref 0), (2, .int x2), (3, .int x3), (4, .int x4)] [] := by
  intro n
  induction n with
  | zero => intro x2 x3 x4 h hq; exact hq.elim
  | succ n hKc =>
    intro x2 x3 x4 h hq
    refine ck_iload 3 dX12_laySettle_39 rfl ?_
    refine ck_iconst (v := 4) dX12_laySettle_41 (by decide) ?_
    refine ck_icmp_ge (tgt := 142) dX12_laySettle_42 (by decide) (fun c10 => ?_) (fun c10 => ?_)
    · have hq := hq.1 c10
      exact ck_vret rfl rfl rfl dX12_laySettle_142 ⟨rfl, rfl, hq⟩
    · have hq := hq.2 c10
      refine ck_iload_n 2 dX12_laySettle_45 rfl rfl ?_
      refine ck_iconst (v := 1) dX12_laySettle_46 (by decide) ?_
      refine ck_icmp_ne (tgt := 54) dX12_laySettle_47 (by decide) (fun c11 => ?_) (fun c11 => ?_)
      · have hq := hq.1 c11
        refine ck_iload_n 2 dX12_laySettle_54 rfl rfl ?_
        refine ck_iconst (v := 2) dX12_laySettle_55 (by decide) ?_
        refine ck_icmp_ne (tgt := 65) dX12_laySettle_56 (by decide) (fun c12 => ?_) (fun c12 => ?_)
        · have hq := hq.1 c12
          refine ck_iconst (v := 0) dX12_laySettle_65 (by decide) ?_
          exact cp_X12_laySettle_66 hKc _ _ _ _ _ hq
        · have hq := hq.2 c12
          refine ck_iload_n 1 dX12_laySettle_59 rfl rfl ?_
          refine ck_iconst (v := 2) dX12_laySettle_60 (by decide) ?_
          refine ck_idiv dX12_laySettle_61 (by decide) ?_
          refine ck_goto (tgt := 66) dX12_laySettle_62 (by decide) ?_
          exact cp_X12_laySettle_66 hKc _ _ _ _ _ hq
      · have hq := hq.2 c11
        refine ck_iload_n 1 dX12_laySettle_50 rfl rfl ?_
        refine ck_goto (tgt := 66) dX12_laySettle_51 (by decide) ?_
        exact cp_X12_laySettle_66 hKc _ _ _ _ _ hq
set_option maxHeartbeats 4000000 in
set_option maxRecDepth 100000 in
theorem c_X12_laySettle {gr : Bool} {x1 : Int32} {h : ck_H} {Q : ck_H → Prop} (hq : wp_X12_laySettle x1 h Q) : ck_M yX12_laySettle cX12_laySettle 7 none 8 0 0 gr ck_shM h [.ref 0, .int x1] (ck_Qv ck_shM Q) := by
  refine ck_entry (lv := [(0, .ref 0), (1, .int x1)]) false (own := RX12) rfl (fun q => by cases q) (by decide) (Nat.le_of_ble_eq_true rfl) rfl ?_
  refine ck_aload_n 0 dX12_laySettle_0 rfl rfl ?_
  refine ck_getR clX12 9 rfl rfl (by decide) fl_X12_31 dX12_laySettle_1 ?_
  refine ck_aload_n 0 dX12_laySettle_4 rfl rfl ?_
  refine ck_getR clX12 13 rfl rfl (by decide) fl_X12_43 dX12_laySettle_5 ?_
  refine ck_iload_n 1 dX12_laySettle_8 rfl rfl ?_
  obtain ⟨b1, hq⟩ := hq
  refine ck_iald rfl rfl b1 dX12_laySettle_9 ?_
  obtain ⟨b2, hq⟩ := hq
  refine ck_iald rfl rfl b2 dX12_laySettle_10 ?_
  refine ck_nmI (fun v3 ev3 => ?_)
  have hq := hq v3 ev3
  refine ck_istore_n (lv' := [(2, .int v3), (0, .ref 0), (1, .int x1)]) dX12_laySettle_11 rfl (by decide) rfl ?_
  refine ck_aload_n 1 dX12_laySettle_12 rfl rfl ?_
  refine ck_iconst (v := 0) dX12_laySettle_13 (by decide) ?_
  refine ck_aload_n 1 dX12_laySettle_14 rfl rfl ?_
  refine ck_getR clX12 41 rfl rfl (by decide) fl_X12_90 dX12_laySettle_15 ?_
  refine ck_iload_n 2 dX12_laySettle_18 rfl rfl ?_
  obtain ⟨b4, hq⟩ := hq
  refine ck_iald rfl rfl b4 dX12_laySettle_19 ?_
  refine ck_aload_n 1 dX12_laySettle_20 rfl rfl ?_
  refine ck_getR clX12 13 rfl rfl (by decide) fl_X12_43 dX12_laySettle_21 ?_
  refine ck_iload_n 2 dX12_laySettle_24 rfl rfl ?_
  obtain ⟨b5, hq⟩ := hq
  refine ck_iald rfl rfl b5 dX12_laySettle_25 ?_
  refine ck_aload_n 1 dX12_laySettle_26 rfl rfl ?_
  refine ck_iconst (v := 0) dX12_laySettle_27 (by decide) ?_
  refine ck_iload_n 2 dX12_laySettle_28 rfl rfl ?_
  refine ck_callV (c_X12_hardness hq) rfl cal_X12_hardness rfl ml_X12_361 vir_X12_hardness rfl rfl (by decide) (Nat.le_of_ble_eq_true rfl) (Nat.le_of_ble_eq_true rfl) (by decide) (by decide) dX12_laySettle_29 ?_
  rintro _ _ h6 ⟨r7, rfl, rfl, hq⟩
  refine ck_callV (c_X12_verdictAt hq) rfl cal_X12_verdictAt rfl ml_X12_374 vir_X12_verdictAt rfl rfl (by decide) (Nat.le_of_ble_eq_true rfl) (Nat.le_of_ble_eq_true rfl) (by decide) (by decide) dX12_laySettle_32 ?_
  rintro _ _ h8 ⟨r9, rfl, rfl, hq⟩
  refine ck_istore_n (lv' := [(3, .int r9), (2, .int v3), (0, .ref 0), (1, .int x1)]) dX12_laySettle_35 rfl (by decide) rfl ?_
  refine ck_iconst (v := 0) dX12_laySettle_36 (by decide) ?_
  refine ck_istore (lv' := [(4, .int (0 : Int32)), (3, .int r9), (2, .int v3), (0, .ref 0), (1, .int x1)]) dX12_laySettle_37 (by decide) rfl ?_
  refine ck_loc [3, 2, 1, 0] rfl ?_
  refine cp_X12_laySettle_39 lpN _ _ _ _ hq
def wp_X12_isRest (x1 : Int32) (h : ck_H) (Q : Int32 → ck_H → Prop) : Prop := (vp_in (ck_rem (x1 + (2 : Int32)) (4 : Int32)) 4 ∧ (vp_in x1 4 ∧ (((h.1 33 x1.toNatClampNeg) < (h.1 33 (ck_rem (x1 + (2 : Int32)) (4 : Int32)).toNatClampNeg) → Q (0 : Int32) h) ∧ (¬ (h.1 33 x1.toNatClampNeg) < (h.1 33 (ck_rem (x1 + (2 : Int32)) (4 : Int32)).toNatClampNeg) → (vp_in ((((x1 / (2 : Int32)) * (2 : Int32)) + (1 : Int32)) - (ck_rem x1 (2 : Int32))) 4 ∧ (vp_in x1 4 ∧ (((h.1 34 x1.toNatClampNeg) < (h.1 34 ((((x1 / (2 : Int32)) * (2 : Int32)) + (1 : Int32)) - (ck_rem x1 (2 : Int32))).toNatClampNeg) → Q (0 : Int32) h) ∧ (¬ (h.1 34 x1.toNatClampNeg) < (h.1 34 ((((x1 / (2 : Int32)) * (2 : Int32)) + (1 : Int32)) - (ck_rem x1 (2 : Int32))).toNatClampNeg) → Q (1 : Int32) h))))))))
set_option maxHeartbeats 4000000 in
set_option maxRecDepth 100000 in
theorem c_X12_isRest {gr : Bool} {x1 : Int32} {h : ck_H} {Q : Int32 → ck_H → Prop} (hq : wp_X12_isRest x1 h Q) : ck_M yX12_isRest cX12_isRest 2 (some .boolean) 2 0 0 gr ck_shM h [.ref 0, .int x1] (ck_Qi ck_shM Q) := by
  refine ck_entry (lv := [(0, .ref 0), (1, .int x1)]) false (own := RX12) rfl (fun q => by cases q) (by decide) (Nat.le_of_ble_eq_true rfl) rfl ?_
  refine ck_aload_n 0 dX12_isRest_0 rfl rfl ?_
  refine ck_getR clX12 60 rfl rfl (by decide) fl_X12_117 dX12_isRest_1 ?_
  refine ck_iload_n 1 dX12_isRest_4 rfl rfl ?_
  refine ck_iconst (v := 2) dX12_isRest_5 (by decide) ?_
  refine ck_iadd dX12_isRest_6 ?_
  refine ck_iconst (v := 4) dX12_isRest_7 (by decide) ?_
  refine ck_irem dX12_isRest_8 (by decide) ?_
  obtain ⟨b1, hq⟩ := hq
  refine ck_iald rfl rfl b1 dX12_isRest_9 ?_
  refine ck_aload_n 0 dX12_isRest_10 rfl rfl ?_
  refine ck_getR clX12 60 rfl rfl (by decide) fl_X12_117 dX12_isRest_11 ?_
  refine ck_iload_n 1 dX12_isRest_14 rfl rfl ?_
  obtain ⟨b2, hq⟩ := hq
  refine ck_iald rfl rfl b2 dX12_isRest_15 ?_
  refine ck_icmp_gt (tgt := 48) dX12_isRest_16 (by decide) (fun c3 => ?_) (fun c3 => ?_)
  · have hq := hq.1 c3
    refine ck_iconst (v := 0) dX12_isRest_48 (by decide) ?_
    exact ck_iret rfl (by decide) rfl rfl dX12_isRest_49 ⟨_, rfl, rfl, hq⟩
  · have hq := hq.2 c3
    refine ck_aload_n 0 dX12_isRest_19 rfl rfl ?_
    refine ck_getR clX12 61 rfl rfl (by decide) fl_X12_120 dX12_isRest_20 ?_
    refine ck_iload_n 1 dX12_isRest_23 rfl rfl ?_
    refine ck_iconst (v := 2) dX12_isRest_24 (by decide) ?_
    refine ck_idiv dX12_isRest_25 (by decide) ?_
    refine ck_iconst (v := 2) dX12_isRest_26 (by decide) ?_
    refine ck_imul dX12_isRest_27 ?_
    refine ck_iconst (v := 1) dX12_isRest_28 (by decide) ?_
    refine ck_iadd dX12_isRest_29 ?_
    refine ck_iload_n 1 dX12_isRest_30 rfl rfl ?_
    refine ck_iconst (v := 2) dX12_isRest_31 (by decide) ?_
    refine ck_irem dX12_isRest_32 (by decide) ?_
    refine ck_isub dX12_isRest_33 ?_
    obtain ⟨b4, hq⟩ := hq
    refine ck_iald rfl rfl b4 dX12_isRest_34 ?_
    refine ck_aload_n 0 dX12_isRest_35 rfl rfl ?_
    refine ck_getR clX12 61 rfl rfl (by decide) fl_X12_120 dX12_isRest_36 ?_
    refine ck_iload_n 1 dX12_isRest_39 rfl rfl ?_
    obtain ⟨b5, hq⟩ := hq
    refine ck_iald rfl rfl b5 dX12_isRest_40 ?_
    refine ck_icmp_gt (tgt := 48) dX12_isRest_41 (by decide) (fun c6 => ?_) (fun c6 => ?_)
    · have hq := hq.1 c6
      refine ck_iconst (v := 0) dX12_isRest_48 (by decide) ?_
      exact ck_iret rfl (by decide) rfl rfl dX12_isRest_49 ⟨_, rfl, rfl, hq⟩
    · have hq := hq.2 c6
      refine ck_iconst (v := 1) dX12_isRest_44 (by decide) ?_
      refine ck_goto (tgt := 49) dX12_isRest_45 (by decide) ?_
      exact ck_iret rfl (by decide) rfl rfl dX12_isRest_49 ⟨_, rfl, rfl, hq⟩
def wp_X12_restOf_39 (Q : Int32 → ck_H → Prop) (K25 : Int32 → ck_H → Prop) (K45 : Int32 → Int32 → ck_H → Prop) (Kc : Int32 → Int32 → Int32 → ck_H → Prop) (x1 : Int32) (x2 : Int32) (x3 : Int32) (h : ck_H) : Prop := (∀ v7, v7 = x3 + 1 → Kc x1 x2 v7 h)
def wp_X12_restOf_4 (Q : Int32 → ck_H → Prop) (K25 : Int32 → ck_H → Prop) (K45 : Int32 → Int32 → ck_H → Prop) : Nat → Int32 → Int32 → Int32 → ck_H → Prop
  | 0 => fun _ _ _ _ => False
  | n + 1 => fun x1 x2 x3 h => (((4 : Int32) ≤ x3 → K45 x1 x2 h) ∧ (¬ (4 : Int32) ≤ x3 → (wp_X12_isRest x3 h (fun r3 h2 => ((¬ r3 = 0 → ((¬ x2 = x1 → (∀ v6, v6 = x2 + 1 → wp_X12_restOf_39 Q K25 K45 (wp_X12_restOf_4 Q K25 K45 n) x1 v6 x3 h2)) ∧ (x2 = x1 → K25 x3 h2))) ∧ (r3 = 0 → wp_X12_restOf_39 Q K25 K45 (wp_X12_restOf_4 Q K25 K45 n) x1 x2 x3 h2))))))
def wp_X12_restOf (x1 : Int32) (h : ck_H) (Q : Int32 → ck_H → Prop) : Prop := wp_X12_restOf_4 Q (fun x9 h8 => Q (((10 : Int32) * (x9 / (2 : Int32))) + (ck_rem x9 (2 : Int32))) h8) (fun x11 x12 h10 => ((¬ x11 = (-1 : Int32) → Q (-2 : Int32) h10) ∧ (x11 = (-1 : Int32) → Q x12 h10))) lpN x1 (0 : Int32) (0 : Int32) h
set_option maxHeartbeats 4000000 in
set_option maxRecDepth 100000 in
theorem cp_X12_restOf_39 {gr : Bool} {Q : Int32 → ck_H → Prop} {K25 : Int32 → ck_H → Prop} {K45 : Int32 → Int32 → ck_H → Prop} {Kc : Int32 → Int32 → Int32 → ck_H → Prop} (hK25 : ∀ (x3 : Int32) (h : ck_H), K25 x3 h → ck_W cX12_restOf 4 RX12 (some .int) 3 0 0 false gr (ck_Qi ck_shM Q) ck_shM h 0 0 25 [(3, .int x3)] []) (hK45 : ∀ (x1 : Int32) (x2 : Int32) (h : ck_H), K45 x1 x2 h → ck_W cX12_restOf 4 RX12 (some .int) 3 0 0 false gr (ck_Qi ck_shM Q) ck_shM h 0 0 45 [(1, .int x1), (2, .int x2)] []) (hKc : ∀ (x1 : Int32) (x2 : Int32) (x3 : Int32) (h : ck_H), Kc x1 x2 x3 h → ck_W cX12_restOf 4 RX12 (some .int) 3 0 0 false gr (ck_Qi ck_shM Q) ck_shM h 0 0 4 [(0, .ref 0), (1, .int x1), (2, .int x2), (3, .int x3)] []) : ∀ (x1 : Int32) (x2 : Int32) (x3 : Int32) (h : ck_H), wp_X12_restOf_39 Q K25 K45 Kc x1 x2 x3 h → ck_W cX12_restOf 4 RX12 (some .int) 3 0 0 false gr (ck_Qi ck_shM Q) ck_shM h 0 0 39 [(0, .ref 0), (1, .int x1), (2, .int x2), (3, .int x3)] [] := by
  intro x1 x2 x3 h hq
  obtain ⟨v7, ev7⟩ : ∃ z : Int32, z = x3 + 1 := ⟨_, rfl⟩
  have hq := hq v7 ev7
  refine ck_iinc (v := v7) (lv' := [(3, .int v7), (0, .ref 0), (1, .int x1), (2, .int x2)]) 3 dX12_restOf_39 rfl (by rw [ev7]; rfl) (by decide) rfl ?_
  refine ck_goto (tgt := 4) dX12_restOf_42 (by decide) ?_
  refine ck_loc [1, 2, 3, 0] rfl ?_
  exact hKc _ _ _ _ hq
set_option maxHeartbeats 4000000 in
set_option maxRecDepth 100000 in
theorem cp_X12_restOf_4 {gr : Bool} {Q : Int32 → ck_H → Prop} {K25 : Int32 → ck_H → Prop} {K45 : Int32 → Int32 → ck_H → Prop} (hK25 : ∀ (x3 : Int32) (h : ck_H), K25 x3 h → ck_W cX12_restOf 4 RX12 (some .int) 3 0 0 false gr (ck_Qi ck_shM Q) ck_shM h 0 0 25 [(3, .int x3)] []) (hK45 : ∀ (x1 : Int32) (x2 : Int32) (h : ck_H), K45 x1 x2 h → ck_W cX12_restOf 4 RX12 (some .int) 3 0 0 false gr (ck_Qi ck_shM Q) ck_shM h 0 0 45 [(1, .int x1), (2, .int x2)] []) : ∀ (n : Nat) (x1 : Int32) (x2 : Int32) (x3 : Int32) (h : ck_H), wp_X12_restOf_4 Q K25 K45 n x1 x2 x3 h → ck_W cX12_restOf 4 RX12 (some .int) 3 0 0 false gr (ck_Qi ck_shM Q) ck_shM h 0 0 4 [(0, .ref 0), (1, .int x1), (2, .int x2), (3, .int x3)] [] := by
  intro n
  induction n with
  | zero => intro x1 x2 x3 h hq; exact hq.elim
  | succ n hKc =>
    intro x1 x2 x3 h hq
    refine ck_iload_n 3 dX12_restOf_4 rfl rfl ?_
    refine ck_iconst (v := 4) dX12_restOf_5 (by decide) ?_
    refine ck_icmp_ge (tgt := 45) dX12_restOf_6 (by decide) (fun c1 => ?_) (fun c1 => ?_)
    · have hq := hq.1 c1
      refine ck_loc [1, 2] rfl ?_
      exact hK45 _ _ _ hq
    · have hq := hq.2 c1
      refine ck_aload_n 0 dX12_restOf_9 rfl rfl ?_
      refine ck_iload_n 3 dX12_restOf_10 rfl rfl ?_
      refine ck_callV (c_X12_isRest hq) rfl cal_X12_isRest rfl ml_X12_462 vir_X12_isRest rfl rfl (by decide) (Nat.le_of_ble_eq_true rfl) (Nat.le_of_ble_eq_true rfl) (by decide) (by decide) dX12_restOf_11 ?_
      rintro _ _ h2 ⟨r3, rfl, rfl, hq⟩
      refine ck_if_ne (tgt := 20) dX12_restOf_14 (by decide) (fun c4 => ?_) (fun c4 => ?_)
      · have hq := hq.1 c4
        refine ck_iload_n 2 dX12_restOf_20 rfl rfl ?_
        refine ck_iload_n 1 dX12_restOf_21 rfl rfl ?_
        refine ck_icmp_ne (tgt := 36) dX12_restOf_22 (by decide) (fun c5 => ?_) (fun c5 => ?_)
        · have hq := hq.1 c5
          obtain ⟨v6, ev6⟩ : ∃ z : Int32, z = x2 + 1 := ⟨_, rfl⟩
          have hq := hq v6 ev6
          refine ck_iinc (v := v6) (lv' := [(2, .int v6), (0, .ref 0), (1, .int x1), (3, .int x3)]) 2 dX12_restOf_36 rfl (by rw [ev6]; rfl) (by decide) rfl ?_
          refine ck_loc [1, 2, 0, 3] rfl ?_
          exact cp_X12_restOf_39 hK25 hK45 hKc _ _ _ _ hq
        · have hq := hq.2 c5
          refine ck_loc [3] rfl ?_
          exact hK25 _ _ hq
      · have hq := hq.2 c4
        refine ck_goto (tgt := 39) dX12_restOf_17 (by decide) ?_
        exact cp_X12_restOf_39 hK25 hK45 hKc _ _ _ _ hq
set_option maxHeartbeats 4000000 in
set_option maxRecDepth 100000 in
theorem c_X12_restOf {gr : Bool} {x1 : Int32} {h : ck_H} {Q : Int32 → ck_H → Prop} (hq : wp_X12_restOf x1 h Q) : ck_M yX12_restOf cX12_restOf 4 (some .int) 3 0 0 gr ck_shM h [.ref 0, .int x1] (ck_Qi ck_shM Q) := by
  refine ck_entry (lv := [(0, .ref 0), (1, .int x1)]) false (own := RX12) rfl (fun q => by cases q) (by decide) (Nat.le_of_ble_eq_true rfl) rfl ?_
  refine ck_iconst (v := 0) dX12_restOf_0 (by decide) ?_
  refine ck_istore_n (lv' := [(2, .int (0 : Int32)), (0, .ref 0), (1, .int x1)]) dX12_restOf_1 rfl (by decide) rfl ?_
  refine ck_iconst (v := 0) dX12_restOf_2 (by decide) ?_
  refine ck_istore_n (lv' := [(3, .int (0 : Int32)), (2, .int (0 : Int32)), (0, .ref 0), (1, .int x1)]) dX12_restOf_3 rfl (by decide) rfl ?_
  refine ck_loc [2, 3, 1, 0] rfl ?_
  refine cp_X12_restOf_4 (fun x9 h8 hq => ?_) (fun x11 x12 h10 hq => ?_) lpN _ _ _ _ hq
  · refine ck_bipush (v := 10) dX12_restOf_25 (by decide) ?_
    refine ck_iload_n 0 dX12_restOf_27 rfl rfl ?_
    refine ck_iconst (v := 2) dX12_restOf_28 (by decide) ?_
    refine ck_idiv dX12_restOf_29 (by decide) ?_
    refine ck_imul dX12_restOf_30 ?_
    refine ck_iload_n 0 dX12_restOf_31 rfl rfl ?_
    refine ck_iconst (v := 2) dX12_restOf_32 (by decide) ?_
    refine ck_irem dX12_restOf_33 (by decide) ?_
    refine ck_iadd dX12_restOf_34 ?_
    exact ck_iret rfl rfl rfl rfl dX12_restOf_35 ⟨_, rfl, rfl, hq⟩
  · refine ck_iload_n 0 dX12_restOf_45 rfl rfl ?_
    refine ck_iconst (v := -1) dX12_restOf_46 (by decide) ?_
    refine ck_icmp_ne (tgt := 54) dX12_restOf_47 (by decide) (fun c13 => ?_) (fun c13 => ?_)
    · have hq := hq.1 c13
      refine ck_bipush (v := -2) dX12_restOf_54 (by decide) ?_
      exact ck_iret rfl rfl rfl rfl dX12_restOf_56 ⟨_, rfl, rfl, hq⟩
    · have hq := hq.2 c13
      refine ck_iload_n 1 dX12_restOf_50 rfl rfl ?_
      refine ck_goto (tgt := 56) dX12_restOf_51 (by decide) ?_
      exact ck_iret rfl rfl rfl rfl dX12_restOf_56 ⟨_, rfl, rfl, hq⟩
def wp_X12_rests (x1 : Int32) (h : ck_H) (Q : Int32 → ck_H → Prop) : Prop := (∀ h1, h1 = ck_sI h 0 0 (0 : Int32) → (wp_X12_isOpenSuit x1 h1 (fun r3 h2 => ((¬ r3 = 0 → (wp_X12_laySettle x1 h2 (fun h5 => (wp_X12_restOf (-1 : Int32) h5 (fun r7 h6 => Q r7 h6))))) ∧ (r3 = 0 → Q (-1 : Int32) h2)))))
set_option maxHeartbeats 4000000 in
set_option maxRecDepth 100000 in
theorem c_X12_rests {gr : Bool} {x1 : Int32} {h : ck_H} {Q : Int32 → ck_H → Prop} (hq : wp_X12_rests x1 h Q) : ck_M yX12_rests cX12_rests 2 (some .int) 9 0 0 gr ck_shM h [.ref 0, .int x1] (ck_Qi ck_shM Q) := by
  refine ck_entry (lv := [(0, .ref 0), (1, .int x1)]) false (own := RX12) rfl (fun q => by cases q) (by decide) (Nat.le_of_ble_eq_true rfl) rfl ?_
  refine ck_aload_n 0 dX12_rests_0 rfl rfl ?_
  refine ck_iconst (v := 0) dX12_rests_1 (by decide) ?_
  refine ck_putI clX12 0 rfl rfl (by decide) fl_X12_145 rfl rfl rfl dX12_rests_2 ?_
  refine ck_nmH (fun h1 eh1 => ?_)
  have hq := hq h1 eh1
  refine ck_aload_n 0 dX12_rests_5 rfl rfl ?_
  refine ck_iload_n 1 dX12_rests_6 rfl rfl ?_
  refine ck_callV (c_X12_isOpenSuit hq) rfl cal_X12_isOpenSuit rfl ml_X12_465 vir_X12_isOpenSuit rfl rfl (by decide) (Nat.le_of_ble_eq_true rfl) (Nat.le_of_ble_eq_true rfl) (by decide) (by decide) dX12_rests_7 ?_
  rintro _ _ h2 ⟨r3, rfl, rfl, hq⟩
  refine ck_if_ne (tgt := 15) dX12_rests_10 (by decide) (fun c4 => ?_) (fun c4 => ?_)
  · have hq := hq.1 c4
    refine ck_aload_n 0 dX12_rests_15 rfl rfl ?_
    refine ck_iload_n 1 dX12_rests_16 rfl rfl ?_
    refine ck_callV (c_X12_laySettle hq) rfl cal_X12_laySettle rfl ml_X12_468 vir_X12_laySettle rfl rfl (by decide) (Nat.le_of_ble_eq_true rfl) (Nat.le_of_ble_eq_true rfl) (by decide) (by decide) dX12_rests_17 ?_
    rintro _ _ h5 ⟨rfl, rfl, hq⟩
    refine ck_aload_n 0 dX12_rests_20 rfl rfl ?_
    refine ck_iconst (v := -1) dX12_rests_21 (by decide) ?_
    refine ck_callV (c_X12_restOf hq) rfl cal_X12_restOf rfl ml_X12_471 vir_X12_restOf rfl rfl (by decide) (Nat.le_of_ble_eq_true rfl) (Nat.le_of_ble_eq_true rfl) (by decide) (by decide) dX12_rests_22 ?_
    rintro _ _ h6 ⟨r7, rfl, rfl, hq⟩
    exact ck_iret rfl rfl rfl rfl dX12_rests_25 ⟨_, rfl, rfl, hq⟩
  · have hq := hq.2 c4
    refine ck_iconst (v := -1) dX12_rests_13 (by decide) ?_
    exact ck_iret rfl rfl rfl rfl dX12_rests_14 ⟨_, rfl, rfl, hq⟩
def wp_X12_rest (x1 : Int32) (x2 : Int32) (h : ck_H) (Q : Int32 → ck_H → Prop) : Prop := (∀ h1, h1 = ck_sI h 0 0 (0 : Int32) → (wp_X12_isOpenSuit x1 h1 (fun r3 h2 => ((r3 = 0 → Q (-1 : Int32) h2) ∧ (¬ r3 = 0 → ((0 ≤ x2 → (wp_X12_laySettle x1 h2 (fun h6 => (wp_X12_restOf x2 h6 (fun r8 h7 => Q r8 h7))))) ∧ (¬ 0 ≤ x2 → Q (-1 : Int32) h2)))))))
set_option maxHeartbeats 4000000 in
set_option maxRecDepth 100000 in
theorem c_X12_rest {gr : Bool} {x1 : Int32} {x2 : Int32} {h : ck_H} {Q : Int32 → ck_H → Prop} (hq : wp_X12_rest x1 x2 h Q) : ck_M yX12_rest cX12_rest 3 (some .int) 9 0 0 gr ck_shM h [.ref 0, .int x1, .int x2] (ck_Qi ck_shM Q) := by
  refine ck_entry (lv := [(0, .ref 0), (1, .int x1), (2, .int x2)]) false (own := RX12) rfl (fun q => by cases q) (by decide) (Nat.le_of_ble_eq_true rfl) rfl ?_
  refine ck_aload_n 0 dX12_rest_0 rfl rfl ?_
  refine ck_iconst (v := 0) dX12_rest_1 (by decide) ?_
  refine ck_putI clX12 0 rfl rfl (by decide) fl_X12_145 rfl rfl rfl dX12_rest_2 ?_
  refine ck_nmH (fun h1 eh1 => ?_)
  have hq := hq h1 eh1
  refine ck_aload_n 0 dX12_rest_5 rfl rfl ?_
  refine ck_iload_n 1 dX12_rest_6 rfl rfl ?_
  refine ck_callV (c_X12_isOpenSuit hq) rfl cal_X12_isOpenSuit rfl ml_X12_465 vir_X12_isOpenSuit rfl rfl (by decide) (Nat.le_of_ble_eq_true rfl) (Nat.le_of_ble_eq_true rfl) (by decide) (by decide) dX12_rest_7 ?_
  rintro _ _ h2 ⟨r3, rfl, rfl, hq⟩
  refine ck_if_eq (tgt := 17) dX12_rest_10 (by decide) (fun c4 => ?_) (fun c4 => ?_)
  · have hq := hq.1 c4
    refine ck_iconst (v := -1) dX12_rest_17 (by decide) ?_
    exact ck_iret rfl rfl rfl rfl dX12_rest_18 ⟨_, rfl, rfl, hq⟩
  · have hq := hq.2 c4
    refine ck_iload_n 2 dX12_rest_13 rfl rfl ?_
    refine ck_if_ge (tgt := 19) dX12_rest_14 (by decide) (fun c5 => ?_) (fun c5 => ?_)
    · have hq := hq.1 c5
      refine ck_aload_n 0 dX12_rest_19 rfl rfl ?_
      refine ck_iload_n 1 dX12_rest_20 rfl rfl ?_
      refine ck_callV (c_X12_laySettle hq) rfl cal_X12_laySettle rfl ml_X12_468 vir_X12_laySettle rfl rfl (by decide) (Nat.le_of_ble_eq_true rfl) (Nat.le_of_ble_eq_true rfl) (by decide) (by decide) dX12_rest_21 ?_
      rintro _ _ h6 ⟨rfl, rfl, hq⟩
      refine ck_aload_n 0 dX12_rest_24 rfl rfl ?_
      refine ck_iload_n 2 dX12_rest_25 rfl rfl ?_
      refine ck_callV (c_X12_restOf hq) rfl cal_X12_restOf rfl ml_X12_471 vir_X12_restOf rfl rfl (by decide) (Nat.le_of_ble_eq_true rfl) (Nat.le_of_ble_eq_true rfl) (by decide) (by decide) dX12_rest_26 ?_
      rintro _ _ h7 ⟨r8, rfl, rfl, hq⟩
      exact ck_iret rfl rfl rfl rfl dX12_rest_29 ⟨_, rfl, rfl, hq⟩
    · have hq := hq.2 c5
      refine ck_iconst (v := -1) dX12_rest_17 (by decide) ?_
      exact ck_iret rfl rfl rfl rfl dX12_rest_18 ⟨_, rfl, rfl, hq⟩
def wp_X12_twins_87 (Q : Int32 → ck_H → Prop) (K95 : Int32 → Int32 → ck_H → Prop) (Kc : Int32 → Int32 → Int32 → ck_H → Prop) (x2 : Int32) (x3 : Int32) (y0 : Int32) (y1 : Int32) (h : ck_H) : Prop := (∀ v8, v8 = (y0 + y1) → (∀ v9, v9 = x3 + 1 → Kc v8 x2 v9 h))
def wp_X12_twins_86 (Q : Int32 → ck_H → Prop) (K95 : Int32 → Int32 → ck_H → Prop) (Kc : Int32 → Int32 → Int32 → ck_H → Prop) (x2 : Int32) (x3 : Int32) (y0 : Int32) (h : ck_H) : Prop := wp_X12_twins_87 Q K95 Kc x2 x3 y0 (0 : Int32) h
def wp_X12_twins_23 (Q : Int32 → ck_H → Prop) (K95 : Int32 → Int32 → ck_H → Prop) : Nat → Int32 → Int32 → Int32 → ck_H → Prop
  | 0 => fun _ _ _ _ => False
  | n + 1 => fun x1 x2 x3 h => (((h.1 2 2) ≤ x3 → K95 x1 x2 h) ∧ (¬ (h.1 2 2) ≤ x3 → (vp_in x2 20 ∧ (vp_in x3 20 ∧ ((¬ (h.1 12 x2.toNatClampNeg) = (h.1 12 x3.toNatClampNeg) → wp_X12_twins_86 Q K95 (wp_X12_twins_23 Q K95 n) x2 x3 x1 h) ∧ ((h.1 12 x2.toNatClampNeg) = (h.1 12 x3.toNatClampNeg) → (wp_X12_isOpen (0 : Int32) x2 h (fun r11 h10 => ((¬ r11 = 0 → wp_X12_twins_86 Q K95 (wp_X12_twins_23 Q K95 n) x2 x3 x1 h10) ∧ (r11 = 0 → (wp_X12_isOpen (0 : Int32) x3 h10 (fun r14 h13 => ((¬ r14 = 0 → wp_X12_twins_86 Q K95 (wp_X12_twins_23 Q K95 n) x2 x3 x1 h13) ∧ (r14 = 0 → (vp_in x2 230 ∧ (vp_in x3 230 ∧ (((h13.1 28 x2.toNatClampNeg) = (h13.1 28 x3.toNatClampNeg) → wp_X12_twins_86 Q K95 (wp_X12_twins_23 Q K95 n) x2 x3 x1 h13) ∧ (¬ (h13.1 28 x2.toNatClampNeg) = (h13.1 28 x3.toNatClampNeg) → wp_X12_twins_87 Q K95 (wp_X12_twins_23 Q K95 n) x2 x3 x1 (1 : Int32) h13))))))))))))))))))
def wp_X12_twins_9 (Q : Int32 → ck_H → Prop) : Nat → Int32 → Int32 → ck_H → Prop
  | 0 => fun _ _ _ => False
  | n + 1 => fun x1 x2 h => (((h.1 2 2) ≤ x2 → Q x1 h) ∧ (¬ (h.1 2 2) ≤ x2 → (∀ v3, v3 = (x2 + (1 : Int32)) → wp_X12_twins_23 Q (fun x20 x21 h19 => (∀ v22, v22 = x21 + 1 → (wp_X12_twins_9 Q n) x20 v22 h19)) lpN x1 x2 v3 h)))
def wp_X12_twins (h : ck_H) (Q : Int32 → ck_H → Prop) : Prop := (∀ h1, h1 = ck_sI h 0 0 (0 : Int32) → wp_X12_twins_9 Q lpN (0 : Int32) (0 : Int32) h1)
set_option maxHeartbeats 4000000 in
set_option maxRecDepth 100000 in
theorem cp_X12_twins_87 {gr : Bool} {Q : Int32 → ck_H → Prop} {K95 : Int32 → Int32 → ck_H → Prop} {Kc : Int32 → Int32 → Int32 → ck_H → Prop} (hK95 : ∀ (x1 : Int32) (x2 : Int32) (h : ck_H), K95 x1 x2 h → ck_W cX12_twins 4 RX12 (some .int) 3 0 0 false gr (ck_Qi ck_shM Q) ck_shM h 0 0 95 [(0, .ref 0), (1, .int x1), (2, .int x2)] []) (hKc : ∀ (x1 : Int32) (x2 : Int32) (x3 : Int32) (h : ck_H), Kc x1 x2 x3 h → ck_W cX12_twins 4 RX12 (some .int) 3 0 0 false gr (ck_Qi ck_shM Q) ck_shM h 0 0 23 [(0, .ref 0), (1, .int x1), (2, .int x2), (3, .int x3)] []) : ∀ (x2 : Int32) (x3 : Int32) (y0 : Int32) (y1 : Int32) (h : ck_H), wp_X12_twins_87 Q K95 Kc x2 x3 y0 y1 h → ck_W cX12_twins 4 RX12 (some .int) 3 0 0 false gr (ck_Qi ck_shM Q) ck_shM h 0 0 87 [(0, .ref 0), (2, .int x2), (3, .int x3)] [.int y1, .int y0] := by
  intro x2 x3 y0 y1 h hq
  refine ck_iadd dX12_twins_87 ?_
  refine ck_nmI (fun v8 ev8 => ?_)
  have hq := hq v8 ev8
  refine ck_istore_n (lv' := [(1, .int v8), (0, .ref 0), (2, .int x2), (3, .int x3)]) dX12_twins_88 rfl (by decide) rfl ?_
  obtain ⟨v9, ev9⟩ : ∃ z : Int32, z = x3 + 1 := ⟨_, rfl⟩
  have hq := hq v9 ev9
  refine ck_iinc (v := v9) (lv' := [(3, .int v9), (1, .int v8), (0, .ref 0), (2, .int x2)]) 3 dX12_twins_89 rfl (by rw [ev9]; rfl) (by decide) rfl ?_
  refine ck_goto (tgt := 23) dX12_twins_92 (by decide) ?_
  refine ck_loc [2, 1, 3, 0] rfl ?_
  exact hKc _ _ _ _ hq
set_option maxHeartbeats 4000000 in
set_option maxRecDepth 100000 in
theorem cp_X12_twins_86 {gr : Bool} {Q : Int32 → ck_H → Prop} {K95 : Int32 → Int32 → ck_H → Prop} {Kc : Int32 → Int32 → Int32 → ck_H → Prop} (hK95 : ∀ (x1 : Int32) (x2 : Int32) (h : ck_H), K95 x1 x2 h → ck_W cX12_twins 4 RX12 (some .int) 3 0 0 false gr (ck_Qi ck_shM Q) ck_shM h 0 0 95 [(0, .ref 0), (1, .int x1), (2, .int x2)] []) (hKc : ∀ (x1 : Int32) (x2 : Int32) (x3 : Int32) (h : ck_H), Kc x1 x2 x3 h → ck_W cX12_twins 4 RX12 (some .int) 3 0 0 false gr (ck_Qi ck_shM Q) ck_shM h 0 0 23 [(0, .ref 0), (1, .int x1), (2, .int x2), (3, .int x3)] []) : ∀ (x2 : Int32) (x3 : Int32) (y0 : Int32) (h : ck_H), wp_X12_twins_86 Q K95 Kc x2 x3 y0 h → ck_W cX12_twins 4 RX12 (some .int) 3 0 0 false gr (ck_Qi ck_shM Q) ck_shM h 0 0 86 [(0, .ref 0), (2, .int x2), (3, .int x3)] [.int y0] := by
  intro x2 x3 y0 h hq
  refine ck_iconst (v := 0) dX12_twins_86 (by decide) ?_
  exact cp_X12_twins_87 hK95 hKc _ _ _ _ _ hq
set_option maxHeartbeats 4000000 in
set_option maxRecDepth 100000 in
theorem cp_X12_twins_23 {gr : Bool} {Q : Int32 → ck_H → Prop} {K95 : Int32 → Int32 → ck_H → Prop} (hK95 : ∀ (x1 : Int32) (x2 : Int32) (h : ck_H), K95 x1 x2 h → ck_W cX12_twins 4 RX12 (some .int) 3 0 0 false gr (ck_Qi ck_shM Q) ck_shM h 0 0 95 [(0, .ref 0), (1, .int x1), (2, .int x2)] []) : ∀ (n : Nat) (x1 : Int32) (x2 : Int32) (x3 : Int32) (h : ck_H), wp_X12_twins_23 Q K95 n x1 x2 x3 h → ck_W cX12_twins 4 RX12 (some .int) 3 0 0 false gr (ck_Qi ck_shM Q) ck_shM h 0 0 23 [(0, .ref 0), (1, .int x1), (2, .int x2), (3, .int x3)] [] := by
  intro n
  induction n with
  | zero => intro x1 x2 x3 h hq; exact hq.elim
  | succ n hKc =>
    intro x1 x2 x3 h hq
    refine ck_iload_n 3 dX12_twins_23 rfl rfl ?_
    refine ck_aload_n 0 dX12_twins_24 rfl rfl ?_
    refine ck_getR clX12 3 rfl rfl (by decide) fl_X12_13 dX12_twins_25 ?_
    refine ck_iconst (v := 2) dX12_twins_28 (by decide) ?_
    refine ck_iald (j := 2) (by decide) rfl (ck_inL (by decide)) dX12_twins_29 ?_
    refine ck_icmp_ge (tgt := 95) dX12_twins_30 (by decide) (fun c4 => ?_) (fun c4 => ?_)
    · have hq := hq.1 c4
      refine ck_loc [0, 1, 2] rfl ?_
      exact hK95 _ _ _ hq
    · have hq := hq.2 c4
      refine ck_iload_n 1 dX12_twins_33 rfl rfl ?_
      refine ck_aload_n 0 dX12_twins_34 rfl rfl ?_
      refine ck_getR clX12 13 rfl rfl (by decide) fl_X12_43 dX12_twins_35 ?_
      refine ck_iload_n 2 dX12_twins_38 rfl rfl ?_
      obtain ⟨b5, hq⟩ := hq
      refine ck_iald rfl rfl b5 dX12_twins_39 ?_
      refine ck_aload_n 0 dX12_twins_40 rfl rfl ?_
      refine ck_getR clX12 13 rfl rfl (by decide) fl_X12_43 dX12_twins_41 ?_
      refine ck_iload_n 3 dX12_twins_44 rfl rfl ?_
      obtain ⟨b6, hq⟩ := hq
      refine ck_iald rfl rfl b6 dX12_twins_45 ?_
      refine ck_icmp_ne (tgt := 86) dX12_twins_46 (by decide) (fun c7 => ?_) (fun c7 => ?_)
      · have hq := hq.1 c7
        refine ck_loc [0, 2, 3] rfl ?_
        exact cp_X12_twins_86 hK95 hKc _ _ _ _ hq
      · have hq := hq.2 c7
        refine ck_aload_n 0 dX12_twins_49 rfl rfl ?_
        refine ck_iconst (v := 0) dX12_twins_50 (by decide) ?_
        refine ck_iload_n 2 dX12_twins_51 rfl rfl ?_
        refine ck_callV (c_X12_isOpen hq) rfl cal_X12_isOpen rfl ml_X12_379 vir_X12_isOpen rfl rfl (by decide) (Nat.le_of_ble_eq_true rfl) (Nat.le_of_ble_eq_true rfl) (by decide) (by decide) dX12_twins_52 ?_
        rintro _ _ h10 ⟨r11, rfl, rfl, hq⟩
        refine ck_if_ne (tgt := 86) dX12_twins_55 (by decide) (fun c12 => ?_) (fun c12 => ?_)
        · have hq := hq.1 c12
          refine ck_loc [0, 2, 3] rfl ?_
          exact cp_X12_twins_86 hK95 hKc _ _ _ _ hq
        · have hq := hq.2 c12
          refine ck_aload_n 0 dX12_twins_58 rfl rfl ?_
          refine ck_iconst (v := 0) dX12_twins_59 (by decide) ?_
          refine ck_iload_n 3 dX12_twins_60 rfl rfl ?_
          refine ck_callV (c_X12_isOpen hq) rfl cal_X12_isOpen rfl ml_X12_379 vir_X12_isOpen rfl rfl (by decide) (Nat.le_of_ble_eq_true rfl) (Nat.le_of_ble_eq_true rfl) (by decide) (by decide) dX12_twins_61 ?_
          rintro _ _ h13 ⟨r14, rfl, rfl, hq⟩
          refine ck_if_ne (tgt := 86) dX12_twins_64 (by decide) (fun c15 => ?_) (fun c15 => ?_)
          · have hq := hq.1 c15
            refine ck_loc [0, 2, 3] rfl ?_
            exact cp_X12_twins_86 hK95 hKc _ _ _ _ hq
          · have hq := hq.2 c15
            refine ck_aload_n 0 dX12_twins_67 rfl rfl ?_
            refine ck_getR clX12 43 rfl rfl (by decide) fl_X12_96 dX12_twins_68 ?_
            refine ck_iload_n 2 dX12_twins_71 rfl rfl ?_
            obtain ⟨b16, hq⟩ := hq
            refine ck_iald rfl rfl b16 dX12_twins_72 ?_
            refine ck_aload_n 0 dX12_twins_73 rfl rfl ?_
            refine ck_getR clX12 43 rfl rfl (by decide) fl_X12_96 dX12_twins_74 ?_
            refine ck_iload_n 3 dX12_twins_77 rfl rfl ?_
            obtain ⟨b17, hq⟩ := hq
            refine ck_iald rfl rfl b17 dX12_twins_78 ?_
            refine ck_icmp_eq (tgt := 86) dX12_twins_79 (by decide) (fun c18 => ?_) (fun c18 => ?_)
            · have hq := hq.1 c18
              refine ck_loc [0, 2, 3] rfl ?_
              exact cp_X12_twins_86 hK95 hKc _ _ _ _ hq
            · have hq := hq.2 c18
              refine ck_iconst (v := 1) dX12_twins_82 (by decide) ?_
              refine ck_goto (tgt := 87) dX12_twins_83 (by decide) ?_
              refine ck_loc [0, 2, 3] rfl ?_
              exact cp_X12_twins_87 hK95 hKc _ _ _ _ _ hq
set_option maxHeartbeats 4000000 in
set_option maxRecDepth 100000 in
theorem cp_X12_twins_9 {gr : Bool} {Q : Int32 → ck_H → Prop} : ∀ (n : Nat) (x1 : Int32) (x2 : Int32) (h : ck_H), wp_X12_twins_9 Q n x1 x2 h → ck_W cX12_twins 4 RX12 (some .int) 3 0 0 false gr (ck_Qi ck_shM Q) ck_shM h 0 0 9 [(0, .ref 0), (1, .int x1), (2, .int x2)] [] := by
  intro n
  induction n with
  | zero => intro x1 x2 h hq; exact hq.elim
  | succ n hKc =>
    intro x1 x2 h hq
    refine ck_iload_n 2 dX12_twins_9 rfl rfl ?_
    refine ck_aload_n 0 dX12_twins_10 rfl rfl ?_
    refine ck_getR clX12 3 rfl rfl (by decide) fl_X12_13 dX12_twins_11 ?_
    refine ck_iconst (v := 2) dX12_twins_14 (by decide) ?_
    refine ck_iald (j := 2) (by decide) rfl (ck_inL (by decide)) dX12_twins_15 ?_
    refine ck_icmp_ge (tgt := 101) dX12_twins_16 (by decide) (fun c2 => ?_) (fun c2 => ?_)
    · have hq := hq.1 c2
      refine ck_iload_n 1 dX12_twins_101 rfl rfl ?_
      exact ck_iret rfl rfl rfl rfl dX12_twins_102 ⟨_, rfl, rfl, hq⟩
    · have hq := hq.2 c2
      refine ck_iload_n 2 dX12_twins_19 rfl rfl ?_
      refine ck_iconst (v := 1) dX12_twins_20 (by decide) ?_
      refine ck_iadd dX12_twins_21 ?_
      refine ck_nmI (fun v3 ev3 => ?_)
      have hq := hq v3 ev3
      refine ck_istore_n (lv' := [(3, .int v3), (0, .ref 0), (1, .int x1), (2, .int x2)]) dX12_twins_22 rfl (by decide) rfl ?_
      refine ck_loc [1, 2, 3, 0] rfl ?_
      refine cp_X12_twins_23 (fun x20 x21 h19 hq => ?_) lpN _ _ _ _ hq
      · obtain ⟨v22, ev22⟩ : ∃ z : Int32, z = x21 + 1 := ⟨_, rfl⟩
        have hq := hq v22 ev22
        refine ck_iinc (v := v22) (lv' := [(2, .int v22), (0, .ref 0), (1, .int x20)]) 2 dX12_twins_95 rfl (by rw [ev22]; rfl) (by decide) rfl ?_
        refine ck_goto (tgt := 9) dX12_twins_98 (by decide) ?_
        refine ck_loc [1, 2, 0] rfl ?_
        exact hKc _ _ _ hq
set_option maxHeartbeats 4000000 in
set_option maxRecDepth 100000 in
theorem c_X12_twins {gr : Bool} {h : ck_H} {Q : Int32 → ck_H → Prop} (hq : wp_X12_twins h Q) : ck_M yX12_twins cX12_twins 4 (some .int) 3 0 0 gr ck_shM h [.ref 0] (ck_Qi ck_shM Q) := by
  refine ck_entry (lv := [(0, .ref 0)]) false (own := RX12) rfl (fun q => by cases q) (by decide) (Nat.le_of_ble_eq_true rfl) rfl ?_
  refine ck_aload_n 0 dX12_twins_0 rfl rfl ?_
  refine ck_iconst (v := 0) dX12_twins_1 (by decide) ?_
  refine ck_putI clX12 0 rfl rfl (by decide) fl_X12_145 rfl rfl rfl dX12_twins_2 ?_
  refine ck_nmH (fun h1 eh1 => ?_)
  have hq := hq h1 eh1
  refine ck_iconst (v := 0) dX12_twins_5 (by decide) ?_
  refine ck_istore_n (lv' := [(1, .int (0 : Int32)), (0, .ref 0)]) dX12_twins_6 rfl (by decide) rfl ?_
  refine ck_iconst (v := 0) dX12_twins_7 (by decide) ?_
  refine ck_istore_n (lv' := [(2, .int (0 : Int32)), (1, .int (0 : Int32)), (0, .ref 0)]) dX12_twins_8 rfl (by decide) rfl ?_
  refine ck_loc [2, 1, 0] rfl ?_
  refine cp_X12_twins_9 lpN _ _ _ hq
def wp_X12_common_4 (Q : Int32 → ck_H → Prop) : Nat → Int32 → Int32 → ck_H → Prop
  | 0 => fun _ _ _ => False
  | n + 1 => fun x2 x3 h => ((x3 = 0 → Q x2 h) ∧ (¬ x3 = 0 → (¬ x3 = 0 ∧ (∀ v3, v3 = (ck_rem x2 x3) → (wp_X12_common_4 Q n) x3 v3 h))))
def wp_X12_common (x0 : Int32) (x1 : Int32) (h : ck_H) (Q : Int32 → ck_H → Prop) : Prop := wp_X12_common_4 Q lpN x0 x1 h
set_option maxHeartbeats 4000000 in
set_option maxRecDepth 100000 in
theorem cp_X12_common_4 {gr : Bool} {Q : Int32 → ck_H → Prop} : ∀ (n : Nat) (x2 : Int32) (x3 : Int32) (h : ck_H), wp_X12_common_4 Q n x2 x3 h → ck_W cX12_common 5 RX12 (some .int) 2 0 0 false gr (ck_Qi ck_shM Q) ck_shM h 0 0 4 [(2, .int x2), (3, .int x3)] [] := by
  intro n
  induction n with
  | zero => intro x2 x3 h hq; exact hq.elim
  | succ n hKc =>
    intro x2 x3 h hq
    refine ck_iload_n 1 dX12_common_4 rfl rfl ?_
    refine ck_if_eq (tgt := 21) dX12_common_5 (by decide) (fun c1 => ?_) (fun c1 => ?_)
    · have hq := hq.1 c1
      refine ck_iload_n 0 dX12_common_21 rfl rfl ?_
      exact ck_iret rfl rfl rfl rfl dX12_common_22 ⟨_, rfl, rfl, hq⟩
    · have hq := hq.2 c1
      refine ck_iload_n 0 dX12_common_8 rfl rfl ?_
      refine ck_iload_n 1 dX12_common_9 rfl rfl ?_
      obtain ⟨b2, hq⟩ := hq
      refine ck_irem dX12_common_10 b2 ?_
      refine ck_nmI (fun v3 ev3 => ?_)
      have hq := hq v3 ev3
      refine ck_istore (lv' := [(4, .int v3), (2, .int x2), (3, .int x3)]) dX12_common_11 (by decide) rfl ?_
      refine ck_iload_n 2 dX12_common_13 rfl rfl ?_
      refine ck_istore_n (lv' := [(2, .int x3), (4, .int v3), (3, .int x3)]) dX12_common_14 rfl (by decide) rfl ?_
      refine ck_iload 1 dX12_common_15 rfl ?_
      refine ck_istore_n (lv' := [(3, .int v3), (2, .int x3), (4, .int v3)]) dX12_common_17 rfl (by decide) rfl ?_
      refine ck_goto (tgt := 4) dX12_common_18 (by decide) ?_
      refine ck_loc [1, 0] rfl ?_
      exact hKc _ _ _ hq
set_option maxHeartbeats 4000000 in
set_option maxRecDepth 100000 in
theorem c_X12_common {gr : Bool} {x0 : Int32} {x1 : Int32} {h : ck_H} {Q : Int32 → ck_H → Prop} (hq : wp_X12_common x0 x1 h Q) : ck_M yX12_common cX12_common 5 (some .int) 2 0 0 gr ck_shM h [.int x0, .int x1] (ck_Qi ck_shM Q) := by
  refine ck_entry (lv := [(0, .int x0), (1, .int x1)]) false (own := RX12) rfl (fun q => by cases q) (by decide) (Nat.le_of_ble_eq_true rfl) rfl ?_
  refine ck_iload_n 0 dX12_common_0 rfl rfl ?_
  refine ck_istore_n (lv' := [(2, .int x0), (0, .int x0), (1, .int x1)]) dX12_common_1 rfl (by decide) rfl ?_
  refine ck_iload_n 2 dX12_common_2 rfl rfl ?_
  refine ck_istore_n (lv' := [(3, .int x1), (2, .int x0), (0, .int x0), (1, .int x1)]) dX12_common_3 rfl (by decide) rfl ?_
  refine ck_loc [1, 0] rfl ?_
  refine cp_X12_common_4 lpN _ _ _ hq
def wp_X12_likely_72 (Q : Int32 → ck_H → Prop) (K80 : Int32 → Int32 → ck_H → Prop) (Kc : Int32 → Int32 → Int32 → Int32 → ck_H → Prop) (x1 : Int32) (x2 : Int32) (x4 : Int32) (y0 : Int32) (y1 : Int32) (h : ck_H) : Prop := (∀ v15, v15 = (y0 + y1) → (∀ v16, v16 = x4 + 1 → Kc x1 x2 v15 v16 h))
def wp_X12_likely_29 (Q : Int32 → ck_H → Prop) (K80 : Int32 → Int32 → ck_H → Prop) : Nat → Int32 → Int32 → Int32 → Int32 → ck_H → Prop
  | 0 => fun _ _ _ _ _ => False
  | n + 1 => fun x1 x2 x3 x4 h => (((10 : Int32) ≤ x4 → K80 x2 x3 h) ∧ (¬ (10 : Int32) ≤ x4 → (vp_in x1 230 ∧ (vp_in x1 20 ∧ (wp_X12_hardness (0 : Int32) x1 h (fun r11 h10 => (wp_X12_verdictAt (0 : Int32) (h.1 26 x1.toNatClampNeg) (h.1 12 x1.toNatClampNeg) (r11 + x4) h10 (fun r13 h12 => ((¬ r13 = (1 : Int32) → wp_X12_likely_72 Q K80 (wp_X12_likely_29 Q K80 n) x1 x2 x4 x3 (0 : Int32) h12) ∧ (r13 = (1 : Int32) → wp_X12_likely_72 Q K80 (wp_X12_likely_29 Q K80 n) x1 x2 x4 x3 (1 : Int32) h12))))))))))
def wp_X12_likely (x1 : Int32) (x2 : Int32) (h : ck_H) (Q : Int32 → ck_H → Prop) : Prop := (∀ h1, h1 = ck_sI h 0 0 (0 : Int32) → (wp_X12_isOpenSuit x1 h1 (fun r3 h2 => ((r3 = 0 → Q (-1 : Int32) h2) ∧ (¬ r3 = 0 → ((x2 < 0 → Q (-1 : Int32) h2) ∧ (¬ x2 < 0 → ((x2 ≤ (1 : Int32) → wp_X12_likely_29 Q (fun x18 x19 h17 => (wp_X12_common x19 (10 : Int32) h17 (fun r21 h20 => ((¬ x18 = 0 → (¬ r21 = 0 ∧ Q ((10 : Int32) / r21) h20)) ∧ (x18 = 0 → (¬ r21 = 0 ∧ Q (x19 / r21) h20)))))) lpN x1 x2 (0 : Int32) (0 : Int32) h2) ∧ (¬ x2 ≤ (1 : Int32) → Q (-1 : Int32) h2)))))))))
set_option maxHeartbeats 4000000 in
set_option maxRecDepth 100000 in
theorem cp_X12_likely_72 {gr : Bool} {Q : Int32 → ck_H → Prop} {K80 : Int32 → Int32 → ck_H → Prop} {Kc : Int32 → Int32 → Int32 → Int32 → ck_H → Prop} (hK80 : ∀ (x2 : Int32) (x3 : Int32) (h : ck_H), K80 x2 x3 h → ck_W cX12_likely 5 RX12 (some .int) 8 0 0 false gr (ck_Qi ck_shM Q) ck_shM h 0 0 80 [(2, .int x2), (3, .int x3)] []) (hKc : ∀ (x1 : Int32) (x2 : Int32) (x3 : Int32) (x4 : Int32) (h : ck_H), Kc x1 x2 x3 x4 h → ck_W cX12_likely 5 RX12 (some .int) 8 0 0 false gr (ck_Qi ck_shM Q) ck_shM h 0 0 29 [(0, .ref 0), (1, .int x1), (2, .int x2), (3, .int x3), (4, .int x4)] []) : ∀ (x1 : Int32) (x2 : Int32) (x4 : Int32) (y0 : Int32) (y1 : Int32) (h : ck_H), wp_X12_likely_72 Q K80 Kc x1 x2 x4 y0 y1 h → ck_W cX12_likely 5 RX12 (some .int) 8 0 0 false gr (ck_Qi ck_shM Q) ck_shM h 0 0 72 [(0, .ref 0), (1, .int x1), (2, .int x2), (4, .int x4)] [.int y1, .int y0] := by
  intro x1 x2 x4 y0 y1 h hq
  refine ck_iadd dX12_likely_72 ?_
  refine ck_nmI (fun v15 ev15 => ?_)
  have hq := hq v15 ev15
  refine ck_istore_n (lv' := [(3, .int v15), (0, .ref 0), (1, .int x1), (2, .int x2), (4, .int x4)]) dX12_likely_73 rfl (by decide) rfl ?_
  obtain ⟨v16, ev16⟩ : ∃ z : Int32, z = x4 + 1 := ⟨_, rfl⟩
  have hq := hq v16 ev16
  refine ck_iinc (v := v16) (lv' := [(4, .int v16), (3, .int v15), (0, .ref 0), (1, .int x1), (2, .int x2)]) 4 dX12_likely_74 rfl (by rw [ev16]; rfl) (by decide) rfl ?_
  refine ck_goto (tgt := 29) dX12_likely_77 (by decide) ?_
  refine ck_loc [2, 3, 4, 1, 0] rfl ?_
  exact hKc _ _ _ _ _ hq
set_option maxHeartbeats 4000000 in
set_option maxRecDepth 100000 in
theorem cp_X12_likely_29 {gr : Bool} {Q : Int32 → ck_H → Prop} {K80 : Int32 → Int32 → ck_H → Prop} (hK80 : ∀ (x2 : Int32) (x3 : Int32) (h : ck_H), K80 x2 x3 h → ck_W cX12_likely 5 RX12 (some .int) 8 0 0 false gr (ck_Qi ck_shM Q) ck_shM h 0 0 80 [(2, .int x2), (3, .int x3)] []) : ∀ (n : Nat) (x1 : Int32) (x2 : Int32) (x3 : Int32) (x4 : Int32) (h : ck_H), wp_X12_likely_29 Q K80 n x1 x2 x3 x4 h → ck_W cX12_likely 5 RX12 (some .int) 8 0 0 false gr (ck_Qi ck_shM Q) ck_shM h 0 0 29 [(0, .ref 0), (1, .int x1), (2, .int x2), (3, .int x3), (4, .int x4)] [] := by
  intro n
  induction n with
  | zero => intro x1 x2 x3 x4 h hq; exact hq.elim
  | succ n hKc =>
    intro x1 x2 x3 x4 h hq
    refine ck_iload 4 dX12_likely_29 rfl ?_
    refine ck_bipush (v := 10) dX12_likely_31 (by decide) ?_
    refine ck_icmp_ge (tgt := 80) dX12_likely_33 (by decide) (fun c7 => ?_) (fun c7 => ?_)
    · have hq := hq.1 c7
      refine ck_loc [2, 3] rfl ?_
      exact hK80 _ _ _ hq
    · have hq := hq.2 c7
      refine ck_iload_n 3 dX12_likely_36 rfl rfl ?_
      refine ck_aload_n 0 dX12_likely_37 rfl rfl ?_
      refine ck_iconst (v := 0) dX12_likely_38 (by decide) ?_
      refine ck_aload_n 0 dX12_likely_39 rfl rfl ?_
      refine ck_getR clX12 41 rfl rfl (by decide) fl_X12_90 dX12_likely_40 ?_
      refine ck_iload_n 1 dX12_likely_43 rfl rfl ?_
      obtain ⟨b8, hq⟩ := hq
      refine ck_iald rfl rfl b8 dX12_likely_44 ?_
      refine ck_aload_n 0 dX12_likely_45 rfl rfl ?_
      refine ck_getR clX12 13 rfl rfl (by decide) fl_X12_43 dX12_likely_46 ?_
      refine ck_iload_n 1 dX12_likely_49 rfl rfl ?_
      obtain ⟨b9, hq⟩ := hq
      refine ck_iald rfl rfl b9 dX12_likely_50 ?_
      refine ck_aload_n 0 dX12_likely_51 rfl rfl ?_
      refine ck_iconst (v := 0) dX12_likely_52 (by decide) ?_
      refine ck_iload_n 1 dX12_likely_53 rfl rfl ?_
      refine ck_callV (c_X12_hardness hq) rfl cal_X12_hardness rfl ml_X12_361 vir_X12_hardness rfl rfl (by decide) (Nat.le_of_ble_eq_true rfl) (Nat.le_of_ble_eq_true rfl) (by decide) (by decide) dX12_likely_54 ?_
      rintro _ _ h10 ⟨r11, rfl, rfl, hq⟩
      refine ck_iload 4 dX12_likely_57 rfl ?_
      refine ck_iadd dX12_likely_59 ?_
      refine ck_callV (c_X12_verdictAt hq) rfl cal_X12_verdictAt rfl ml_X12_374 vir_X12_verdictAt rfl rfl (by decide) (Nat.le_of_ble_eq_true rfl) (Nat.le_of_ble_eq_true rfl) (by decide) (by decide) dX12_likely_60 ?_
      rintro _ _ h12 ⟨r13, rfl, rfl, hq⟩
      refine ck_iconst (v := 1) dX12_likely_63 (by decide) ?_
      refine ck_icmp_ne (tgt := 71) dX12_likely_64 (by decide) (fun c14 => ?_) (fun c14 => ?_)
      · have hq := hq.1 c14
        refine ck_iconst (v := 0) dX12_likely_71 (by decide) ?_
        refine ck_loc [0, 1, 2, 4] rfl ?_
        exact cp_X12_likely_72 hK80 hKc _ _ _ _ _ _ hq
      · have hq := hq.2 c14
        refine ck_iconst (v := 1) dX12_likely_67 (by decide) ?_
        refine ck_goto (tgt := 72) dX12_likely_68 (by decide) ?_
        refine ck_loc [0, 1, 2, 4] rfl ?_
        exact cp_X12_likely_72 hK80 hKc _ _ _ _ _ _ hq
set_option maxHeartbeats 4000000 in
set_option maxRecDepth 100000 in
theorem c_X12_likely {gr : Bool} {x1 : Int32} {x2 : Int32} {h : ck_H} {Q : Int32 → ck_H → Prop} (hq : wp_X12_likely x1 x2 h Q) : ck_M yX12_likely cX12_likely 5 (some .int) 8 0 0 gr ck_shM h [.ref 0, .int x1, .int x2] (ck_Qi ck_shM Q) := by
  refine ck_entry (lv := [(0, .ref 0), (1, .int x1), (2, .int x2)]) false (own := RX12) rfl (fun q => by cases q) (by decide) (Nat.le_of_ble_eq_true rfl) rfl ?_
  refine ck_aload_n 0 dX12_likely_0 rfl rfl ?_
  refine ck_iconst (v := 0) dX12_likely_1 (by decide) ?_
  refine ck_putI clX12 0 rfl rfl (by decide) fl_X12_145 rfl rfl rfl dX12_likely_2 ?_
  refine ck_nmH (fun h1 eh1 => ?_)
  have hq := hq h1 eh1
  refine ck_aload_n 0 dX12_likely_5 rfl rfl ?_
  refine ck_iload_n 1 dX12_likely_6 rfl rfl ?_
  refine ck_callV (c_X12_isOpenSuit hq) rfl cal_X12_isOpenSuit rfl ml_X12_465 vir_X12_isOpenSuit rfl rfl (by decide) (Nat.le_of_ble_eq_true rfl) (Nat.le_of_ble_eq_true rfl) (by decide) (by decide) dX12_likely_7 ?_
  rintro _ _ h2 ⟨r3, rfl, rfl, hq⟩
  refine ck_if_eq (tgt := 22) dX12_likely_10 (by decide) (fun c4 => ?_) (fun c4 => ?_)
  · have hq := hq.1 c4
    refine ck_iconst (v := -1) dX12_likely_22 (by decide) ?_
    exact ck_iret rfl rfl rfl rfl dX12_likely_23 ⟨_, rfl, rfl, hq⟩
  · have hq := hq.2 c4
    refine ck_iload_n 2 dX12_likely_13 rfl rfl ?_
    refine ck_if_lt (tgt := 22) dX12_likely_14 (by decide) (fun c5 => ?_) (fun c5 => ?_)
    · have hq := hq.1 c5
      refine ck_iconst (v := -1) dX12_likely_22 (by decide) ?_
      exact ck_iret rfl rfl rfl rfl dX12_likely_23 ⟨_, rfl, rfl, hq⟩
    · have hq := hq.2 c5
      refine ck_iload_n 2 dX12_likely_17 rfl rfl ?_
      refine ck_iconst (v := 1) dX12_likely_18 (by decide) ?_
      refine ck_icmp_le (tgt := 24) dX12_likely_19 (by decide) (fun c6 => ?_) (fun c6 => ?_)
      · have hq := hq.1 c6
        refine ck_iconst (v := 0) dX12_likely_24 (by decide) ?_
        refine ck_istore_n (lv' := [(3, .int (0 : Int32)), (0, .ref 0), (1, .int x1), (2, .int x2)]) dX12_likely_25 rfl (by decide) rfl ?_
        refine ck_iconst (v := 0) dX12_likely_26 (by decide) ?_
        refine ck_istore (lv' := [(4, .int (0 : Int32)), (3, .int (0 : Int32)), (0, .ref 0), (1, .int x1), (2, .int x2)]) dX12_likely_27 (by decide) rfl ?_
        refine ck_loc [2, 3, 4, 1, 0] rfl ?_
        refine cp_X12_likely_29 (fun x18 x19 h17 hq => ?_) lpN _ _ _ _ _ hq
        · refine ck_iload_n 1 dX12_likely_80 rfl rfl ?_
          refine ck_bipush (v := 10) dX12_likely_81 (by decide) ?_
          refine ck_callS (c_X12_common hq) rfl cal_X12_common rfl ml_X12_474 sta_X12_common (by decide) (Nat.le_of_ble_eq_true rfl) (Nat.le_of_ble_eq_true rfl) (by decide) (by decide) dX12_likely_83 ?_
          rintro _ _ h20 ⟨r21, rfl, rfl, hq⟩
          refine ck_istore (lv' := [(4, .int r21), (2, .int x18), (3, .int x19)]) dX12_likely_86 (by decide) rfl ?_
          refine ck_iload_n 1 dX12_likely_88 rfl rfl ?_
          refine ck_if_ne (tgt := 99) dX12_likely_89 (by decide) (fun c22 => ?_) (fun c22 => ?_)
          · have hq := hq.1 c22
            refine ck_bipush (v := 10) dX12_likely_99 (by decide) ?_
            refine ck_iload 0 dX12_likely_101 rfl ?_
            obtain ⟨b23, hq⟩ := hq
            refine ck_idiv dX12_likely_103 b23 ?_
            exact ck_iret rfl rfl rfl rfl dX12_likely_104 ⟨_, rfl, rfl, hq⟩
          · have hq := hq.2 c22
            refine ck_iload_n 2 dX12_likely_92 rfl rfl ?_
            refine ck_iload 0 dX12_likely_93 rfl ?_
            obtain ⟨b24, hq⟩ := hq
            refine ck_idiv dX12_likely_95 b24 ?_
            refine ck_goto (tgt := 104) dX12_likely_96 (by decide) ?_
            exact ck_iret rfl rfl rfl rfl dX12_likely_104 ⟨_, rfl, rfl, hq⟩
      · have hq := hq.2 c6
        refine ck_iconst (v := -1) dX12_likely_22 (by decide) ?_
        exact ck_iret rfl rfl rfl rfl dX12_likely_23 ⟨_, rfl, rfl, hq⟩
def wp_X12_crown_41 (Q : Int32 → ck_H → Prop) (Kc : Int32 → Int32 → ck_H → Prop) (x1 : Int32) (x2 : Int32) (h : ck_H) : Prop := (∀ v4, v4 = x2 + 1 → Kc x1 v4 h)
def wp_X12_crown_39 (Q : Int32 → ck_H → Prop) (Kc : Int32 → Int32 → ck_H → Prop) (x2 : Int32) (h : ck_H) : Prop := wp_X12_crown_41 Q Kc x2 x2 h
def wp_X12_crown_9 (Q : Int32 → ck_H → Prop) : Nat → Int32 → Int32 → ck_H → Prop
  | 0 => fun _ _ _ => False
  | n + 1 => fun x1 x2 h => (((h.1 2 0) ≤ x2 → Q x1 h) ∧ (¬ (h.1 2 0) ≤ x2 → ((x1 = (-1 : Int32) → wp_X12_crown_39 Q (wp_X12_crown_9 Q n) x2 h) ∧ (¬ x1 = (-1 : Int32) → (wp_X12_triedBy x2 (1 : Int32) h (fun r6 h5 => (wp_X12_triedBy x1 (1 : Int32) h5 (fun r8 h7 => ((r6 ≤ r8 → wp_X12_crown_41 Q (wp_X12_crown_9 Q n) x1 x2 h7) ∧ (¬ r6 ≤ r8 → wp_X12_crown_39 Q (wp_X12_crown_9 Q n) x2 h7))))))))))
def wp_X12_crown (h : ck_H) (Q : Int32 → ck_H → Prop) : Prop := (∀ h1, h1 = ck_sI h 0 0 (0 : Int32) → wp_X12_crown_9 Q lpN (-1 : Int32) (0 : Int32) h1)
set_option maxHeartbeats 4000000 in
set_option maxRecDepth 100000 in
theorem cp_X12_crown_41 {gr : Bool} {Q : Int32 → ck_H → Prop} {Kc : Int32 → Int32 → ck_H → Prop} (hKc : ∀ (x1 : Int32) (x2 : Int32) (h : ck_H), Kc x1 x2 h → ck_W cX12_crown 3 RX12 (some .int) 4 0 0 false gr (ck_Qi ck_shM Q) ck_shM h 0 0 9 [(0, .ref 0), (1, .int x1), (2, .int x2)] []) : ∀ (x1 : Int32) (x2 : Int32) (h : ck_H), wp_X12_crown_41 Q Kc x1 x2 h → ck_W cX12_crown 3 RX12 (some .int) 4 0 0 false gr (ck_Qi ck_shM Q) ck_shM h 0 0 41 [(0, .ref 0), (1, .int x1), (2, .int x2)] [] := by
  intro x1 x2 h hq
  obtain ⟨v4, ev4⟩ : ∃ z : Int32, z = x2 + 1 := ⟨_, rfl⟩
  have hq := hq v4 ev4
  refine ck_iinc (v := v4) (lv' := [(2, .int v4), (0, .ref 0), (1, .int x1)]) 2 dX12_crown_41 rfl (by rw [ev4]; rfl) (by decide) rfl ?_
  refine ck_goto (tgt := 9) dX12_crown_44 (by decide) ?_
  refine ck_loc [1, 2, 0] rfl ?_
  exact hKc _ _ _ hq
set_option maxHeartbeats 4000000 in
set_option maxRecDepth 100000 in
theorem cp_X12_crown_39 {gr : Bool} {Q : Int32 → ck_H → Prop} {Kc : Int32 → Int32 → ck_H → Prop} (hKc : ∀ (x1 : Int32) (x2 : Int32) (h : ck_H), Kc x1 x2 h → ck_W cX12_crown 3 RX12 (some .int) 4 0 0 false gr (ck_Qi ck_shM Q) ck_shM h 0 0 9 [(0, .ref 0), (1, .int x1), (2, .int x2)] []) : ∀ (x2 : Int32) (h : ck_H), wp_X12_crown_39 Q Kc x2 h → ck_W cX12_crown 3 RX12 (some .int) 4 0 0 false gr (ck_Qi ck_shM Q) ck_shM h 0 0 39 [(0, .ref 0), (2, .int x2)] [] := by
  intro x2 h hq
  refine ck_iload_n 1 dX12_crown_39 rfl rfl ?_
  refine ck_istore_n (lv' := [(1, .int x2), (0, .ref 0), (2, .int x2)]) dX12_crown_40 rfl (by decide) rfl ?_
  refine ck_loc [1, 0, 2] rfl ?_
  exact cp_X12_crown_41 hKc _ _ _ hq
set_option maxHeartbeats 4000000 in
set_option maxRecDepth 100000 in
theorem cp_X12_crown_9 {gr : Bool} {Q : Int32 → ck_H → Prop} : ∀ (n : Nat) (x1 : Int32) (x2 : Int32) (h : ck_H), wp_X12_crown_9 Q n x1 x2 h → ck_W cX12_crown 3 RX12 (some .int) 4 0 0 false gr (ck_Qi ck_shM Q) ck_shM h 0 0 9 [(0, .ref 0), (1, .int x1), (2, .int x2)] [] := by
  intro n
  induction n with
  | zero => intro x1 x2 h hq; exact hq.elim
  | succ n hKc =>
    intro x1 x2 h hq
    refine ck_iload_n 2 dX12_crown_9 rfl rfl ?_
    refine ck_aload_n 0 dX12_crown_10 rfl rfl ?_
    refine ck_getR clX12 3 rfl rfl (by decide) fl_X12_13 dX12_crown_11 ?_
    refine ck_iconst (v := 0) dX12_crown_14 (by decide) ?_
    refine ck_iald (j := 0) (by decide) rfl (ck_inL (by decide)) dX12_crown_15 ?_
    refine ck_icmp_ge (tgt := 47) dX12_crown_16 (by decide) (fun c2 => ?_) (fun c2 => ?_)
    · have hq := hq.1 c2
      refine ck_iload_n 1 dX12_crown_47 rfl rfl ?_
      exact ck_iret rfl rfl rfl rfl dX12_crown_48 ⟨_, rfl, rfl, hq⟩
    · have hq := hq.2 c2
      refine ck_iload_n 1 dX12_crown_19 rfl rfl ?_
      refine ck_iconst (v := -1) dX12_crown_20 (by decide) ?_
      refine ck_icmp_eq (tgt := 39) dX12_crown_21 (by decide) (fun c3 => ?_) (fun c3 => ?_)
      · have hq := hq.1 c3
        refine ck_loc [0, 2] rfl ?_
        exact cp_X12_crown_39 hKc _ _ hq
      · have hq := hq.2 c3
        refine ck_aload_n 0 dX12_crown_24 rfl rfl ?_
        refine ck_iload_n 2 dX12_crown_25 rfl rfl ?_
        refine ck_iconst (v := 1) dX12_crown_26 (by decide) ?_
        refine ck_callV (c_X12_triedBy hq) rfl cal_X12_triedBy rfl ml_X12_407 vir_X12_triedBy rfl rfl (by decide) (Nat.le_of_ble_eq_true rfl) (Nat.le_of_ble_eq_true rfl) (by decide) (by decide) dX12_crown_27 ?_
        rintro _ _ h5 ⟨r6, rfl, rfl, hq⟩
        refine ck_aload_n 0 dX12_crown_30 rfl rfl ?_
        refine ck_iload_n 1 dX12_crown_31 rfl rfl ?_
        refine ck_iconst (v := 1) dX12_crown_32 (by decide) ?_
        refine ck_callV (c_X12_triedBy hq) rfl cal_X12_triedBy rfl ml_X12_407 vir_X12_triedBy rfl rfl (by decide) (Nat.le_of_ble_eq_true rfl) (Nat.le_of_ble_eq_true rfl) (by decide) (by decide) dX12_crown_33 ?_
        rintro _ _ h7 ⟨r8, rfl, rfl, hq⟩
        refine ck_icmp_le (tgt := 41) dX12_crown_36 (by decide) (fun c9 => ?_) (fun c9 => ?_)
        · have hq := hq.1 c9
          exact cp_X12_crown_41 hKc _ _ _ hq
        · have hq := hq.2 c9
          refine ck_loc [0, 2] rfl ?_
          exact cp_X12_crown_39 hKc _ _ hq
set_option maxHeartbeats 4000000 in
set_option maxRecDepth 100000 in
theorem c_X12_crown {gr : Bool} {h : ck_H} {Q : Int32 → ck_H → Prop} (hq : wp_X12_crown h Q) : ck_M yX12_crown cX12_crown 3 (some .int) 4 0 0 gr ck_shM h [.ref 0] (ck_Qi ck_shM Q) := by
  refine ck_entry (lv := [(0, .ref 0)]) false (own := RX12) rfl (fun q => by cases q) (by decide) (Nat.le_of_ble_eq_true rfl) rfl ?_
  refine ck_aload_n 0 dX12_crown_0 rfl rfl ?_
  refine ck_iconst (v := 0) dX12_crown_1 (by decide) ?_
  refine ck_putI clX12 0 rfl rfl (by decide) fl_X12_145 rfl rfl rfl dX12_crown_2 ?_
  refine ck_nmH (fun h1 eh1 => ?_)
  have hq := hq h1 eh1
  refine ck_iconst (v := -1) dX12_crown_5 (by decide) ?_
  refine ck_istore_n (lv' := [(1, .int (-1 : Int32)), (0, .ref 0)]) dX12_crown_6 rfl (by decide) rfl ?_
  refine ck_iconst (v := 0) dX12_crown_7 (by decide) ?_
  refine ck_istore_n (lv' := [(2, .int (0 : Int32)), (1, .int (-1 : Int32)), (0, .ref 0)]) dX12_crown_8 rfl (by decide) rfl ?_
  refine ck_loc [2, 1, 0] rfl ?_
  refine cp_X12_crown_9 lpN _ _ _ hq
def wp_X12_nextTooth_13 (Q : Int32 → ck_H → Prop) : Nat → Int32 → ck_H → Prop
  | 0 => fun _ _ => False
  | n + 1 => fun x1 h => (((99 : Int32) < x1 → Q (-2 : Int32) h) ∧ (¬ (99 : Int32) < x1 → (wp_X12_passes (1 : Int32) h (fun h4 => (((h4.1 23 1) ≤ (h4.1 23 0) → (∀ v6, v6 = x1 + 1 → (wp_X12_nextTooth_13 Q n) v6 h4)) ∧ (¬ (h4.1 23 1) ≤ (h4.1 23 0) → Q x1 h4))))))
def wp_X12_nextTooth (h : ck_H) (Q : Int32 → ck_H → Prop) : Prop := (∀ h1, h1 = ck_sI h 0 0 (0 : Int32) → (wp_X12_copies (1 : Int32) (0 : Int32) h1 (fun h2 => wp_X12_nextTooth_13 Q lpN (1 : Int32) h2)))
set_option maxHeartbeats 4000000 in
set_option maxRecDepth 100000 in
theorem cp_X12_nextTooth_13 {gr : Bool} {Q : Int32 → ck_H → Prop} : ∀ (n : Nat) (x1 : Int32) (h : ck_H), wp_X12_nextTooth_13 Q n x1 h → ck_W cX12_nextTooth 2 RX12 (some .int) 11 0 0 false gr (ck_Qi ck_shM Q) ck_shM h 0 0 13 [(0, .ref 0), (1, .int x1)] [] := by
  intro n
  induction n with
  | zero => intro x1 h hq; exact hq.elim
  | succ n hKc =>
    intro x1 h hq
    refine ck_iload_n 1 dX12_nextTooth_13 rfl rfl ?_
    refine ck_bipush (v := 99) dX12_nextTooth_14 (by decide) ?_
    refine ck_icmp_gt (tgt := 47) dX12_nextTooth_16 (by decide) (fun c3 => ?_) (fun c3 => ?_)
    · have hq := hq.1 c3
      refine ck_bipush (v := -2) dX12_nextTooth_47 (by decide) ?_
      exact ck_iret rfl rfl rfl rfl dX12_nextTooth_49 ⟨_, rfl, rfl, hq⟩
    · have hq := hq.2 c3
      refine ck_aload_n 0 dX12_nextTooth_19 rfl rfl ?_
      refine ck_iconst (v := 1) dX12_nextTooth_20 (by decide) ?_
      refine ck_callV (c_X12_passes hq) rfl cal_X12_passes rfl ml_X12_395 vir_X12_passes rfl rfl (by decide) (Nat.le_of_ble_eq_true rfl) (Nat.le_of_ble_eq_true rfl) (by decide) (by decide) dX12_nextTooth_21 ?_
      rintro _ _ h4 ⟨rfl, rfl, hq⟩
      refine ck_aload_n 0 dX12_nextTooth_24 rfl rfl ?_
      refine ck_getR clX12 38 rfl rfl (by decide) fl_X12_81 dX12_nextTooth_25 ?_
      refine ck_iconst (v := 1) dX12_nextTooth_28 (by decide) ?_
      refine ck_iald (j := 1) (by decide) rfl (ck_inL (by decide)) dX12_nextTooth_29 ?_
      refine ck_aload_n 0 dX12_nextTooth_30 rfl rfl ?_
      refine ck_getR clX12 38 rfl rfl (by decide) fl_X12_81 dX12_nextTooth_31 ?_
      refine ck_iconst (v := 0) dX12_nextTooth_34 (by decide) ?_
      refine ck_iald (j := 0) (by decide) rfl (ck_inL (by decide)) dX12_nextTooth_35 ?_
      refine ck_icmp_le (tgt := 41) dX12_nextTooth_36 (by decide) (fun c5 => ?_) (fun c5 => ?_)
      · have hq := hq.1 c5
        obtain ⟨v6, ev6⟩ : ∃ z : Int32, z = x1 + 1 := ⟨_, rfl⟩
        have hq := hq v6 ev6
        refine ck_iinc (v := v6) (lv' := [(1, .int v6), (0, .ref 0)]) 1 dX12_nextTooth_41 rfl (by rw [ev6]; rfl) (by decide) rfl ?_
        refine ck_goto (tgt := 13) dX12_nextTooth_44 (by decide) ?_
        refine ck_loc [1, 0] rfl ?_
        exact hKc _ _ hq
      · have hq := hq.2 c5
        refine ck_iload_n 1 dX12_nextTooth_39 rfl rfl ?_
        exact ck_iret rfl rfl rfl rfl dX12_nextTooth_40 ⟨_, rfl, rfl, hq⟩
set_option maxHeartbeats 4000000 in
set_option maxRecDepth 100000 in
theorem c_X12_nextTooth {gr : Bool} {h : ck_H} {Q : Int32 → ck_H → Prop} (hq : wp_X12_nextTooth h Q) : ck_M yX12_nextTooth cX12_nextTooth 2 (some .int) 11 0 0 gr ck_shM h [.ref 0] (ck_Qi ck_shM Q) := by
  refine ck_entry (lv := [(0, .ref 0)]) false (own := RX12) rfl (fun q => by cases q) (by decide) (Nat.le_of_ble_eq_true rfl) rfl ?_
  refine ck_aload_n 0 dX12_nextTooth_0 rfl rfl ?_
  refine ck_iconst (v := 0) dX12_nextTooth_1 (by decide) ?_
  refine ck_putI clX12 0 rfl rfl (by decide) fl_X12_145 rfl rfl rfl dX12_nextTooth_2 ?_
  refine ck_nmH (fun h1 eh1 => ?_)
  have hq := hq h1 eh1
  refine ck_aload_n 0 dX12_nextTooth_5 rfl rfl ?_
  refine ck_iconst (v := 1) dX12_nextTooth_6 (by decide) ?_
  refine ck_iconst (v := 0) dX12_nextTooth_7 (by decide) ?_
  refine ck_callV (c_X12_copies hq) rfl cal_X12_copies rfl ml_X12_417 vir_X12_copies rfl rfl (by decide) (Nat.le_of_ble_eq_true rfl) (Nat.le_of_ble_eq_true rfl) (by decide) (by decide) dX12_nextTooth_8 ?_
  rintro _ _ h2 ⟨rfl, rfl, hq⟩
  refine ck_iconst (v := 1) dX12_nextTooth_11 (by decide) ?_
  refine ck_istore_n (lv' := [(1, .int (1 : Int32)), (0, .ref 0)]) dX12_nextTooth_12 rfl (by decide) rfl ?_
  refine ck_loc [1, 0] rfl ?_
  refine cp_X12_nextTooth_13 lpN _ _ hq
def wp_X12_wholeBy_59 (Q : Int32 → ck_H → Prop) (Kc : Int32 → Int32 → Int32 → ck_H → Prop) (x1 : Int32) (x3 : Int32) (y0 : Int32) (y1 : Int32) (h : ck_H) : Prop := (∀ v12, v12 = (y0 ||| y1) → (∀ v13, v13 = x3 + 1 → Kc x1 v12 v13 h))
def wp_X12_wholeBy_19 (Q : Int32 → ck_H → Prop) : Nat → Int32 → Int32 → Int32 → ck_H → Prop
  | 0 => fun _ _ _ _ => False
  | n + 1 => fun x1 x2 x3 h => (((h.1 2 0) ≤ x3 → Q x2 h) ∧ (¬ (h.1 2 0) ≤ x3 → (vp_in x1 20 ∧ (wp_X12_hardness (0 : Int32) x1 h (fun r8 h7 => (wp_X12_verdictAt (0 : Int32) x3 (h.1 12 x1.toNatClampNeg) r8 h7 (fun r10 h9 => ((¬ r10 = (1 : Int32) → wp_X12_wholeBy_59 Q (wp_X12_wholeBy_19 Q n) x1 x3 x2 (0 : Int32) h9) ∧ (r10 = (1 : Int32) → wp_X12_wholeBy_59 Q (wp_X12_wholeBy_19 Q n) x1 x3 x2 ((1 : Int32) <<< (x3 &&& 31)) h9)))))))))
def wp_X12_wholeBy (x1 : Int32) (h : ck_H) (Q : Int32 → ck_H → Prop) : Prop := (∀ h1, h1 = ck_sI h 0 0 (0 : Int32) → (wp_X12_isOpenSuit x1 h1 (fun r3 h2 => ((¬ r3 = 0 → wp_X12_wholeBy_19 Q lpN x1 (0 : Int32) (0 : Int32) h2) ∧ (r3 = 0 → Q (-1 : Int32) h2)))))
set_option maxHeartbeats 4000000 in
set_option maxRecDepth 100000 in
theorem cp_X12_wholeBy_59 {gr : Bool} {Q : Int32 → ck_H → Prop} {Kc : Int32 → Int32 → Int32 → ck_H → Prop} (hKc : ∀ (x1 : Int32) (x2 : Int32) (x3 : Int32) (h : ck_H), Kc x1 x2 x3 h → ck_W cX12_wholeBy 4 RX12 (some .int) 8 0 0 false gr (ck_Qi ck_shM Q) ck_shM h 0 0 19 [(0, .ref 0), (1, .int x1), (2, .int x2), (3, .int x3)] []) : ∀ (x1 : Int32) (x3 : Int32) (y0 : Int32) (y1 : Int32) (h : ck_H), wp_X12_wholeBy_59 Q Kc x1 x3 y0 y1 h → ck_W cX12_wholeBy 4 RX12 (some .int) 8 0 0 false gr (ck_Qi ck_shM Q) ck_shM h 0 0 59 [(0, .ref 0), (1, .int x1), (3, .int x3)] [.int y1, .int y0] := by
  intro x1 x3 y0 y1 h hq
  refine ck_ior dX12_wholeBy_59 ?_
  refine ck_nmI (fun v12 ev12 => ?_)
  have hq := hq v12 ev12
  refine ck_istore_n (lv' := [(2, .int v12), (0, .ref 0), (1, .int x1), (3, .int x3)]) dX12_wholeBy_60 rfl (by decide) rfl ?_
  obtain ⟨v13, ev13⟩ : ∃ z : Int32, z = x3 + 1 := ⟨_, rfl⟩
  have hq := hq v13 ev13
  refine ck_iinc (v := v13) (lv' := [(3, .int v13), (2, .int v12), (0, .ref 0), (1, .int x1)]) 3 dX12_wholeBy_61 rfl (by rw [ev13]; rfl) (by decide) rfl ?_
  refine ck_goto (tgt := 19) dX12_wholeBy_64 (by decide) ?_
  refine ck_loc [2, 3, 1, 0] rfl ?_
  exact hKc _ _ _ _ hq
set_option maxHeartbeats 4000000 in
set_option maxRecDepth 100000 in
theorem cp_X12_wholeBy_19 {gr : Bool} {Q : Int32 → ck_H → Prop} : ∀ (n : Nat) (x1 : Int32) (x2 : Int32) (x3 : Int32) (h : ck_H), wp_X12_wholeBy_19 Q n x1 x2 x3 h → ck_W cX12_wholeBy 4 RX12 (some .int) 8 0 0 false gr (ck_Qi ck_shM Q) ck_shM h 0 0 19 [(0, .ref 0), (1, .int x1), (2, .int x2), (3, .int x3)] [] := by
  intro n
  induction n with
  | zero => intro x1 x2 x3 h hq; exact hq.elim
  | succ n hKc =>
    intro x1 x2 x3 h hq
    refine ck_iload_n 3 dX12_wholeBy_19 rfl rfl ?_
    refine ck_aload_n 0 dX12_wholeBy_20 rfl rfl ?_
    refine ck_getR clX12 3 rfl rfl (by decide) fl_X12_13 dX12_wholeBy_21 ?_
    refine ck_iconst (v := 0) dX12_wholeBy_24 (by decide) ?_
    refine ck_iald (j := 0) (by decide) rfl (ck_inL (by decide)) dX12_wholeBy_25 ?_
    refine ck_icmp_ge (tgt := 67) dX12_wholeBy_26 (by decide) (fun c5 => ?_) (fun c5 => ?_)
    · have hq := hq.1 c5
      refine ck_iload_n 2 dX12_wholeBy_67 rfl rfl ?_
      exact ck_iret rfl rfl rfl rfl dX12_wholeBy_68 ⟨_, rfl, rfl, hq⟩
    · have hq := hq.2 c5
      refine ck_iload_n 2 dX12_wholeBy_29 rfl rfl ?_
      refine ck_aload_n 0 dX12_wholeBy_30 rfl rfl ?_
      refine ck_iconst (v := 0) dX12_wholeBy_31 (by decide) ?_
      refine ck_iload_n 3 dX12_wholeBy_32 rfl rfl ?_
      refine ck_aload_n 0 dX12_wholeBy_33 rfl rfl ?_
      refine ck_getR clX12 13 rfl rfl (by decide) fl_X12_43 dX12_wholeBy_34 ?_
      refine ck_iload_n 1 dX12_wholeBy_37 rfl rfl ?_
      obtain ⟨b6, hq⟩ := hq
      refine ck_iald rfl rfl b6 dX12_wholeBy_38 ?_
      refine ck_aload_n 0 dX12_wholeBy_39 rfl rfl ?_
      refine ck_iconst (v := 0) dX12_wholeBy_40 (by decide) ?_
      refine ck_iload_n 1 dX12_wholeBy_41 rfl rfl ?_
      refine ck_callV (c_X12_hardness hq) rfl cal_X12_hardness rfl ml_X12_361 vir_X12_hardness rfl rfl (by decide) (Nat.le_of_ble_eq_true rfl) (Nat.le_of_ble_eq_true rfl) (by decide) (by decide) dX12_wholeBy_42 ?_
      rintro _ _ h7 ⟨r8, rfl, rfl, hq⟩
      refine ck_callV (c_X12_verdictAt hq) rfl cal_X12_verdictAt rfl ml_X12_374 vir_X12_verdictAt rfl rfl (by decide) (Nat.le_of_ble_eq_true rfl) (Nat.le_of_ble_eq_true rfl) (by decide) (by decide) dX12_wholeBy_45 ?_
      rintro _ _ h9 ⟨r10, rfl, rfl, hq⟩
      refine ck_iconst (v := 1) dX12_wholeBy_48 (by decide) ?_
      refine ck_icmp_ne (tgt := 58) dX12_wholeBy_49 (by decide) (fun c11 => ?_) (fun c11 => ?_)
      · have hq := hq.1 c11
        refine ck_iconst (v := 0) dX12_wholeBy_58 (by decide) ?_
        refine ck_loc [0, 1, 3] rfl ?_
        exact cp_X12_wholeBy_59 hKc _ _ _ _ _ hq
      · have hq := hq.2 c11
        refine ck_iconst (v := 1) dX12_wholeBy_52 (by decide) ?_
        refine ck_iload_n 3 dX12_wholeBy_53 rfl rfl ?_
        refine ck_ishl dX12_wholeBy_54 ?_
        refine ck_goto (tgt := 59) dX12_wholeBy_55 (by decide) ?_
        refine ck_loc [0, 1, 3] rfl ?_
        exact cp_X12_wholeBy_59 hKc _ _ _ _ _ hq
set_option maxHeartbeats 4000000 in
set_option maxRecDepth 100000 in
theorem c_X12_wholeBy {gr : Bool} {x1 : Int32} {h : ck_H} {Q : Int32 → ck_H → Prop} (hq : wp_X12_wholeBy x1 h Q) : ck_M yX12_wholeBy cX12_wholeBy 4 (some .int) 8 0 0 gr ck_shM h [.ref 0, .int x1] (ck_Qi ck_shM Q) := by
  refine ck_entry (lv := [(0, .ref 0), (1, .int x1)]) false (own := RX12) rfl (fun q => by cases q) (by decide) (Nat.le_of_ble_eq_true rfl) rfl ?_
  refine ck_aload_n 0 dX12_wholeBy_0 rfl rfl ?_
  refine ck_iconst (v := 0) dX12_wholeBy_1 (by decide) ?_
  refine ck_putI clX12 0 rfl rfl (by decide) fl_X12_145 rfl rfl rfl dX12_wholeBy_2 ?_
  refine ck_nmH (fun h1 eh1 => ?_)
  have hq := hq h1 eh1
  refine ck_aload_n 0 dX12_wholeBy_5 rfl rfl ?_
  refine ck_iload_n 1 dX12_wholeBy_6 rfl rfl ?_
  refine ck_callV (c_X12_isOpenSuit hq) rfl cal_X12_isOpenSuit rfl ml_X12_465 vir_X12_isOpenSuit rfl rfl (by decide) (Nat.le_of_ble_eq_true rfl) (Nat.le_of_ble_eq_true rfl) (by decide) (by decide) dX12_wholeBy_7 ?_
  rintro _ _ h2 ⟨r3, rfl, rfl, hq⟩
  refine ck_if_ne (tgt := 15) dX12_wholeBy_10 (by decide) (fun c4 => ?_) (fun c4 => ?_)
  · have hq := hq.1 c4
    refine ck_iconst (v := 0) dX12_wholeBy_15 (by decide) ?_
    refine ck_istore_n (lv' := [(2, .int (0 : Int32)), (0, .ref 0), (1, .int x1)]) dX12_wholeBy_16 rfl (by decide) rfl ?_
    refine ck_iconst (v := 0) dX12_wholeBy_17 (by decide) ?_
    refine ck_istore_n (lv' := [(3, .int (0 : Int32)), (2, .int (0 : Int32)), (0, .ref 0), (1, .int x1)]) dX12_wholeBy_18 rfl (by decide) rfl ?_
    refine ck_loc [2, 3, 1, 0] rfl ?_
    refine cp_X12_wholeBy_19 lpN _ _ _ _ hq
  · have hq := hq.2 c4
    refine ck_iconst (v := -1) dX12_wholeBy_13 (by decide) ?_
    exact ck_iret rfl rfl rfl rfl dX12_wholeBy_14 ⟨_, rfl, rfl, hq⟩
def wp_X12_docket_59 (Q : Int32 → ck_H → Prop) (Kc : Int32 → Int32 → Int32 → ck_H → Prop) (x1 : Int32) (x3 : Int32) (y0 : Int32) (y1 : Int32) (h : ck_H) : Prop := (∀ v8, v8 = (y0 ||| y1) → (∀ v9, v9 = x3 + 1 → Kc x1 v8 v9 h))
def wp_X12_docket_58 (Q : Int32 → ck_H → Prop) (Kc : Int32 → Int32 → Int32 → ck_H → Prop) (x1 : Int32) (x3 : Int32) (y0 : Int32) (h : ck_H) : Prop := wp_X12_docket_59 Q Kc x1 x3 y0 (0 : Int32) h
def wp_X12_docket_22 (Q : Int32 → ck_H → Prop) : Nat → Int32 → Int32 → Int32 → ck_H → Prop
  | 0 => fun _ _ _ _ => False
  | n + 1 => fun x1 x2 x3 h => (((h.1 2 2) ≤ x3 → Q x2 h) ∧ (¬ (h.1 2 2) ≤ x3 → (wp_X12_isOpen (0 : Int32) x3 h (fun r6 h5 => ((r6 = 0 → wp_X12_docket_58 Q (wp_X12_docket_22 Q n) x1 x3 x2 h5) ∧ (¬ r6 = 0 → (vp_in x3 230 ∧ ((¬ (h5.1 27 x3.toNatClampNeg) = x1 → wp_X12_docket_58 Q (wp_X12_docket_22 Q n) x1 x3 x2 h5) ∧ ((h5.1 27 x3.toNatClampNeg) = x1 → wp_X12_docket_59 Q (wp_X12_docket_22 Q n) x1 x3 x2 ((1 : Int32) <<< (x3 &&& 31)) h5)))))))))
def wp_X12_docket (x1 : Int32) (h : ck_H) (Q : Int32 → ck_H → Prop) : Prop := (∀ h1, h1 = ck_sI h 0 0 (0 : Int32) → ((x1 < 0 → Q (-1 : Int32) h1) ∧ (¬ x1 < 0 → ((x1 ≤ (9999 : Int32) → wp_X12_docket_22 Q lpN x1 (0 : Int32) (0 : Int32) h1) ∧ (¬ x1 ≤ (9999 : Int32) → Q (-1 : Int32) h1)))))
set_option maxHeartbeats 4000000 in
set_option maxRecDepth 100000 in
theorem cp_X12_docket_59 {gr : Bool} {Q : Int32 → ck_H → Prop} {Kc : Int32 → Int32 → Int32 → ck_H → Prop} (hKc : ∀ (x1 : Int32) (x2 : Int32) (x3 : Int32) (h : ck_H), Kc x1 x2 x3 h → ck_W cX12_docket 4 RX12 (some .int) 3 0 0 false gr (ck_Qi ck_shM Q) ck_shM h 0 0 22 [(0, .ref 0), (1, .int x1), (2, .int x2), (3, .int x3)] []) : ∀ (x1 : Int32) (x3 : Int32) (y0 : Int32) (y1 : Int32) (h : ck_H), wp_X12_docket_59 Q Kc x1 x3 y0 y1 h → ck_W cX12_docket 4 RX12 (some .int) 3 0 0 false gr (ck_Qi ck_shM Q) ck_shM h 0 0 59 [(0, .ref 0), (1, .int x1), (3, .int x3)] [.int y1, .int y0] := by
  intro x1 x3 y0 y1 h hq
  refine ck_ior dX12_docket_59 ?_
  refine ck_nmI (fun v8 ev8 => ?_)
  have hq := hq v8 ev8
  refine ck_istore_n (lv' := [(2, .int v8), (0, .ref 0), (1, .int x1), (3, .int x3)]) dX12_docket_60 rfl (by decide) rfl ?_
  obtain ⟨v9, ev9⟩ : ∃ z : Int32, z = x3 + 1 := ⟨_, rfl⟩
  have hq := hq v9 ev9
  refine ck_iinc (v := v9) (lv' := [(3, .int v9), (2, .int v8), (0, .ref 0), (1, .int x1)]) 3 dX12_docket_61 rfl (by rw [ev9]; rfl) (by decide) rfl ?_
  refine ck_goto (tgt := 22) dX12_docket_64 (by decide) ?_
  refine ck_loc [2, 3, 1, 0] rfl ?_
  exact hKc _ _ _ _ hq
set_option maxHeartbeats 4000000 in
set_option maxRecDepth 100000 in
theorem cp_X12_docket_58 {gr : Bool} {Q : Int32 → ck_H → Prop} {Kc : Int32 → Int32 → Int32 → ck_H → Prop} (hKc : ∀ (x1 : Int32) (x2 : Int32) (x3 : Int32) (h : ck_H), Kc x1 x2 x3 h → ck_W cX12_docket 4 RX12 (some .int) 3 0 0 false gr (ck_Qi ck_shM Q) ck_shM h 0 0 22 [(0, .ref 0), (1, .int x1), (2, .int x2), (3, .int x3)] []) : ∀ (x1 : Int32) (x3 : Int32) (y0 : Int32) (h : ck_H), wp_X12_docket_58 Q Kc x1 x3 y0 h → ck_W cX12_docket 4 RX12 (some .int) 3 0 0 false gr (ck_Qi ck_shM Q) ck_shM h 0 0 58 [(0, .ref 0), (1, .int x1), (3, .int x3)] [.int y0] := by
  intro x1 x3 y0 h hq
  refine ck_iconst (v := 0) dX12_docket_58 (by decide) ?_
  exact cp_X12_docket_59 hKc _ _ _ _ _ hq
set_option maxHeartbeats 4000000 in
set_option maxRecDepth 100000 in
theorem cp_X12_docket_22 {gr : Bool} {Q : Int32 → ck_H → Prop} : ∀ (n : Nat) (x1 : Int32) (x2 : Int32) (x3 : Int32) (h : ck_H), wp_X12_docket_22 Q n x1 x2 x3 h → ck_W cX12_docket 4 RX12 (some .int) 3 0 0 false gr (ck_Qi ck_shM Q) ck_shM h 0 0 22 [(0, .ref 0), (1, .int x1), (2, .int x2), (3, .int x3)] [] := by
  intro n
  induction n with
  | zero => intro x1 x2 x3 h hq; exact hq.elim
  | succ n hKc =>
    intro x1 x2 x3 h hq
    refine ck_iload_n 3 dX12_docket_22 rfl rfl ?_
    refine ck_aload_n 0 dX12_docket_23 rfl rfl ?_
    refine ck_getR clX12 3 rfl rfl (by decide) fl_X12_13 dX12_docket_24 ?_
    refine ck_iconst (v := 2) dX12_docket_27 (by decide) ?_
    refine ck_iald (j := 2) (by decide) rfl (ck_inL (by decide)) dX12_docket_28 ?_
    refine ck_icmp_ge (tgt := 67) dX12_docket_29 (by decide) (fun c4 => ?_) (fun c4 => ?_)
    · have hq := hq.1 c4
      refine ck_iload_n 2 dX12_docket_67 rfl rfl ?_
      exact ck_iret rfl rfl rfl rfl dX12_docket_68 ⟨_, rfl, rfl, hq⟩
    · have hq := hq.2 c4
      refine ck_iload_n 2 dX12_docket_32 rfl rfl ?_
      refine ck_aload_n 0 dX12_docket_33 rfl rfl ?_
      refine ck_iconst (v := 0) dX12_docket_34 (by decide) ?_
      refine ck_iload_n 3 dX12_docket_35 rfl rfl ?_
      refine ck_callV (c_X12_isOpen hq) rfl cal_X12_isOpen rfl ml_X12_379 vir_X12_isOpen rfl rfl (by decide) (Nat.le_of_ble_eq_true rfl) (Nat.le_of_ble_eq_true rfl) (by decide) (by decide) dX12_docket_36 ?_
      rintro _ _ h5 ⟨r6, rfl, rfl, hq⟩
      refine ck_if_eq (tgt := 58) dX12_docket_39 (by decide) (fun c7 => ?_) (fun c7 => ?_)
      · have hq := hq.1 c7
        refine ck_loc [0, 1, 3] rfl ?_
        exact cp_X12_docket_58 hKc _ _ _ _ hq
      · have hq := hq.2 c7
        refine ck_aload_n 0 dX12_docket_42 rfl rfl ?_
        refine ck_getR clX12 42 rfl rfl (by decide) fl_X12_93 dX12_docket_43 ?_
        refine ck_iload_n 3 dX12_docket_46 rfl rfl ?_
        obtain ⟨b10, hq⟩ := hq
        refine ck_iald rfl rfl b10 dX12_docket_47 ?_
        refine ck_iload_n 1 dX12_docket_48 rfl rfl ?_
        refine ck_icmp_ne (tgt := 58) dX12_docket_49 (by decide) (fun c11 => ?_) (fun c11 => ?_)
        · have hq := hq.1 c11
          refine ck_loc [0, 1, 3] rfl ?_
          exact cp_X12_docket_58 hKc _ _ _ _ hq
        · have hq := hq.2 c11
          refine ck_iconst (v := 1) dX12_docket_52 (by decide) ?_
          refine ck_iload_n 3 dX12_docket_53 rfl rfl ?_
          refine ck_ishl dX12_docket_54 ?_
          refine ck_goto (tgt := 59) dX12_docket_55 (by decide) ?_
          refine ck_loc [0, 1, 3] rfl ?_
          exact cp_X12_docket_59 hKc _ _ _ _ _ hq
set_option maxHeartbeats 4000000 in
set_option maxRecDepth 100000 in
theorem c_X12_docket {gr : Bool} {x1 : Int32} {h : ck_H} {Q : Int32 → ck_H → Prop} (hq : wp_X12_docket x1 h Q) : ck_M yX12_docket cX12_docket 4 (some .int) 3 0 0 gr ck_shM h [.ref 0, .int x1] (ck_Qi ck_shM Q) := by
  refine ck_entry (lv := [(0, .ref 0), (1, .int x1)]) false (own := RX12) rfl (fun q => by cases q) (by decide) (Nat.le_of_ble_eq_true rfl) rfl ?_
  refine ck_aload_n 0 dX12_docket_0 rfl rfl ?_
  refine ck_iconst (v := 0) dX12_docket_1 (by decide) ?_
  refine ck_putI clX12 0 rfl rfl (by decide) fl_X12_145 rfl rfl rfl dX12_docket_2 ?_
  refine ck_nmH (fun h1 eh1 => ?_)
  have hq := hq h1 eh1
  refine ck_iload_n 1 dX12_docket_5 rfl rfl ?_
  refine ck_if_lt (tgt := 16) dX12_docket_6 (by decide) (fun c2 => ?_) (fun c2 => ?_)
  · have hq := hq.1 c2
    refine ck_iconst (v := -1) dX12_docket_16 (by decide) ?_
    exact ck_iret rfl rfl rfl rfl dX12_docket_17 ⟨_, rfl, rfl, hq⟩
  · have hq := hq.2 c2
    refine ck_iload_n 1 dX12_docket_9 rfl rfl ?_
    refine ck_sipush (v := 9999) dX12_docket_10 (by decide) ?_
    refine ck_icmp_le (tgt := 18) dX12_docket_13 (by decide) (fun c3 => ?_) (fun c3 => ?_)
    · have hq := hq.1 c3
      refine ck_iconst (v := 0) dX12_docket_18 (by decide) ?_
      refine ck_istore_n (lv' := [(2, .int (0 : Int32)), (0, .ref 0), (1, .int x1)]) dX12_docket_19 rfl (by decide) rfl ?_
      refine ck_iconst (v := 0) dX12_docket_20 (by decide) ?_
      refine ck_istore_n (lv' := [(3, .int (0 : Int32)), (2, .int (0 : Int32)), (0, .ref 0), (1, .int x1)]) dX12_docket_21 rfl (by decide) rfl ?_
      refine ck_loc [2, 3, 1, 0] rfl ?_
      refine cp_X12_docket_22 lpN _ _ _ _ hq
    · have hq := hq.2 c3
      refine ck_iconst (v := -1) dX12_docket_16 (by decide) ?_
      exact ck_iret rfl rfl rfl rfl dX12_docket_17 ⟨_, rfl, rfl, hq⟩
def wp_X12_note (x1 : Int32) (x2 : Int32) (x3 : Int32) (h : ck_H) (Q : Int32 → ck_H → Prop) : Prop := (∀ h1, h1 = ck_sI h 0 0 (0 : Int32) → (wp_X12_isSuit x1 h1 (fun r3 h2 => ((r3 = 0 → Q (-1 : Int32) h2) ∧ (¬ r3 = 0 → ((x2 < 0 → Q (-1 : Int32) h2) ∧ (¬ x2 < 0 → (((3 : Int32) < x2 → Q (-1 : Int32) h2) ∧ (¬ (3 : Int32) < x2 → ((¬ (h2.1 0 62) = (24 : Int32) → (vp_in (h2.1 0 62) 24 ∧ (∀ h9, h9 = ck_sI h2 35 (h2.1 0 62).toNatClampNeg x1 → (vp_in (h9.1 0 62) 24 ∧ (∀ h11, h11 = ck_sI h9 36 (h9.1 0 62).toNatClampNeg x2 → (vp_in (h11.1 0 62) 24 ∧ (∀ h13, h13 = ck_sI h11 37 (h11.1 0 62).toNatClampNeg (vp_nar .boolean x3) → (vp_in (h13.1 0 62) 24 ∧ (∀ h15, h15 = ck_sI h13 38 (h13.1 0 62).toNatClampNeg (-1 : Int32) → (∀ h16, h16 = ck_sI h15 0 62 ((h15.1 0 62) + (1 : Int32)) → Q ((h16.1 0 62) - (1 : Int32)) h16)))))))))) ∧ ((h2.1 0 62) = (24 : Int32) → Q (-1 : Int32) h2)))))))))))
set_option maxHeartbeats 4000000 in
set_option maxRecDepth 100000 in
theorem c_X12_note {gr : Bool} {x1 : Int32} {x2 : Int32} {x3 : Int32} {h : ck_H} {Q : Int32 → ck_H → Prop} (hq : wp_X12_note x1 x2 x3 h Q) : ck_M yX12_note cX12_note 4 (some .int) 3 0 0 gr ck_shM h [.ref 0, .int x1, .int x2, .int x3] (ck_Qi ck_shM Q) := by
  refine ck_entry (lv := [(0, .ref 0), (1, .int x1), (2, .int x2), (3, .int x3)]) false (own := RX12) rfl (fun q => by cases q) (by decide) (Nat.le_of_ble_eq_true rfl) rfl ?_
  refine ck_aload_n 0 dX12_note_0 rfl rfl ?_
  refine ck_iconst (v := 0) dX12_note_1 (by decide) ?_
  refine ck_putI clX12 0 rfl rfl (by decide) fl_X12_145 rfl rfl rfl dX12_note_2 ?_
  refine ck_nmH (fun h1 eh1 => ?_)
  have hq := hq h1 eh1
  refine ck_aload_n 0 dX12_note_5 rfl rfl ?_
  refine ck_iload_n 1 dX12_note_6 rfl rfl ?_
  refine ck_callV (c_X12_isSuit hq) rfl cal_X12_isSuit rfl ml_X12_401 vir_X12_isSuit rfl rfl (by decide) (Nat.le_of_ble_eq_true rfl) (Nat.le_of_ble_eq_true rfl) (by decide) (by decide) dX12_note_7 ?_
  rintro _ _ h2 ⟨r3, rfl, rfl, hq⟩
  refine ck_if_eq (tgt := 31) dX12_note_10 (by decide) (fun c4 => ?_) (fun c4 => ?_)
  · have hq := hq.1 c4
    refine ck_iconst (v := -1) dX12_note_31 (by decide) ?_
    exact ck_iret rfl rfl rfl rfl dX12_note_32 ⟨_, rfl, rfl, hq⟩
  · have hq := hq.2 c4
    refine ck_iload_n 2 dX12_note_13 rfl rfl ?_
    refine ck_if_lt (tgt := 31) dX12_note_14 (by decide) (fun c5 => ?_) (fun c5 => ?_)
    · have hq := hq.1 c5
      refine ck_iconst (v := -1) dX12_note_31 (by decide) ?_
      exact ck_iret rfl rfl rfl rfl dX12_note_32 ⟨_, rfl, rfl, hq⟩
    · have hq := hq.2 c5
      refine ck_iload_n 2 dX12_note_17 rfl rfl ?_
      refine ck_iconst (v := 3) dX12_note_18 (by decide) ?_
      refine ck_icmp_gt (tgt := 31) dX12_note_19 (by decide) (fun c6 => ?_) (fun c6 => ?_)
      · have hq := hq.1 c6
        refine ck_iconst (v := -1) dX12_note_31 (by decide) ?_
        exact ck_iret rfl rfl rfl rfl dX12_note_32 ⟨_, rfl, rfl, hq⟩
      · have hq := hq.2 c6
        refine ck_aload_n 0 dX12_note_22 rfl rfl ?_
        refine ck_getI clX12 62 rfl rfl (by decide) fl_X12_295 dX12_note_23 ?_
        refine ck_bipush (v := 24) dX12_note_26 (by decide) ?_
        refine ck_icmp_ne (tgt := 33) dX12_note_28 (by decide) (fun c7 => ?_) (fun c7 => ?_)
        · have hq := hq.1 c7
          refine ck_aload_n 0 dX12_note_33 rfl rfl ?_
          refine ck_getR clX12 64 rfl rfl (by decide) fl_X12_126 dX12_note_34 ?_
          refine ck_aload_n 0 dX12_note_37 rfl rfl ?_
          refine ck_getI clX12 62 rfl rfl (by decide) fl_X12_295 dX12_note_38 ?_
          refine ck_iload_n 1 dX12_note_41 rfl rfl ?_
          obtain ⟨b8, hq⟩ := hq
          refine ck_iast rfl rfl b8 dX12_note_42 ?_
          refine ck_nmH (fun h9 eh9 => ?_)
          have hq := hq h9 eh9
          refine ck_aload_n 0 dX12_note_43 rfl rfl ?_
          refine ck_getR clX12 65 rfl rfl (by decide) fl_X12_129 dX12_note_44 ?_
          refine ck_aload_n 0 dX12_note_47 rfl rfl ?_
          refine ck_getI clX12 62 rfl rfl (by decide) fl_X12_295 dX12_note_48 ?_
          refine ck_iload_n 2 dX12_note_51 rfl rfl ?_
          obtain ⟨b10, hq⟩ := hq
          refine ck_iast rfl rfl b10 dX12_note_52 ?_
          refine ck_nmH (fun h11 eh11 => ?_)
          have hq := hq h11 eh11
          refine ck_aload_n 0 dX12_note_53 rfl rfl ?_
          refine ck_getR clX12 66 rfl rfl (by decide) fl_X12_132 dX12_note_54 ?_
          refine ck_aload_n 0 dX12_note_57 rfl rfl ?_
          refine ck_getI clX12 62 rfl rfl (by decide) fl_X12_295 dX12_note_58 ?_
          refine ck_iload_n 3 dX12_note_61 rfl rfl ?_
          obtain ⟨b12, hq⟩ := hq
          refine ck_zast rfl rfl b12 dX12_note_62 ?_
          refine ck_nmH (fun h13 eh13 => ?_)
          have hq := hq h13 eh13
          refine ck_aload_n 0 dX12_note_63 rfl rfl ?_
          refine ck_getR clX12 67 rfl rfl (by decide) fl_X12_136 dX12_note_64 ?_
          refine ck_aload_n 0 dX12_note_67 rfl rfl ?_
          refine ck_getI clX12 62 rfl rfl (by decide) fl_X12_295 dX12_note_68 ?_
          refine ck_iconst (v := -1) dX12_note_71 (by decide) ?_
          obtain ⟨b14, hq⟩ := hq
          refine ck_iast rfl rfl b14 dX12_note_72 ?_
          refine ck_nmH (fun h15 eh15 => ?_)
          have hq := hq h15 eh15
          refine ck_aload_n 0 dX12_note_73 rfl rfl ?_
          refine ck_dup dX12_note_74 rfl ?_
          refine ck_getI clX12 62 rfl rfl (by decide) fl_X12_295 dX12_note_75 ?_
          refine ck_iconst (v := 1) dX12_note_78 (by decide) ?_
          refine ck_iadd dX12_note_79 ?_
          refine ck_putI clX12 62 rfl rfl (by decide) fl_X12_295 rfl rfl rfl dX12_note_80 ?_
          refine ck_nmH (fun h16 eh16 => ?_)
          have hq := hq h16 eh16
          refine ck_aload_n 0 dX12_note_83 rfl rfl ?_
          refine ck_getI clX12 62 rfl rfl (by decide) fl_X12_295 dX12_note_84 ?_
          refine ck_iconst (v := 1) dX12_note_87 (by decide) ?_
          refine ck_isub dX12_note_88 ?_
          exact ck_iret rfl rfl rfl rfl dX12_note_89 ⟨_, rfl, rfl, hq⟩
        · have hq := hq.2 c7
          refine ck_iconst (v := -1) dX12_note_31 (by decide) ?_
          exact ck_iret rfl rfl rfl rfl dX12_note_32 ⟨_, rfl, rfl, hq⟩
def wp_X12_out (x1 : Int32) (h : ck_H) (Q : Int32 → ck_H → Prop) : Prop := (∀ h1, h1 = ck_sI h 0 0 (0 : Int32) → ((x1 < 0 → Q (-1 : Int32) h1) ∧ (¬ x1 < 0 → (((h1.1 0 62) ≤ x1 → Q (-1 : Int32) h1) ∧ (¬ (h1.1 0 62) ≤ x1 → ((¬ (h1.1 0 62) = (24 : Int32) → (vp_in (h1.1 0 62) 24 ∧ (∀ h6, h6 = ck_sI h1 38 (h1.1 0 62).toNatClampNeg x1 → (∀ h7, h7 = ck_sI h6 0 62 ((h6.1 0 62) + (1 : Int32)) → Q ((h7.1 0 62) - (1 : Int32)) h7)))) ∧ ((h1.1 0 62) = (24 : Int32) → Q (-1 : Int32) h1)))))))
set_option maxHeartbeats 4000000 in
set_option maxRecDepth 100000 in
theorem c_X12_out {gr : Bool} {x1 : Int32} {h : ck_H} {Q : Int32 → ck_H → Prop} (hq : wp_X12_out x1 h Q) : ck_M yX12_out cX12_out 2 (some .int) 2 0 0 gr ck_shM h [.ref 0, .int x1] (ck_Qi ck_shM Q) := by
  refine ck_entry (lv := [(0, .ref 0), (1, .int x1)]) false (own := RX12) rfl (fun q => by cases q) (by decide) (Nat.le_of_ble_eq_true rfl) rfl ?_
  refine ck_aload_n 0 dX12_out_0 rfl rfl ?_
  refine ck_iconst (v := 0) dX12_out_1 (by decide) ?_
  refine ck_putI clX12 0 rfl rfl (by decide) fl_X12_145 rfl rfl rfl dX12_out_2 ?_
  refine ck_nmH (fun h1 eh1 => ?_)
  have hq := hq h1 eh1
  refine ck_iload_n 1 dX12_out_5 rfl rfl ?_
  refine ck_if_lt (tgt := 26) dX12_out_6 (by decide) (fun c2 => ?_) (fun c2 => ?_)
  · have hq := hq.1 c2
    refine ck_iconst (v := -1) dX12_out_26 (by decide) ?_
    exact ck_iret rfl rfl rfl rfl dX12_out_27 ⟨_, rfl, rfl, hq⟩
  · have hq := hq.2 c2
    refine ck_iload_n 1 dX12_out_9 rfl rfl ?_
    refine ck_aload_n 0 dX12_out_10 rfl rfl ?_
    refine ck_getI clX12 62 rfl rfl (by decide) fl_X12_295 dX12_out_11 ?_
    refine ck_icmp_ge (tgt := 26) dX12_out_14 (by decide) (fun c3 => ?_) (fun c3 => ?_)
    · have hq := hq.1 c3
      refine ck_iconst (v := -1) dX12_out_26 (by decide) ?_
      exact ck_iret rfl rfl rfl rfl dX12_out_27 ⟨_, rfl, rfl, hq⟩
    · have hq := hq.2 c3
      refine ck_aload_n 0 dX12_out_17 rfl rfl ?_
      refine ck_getI clX12 62 rfl rfl (by decide) fl_X12_295 dX12_out_18 ?_
      refine ck_bipush (v := 24) dX12_out_21 (by decide) ?_
      refine ck_icmp_ne (tgt := 28) dX12_out_23 (by decide) (fun c4 => ?_) (fun c4 => ?_)
      · have hq := hq.1 c4
        refine ck_aload_n 0 dX12_out_28 rfl rfl ?_
        refine ck_getR clX12 67 rfl rfl (by decide) fl_X12_136 dX12_out_29 ?_
        refine ck_aload_n 0 dX12_out_32 rfl rfl ?_
        refine ck_getI clX12 62 rfl rfl (by decide) fl_X12_295 dX12_out_33 ?_
        refine ck_iload_n 1 dX12_out_36 rfl rfl ?_
        obtain ⟨b5, hq⟩ := hq
        refine ck_iast rfl rfl b5 dX12_out_37 ?_
        refine ck_nmH (fun h6 eh6 => ?_)
        have hq := hq h6 eh6
        refine ck_aload_n 0 dX12_out_38 rfl rfl ?_
        refine ck_dup dX12_out_39 rfl ?_
        refine ck_getI clX12 62 rfl rfl (by decide) fl_X12_295 dX12_out_40 ?_
        refine ck_iconst (v := 1) dX12_out_43 (by decide) ?_
        refine ck_iadd dX12_out_44 ?_
        refine ck_putI clX12 62 rfl rfl (by decide) fl_X12_295 rfl rfl rfl dX12_out_45 ?_
        refine ck_nmH (fun h7 eh7 => ?_)
        have hq := hq h7 eh7
        refine ck_aload_n 0 dX12_out_48 rfl rfl ?_
        refine ck_getI clX12 62 rfl rfl (by decide) fl_X12_295 dX12_out_49 ?_
        refine ck_iconst (v := 1) dX12_out_52 (by decide) ?_
        refine ck_isub dX12_out_53 ?_
        exact ck_iret rfl rfl rfl rfl dX12_out_54 ⟨_, rfl, rfl, hq⟩
      · have hq := hq.2 c4
        refine ck_iconst (v := -1) dX12_out_26 (by decide) ?_
        exact ck_iret rfl rfl rfl rfl dX12_out_27 ⟨_, rfl, rfl, hq⟩
