theorem dX3_init_0 : decode cX3_init 0 = .ok (.aload_n 0, 1) := by decide +kernel
theorem dX3_init_1 : decode cX3_init 1 = .ok (.invokespecial 3, 3) := by decide +kernel
theorem dX3_init_4 : decode cX3_init 4 = .ok (.aload_n 0, 1) := by decide +kernel
theorem dX3_init_5 : decode cX3_init 5 = .ok (.bipush 72, 2) := by decide +kernel
theorem dX3_init_7 : decode cX3_init 7 = .ok (.newarray .int, 2) := by decide +kernel
theorem dX3_init_9 : decode cX3_init 9 = .ok (.putfield 9, 3) := by decide +kernel
theorem dX3_init_12 : decode cX3_init 12 = .ok (.aload_n 0, 1) := by decide +kernel
theorem dX3_init_13 : decode cX3_init 13 = .ok (.aload_n 1, 1) := by decide +kernel
theorem dX3_init_14 : decode cX3_init 14 = .ok (.putfield 15, 3) := by decide +kernel
theorem dX3_init_17 : decode cX3_init 17 = .ok (.return_, 1) := by decide +kernel
theorem dX3_readInto_0 : decode cX3_readInto 0 = .ok (.aload_n 0, 1) := by decide +kernel
theorem dX3_readInto_1 : decode cX3_readInto 1 = .ok (.iconst 0, 1) := by decide +kernel
theorem dX3_readInto_2 : decode cX3_readInto 2 = .ok (.putfield 19, 3) := by decide +kernel
theorem dX3_readInto_5 : decode cX3_readInto 5 = .ok (.aload_n 0, 1) := by decide +kernel
theorem dX3_readInto_6 : decode cX3_readInto 6 = .ok (.iconst 0, 1) := by decide +kernel
theorem dX3_readInto_7 : decode cX3_readInto 7 = .ok (.putfield 23, 3) := by decide +kernel
theorem dX3_readInto_10 : decode cX3_readInto 10 = .ok (.aload_n 0, 1) := by decide +kernel
theorem dX3_readInto_11 : decode cX3_readInto 11 = .ok (.aload_n 1, 1) := by decide +kernel
theorem dX3_readInto_12 : decode cX3_readInto 12 = .ok (.getfield 26, 3) := by decide +kernel
theorem dX3_readInto_15 : decode cX3_readInto 15 = .ok (.putfield 31, 3) := by decide +kernel
theorem dX3_readInto_18 : decode cX3_readInto 18 = .ok (.aload_n 0, 1) := by decide +kernel
theorem dX3_readInto_19 : decode cX3_readInto 19 = .ok (.iconst 1, 1) := by decide +kernel
theorem dX3_readInto_20 : decode cX3_readInto 20 = .ok (.putfield 34, 3) := by decide +kernel
theorem dX3_readInto_23 : decode cX3_readInto 23 = .ok (.aload_n 1, 1) := by decide +kernel
theorem dX3_readInto_24 : decode cX3_readInto 24 = .ok (.getfield 38, 3) := by decide +kernel
theorem dX3_readInto_27 : decode cX3_readInto 27 = .ok (.iload_n 2, 1) := by decide +kernel
theorem dX3_readInto_28 : decode cX3_readInto 28 = .ok (.aload_n 1, 1) := by decide +kernel
theorem dX3_readInto_29 : decode cX3_readInto 29 = .ok (.getfield 26, 3) := by decide +kernel
theorem dX3_readInto_32 : decode cX3_readInto 32 = .ok (.iastore, 1) := by decide +kernel
theorem dX3_readInto_33 : decode cX3_readInto 33 = .ok (.iconst 0, 1) := by decide +kernel
theorem dX3_readInto_34 : decode cX3_readInto 34 = .ok (.istore_n 3, 1) := by decide +kernel
theorem dX3_readInto_35 : decode cX3_readInto 35 = .ok (.iconst 0, 1) := by decide +kernel
theorem dX3_readInto_36 : decode cX3_readInto 36 = .ok (.istore 4, 2) := by decide +kernel
theorem dX3_readInto_38 : decode cX3_readInto 38 = .ok (.iload 4, 2) := by decide +kernel
theorem dX3_readInto_40 : decode cX3_readInto 40 = .ok (.sipush 700, 3) := by decide +kernel
theorem dX3_readInto_43 : decode cX3_readInto 43 = .ok (.if_icmp .ge 59, 3) := by decide +kernel
theorem dX3_readInto_46 : decode cX3_readInto 46 = .ok (.iload_n 3, 1) := by decide +kernel
theorem dX3_readInto_47 : decode cX3_readInto 47 = .ok (.ifCond .ne 55, 3) := by decide +kernel
theorem dX3_readInto_50 : decode cX3_readInto 50 = .ok (.aload_n 0, 1) := by decide +kernel
theorem dX3_readInto_51 : decode cX3_readInto 51 = .ok (.getfield 34, 3) := by decide +kernel
theorem dX3_readInto_54 : decode cX3_readInto 54 = .ok (.ifCond .ne 10, 3) := by decide +kernel
theorem dX3_readInto_57 : decode cX3_readInto 57 = .ok (.aload_n 0, 1) := by decide +kernel
theorem dX3_readInto_58 : decode cX3_readInto 58 = .ok (.invokevirtual 41, 3) := by decide +kernel
theorem dX3_readInto_61 : decode cX3_readInto 61 = .ok (.ifCond .eq 41, 3) := by decide +kernel
theorem dX3_readInto_64 : decode cX3_readInto 64 = .ok (.aload_n 0, 1) := by decide +kernel
theorem dX3_readInto_65 : decode cX3_readInto 65 = .ok (.getfield 34, 3) := by decide +kernel
theorem dX3_readInto_68 : decode cX3_readInto 68 = .ok (.ifCond .eq 11, 3) := by decide +kernel
theorem dX3_readInto_71 : decode cX3_readInto 71 = .ok (.aload_n 0, 1) := by decide +kernel
theorem dX3_readInto_72 : decode cX3_readInto 72 = .ok (.aload_n 1, 1) := by decide +kernel
theorem dX3_readInto_73 : decode cX3_readInto 73 = .ok (.invokevirtual 45, 3) := by decide +kernel
theorem dX3_readInto_76 : decode cX3_readInto 76 = .ok (.goto 8, 3) := by decide +kernel
theorem dX3_readInto_79 : decode cX3_readInto 79 = .ok (.aload_n 0, 1) := by decide +kernel
theorem dX3_readInto_80 : decode cX3_readInto 80 = .ok (.aload_n 1, 1) := by decide +kernel
theorem dX3_readInto_81 : decode cX3_readInto 81 = .ok (.invokevirtual 49, 3) := by decide +kernel
theorem dX3_readInto_84 : decode cX3_readInto 84 = .ok (.istore_n 3, 1) := by decide +kernel
theorem dX3_readInto_85 : decode cX3_readInto 85 = .ok (.iload_n 3, 1) := by decide +kernel
theorem dX3_readInto_86 : decode cX3_readInto 86 = .ok (.ifCond .ne 10, 3) := by decide +kernel
theorem dX3_readInto_89 : decode cX3_readInto 89 = .ok (.aload_n 0, 1) := by decide +kernel
theorem dX3_readInto_90 : decode cX3_readInto 90 = .ok (.getfield 15, 3) := by decide +kernel
theorem dX3_readInto_93 : decode cX3_readInto 93 = .ok (.invokevirtual 52, 3) := by decide +kernel
theorem dX3_readInto_96 : decode cX3_readInto 96 = .ok (.iinc 4 1, 3) := by decide +kernel
theorem dX3_readInto_99 : decode cX3_readInto 99 = .ok (.goto (-61), 3) := by decide +kernel
theorem dX3_readInto_102 : decode cX3_readInto 102 = .ok (.iload_n 3, 1) := by decide +kernel
theorem dX3_readInto_103 : decode cX3_readInto 103 = .ok (.ifCond .ne 12, 3) := by decide +kernel
theorem dX3_readInto_106 : decode cX3_readInto 106 = .ok (.aload_n 0, 1) := by decide +kernel
theorem dX3_readInto_107 : decode cX3_readInto 107 = .ok (.getfield 23, 3) := by decide +kernel
theorem dX3_readInto_110 : decode cX3_readInto 110 = .ok (.ifCond .le 5, 3) := by decide +kernel
theorem dX3_readInto_113 : decode cX3_readInto 113 = .ok (.iconst 1, 1) := by decide +kernel
theorem dX3_readInto_114 : decode cX3_readInto 114 = .ok (.istore_n 3, 1) := by decide +kernel
theorem dX3_readInto_115 : decode cX3_readInto 115 = .ok (.aload_n 0, 1) := by decide +kernel
theorem dX3_readInto_116 : decode cX3_readInto 116 = .ok (.aload_n 1, 1) := by decide +kernel
theorem dX3_readInto_117 : decode cX3_readInto 117 = .ok (.bipush 29, 2) := by decide +kernel
theorem dX3_readInto_119 : decode cX3_readInto 119 = .ok (.invokestatic 57, 3) := by decide +kernel
theorem dX3_readInto_122 : decode cX3_readInto 122 = .ok (.invokevirtual 61, 3) := by decide +kernel
theorem dX3_readInto_125 : decode cX3_readInto 125 = .ok (.aload_n 1, 1) := by decide +kernel
theorem dX3_readInto_126 : decode cX3_readInto 126 = .ok (.getfield 65, 3) := by decide +kernel
theorem dX3_readInto_129 : decode cX3_readInto 129 = .ok (.iload_n 2, 1) := by decide +kernel
theorem dX3_readInto_130 : decode cX3_readInto 130 = .ok (.aload_n 1, 1) := by decide +kernel
theorem dX3_readInto_131 : decode cX3_readInto 131 = .ok (.getfield 26, 3) := by decide +kernel
theorem dX3_readInto_134 : decode cX3_readInto 134 = .ok (.iastore, 1) := by decide +kernel
theorem dX3_readInto_135 : decode cX3_readInto 135 = .ok (.iload_n 3, 1) := by decide +kernel
theorem dX3_readInto_136 : decode cX3_readInto 136 = .ok (.ireturn, 1) := by decide +kernel
theorem dX3_goesOn_0 : decode cX3_goesOn 0 = .ok (.aload_n 0, 1) := by decide +kernel
theorem dX3_goesOn_1 : decode cX3_goesOn 1 = .ok (.getfield 15, 3) := by decide +kernel
theorem dX3_goesOn_4 : decode cX3_goesOn 4 = .ok (.getfield 68, 3) := by decide +kernel
theorem dX3_goesOn_7 : decode cX3_goesOn 7 = .ok (.bipush 6, 2) := by decide +kernel
theorem dX3_goesOn_9 : decode cX3_goesOn 9 = .ok (.if_icmp .ne 18, 3) := by decide +kernel
theorem dX3_goesOn_12 : decode cX3_goesOn 12 = .ok (.aload_n 0, 1) := by decide +kernel
theorem dX3_goesOn_13 : decode cX3_goesOn 13 = .ok (.getfield 23, 3) := by decide +kernel
theorem dX3_goesOn_16 : decode cX3_goesOn 16 = .ok (.ifCond .le 7, 3) := by decide +kernel
theorem dX3_goesOn_19 : decode cX3_goesOn 19 = .ok (.iconst 1, 1) := by decide +kernel
theorem dX3_goesOn_20 : decode cX3_goesOn 20 = .ok (.goto 37, 3) := by decide +kernel
theorem dX3_goesOn_23 : decode cX3_goesOn 23 = .ok (.iconst 0, 1) := by decide +kernel
theorem dX3_goesOn_24 : decode cX3_goesOn 24 = .ok (.goto 33, 3) := by decide +kernel
theorem dX3_goesOn_27 : decode cX3_goesOn 27 = .ok (.aload_n 0, 1) := by decide +kernel
theorem dX3_goesOn_28 : decode cX3_goesOn 28 = .ok (.getfield 15, 3) := by decide +kernel
theorem dX3_goesOn_31 : decode cX3_goesOn 31 = .ok (.getfield 68, 3) := by decide +kernel
theorem dX3_goesOn_34 : decode cX3_goesOn 34 = .ok (.bipush 31, 2) := by decide +kernel
theorem dX3_goesOn_36 : decode cX3_goesOn 36 = .ok (.if_icmp .eq 20, 3) := by decide +kernel
theorem dX3_goesOn_39 : decode cX3_goesOn 39 = .ok (.aload_n 0, 1) := by decide +kernel
theorem dX3_goesOn_40 : decode cX3_goesOn 40 = .ok (.getfield 15, 3) := by decide +kernel
theorem dX3_goesOn_43 : decode cX3_goesOn 43 = .ok (.getfield 68, 3) := by decide +kernel
theorem dX3_goesOn_46 : decode cX3_goesOn 46 = .ok (.invokestatic 57, 3) := by decide +kernel
theorem dX3_goesOn_49 : decode cX3_goesOn 49 = .ok (.ifCond .le 7, 3) := by decide +kernel
theorem dX3_goesOn_52 : decode cX3_goesOn 52 = .ok (.iconst 1, 1) := by decide +kernel
theorem dX3_goesOn_53 : decode cX3_goesOn 53 = .ok (.goto 4, 3) := by decide +kernel
theorem dX3_goesOn_56 : decode cX3_goesOn 56 = .ok (.iconst 0, 1) := by decide +kernel
theorem dX3_goesOn_57 : decode cX3_goesOn 57 = .ok (.ireturn, 1) := by decide +kernel
theorem dX3_takeSide_0 : decode cX3_takeSide 0 = .ok (.aload_n 0, 1) := by decide +kernel
theorem dX3_takeSide_1 : decode cX3_takeSide 1 = .ok (.getfield 15, 3) := by decide +kernel
theorem dX3_takeSide_4 : decode cX3_takeSide 4 = .ok (.getfield 68, 3) := by decide +kernel
theorem dX3_takeSide_7 : decode cX3_takeSide 7 = .ok (.istore_n 2, 1) := by decide +kernel
theorem dX3_takeSide_8 : decode cX3_takeSide 8 = .ok (.iload_n 2, 1) := by decide +kernel
theorem dX3_takeSide_9 : decode cX3_takeSide 9 = .ok (.iconst 5, 1) := by decide +kernel
theorem dX3_takeSide_10 : decode cX3_takeSide 10 = .ok (.if_icmp .ne 8, 3) := by decide +kernel
theorem dX3_takeSide_13 : decode cX3_takeSide 13 = .ok (.aload_n 0, 1) := by decide +kernel
theorem dX3_takeSide_14 : decode cX3_takeSide 14 = .ok (.invokevirtual 71, 3) := by decide +kernel
theorem dX3_takeSide_17 : decode cX3_takeSide 17 = .ok (.ireturn, 1) := by decide +kernel
theorem dX3_takeSide_18 : decode cX3_takeSide 18 = .ok (.iload_n 2, 1) := by decide +kernel
theorem dX3_takeSide_19 : decode cX3_takeSide 19 = .ok (.bipush 32, 2) := by decide +kernel
theorem dX3_takeSide_21 : decode cX3_takeSide 21 = .ok (.if_icmp .lt 13, 3) := by decide +kernel
theorem dX3_takeSide_24 : decode cX3_takeSide 24 = .ok (.iload_n 2, 1) := by decide +kernel
theorem dX3_takeSide_25 : decode cX3_takeSide 25 = .ok (.bipush 38, 2) := by decide +kernel
theorem dX3_takeSide_27 : decode cX3_takeSide 27 = .ok (.if_icmp .gt 7, 3) := by decide +kernel
theorem dX3_takeSide_30 : decode cX3_takeSide 30 = .ok (.iconst 1, 1) := by decide +kernel
theorem dX3_takeSide_31 : decode cX3_takeSide 31 = .ok (.goto 4, 3) := by decide +kernel
theorem dX3_takeSide_34 : decode cX3_takeSide 34 = .ok (.iconst 0, 1) := by decide +kernel
theorem dX3_takeSide_35 : decode cX3_takeSide 35 = .ok (.istore_n 3, 1) := by decide +kernel
theorem dX3_takeSide_36 : decode cX3_takeSide 36 = .ok (.iload_n 2, 1) := by decide +kernel
theorem dX3_takeSide_37 : decode cX3_takeSide 37 = .ok (.bipush 31, 2) := by decide +kernel
theorem dX3_takeSide_39 : decode cX3_takeSide 39 = .ok (.if_icmp .eq 14, 3) := by decide +kernel
theorem dX3_takeSide_42 : decode cX3_takeSide 42 = .ok (.iload_n 2, 1) := by decide +kernel
theorem dX3_takeSide_43 : decode cX3_takeSide 43 = .ok (.iconst 2, 1) := by decide +kernel
theorem dX3_takeSide_44 : decode cX3_takeSide 44 = .ok (.if_icmp .eq 9, 3) := by decide +kernel
theorem dX3_takeSide_47 : decode cX3_takeSide 47 = .ok (.iload_n 3, 1) := by decide +kernel
theorem dX3_takeSide_48 : decode cX3_takeSide 48 = .ok (.ifCond .ne 5, 3) := by decide +kernel
theorem dX3_takeSide_51 : decode cX3_takeSide 51 = .ok (.iconst 1, 1) := by decide +kernel
theorem dX3_takeSide_52 : decode cX3_takeSide 52 = .ok (.ireturn, 1) := by decide +kernel
theorem dX3_takeSide_53 : decode cX3_takeSide 53 = .ok (.iload_n 2, 1) := by decide +kernel
theorem dX3_takeSide_54 : decode cX3_takeSide 54 = .ok (.bipush 31, 2) := by decide +kernel
theorem dX3_takeSide_56 : decode cX3_takeSide 56 = .ok (.if_icmp .ne 34, 3) := by decide +kernel
theorem dX3_takeSide_59 : decode cX3_takeSide 59 = .ok (.aload_n 0, 1) := by decide +kernel
theorem dX3_takeSide_60 : decode cX3_takeSide 60 = .ok (.getfield 19, 3) := by decide +kernel
theorem dX3_takeSide_63 : decode cX3_takeSide 63 = .ok (.ifCond .le 27, 3) := by decide +kernel
theorem dX3_takeSide_66 : decode cX3_takeSide 66 = .ok (.aload_n 0, 1) := by decide +kernel
theorem dX3_takeSide_67 : decode cX3_takeSide 67 = .ok (.getfield 9, 3) := by decide +kernel
theorem dX3_takeSide_70 : decode cX3_takeSide 70 = .ok (.aload_n 0, 1) := by decide +kernel
theorem dX3_takeSide_71 : decode cX3_takeSide 71 = .ok (.getfield 19, 3) := by decide +kernel
theorem dX3_takeSide_74 : decode cX3_takeSide 74 = .ok (.iconst 1, 1) := by decide +kernel
theorem dX3_takeSide_75 : decode cX3_takeSide 75 = .ok (.isub, 1) := by decide +kernel
theorem dX3_takeSide_76 : decode cX3_takeSide 76 = .ok (.iaload, 1) := by decide +kernel
theorem dX3_takeSide_77 : decode cX3_takeSide 77 = .ok (.invokestatic 57, 3) := by decide +kernel
theorem dX3_takeSide_80 : decode cX3_takeSide 80 = .ok (.bipush 31, 2) := by decide +kernel
theorem dX3_takeSide_82 : decode cX3_takeSide 82 = .ok (.invokestatic 57, 3) := by decide +kernel
theorem dX3_takeSide_85 : decode cX3_takeSide 85 = .ok (.if_icmp .le 5, 3) := by decide +kernel
theorem dX3_takeSide_88 : decode cX3_takeSide 88 = .ok (.iconst 1, 1) := by decide +kernel
theorem dX3_takeSide_89 : decode cX3_takeSide 89 = .ok (.ireturn, 1) := by decide +kernel
theorem dX3_takeSide_90 : decode cX3_takeSide 90 = .ok (.aload_n 0, 1) := by decide +kernel
theorem dX3_takeSide_91 : decode cX3_takeSide 91 = .ok (.getfield 31, 3) := by decide +kernel
theorem dX3_takeSide_94 : decode cX3_takeSide 94 = .ok (.bipush 64, 2) := by decide +kernel
theorem dX3_takeSide_96 : decode cX3_takeSide 96 = .ok (.if_icmp .ge 21, 3) := by decide +kernel
theorem dX3_takeSide_99 : decode cX3_takeSide 99 = .ok (.iload_n 2, 1) := by decide +kernel
theorem dX3_takeSide_100 : decode cX3_takeSide 100 = .ok (.iconst 2, 1) := by decide +kernel
theorem dX3_takeSide_101 : decode cX3_takeSide 101 = .ok (.if_icmp .ne 18, 3) := by decide +kernel
theorem dX3_takeSide_104 : decode cX3_takeSide 104 = .ok (.aload_n 0, 1) := by decide +kernel
theorem dX3_takeSide_105 : decode cX3_takeSide 105 = .ok (.getfield 15, 3) := by decide +kernel
theorem dX3_takeSide_108 : decode cX3_takeSide 108 = .ok (.getfield 75, 3) := by decide +kernel
theorem dX3_takeSide_111 : decode cX3_takeSide 111 = .ok (.sipush 9999, 3) := by decide +kernel
theorem dX3_takeSide_114 : decode cX3_takeSide 114 = .ok (.if_icmp .le 5, 3) := by decide +kernel
theorem dX3_takeSide_117 : decode cX3_takeSide 117 = .ok (.iconst 2, 1) := by decide +kernel
theorem dX3_takeSide_118 : decode cX3_takeSide 118 = .ok (.ireturn, 1) := by decide +kernel
theorem dX3_takeSide_119 : decode cX3_takeSide 119 = .ok (.aload_n 0, 1) := by decide +kernel
theorem dX3_takeSide_120 : decode cX3_takeSide 120 = .ok (.dup, 1) := by decide +kernel
theorem dX3_takeSide_121 : decode cX3_takeSide 121 = .ok (.getfield 31, 3) := by decide +kernel
theorem dX3_takeSide_124 : decode cX3_takeSide 124 = .ok (.iconst 1, 1) := by decide +kernel
theorem dX3_takeSide_125 : decode cX3_takeSide 125 = .ok (.iadd, 1) := by decide +kernel
theorem dX3_takeSide_126 : decode cX3_takeSide 126 = .ok (.putfield 31, 3) := by decide +kernel
theorem dX3_takeSide_129 : decode cX3_takeSide 129 = .ok (.iload_n 2, 1) := by decide +kernel
theorem dX3_takeSide_130 : decode cX3_takeSide 130 = .ok (.bipush 31, 2) := by decide +kernel
theorem dX3_takeSide_132 : decode cX3_takeSide 132 = .ok (.if_icmp .ne 12, 3) := by decide +kernel
theorem dX3_takeSide_135 : decode cX3_takeSide 135 = .ok (.aload_n 0, 1) := by decide +kernel
theorem dX3_takeSide_136 : decode cX3_takeSide 136 = .ok (.bipush 31, 2) := by decide +kernel
theorem dX3_takeSide_138 : decode cX3_takeSide 138 = .ok (.invokevirtual 78, 3) := by decide +kernel
theorem dX3_takeSide_141 : decode cX3_takeSide 141 = .ok (.goto 29, 3) := by decide +kernel
theorem dX3_takeSide_144 : decode cX3_takeSide 144 = .ok (.aload_n 1, 1) := by decide +kernel
theorem dX3_takeSide_145 : decode cX3_takeSide 145 = .ok (.iload_n 2, 1) := by decide +kernel
theorem dX3_takeSide_146 : decode cX3_takeSide 146 = .ok (.iload_n 2, 1) := by decide +kernel
theorem dX3_takeSide_147 : decode cX3_takeSide 147 = .ok (.iconst 2, 1) := by decide +kernel
theorem dX3_takeSide_148 : decode cX3_takeSide 148 = .ok (.if_icmp .ne 13, 3) := by decide +kernel
theorem dX3_takeSide_151 : decode cX3_takeSide 151 = .ok (.aload_n 0, 1) := by decide +kernel
theorem dX3_takeSide_152 : decode cX3_takeSide 152 = .ok (.getfield 15, 3) := by decide +kernel
theorem dX3_takeSide_155 : decode cX3_takeSide 155 = .ok (.getfield 75, 3) := by decide +kernel
theorem dX3_takeSide_158 : decode cX3_takeSide 158 = .ok (.goto 4, 3) := by decide +kernel
theorem dX3_takeSide_161 : decode cX3_takeSide 161 = .ok (.iconst 0, 1) := by decide +kernel
theorem dX3_takeSide_162 : decode cX3_takeSide 162 = .ok (.invokevirtual 82, 3) := by decide +kernel
theorem dX3_takeSide_165 : decode cX3_takeSide 165 = .ok (.aload_n 0, 1) := by decide +kernel
theorem dX3_takeSide_166 : decode cX3_takeSide 166 = .ok (.iconst 0, 1) := by decide +kernel
theorem dX3_takeSide_167 : decode cX3_takeSide 167 = .ok (.putfield 34, 3) := by decide +kernel
theorem dX3_takeSide_170 : decode cX3_takeSide 170 = .ok (.iconst 0, 1) := by decide +kernel
theorem dX3_takeSide_171 : decode cX3_takeSide 171 = .ok (.ireturn, 1) := by decide +kernel
theorem dX3_takeOpen_0 : decode cX3_takeOpen 0 = .ok (.aload_n 0, 1) := by decide +kernel
theorem dX3_takeOpen_1 : decode cX3_takeOpen 1 = .ok (.getfield 23, 3) := by decide +kernel
theorem dX3_takeOpen_4 : decode cX3_takeOpen 4 = .ok (.bipush 8, 2) := by decide +kernel
theorem dX3_takeOpen_6 : decode cX3_takeOpen 6 = .ok (.if_icmp .lt 5, 3) := by decide +kernel
theorem dX3_takeOpen_9 : decode cX3_takeOpen 9 = .ok (.iconst 2, 1) := by decide +kernel
theorem dX3_takeOpen_10 : decode cX3_takeOpen 10 = .ok (.ireturn, 1) := by decide +kernel
theorem dX3_takeOpen_11 : decode cX3_takeOpen 11 = .ok (.aload_n 0, 1) := by decide +kernel
theorem dX3_takeOpen_12 : decode cX3_takeOpen 12 = .ok (.dup, 1) := by decide +kernel
theorem dX3_takeOpen_13 : decode cX3_takeOpen 13 = .ok (.getfield 23, 3) := by decide +kernel
theorem dX3_takeOpen_16 : decode cX3_takeOpen 16 = .ok (.iconst 1, 1) := by decide +kernel
theorem dX3_takeOpen_17 : decode cX3_takeOpen 17 = .ok (.iadd, 1) := by decide +kernel
theorem dX3_takeOpen_18 : decode cX3_takeOpen 18 = .ok (.putfield 23, 3) := by decide +kernel
theorem dX3_takeOpen_21 : decode cX3_takeOpen 21 = .ok (.aload_n 0, 1) := by decide +kernel
theorem dX3_takeOpen_22 : decode cX3_takeOpen 22 = .ok (.iconst 5, 1) := by decide +kernel
theorem dX3_takeOpen_23 : decode cX3_takeOpen 23 = .ok (.invokevirtual 78, 3) := by decide +kernel
theorem dX3_takeOpen_26 : decode cX3_takeOpen 26 = .ok (.iconst 0, 1) := by decide +kernel
theorem dX3_takeOpen_27 : decode cX3_takeOpen 27 = .ok (.ireturn, 1) := by decide +kernel
theorem dX3_dropOpen_0 : decode cX3_dropOpen 0 = .ok (.aload_n 0, 1) := by decide +kernel
theorem dX3_dropOpen_1 : decode cX3_dropOpen 1 = .ok (.getfield 19, 3) := by decide +kernel
theorem dX3_dropOpen_4 : decode cX3_dropOpen 4 = .ok (.ifCond .le 13, 3) := by decide +kernel
theorem dX3_dropOpen_7 : decode cX3_dropOpen 7 = .ok (.aload_n 0, 1) := by decide +kernel
theorem dX3_dropOpen_8 : decode cX3_dropOpen 8 = .ok (.dup, 1) := by decide +kernel
theorem dX3_dropOpen_9 : decode cX3_dropOpen 9 = .ok (.getfield 19, 3) := by decide +kernel
theorem dX3_dropOpen_12 : decode cX3_dropOpen 12 = .ok (.iconst 1, 1) := by decide +kernel
theorem dX3_dropOpen_13 : decode cX3_dropOpen 13 = .ok (.isub, 1) := by decide +kernel
theorem dX3_dropOpen_14 : decode cX3_dropOpen 14 = .ok (.putfield 19, 3) := by decide +kernel
theorem dX3_dropOpen_17 : decode cX3_dropOpen 17 = .ok (.aload_n 0, 1) := by decide +kernel
theorem dX3_dropOpen_18 : decode cX3_dropOpen 18 = .ok (.dup, 1) := by decide +kernel
theorem dX3_dropOpen_19 : decode cX3_dropOpen 19 = .ok (.getfield 23, 3) := by decide +kernel
theorem dX3_dropOpen_22 : decode cX3_dropOpen 22 = .ok (.iconst 1, 1) := by decide +kernel
theorem dX3_dropOpen_23 : decode cX3_dropOpen 23 = .ok (.isub, 1) := by decide +kernel
theorem dX3_dropOpen_24 : decode cX3_dropOpen 24 = .ok (.putfield 23, 3) := by decide +kernel
theorem dX3_dropOpen_27 : decode cX3_dropOpen 27 = .ok (.return_, 1) := by decide +kernel
theorem dX3_takeSign_0 : decode cX3_takeSign 0 = .ok (.aload_n 0, 1) := by decide +kernel
theorem dX3_takeSign_1 : decode cX3_takeSign 1 = .ok (.getfield 15, 3) := by decide +kernel
theorem dX3_takeSign_4 : decode cX3_takeSign 4 = .ok (.getfield 68, 3) := by decide +kernel
theorem dX3_takeSign_7 : decode cX3_takeSign 7 = .ok (.istore_n 2, 1) := by decide +kernel
theorem dX3_takeSign_8 : decode cX3_takeSign 8 = .ok (.iload_n 2, 1) := by decide +kernel
theorem dX3_takeSign_9 : decode cX3_takeSign 9 = .ok (.bipush 6, 2) := by decide +kernel
theorem dX3_takeSign_11 : decode cX3_takeSign 11 = .ok (.if_icmp .ne 19, 3) := by decide +kernel
theorem dX3_takeSign_14 : decode cX3_takeSign 14 = .ok (.aload_n 0, 1) := by decide +kernel
theorem dX3_takeSign_15 : decode cX3_takeSign 15 = .ok (.aload_n 1, 1) := by decide +kernel
theorem dX3_takeSign_16 : decode cX3_takeSign 16 = .ok (.bipush 29, 2) := by decide +kernel
theorem dX3_takeSign_18 : decode cX3_takeSign 18 = .ok (.invokestatic 57, 3) := by decide +kernel
theorem dX3_takeSign_21 : decode cX3_takeSign 21 = .ok (.invokevirtual 61, 3) := by decide +kernel
theorem dX3_takeSign_24 : decode cX3_takeSign 24 = .ok (.aload_n 0, 1) := by decide +kernel
theorem dX3_takeSign_25 : decode cX3_takeSign 25 = .ok (.invokevirtual 86, 3) := by decide +kernel
theorem dX3_takeSign_28 : decode cX3_takeSign 28 = .ok (.iconst 0, 1) := by decide +kernel
theorem dX3_takeSign_29 : decode cX3_takeSign 29 = .ok (.ireturn, 1) := by decide +kernel
theorem dX3_takeSign_30 : decode cX3_takeSign 30 = .ok (.iload_n 2, 1) := by decide +kernel
theorem dX3_takeSign_31 : decode cX3_takeSign 31 = .ok (.invokestatic 57, 3) := by decide +kernel
theorem dX3_takeSign_34 : decode cX3_takeSign 34 = .ok (.istore_n 3, 1) := by decide +kernel
theorem dX3_takeSign_35 : decode cX3_takeSign 35 = .ok (.iload_n 3, 1) := by decide +kernel
theorem dX3_takeSign_36 : decode cX3_takeSign 36 = .ok (.bipush 11, 2) := by decide +kernel
theorem dX3_takeSign_38 : decode cX3_takeSign 38 = .ok (.invokestatic 57, 3) := by decide +kernel
theorem dX3_takeSign_41 : decode cX3_takeSign 41 = .ok (.if_icmp .ne 7, 3) := by decide +kernel
theorem dX3_takeSign_44 : decode cX3_takeSign 44 = .ok (.iconst 1, 1) := by decide +kernel
theorem dX3_takeSign_45 : decode cX3_takeSign 45 = .ok (.goto 4, 3) := by decide +kernel
theorem dX3_takeSign_48 : decode cX3_takeSign 48 = .ok (.iconst 0, 1) := by decide +kernel
theorem dX3_takeSign_49 : decode cX3_takeSign 49 = .ok (.istore 4, 2) := by decide +kernel
theorem dX3_takeSign_51 : decode cX3_takeSign 51 = .ok (.aload_n 0, 1) := by decide +kernel
theorem dX3_takeSign_52 : decode cX3_takeSign 52 = .ok (.aload_n 1, 1) := by decide +kernel
theorem dX3_takeSign_53 : decode cX3_takeSign 53 = .ok (.iload 4, 2) := by decide +kernel
theorem dX3_takeSign_55 : decode cX3_takeSign 55 = .ok (.ifCond .eq 9, 3) := by decide +kernel
theorem dX3_takeSign_58 : decode cX3_takeSign 58 = .ok (.iload_n 3, 1) := by decide +kernel
theorem dX3_takeSign_59 : decode cX3_takeSign 59 = .ok (.iconst 1, 1) := by decide +kernel
theorem dX3_takeSign_60 : decode cX3_takeSign 60 = .ok (.iadd, 1) := by decide +kernel
theorem dX3_takeSign_61 : decode cX3_takeSign 61 = .ok (.goto 4, 3) := by decide +kernel
theorem dX3_takeSign_64 : decode cX3_takeSign 64 = .ok (.iload_n 3, 1) := by decide +kernel
theorem dX3_takeSign_65 : decode cX3_takeSign 65 = .ok (.invokevirtual 61, 3) := by decide +kernel
theorem dX3_takeSign_68 : decode cX3_takeSign 68 = .ok (.iload 4, 2) := by decide +kernel
theorem dX3_takeSign_70 : decode cX3_takeSign 70 = .ok (.ifCond .eq 30, 3) := by decide +kernel
theorem dX3_takeSign_73 : decode cX3_takeSign 73 = .ok (.aload_n 0, 1) := by decide +kernel
theorem dX3_takeSign_74 : decode cX3_takeSign 74 = .ok (.getfield 19, 3) := by decide +kernel
theorem dX3_takeSign_77 : decode cX3_takeSign 77 = .ok (.ifCond .le 23, 3) := by decide +kernel
theorem dX3_takeSign_80 : decode cX3_takeSign 80 = .ok (.aload_n 0, 1) := by decide +kernel
theorem dX3_takeSign_81 : decode cX3_takeSign 81 = .ok (.getfield 9, 3) := by decide +kernel
theorem dX3_takeSign_84 : decode cX3_takeSign 84 = .ok (.aload_n 0, 1) := by decide +kernel
theorem dX3_takeSign_85 : decode cX3_takeSign 85 = .ok (.getfield 19, 3) := by decide +kernel
theorem dX3_takeSign_88 : decode cX3_takeSign 88 = .ok (.iconst 1, 1) := by decide +kernel
theorem dX3_takeSign_89 : decode cX3_takeSign 89 = .ok (.isub, 1) := by decide +kernel
theorem dX3_takeSign_90 : decode cX3_takeSign 90 = .ok (.iaload, 1) := by decide +kernel
theorem dX3_takeSign_91 : decode cX3_takeSign 91 = .ok (.invokestatic 57, 3) := by decide +kernel
theorem dX3_takeSign_94 : decode cX3_takeSign 94 = .ok (.iload_n 3, 1) := by decide +kernel
theorem dX3_takeSign_95 : decode cX3_takeSign 95 = .ok (.if_icmp .ne 5, 3) := by decide +kernel
theorem dX3_takeSign_98 : decode cX3_takeSign 98 = .ok (.iconst 1, 1) := by decide +kernel
theorem dX3_takeSign_99 : decode cX3_takeSign 99 = .ok (.ireturn, 1) := by decide +kernel
theorem dX3_takeSign_100 : decode cX3_takeSign 100 = .ok (.aload_n 0, 1) := by decide +kernel
theorem dX3_takeSign_101 : decode cX3_takeSign 101 = .ok (.getfield 31, 3) := by decide +kernel
theorem dX3_takeSign_104 : decode cX3_takeSign 104 = .ok (.bipush 64, 2) := by decide +kernel
theorem dX3_takeSign_106 : decode cX3_takeSign 106 = .ok (.if_icmp .lt 5, 3) := by decide +kernel
theorem dX3_takeSign_109 : decode cX3_takeSign 109 = .ok (.iconst 2, 1) := by decide +kernel
theorem dX3_takeSign_110 : decode cX3_takeSign 110 = .ok (.ireturn, 1) := by decide +kernel
theorem dX3_takeSign_111 : decode cX3_takeSign 111 = .ok (.aload_n 0, 1) := by decide +kernel
theorem dX3_takeSign_112 : decode cX3_takeSign 112 = .ok (.dup, 1) := by decide +kernel
theorem dX3_takeSign_113 : decode cX3_takeSign 113 = .ok (.getfield 31, 3) := by decide +kernel
theorem dX3_takeSign_116 : decode cX3_takeSign 116 = .ok (.iconst 1, 1) := by decide +kernel
theorem dX3_takeSign_117 : decode cX3_takeSign 117 = .ok (.iadd, 1) := by decide +kernel
theorem dX3_takeSign_118 : decode cX3_takeSign 118 = .ok (.putfield 31, 3) := by decide +kernel
theorem dX3_takeSign_121 : decode cX3_takeSign 121 = .ok (.aload_n 0, 1) := by decide +kernel
theorem dX3_takeSign_122 : decode cX3_takeSign 122 = .ok (.iload_n 2, 1) := by decide +kernel
theorem dX3_takeSign_123 : decode cX3_takeSign 123 = .ok (.invokevirtual 78, 3) := by decide +kernel
theorem dX3_takeSign_126 : decode cX3_takeSign 126 = .ok (.aload_n 0, 1) := by decide +kernel
theorem dX3_takeSign_127 : decode cX3_takeSign 127 = .ok (.iconst 1, 1) := by decide +kernel
theorem dX3_takeSign_128 : decode cX3_takeSign 128 = .ok (.putfield 34, 3) := by decide +kernel
theorem dX3_takeSign_131 : decode cX3_takeSign 131 = .ok (.iconst 0, 1) := by decide +kernel
theorem dX3_takeSign_132 : decode cX3_takeSign 132 = .ok (.ireturn, 1) := by decide +kernel
theorem dX3_hold_0 : decode cX3_hold 0 = .ok (.aload_n 0, 1) := by decide +kernel
theorem dX3_hold_1 : decode cX3_hold 1 = .ok (.getfield 19, 3) := by decide +kernel
theorem dX3_hold_4 : decode cX3_hold 4 = .ok (.aload_n 0, 1) := by decide +kernel
theorem dX3_hold_5 : decode cX3_hold 5 = .ok (.getfield 9, 3) := by decide +kernel
theorem dX3_hold_8 : decode cX3_hold 8 = .ok (.arraylength, 1) := by decide +kernel
theorem dX3_hold_9 : decode cX3_hold 9 = .ok (.if_icmp .ge 23, 3) := by decide +kernel
theorem dX3_hold_12 : decode cX3_hold 12 = .ok (.aload_n 0, 1) := by decide +kernel
theorem dX3_hold_13 : decode cX3_hold 13 = .ok (.getfield 9, 3) := by decide +kernel
theorem dX3_hold_16 : decode cX3_hold 16 = .ok (.aload_n 0, 1) := by decide +kernel
theorem dX3_hold_17 : decode cX3_hold 17 = .ok (.getfield 19, 3) := by decide +kernel
theorem dX3_hold_20 : decode cX3_hold 20 = .ok (.iload_n 1, 1) := by decide +kernel
theorem dX3_hold_21 : decode cX3_hold 21 = .ok (.iastore, 1) := by decide +kernel
theorem dX3_hold_22 : decode cX3_hold 22 = .ok (.aload_n 0, 1) := by decide +kernel
theorem dX3_hold_23 : decode cX3_hold 23 = .ok (.dup, 1) := by decide +kernel
theorem dX3_hold_24 : decode cX3_hold 24 = .ok (.getfield 19, 3) := by decide +kernel
theorem dX3_hold_27 : decode cX3_hold 27 = .ok (.iconst 1, 1) := by decide +kernel
theorem dX3_hold_28 : decode cX3_hold 28 = .ok (.iadd, 1) := by decide +kernel
theorem dX3_hold_29 : decode cX3_hold 29 = .ok (.putfield 19, 3) := by decide +kernel
theorem dX3_hold_32 : decode cX3_hold 32 = .ok (.return_, 1) := by decide +kernel
theorem dX3_release_0 : decode cX3_release 0 = .ok (.aload_n 0, 1) := by decide +kernel
theorem dX3_release_1 : decode cX3_release 1 = .ok (.getfield 19, 3) := by decide +kernel
theorem dX3_release_4 : decode cX3_release 4 = .ok (.ifCond .le 48, 3) := by decide +kernel
theorem dX3_release_7 : decode cX3_release 7 = .ok (.aload_n 0, 1) := by decide +kernel
theorem dX3_release_8 : decode cX3_release 8 = .ok (.getfield 9, 3) := by decide +kernel
theorem dX3_release_11 : decode cX3_release 11 = .ok (.aload_n 0, 1) := by decide +kernel
theorem dX3_release_12 : decode cX3_release 12 = .ok (.getfield 19, 3) := by decide +kernel
theorem dX3_release_15 : decode cX3_release 15 = .ok (.iconst 1, 1) := by decide +kernel
theorem dX3_release_16 : decode cX3_release 16 = .ok (.isub, 1) := by decide +kernel
theorem dX3_release_17 : decode cX3_release 17 = .ok (.iaload, 1) := by decide +kernel
theorem dX3_release_18 : decode cX3_release 18 = .ok (.invokestatic 57, 3) := by decide +kernel
theorem dX3_release_21 : decode cX3_release 21 = .ok (.iload_n 2, 1) := by decide +kernel
theorem dX3_release_22 : decode cX3_release 22 = .ok (.if_icmp .lt 30, 3) := by decide +kernel
theorem dX3_release_25 : decode cX3_release 25 = .ok (.aload_n 0, 1) := by decide +kernel
theorem dX3_release_26 : decode cX3_release 26 = .ok (.dup, 1) := by decide +kernel
theorem dX3_release_27 : decode cX3_release 27 = .ok (.getfield 19, 3) := by decide +kernel
theorem dX3_release_30 : decode cX3_release 30 = .ok (.iconst 1, 1) := by decide +kernel
theorem dX3_release_31 : decode cX3_release 31 = .ok (.isub, 1) := by decide +kernel
theorem dX3_release_32 : decode cX3_release 32 = .ok (.putfield 19, 3) := by decide +kernel
theorem dX3_release_35 : decode cX3_release 35 = .ok (.aload_n 1, 1) := by decide +kernel
theorem dX3_release_36 : decode cX3_release 36 = .ok (.aload_n 0, 1) := by decide +kernel
theorem dX3_release_37 : decode cX3_release 37 = .ok (.getfield 9, 3) := by decide +kernel
theorem dX3_release_40 : decode cX3_release 40 = .ok (.aload_n 0, 1) := by decide +kernel
theorem dX3_release_41 : decode cX3_release 41 = .ok (.getfield 19, 3) := by decide +kernel
theorem dX3_release_44 : decode cX3_release 44 = .ok (.iaload, 1) := by decide +kernel
theorem dX3_release_45 : decode cX3_release 45 = .ok (.iconst 0, 1) := by decide +kernel
theorem dX3_release_46 : decode cX3_release 46 = .ok (.invokevirtual 82, 3) := by decide +kernel
theorem dX3_release_49 : decode cX3_release 49 = .ok (.goto (-49), 3) := by decide +kernel
theorem dX3_release_52 : decode cX3_release 52 = .ok (.return_, 1) := by decide +kernel
theorem dX3_rankOf_0 : decode cX3_rankOf 0 = .ok (.iload_n 0, 1) := by decide +kernel
theorem dX3_rankOf_1 : decode cX3_rankOf 1 = .ok (.tableswitch 128 7 31 #[123, 123, 125, 125, 121, 121, 121, 121, 121, 121, 128, 128, 128, 128, 128, 128, 128, 128, 128, 128, 128, 128, 115, 117, 119], 115) := by decide +kernel
theorem dX3_rankOf_116 : decode cX3_rankOf 116 = .ok (.iconst 1, 1) := by decide +kernel
theorem dX3_rankOf_117 : decode cX3_rankOf 117 = .ok (.ireturn, 1) := by decide +kernel
theorem dX3_rankOf_118 : decode cX3_rankOf 118 = .ok (.iconst 2, 1) := by decide +kernel
theorem dX3_rankOf_119 : decode cX3_rankOf 119 = .ok (.ireturn, 1) := by decide +kernel
theorem dX3_rankOf_120 : decode cX3_rankOf 120 = .ok (.iconst 3, 1) := by decide +kernel
theorem dX3_rankOf_121 : decode cX3_rankOf 121 = .ok (.ireturn, 1) := by decide +kernel
theorem dX3_rankOf_122 : decode cX3_rankOf 122 = .ok (.iconst 4, 1) := by decide +kernel
theorem dX3_rankOf_123 : decode cX3_rankOf 123 = .ok (.ireturn, 1) := by decide +kernel
theorem dX3_rankOf_124 : decode cX3_rankOf 124 = .ok (.iconst 5, 1) := by decide +kernel
theorem dX3_rankOf_125 : decode cX3_rankOf 125 = .ok (.ireturn, 1) := by decide +kernel
theorem dX3_rankOf_126 : decode cX3_rankOf 126 = .ok (.bipush 6, 2) := by decide +kernel
theorem dX3_rankOf_128 : decode cX3_rankOf 128 = .ok (.ireturn, 1) := by decide +kernel
theorem dX3_rankOf_129 : decode cX3_rankOf 129 = .ok (.iconst 0, 1) := by decide +kernel
theorem dX3_rankOf_130 : decode cX3_rankOf 130 = .ok (.ireturn, 1) := by decide +kernel
def wp_X3_rankOf (x0 : Int32) (h : ck_H) (Q : Int32 → ck_H → Prop) : Prop := ((x0 = 7 → Q (5 : Int32) h) ∧ (¬ x0 = 7 → ((x0 = 8 → Q (5 : Int32) h) ∧ (¬ x0 = 8 → ((x0 = 9 → Q (6 : Int32) h) ∧ (¬ x0 = 9 → ((x0 = 10 → Q (6 : Int32) h) ∧ (¬ x0 = 10 → ((x0 = 11 → Q (4 : Int32) h) ∧ (¬ x0 = 11 → ((x0 = 12 → Q (4 : Int32) h) ∧ (¬ x0 = 12 → ((x0 = 13 → Q (4 : Int32) h) ∧ (¬ x0 = 13 → ((x0 = 14 → Q (4 : Int32) h) ∧ (¬ x0 = 14 → ((x0 = 15 → Q (4 : Int32) h) ∧ (¬ x0 = 15 → ((x0 = 16 → Q (4 : Int32) h) ∧ (¬ x0 = 16 → ((x0 = 17 → Q (0 : Int32) h) ∧ (¬ x0 = 17 → ((x0 = 18 → Q (0 : Int32) h) ∧ (¬ x0 = 18 → ((x0 = 19 → Q (0 : Int32) h) ∧ (¬ x0 = 19 → ((x0 = 20 → Q (0 : Int32) h) ∧ (¬ x0 = 20 → ((x0 = 21 → Q (0 : Int32) h) ∧ (¬ x0 = 21 → ((x0 = 22 → Q (0 : Int32) h) ∧ (¬ x0 = 22 → ((x0 = 23 → Q (0 : Int32) h) ∧ (¬ x0 = 23 → ((x0 = 24 → Q (0 : Int32) h) ∧ (¬ x0 = 24 → ((x0 = 25 → Q (0 : Int32) h) ∧ (¬ x0 = 25 → ((x0 = 26 → Q (0 : Int32) h) ∧ (¬ x0 = 26 → ((x0 = 27 → Q (0 : Int32) h) ∧ (¬ x0 = 27 → ((x0 = 28 → Q (0 : Int32) h) ∧ (¬ x0 = 28 → ((x0 = 29 → Q (1 : Int32) h) ∧ (¬ x0 = 29 → ((x0 = 30 → Q (2 : Int32) h) ∧ (¬ x0 = 30 → ((x0 = 31 → Q (3 : Int32) h) ∧ (¬ x0 = 31 → Q (0 : Int32) h))))))))))))))))))))))))))))))))))))))))))))))))))
set_option maxHeartbeats 4000000 in
set_option maxRecDepth 100000 in
theorem c_X3_rankOf {gr : Bool} {x0 : Int32} {h : ck_H} {Q : Int32 → ck_H → Prop} (hq : wp_X3_rankOf x0 h Q) : ck_M yX3_rankOf cX3_rankOf 1 (some .int) 2 0 0 gr ck_shX h [.int x0] (ck_Qi ck_shX Q) := by
  refine ck_entry (lv := [(0, .int x0)]) false (own := RX3) rfl (fun q => by cases q) (by decide) (Nat.le_of_ble_eq_true rfl) rfl ?_
  refine ck_iload_n 0 dX3_rankOf_0 rfl rfl ?_
  by_cases c1 : x0 = 7
  · have hq := hq.1 c1
    refine ck_tabIn (tgt := 124) dX3_rankOf_1 (by rw [c1]; decide) (by rw [c1]; decide) (by rw [c1]; rfl) (by decide) ?_
    refine ck_iconst (v := 5) dX3_rankOf_124 (by decide) ?_
    exact ck_iret rfl rfl rfl rfl dX3_rankOf_125 ⟨_, rfl, rfl, hq⟩
  have hq := hq.2 c1
  by_cases c2 : x0 = 8
  · have hq := hq.1 c2
    refine ck_tabIn (tgt := 124) dX3_rankOf_1 (by rw [c2]; decide) (by rw [c2]; decide) (by rw [c2]; rfl) (by decide) ?_
    refine ck_iconst (v := 5) dX3_rankOf_124 (by decide) ?_
    exact ck_iret rfl rfl rfl rfl dX3_rankOf_125 ⟨_, rfl, rfl, hq⟩
  have hq := hq.2 c2
  by_cases c3 : x0 = 9
  · have hq := hq.1 c3
    refine ck_tabIn (tgt := 126) dX3_rankOf_1 (by rw [c3]; decide) (by rw [c3]; decide) (by rw [c3]; rfl) (by decide) ?_
    refine ck_bipush (v := 6) dX3_rankOf_126 (by decide) ?_
    exact ck_iret rfl rfl rfl rfl dX3_rankOf_128 ⟨_, rfl, rfl, hq⟩
  have hq := hq.2 c3
  by_cases c4 : x0 = 10
  · have hq := hq.1 c4
    refine ck_tabIn (tgt := 126) dX3_rankOf_1 (by rw [c4]; decide) (by rw [c4]; decide) (by rw [c4]; rfl) (by decide) ?_
    refine ck_bipush (v := 6) dX3_rankOf_126 (by decide) ?_
    exact ck_iret rfl rfl rfl rfl dX3_rankOf_128 ⟨_, rfl, rfl, hq⟩
  have hq := hq.2 c4
  by_cases c5 : x0 = 11
  · have hq := hq.1 c5
    refine ck_tabIn (tgt := 122) dX3_rankOf_1 (by rw [c5]; decide) (by rw [c5]; decide) (by rw [c5]; rfl) (by decide) ?_
    refine ck_iconst (v := 4) dX3_rankOf_122 (by decide) ?_
    exact ck_iret rfl rfl rfl rfl dX3_rankOf_123 ⟨_, rfl, rfl, hq⟩
  have hq := hq.2 c5
  by_cases c6 : x0 = 12
  · have hq := hq.1 c6
    refine ck_tabIn (tgt := 122) dX3_rankOf_1 (by rw [c6]; decide) (by rw [c6]; decide) (by rw [c6]; rfl) (by decide) ?_
    refine ck_iconst (v := 4) dX3_rankOf_122 (by decide) ?_
    exact ck_iret rfl rfl rfl rfl dX3_rankOf_123 ⟨_, rfl, rfl, hq⟩
  have hq := hq.2 c6
  by_cases c7 : x0 = 13
  · have hq := hq.1 c7
    refine ck_tabIn (tgt := 122) dX3_rankOf_1 (by rw [c7]; decide) (by rw [c7]; decide) (by rw [c7]; rfl) (by decide) ?_
    refine ck_iconst (v := 4) dX3_rankOf_122 (by decide) ?_
    exact ck_iret rfl rfl rfl rfl dX3_rankOf_123 ⟨_, rfl, rfl, hq⟩
  have hq := hq.2 c7
  by_cases c8 : x0 = 14
  · have hq := hq.1 c8
    refine ck_tabIn (tgt := 122) dX3_rankOf_1 (by rw [c8]; decide) (by rw [c8]; decide) (by rw [c8]; rfl) (by decide) ?_
    refine ck_iconst (v := 4) dX3_rankOf_122 (by decide) ?_
    exact ck_iret rfl rfl rfl rfl dX3_rankOf_123 ⟨_, rfl, rfl, hq⟩
  have hq := hq.2 c8
  by_cases c9 : x0 = 15
  · have hq := hq.1 c9
    refine ck_tabIn (tgt := 122) dX3_rankOf_1 (by rw [c9]; decide) (by rw [c9]; decide) (by rw [c9]; rfl) (by decide) ?_
    refine ck_iconst (v := 4) dX3_rankOf_122 (by decide) ?_
    exact ck_iret rfl rfl rfl rfl dX3_rankOf_123 ⟨_, rfl, rfl, hq⟩
  have hq := hq.2 c9
  by_cases c10 : x0 = 16
  · have hq := hq.1 c10
    refine ck_tabIn (tgt := 122) dX3_rankOf_1 (by rw [c10]; decide) (by rw [c10]; decide) (by rw [c10]; rfl) (by decide) ?_
    refine ck_iconst (v := 4) dX3_rankOf_122 (by decide) ?_
    exact ck_iret rfl rfl rfl rfl dX3_rankOf_123 ⟨_, rfl, rfl, hq⟩
  have hq := hq.2 c10
  by_cases c11 : x0 = 17
  · have hq := hq.1 c11
    refine ck_tabIn (tgt := 129) dX3_rankOf_1 (by rw [c11]; decide) (by rw [c11]; decide) (by rw [c11]; rfl) (by decide) ?_
    refine ck_iconst (v := 0) dX3_rankOf_129 (by decide) ?_
    exact ck_iret rfl rfl rfl rfl dX3_rankOf_130 ⟨_, rfl, rfl, hq⟩
  have hq := hq.2 c11
  by_cases c12 : x0 = 18
  · have hq := hq.1 c12
    refine ck_tabIn (tgt := 129) dX3_rankOf_1 (by rw [c12]; decide) (by rw [c12]; decide) (by rw [c12]; rfl) (by decide) ?_
    refine ck_iconst (v := 0) dX3_rankOf_129 (by decide) ?_
    exact ck_iret rfl rfl rfl rfl dX3_rankOf_130 ⟨_, rfl, rfl, hq⟩
  have hq := hq.2 c12
  by_cases c13 : x0 = 19
  · have hq := hq.1 c13
    refine ck_tabIn (tgt := 129) dX3_rankOf_1 (by rw [c13]; decide) (by rw [c13]; decide) (by rw [c13]; rfl) (by decide) ?_
    refine ck_iconst (v := 0) dX3_rankOf_129 (by decide) ?_
    exact ck_iret rfl rfl rfl rfl dX3_rankOf_130 ⟨_, rfl, rfl, hq⟩
  have hq := hq.2 c13
  by_cases c14 : x0 = 20
  · have hq := hq.1 c14
    refine ck_tabIn (tgt := 129) dX3_rankOf_1 (by rw [c14]; decide) (by rw [c14]; decide) (by rw [c14]; rfl) (by decide) ?_
    refine ck_iconst (v := 0) dX3_rankOf_129 (by decide) ?_
    exact ck_iret rfl rfl rfl rfl dX3_rankOf_130 ⟨_, rfl, rfl, hq⟩
  have hq := hq.2 c14
  by_cases c15 : x0 = 21
  · have hq := hq.1 c15
    refine ck_tabIn (tgt := 129) dX3_rankOf_1 (by rw [c15]; decide) (by rw [c15]; decide) (by rw [c15]; rfl) (by decide) ?_
    refine ck_iconst (v := 0) dX3_rankOf_129 (by decide) ?_
    exact ck_iret rfl rfl rfl rfl dX3_rankOf_130 ⟨_, rfl, rfl, hq⟩
  have hq := hq.2 c15
  by_cases c16 : x0 = 22
  · have hq := hq.1 c16
    refine ck_tabIn (tgt := 129) dX3_rankOf_1 (by rw [c16]; decide) (by rw [c16]; decide) (by rw [c16]; rfl) (by decide) ?_
    refine ck_iconst (v := 0) dX3_rankOf_129 (by decide) ?_
    exact ck_iret rfl rfl rfl rfl dX3_rankOf_130 ⟨_, rfl, rfl, hq⟩
  have hq := hq.2 c16
  by_cases c17 : x0 = 23
  · have hq := hq.1 c17
    refine ck_tabIn (tgt := 129) dX3_rankOf_1 (by rw [c17]; decide) (by rw [c17]; decide) (by rw [c17]; rfl) (by decide) ?_
    refine ck_iconst (v := 0) dX3_rankOf_129 (by decide) ?_
    exact ck_iret rfl rfl rfl rfl dX3_rankOf_130 ⟨_, rfl, rfl, hq⟩
  have hq := hq.2 c17
  by_cases c18 : x0 = 24
  · have hq := hq.1 c18
    refine ck_tabIn (tgt := 129) dX3_rankOf_1 (by rw [c18]; decide) (by rw [c18]; decide) (by rw [c18]; rfl) (by decide) ?_
    refine ck_iconst (v := 0) dX3_rankOf_129 (by decide) ?_
    exact ck_iret rfl rfl rfl rfl dX3_rankOf_130 ⟨_, rfl, rfl, hq⟩
  have hq := hq.2 c18
  by_cases c19 : x0 = 25
  · have hq := hq.1 c19
    refine ck_tabIn (tgt := 129) dX3_rankOf_1 (by rw [c19]; decide) (by rw [c19]; decide) (by rw [c19]; rfl) (by decide) ?_
    refine ck_iconst (v := 0) dX3_rankOf_129 (by decide) ?_
    exact ck_iret rfl rfl rfl rfl dX3_rankOf_130 ⟨_, rfl, rfl, hq⟩
  have hq := hq.2 c19
  by_cases c20 : x0 = 26
  · have hq := hq.1 c20
    refine ck_tabIn (tgt := 129) dX3_rankOf_1 (by rw [c20]; decide) (by rw [c20]; decide) (by rw [c20]; rfl) (by decide) ?_
    refine ck_iconst (v := 0) dX3_rankOf_129 (by decide) ?_
    exact ck_iret rfl rfl rfl rfl dX3_rankOf_130 ⟨_, rfl, rfl, hq⟩
  have hq := hq.2 c20
  by_cases c21 : x0 = 27
  · have hq := hq.1 c21
    refine ck_tabIn (tgt := 129) dX3_rankOf_1 (by rw [c21]; decide) (by rw [c21]; decide) (by rw [c21]; rfl) (by decide) ?_
    refine ck_iconst (v := 0) dX3_rankOf_129 (by decide) ?_
    exact ck_iret rfl rfl rfl rfl dX3_rankOf_130 ⟨_, rfl, rfl, hq⟩
  have hq := hq.2 c21
  by_cases c22 : x0 = 28
  · have hq := hq.1 c22
    refine ck_tabIn (tgt := 129) dX3_rankOf_1 (by rw [c22]; decide) (by rw [c22]; decide) (by rw [c22]; rfl) (by decide) ?_
    refine ck_iconst (v := 0) dX3_rankOf_129 (by decide) ?_
    exact ck_iret rfl rfl rfl rfl dX3_rankOf_130 ⟨_, rfl, rfl, hq⟩
  have hq := hq.2 c22
  by_cases c23 : x0 = 29
  · have hq := hq.1 c23
    refine ck_tabIn (tgt := 116) dX3_rankOf_1 (by rw [c23]; decide) (by rw [c23]; decide) (by rw [c23]; rfl) (by decide) ?_
    refine ck_iconst (v := 1) dX3_rankOf_116 (by decide) ?_
    exact ck_iret rfl rfl rfl rfl dX3_rankOf_117 ⟨_, rfl, rfl, hq⟩
  have hq := hq.2 c23
  by_cases c24 : x0 = 30
  · have hq := hq.1 c24
    refine ck_tabIn (tgt := 118) dX3_rankOf_1 (by rw [c24]; decide) (by rw [c24]; decide) (by rw [c24]; rfl) (by decide) ?_
    refine ck_iconst (v := 2) dX3_rankOf_118 (by decide) ?_
    exact ck_iret rfl rfl rfl rfl dX3_rankOf_119 ⟨_, rfl, rfl, hq⟩
  have hq := hq.2 c24
  by_cases c25 : x0 = 31
  · have hq := hq.1 c25
    refine ck_tabIn (tgt := 120) dX3_rankOf_1 (by rw [c25]; decide) (by rw [c25]; decide) (by rw [c25]; rfl) (by decide) ?_
    refine ck_iconst (v := 3) dX3_rankOf_120 (by decide) ?_
    exact ck_iret rfl rfl rfl rfl dX3_rankOf_121 ⟨_, rfl, rfl, hq⟩
  have hq := hq.2 c25
  refine ck_tabOut (tgt := 129) dX3_rankOf_1 (by have z0 := lv_neT c1 (a := 7) (by decide); have z1 := lv_neT c2 (a := 8) (by decide); have z2 := lv_neT c3 (a := 9) (by decide); have z3 := lv_neT c4 (a := 10) (by decide); have z4 := lv_neT c5 (a := 11) (by decide); have z5 := lv_neT c6 (a := 12) (by decide); have z6 := lv_neT c7 (a := 13) (by decide); have z7 := lv_neT c8 (a := 14) (by decide); have z8 := lv_neT c9 (a := 15) (by decide); have z9 := lv_neT c10 (a := 16) (by decide); have z10 := lv_neT c11 (a := 17) (by decide); have z11 := lv_neT c12 (a := 18) (by decide); have z12 := lv_neT c13 (a := 19) (by decide); have z13 := lv_neT c14 (a := 20) (by decide); have z14 := lv_neT c15 (a := 21) (by decide); have z15 := lv_neT c16 (a := 22) (by decide); have z16 := lv_neT c17 (a := 23) (by decide); have z17 := lv_neT c18 (a := 24) (by decide); have z18 := lv_neT c19 (a := 25) (by decide); have z19 := lv_neT c20 (a := 26) (by decide); have z20 := lv_neT c21 (a := 27) (by decide); have z21 := lv_neT c22 (a := 28) (by decide); have z22 := lv_neT c23 (a := 29) (by decide); have z23 := lv_neT c24 (a := 30) (by decide); have z24 := lv_neT c25 (a := 31) (by decide); omega) (by decide) ?_
  refine ck_iconst (v := 0) dX3_rankOf_129 (by decide) ?_
  exact ck_iret rfl rfl rfl rfl dX3_rankOf_130 ⟨_, rfl, rfl, hq⟩
def wp_X3_goesOn (h : ck_H) (Q : Int32 → ck_H → Prop) : Prop := ((¬ (h.1 3 4) = (6 : Int32) → (((h.1 3 4) = (31 : Int32) → Q (0 : Int32) h) ∧ (¬ (h.1 3 4) = (31 : Int32) → (wp_X3_rankOf (h.1 3 4) h (fun r4 h3 => ((r4 ≤ 0 → Q (0 : Int32) h3) ∧ (¬ r4 ≤ 0 → Q (1 : Int32) h3))))))) ∧ ((h.1 3 4) = (6 : Int32) → (((h.1 5 3) ≤ 0 → Q (0 : Int32) h) ∧ (¬ (h.1 5 3) ≤ 0 → Q (1 : Int32) h))))
set_option maxHeartbeats 4000000 in
set_option maxRecDepth 100000 in
theorem c_X3_goesOn {gr : Bool} {h : ck_H} {Q : Int32 → ck_H → Prop} (hq : wp_X3_goesOn h Q) : ck_M yX3_goesOn cX3_goesOn 1 (some .boolean) 3 0 0 gr ck_shX h [.ref 5] (ck_Qi ck_shX Q) := by
  refine ck_entry (lv := [(0, .ref 5)]) false (own := RX3) rfl (fun q => by cases q) (by decide) (Nat.le_of_ble_eq_true rfl) rfl ?_
  refine ck_aload_n 0 dX3_goesOn_0 rfl rfl ?_
  refine ck_getR clX3 0 rfl rfl (by decide) fl_X3_15 dX3_goesOn_1 ?_
  refine ck_getIN clX8 4 rfl rfl (by decide) fl_X3_68 dX3_goesOn_4 ?_
  refine ck_bipush (v := 6) dX3_goesOn_7 (by decide) ?_
  refine ck_icmp_ne (tgt := 27) dX3_goesOn_9 (by decide) (fun c1 => ?_) (fun c1 => ?_)
  · have hq := hq.1 c1
    refine ck_aload_n 0 dX3_goesOn_27 rfl rfl ?_
    refine ck_getR clX3 0 rfl rfl (by decide) fl_X3_15 dX3_goesOn_28 ?_
    refine ck_getIN clX8 4 rfl rfl (by decide) fl_X3_68 dX3_goesOn_31 ?_
    refine ck_bipush (v := 31) dX3_goesOn_34 (by decide) ?_
    refine ck_icmp_eq (tgt := 56) dX3_goesOn_36 (by decide) (fun c2 => ?_) (fun c2 => ?_)
    · have hq := hq.1 c2
      refine ck_iconst (v := 0) dX3_goesOn_56 (by decide) ?_
      exact ck_iret rfl (by decide) rfl rfl dX3_goesOn_57 ⟨_, rfl, rfl, hq⟩
    · have hq := hq.2 c2
      refine ck_aload_n 0 dX3_goesOn_39 rfl rfl ?_
      refine ck_getR clX3 0 rfl rfl (by decide) fl_X3_15 dX3_goesOn_40 ?_
      refine ck_getIN clX8 4 rfl rfl (by decide) fl_X3_68 dX3_goesOn_43 ?_
      refine ck_callS (c_X3_rankOf hq) rfl cal_X3_rankOf rfl ml_X3_57 sta_X3_rankOf (by decide) (Nat.le_of_ble_eq_true rfl) (Nat.le_of_ble_eq_true rfl) (by decide) (by decide) dX3_goesOn_46 ?_
      rintro _ _ h3 ⟨r4, rfl, rfl, hq⟩
      refine ck_if_le (tgt := 56) dX3_goesOn_49 (by decide) (fun c5 => ?_) (fun c5 => ?_)
      · have hq := hq.1 c5
        refine ck_iconst (v := 0) dX3_goesOn_56 (by decide) ?_
        exact ck_iret rfl (by decide) rfl rfl dX3_goesOn_57 ⟨_, rfl, rfl, hq⟩
      · have hq := hq.2 c5
        refine ck_iconst (v := 1) dX3_goesOn_52 (by decide) ?_
        refine ck_goto (tgt := 57) dX3_goesOn_53 (by decide) ?_
        exact ck_iret rfl (by decide) rfl rfl dX3_goesOn_57 ⟨_, rfl, rfl, hq⟩
  · have hq := hq.2 c1
    refine ck_aload_n 0 dX3_goesOn_12 rfl rfl ?_
    refine ck_getI clX3 3 rfl rfl (by decide) fl_X3_23 dX3_goesOn_13 ?_
    refine ck_if_le (tgt := 23) dX3_goesOn_16 (by decide) (fun c6 => ?_) (fun c6 => ?_)
    · have hq := hq.1 c6
      refine ck_iconst (v := 0) dX3_goesOn_23 (by decide) ?_
      refine ck_goto (tgt := 57) dX3_goesOn_24 (by decide) ?_
      exact ck_iret rfl (by decide) rfl rfl dX3_goesOn_57 ⟨_, rfl, rfl, hq⟩
    · have hq := hq.2 c6
      refine ck_iconst (v := 1) dX3_goesOn_19 (by decide) ?_
      refine ck_goto (tgt := 57) dX3_goesOn_20 (by decide) ?_
      exact ck_iret rfl (by decide) rfl rfl dX3_goesOn_57 ⟨_, rfl, rfl, hq⟩
def wp_X3_hold (x1 : Int32) (h : ck_H) (Q : ck_H → Prop) : Prop := (((72 : Int32) ≤ (h.1 5 2) → Q h) ∧ (¬ (72 : Int32) ≤ (h.1 5 2) → (vp_in (h.1 5 2) 72 ∧ (∀ h3, h3 = ck_sI h 6 (h.1 5 2).toNatClampNeg x1 → (∀ h4, h4 = ck_sI h3 5 2 ((h3.1 5 2) + (1 : Int32)) → Q h4)))))
set_option maxHeartbeats 4000000 in
set_option maxRecDepth 100000 in
theorem c_X3_hold {gr : Bool} {x1 : Int32} {h : ck_H} {Q : ck_H → Prop} (hq : wp_X3_hold x1 h Q) : ck_M yX3_hold cX3_hold 2 none 2 0 0 gr ck_shX h [.ref 5, .int x1] (ck_Qv ck_shX Q) := by
  refine ck_entry (lv := [(0, .ref 5), (1, .int x1)]) false (own := RX3) rfl (fun q => by cases q) (by decide) (Nat.le_of_ble_eq_true rfl) rfl ?_
  refine ck_aload_n 0 dX3_hold_0 rfl rfl ?_
  refine ck_getI clX3 2 rfl rfl (by decide) fl_X3_19 dX3_hold_1 ?_
  refine ck_aload_n 0 dX3_hold_4 rfl rfl ?_
  refine ck_getR clX3 1 rfl rfl (by decide) fl_X3_9 dX3_hold_5 ?_
  refine ck_alen0 (v := 72) rfl (by decide) dX3_hold_8 ?_
  refine ck_icmp_ge (tgt := 32) dX3_hold_9 (by decide) (fun c1 => ?_) (fun c1 => ?_)
  · have hq := hq.1 c1
    exact ck_vret rfl rfl rfl dX3_hold_32 ⟨rfl, rfl, hq⟩
  · have hq := hq.2 c1
    refine ck_aload_n 0 dX3_hold_12 rfl rfl ?_
    refine ck_getR clX3 1 rfl rfl (by decide) fl_X3_9 dX3_hold_13 ?_
    refine ck_aload_n 0 dX3_hold_16 rfl rfl ?_
    refine ck_getI clX3 2 rfl rfl (by decide) fl_X3_19 dX3_hold_17 ?_
    refine ck_iload_n 1 dX3_hold_20 rfl rfl ?_
    obtain ⟨b2, hq⟩ := hq
    refine ck_iast rfl rfl b2 dX3_hold_21 ?_
    refine ck_nmH (fun h3 eh3 => ?_)
    have hq := hq h3 eh3
    refine ck_aload_n 0 dX3_hold_22 rfl rfl ?_
    refine ck_dup dX3_hold_23 rfl ?_
    refine ck_getI clX3 2 rfl rfl (by decide) fl_X3_19 dX3_hold_24 ?_
    refine ck_iconst (v := 1) dX3_hold_27 (by decide) ?_
    refine ck_iadd dX3_hold_28 ?_
    refine ck_putI clX3 2 rfl rfl (by decide) fl_X3_19 rfl rfl rfl dX3_hold_29 ?_
    refine ck_nmH (fun h4 eh4 => ?_)
    have hq := hq h4 eh4
    exact ck_vret rfl rfl rfl dX3_hold_32 ⟨rfl, rfl, hq⟩
def wp_X3_takeOpen (h : ck_H) (Q : Int32 → ck_H → Prop) : Prop := (((h.1 5 3) < (8 : Int32) → (∀ h2, h2 = ck_sI h 5 3 ((h.1 5 3) + (1 : Int32)) → (wp_X3_hold (5 : Int32) h2 (fun h3 => Q (0 : Int32) h3)))) ∧ (¬ (h.1 5 3) < (8 : Int32) → Q (2 : Int32) h))
set_option maxHeartbeats 4000000 in
set_option maxRecDepth 100000 in
theorem c_X3_takeOpen {gr : Bool} {h : ck_H} {Q : Int32 → ck_H → Prop} (hq : wp_X3_takeOpen h Q) : ck_M yX3_takeOpen cX3_takeOpen 1 (some .int) 3 0 0 gr ck_shX h [.ref 5] (ck_Qi ck_shX Q) := by
  refine ck_entry (lv := [(0, .ref 5)]) false (own := RX3) rfl (fun q => by cases q) (by decide) (Nat.le_of_ble_eq_true rfl) rfl ?_
  refine ck_aload_n 0 dX3_takeOpen_0 rfl rfl ?_
  refine ck_getI clX3 3 rfl rfl (by decide) fl_X3_23 dX3_takeOpen_1 ?_
  refine ck_bipush (v := 8) dX3_takeOpen_4 (by decide) ?_
  refine ck_icmp_lt (tgt := 11) dX3_takeOpen_6 (by decide) (fun c1 => ?_) (fun c1 => ?_)
  · have hq := hq.1 c1
    refine ck_aload_n 0 dX3_takeOpen_11 rfl rfl ?_
    refine ck_dup dX3_takeOpen_12 rfl ?_
    refine ck_getI clX3 3 rfl rfl (by decide) fl_X3_23 dX3_takeOpen_13 ?_
    refine ck_iconst (v := 1) dX3_takeOpen_16 (by decide) ?_
    refine ck_iadd dX3_takeOpen_17 ?_
    refine ck_putI clX3 3 rfl rfl (by decide) fl_X3_23 rfl rfl rfl dX3_takeOpen_18 ?_
    refine ck_nmH (fun h2 eh2 => ?_)
    have hq := hq h2 eh2
    refine ck_aload_n 0 dX3_takeOpen_21 rfl rfl ?_
    refine ck_iconst (v := 5) dX3_takeOpen_22 (by decide) ?_
    refine ck_callV (c_X3_hold hq) rfl cal_X3_hold rfl ml_X3_78 vir_X3_hold rfl rfl (by decide) (Nat.le_of_ble_eq_true rfl) (Nat.le_of_ble_eq_true rfl) (by decide) (by decide) dX3_takeOpen_23 ?_
    rintro _ _ h3 ⟨rfl, rfl, hq⟩
    refine ck_iconst (v := 0) dX3_takeOpen_26 (by decide) ?_
    exact ck_iret rfl rfl rfl rfl dX3_takeOpen_27 ⟨_, rfl, rfl, hq⟩
  · have hq := hq.2 c1
    refine ck_iconst (v := 2) dX3_takeOpen_9 (by decide) ?_
    exact ck_iret rfl rfl rfl rfl dX3_takeOpen_10 ⟨_, rfl, rfl, hq⟩
def wp_X3_takeSide_162 (Q : Int32 → ck_H → Prop) (y1 : Int32) (y2 : Int32) (h : ck_H) : Prop := (wp_X4_add y1 y2 h (fun h11 => (∀ h12, h12 = ck_sI h11 5 5 (0 : Int32) → Q (0 : Int32) h12)))
def wp_X3_takeSide_119 (Q : Int32 → ck_H → Prop) (x2 : Int32) (h : ck_H) : Prop := (∀ h8, h8 = ck_sI h 5 4 ((h.1 5 4) + (1 : Int32)) → ((¬ x2 = (31 : Int32) → ((¬ x2 = (2 : Int32) → wp_X3_takeSide_162 Q x2 (0 : Int32) h8) ∧ (x2 = (2 : Int32) → wp_X3_takeSide_162 Q x2 (h8.1 3 6) h8))) ∧ (x2 = (31 : Int32) → (wp_X3_hold (31 : Int32) h8 (fun h13 => Q (0 : Int32) h13)))))
def wp_X3_takeSide_90 (Q : Int32 → ck_H → Prop) (x2 : Int32) (h : ck_H) : Prop := (((64 : Int32) ≤ (h.1 5 4) → Q (2 : Int32) h) ∧ (¬ (64 : Int32) ≤ (h.1 5 4) → ((¬ x2 = (2 : Int32) → wp_X3_takeSide_119 Q x2 h) ∧ (x2 = (2 : Int32) → (((h.1 3 6) ≤ (9999 : Int32) → wp_X3_takeSide_119 Q x2 h) ∧ (¬ (h.1 3 6) ≤ (9999 : Int32) → Q (2 : Int32) h))))))
def wp_X3_takeSide_53 (Q : Int32 → ck_H → Prop) (x2 : Int32) (h : ck_H) : Prop := ((¬ x2 = (31 : Int32) → wp_X3_takeSide_90 Q x2 h) ∧ (x2 = (31 : Int32) → (((h.1 5 2) ≤ 0 → wp_X3_takeSide_90 Q x2 h) ∧ (¬ (h.1 5 2) ≤ 0 → (vp_in ((h.1 5 2) - (1 : Int32)) 72 ∧ (wp_X3_rankOf (h.1 6 ((h.1 5 2) - (1 : Int32)).toNatClampNeg) h (fun r18 h17 => (wp_X3_rankOf (31 : Int32) h17 (fun r20 h19 => ((r18 ≤ r20 → wp_X3_takeSide_90 Q x2 h19) ∧ (¬ r18 ≤ r20 → Q (1 : Int32) h19)))))))))))
def wp_X3_takeSide_35 (Q : Int32 → ck_H → Prop) (x2 : Int32) (y0 : Int32) (h : ck_H) : Prop := ((x2 = (31 : Int32) → wp_X3_takeSide_53 Q x2 h) ∧ (¬ x2 = (31 : Int32) → ((x2 = (2 : Int32) → wp_X3_takeSide_53 Q x2 h) ∧ (¬ x2 = (2 : Int32) → ((¬ y0 = 0 → wp_X3_takeSide_53 Q x2 h) ∧ (y0 = 0 → Q (1 : Int32) h))))))
def wp_X3_takeSide_34 (Q : Int32 → ck_H → Prop) (x2 : Int32) (h : ck_H) : Prop := wp_X3_takeSide_35 Q x2 (0 : Int32) h
def wp_X3_takeSide (h : ck_H) (Q : Int32 → ck_H → Prop) : Prop := (∀ v1, v1 = (h.1 3 4) → ((¬ v1 = (5 : Int32) → ((v1 < (32 : Int32) → wp_X3_takeSide_34 Q v1 h) ∧ (¬ v1 < (32 : Int32) → (((38 : Int32) < v1 → wp_X3_takeSide_34 Q v1 h) ∧ (¬ (38 : Int32) < v1 → wp_X3_takeSide_35 Q v1 (1 : Int32) h))))) ∧ (v1 = (5 : Int32) → (wp_X3_takeOpen h (fun r26 h25 => Q r26 h25)))))
set_option maxHeartbeats 4000000 in
set_option maxRecDepth 100000 in
theorem cp_X3_takeSide_162 {gr : Bool} {Q : Int32 → ck_H → Prop} : ∀ (y1 : Int32) (y2 : Int32) (h : ck_H), wp_X3_takeSide_162 Q y1 y2 h → ck_W cX3_takeSide 4 RX3 (some .int) 4 0 0 false gr (ck_Qi ck_shX Q) ck_shX h 0 0 162 [(0, .ref 5)] [.int y2, .int y1, .ref 68] := by
  intro y1 y2 h hq
  refine ck_callV (c_X4_add hq) rfl cal_X4_add rfl ml_X3_82 vir_X4_add rfl rfl (by decide) (Nat.le_of_ble_eq_true rfl) (Nat.le_of_ble_eq_true rfl) (by decide) (by decide) dX3_takeSide_162 ?_
  rintro _ _ h11 ⟨rfl, rfl, hq⟩
  refine ck_aload_n 0 dX3_takeSide_165 rfl rfl ?_
  refine ck_iconst (v := 0) dX3_takeSide_166 (by decide) ?_
  refine ck_putI clX3 5 rfl rfl (by decide) fl_X3_34 rfl (by decide) (by decide) dX3_takeSide_167 ?_
  refine ck_nmH (fun h12 eh12 => ?_)
  have hq := hq h12 eh12
  refine ck_iconst (v := 0) dX3_takeSide_170 (by decide) ?_
  exact ck_iret rfl rfl rfl rfl dX3_takeSide_171 ⟨_, rfl, rfl, hq⟩
set_option maxHeartbeats 4000000 in
set_option maxRecDepth 100000 in
theorem cp_X3_takeSide_119 {gr : Bool} {Q : Int32 → ck_H → Prop} : ∀ (x2 : Int32) (h : ck_H), wp_X3_takeSide_119 Q x2 h → ck_W cX3_takeSide 4 RX3 (some .int) 4 0 0 false gr (ck_Qi ck_shX Q) ck_shX h 0 0 119 [(0, .ref 5), (1, .ref 68), (2, .int x2)] [] := by
  intro x2 h hq
  refine ck_aload_n 0 dX3_takeSide_119 rfl rfl ?_
  refine ck_dup dX3_takeSide_120 rfl ?_
  refine ck_getI clX3 4 rfl rfl (by decide) fl_X3_31 dX3_takeSide_121 ?_
  refine ck_iconst (v := 1) dX3_takeSide_124 (by decide) ?_
  refine ck_iadd dX3_takeSide_125 ?_
  refine ck_putI clX3 4 rfl rfl (by decide) fl_X3_31 rfl rfl rfl dX3_takeSide_126 ?_
  refine ck_nmH (fun h8 eh8 => ?_)
  have hq := hq h8 eh8
  refine ck_iload_n 2 dX3_takeSide_129 rfl rfl ?_
  refine ck_bipush (v := 31) dX3_takeSide_130 (by decide) ?_
  refine ck_icmp_ne (tgt := 144) dX3_takeSide_132 (by decide) (fun c9 => ?_) (fun c9 => ?_)
  · have hq := hq.1 c9
    refine ck_aload_n 1 dX3_takeSide_144 rfl rfl ?_
    refine ck_iload_n 2 dX3_takeSide_145 rfl rfl ?_
    refine ck_iload_n 2 dX3_takeSide_146 rfl rfl ?_
    refine ck_iconst (v := 2) dX3_takeSide_147 (by decide) ?_
    refine ck_icmp_ne (tgt := 161) dX3_takeSide_148 (by decide) (fun c10 => ?_) (fun c10 => ?_)
    · have hq := hq.1 c10
      refine ck_iconst (v := 0) dX3_takeSide_161 (by decide) ?_
      refine ck_loc [0] rfl ?_
      exact cp_X3_takeSide_162 _ _ _ hq
    · have hq := hq.2 c10
      refine ck_aload_n 0 dX3_takeSide_151 rfl rfl ?_
      refine ck_getR clX3 0 rfl rfl (by decide) fl_X3_15 dX3_takeSide_152 ?_
      refine ck_getIN clX8 6 rfl rfl (by decide) fl_X3_75 dX3_takeSide_155 ?_
      refine ck_goto (tgt := 162) dX3_takeSide_158 (by decide) ?_
      refine ck_loc [0] rfl ?_
      exact cp_X3_takeSide_162 _ _ _ hq
  · have hq := hq.2 c9
    refine ck_aload_n 0 dX3_takeSide_135 rfl rfl ?_
    refine ck_bipush (v := 31) dX3_takeSide_136 (by decide) ?_
    refine ck_callV (c_X3_hold hq) rfl cal_X3_hold rfl ml_X3_78 vir_X3_hold rfl rfl (by decide) (Nat.le_of_ble_eq_true rfl) (Nat.le_of_ble_eq_true rfl) (by decide) (by decide) dX3_takeSide_138 ?_
    rintro _ _ h13 ⟨rfl, rfl, hq⟩
    refine ck_goto (tgt := 170) dX3_takeSide_141 (by decide) ?_
    refine ck_iconst (v := 0) dX3_takeSide_170 (by decide) ?_
    exact ck_iret rfl rfl rfl rfl dX3_takeSide_171 ⟨_, rfl, rfl, hq⟩
set_option maxHeartbeats 4000000 in
set_option maxRecDepth 100000 in
theorem cp_X3_takeSide_90 {gr : Bool} {Q : Int32 → ck_H → Prop} : ∀ (x2 : Int32) (h : ck_H), wp_X3_takeSide_90 Q x2 h → ck_W cX3_takeSide 4 RX3 (some .int) 4 0 0 false gr (ck_Qi ck_shX Q) ck_shX h 0 0 90 [(0, .ref 5), (1, .ref 68), (2, .int x2)] [] := by
  intro x2 h hq
  refine ck_aload_n 0 dX3_takeSide_90 rfl rfl ?_
  refine ck_getI clX3 4 rfl rfl (by decide) fl_X3_31 dX3_takeSide_91 ?_
  refine ck_bipush (v := 64) dX3_takeSide_94 (by decide) ?_
  refine ck_icmp_ge (tgt := 117) dX3_takeSide_96 (by decide) (fun c6 => ?_) (fun c6 => ?_)
  · have hq := hq.1 c6
    refine ck_iconst (v := 2) dX3_takeSide_117 (by decide) ?_
    exact ck_iret rfl rfl rfl rfl dX3_takeSide_118 ⟨_, rfl, rfl, hq⟩
  · have hq := hq.2 c6
    refine ck_iload_n 2 dX3_takeSide_99 rfl rfl ?_
    refine ck_iconst (v := 2) dX3_takeSide_100 (by decide) ?_
    refine ck_icmp_ne (tgt := 119) dX3_takeSide_101 (by decide) (fun c7 => ?_) (fun c7 => ?_)
    · have hq := hq.1 c7
      exact cp_X3_takeSide_119 _ _ hq
    · have hq := hq.2 c7
      refine ck_aload_n 0 dX3_takeSide_104 rfl rfl ?_
      refine ck_getR clX3 0 rfl rfl (by decide) fl_X3_15 dX3_takeSide_105 ?_
      refine ck_getIN clX8 6 rfl rfl (by decide) fl_X3_75 dX3_takeSide_108 ?_
      refine ck_sipush (v := 9999) dX3_takeSide_111 (by decide) ?_
      refine ck_icmp_le (tgt := 119) dX3_takeSide_114 (by decide) (fun c14 => ?_) (fun c14 => ?_)
      · have hq := hq.1 c14
        exact cp_X3_takeSide_119 _ _ hq
      · have hq := hq.2 c14
        refine ck_iconst (v := 2) dX3_takeSide_117 (by decide) ?_
        exact ck_iret rfl rfl rfl rfl dX3_takeSide_118 ⟨_, rfl, rfl, hq⟩
set_option maxHeartbeats 4000000 in
set_option maxRecDepth 100000 in
theorem cp_X3_takeSide_53 {gr : Bool} {Q : Int32 → ck_H → Prop} : ∀ (x2 : Int32) (h : ck_H), wp_X3_takeSide_53 Q x2 h → ck_W cX3_takeSide 4 RX3 (some .int) 4 0 0 false gr (ck_Qi ck_shX Q) ck_shX h 0 0 53 [(0, .ref 5), (1, .ref 68), (2, .int x2)] [] := by
  intro x2 h hq
  refine ck_iload_n 2 dX3_takeSide_53 rfl rfl ?_
  refine ck_bipush (v := 31) dX3_takeSide_54 (by decide) ?_
  refine ck_icmp_ne (tgt := 90) dX3_takeSide_56 (by decide) (fun c5 => ?_) (fun c5 => ?_)
  · have hq := hq.1 c5
    exact cp_X3_takeSide_90 _ _ hq
  · have hq := hq.2 c5
    refine ck_aload_n 0 dX3_takeSide_59 rfl rfl ?_
    refine ck_getI clX3 2 rfl rfl (by decide) fl_X3_19 dX3_takeSide_60 ?_
    refine ck_if_le (tgt := 90) dX3_takeSide_63 (by decide) (fun c15 => ?_) (fun c15 => ?_)
    · have hq := hq.1 c15
      exact cp_X3_takeSide_90 _ _ hq
    · have hq := hq.2 c15
      refine ck_aload_n 0 dX3_takeSide_66 rfl rfl ?_
      refine ck_getR clX3 1 rfl rfl (by decide) fl_X3_9 dX3_takeSide_67 ?_
      refine ck_aload_n 0 dX3_takeSide_70 rfl rfl ?_
      refine ck_getI clX3 2 rfl rfl (by decide) fl_X3_19 dX3_takeSide_71 ?_
      refine ck_iconst (v := 1) dX3_takeSide_74 (by decide) ?_
      refine ck_isub dX3_takeSide_75 ?_
      obtain ⟨b16, hq⟩ := hq
      refine ck_iald rfl rfl b16 dX3_takeSide_76 ?_
      refine ck_callS (c_X3_rankOf hq) rfl cal_X3_rankOf rfl ml_X3_57 sta_X3_rankOf (by decide) (Nat.le_of_ble_eq_true rfl) (Nat.le_of_ble_eq_true rfl) (by decide) (by decide) dX3_takeSide_77 ?_
      rintro _ _ h17 ⟨r18, rfl, rfl, hq⟩
      refine ck_bipush (v := 31) dX3_takeSide_80 (by decide) ?_
      refine ck_callS (c_X3_rankOf hq) rfl cal_X3_rankOf rfl ml_X3_57 sta_X3_rankOf (by decide) (Nat.le_of_ble_eq_true rfl) (Nat.le_of_ble_eq_true rfl) (by decide) (by decide) dX3_takeSide_82 ?_
      rintro _ _ h19 ⟨r20, rfl, rfl, hq⟩
      refine ck_icmp_le (tgt := 90) dX3_takeSide_85 (by decide) (fun c21 => ?_) (fun c21 => ?_)
      · have hq := hq.1 c21
        exact cp_X3_takeSide_90 _ _ hq
      · have hq := hq.2 c21
        refine ck_iconst (v := 1) dX3_takeSide_88 (by decide) ?_
        exact ck_iret rfl rfl rfl rfl dX3_takeSide_89 ⟨_, rfl, rfl, hq⟩
set_option maxHeartbeats 4000000 in
set_option maxRecDepth 100000 in
theorem cp_X3_takeSide_35 {gr : Bool} {Q : Int32 → ck_H → Prop} : ∀ (x2 : Int32) (y0 : Int32) (h : ck_H), wp_X3_takeSide_35 Q x2 y0 h → ck_W cX3_takeSide 4 RX3 (some .int) 4 0 0 false gr (ck_Qi ck_shX Q) ck_shX h 0 0 35 [(0, .ref 5), (1, .ref 68), (2, .int x2)] [.int y0] := by
  intro x2 y0 h hq
  refine ck_istore_n (lv' := [(3, .int y0), (0, .ref 5), (1, .ref 68), (2, .int x2)]) dX3_takeSide_35 rfl (by decide) rfl ?_
  refine ck_iload_n 3 dX3_takeSide_36 rfl rfl ?_
  refine ck_bipush (v := 31) dX3_takeSide_37 (by decide) ?_
  refine ck_icmp_eq (tgt := 53) dX3_takeSide_39 (by decide) (fun c4 => ?_) (fun c4 => ?_)
  · have hq := hq.1 c4
    refine ck_loc [1, 2, 3] rfl ?_
    exact cp_X3_takeSide_53 _ _ hq
  · have hq := hq.2 c4
    refine ck_iload_n 3 dX3_takeSide_42 rfl rfl ?_
    refine ck_iconst (v := 2) dX3_takeSide_43 (by decide) ?_
    refine ck_icmp_eq (tgt := 53) dX3_takeSide_44 (by decide) (fun c22 => ?_) (fun c22 => ?_)
    · have hq := hq.1 c22
      refine ck_loc [1, 2, 3] rfl ?_
      exact cp_X3_takeSide_53 _ _ hq
    · have hq := hq.2 c22
      refine ck_iload_n 0 dX3_takeSide_47 rfl rfl ?_
      refine ck_if_ne (tgt := 53) dX3_takeSide_48 (by decide) (fun c23 => ?_) (fun c23 => ?_)
      · have hq := hq.1 c23
        refine ck_loc [1, 2, 3] rfl ?_
        exact cp_X3_takeSide_53 _ _ hq
      · have hq := hq.2 c23
        refine ck_iconst (v := 1) dX3_takeSide_51 (by decide) ?_
        exact ck_iret rfl rfl rfl rfl dX3_takeSide_52 ⟨_, rfl, rfl, hq⟩
set_option maxHeartbeats 4000000 in
set_option maxRecDepth 100000 in
theorem cp_X3_takeSide_34 {gr : Bool} {Q : Int32 → ck_H → Prop} : ∀ (x2 : Int32) (h : ck_H), wp_X3_takeSide_34 Q x2 h → ck_W cX3_takeSide 4 RX3 (some .int) 4 0 0 false gr (ck_Qi ck_shX Q) ck_shX h 0 0 34 [(0, .ref 5), (1, .ref 68), (2, .int x2)] [] := by
  intro x2 h hq
  refine ck_iconst (v := 0) dX3_takeSide_34 (by decide) ?_
  exact cp_X3_takeSide_35 _ _ _ hq
set_option maxHeartbeats 4000000 in
set_option maxRecDepth 100000 in
theorem c_X3_takeSide {gr : Bool} {h : ck_H} {Q : Int32 → ck_H → Prop} (hq : wp_X3_takeSide h Q) : ck_M yX3_takeSide cX3_takeSide 4 (some .int) 4 0 0 gr ck_shX h [.ref 5, .ref 68] (ck_Qi ck_shX Q) := by
  refine ck_entry (lv := [(0, .ref 5), (1, .ref 68)]) false (own := RX3) rfl (fun q => by cases q) (by decide) (Nat.le_of_ble_eq_true rfl) rfl ?_
  refine ck_aload_n 0 dX3_takeSide_0 rfl rfl ?_
  refine ck_getR clX3 0 rfl rfl (by decide) fl_X3_15 dX3_takeSide_1 ?_
  refine ck_getIN clX8 4 rfl rfl (by decide) fl_X3_68 dX3_takeSide_4 ?_
  refine ck_nmI (fun v1 ev1 => ?_)
  have hq := hq v1 ev1
  refine ck_istore_n (lv' := [(2, .int v1), (0, .ref 5), (1, .ref 68)]) dX3_takeSide_7 rfl (by decide) rfl ?_
  refine ck_iload_n 0 dX3_takeSide_8 rfl rfl ?_
  refine ck_iconst (v := 5) dX3_takeSide_9 (by decide) ?_
  refine ck_icmp_ne (tgt := 18) dX3_takeSide_10 (by decide) (fun c2 => ?_) (fun c2 => ?_)
  · have hq := hq.1 c2
    refine ck_iload_n 0 dX3_takeSide_18 rfl rfl ?_
    refine ck_bipush (v := 32) dX3_takeSide_19 (by decide) ?_
    refine ck_icmp_lt (tgt := 34) dX3_takeSide_21 (by decide) (fun c3 => ?_) (fun c3 => ?_)
    · have hq := hq.1 c3
      refine ck_loc [1, 2, 0] rfl ?_
      exact cp_X3_takeSide_34 _ _ hq
    · have hq := hq.2 c3
      refine ck_iload_n 0 dX3_takeSide_24 rfl rfl ?_
      refine ck_bipush (v := 38) dX3_takeSide_25 (by decide) ?_
      refine ck_icmp_gt (tgt := 34) dX3_takeSide_27 (by decide) (fun c24 => ?_) (fun c24 => ?_)
      · have hq := hq.1 c24
        refine ck_loc [1, 2, 0] rfl ?_
        exact cp_X3_takeSide_34 _ _ hq
      · have hq := hq.2 c24
        refine ck_iconst (v := 1) dX3_takeSide_30 (by decide) ?_
        refine ck_goto (tgt := 35) dX3_takeSide_31 (by decide) ?_
        refine ck_loc [1, 2, 0] rfl ?_
        exact cp_X3_takeSide_35 _ _ _ hq
  · have hq := hq.2 c2
    refine ck_aload_n 1 dX3_takeSide_13 rfl rfl ?_
    refine ck_callV (c_X3_takeOpen hq) rfl cal_X3_takeOpen rfl ml_X3_71 vir_X3_takeOpen rfl rfl (by decide) (Nat.le_of_ble_eq_true rfl) (Nat.le_of_ble_eq_true rfl) (by decide) (by decide) dX3_takeSide_14 ?_
    rintro _ _ h25 ⟨r26, rfl, rfl, hq⟩
    exact ck_iret rfl rfl rfl rfl dX3_takeSide_17 ⟨_, rfl, rfl, hq⟩
def wp_X3_release_0 (Q : ck_H → Prop) : Nat → Int32 → ck_H → Prop
  | 0 => fun _ _ => False
  | n + 1 => fun x2 h => (((h.1 5 2) ≤ 0 → Q h) ∧ (¬ (h.1 5 2) ≤ 0 → (vp_in ((h.1 5 2) - (1 : Int32)) 72 ∧ (wp_X3_rankOf (h.1 6 ((h.1 5 2) - (1 : Int32)).toNatClampNeg) h (fun r4 h3 => ((r4 < x2 → Q h3) ∧ (¬ r4 < x2 → (∀ h6, h6 = ck_sI h3 5 2 ((h3.1 5 2) - (1 : Int32)) → (vp_in (h6.1 5 2) 72 ∧ (wp_X4_add (h6.1 6 (h6.1 5 2).toNatClampNeg) (0 : Int32) h6 (fun h8 => (wp_X3_release_0 Q n) x2 h8)))))))))))
def wp_X3_release (x2 : Int32) (h : ck_H) (Q : ck_H → Prop) : Prop := wp_X3_release_0 Q lpN x2 h
set_option maxHeartbeats 4000000 in
set_option maxRecDepth 100000 in
theorem cp_X3_release_0 {gr : Bool} {Q : ck_H → Prop} : ∀ (n : Nat) (x2 : Int32) (h : ck_H), wp_X3_release_0 Q n x2 h → ck_W cX3_release 3 RX3 none 3 0 0 false gr (ck_Qv ck_shX Q) ck_shX h 0 0 0 [(0, .ref 5), (1, .ref 68), (2, .int x2)] [] := by
  intro n
  induction n with
  | zero => intro x2 h hq; exact hq.elim
  | succ n hKc =>
    intro x2 h hq
    refine ck_aload_n 0 dX3_release_0 rfl rfl ?_
    refine ck_getI clX3 2 rfl rfl (by decide) fl_X3_19 dX3_release_1 ?_
    refine ck_if_le (tgt := 52) dX3_release_4 (by decide) (fun c1 => ?_) (fun c1 => ?_)
    · have hq := hq.1 c1
      exact ck_vret rfl rfl rfl dX3_release_52 ⟨rfl, rfl, hq⟩
    · have hq := hq.2 c1
      refine ck_aload_n 0 dX3_release_7 rfl rfl ?_
      refine ck_getR clX3 1 rfl rfl (by decide) fl_X3_9 dX3_release_8 ?_
      refine ck_aload_n 0 dX3_release_11 rfl rfl ?_
      refine ck_getI clX3 2 rfl rfl (by decide) fl_X3_19 dX3_release_12 ?_
      refine ck_iconst (v := 1) dX3_release_15 (by decide) ?_
      refine ck_isub dX3_release_16 ?_
      obtain ⟨b2, hq⟩ := hq
      refine ck_iald rfl rfl b2 dX3_release_17 ?_
      refine ck_callS (c_X3_rankOf hq) rfl cal_X3_rankOf rfl ml_X3_57 sta_X3_rankOf (by decide) (Nat.le_of_ble_eq_true rfl) (Nat.le_of_ble_eq_true rfl) (by decide) (by decide) dX3_release_18 ?_
      rintro _ _ h3 ⟨r4, rfl, rfl, hq⟩
      refine ck_iload_n 2 dX3_release_21 rfl rfl ?_
      refine ck_icmp_lt (tgt := 52) dX3_release_22 (by decide) (fun c5 => ?_) (fun c5 => ?_)
      · have hq := hq.1 c5
        exact ck_vret rfl rfl rfl dX3_release_52 ⟨rfl, rfl, hq⟩
      · have hq := hq.2 c5
        refine ck_aload_n 0 dX3_release_25 rfl rfl ?_
        refine ck_dup dX3_release_26 rfl ?_
        refine ck_getI clX3 2 rfl rfl (by decide) fl_X3_19 dX3_release_27 ?_
        refine ck_iconst (v := 1) dX3_release_30 (by decide) ?_
        refine ck_isub dX3_release_31 ?_
        refine ck_putI clX3 2 rfl rfl (by decide) fl_X3_19 rfl rfl rfl dX3_release_32 ?_
        refine ck_nmH (fun h6 eh6 => ?_)
        have hq := hq h6 eh6
        refine ck_aload_n 1 dX3_release_35 rfl rfl ?_
        refine ck_aload_n 0 dX3_release_36 rfl rfl ?_
        refine ck_getR clX3 1 rfl rfl (by decide) fl_X3_9 dX3_release_37 ?_
        refine ck_aload_n 0 dX3_release_40 rfl rfl ?_
        refine ck_getI clX3 2 rfl rfl (by decide) fl_X3_19 dX3_release_41 ?_
        obtain ⟨b7, hq⟩ := hq
        refine ck_iald rfl rfl b7 dX3_release_44 ?_
        refine ck_iconst (v := 0) dX3_release_45 (by decide) ?_
        refine ck_callV (c_X4_add hq) rfl cal_X4_add rfl ml_X3_82 vir_X4_add rfl rfl (by decide) (Nat.le_of_ble_eq_true rfl) (Nat.le_of_ble_eq_true rfl) (by decide) (by decide) dX3_release_46 ?_
        rintro _ _ h8 ⟨rfl, rfl, hq⟩
        refine ck_goto (tgt := 0) dX3_release_49 (by decide) ?_
        exact hKc _ _ hq
set_option maxHeartbeats 4000000 in
set_option maxRecDepth 100000 in
theorem c_X3_release {gr : Bool} {x2 : Int32} {h : ck_H} {Q : ck_H → Prop} (hq : wp_X3_release x2 h Q) : ck_M yX3_release cX3_release 3 none 3 0 0 gr ck_shX h [.ref 5, .ref 68, .int x2] (ck_Qv ck_shX Q) := by
  refine ck_entry (lv := [(0, .ref 5), (1, .ref 68), (2, .int x2)]) false (own := RX3) rfl (fun q => by cases q) (by decide) (Nat.le_of_ble_eq_true rfl) rfl ?_
  refine cp_X3_release_0 lpN _ _ hq
def wp_X3_dropOpen_17 (Q : ck_H → Prop) (h : ck_H) : Prop := (∀ h2, h2 = ck_sI h 5 3 ((h.1 5 3) - (1 : Int32)) → Q h2)
def wp_X3_dropOpen (h : ck_H) (Q : ck_H → Prop) : Prop := (((h.1 5 2) ≤ 0 → wp_X3_dropOpen_17 Q h) ∧ (¬ (h.1 5 2) ≤ 0 → (∀ h3, h3 = ck_sI h 5 2 ((h.1 5 2) - (1 : Int32)) → wp_X3_dropOpen_17 Q h3)))
set_option maxHeartbeats 4000000 in
set_option maxRecDepth 100000 in
theorem cp_X3_dropOpen_17 {gr : Bool} {Q : ck_H → Prop} : ∀ (h : ck_H), wp_X3_dropOpen_17 Q h → ck_W cX3_dropOpen 1 RX3 none 2 0 0 false gr (ck_Qv ck_shX Q) ck_shX h 0 0 17 [(0, .ref 5)] [] := by
  intro h hq
  refine ck_aload_n 0 dX3_dropOpen_17 rfl rfl ?_
  refine ck_dup dX3_dropOpen_18 rfl ?_
  refine ck_getI clX3 3 rfl rfl (by decide) fl_X3_23 dX3_dropOpen_19 ?_
  refine ck_iconst (v := 1) dX3_dropOpen_22 (by decide) ?_
  refine ck_isub dX3_dropOpen_23 ?_
  refine ck_putI clX3 3 rfl rfl (by decide) fl_X3_23 rfl rfl rfl dX3_dropOpen_24 ?_
  refine ck_nmH (fun h2 eh2 => ?_)
  have hq := hq h2 eh2
  exact ck_vret rfl rfl rfl dX3_dropOpen_27 ⟨rfl, rfl, hq⟩
set_option maxHeartbeats 4000000 in
set_option maxRecDepth 100000 in
theorem c_X3_dropOpen {gr : Bool} {h : ck_H} {Q : ck_H → Prop} (hq : wp_X3_dropOpen h Q) : ck_M yX3_dropOpen cX3_dropOpen 1 none 2 0 0 gr ck_shX h [.ref 5] (ck_Qv ck_shX Q) := by
  refine ck_entry (lv := [(0, .ref 5)]) false (own := RX3) rfl (fun q => by cases q) (by decide) (Nat.le_of_ble_eq_true rfl) rfl ?_
  refine ck_aload_n 0 dX3_dropOpen_0 rfl rfl ?_
  refine ck_getI clX3 2 rfl rfl (by decide) fl_X3_19 dX3_dropOpen_1 ?_
  refine ck_if_le (tgt := 17) dX3_dropOpen_4 (by decide) (fun c1 => ?_) (fun c1 => ?_)
  · have hq := hq.1 c1
    exact cp_X3_dropOpen_17  _ hq
  · have hq := hq.2 c1
    refine ck_aload_n 0 dX3_dropOpen_7 rfl rfl ?_
    refine ck_dup dX3_dropOpen_8 rfl ?_
    refine ck_getI clX3 2 rfl rfl (by decide) fl_X3_19 dX3_dropOpen_9 ?_
    refine ck_iconst (v := 1) dX3_dropOpen_12 (by decide) ?_
    refine ck_isub dX3_dropOpen_13 ?_
    refine ck_putI clX3 2 rfl rfl (by decide) fl_X3_19 rfl rfl rfl dX3_dropOpen_14 ?_
    refine ck_nmH (fun h3 eh3 => ?_)
    have hq := hq h3 eh3
    exact cp_X3_dropOpen_17  _ hq
def wp_X3_takeSign_100 (Q : Int32 → ck_H → Prop) (x2 : Int32) (h : ck_H) : Prop := (((h.1 5 4) < (64 : Int32) → (∀ h12, h12 = ck_sI h 5 4 ((h.1 5 4) + (1 : Int32)) → (wp_X3_hold x2 h12 (fun h13 => (∀ h14, h14 = ck_sI h13 5 5 (1 : Int32) → Q (0 : Int32) h14))))) ∧ (¬ (h.1 5 4) < (64 : Int32) → Q (2 : Int32) h))
def wp_X3_takeSign_65 (Q : Int32 → ck_H → Prop) (x2 : Int32) (x3 : Int32) (x4 : Int32) (y2 : Int32) (h : ck_H) : Prop := (wp_X3_release y2 h (fun h9 => ((x4 = 0 → wp_X3_takeSign_100 Q x2 h9) ∧ (¬ x4 = 0 → (((h9.1 5 2) ≤ 0 → wp_X3_takeSign_100 Q x2 h9) ∧ (¬ (h9.1 5 2) ≤ 0 → (vp_in ((h9.1 5 2) - (1 : Int32)) 72 ∧ (wp_X3_rankOf (h9.1 6 ((h9.1 5 2) - (1 : Int32)).toNatClampNeg) h9 (fun r18 h17 => ((¬ r18 = x3 → wp_X3_takeSign_100 Q x2 h17) ∧ (r18 = x3 → Q (1 : Int32) h17)))))))))))
def wp_X3_takeSign_49 (Q : Int32 → ck_H → Prop) (x2 : Int32) (x3 : Int32) (y0 : Int32) (h : ck_H) : Prop := ((y0 = 0 → wp_X3_takeSign_65 Q x2 x3 y0 x3 h) ∧ (¬ y0 = 0 → wp_X3_takeSign_65 Q x2 x3 y0 (x3 + (1 : Int32)) h))
def wp_X3_takeSign (h : ck_H) (Q : Int32 → ck_H → Prop) : Prop := (∀ v1, v1 = (h.1 3 4) → ((¬ v1 = (6 : Int32) → (wp_X3_rankOf v1 h (fun r4 h3 => (wp_X3_rankOf (11 : Int32) h3 (fun r6 h5 => ((¬ r4 = r6 → wp_X3_takeSign_49 Q v1 r4 (0 : Int32) h5) ∧ (r4 = r6 → wp_X3_takeSign_49 Q v1 r4 (1 : Int32) h5))))))) ∧ (v1 = (6 : Int32) → (wp_X3_rankOf (29 : Int32) h (fun r21 h20 => (wp_X3_release r21 h20 (fun h22 => (wp_X3_dropOpen h22 (fun h23 => Q (0 : Int32) h23)))))))))
set_option maxHeartbeats 4000000 in
set_option maxRecDepth 100000 in
theorem cp_X3_takeSign_100 {gr : Bool} {Q : Int32 → ck_H → Prop} : ∀ (x2 : Int32) (h : ck_H), wp_X3_takeSign_100 Q x2 h → ck_W cX3_takeSign 5 RX3 (some .int) 4 0 0 false gr (ck_Qi ck_shX Q) ck_shX h 0 0 100 [(0, .ref 5), (2, .int x2)] [] := by
  intro x2 h hq
  refine ck_aload_n 0 dX3_takeSign_100 rfl rfl ?_
  refine ck_getI clX3 4 rfl rfl (by decide) fl_X3_31 dX3_takeSign_101 ?_
  refine ck_bipush (v := 64) dX3_takeSign_104 (by decide) ?_
  refine ck_icmp_lt (tgt := 111) dX3_takeSign_106 (by decide) (fun c11 => ?_) (fun c11 => ?_)
  · have hq := hq.1 c11
    refine ck_aload_n 0 dX3_takeSign_111 rfl rfl ?_
    refine ck_dup dX3_takeSign_112 rfl ?_
    refine ck_getI clX3 4 rfl rfl (by decide) fl_X3_31 dX3_takeSign_113 ?_
    refine ck_iconst (v := 1) dX3_takeSign_116 (by decide) ?_
    refine ck_iadd dX3_takeSign_117 ?_
    refine ck_putI clX3 4 rfl rfl (by decide) fl_X3_31 rfl rfl rfl dX3_takeSign_118 ?_
    refine ck_nmH (fun h12 eh12 => ?_)
    have hq := hq h12 eh12
    refine ck_aload_n 0 dX3_takeSign_121 rfl rfl ?_
    refine ck_iload_n 1 dX3_takeSign_122 rfl rfl ?_
    refine ck_callV (c_X3_hold hq) rfl cal_X3_hold rfl ml_X3_78 vir_X3_hold rfl rfl (by decide) (Nat.le_of_ble_eq_true rfl) (Nat.le_of_ble_eq_true rfl) (by decide) (by decide) dX3_takeSign_123 ?_
    rintro _ _ h13 ⟨rfl, rfl, hq⟩
    refine ck_aload_n 0 dX3_takeSign_126 rfl rfl ?_
    refine ck_iconst (v := 1) dX3_takeSign_127 (by decide) ?_
    refine ck_putI clX3 5 rfl rfl (by decide) fl_X3_34 rfl (by decide) (by decide) dX3_takeSign_128 ?_
    refine ck_nmH (fun h14 eh14 => ?_)
    have hq := hq h14 eh14
    refine ck_iconst (v := 0) dX3_takeSign_131 (by decide) ?_
    exact ck_iret rfl rfl rfl rfl dX3_takeSign_132 ⟨_, rfl, rfl, hq⟩
  · have hq := hq.2 c11
    refine ck_iconst (v := 2) dX3_takeSign_109 (by decide) ?_
    exact ck_iret rfl rfl rfl rfl dX3_takeSign_110 ⟨_, rfl, rfl, hq⟩
set_option maxHeartbeats 4000000 in
set_option maxRecDepth 100000 in
theorem cp_X3_takeSign_65 {gr : Bool} {Q : Int32 → ck_H → Prop} : ∀ (x2 : Int32) (x3 : Int32) (x4 : Int32) (y2 : Int32) (h : ck_H), wp_X3_takeSign_65 Q x2 x3 x4 y2 h → ck_W cX3_takeSign 5 RX3 (some .int) 4 0 0 false gr (ck_Qi ck_shX Q) ck_shX h 0 0 65 [(0, .ref 5), (2, .int x2), (3, .int x3), (4, .int x4)] [.int y2, .ref 68, .ref 5] := by
  intro x2 x3 x4 y2 h hq
  refine ck_callV (c_X3_release hq) rfl cal_X3_release rfl ml_X3_61 vir_X3_release rfl rfl (by decide) (Nat.le_of_ble_eq_true rfl) (Nat.le_of_ble_eq_true rfl) (by decide) (by decide) dX3_takeSign_65 ?_
  rintro _ _ h9 ⟨rfl, rfl, hq⟩
  refine ck_iload 3 dX3_takeSign_68 rfl ?_
  refine ck_if_eq (tgt := 100) dX3_takeSign_70 (by decide) (fun c10 => ?_) (fun c10 => ?_)
  · have hq := hq.1 c10
    refine ck_loc [0, 1] rfl ?_
    exact cp_X3_takeSign_100 _ _ hq
  · have hq := hq.2 c10
    refine ck_aload_n 0 dX3_takeSign_73 rfl rfl ?_
    refine ck_getI clX3 2 rfl rfl (by decide) fl_X3_19 dX3_takeSign_74 ?_
    refine ck_if_le (tgt := 100) dX3_takeSign_77 (by decide) (fun c15 => ?_) (fun c15 => ?_)
    · have hq := hq.1 c15
      refine ck_loc [0, 1] rfl ?_
      exact cp_X3_takeSign_100 _ _ hq
    · have hq := hq.2 c15
      refine ck_aload_n 0 dX3_takeSign_80 rfl rfl ?_
      refine ck_getR clX3 1 rfl rfl (by decide) fl_X3_9 dX3_takeSign_81 ?_
      refine ck_aload_n 0 dX3_takeSign_84 rfl rfl ?_
      refine ck_getI clX3 2 rfl rfl (by decide) fl_X3_19 dX3_takeSign_85 ?_
      refine ck_iconst (v := 1) dX3_takeSign_88 (by decide) ?_
      refine ck_isub dX3_takeSign_89 ?_
      obtain ⟨b16, hq⟩ := hq
      refine ck_iald rfl rfl b16 dX3_takeSign_90 ?_
      refine ck_callS (c_X3_rankOf hq) rfl cal_X3_rankOf rfl ml_X3_57 sta_X3_rankOf (by decide) (Nat.le_of_ble_eq_true rfl) (Nat.le_of_ble_eq_true rfl) (by decide) (by decide) dX3_takeSign_91 ?_
      rintro _ _ h17 ⟨r18, rfl, rfl, hq⟩
      refine ck_iload_n 2 dX3_takeSign_94 rfl rfl ?_
      refine ck_icmp_ne (tgt := 100) dX3_takeSign_95 (by decide) (fun c19 => ?_) (fun c19 => ?_)
      · have hq := hq.1 c19
        refine ck_loc [0, 1] rfl ?_
        exact cp_X3_takeSign_100 _ _ hq
      · have hq := hq.2 c19
        refine ck_iconst (v := 1) dX3_takeSign_98 (by decide) ?_
        exact ck_iret rfl rfl rfl rfl dX3_takeSign_99 ⟨_, rfl, rfl, hq⟩
set_option maxHeartbeats 4000000 in
set_option maxRecDepth 100000 in
theorem cp_X3_takeSign_49 {gr : Bool} {Q : Int32 → ck_H → Prop} : ∀ (x2 : Int32) (x3 : Int32) (y0 : Int32) (h : ck_H), wp_X3_takeSign_49 Q x2 x3 y0 h → ck_W cX3_takeSign 5 RX3 (some .int) 4 0 0 false gr (ck_Qi ck_shX Q) ck_shX h 0 0 49 [(0, .ref 5), (1, .ref 68), (2, .int x2), (3, .int x3)] [.int y0] := by
  intro x2 x3 y0 h hq
  refine ck_istore (lv' := [(4, .int y0), (0, .ref 5), (1, .ref 68), (2, .int x2), (3, .int x3)]) dX3_takeSign_49 (by decide) rfl ?_
  refine ck_aload_n 1 dX3_takeSign_51 rfl rfl ?_
  refine ck_aload_n 2 dX3_takeSign_52 rfl rfl ?_
  refine ck_iload 0 dX3_takeSign_53 rfl ?_
  refine ck_if_eq (tgt := 64) dX3_takeSign_55 (by decide) (fun c8 => ?_) (fun c8 => ?_)
  · have hq := hq.1 c8
    refine ck_iload_n 4 dX3_takeSign_64 rfl rfl ?_
    refine ck_loc [1, 3, 4, 0] rfl ?_
    exact cp_X3_takeSign_65 _ _ _ _ _ hq
  · have hq := hq.2 c8
    refine ck_iload_n 4 dX3_takeSign_58 rfl rfl ?_
    refine ck_iconst (v := 1) dX3_takeSign_59 (by decide) ?_
    refine ck_iadd dX3_takeSign_60 ?_
    refine ck_goto (tgt := 65) dX3_takeSign_61 (by decide) ?_
    refine ck_loc [1, 3, 4, 0] rfl ?_
    exact cp_X3_takeSign_65 _ _ _ _ _ hq
set_option maxHeartbeats 4000000 in
set_option maxRecDepth 100000 in
theorem c_X3_takeSign {gr : Bool} {h : ck_H} {Q : Int32 → ck_H → Prop} (hq : wp_X3_takeSign h Q) : ck_M yX3_takeSign cX3_takeSign 5 (some .int) 4 0 0 gr ck_shX h [.ref 5, .ref 68] (ck_Qi ck_shX Q) := by
  refine ck_entry (lv := [(0, .ref 5), (1, .ref 68)]) false (own := RX3) rfl (fun q => by cases q) (by decide) (Nat.le_of_ble_eq_true rfl) rfl ?_
  refine ck_aload_n 0 dX3_takeSign_0 rfl rfl ?_
  refine ck_getR clX3 0 rfl rfl (by decide) fl_X3_15 dX3_takeSign_1 ?_
  refine ck_getIN clX8 4 rfl rfl (by decide) fl_X3_68 dX3_takeSign_4 ?_
  refine ck_nmI (fun v1 ev1 => ?_)
  have hq := hq v1 ev1
  refine ck_istore_n (lv' := [(2, .int v1), (0, .ref 5), (1, .ref 68)]) dX3_takeSign_7 rfl (by decide) rfl ?_
  refine ck_iload_n 0 dX3_takeSign_8 rfl rfl ?_
  refine ck_bipush (v := 6) dX3_takeSign_9 (by decide) ?_
  refine ck_icmp_ne (tgt := 30) dX3_takeSign_11 (by decide) (fun c2 => ?_) (fun c2 => ?_)
  · have hq := hq.1 c2
    refine ck_iload_n 0 dX3_takeSign_30 rfl rfl ?_
    refine ck_callS (c_X3_rankOf hq) rfl cal_X3_rankOf rfl ml_X3_57 sta_X3_rankOf (by decide) (Nat.le_of_ble_eq_true rfl) (Nat.le_of_ble_eq_true rfl) (by decide) (by decide) dX3_takeSign_31 ?_
    rintro _ _ h3 ⟨r4, rfl, rfl, hq⟩
    refine ck_istore_n (lv' := [(3, .int r4), (2, .int v1), (0, .ref 5), (1, .ref 68)]) dX3_takeSign_34 rfl (by decide) rfl ?_
    refine ck_iload_n 0 dX3_takeSign_35 rfl rfl ?_
    refine ck_bipush (v := 11) dX3_takeSign_36 (by decide) ?_
    refine ck_callS (c_X3_rankOf hq) rfl cal_X3_rankOf rfl ml_X3_57 sta_X3_rankOf (by decide) (Nat.le_of_ble_eq_true rfl) (Nat.le_of_ble_eq_true rfl) (by decide) (by decide) dX3_takeSign_38 ?_
    rintro _ _ h5 ⟨r6, rfl, rfl, hq⟩
    refine ck_icmp_ne (tgt := 48) dX3_takeSign_41 (by decide) (fun c7 => ?_) (fun c7 => ?_)
    · have hq := hq.1 c7
      refine ck_iconst (v := 0) dX3_takeSign_48 (by decide) ?_
      refine ck_loc [2, 3, 1, 0] rfl ?_
      exact cp_X3_takeSign_49 _ _ _ _ hq
    · have hq := hq.2 c7
      refine ck_iconst (v := 1) dX3_takeSign_44 (by decide) ?_
      refine ck_goto (tgt := 49) dX3_takeSign_45 (by decide) ?_
      refine ck_loc [2, 3, 1, 0] rfl ?_
      exact cp_X3_takeSign_49 _ _ _ _ hq
  · have hq := hq.2 c2
    refine ck_aload_n 1 dX3_takeSign_14 rfl rfl ?_
    refine ck_aload_n 2 dX3_takeSign_15 rfl rfl ?_
    refine ck_bipush (v := 29) dX3_takeSign_16 (by decide) ?_
    refine ck_callS (c_X3_rankOf hq) rfl cal_X3_rankOf rfl ml_X3_57 sta_X3_rankOf (by decide) (Nat.le_of_ble_eq_true rfl) (Nat.le_of_ble_eq_true rfl) (by decide) (by decide) dX3_takeSign_18 ?_
    rintro _ _ h20 ⟨r21, rfl, rfl, hq⟩
    refine ck_callV (c_X3_release hq) rfl cal_X3_release rfl ml_X3_61 vir_X3_release rfl rfl (by decide) (Nat.le_of_ble_eq_true rfl) (Nat.le_of_ble_eq_true rfl) (by decide) (by decide) dX3_takeSign_21 ?_
    rintro _ _ h22 ⟨rfl, rfl, hq⟩
    refine ck_aload_n 1 dX3_takeSign_24 rfl rfl ?_
    refine ck_callV (c_X3_dropOpen hq) rfl cal_X3_dropOpen rfl ml_X3_86 vir_X3_dropOpen rfl rfl (by decide) (Nat.le_of_ble_eq_true rfl) (Nat.le_of_ble_eq_true rfl) (by decide) (by decide) dX3_takeSign_25 ?_
    rintro _ _ h23 ⟨rfl, rfl, hq⟩
    refine ck_iconst (v := 0) dX3_takeSign_28 (by decide) ?_
    exact ck_iret rfl rfl rfl rfl dX3_takeSign_29 ⟨_, rfl, rfl, hq⟩
def wp_X3_readInto_96 (Q : Int32 → ck_H → Prop) (K102 : Int32 → Int32 → ck_H → Prop) (Kc : Int32 → Int32 → Int32 → ck_H → Prop) (x2 : Int32) (x3 : Int32) (x4 : Int32) (h : ck_H) : Prop := (∀ v14, v14 = x4 + 1 → Kc x2 x3 v14 h)
def wp_X3_readInto_84 (Q : Int32 → ck_H → Prop) (K102 : Int32 → Int32 → ck_H → Prop) (Kc : Int32 → Int32 → Int32 → ck_H → Prop) (x2 : Int32) (x4 : Int32) (y0 : Int32) (h : ck_H) : Prop := ((¬ y0 = 0 → wp_X3_readInto_96 Q K102 Kc x2 y0 x4 h) ∧ (y0 = 0 → (wp_X8_next h (fun h15 => wp_X3_readInto_96 Q K102 Kc x2 y0 x4 h15))))
def wp_X3_readInto_64 (Q : Int32 → ck_H → Prop) (K102 : Int32 → Int32 → ck_H → Prop) (Kc : Int32 → Int32 → Int32 → ck_H → Prop) (x2 : Int32) (x4 : Int32) (h : ck_H) : Prop := (((h.1 5 5) = 0 → (wp_X3_takeSign h (fun r12 h11 => wp_X3_readInto_84 Q K102 Kc x2 x4 r12 h11))) ∧ (¬ (h.1 5 5) = 0 → (wp_X3_takeSide h (fun r17 h16 => wp_X3_readInto_84 Q K102 Kc x2 x4 r17 h16))))
def wp_X3_readInto_38 (Q : Int32 → ck_H → Prop) (K102 : Int32 → Int32 → ck_H → Prop) : Nat → Int32 → Int32 → Int32 → ck_H → Prop
  | 0 => fun _ _ _ _ => False
  | n + 1 => fun x2 x3 x4 h => (((700 : Int32) ≤ x4 → K102 x2 x3 h) ∧ (¬ (700 : Int32) ≤ x4 → ((¬ x3 = 0 → K102 x2 x3 h) ∧ (x3 = 0 → ((¬ (h.1 5 5) = 0 → wp_X3_readInto_64 Q K102 (wp_X3_readInto_38 Q K102 n) x2 x4 h) ∧ ((h.1 5 5) = 0 → (wp_X3_goesOn h (fun r19 h18 => ((r19 = 0 → K102 x2 x3 h18) ∧ (¬ r19 = 0 → wp_X3_readInto_64 Q K102 (wp_X3_readInto_38 Q K102 n) x2 x4 h18))))))))))
def wp_X3_readInto_115 (Q : Int32 → ck_H → Prop) (x2 : Int32) (x3 : Int32) (h : ck_H) : Prop := (wp_X3_rankOf (29 : Int32) h (fun r26 h25 => (wp_X3_release r26 h25 (fun h27 => (vp_in x2 3 ∧ (∀ h29, h29 = ck_sI h27 72 x2.toNatClampNeg (h27.1 68 5) → Q x3 h29))))))
def wp_X3_readInto_102 (Q : Int32 → ck_H → Prop) (x2 : Int32) (x3 : Int32) (h : ck_H) : Prop := ((¬ x3 = 0 → wp_X3_readInto_115 Q x2 x3 h) ∧ (x3 = 0 → (((h.1 5 3) ≤ 0 → wp_X3_readInto_115 Q x2 x3 h) ∧ (¬ (h.1 5 3) ≤ 0 → wp_X3_readInto_115 Q x2 (1 : Int32) h))))
def wp_X3_readInto (x2 : Int32) (h : ck_H) (Q : Int32 → ck_H → Prop) : Prop := (∀ h1, h1 = ck_sI h 5 2 (0 : Int32) → (∀ h2, h2 = ck_sI h1 5 3 (0 : Int32) → (∀ h3, h3 = ck_sI h2 5 4 (h2.1 68 5) → (∀ h4, h4 = ck_sI h3 5 5 (1 : Int32) → (vp_in x2 3 ∧ (∀ h6, h6 = ck_sI h4 71 x2.toNatClampNeg (h4.1 68 5) → wp_X3_readInto_38 Q (fun x22 x23 h21 => wp_X3_readInto_102 Q x22 x23 h21) lpN x2 (0 : Int32) (0 : Int32) h6))))))
set_option maxHeartbeats 4000000 in
set_option maxRecDepth 100000 in
theorem cp_X3_readInto_96 {gr : Bool} {Q : Int32 → ck_H → Prop} {K102 : Int32 → Int32 → ck_H → Prop} {Kc : Int32 → Int32 → Int32 → ck_H → Prop} (hK102 : ∀ (x2 : Int32) (x3 : Int32) (h : ck_H), K102 x2 x3 h → ck_W cX3_readInto 5 RX3 (some .int) 5 0 0 false gr (ck_Qi ck_shX Q) ck_shX h 0 0 102 [(0, .ref 5), (1, .ref 68), (2, .int x2), (3, .int x3)] []) (hKc : ∀ (x2 : Int32) (x3 : Int32) (x4 : Int32) (h : ck_H), Kc x2 x3 x4 h → ck_W cX3_readInto 5 RX3 (some .int) 5 0 0 false gr (ck_Qi ck_shX Q) ck_shX h 0 0 38 [(0, .ref 5), (1, .ref 68), (2, .int x2), (3, .int x3), (4, .int x4)] []) : ∀ (x2 : Int32) (x3 : Int32) (x4 : Int32) (h : ck_H), wp_X3_readInto_96 Q K102 Kc x2 x3 x4 h → ck_W cX3_readInto 5 RX3 (some .int) 5 0 0 false gr (ck_Qi ck_shX Q) ck_shX h 0 0 96 [(0, .ref 5), (1, .ref 68), (2, .int x2), (3, .int x3), (4, .int x4)] [] := by
  intro x2 x3 x4 h hq
  obtain ⟨v14, ev14⟩ : ∃ z : Int32, z = x4 + 1 := ⟨_, rfl⟩
  have hq := hq v14 ev14
  refine ck_iinc (v := v14) (lv' := [(4, .int v14), (0, .ref 5), (1, .ref 68), (2, .int x2), (3, .int x3)]) 4 dX3_readInto_96 rfl (by rw [ev14]; rfl) (by decide) rfl ?_
  refine ck_goto (tgt := 38) dX3_readInto_99 (by decide) ?_
  refine ck_loc [1, 2, 3, 4, 0] rfl ?_
  exact hKc _ _ _ _ hq
set_option maxHeartbeats 4000000 in
set_option maxRecDepth 100000 in
theorem cp_X3_readInto_84 {gr : Bool} {Q : Int32 → ck_H → Prop} {K102 : Int32 → Int32 → ck_H → Prop} {Kc : Int32 → Int32 → Int32 → ck_H → Prop} (hK102 : ∀ (x2 : Int32) (x3 : Int32) (h : ck_H), K102 x2 x3 h → ck_W cX3_readInto 5 RX3 (some .int) 5 0 0 false gr (ck_Qi ck_shX Q) ck_shX h 0 0 102 [(0, .ref 5), (1, .ref 68), (2, .int x2), (3, .int x3)] []) (hKc : ∀ (x2 : Int32) (x3 : Int32) (x4 : Int32) (h : ck_H), Kc x2 x3 x4 h → ck_W cX3_readInto 5 RX3 (some .int) 5 0 0 false gr (ck_Qi ck_shX Q) ck_shX h 0 0 38 [(0, .ref 5), (1, .ref 68), (2, .int x2), (3, .int x3), (4, .int x4)] []) : ∀ (x2 : Int32) (x4 : Int32) (y0 : Int32) (h : ck_H), wp_X3_readInto_84 Q K102 Kc x2 x4 y0 h → ck_W cX3_readInto 5 RX3 (some .int) 5 0 0 false gr (ck_Qi ck_shX Q) ck_shX h 0 0 84 [(0, .ref 5), (1, .ref 68), (2, .int x2), (4, .int x4)] [.int y0] := by
  intro x2 x4 y0 h hq
  refine ck_istore_n (lv' := [(3, .int y0), (0, .ref 5), (1, .ref 68), (2, .int x2), (4, .int x4)]) dX3_readInto_84 rfl (by decide) rfl ?_
  refine ck_iload_n 0 dX3_readInto_85 rfl rfl ?_
  refine ck_if_ne (tgt := 96) dX3_readInto_86 (by decide) (fun c13 => ?_) (fun c13 => ?_)
  · have hq := hq.1 c13
    refine ck_loc [1, 2, 3, 0, 4] rfl ?_
    exact cp_X3_readInto_96 hK102 hKc _ _ _ _ hq
  · have hq := hq.2 c13
    refine ck_aload_n 1 dX3_readInto_89 rfl rfl ?_
    refine ck_getR clX3 0 rfl rfl (by decide) fl_X3_15 dX3_readInto_90 ?_
    refine ck_callV (c_X8_next hq) rfl cal_X8_next rfl ml_X3_52 vir_X8_next rfl rfl (by decide) (Nat.le_of_ble_eq_true rfl) (Nat.le_of_ble_eq_true rfl) (by decide) (by decide) dX3_readInto_93 ?_
    rintro _ _ h15 ⟨rfl, rfl, hq⟩
    refine ck_loc [1, 2, 3, 0, 4] rfl ?_
    exact cp_X3_readInto_96 hK102 hKc _ _ _ _ hq
set_option maxHeartbeats 4000000 in
set_option maxRecDepth 100000 in
theorem cp_X3_readInto_64 {gr : Bool} {Q : Int32 → ck_H → Prop} {K102 : Int32 → Int32 → ck_H → Prop} {Kc : Int32 → Int32 → Int32 → ck_H → Prop} (hK102 : ∀ (x2 : Int32) (x3 : Int32) (h : ck_H), K102 x2 x3 h → ck_W cX3_readInto 5 RX3 (some .int) 5 0 0 false gr (ck_Qi ck_shX Q) ck_shX h 0 0 102 [(0, .ref 5), (1, .ref 68), (2, .int x2), (3, .int x3)] []) (hKc : ∀ (x2 : Int32) (x3 : Int32) (x4 : Int32) (h : ck_H), Kc x2 x3 x4 h → ck_W cX3_readInto 5 RX3 (some .int) 5 0 0 false gr (ck_Qi ck_shX Q) ck_shX h 0 0 38 [(0, .ref 5), (1, .ref 68), (2, .int x2), (3, .int x3), (4, .int x4)] []) : ∀ (x2 : Int32) (x4 : Int32) (h : ck_H), wp_X3_readInto_64 Q K102 Kc x2 x4 h → ck_W cX3_readInto 5 RX3 (some .int) 5 0 0 false gr (ck_Qi ck_shX Q) ck_shX h 0 0 64 [(0, .ref 5), (1, .ref 68), (2, .int x2), (4, .int x4)] [] := by
  intro x2 x4 h hq
  refine ck_aload_n 0 dX3_readInto_64 rfl rfl ?_
  refine ck_getI clX3 5 rfl rfl (by decide) fl_X3_34 dX3_readInto_65 ?_
  refine ck_if_eq (tgt := 79) dX3_readInto_68 (by decide) (fun c10 => ?_) (fun c10 => ?_)
  · have hq := hq.1 c10
    refine ck_aload_n 0 dX3_readInto_79 rfl rfl ?_
    refine ck_aload_n 1 dX3_readInto_80 rfl rfl ?_
    refine ck_callV (c_X3_takeSign hq) rfl cal_X3_takeSign rfl ml_X3_49 vir_X3_takeSign rfl rfl (by decide) (Nat.le_of_ble_eq_true rfl) (Nat.le_of_ble_eq_true rfl) (by decide) (by decide) dX3_readInto_81 ?_
    rintro _ _ h11 ⟨r12, rfl, rfl, hq⟩
    exact cp_X3_readInto_84 hK102 hKc _ _ _ _ hq
  · have hq := hq.2 c10
    refine ck_aload_n 0 dX3_readInto_71 rfl rfl ?_
    refine ck_aload_n 1 dX3_readInto_72 rfl rfl ?_
    refine ck_callV (c_X3_takeSide hq) rfl cal_X3_takeSide rfl ml_X3_45 vir_X3_takeSide rfl rfl (by decide) (Nat.le_of_ble_eq_true rfl) (Nat.le_of_ble_eq_true rfl) (by decide) (by decide) dX3_readInto_73 ?_
    rintro _ _ h16 ⟨r17, rfl, rfl, hq⟩
    refine ck_goto (tgt := 84) dX3_readInto_76 (by decide) ?_
    exact cp_X3_readInto_84 hK102 hKc _ _ _ _ hq
set_option maxHeartbeats 4000000 in
set_option maxRecDepth 100000 in
theorem cp_X3_readInto_38 {gr : Bool} {Q : Int32 → ck_H → Prop} {K102 : Int32 → Int32 → ck_H → Prop} (hK102 : ∀ (x2 : Int32) (x3 : Int32) (h : ck_H), K102 x2 x3 h → ck_W cX3_readInto 5 RX3 (some .int) 5 0 0 false gr (ck_Qi ck_shX Q) ck_shX h 0 0 102 [(0, .ref 5), (1, .ref 68), (2, .int x2), (3, .int x3)] []) : ∀ (n : Nat) (x2 : Int32) (x3 : Int32) (x4 : Int32) (h : ck_H), wp_X3_readInto_38 Q K102 n x2 x3 x4 h → ck_W cX3_readInto 5 RX3 (some .int) 5 0 0 false gr (ck_Qi ck_shX Q) ck_shX h 0 0 38 [(0, .ref 5), (1, .ref 68), (2, .int x2), (3, .int x3), (4, .int x4)] [] := by
  intro n
  induction n with
  | zero => intro x2 x3 x4 h hq; exact hq.elim
  | succ n hKc =>
    intro x2 x3 x4 h hq
    refine ck_iload 4 dX3_readInto_38 rfl ?_
    refine ck_sipush (v := 700) dX3_readInto_40 (by decide) ?_
    refine ck_icmp_ge (tgt := 102) dX3_readInto_43 (by decide) (fun c7 => ?_) (fun c7 => ?_)
    · have hq := hq.1 c7
      refine ck_loc [0, 1, 2, 3] rfl ?_
      exact hK102 _ _ _ hq
    · have hq := hq.2 c7
      refine ck_iload_n 3 dX3_readInto_46 rfl rfl ?_
      refine ck_if_ne (tgt := 102) dX3_readInto_47 (by decide) (fun c8 => ?_) (fun c8 => ?_)
      · have hq := hq.1 c8
        refine ck_loc [0, 1, 2, 3] rfl ?_
        exact hK102 _ _ _ hq
      · have hq := hq.2 c8
        refine ck_aload_n 0 dX3_readInto_50 rfl rfl ?_
        refine ck_getI clX3 5 rfl rfl (by decide) fl_X3_34 dX3_readInto_51 ?_
        refine ck_if_ne (tgt := 64) dX3_readInto_54 (by decide) (fun c9 => ?_) (fun c9 => ?_)
        · have hq := hq.1 c9
          refine ck_loc [0, 1, 2, 4] rfl ?_
          exact cp_X3_readInto_64 hK102 hKc _ _ _ hq
        · have hq := hq.2 c9
          refine ck_aload_n 0 dX3_readInto_57 rfl rfl ?_
          refine ck_callV (c_X3_goesOn hq) rfl cal_X3_goesOn rfl ml_X3_41 vir_X3_goesOn rfl rfl (by decide) (Nat.le_of_ble_eq_true rfl) (Nat.le_of_ble_eq_true rfl) (by decide) (by decide) dX3_readInto_58 ?_
          rintro _ _ h18 ⟨r19, rfl, rfl, hq⟩
          refine ck_if_eq (tgt := 102) dX3_readInto_61 (by decide) (fun c20 => ?_) (fun c20 => ?_)
          · have hq := hq.1 c20
            refine ck_loc [0, 1, 2, 3] rfl ?_
            exact hK102 _ _ _ hq
          · have hq := hq.2 c20
            refine ck_loc [0, 1, 2, 4] rfl ?_
            exact cp_X3_readInto_64 hK102 hKc _ _ _ hq
set_option maxHeartbeats 4000000 in
set_option maxRecDepth 100000 in
theorem cp_X3_readInto_115 {gr : Bool} {Q : Int32 → ck_H → Prop} : ∀ (x2 : Int32) (x3 : Int32) (h : ck_H), wp_X3_readInto_115 Q x2 x3 h → ck_W cX3_readInto 5 RX3 (some .int) 5 0 0 false gr (ck_Qi ck_shX Q) ck_shX h 0 0 115 [(0, .ref 5), (1, .ref 68), (2, .int x2), (3, .int x3)] [] := by
  intro x2 x3 h hq
  refine ck_aload_n 0 dX3_readInto_115 rfl rfl ?_
  refine ck_aload_n 1 dX3_readInto_116 rfl rfl ?_
  refine ck_bipush (v := 29) dX3_readInto_117 (by decide) ?_
  refine ck_callS (c_X3_rankOf hq) rfl cal_X3_rankOf rfl ml_X3_57 sta_X3_rankOf (by decide) (Nat.le_of_ble_eq_true rfl) (Nat.le_of_ble_eq_true rfl) (by decide) (by decide) dX3_readInto_119 ?_
  rintro _ _ h25 ⟨r26, rfl, rfl, hq⟩
  refine ck_callV (c_X3_release hq) rfl cal_X3_release rfl ml_X3_61 vir_X3_release rfl rfl (by decide) (Nat.le_of_ble_eq_true rfl) (Nat.le_of_ble_eq_true rfl) (by decide) (by decide) dX3_readInto_122 ?_
  rintro _ _ h27 ⟨rfl, rfl, hq⟩
  refine ck_aload_n 1 dX3_readInto_125 rfl rfl ?_
  refine ck_getRN clX4 3 rfl rfl (by decide) fl_X3_65 dX3_readInto_126 ?_
  refine ck_iload_n 2 dX3_readInto_129 rfl rfl ?_
  refine ck_aload_n 1 dX3_readInto_130 rfl rfl ?_
  refine ck_getIN clX4 5 rfl rfl (by decide) fl_X3_26 dX3_readInto_131 ?_
  obtain ⟨b28, hq⟩ := hq
  refine ck_iast rfl rfl b28 dX3_readInto_134 ?_
  refine ck_nmH (fun h29 eh29 => ?_)
  have hq := hq h29 eh29
  refine ck_iload_n 3 dX3_readInto_135 rfl rfl ?_
  exact ck_iret rfl rfl rfl rfl dX3_readInto_136 ⟨_, rfl, rfl, hq⟩
set_option maxHeartbeats 4000000 in
set_option maxRecDepth 100000 in
theorem cp_X3_readInto_102 {gr : Bool} {Q : Int32 → ck_H → Prop} : ∀ (x2 : Int32) (x3 : Int32) (h : ck_H), wp_X3_readInto_102 Q x2 x3 h → ck_W cX3_readInto 5 RX3 (some .int) 5 0 0 false gr (ck_Qi ck_shX Q) ck_shX h 0 0 102 [(0, .ref 5), (1, .ref 68), (2, .int x2), (3, .int x3)] [] := by
  intro x2 x3 h hq
  refine ck_iload_n 3 dX3_readInto_102 rfl rfl ?_
  refine ck_if_ne (tgt := 115) dX3_readInto_103 (by decide) (fun c24 => ?_) (fun c24 => ?_)
  · have hq := hq.1 c24
    exact cp_X3_readInto_115 _ _ _ hq
  · have hq := hq.2 c24
    refine ck_aload_n 0 dX3_readInto_106 rfl rfl ?_
    refine ck_getI clX3 3 rfl rfl (by decide) fl_X3_23 dX3_readInto_107 ?_
    refine ck_if_le (tgt := 115) dX3_readInto_110 (by decide) (fun c30 => ?_) (fun c30 => ?_)
    · have hq := hq.1 c30
      exact cp_X3_readInto_115 _ _ _ hq
    · have hq := hq.2 c30
      refine ck_iconst (v := 1) dX3_readInto_113 (by decide) ?_
      refine ck_istore_n (lv' := [(3, .int (1 : Int32)), (0, .ref 5), (1, .ref 68), (2, .int x2)]) dX3_readInto_114 rfl (by decide) rfl ?_
      refine ck_loc [1, 2, 3, 0] rfl ?_
      exact cp_X3_readInto_115 _ _ _ hq
set_option maxHeartbeats 4000000 in
set_option maxRecDepth 100000 in
theorem c_X3_readInto {gr : Bool} {x2 : Int32} {h : ck_H} {Q : Int32 → ck_H → Prop} (hq : wp_X3_readInto x2 h Q) : ck_M yX3_readInto cX3_readInto 5 (some .int) 5 0 0 gr ck_shX h [.ref 5, .ref 68, .int x2] (ck_Qi ck_shX Q) := by
  refine ck_entry (lv := [(0, .ref 5), (1, .ref 68), (2, .int x2)]) false (own := RX3) rfl (fun q => by cases q) (by decide) (Nat.le_of_ble_eq_true rfl) rfl ?_
  refine ck_aload_n 0 dX3_readInto_0 rfl rfl ?_
  refine ck_iconst (v := 0) dX3_readInto_1 (by decide) ?_
  refine ck_putI clX3 2 rfl rfl (by decide) fl_X3_19 rfl rfl rfl dX3_readInto_2 ?_
  refine ck_nmH (fun h1 eh1 => ?_)
  have hq := hq h1 eh1
  refine ck_aload_n 0 dX3_readInto_5 rfl rfl ?_
  refine ck_iconst (v := 0) dX3_readInto_6 (by decide) ?_
  refine ck_putI clX3 3 rfl rfl (by decide) fl_X3_23 rfl rfl rfl dX3_readInto_7 ?_
  refine ck_nmH (fun h2 eh2 => ?_)
  have hq := hq h2 eh2
  refine ck_aload_n 0 dX3_readInto_10 rfl rfl ?_
  refine ck_aload_n 1 dX3_readInto_11 rfl rfl ?_
  refine ck_getIN clX4 5 rfl rfl (by decide) fl_X3_26 dX3_readInto_12 ?_
  refine ck_putI clX3 4 rfl rfl (by decide) fl_X3_31 rfl rfl rfl dX3_readInto_15 ?_
  refine ck_nmH (fun h3 eh3 => ?_)
  have hq := hq h3 eh3
  refine ck_aload_n 0 dX3_readInto_18 rfl rfl ?_
  refine ck_iconst (v := 1) dX3_readInto_19 (by decide) ?_
  refine ck_putI clX3 5 rfl rfl (by decide) fl_X3_34 rfl (by decide) (by decide) dX3_readInto_20 ?_
  refine ck_nmH (fun h4 eh4 => ?_)
  have hq := hq h4 eh4
  refine ck_aload_n 1 dX3_readInto_23 rfl rfl ?_
  refine ck_getRN clX4 2 rfl rfl (by decide) fl_X3_38 dX3_readInto_24 ?_
  refine ck_iload_n 2 dX3_readInto_27 rfl rfl ?_
  refine ck_aload_n 1 dX3_readInto_28 rfl rfl ?_
  refine ck_getIN clX4 5 rfl rfl (by decide) fl_X3_26 dX3_readInto_29 ?_
  obtain ⟨b5, hq⟩ := hq
  refine ck_iast rfl rfl b5 dX3_readInto_32 ?_
  refine ck_nmH (fun h6 eh6 => ?_)
  have hq := hq h6 eh6
  refine ck_iconst (v := 0) dX3_readInto_33 (by decide) ?_
  refine ck_istore_n (lv' := [(3, .int (0 : Int32)), (0, .ref 5), (1, .ref 68), (2, .int x2)]) dX3_readInto_34 rfl (by decide) rfl ?_
  refine ck_iconst (v := 0) dX3_readInto_35 (by decide) ?_
  refine ck_istore (lv' := [(4, .int (0 : Int32)), (3, .int (0 : Int32)), (0, .ref 5), (1, .ref 68), (2, .int x2)]) dX3_readInto_36 (by decide) rfl ?_
  refine ck_loc [2, 3, 4, 1, 0] rfl ?_
  refine cp_X3_readInto_38 (fun x22 x23 h21 hq => ?_) lpN _ _ _ _ hq
  · exact cp_X3_readInto_102 _ _ _ hq
