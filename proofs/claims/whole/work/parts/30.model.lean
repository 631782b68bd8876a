theorem dX12_thrown_0 : decode cX12_thrown 0 = .ok (.aload_n 0, 1) := by decide +kernel
theorem dX12_thrown_1 : decode cX12_thrown 1 = .ok (.getfield 145, 3) := by decide +kernel
theorem dX12_thrown_4 : decode cX12_thrown 4 = .ok (.ireturn, 1) := by decide +kernel
theorem dX12_feed_0 : decode cX12_feed 0 = .ok (.aload_n 0, 1) := by decide +kernel
theorem dX12_feed_1 : decode cX12_feed 1 = .ok (.iconst 0, 1) := by decide +kernel
theorem dX12_feed_2 : decode cX12_feed 2 = .ok (.putfield 145, 3) := by decide +kernel
theorem dX12_feed_5 : decode cX12_feed 5 = .ok (.aload_n 0, 1) := by decide +kernel
theorem dX12_feed_6 : decode cX12_feed 6 = .ok (.getfield 148, 3) := by decide +kernel
theorem dX12_feed_9 : decode cX12_feed 9 = .ok (.sipush 680, 3) := by decide +kernel
theorem dX12_feed_12 : decode cX12_feed 12 = .ok (.if_icmp .le 5, 3) := by decide +kernel
theorem dX12_feed_15 : decode cX12_feed 15 = .ok (.iconst (-1), 1) := by decide +kernel
theorem dX12_feed_16 : decode cX12_feed 16 = .ok (.ireturn, 1) := by decide +kernel
theorem dX12_feed_17 : decode cX12_feed 17 = .ok (.iconst 0, 1) := by decide +kernel
theorem dX12_feed_18 : decode cX12_feed 18 = .ok (.istore 6, 2) := by decide +kernel
theorem dX12_feed_20 : decode cX12_feed 20 = .ok (.iload 6, 2) := by decide +kernel
theorem dX12_feed_22 : decode cX12_feed 22 = .ok (.bipush 20, 2) := by decide +kernel
theorem dX12_feed_24 : decode cX12_feed 24 = .ok (.if_icmp .ge 86, 3) := by decide +kernel
theorem dX12_feed_27 : decode cX12_feed 27 = .ok (.iload 6, 2) := by decide +kernel
theorem dX12_feed_29 : decode cX12_feed 29 = .ok (.iconst 4, 1) := by decide +kernel
theorem dX12_feed_30 : decode cX12_feed 30 = .ok (.if_icmp .ge 7, 3) := by decide +kernel
theorem dX12_feed_33 : decode cX12_feed 33 = .ok (.iload_n 1, 1) := by decide +kernel
theorem dX12_feed_34 : decode cX12_feed 34 = .ok (.goto 39, 3) := by decide +kernel
theorem dX12_feed_37 : decode cX12_feed 37 = .ok (.iload 6, 2) := by decide +kernel
theorem dX12_feed_39 : decode cX12_feed 39 = .ok (.bipush 8, 2) := by decide +kernel
theorem dX12_feed_41 : decode cX12_feed 41 = .ok (.if_icmp .ge 7, 3) := by decide +kernel
theorem dX12_feed_44 : decode cX12_feed 44 = .ok (.iload_n 2, 1) := by decide +kernel
theorem dX12_feed_45 : decode cX12_feed 45 = .ok (.goto 28, 3) := by decide +kernel
theorem dX12_feed_48 : decode cX12_feed 48 = .ok (.iload 6, 2) := by decide +kernel
theorem dX12_feed_50 : decode cX12_feed 50 = .ok (.bipush 12, 2) := by decide +kernel
theorem dX12_feed_52 : decode cX12_feed 52 = .ok (.if_icmp .ge 7, 3) := by decide +kernel
theorem dX12_feed_55 : decode cX12_feed 55 = .ok (.iload_n 3, 1) := by decide +kernel
theorem dX12_feed_56 : decode cX12_feed 56 = .ok (.goto 17, 3) := by decide +kernel
theorem dX12_feed_59 : decode cX12_feed 59 = .ok (.iload 6, 2) := by decide +kernel
theorem dX12_feed_61 : decode cX12_feed 61 = .ok (.bipush 16, 2) := by decide +kernel
theorem dX12_feed_63 : decode cX12_feed 63 = .ok (.if_icmp .ge 8, 3) := by decide +kernel
theorem dX12_feed_66 : decode cX12_feed 66 = .ok (.iload 4, 2) := by decide +kernel
theorem dX12_feed_68 : decode cX12_feed 68 = .ok (.goto 5, 3) := by decide +kernel
theorem dX12_feed_71 : decode cX12_feed 71 = .ok (.iload 5, 2) := by decide +kernel
theorem dX12_feed_73 : decode cX12_feed 73 = .ok (.istore 7, 2) := by decide +kernel
theorem dX12_feed_75 : decode cX12_feed 75 = .ok (.aload_n 0, 1) := by decide +kernel
theorem dX12_feed_76 : decode cX12_feed 76 = .ok (.getfield 7, 3) := by decide +kernel
theorem dX12_feed_79 : decode cX12_feed 79 = .ok (.aload_n 0, 1) := by decide +kernel
theorem dX12_feed_80 : decode cX12_feed 80 = .ok (.getfield 148, 3) := by decide +kernel
theorem dX12_feed_83 : decode cX12_feed 83 = .ok (.iload 6, 2) := by decide +kernel
theorem dX12_feed_85 : decode cX12_feed 85 = .ok (.iadd, 1) := by decide +kernel
theorem dX12_feed_86 : decode cX12_feed 86 = .ok (.iload 7, 2) := by decide +kernel
theorem dX12_feed_88 : decode cX12_feed 88 = .ok (.bipush 24, 2) := by decide +kernel
theorem dX12_feed_90 : decode cX12_feed 90 = .ok (.bipush 8, 2) := by decide +kernel
theorem dX12_feed_92 : decode cX12_feed 92 = .ok (.iload 6, 2) := by decide +kernel
theorem dX12_feed_94 : decode cX12_feed 94 = .ok (.iconst 4, 1) := by decide +kernel
theorem dX12_feed_95 : decode cX12_feed 95 = .ok (.irem, 1) := by decide +kernel
theorem dX12_feed_96 : decode cX12_feed 96 = .ok (.imul, 1) := by decide +kernel
theorem dX12_feed_97 : decode cX12_feed 97 = .ok (.isub, 1) := by decide +kernel
theorem dX12_feed_98 : decode cX12_feed 98 = .ok (.ishr, 1) := by decide +kernel
theorem dX12_feed_99 : decode cX12_feed 99 = .ok (.sipush 255, 3) := by decide +kernel
theorem dX12_feed_102 : decode cX12_feed 102 = .ok (.iand, 1) := by decide +kernel
theorem dX12_feed_103 : decode cX12_feed 103 = .ok (.iastore, 1) := by decide +kernel
theorem dX12_feed_104 : decode cX12_feed 104 = .ok (.iinc 6 1, 3) := by decide +kernel
theorem dX12_feed_107 : decode cX12_feed 107 = .ok (.goto (-87), 3) := by decide +kernel
theorem dX12_feed_110 : decode cX12_feed 110 = .ok (.aload_n 0, 1) := by decide +kernel
theorem dX12_feed_111 : decode cX12_feed 111 = .ok (.dup, 1) := by decide +kernel
theorem dX12_feed_112 : decode cX12_feed 112 = .ok (.getfield 148, 3) := by decide +kernel
theorem dX12_feed_115 : decode cX12_feed 115 = .ok (.bipush 20, 2) := by decide +kernel
theorem dX12_feed_117 : decode cX12_feed 117 = .ok (.iadd, 1) := by decide +kernel
theorem dX12_feed_118 : decode cX12_feed 118 = .ok (.putfield 148, 3) := by decide +kernel
theorem dX12_feed_121 : decode cX12_feed 121 = .ok (.aload_n 0, 1) := by decide +kernel
theorem dX12_feed_122 : decode cX12_feed 122 = .ok (.getfield 148, 3) := by decide +kernel
theorem dX12_feed_125 : decode cX12_feed 125 = .ok (.ireturn, 1) := by decide +kernel
theorem dX12_here_0 : decode cX12_here 0 = .ok (.aload_n 0, 1) := by decide +kernel
theorem dX12_here_1 : decode cX12_here 1 = .ok (.getfield 151, 3) := by decide +kernel
theorem dX12_here_4 : decode cX12_here 4 = .ok (.aload_n 0, 1) := by decide +kernel
theorem dX12_here_5 : decode cX12_here 5 = .ok (.getfield 154, 3) := by decide +kernel
theorem dX12_here_8 : decode cX12_here 8 = .ok (.if_icmp .ge 15, 3) := by decide +kernel
theorem dX12_here_11 : decode cX12_here 11 = .ok (.aload_n 0, 1) := by decide +kernel
theorem dX12_here_12 : decode cX12_here 12 = .ok (.getfield 7, 3) := by decide +kernel
theorem dX12_here_15 : decode cX12_here 15 = .ok (.aload_n 0, 1) := by decide +kernel
theorem dX12_here_16 : decode cX12_here 16 = .ok (.getfield 151, 3) := by decide +kernel
theorem dX12_here_19 : decode cX12_here 19 = .ok (.iaload, 1) := by decide +kernel
theorem dX12_here_20 : decode cX12_here 20 = .ok (.goto 4, 3) := by decide +kernel
theorem dX12_here_23 : decode cX12_here 23 = .ok (.iconst (-1), 1) := by decide +kernel
theorem dX12_here_24 : decode cX12_here 24 = .ok (.ireturn, 1) := by decide +kernel
theorem dX12_isSmall_0 : decode cX12_isSmall 0 = .ok (.iload_n 0, 1) := by decide +kernel
theorem dX12_isSmall_1 : decode cX12_isSmall 1 = .ok (.bipush 97, 2) := by decide +kernel
theorem dX12_isSmall_3 : decode cX12_isSmall 3 = .ok (.if_icmp .lt 13, 3) := by decide +kernel
theorem dX12_isSmall_6 : decode cX12_isSmall 6 = .ok (.iload_n 0, 1) := by decide +kernel
theorem dX12_isSmall_7 : decode cX12_isSmall 7 = .ok (.bipush 122, 2) := by decide +kernel
theorem dX12_isSmall_9 : decode cX12_isSmall 9 = .ok (.if_icmp .gt 7, 3) := by decide +kernel
theorem dX12_isSmall_12 : decode cX12_isSmall 12 = .ok (.iconst 1, 1) := by decide +kernel
theorem dX12_isSmall_13 : decode cX12_isSmall 13 = .ok (.goto 4, 3) := by decide +kernel
theorem dX12_isSmall_16 : decode cX12_isSmall 16 = .ok (.iconst 0, 1) := by decide +kernel
theorem dX12_isSmall_17 : decode cX12_isSmall 17 = .ok (.ireturn, 1) := by decide +kernel
theorem dX12_isDigit_0 : decode cX12_isDigit 0 = .ok (.iload_n 0, 1) := by decide +kernel
theorem dX12_isDigit_1 : decode cX12_isDigit 1 = .ok (.bipush 48, 2) := by decide +kernel
theorem dX12_isDigit_3 : decode cX12_isDigit 3 = .ok (.if_icmp .lt 13, 3) := by decide +kernel
theorem dX12_isDigit_6 : decode cX12_isDigit 6 = .ok (.iload_n 0, 1) := by decide +kernel
theorem dX12_isDigit_7 : decode cX12_isDigit 7 = .ok (.bipush 57, 2) := by decide +kernel
theorem dX12_isDigit_9 : decode cX12_isDigit 9 = .ok (.if_icmp .gt 7, 3) := by decide +kernel
theorem dX12_isDigit_12 : decode cX12_isDigit 12 = .ok (.iconst 1, 1) := by decide +kernel
theorem dX12_isDigit_13 : decode cX12_isDigit 13 = .ok (.goto 4, 3) := by decide +kernel
theorem dX12_isDigit_16 : decode cX12_isDigit 16 = .ok (.iconst 0, 1) := by decide +kernel
theorem dX12_isDigit_17 : decode cX12_isDigit 17 = .ok (.ireturn, 1) := by decide +kernel
theorem dX12_token_0 : decode cX12_token 0 = .ok (.aload_n 0, 1) := by decide +kernel
theorem dX12_token_1 : decode cX12_token 1 = .ok (.invokevirtual 157, 3) := by decide +kernel
theorem dX12_token_4 : decode cX12_token 4 = .ok (.bipush 10, 2) := by decide +kernel
theorem dX12_token_6 : decode cX12_token 6 = .ok (.if_icmp .eq 12, 3) := by decide +kernel
theorem dX12_token_9 : decode cX12_token 9 = .ok (.aload_n 0, 1) := by decide +kernel
theorem dX12_token_10 : decode cX12_token 10 = .ok (.invokevirtual 157, 3) := by decide +kernel
theorem dX12_token_13 : decode cX12_token 13 = .ok (.bipush 32, 2) := by decide +kernel
theorem dX12_token_15 : decode cX12_token 15 = .ok (.if_icmp .ne 16, 3) := by decide +kernel
theorem dX12_token_18 : decode cX12_token 18 = .ok (.aload_n 0, 1) := by decide +kernel
theorem dX12_token_19 : decode cX12_token 19 = .ok (.dup, 1) := by decide +kernel
theorem dX12_token_20 : decode cX12_token 20 = .ok (.getfield 151, 3) := by decide +kernel
theorem dX12_token_23 : decode cX12_token 23 = .ok (.iconst 1, 1) := by decide +kernel
theorem dX12_token_24 : decode cX12_token 24 = .ok (.iadd, 1) := by decide +kernel
theorem dX12_token_25 : decode cX12_token 25 = .ok (.putfield 151, 3) := by decide +kernel
theorem dX12_token_28 : decode cX12_token 28 = .ok (.goto (-28), 3) := by decide +kernel
theorem dX12_token_31 : decode cX12_token 31 = .ok (.aload_n 0, 1) := by decide +kernel
theorem dX12_token_32 : decode cX12_token 32 = .ok (.aload_n 0, 1) := by decide +kernel
theorem dX12_token_33 : decode cX12_token 33 = .ok (.getfield 151, 3) := by decide +kernel
theorem dX12_token_36 : decode cX12_token 36 = .ok (.putfield 161, 3) := by decide +kernel
theorem dX12_token_39 : decode cX12_token 39 = .ok (.aload_n 0, 1) := by decide +kernel
theorem dX12_token_40 : decode cX12_token 40 = .ok (.invokevirtual 157, 3) := by decide +kernel
theorem dX12_token_43 : decode cX12_token 43 = .ok (.istore_n 1, 1) := by decide +kernel
theorem dX12_token_44 : decode cX12_token 44 = .ok (.iload_n 1, 1) := by decide +kernel
theorem dX12_token_45 : decode cX12_token 45 = .ok (.iconst (-1), 1) := by decide +kernel
theorem dX12_token_46 : decode cX12_token 46 = .ok (.if_icmp .ne 11, 3) := by decide +kernel
theorem dX12_token_49 : decode cX12_token 49 = .ok (.aload_n 0, 1) := by decide +kernel
theorem dX12_token_50 : decode cX12_token 50 = .ok (.iconst 4, 1) := by decide +kernel
theorem dX12_token_51 : decode cX12_token 51 = .ok (.putfield 164, 3) := by decide +kernel
theorem dX12_token_54 : decode cX12_token 54 = .ok (.goto 171, 3) := by decide +kernel
theorem dX12_token_57 : decode cX12_token 57 = .ok (.iload_n 1, 1) := by decide +kernel
theorem dX12_token_58 : decode cX12_token 58 = .ok (.invokestatic 167, 3) := by decide +kernel
theorem dX12_token_61 : decode cX12_token 61 = .ok (.ifCond .eq 84, 3) := by decide +kernel
theorem dX12_token_64 : decode cX12_token 64 = .ok (.aload_n 0, 1) := by decide +kernel
theorem dX12_token_65 : decode cX12_token 65 = .ok (.invokevirtual 157, 3) := by decide +kernel
theorem dX12_token_68 : decode cX12_token 68 = .ok (.invokestatic 167, 3) := by decide +kernel
theorem dX12_token_71 : decode cX12_token 71 = .ok (.ifCond .eq 16, 3) := by decide +kernel
theorem dX12_token_74 : decode cX12_token 74 = .ok (.aload_n 0, 1) := by decide +kernel
theorem dX12_token_75 : decode cX12_token 75 = .ok (.dup, 1) := by decide +kernel
theorem dX12_token_76 : decode cX12_token 76 = .ok (.getfield 151, 3) := by decide +kernel
theorem dX12_token_79 : decode cX12_token 79 = .ok (.iconst 1, 1) := by decide +kernel
theorem dX12_token_80 : decode cX12_token 80 = .ok (.iadd, 1) := by decide +kernel
theorem dX12_token_81 : decode cX12_token 81 = .ok (.putfield 151, 3) := by decide +kernel
theorem dX12_token_84 : decode cX12_token 84 = .ok (.goto (-20), 3) := by decide +kernel
theorem dX12_token_87 : decode cX12_token 87 = .ok (.aload_n 0, 1) := by decide +kernel
theorem dX12_token_88 : decode cX12_token 88 = .ok (.aload_n 0, 1) := by decide +kernel
theorem dX12_token_89 : decode cX12_token 89 = .ok (.invokevirtual 171, 3) := by decide +kernel
theorem dX12_token_92 : decode cX12_token 92 = .ok (.putfield 174, 3) := by decide +kernel
theorem dX12_token_95 : decode cX12_token 95 = .ok (.aload_n 0, 1) := by decide +kernel
theorem dX12_token_96 : decode cX12_token 96 = .ok (.aload_n 0, 1) := by decide +kernel
theorem dX12_token_97 : decode cX12_token 97 = .ok (.getfield 174, 3) := by decide +kernel
theorem dX12_token_100 : decode cX12_token 100 = .ok (.iconst (-1), 1) := by decide +kernel
theorem dX12_token_101 : decode cX12_token 101 = .ok (.if_icmp .eq 7, 3) := by decide +kernel
theorem dX12_token_104 : decode cX12_token 104 = .ok (.iconst 0, 1) := by decide +kernel
theorem dX12_token_105 : decode cX12_token 105 = .ok (.goto 22, 3) := by decide +kernel
theorem dX12_token_108 : decode cX12_token 108 = .ok (.aload_n 0, 1) := by decide +kernel
theorem dX12_token_109 : decode cX12_token 109 = .ok (.getfield 151, 3) := by decide +kernel
theorem dX12_token_112 : decode cX12_token 112 = .ok (.aload_n 0, 1) := by decide +kernel
theorem dX12_token_113 : decode cX12_token 113 = .ok (.getfield 161, 3) := by decide +kernel
theorem dX12_token_116 : decode cX12_token 116 = .ok (.isub, 1) := by decide +kernel
theorem dX12_token_117 : decode cX12_token 117 = .ok (.bipush 6, 2) := by decide +kernel
theorem dX12_token_119 : decode cX12_token 119 = .ok (.if_icmp .le 7, 3) := by decide +kernel
theorem dX12_token_122 : decode cX12_token 122 = .ok (.iconst 5, 1) := by decide +kernel
theorem dX12_token_123 : decode cX12_token 123 = .ok (.goto 4, 3) := by decide +kernel
theorem dX12_token_126 : decode cX12_token 126 = .ok (.iconst 1, 1) := by decide +kernel
theorem dX12_token_127 : decode cX12_token 127 = .ok (.putfield 164, 3) := by decide +kernel
theorem dX12_token_130 : decode cX12_token 130 = .ok (.aload_n 0, 1) := by decide +kernel
theorem dX12_token_131 : decode cX12_token 131 = .ok (.getfield 164, 3) := by decide +kernel
theorem dX12_token_134 : decode cX12_token 134 = .ok (.iconst 1, 1) := by decide +kernel
theorem dX12_token_135 : decode cX12_token 135 = .ok (.if_icmp .ne 90, 3) := by decide +kernel
theorem dX12_token_138 : decode cX12_token 138 = .ok (.aload_n 0, 1) := by decide +kernel
theorem dX12_token_139 : decode cX12_token 139 = .ok (.invokevirtual 177, 3) := by decide +kernel
theorem dX12_token_142 : decode cX12_token 142 = .ok (.goto 83, 3) := by decide +kernel
theorem dX12_token_145 : decode cX12_token 145 = .ok (.iload_n 1, 1) := by decide +kernel
theorem dX12_token_146 : decode cX12_token 146 = .ok (.invokestatic 180, 3) := by decide +kernel
theorem dX12_token_149 : decode cX12_token 149 = .ok (.ifCond .eq 71, 3) := by decide +kernel
theorem dX12_token_152 : decode cX12_token 152 = .ok (.aload_n 0, 1) := by decide +kernel
theorem dX12_token_153 : decode cX12_token 153 = .ok (.iconst 2, 1) := by decide +kernel
theorem dX12_token_154 : decode cX12_token 154 = .ok (.putfield 164, 3) := by decide +kernel
theorem dX12_token_157 : decode cX12_token 157 = .ok (.aload_n 0, 1) := by decide +kernel
theorem dX12_token_158 : decode cX12_token 158 = .ok (.iconst 0, 1) := by decide +kernel
theorem dX12_token_159 : decode cX12_token 159 = .ok (.putfield 174, 3) := by decide +kernel
theorem dX12_token_162 : decode cX12_token 162 = .ok (.aload_n 0, 1) := by decide +kernel
theorem dX12_token_163 : decode cX12_token 163 = .ok (.invokevirtual 157, 3) := by decide +kernel
theorem dX12_token_166 : decode cX12_token 166 = .ok (.invokestatic 180, 3) := by decide +kernel
theorem dX12_token_169 : decode cX12_token 169 = .ok (.ifCond .eq 56, 3) := by decide +kernel
theorem dX12_token_172 : decode cX12_token 172 = .ok (.aload_n 0, 1) := by decide +kernel
theorem dX12_token_173 : decode cX12_token 173 = .ok (.aload_n 0, 1) := by decide +kernel
theorem dX12_token_174 : decode cX12_token 174 = .ok (.getfield 174, 3) := by decide +kernel
theorem dX12_token_177 : decode cX12_token 177 = .ok (.ldc 183, 2) := by decide +kernel
theorem dX12_token_179 : decode cX12_token 179 = .ok (.if_icmp .le 10, 3) := by decide +kernel
theorem dX12_token_182 : decode cX12_token 182 = .ok (.aload_n 0, 1) := by decide +kernel
theorem dX12_token_183 : decode cX12_token 183 = .ok (.getfield 174, 3) := by decide +kernel
theorem dX12_token_186 : decode cX12_token 186 = .ok (.goto 18, 3) := by decide +kernel
theorem dX12_token_189 : decode cX12_token 189 = .ok (.bipush 10, 2) := by decide +kernel
theorem dX12_token_191 : decode cX12_token 191 = .ok (.aload_n 0, 1) := by decide +kernel
theorem dX12_token_192 : decode cX12_token 192 = .ok (.getfield 174, 3) := by decide +kernel
theorem dX12_token_195 : decode cX12_token 195 = .ok (.imul, 1) := by decide +kernel
theorem dX12_token_196 : decode cX12_token 196 = .ok (.aload_n 0, 1) := by decide +kernel
theorem dX12_token_197 : decode cX12_token 197 = .ok (.invokevirtual 157, 3) := by decide +kernel
theorem dX12_token_200 : decode cX12_token 200 = .ok (.iadd, 1) := by decide +kernel
theorem dX12_token_201 : decode cX12_token 201 = .ok (.bipush 48, 2) := by decide +kernel
theorem dX12_token_203 : decode cX12_token 203 = .ok (.isub, 1) := by decide +kernel
theorem dX12_token_204 : decode cX12_token 204 = .ok (.putfield 174, 3) := by decide +kernel
theorem dX12_token_207 : decode cX12_token 207 = .ok (.aload_n 0, 1) := by decide +kernel
theorem dX12_token_208 : decode cX12_token 208 = .ok (.dup, 1) := by decide +kernel
theorem dX12_token_209 : decode cX12_token 209 = .ok (.getfield 151, 3) := by decide +kernel
theorem dX12_token_212 : decode cX12_token 212 = .ok (.iconst 1, 1) := by decide +kernel
theorem dX12_token_213 : decode cX12_token 213 = .ok (.iadd, 1) := by decide +kernel
theorem dX12_token_214 : decode cX12_token 214 = .ok (.putfield 151, 3) := by decide +kernel
theorem dX12_token_217 : decode cX12_token 217 = .ok (.goto (-55), 3) := by decide +kernel
theorem dX12_token_220 : decode cX12_token 220 = .ok (.aload_n 0, 1) := by decide +kernel
theorem dX12_token_221 : decode cX12_token 221 = .ok (.iload_n 1, 1) := by decide +kernel
theorem dX12_token_222 : decode cX12_token 222 = .ok (.invokevirtual 184, 3) := by decide +kernel
theorem dX12_token_225 : decode cX12_token 225 = .ok (.return_, 1) := by decide +kernel
theorem dX12_sign_0 : decode cX12_sign 0 = .ok (.aload_n 0, 1) := by decide +kernel
theorem dX12_sign_1 : decode cX12_sign 1 = .ok (.dup, 1) := by decide +kernel
theorem dX12_sign_2 : decode cX12_sign 2 = .ok (.getfield 151, 3) := by decide +kernel
theorem dX12_sign_5 : decode cX12_sign 5 = .ok (.iconst 1, 1) := by decide +kernel
theorem dX12_sign_6 : decode cX12_sign 6 = .ok (.iadd, 1) := by decide +kernel
theorem dX12_sign_7 : decode cX12_sign 7 = .ok (.putfield 151, 3) := by decide +kernel
theorem dX12_sign_10 : decode cX12_sign 10 = .ok (.aload_n 0, 1) := by decide +kernel
theorem dX12_sign_11 : decode cX12_sign 11 = .ok (.iload_n 1, 1) := by decide +kernel
theorem dX12_sign_12 : decode cX12_sign 12 = .ok (.bipush 59, 2) := by decide +kernel
theorem dX12_sign_14 : decode cX12_sign 14 = .ok (.if_icmp .eq 57, 3) := by decide +kernel
theorem dX12_sign_17 : decode cX12_sign 17 = .ok (.iload_n 1, 1) := by decide +kernel
theorem dX12_sign_18 : decode cX12_sign 18 = .ok (.bipush 40, 2) := by decide +kernel
theorem dX12_sign_20 : decode cX12_sign 20 = .ok (.if_icmp .eq 51, 3) := by decide +kernel
theorem dX12_sign_23 : decode cX12_sign 23 = .ok (.iload_n 1, 1) := by decide +kernel
theorem dX12_sign_24 : decode cX12_sign 24 = .ok (.bipush 41, 2) := by decide +kernel
theorem dX12_sign_26 : decode cX12_sign 26 = .ok (.if_icmp .eq 45, 3) := by decide +kernel
theorem dX12_sign_29 : decode cX12_sign 29 = .ok (.iload_n 1, 1) := by decide +kernel
theorem dX12_sign_30 : decode cX12_sign 30 = .ok (.bipush 43, 2) := by decide +kernel
theorem dX12_sign_32 : decode cX12_sign 32 = .ok (.if_icmp .eq 39, 3) := by decide +kernel
theorem dX12_sign_35 : decode cX12_sign 35 = .ok (.iload_n 1, 1) := by decide +kernel
theorem dX12_sign_36 : decode cX12_sign 36 = .ok (.bipush 45, 2) := by decide +kernel
theorem dX12_sign_38 : decode cX12_sign 38 = .ok (.if_icmp .eq 33, 3) := by decide +kernel
theorem dX12_sign_41 : decode cX12_sign 41 = .ok (.iload_n 1, 1) := by decide +kernel
theorem dX12_sign_42 : decode cX12_sign 42 = .ok (.bipush 42, 2) := by decide +kernel
theorem dX12_sign_44 : decode cX12_sign 44 = .ok (.if_icmp .eq 27, 3) := by decide +kernel
theorem dX12_sign_47 : decode cX12_sign 47 = .ok (.iload_n 1, 1) := by decide +kernel
theorem dX12_sign_48 : decode cX12_sign 48 = .ok (.bipush 47, 2) := by decide +kernel
theorem dX12_sign_50 : decode cX12_sign 50 = .ok (.if_icmp .eq 21, 3) := by decide +kernel
theorem dX12_sign_53 : decode cX12_sign 53 = .ok (.iload_n 1, 1) := by decide +kernel
theorem dX12_sign_54 : decode cX12_sign 54 = .ok (.bipush 60, 2) := by decide +kernel
theorem dX12_sign_56 : decode cX12_sign 56 = .ok (.if_icmp .eq 15, 3) := by decide +kernel
theorem dX12_sign_59 : decode cX12_sign 59 = .ok (.iload_n 1, 1) := by decide +kernel
theorem dX12_sign_60 : decode cX12_sign 60 = .ok (.bipush 61, 2) := by decide +kernel
theorem dX12_sign_62 : decode cX12_sign 62 = .ok (.if_icmp .eq 9, 3) := by decide +kernel
theorem dX12_sign_65 : decode cX12_sign 65 = .ok (.iload_n 1, 1) := by decide +kernel
theorem dX12_sign_66 : decode cX12_sign 66 = .ok (.bipush 62, 2) := by decide +kernel
theorem dX12_sign_68 : decode cX12_sign 68 = .ok (.if_icmp .ne 7, 3) := by decide +kernel
theorem dX12_sign_71 : decode cX12_sign 71 = .ok (.iconst 3, 1) := by decide +kernel
theorem dX12_sign_72 : decode cX12_sign 72 = .ok (.goto 4, 3) := by decide +kernel
theorem dX12_sign_75 : decode cX12_sign 75 = .ok (.iconst 5, 1) := by decide +kernel
theorem dX12_sign_76 : decode cX12_sign 76 = .ok (.putfield 164, 3) := by decide +kernel
theorem dX12_sign_79 : decode cX12_sign 79 = .ok (.aload_n 0, 1) := by decide +kernel
theorem dX12_sign_80 : decode cX12_sign 80 = .ok (.iload_n 1, 1) := by decide +kernel
theorem dX12_sign_81 : decode cX12_sign 81 = .ok (.putfield 174, 3) := by decide +kernel
theorem dX12_sign_84 : decode cX12_sign 84 = .ok (.iload_n 1, 1) := by decide +kernel
theorem dX12_sign_85 : decode cX12_sign 85 = .ok (.bipush 60, 2) := by decide +kernel
theorem dX12_sign_87 : decode cX12_sign 87 = .ok (.if_icmp .ne 19, 3) := by decide +kernel
theorem dX12_sign_90 : decode cX12_sign 90 = .ok (.aload_n 0, 1) := by decide +kernel
theorem dX12_sign_91 : decode cX12_sign 91 = .ok (.invokevirtual 157, 3) := by decide +kernel
theorem dX12_sign_94 : decode cX12_sign 94 = .ok (.bipush 61, 2) := by decide +kernel
theorem dX12_sign_96 : decode cX12_sign 96 = .ok (.if_icmp .ne 10, 3) := by decide +kernel
theorem dX12_sign_99 : decode cX12_sign 99 = .ok (.aload_n 0, 1) := by decide +kernel
theorem dX12_sign_100 : decode cX12_sign 100 = .ok (.sipush 256, 3) := by decide +kernel
theorem dX12_sign_103 : decode cX12_sign 103 = .ok (.putfield 174, 3) := by decide +kernel
theorem dX12_sign_106 : decode cX12_sign 106 = .ok (.iload_n 1, 1) := by decide +kernel
theorem dX12_sign_107 : decode cX12_sign 107 = .ok (.bipush 60, 2) := by decide +kernel
theorem dX12_sign_109 : decode cX12_sign 109 = .ok (.if_icmp .ne 19, 3) := by decide +kernel
theorem dX12_sign_112 : decode cX12_sign 112 = .ok (.aload_n 0, 1) := by decide +kernel
theorem dX12_sign_113 : decode cX12_sign 113 = .ok (.invokevirtual 157, 3) := by decide +kernel
theorem dX12_sign_116 : decode cX12_sign 116 = .ok (.bipush 62, 2) := by decide +kernel
theorem dX12_sign_118 : decode cX12_sign 118 = .ok (.if_icmp .ne 10, 3) := by decide +kernel
theorem dX12_sign_121 : decode cX12_sign 121 = .ok (.aload_n 0, 1) := by decide +kernel
theorem dX12_sign_122 : decode cX12_sign 122 = .ok (.sipush 257, 3) := by decide +kernel
theorem dX12_sign_125 : decode cX12_sign 125 = .ok (.putfield 174, 3) := by decide +kernel
theorem dX12_sign_128 : decode cX12_sign 128 = .ok (.iload_n 1, 1) := by decide +kernel
theorem dX12_sign_129 : decode cX12_sign 129 = .ok (.bipush 62, 2) := by decide +kernel
theorem dX12_sign_131 : decode cX12_sign 131 = .ok (.if_icmp .ne 19, 3) := by decide +kernel
theorem dX12_sign_134 : decode cX12_sign 134 = .ok (.aload_n 0, 1) := by decide +kernel
theorem dX12_sign_135 : decode cX12_sign 135 = .ok (.invokevirtual 157, 3) := by decide +kernel
theorem dX12_sign_138 : decode cX12_sign 138 = .ok (.bipush 61, 2) := by decide +kernel
theorem dX12_sign_140 : decode cX12_sign 140 = .ok (.if_icmp .ne 10, 3) := by decide +kernel
theorem dX12_sign_143 : decode cX12_sign 143 = .ok (.aload_n 0, 1) := by decide +kernel
theorem dX12_sign_144 : decode cX12_sign 144 = .ok (.sipush 258, 3) := by decide +kernel
theorem dX12_sign_147 : decode cX12_sign 147 = .ok (.putfield 174, 3) := by decide +kernel
theorem dX12_sign_150 : decode cX12_sign 150 = .ok (.aload_n 0, 1) := by decide +kernel
theorem dX12_sign_151 : decode cX12_sign 151 = .ok (.getfield 174, 3) := by decide +kernel
theorem dX12_sign_154 : decode cX12_sign 154 = .ok (.sipush 256, 3) := by decide +kernel
theorem dX12_sign_157 : decode cX12_sign 157 = .ok (.if_icmp .lt 13, 3) := by decide +kernel
theorem dX12_sign_160 : decode cX12_sign 160 = .ok (.aload_n 0, 1) := by decide +kernel
theorem dX12_sign_161 : decode cX12_sign 161 = .ok (.dup, 1) := by decide +kernel
theorem dX12_sign_162 : decode cX12_sign 162 = .ok (.getfield 151, 3) := by decide +kernel
theorem dX12_sign_165 : decode cX12_sign 165 = .ok (.iconst 1, 1) := by decide +kernel
theorem dX12_sign_166 : decode cX12_sign 166 = .ok (.iadd, 1) := by decide +kernel
theorem dX12_sign_167 : decode cX12_sign 167 = .ok (.putfield 151, 3) := by decide +kernel
theorem dX12_sign_170 : decode cX12_sign 170 = .ok (.return_, 1) := by decide +kernel
theorem dX12_word_0 : decode cX12_word 0 = .ok (.iconst 0, 1) := by decide +kernel
theorem dX12_word_1 : decode cX12_word 1 = .ok (.istore_n 1, 1) := by decide +kernel
theorem dX12_word_2 : decode cX12_word 2 = .ok (.iconst 0, 1) := by decide +kernel
theorem dX12_word_3 : decode cX12_word 3 = .ok (.istore_n 2, 1) := by decide +kernel
theorem dX12_word_4 : decode cX12_word 4 = .ok (.iload_n 2, 1) := by decide +kernel
theorem dX12_word_5 : decode cX12_word 5 = .ok (.ldc 188, 2) := by decide +kernel
theorem dX12_word_7 : decode cX12_word 7 = .ok (.invokevirtual 190, 3) := by decide +kernel
theorem dX12_word_10 : decode cX12_word 10 = .ok (.if_icmp .ge 113, 3) := by decide +kernel
theorem dX12_word_13 : decode cX12_word 13 = .ok (.iconst 0, 1) := by decide +kernel
theorem dX12_word_14 : decode cX12_word 14 = .ok (.istore_n 3, 1) := by decide +kernel
theorem dX12_word_15 : decode cX12_word 15 = .ok (.ldc 188, 2) := by decide +kernel
theorem dX12_word_17 : decode cX12_word 17 = .ok (.iload_n 2, 1) := by decide +kernel
theorem dX12_word_18 : decode cX12_word 18 = .ok (.iload_n 3, 1) := by decide +kernel
theorem dX12_word_19 : decode cX12_word 19 = .ok (.iadd, 1) := by decide +kernel
theorem dX12_word_20 : decode cX12_word 20 = .ok (.invokevirtual 195, 3) := by decide +kernel
theorem dX12_word_23 : decode cX12_word 23 = .ok (.bipush 32, 2) := by decide +kernel
theorem dX12_word_25 : decode cX12_word 25 = .ok (.if_icmp .eq 44, 3) := by decide +kernel
theorem dX12_word_28 : decode cX12_word 28 = .ok (.aload_n 0, 1) := by decide +kernel
theorem dX12_word_29 : decode cX12_word 29 = .ok (.getfield 161, 3) := by decide +kernel
theorem dX12_word_32 : decode cX12_word 32 = .ok (.iload_n 3, 1) := by decide +kernel
theorem dX12_word_33 : decode cX12_word 33 = .ok (.iadd, 1) := by decide +kernel
theorem dX12_word_34 : decode cX12_word 34 = .ok (.aload_n 0, 1) := by decide +kernel
theorem dX12_word_35 : decode cX12_word 35 = .ok (.getfield 151, 3) := by decide +kernel
theorem dX12_word_38 : decode cX12_word 38 = .ok (.if_icmp .ge 31, 3) := by decide +kernel
theorem dX12_word_41 : decode cX12_word 41 = .ok (.aload_n 0, 1) := by decide +kernel
theorem dX12_word_42 : decode cX12_word 42 = .ok (.getfield 7, 3) := by decide +kernel
theorem dX12_word_45 : decode cX12_word 45 = .ok (.aload_n 0, 1) := by decide +kernel
theorem dX12_word_46 : decode cX12_word 46 = .ok (.getfield 161, 3) := by decide +kernel
theorem dX12_word_49 : decode cX12_word 49 = .ok (.iload_n 3, 1) := by decide +kernel
theorem dX12_word_50 : decode cX12_word 50 = .ok (.iadd, 1) := by decide +kernel
theorem dX12_word_51 : decode cX12_word 51 = .ok (.iaload, 1) := by decide +kernel
theorem dX12_word_52 : decode cX12_word 52 = .ok (.ldc 188, 2) := by decide +kernel
theorem dX12_word_54 : decode cX12_word 54 = .ok (.iload_n 2, 1) := by decide +kernel
theorem dX12_word_55 : decode cX12_word 55 = .ok (.iload_n 3, 1) := by decide +kernel
theorem dX12_word_56 : decode cX12_word 56 = .ok (.iadd, 1) := by decide +kernel
theorem dX12_word_57 : decode cX12_word 57 = .ok (.invokevirtual 195, 3) := by decide +kernel
theorem dX12_word_60 : decode cX12_word 60 = .ok (.if_icmp .ne 9, 3) := by decide +kernel
theorem dX12_word_63 : decode cX12_word 63 = .ok (.iinc 3 1, 3) := by decide +kernel
theorem dX12_word_66 : decode cX12_word 66 = .ok (.goto (-51), 3) := by decide +kernel
theorem dX12_word_69 : decode cX12_word 69 = .ok (.ldc 188, 2) := by decide +kernel
theorem dX12_word_71 : decode cX12_word 71 = .ok (.iload_n 2, 1) := by decide +kernel
theorem dX12_word_72 : decode cX12_word 72 = .ok (.iload_n 3, 1) := by decide +kernel
theorem dX12_word_73 : decode cX12_word 73 = .ok (.iadd, 1) := by decide +kernel
theorem dX12_word_74 : decode cX12_word 74 = .ok (.invokevirtual 195, 3) := by decide +kernel
theorem dX12_word_77 : decode cX12_word 77 = .ok (.bipush 32, 2) := by decide +kernel
theorem dX12_word_79 : decode cX12_word 79 = .ok (.if_icmp .ne 18, 3) := by decide +kernel
theorem dX12_word_82 : decode cX12_word 82 = .ok (.aload_n 0, 1) := by decide +kernel
theorem dX12_word_83 : decode cX12_word 83 = .ok (.getfield 161, 3) := by decide +kernel
theorem dX12_word_86 : decode cX12_word 86 = .ok (.iload_n 3, 1) := by decide +kernel
theorem dX12_word_87 : decode cX12_word 87 = .ok (.iadd, 1) := by decide +kernel
theorem dX12_word_88 : decode cX12_word 88 = .ok (.aload_n 0, 1) := by decide +kernel
theorem dX12_word_89 : decode cX12_word 89 = .ok (.getfield 151, 3) := by decide +kernel
theorem dX12_word_92 : decode cX12_word 92 = .ok (.if_icmp .ne 5, 3) := by decide +kernel
theorem dX12_word_95 : decode cX12_word 95 = .ok (.iload_n 1, 1) := by decide +kernel
theorem dX12_word_96 : decode cX12_word 96 = .ok (.ireturn, 1) := by decide +kernel
theorem dX12_word_97 : decode cX12_word 97 = .ok (.ldc 188, 2) := by decide +kernel
theorem dX12_word_99 : decode cX12_word 99 = .ok (.iload_n 2, 1) := by decide +kernel
theorem dX12_word_100 : decode cX12_word 100 = .ok (.invokevirtual 195, 3) := by decide +kernel
theorem dX12_word_103 : decode cX12_word 103 = .ok (.bipush 32, 2) := by decide +kernel
theorem dX12_word_105 : decode cX12_word 105 = .ok (.if_icmp .eq 9, 3) := by decide +kernel
theorem dX12_word_108 : decode cX12_word 108 = .ok (.iinc 2 1, 3) := by decide +kernel
theorem dX12_word_111 : decode cX12_word 111 = .ok (.goto (-14), 3) := by decide +kernel
theorem dX12_word_114 : decode cX12_word 114 = .ok (.iinc 2 1, 3) := by decide +kernel
theorem dX12_word_117 : decode cX12_word 117 = .ok (.iinc 1 1, 3) := by decide +kernel
theorem dX12_word_120 : decode cX12_word 120 = .ok (.goto (-116), 3) := by decide +kernel
theorem dX12_word_123 : decode cX12_word 123 = .ok (.iconst (-1), 1) := by decide +kernel
theorem dX12_word_124 : decode cX12_word 124 = .ok (.ireturn, 1) := by decide +kernel
theorem dX12_name_0 : decode cX12_name 0 = .ok (.aload_n 0, 1) := by decide +kernel
theorem dX12_name_1 : decode cX12_name 1 = .ok (.iconst 0, 1) := by decide +kernel
theorem dX12_name_2 : decode cX12_name 2 = .ok (.putfield 174, 3) := by decide +kernel
theorem dX12_name_5 : decode cX12_name 5 = .ok (.iconst 0, 1) := by decide +kernel
theorem dX12_name_6 : decode cX12_name 6 = .ok (.istore_n 1, 1) := by decide +kernel
theorem dX12_name_7 : decode cX12_name 7 = .ok (.iload_n 1, 1) := by decide +kernel
theorem dX12_name_8 : decode cX12_name 8 = .ok (.bipush 6, 2) := by decide +kernel
theorem dX12_name_10 : decode cX12_name 10 = .ok (.if_icmp .ge 53, 3) := by decide +kernel
theorem dX12_name_13 : decode cX12_name 13 = .ok (.aload_n 0, 1) := by decide +kernel
theorem dX12_name_14 : decode cX12_name 14 = .ok (.aload_n 0, 1) := by decide +kernel
theorem dX12_name_15 : decode cX12_name 15 = .ok (.getfield 174, 3) := by decide +kernel
theorem dX12_name_18 : decode cX12_name 18 = .ok (.iconst 5, 1) := by decide +kernel
theorem dX12_name_19 : decode cX12_name 19 = .ok (.ishl, 1) := by decide +kernel
theorem dX12_name_20 : decode cX12_name 20 = .ok (.aload_n 0, 1) := by decide +kernel
theorem dX12_name_21 : decode cX12_name 21 = .ok (.getfield 161, 3) := by decide +kernel
theorem dX12_name_24 : decode cX12_name 24 = .ok (.iload_n 1, 1) := by decide +kernel
theorem dX12_name_25 : decode cX12_name 25 = .ok (.iadd, 1) := by decide +kernel
theorem dX12_name_26 : decode cX12_name 26 = .ok (.aload_n 0, 1) := by decide +kernel
theorem dX12_name_27 : decode cX12_name 27 = .ok (.getfield 151, 3) := by decide +kernel
theorem dX12_name_30 : decode cX12_name 30 = .ok (.if_icmp .ge 22, 3) := by decide +kernel
theorem dX12_name_33 : decode cX12_name 33 = .ok (.aload_n 0, 1) := by decide +kernel
theorem dX12_name_34 : decode cX12_name 34 = .ok (.getfield 7, 3) := by decide +kernel
theorem dX12_name_37 : decode cX12_name 37 = .ok (.aload_n 0, 1) := by decide +kernel
theorem dX12_name_38 : decode cX12_name 38 = .ok (.getfield 161, 3) := by decide +kernel
theorem dX12_name_41 : decode cX12_name 41 = .ok (.iload_n 1, 1) := by decide +kernel
theorem dX12_name_42 : decode cX12_name 42 = .ok (.iadd, 1) := by decide +kernel
theorem dX12_name_43 : decode cX12_name 43 = .ok (.iaload, 1) := by decide +kernel
theorem dX12_name_44 : decode cX12_name 44 = .ok (.bipush 97, 2) := by decide +kernel
theorem dX12_name_46 : decode cX12_name 46 = .ok (.isub, 1) := by decide +kernel
theorem dX12_name_47 : decode cX12_name 47 = .ok (.iconst 1, 1) := by decide +kernel
theorem dX12_name_48 : decode cX12_name 48 = .ok (.iadd, 1) := by decide +kernel
theorem dX12_name_49 : decode cX12_name 49 = .ok (.goto 4, 3) := by decide +kernel
theorem dX12_name_52 : decode cX12_name 52 = .ok (.iconst 0, 1) := by decide +kernel
theorem dX12_name_53 : decode cX12_name 53 = .ok (.ior, 1) := by decide +kernel
theorem dX12_name_54 : decode cX12_name 54 = .ok (.putfield 174, 3) := by decide +kernel
theorem dX12_name_57 : decode cX12_name 57 = .ok (.iinc 1 1, 3) := by decide +kernel
theorem dX12_name_60 : decode cX12_name 60 = .ok (.goto (-53), 3) := by decide +kernel
theorem dX12_name_63 : decode cX12_name 63 = .ok (.return_, 1) := by decide +kernel
theorem dX12_wrong_0 : decode cX12_wrong 0 = .ok (.aload_n 0, 1) := by decide +kernel
theorem dX12_wrong_1 : decode cX12_wrong 1 = .ok (.getfield 199, 3) := by decide +kernel
theorem dX12_wrong_4 : decode cX12_wrong 4 = .ok (.ifCond .eq 4, 3) := by decide +kernel
theorem dX12_wrong_7 : decode cX12_wrong 7 = .ok (.return_, 1) := by decide +kernel
theorem dX12_wrong_8 : decode cX12_wrong 8 = .ok (.aload_n 0, 1) := by decide +kernel
theorem dX12_wrong_9 : decode cX12_wrong 9 = .ok (.iload_n 1, 1) := by decide +kernel
theorem dX12_wrong_10 : decode cX12_wrong 10 = .ok (.putfield 199, 3) := by decide +kernel
theorem dX12_wrong_13 : decode cX12_wrong 13 = .ok (.aload_n 0, 1) := by decide +kernel
theorem dX12_wrong_14 : decode cX12_wrong 14 = .ok (.aload_n 0, 1) := by decide +kernel
theorem dX12_wrong_15 : decode cX12_wrong 15 = .ok (.getfield 161, 3) := by decide +kernel
theorem dX12_wrong_18 : decode cX12_wrong 18 = .ok (.putfield 202, 3) := by decide +kernel
theorem dX12_wrong_21 : decode cX12_wrong 21 = .ok (.return_, 1) := by decide +kernel
theorem dX12_isWord_0 : decode cX12_isWord 0 = .ok (.aload_n 0, 1) := by decide +kernel
theorem dX12_isWord_1 : decode cX12_isWord 1 = .ok (.getfield 199, 3) := by decide +kernel
theorem dX12_isWord_4 : decode cX12_isWord 4 = .ok (.ifCond .ne 22, 3) := by decide +kernel
theorem dX12_isWord_7 : decode cX12_isWord 7 = .ok (.aload_n 0, 1) := by decide +kernel
theorem dX12_isWord_8 : decode cX12_isWord 8 = .ok (.getfield 164, 3) := by decide +kernel
theorem dX12_isWord_11 : decode cX12_isWord 11 = .ok (.ifCond .ne 15, 3) := by decide +kernel
theorem dX12_isWord_14 : decode cX12_isWord 14 = .ok (.aload_n 0, 1) := by decide +kernel
theorem dX12_isWord_15 : decode cX12_isWord 15 = .ok (.getfield 174, 3) := by decide +kernel
theorem dX12_isWord_18 : decode cX12_isWord 18 = .ok (.iload_n 1, 1) := by decide +kernel
theorem dX12_isWord_19 : decode cX12_isWord 19 = .ok (.if_icmp .ne 7, 3) := by decide +kernel
theorem dX12_isWord_22 : decode cX12_isWord 22 = .ok (.iconst 1, 1) := by decide +kernel
theorem dX12_isWord_23 : decode cX12_isWord 23 = .ok (.goto 4, 3) := by decide +kernel
theorem dX12_isWord_26 : decode cX12_isWord 26 = .ok (.iconst 0, 1) := by decide +kernel
theorem dX12_isWord_27 : decode cX12_isWord 27 = .ok (.ireturn, 1) := by decide +kernel
theorem dX12_isSign_0 : decode cX12_isSign 0 = .ok (.aload_n 0, 1) := by decide +kernel
theorem dX12_isSign_1 : decode cX12_isSign 1 = .ok (.getfield 199, 3) := by decide +kernel
theorem dX12_isSign_4 : decode cX12_isSign 4 = .ok (.ifCond .ne 23, 3) := by decide +kernel
theorem dX12_isSign_7 : decode cX12_isSign 7 = .ok (.aload_n 0, 1) := by decide +kernel
theorem dX12_isSign_8 : decode cX12_isSign 8 = .ok (.getfield 164, 3) := by decide +kernel
theorem dX12_isSign_11 : decode cX12_isSign 11 = .ok (.iconst 3, 1) := by decide +kernel
theorem dX12_isSign_12 : decode cX12_isSign 12 = .ok (.if_icmp .ne 15, 3) := by decide +kernel
theorem dX12_isSign_15 : decode cX12_isSign 15 = .ok (.aload_n 0, 1) := by decide +kernel
theorem dX12_isSign_16 : decode cX12_isSign 16 = .ok (.getfield 174, 3) := by decide +kernel
theorem dX12_isSign_19 : decode cX12_isSign 19 = .ok (.iload_n 1, 1) := by decide +kernel
theorem dX12_isSign_20 : decode cX12_isSign 20 = .ok (.if_icmp .ne 7, 3) := by decide +kernel
theorem dX12_isSign_23 : decode cX12_isSign 23 = .ok (.iconst 1, 1) := by decide +kernel
theorem dX12_isSign_24 : decode cX12_isSign 24 = .ok (.goto 4, 3) := by decide +kernel
theorem dX12_isSign_27 : decode cX12_isSign 27 = .ok (.iconst 0, 1) := by decide +kernel
theorem dX12_isSign_28 : decode cX12_isSign 28 = .ok (.ireturn, 1) := by decide +kernel
theorem dX12_goOn_0 : decode cX12_goOn 0 = .ok (.aload_n 0, 1) := by decide +kernel
theorem dX12_goOn_1 : decode cX12_goOn 1 = .ok (.getfield 199, 3) := by decide +kernel
theorem dX12_goOn_4 : decode cX12_goOn 4 = .ok (.ifCond .ne 7, 3) := by decide +kernel
theorem dX12_goOn_7 : decode cX12_goOn 7 = .ok (.aload_n 0, 1) := by decide +kernel
theorem dX12_goOn_8 : decode cX12_goOn 8 = .ok (.invokevirtual 205, 3) := by decide +kernel
theorem dX12_goOn_11 : decode cX12_goOn 11 = .ok (.return_, 1) := by decide +kernel
theorem dX12_numeral_0 : decode cX12_numeral 0 = .ok (.aload_n 0, 1) := by decide +kernel
theorem dX12_numeral_1 : decode cX12_numeral 1 = .ok (.getfield 199, 3) := by decide +kernel
theorem dX12_numeral_4 : decode cX12_numeral 4 = .ok (.ifCond .eq 5, 3) := by decide +kernel
theorem dX12_numeral_7 : decode cX12_numeral 7 = .ok (.iload_n 1, 1) := by decide +kernel
theorem dX12_numeral_8 : decode cX12_numeral 8 = .ok (.ireturn, 1) := by decide +kernel
theorem dX12_numeral_9 : decode cX12_numeral 9 = .ok (.aload_n 0, 1) := by decide +kernel
theorem dX12_numeral_10 : decode cX12_numeral 10 = .ok (.getfield 164, 3) := by decide +kernel
theorem dX12_numeral_13 : decode cX12_numeral 13 = .ok (.iconst 2, 1) := by decide +kernel
theorem dX12_numeral_14 : decode cX12_numeral 14 = .ok (.if_icmp .eq 11, 3) := by decide +kernel
theorem dX12_numeral_17 : decode cX12_numeral 17 = .ok (.aload_n 0, 1) := by decide +kernel
theorem dX12_numeral_18 : decode cX12_numeral 18 = .ok (.iconst 1, 1) := by decide +kernel
theorem dX12_numeral_19 : decode cX12_numeral 19 = .ok (.invokevirtual 208, 3) := by decide +kernel
theorem dX12_numeral_22 : decode cX12_numeral 22 = .ok (.goto 24, 3) := by decide +kernel
theorem dX12_numeral_25 : decode cX12_numeral 25 = .ok (.aload_n 0, 1) := by decide +kernel
theorem dX12_numeral_26 : decode cX12_numeral 26 = .ok (.getfield 174, 3) := by decide +kernel
theorem dX12_numeral_29 : decode cX12_numeral 29 = .ok (.iload_n 1, 1) := by decide +kernel
theorem dX12_numeral_30 : decode cX12_numeral 30 = .ok (.if_icmp .lt 11, 3) := by decide +kernel
theorem dX12_numeral_33 : decode cX12_numeral 33 = .ok (.aload_n 0, 1) := by decide +kernel
theorem dX12_numeral_34 : decode cX12_numeral 34 = .ok (.getfield 174, 3) := by decide +kernel
theorem dX12_numeral_37 : decode cX12_numeral 37 = .ok (.iload_n 2, 1) := by decide +kernel
theorem dX12_numeral_38 : decode cX12_numeral 38 = .ok (.if_icmp .le 8, 3) := by decide +kernel
theorem dX12_numeral_41 : decode cX12_numeral 41 = .ok (.aload_n 0, 1) := by decide +kernel
theorem dX12_numeral_42 : decode cX12_numeral 42 = .ok (.iconst 2, 1) := by decide +kernel
theorem dX12_numeral_43 : decode cX12_numeral 43 = .ok (.invokevirtual 208, 3) := by decide +kernel
theorem dX12_numeral_46 : decode cX12_numeral 46 = .ok (.aload_n 0, 1) := by decide +kernel
theorem dX12_numeral_47 : decode cX12_numeral 47 = .ok (.getfield 199, 3) := by decide +kernel
theorem dX12_numeral_50 : decode cX12_numeral 50 = .ok (.ifCond .eq 5, 3) := by decide +kernel
theorem dX12_numeral_53 : decode cX12_numeral 53 = .ok (.iload_n 1, 1) := by decide +kernel
theorem dX12_numeral_54 : decode cX12_numeral 54 = .ok (.ireturn, 1) := by decide +kernel
theorem dX12_numeral_55 : decode cX12_numeral 55 = .ok (.aload_n 0, 1) := by decide +kernel
theorem dX12_numeral_56 : decode cX12_numeral 56 = .ok (.getfield 174, 3) := by decide +kernel
theorem dX12_numeral_59 : decode cX12_numeral 59 = .ok (.istore_n 3, 1) := by decide +kernel
theorem dX12_numeral_60 : decode cX12_numeral 60 = .ok (.aload_n 0, 1) := by decide +kernel
theorem dX12_numeral_61 : decode cX12_numeral 61 = .ok (.invokevirtual 205, 3) := by decide +kernel
theorem dX12_numeral_64 : decode cX12_numeral 64 = .ok (.iload_n 3, 1) := by decide +kernel
theorem dX12_numeral_65 : decode cX12_numeral 65 = .ok (.ireturn, 1) := by decide +kernel
theorem dX12_found_0 : decode cX12_found 0 = .ok (.iconst 0, 1) := by decide +kernel
theorem dX12_found_1 : decode cX12_found 1 = .ok (.istore 4, 2) := by decide +kernel
theorem dX12_found_3 : decode cX12_found 3 = .ok (.iload 4, 2) := by decide +kernel
theorem dX12_found_5 : decode cX12_found 5 = .ok (.iload_n 2, 1) := by decide +kernel
theorem dX12_found_6 : decode cX12_found 6 = .ok (.if_icmp .ge 22, 3) := by decide +kernel
theorem dX12_found_9 : decode cX12_found 9 = .ok (.aload_n 0, 1) := by decide +kernel
theorem dX12_found_10 : decode cX12_found 10 = .ok (.iload_n 1, 1) := by decide +kernel
theorem dX12_found_11 : decode cX12_found 11 = .ok (.iload 4, 2) := by decide +kernel
theorem dX12_found_13 : decode cX12_found 13 = .ok (.iadd, 1) := by decide +kernel
theorem dX12_found_14 : decode cX12_found 14 = .ok (.iaload, 1) := by decide +kernel
theorem dX12_found_15 : decode cX12_found 15 = .ok (.iload_n 3, 1) := by decide +kernel
theorem dX12_found_16 : decode cX12_found 16 = .ok (.if_icmp .ne 6, 3) := by decide +kernel
theorem dX12_found_19 : decode cX12_found 19 = .ok (.iload 4, 2) := by decide +kernel
theorem dX12_found_21 : decode cX12_found 21 = .ok (.ireturn, 1) := by decide +kernel
theorem dX12_found_22 : decode cX12_found 22 = .ok (.iinc 4 1, 3) := by decide +kernel
theorem dX12_found_25 : decode cX12_found 25 = .ok (.goto (-22), 3) := by decide +kernel
theorem dX12_found_28 : decode cX12_found 28 = .ok (.iconst (-1), 1) := by decide +kernel
theorem dX12_found_29 : decode cX12_found 29 = .ok (.ireturn, 1) := by decide +kernel
theorem dX12_fresh_0 : decode cX12_fresh 0 = .ok (.aload_n 0, 1) := by decide +kernel
theorem dX12_fresh_1 : decode cX12_fresh 1 = .ok (.getfield 199, 3) := by decide +kernel
theorem dX12_fresh_4 : decode cX12_fresh 4 = .ok (.ifCond .eq 5, 3) := by decide +kernel
theorem dX12_fresh_7 : decode cX12_fresh 7 = .ok (.iconst 0, 1) := by decide +kernel
theorem dX12_fresh_8 : decode cX12_fresh 8 = .ok (.ireturn, 1) := by decide +kernel
theorem dX12_fresh_9 : decode cX12_fresh 9 = .ok (.aload_n 0, 1) := by decide +kernel
theorem dX12_fresh_10 : decode cX12_fresh 10 = .ok (.getfield 164, 3) := by decide +kernel
theorem dX12_fresh_13 : decode cX12_fresh 13 = .ok (.iconst 1, 1) := by decide +kernel
theorem dX12_fresh_14 : decode cX12_fresh 14 = .ok (.if_icmp .eq 11, 3) := by decide +kernel
theorem dX12_fresh_17 : decode cX12_fresh 17 = .ok (.aload_n 0, 1) := by decide +kernel
theorem dX12_fresh_18 : decode cX12_fresh 18 = .ok (.iconst 1, 1) := by decide +kernel
theorem dX12_fresh_19 : decode cX12_fresh 19 = .ok (.invokevirtual 208, 3) := by decide +kernel
theorem dX12_fresh_22 : decode cX12_fresh 22 = .ok (.goto 22, 3) := by decide +kernel
theorem dX12_fresh_25 : decode cX12_fresh 25 = .ok (.aload_n 1, 1) := by decide +kernel
theorem dX12_fresh_26 : decode cX12_fresh 26 = .ok (.iload_n 2, 1) := by decide +kernel
theorem dX12_fresh_27 : decode cX12_fresh 27 = .ok (.iload_n 3, 1) := by decide +kernel
theorem dX12_fresh_28 : decode cX12_fresh 28 = .ok (.aload_n 0, 1) := by decide +kernel
theorem dX12_fresh_29 : decode cX12_fresh 29 = .ok (.getfield 174, 3) := by decide +kernel
theorem dX12_fresh_32 : decode cX12_fresh 32 = .ok (.invokestatic 211, 3) := by decide +kernel
theorem dX12_fresh_35 : decode cX12_fresh 35 = .ok (.iconst (-1), 1) := by decide +kernel
theorem dX12_fresh_36 : decode cX12_fresh 36 = .ok (.if_icmp .eq 8, 3) := by decide +kernel
theorem dX12_fresh_39 : decode cX12_fresh 39 = .ok (.aload_n 0, 1) := by decide +kernel
theorem dX12_fresh_40 : decode cX12_fresh 40 = .ok (.iconst 3, 1) := by decide +kernel
theorem dX12_fresh_41 : decode cX12_fresh 41 = .ok (.invokevirtual 208, 3) := by decide +kernel
theorem dX12_fresh_44 : decode cX12_fresh 44 = .ok (.aload_n 0, 1) := by decide +kernel
theorem dX12_fresh_45 : decode cX12_fresh 45 = .ok (.getfield 199, 3) := by decide +kernel
theorem dX12_fresh_48 : decode cX12_fresh 48 = .ok (.ifCond .eq 5, 3) := by decide +kernel
theorem dX12_fresh_51 : decode cX12_fresh 51 = .ok (.iconst 0, 1) := by decide +kernel
theorem dX12_fresh_52 : decode cX12_fresh 52 = .ok (.ireturn, 1) := by decide +kernel
theorem dX12_fresh_53 : decode cX12_fresh 53 = .ok (.aload_n 0, 1) := by decide +kernel
theorem dX12_fresh_54 : decode cX12_fresh 54 = .ok (.getfield 174, 3) := by decide +kernel
theorem dX12_fresh_57 : decode cX12_fresh 57 = .ok (.istore 4, 2) := by decide +kernel
theorem dX12_fresh_59 : decode cX12_fresh 59 = .ok (.aload_n 0, 1) := by decide +kernel
theorem dX12_fresh_60 : decode cX12_fresh 60 = .ok (.invokevirtual 205, 3) := by decide +kernel
theorem dX12_fresh_63 : decode cX12_fresh 63 = .ok (.iload 4, 2) := by decide +kernel
theorem dX12_fresh_65 : decode cX12_fresh 65 = .ok (.ireturn, 1) := by decide +kernel
theorem dX12_fresher_0 : decode cX12_fresher 0 = .ok (.aload_n 0, 1) := by decide +kernel
theorem dX12_fresher_1 : decode cX12_fresher 1 = .ok (.getfield 13, 3) := by decide +kernel
theorem dX12_fresher_4 : decode cX12_fresher 4 = .ok (.bipush 7, 2) := by decide +kernel
theorem dX12_fresher_6 : decode cX12_fresher 6 = .ok (.iload_n 1, 1) := by decide +kernel
theorem dX12_fresher_7 : decode cX12_fresher 7 = .ok (.iadd, 1) := by decide +kernel
theorem dX12_fresher_8 : decode cX12_fresher 8 = .ok (.iaload, 1) := by decide +kernel
theorem dX12_fresher_9 : decode cX12_fresher 9 = .ok (.ireturn, 1) := by decide +kernel
theorem dX12_reads_0 : decode cX12_reads 0 = .ok (.aload_n 0, 1) := by decide +kernel
theorem dX12_reads_1 : decode cX12_reads 1 = .ok (.getfield 13, 3) := by decide +kernel
theorem dX12_reads_4 : decode cX12_reads 4 = .ok (.bipush 7, 2) := by decide +kernel
theorem dX12_reads_6 : decode cX12_reads 6 = .ok (.iload_n 1, 1) := by decide +kernel
theorem dX12_reads_7 : decode cX12_reads 7 = .ok (.iadd, 1) := by decide +kernel
theorem dX12_reads_8 : decode cX12_reads 8 = .ok (.iload_n 2, 1) := by decide +kernel
theorem dX12_reads_9 : decode cX12_reads 9 = .ok (.iastore, 1) := by decide +kernel
theorem dX12_reads_10 : decode cX12_reads 10 = .ok (.return_, 1) := by decide +kernel
theorem dX12_toldAhead_0 : decode cX12_toldAhead 0 = .ok (.aload_n 0, 1) := by decide +kernel
theorem dX12_toldAhead_1 : decode cX12_toldAhead 1 = .ok (.getfield 199, 3) := by decide +kernel
theorem dX12_toldAhead_4 : decode cX12_toldAhead 4 = .ok (.ifCond .eq 5, 3) := by decide +kernel
theorem dX12_toldAhead_7 : decode cX12_toldAhead 7 = .ok (.iconst 0, 1) := by decide +kernel
theorem dX12_toldAhead_8 : decode cX12_toldAhead 8 = .ok (.ireturn, 1) := by decide +kernel
theorem dX12_toldAhead_9 : decode cX12_toldAhead 9 = .ok (.aload_n 0, 1) := by decide +kernel
theorem dX12_toldAhead_10 : decode cX12_toldAhead 10 = .ok (.getfield 164, 3) := by decide +kernel
theorem dX12_toldAhead_13 : decode cX12_toldAhead 13 = .ok (.iconst 1, 1) := by decide +kernel
theorem dX12_toldAhead_14 : decode cX12_toldAhead 14 = .ok (.if_icmp .eq 8, 3) := by decide +kernel
theorem dX12_toldAhead_17 : decode cX12_toldAhead 17 = .ok (.aload_n 0, 1) := by decide +kernel
theorem dX12_toldAhead_18 : decode cX12_toldAhead 18 = .ok (.iconst 1, 1) := by decide +kernel
theorem dX12_toldAhead_19 : decode cX12_toldAhead 19 = .ok (.invokevirtual 208, 3) := by decide +kernel
theorem dX12_toldAhead_22 : decode cX12_toldAhead 22 = .ok (.aload_n 0, 1) := by decide +kernel
theorem dX12_toldAhead_23 : decode cX12_toldAhead 23 = .ok (.getfield 199, 3) := by decide +kernel
theorem dX12_toldAhead_26 : decode cX12_toldAhead 26 = .ok (.ifCond .ne 16, 3) := by decide +kernel
theorem dX12_toldAhead_29 : decode cX12_toldAhead 29 = .ok (.aload_n 1, 1) := by decide +kernel
theorem dX12_toldAhead_30 : decode cX12_toldAhead 30 = .ok (.iload_n 2, 1) := by decide +kernel
theorem dX12_toldAhead_31 : decode cX12_toldAhead 31 = .ok (.iload_n 3, 1) := by decide +kernel
theorem dX12_toldAhead_32 : decode cX12_toldAhead 32 = .ok (.aload_n 0, 1) := by decide +kernel
theorem dX12_toldAhead_33 : decode cX12_toldAhead 33 = .ok (.getfield 174, 3) := by decide +kernel
theorem dX12_toldAhead_36 : decode cX12_toldAhead 36 = .ok (.invokestatic 211, 3) := by decide +kernel
theorem dX12_toldAhead_39 : decode cX12_toldAhead 39 = .ok (.goto 4, 3) := by decide +kernel
theorem dX12_toldAhead_42 : decode cX12_toldAhead 42 = .ok (.iconst 0, 1) := by decide +kernel
theorem dX12_toldAhead_43 : decode cX12_toldAhead 43 = .ok (.istore 4, 2) := by decide +kernel
theorem dX12_toldAhead_45 : decode cX12_toldAhead 45 = .ok (.aload_n 0, 1) := by decide +kernel
theorem dX12_toldAhead_46 : decode cX12_toldAhead 46 = .ok (.getfield 199, 3) := by decide +kernel
theorem dX12_toldAhead_49 : decode cX12_toldAhead 49 = .ok (.ifCond .ne 14, 3) := by decide +kernel
theorem dX12_toldAhead_52 : decode cX12_toldAhead 52 = .ok (.iload 4, 2) := by decide +kernel
theorem dX12_toldAhead_54 : decode cX12_toldAhead 54 = .ok (.iconst (-1), 1) := by decide +kernel
theorem dX12_toldAhead_55 : decode cX12_toldAhead 55 = .ok (.if_icmp .ne 8, 3) := by decide +kernel
theorem dX12_toldAhead_58 : decode cX12_toldAhead 58 = .ok (.aload_n 0, 1) := by decide +kernel
theorem dX12_toldAhead_59 : decode cX12_toldAhead 59 = .ok (.iconst 4, 1) := by decide +kernel
theorem dX12_toldAhead_60 : decode cX12_toldAhead 60 = .ok (.invokevirtual 208, 3) := by decide +kernel
theorem dX12_toldAhead_63 : decode cX12_toldAhead 63 = .ok (.aload_n 0, 1) := by decide +kernel
theorem dX12_toldAhead_64 : decode cX12_toldAhead 64 = .ok (.invokevirtual 215, 3) := by decide +kernel
theorem dX12_toldAhead_67 : decode cX12_toldAhead 67 = .ok (.aload_n 0, 1) := by decide +kernel
theorem dX12_toldAhead_68 : decode cX12_toldAhead 68 = .ok (.getfield 199, 3) := by decide +kernel
theorem dX12_toldAhead_71 : decode cX12_toldAhead 71 = .ok (.ifCond .eq 7, 3) := by decide +kernel
theorem dX12_toldAhead_74 : decode cX12_toldAhead 74 = .ok (.iconst 0, 1) := by decide +kernel
theorem dX12_toldAhead_75 : decode cX12_toldAhead 75 = .ok (.goto 5, 3) := by decide +kernel
theorem dX12_toldAhead_78 : decode cX12_toldAhead 78 = .ok (.iload 4, 2) := by decide +kernel
theorem dX12_toldAhead_80 : decode cX12_toldAhead 80 = .ok (.ireturn, 1) := by decide +kernel
theorem dX12_isFull_0 : decode cX12_isFull 0 = .ok (.iload_n 1, 1) := by decide +kernel
theorem dX12_isFull_1 : decode cX12_isFull 1 = .ok (.ifCond .ne 12, 3) := by decide +kernel
theorem dX12_isFull_4 : decode cX12_isFull 4 = .ok (.aload_n 0, 1) := by decide +kernel
theorem dX12_isFull_5 : decode cX12_isFull 5 = .ok (.iconst 0, 1) := by decide +kernel
theorem dX12_isFull_6 : decode cX12_isFull 6 = .ok (.invokevirtual 218, 3) := by decide +kernel
theorem dX12_isFull_9 : decode cX12_isFull 9 = .ok (.iconst 4, 1) := by decide +kernel
theorem dX12_isFull_10 : decode cX12_isFull 10 = .ok (.if_icmp .eq 33, 3) := by decide +kernel
theorem dX12_isFull_13 : decode cX12_isFull 13 = .ok (.iload_n 1, 1) := by decide +kernel
theorem dX12_isFull_14 : decode cX12_isFull 14 = .ok (.iconst 1, 1) := by decide +kernel
theorem dX12_isFull_15 : decode cX12_isFull 15 = .ok (.if_icmp .ne 13, 3) := by decide +kernel
theorem dX12_isFull_18 : decode cX12_isFull 18 = .ok (.aload_n 0, 1) := by decide +kernel
theorem dX12_isFull_19 : decode cX12_isFull 19 = .ok (.iconst 1, 1) := by decide +kernel
theorem dX12_isFull_20 : decode cX12_isFull 20 = .ok (.invokevirtual 218, 3) := by decide +kernel
theorem dX12_isFull_23 : decode cX12_isFull 23 = .ok (.bipush 6, 2) := by decide +kernel
theorem dX12_isFull_25 : decode cX12_isFull 25 = .ok (.if_icmp .eq 18, 3) := by decide +kernel
theorem dX12_isFull_28 : decode cX12_isFull 28 = .ok (.iload_n 1, 1) := by decide +kernel
theorem dX12_isFull_29 : decode cX12_isFull 29 = .ok (.iconst 2, 1) := by decide +kernel
theorem dX12_isFull_30 : decode cX12_isFull 30 = .ok (.if_icmp .ne 17, 3) := by decide +kernel
theorem dX12_isFull_33 : decode cX12_isFull 33 = .ok (.aload_n 0, 1) := by decide +kernel
theorem dX12_isFull_34 : decode cX12_isFull 34 = .ok (.iconst 2, 1) := by decide +kernel
theorem dX12_isFull_35 : decode cX12_isFull 35 = .ok (.invokevirtual 218, 3) := by decide +kernel
theorem dX12_isFull_38 : decode cX12_isFull 38 = .ok (.bipush 10, 2) := by decide +kernel
theorem dX12_isFull_40 : decode cX12_isFull 40 = .ok (.if_icmp .ne 7, 3) := by decide +kernel
theorem dX12_isFull_43 : decode cX12_isFull 43 = .ok (.iconst 1, 1) := by decide +kernel
theorem dX12_isFull_44 : decode cX12_isFull 44 = .ok (.goto 4, 3) := by decide +kernel
theorem dX12_isFull_47 : decode cX12_isFull 47 = .ok (.iconst 0, 1) := by decide +kernel
theorem dX12_isFull_48 : decode cX12_isFull 48 = .ok (.ireturn, 1) := by decide +kernel
theorem dX12_puts_0 : decode cX12_puts 0 = .ok (.aload_n 0, 1) := by decide +kernel
theorem dX12_puts_1 : decode cX12_puts 1 = .ok (.getfield 199, 3) := by decide +kernel
theorem dX12_puts_4 : decode cX12_puts 4 = .ok (.ifCond .eq 4, 3) := by decide +kernel
theorem dX12_puts_7 : decode cX12_puts 7 = .ok (.return_, 1) := by decide +kernel
theorem dX12_puts_8 : decode cX12_puts 8 = .ok (.aload_n 0, 1) := by decide +kernel
theorem dX12_puts_9 : decode cX12_puts 9 = .ok (.getfield 55, 3) := by decide +kernel
theorem dX12_puts_12 : decode cX12_puts 12 = .ok (.bipush 64, 2) := by decide +kernel
theorem dX12_puts_14 : decode cX12_puts 14 = .ok (.aload_n 0, 1) := by decide +kernel
theorem dX12_puts_15 : decode cX12_puts 15 = .ok (.bipush 6, 2) := by decide +kernel
theorem dX12_puts_17 : decode cX12_puts 17 = .ok (.invokevirtual 218, 3) := by decide +kernel
theorem dX12_puts_20 : decode cX12_puts 20 = .ok (.iadd, 1) := by decide +kernel
theorem dX12_puts_21 : decode cX12_puts 21 = .ok (.iload_n 1, 1) := by decide +kernel
theorem dX12_puts_22 : decode cX12_puts 22 = .ok (.iastore, 1) := by decide +kernel
theorem dX12_puts_23 : decode cX12_puts 23 = .ok (.aload_n 0, 1) := by decide +kernel
theorem dX12_puts_24 : decode cX12_puts 24 = .ok (.getfield 58, 3) := by decide +kernel
theorem dX12_puts_27 : decode cX12_puts 27 = .ok (.bipush 64, 2) := by decide +kernel
theorem dX12_puts_29 : decode cX12_puts 29 = .ok (.aload_n 0, 1) := by decide +kernel
theorem dX12_puts_30 : decode cX12_puts 30 = .ok (.bipush 6, 2) := by decide +kernel
theorem dX12_puts_32 : decode cX12_puts 32 = .ok (.invokevirtual 218, 3) := by decide +kernel
theorem dX12_puts_35 : decode cX12_puts 35 = .ok (.iadd, 1) := by decide +kernel
theorem dX12_puts_36 : decode cX12_puts 36 = .ok (.iload_n 2, 1) := by decide +kernel
theorem dX12_puts_37 : decode cX12_puts 37 = .ok (.iastore, 1) := by decide +kernel
theorem dX12_puts_38 : decode cX12_puts 38 = .ok (.aload_n 0, 1) := by decide +kernel
theorem dX12_puts_39 : decode cX12_puts 39 = .ok (.bipush 6, 2) := by decide +kernel
theorem dX12_puts_41 : decode cX12_puts 41 = .ok (.aload_n 0, 1) := by decide +kernel
theorem dX12_puts_42 : decode cX12_puts 42 = .ok (.bipush 6, 2) := by decide +kernel
theorem dX12_puts_44 : decode cX12_puts 44 = .ok (.invokevirtual 218, 3) := by decide +kernel
theorem dX12_puts_47 : decode cX12_puts 47 = .ok (.iconst 1, 1) := by decide +kernel
theorem dX12_puts_48 : decode cX12_puts 48 = .ok (.iadd, 1) := by decide +kernel
theorem dX12_puts_49 : decode cX12_puts 49 = .ok (.invokevirtual 236, 3) := by decide +kernel
theorem dX12_puts_52 : decode cX12_puts 52 = .ok (.return_, 1) := by decide +kernel
theorem dX12_knot_0 : decode cX12_knot 0 = .ok (.aload_n 0, 1) := by decide +kernel
theorem dX12_knot_1 : decode cX12_knot 1 = .ok (.getfield 199, 3) := by decide +kernel
theorem dX12_knot_4 : decode cX12_knot 4 = .ok (.ifCond .eq 4, 3) := by decide +kernel
theorem dX12_knot_7 : decode cX12_knot 7 = .ok (.return_, 1) := by decide +kernel
theorem dX12_knot_8 : decode cX12_knot 8 = .ok (.aload_n 0, 1) := by decide +kernel
theorem dX12_knot_9 : decode cX12_knot 9 = .ok (.getfield 255, 3) := by decide +kernel
theorem dX12_knot_12 : decode cX12_knot 12 = .ok (.bipush 64, 2) := by decide +kernel
theorem dX12_knot_14 : decode cX12_knot 14 = .ok (.if_icmp .ne 11, 3) := by decide +kernel
theorem dX12_knot_17 : decode cX12_knot 17 = .ok (.aload_n 0, 1) := by decide +kernel
theorem dX12_knot_18 : decode cX12_knot 18 = .ok (.iconst 2, 1) := by decide +kernel
theorem dX12_knot_19 : decode cX12_knot 19 = .ok (.invokevirtual 208, 3) := by decide +kernel
theorem dX12_knot_22 : decode cX12_knot 22 = .ok (.goto 13, 3) := by decide +kernel
theorem dX12_knot_25 : decode cX12_knot 25 = .ok (.aload_n 0, 1) := by decide +kernel
theorem dX12_knot_26 : decode cX12_knot 26 = .ok (.dup, 1) := by decide +kernel
theorem dX12_knot_27 : decode cX12_knot 27 = .ok (.getfield 255, 3) := by decide +kernel
theorem dX12_knot_30 : decode cX12_knot 30 = .ok (.iconst 1, 1) := by decide +kernel
theorem dX12_knot_31 : decode cX12_knot 31 = .ok (.iadd, 1) := by decide +kernel
theorem dX12_knot_32 : decode cX12_knot 32 = .ok (.putfield 255, 3) := by decide +kernel
theorem dX12_knot_35 : decode cX12_knot 35 = .ok (.return_, 1) := by decide +kernel
theorem dX12_expression_0 : decode cX12_expression 0 = .ok (.aload_n 0, 1) := by decide +kernel
theorem dX12_expression_1 : decode cX12_expression 1 = .ok (.invokevirtual 258, 3) := by decide +kernel
theorem dX12_expression_4 : decode cX12_expression 4 = .ok (.aload_n 0, 1) := by decide +kernel
theorem dX12_expression_5 : decode cX12_expression 5 = .ok (.bipush 10, 2) := by decide +kernel
theorem dX12_expression_7 : decode cX12_expression 7 = .ok (.invokevirtual 261, 3) := by decide +kernel
theorem dX12_expression_10 : decode cX12_expression 10 = .ok (.ifCond .eq 26, 3) := by decide +kernel
theorem dX12_expression_13 : decode cX12_expression 13 = .ok (.aload_n 0, 1) := by decide +kernel
theorem dX12_expression_14 : decode cX12_expression 14 = .ok (.invokevirtual 264, 3) := by decide +kernel
theorem dX12_expression_17 : decode cX12_expression 17 = .ok (.aload_n 0, 1) := by decide +kernel
theorem dX12_expression_18 : decode cX12_expression 18 = .ok (.invokevirtual 215, 3) := by decide +kernel
theorem dX12_expression_21 : decode cX12_expression 21 = .ok (.aload_n 0, 1) := by decide +kernel
theorem dX12_expression_22 : decode cX12_expression 22 = .ok (.invokevirtual 258, 3) := by decide +kernel
theorem dX12_expression_25 : decode cX12_expression 25 = .ok (.aload_n 0, 1) := by decide +kernel
theorem dX12_expression_26 : decode cX12_expression 26 = .ok (.iconst 2, 1) := by decide +kernel
theorem dX12_expression_27 : decode cX12_expression 27 = .ok (.sipush 262, 3) := by decide +kernel
theorem dX12_expression_30 : decode cX12_expression 30 = .ok (.invokevirtual 267, 3) := by decide +kernel
theorem dX12_expression_33 : decode cX12_expression 33 = .ok (.goto (-29), 3) := by decide +kernel
theorem dX12_expression_36 : decode cX12_expression 36 = .ok (.return_, 1) := by decide +kernel
theorem dX12_conjunction_0 : decode cX12_conjunction 0 = .ok (.aload_n 0, 1) := by decide +kernel
theorem dX12_conjunction_1 : decode cX12_conjunction 1 = .ok (.invokevirtual 270, 3) := by decide +kernel
theorem dX12_conjunction_4 : decode cX12_conjunction 4 = .ok (.aload_n 0, 1) := by decide +kernel
theorem dX12_conjunction_5 : decode cX12_conjunction 5 = .ok (.bipush 11, 2) := by decide +kernel
theorem dX12_conjunction_7 : decode cX12_conjunction 7 = .ok (.invokevirtual 261, 3) := by decide +kernel
theorem dX12_conjunction_10 : decode cX12_conjunction 10 = .ok (.ifCond .eq 26, 3) := by decide +kernel
theorem dX12_conjunction_13 : decode cX12_conjunction 13 = .ok (.aload_n 0, 1) := by decide +kernel
theorem dX12_conjunction_14 : decode cX12_conjunction 14 = .ok (.invokevirtual 264, 3) := by decide +kernel
theorem dX12_conjunction_17 : decode cX12_conjunction 17 = .ok (.aload_n 0, 1) := by decide +kernel
theorem dX12_conjunction_18 : decode cX12_conjunction 18 = .ok (.invokevirtual 215, 3) := by decide +kernel
theorem dX12_conjunction_21 : decode cX12_conjunction 21 = .ok (.aload_n 0, 1) := by decide +kernel
theorem dX12_conjunction_22 : decode cX12_conjunction 22 = .ok (.invokevirtual 270, 3) := by decide +kernel
theorem dX12_conjunction_25 : decode cX12_conjunction 25 = .ok (.aload_n 0, 1) := by decide +kernel
theorem dX12_conjunction_26 : decode cX12_conjunction 26 = .ok (.iconst 2, 1) := by decide +kernel
theorem dX12_conjunction_27 : decode cX12_conjunction 27 = .ok (.sipush 261, 3) := by decide +kernel
theorem dX12_conjunction_30 : decode cX12_conjunction 30 = .ok (.invokevirtual 267, 3) := by decide +kernel
theorem dX12_conjunction_33 : decode cX12_conjunction 33 = .ok (.goto (-29), 3) := by decide +kernel
theorem dX12_conjunction_36 : decode cX12_conjunction 36 = .ok (.return_, 1) := by decide +kernel
theorem dX12_negation_0 : decode cX12_negation 0 = .ok (.aload_n 0, 1) := by decide +kernel
theorem dX12_negation_1 : decode cX12_negation 1 = .ok (.bipush 12, 2) := by decide +kernel
theorem dX12_negation_3 : decode cX12_negation 3 = .ok (.invokevirtual 261, 3) := by decide +kernel
theorem dX12_negation_6 : decode cX12_negation 6 = .ok (.ifCond .eq 24, 3) := by decide +kernel
theorem dX12_negation_9 : decode cX12_negation 9 = .ok (.aload_n 0, 1) := by decide +kernel
theorem dX12_negation_10 : decode cX12_negation 10 = .ok (.invokevirtual 264, 3) := by decide +kernel
theorem dX12_negation_13 : decode cX12_negation 13 = .ok (.aload_n 0, 1) := by decide +kernel
theorem dX12_negation_14 : decode cX12_negation 14 = .ok (.invokevirtual 215, 3) := by decide +kernel
theorem dX12_negation_17 : decode cX12_negation 17 = .ok (.aload_n 0, 1) := by decide +kernel
theorem dX12_negation_18 : decode cX12_negation 18 = .ok (.invokevirtual 270, 3) := by decide +kernel
theorem dX12_negation_21 : decode cX12_negation 21 = .ok (.aload_n 0, 1) := by decide +kernel
theorem dX12_negation_22 : decode cX12_negation 22 = .ok (.iconst 2, 1) := by decide +kernel
theorem dX12_negation_23 : decode cX12_negation 23 = .ok (.sipush 260, 3) := by decide +kernel
theorem dX12_negation_26 : decode cX12_negation 26 = .ok (.invokevirtual 267, 3) := by decide +kernel
theorem dX12_negation_29 : decode cX12_negation 29 = .ok (.return_, 1) := by decide +kernel
theorem dX12_negation_30 : decode cX12_negation 30 = .ok (.aload_n 0, 1) := by decide +kernel
theorem dX12_negation_31 : decode cX12_negation 31 = .ok (.invokevirtual 273, 3) := by decide +kernel
theorem dX12_negation_34 : decode cX12_negation 34 = .ok (.aload_n 0, 1) := by decide +kernel
theorem dX12_negation_35 : decode cX12_negation 35 = .ok (.getfield 199, 3) := by decide +kernel
theorem dX12_negation_38 : decode cX12_negation 38 = .ok (.ifCond .ne 48, 3) := by decide +kernel
theorem dX12_negation_41 : decode cX12_negation 41 = .ok (.aload_n 0, 1) := by decide +kernel
theorem dX12_negation_42 : decode cX12_negation 42 = .ok (.getfield 164, 3) := by decide +kernel
theorem dX12_negation_45 : decode cX12_negation 45 = .ok (.iconst 3, 1) := by decide +kernel
theorem dX12_negation_46 : decode cX12_negation 46 = .ok (.if_icmp .ne 40, 3) := by decide +kernel
theorem dX12_negation_49 : decode cX12_negation 49 = .ok (.aload_n 0, 1) := by decide +kernel
theorem dX12_negation_50 : decode cX12_negation 50 = .ok (.getfield 174, 3) := by decide +kernel
theorem dX12_negation_53 : decode cX12_negation 53 = .ok (.bipush 60, 2) := by decide +kernel
theorem dX12_negation_55 : decode cX12_negation 55 = .ok (.if_icmp .eq 32, 3) := by decide +kernel
theorem dX12_negation_58 : decode cX12_negation 58 = .ok (.aload_n 0, 1) := by decide +kernel
theorem dX12_negation_59 : decode cX12_negation 59 = .ok (.getfield 174, 3) := by decide +kernel
theorem dX12_negation_62 : decode cX12_negation 62 = .ok (.bipush 62, 2) := by decide +kernel
theorem dX12_negation_64 : decode cX12_negation 64 = .ok (.if_icmp .eq 23, 3) := by decide +kernel
theorem dX12_negation_67 : decode cX12_negation 67 = .ok (.aload_n 0, 1) := by decide +kernel
theorem dX12_negation_68 : decode cX12_negation 68 = .ok (.getfield 174, 3) := by decide +kernel
theorem dX12_negation_71 : decode cX12_negation 71 = .ok (.bipush 61, 2) := by decide +kernel
theorem dX12_negation_73 : decode cX12_negation 73 = .ok (.if_icmp .eq 14, 3) := by decide +kernel
theorem dX12_negation_76 : decode cX12_negation 76 = .ok (.aload_n 0, 1) := by decide +kernel
theorem dX12_negation_77 : decode cX12_negation 77 = .ok (.getfield 174, 3) := by decide +kernel
theorem dX12_negation_80 : decode cX12_negation 80 = .ok (.sipush 256, 3) := by decide +kernel
theorem dX12_negation_83 : decode cX12_negation 83 = .ok (.if_icmp .ge 4, 3) := by decide +kernel
theorem dX12_negation_86 : decode cX12_negation 86 = .ok (.return_, 1) := by decide +kernel
theorem dX12_negation_87 : decode cX12_negation 87 = .ok (.aload_n 0, 1) := by decide +kernel
theorem dX12_negation_88 : decode cX12_negation 88 = .ok (.getfield 174, 3) := by decide +kernel
theorem dX12_negation_91 : decode cX12_negation 91 = .ok (.istore_n 1, 1) := by decide +kernel
theorem dX12_negation_92 : decode cX12_negation 92 = .ok (.aload_n 0, 1) := by decide +kernel
theorem dX12_negation_93 : decode cX12_negation 93 = .ok (.invokevirtual 264, 3) := by decide +kernel
theorem dX12_negation_96 : decode cX12_negation 96 = .ok (.aload_n 0, 1) := by decide +kernel
theorem dX12_negation_97 : decode cX12_negation 97 = .ok (.invokevirtual 215, 3) := by decide +kernel
theorem dX12_negation_100 : decode cX12_negation 100 = .ok (.aload_n 0, 1) := by decide +kernel
theorem dX12_negation_101 : decode cX12_negation 101 = .ok (.invokevirtual 273, 3) := by decide +kernel
theorem dX12_negation_104 : decode cX12_negation 104 = .ok (.aload_n 0, 1) := by decide +kernel
theorem dX12_negation_105 : decode cX12_negation 105 = .ok (.iconst 2, 1) := by decide +kernel
theorem dX12_negation_106 : decode cX12_negation 106 = .ok (.iload_n 1, 1) := by decide +kernel
theorem dX12_negation_107 : decode cX12_negation 107 = .ok (.invokevirtual 267, 3) := by decide +kernel
theorem dX12_negation_110 : decode cX12_negation 110 = .ok (.return_, 1) := by decide +kernel
theorem dX12_sum_0 : decode cX12_sum 0 = .ok (.aload_n 0, 1) := by decide +kernel
theorem dX12_sum_1 : decode cX12_sum 1 = .ok (.invokevirtual 276, 3) := by decide +kernel
theorem dX12_sum_4 : decode cX12_sum 4 = .ok (.aload_n 0, 1) := by decide +kernel
theorem dX12_sum_5 : decode cX12_sum 5 = .ok (.bipush 43, 2) := by decide +kernel
theorem dX12_sum_7 : decode cX12_sum 7 = .ok (.invokevirtual 246, 3) := by decide +kernel
theorem dX12_sum_10 : decode cX12_sum 10 = .ok (.ifCond .ne 12, 3) := by decide +kernel
theorem dX12_sum_13 : decode cX12_sum 13 = .ok (.aload_n 0, 1) := by decide +kernel
theorem dX12_sum_14 : decode cX12_sum 14 = .ok (.bipush 45, 2) := by decide +kernel
theorem dX12_sum_16 : decode cX12_sum 16 = .ok (.invokevirtual 246, 3) := by decide +kernel
theorem dX12_sum_19 : decode cX12_sum 19 = .ok (.ifCond .eq 29, 3) := by decide +kernel
theorem dX12_sum_22 : decode cX12_sum 22 = .ok (.aload_n 0, 1) := by decide +kernel
theorem dX12_sum_23 : decode cX12_sum 23 = .ok (.getfield 174, 3) := by decide +kernel
theorem dX12_sum_26 : decode cX12_sum 26 = .ok (.istore_n 1, 1) := by decide +kernel
theorem dX12_sum_27 : decode cX12_sum 27 = .ok (.aload_n 0, 1) := by decide +kernel
theorem dX12_sum_28 : decode cX12_sum 28 = .ok (.invokevirtual 264, 3) := by decide +kernel
theorem dX12_sum_31 : decode cX12_sum 31 = .ok (.aload_n 0, 1) := by decide +kernel
theorem dX12_sum_32 : decode cX12_sum 32 = .ok (.invokevirtual 215, 3) := by decide +kernel
theorem dX12_sum_35 : decode cX12_sum 35 = .ok (.aload_n 0, 1) := by decide +kernel
theorem dX12_sum_36 : decode cX12_sum 36 = .ok (.invokevirtual 276, 3) := by decide +kernel
theorem dX12_sum_39 : decode cX12_sum 39 = .ok (.aload_n 0, 1) := by decide +kernel
theorem dX12_sum_40 : decode cX12_sum 40 = .ok (.iconst 2, 1) := by decide +kernel
theorem dX12_sum_41 : decode cX12_sum 41 = .ok (.iload_n 1, 1) := by decide +kernel
theorem dX12_sum_42 : decode cX12_sum 42 = .ok (.invokevirtual 267, 3) := by decide +kernel
theorem dX12_sum_45 : decode cX12_sum 45 = .ok (.goto (-41), 3) := by decide +kernel
theorem dX12_sum_48 : decode cX12_sum 48 = .ok (.return_, 1) := by decide +kernel
theorem dX12_product_0 : decode cX12_product 0 = .ok (.aload_n 0, 1) := by decide +kernel
theorem dX12_product_1 : decode cX12_product 1 = .ok (.invokevirtual 279, 3) := by decide +kernel
theorem dX12_product_4 : decode cX12_product 4 = .ok (.aload_n 0, 1) := by decide +kernel
theorem dX12_product_5 : decode cX12_product 5 = .ok (.bipush 42, 2) := by decide +kernel
theorem dX12_product_7 : decode cX12_product 7 = .ok (.invokevirtual 246, 3) := by decide +kernel
theorem dX12_product_10 : decode cX12_product 10 = .ok (.ifCond .ne 12, 3) := by decide +kernel
theorem dX12_product_13 : decode cX12_product 13 = .ok (.aload_n 0, 1) := by decide +kernel
theorem dX12_product_14 : decode cX12_product 14 = .ok (.bipush 47, 2) := by decide +kernel
theorem dX12_product_16 : decode cX12_product 16 = .ok (.invokevirtual 246, 3) := by decide +kernel
theorem dX12_product_19 : decode cX12_product 19 = .ok (.ifCond .eq 29, 3) := by decide +kernel
theorem dX12_product_22 : decode cX12_product 22 = .ok (.aload_n 0, 1) := by decide +kernel
theorem dX12_product_23 : decode cX12_product 23 = .ok (.getfield 174, 3) := by decide +kernel
theorem dX12_product_26 : decode cX12_product 26 = .ok (.istore_n 1, 1) := by decide +kernel
theorem dX12_product_27 : decode cX12_product 27 = .ok (.aload_n 0, 1) := by decide +kernel
theorem dX12_product_28 : decode cX12_product 28 = .ok (.invokevirtual 264, 3) := by decide +kernel
theorem dX12_product_31 : decode cX12_product 31 = .ok (.aload_n 0, 1) := by decide +kernel
theorem dX12_product_32 : decode cX12_product 32 = .ok (.invokevirtual 215, 3) := by decide +kernel
theorem dX12_product_35 : decode cX12_product 35 = .ok (.aload_n 0, 1) := by decide +kernel
theorem dX12_product_36 : decode cX12_product 36 = .ok (.invokevirtual 279, 3) := by decide +kernel
theorem dX12_product_39 : decode cX12_product 39 = .ok (.aload_n 0, 1) := by decide +kernel
theorem dX12_product_40 : decode cX12_product 40 = .ok (.iconst 2, 1) := by decide +kernel
theorem dX12_product_41 : decode cX12_product 41 = .ok (.iload_n 1, 1) := by decide +kernel
theorem dX12_product_42 : decode cX12_product 42 = .ok (.invokevirtual 267, 3) := by decide +kernel
theorem dX12_product_45 : decode cX12_product 45 = .ok (.goto (-41), 3) := by decide +kernel
theorem dX12_product_48 : decode cX12_product 48 = .ok (.return_, 1) := by decide +kernel
theorem dX12_primary_0 : decode cX12_primary 0 = .ok (.aload_n 0, 1) := by decide +kernel
theorem dX12_primary_1 : decode cX12_primary 1 = .ok (.getfield 199, 3) := by decide +kernel
theorem dX12_primary_4 : decode cX12_primary 4 = .ok (.ifCond .eq 4, 3) := by decide +kernel
theorem dX12_primary_7 : decode cX12_primary 7 = .ok (.return_, 1) := by decide +kernel
theorem dX12_primary_8 : decode cX12_primary 8 = .ok (.aload_n 0, 1) := by decide +kernel
theorem dX12_primary_9 : decode cX12_primary 9 = .ok (.bipush 40, 2) := by decide +kernel
theorem dX12_primary_11 : decode cX12_primary 11 = .ok (.invokevirtual 246, 3) := by decide +kernel
theorem dX12_primary_14 : decode cX12_primary 14 = .ok (.ifCond .eq 87, 3) := by decide +kernel
theorem dX12_primary_17 : decode cX12_primary 17 = .ok (.aload_n 0, 1) := by decide +kernel
theorem dX12_primary_18 : decode cX12_primary 18 = .ok (.getfield 282, 3) := by decide +kernel
theorem dX12_primary_21 : decode cX12_primary 21 = .ok (.bipush 8, 2) := by decide +kernel
theorem dX12_primary_23 : decode cX12_primary 23 = .ok (.if_icmp .ne 8, 3) := by decide +kernel
theorem dX12_primary_26 : decode cX12_primary 26 = .ok (.aload_n 0, 1) := by decide +kernel
theorem dX12_primary_27 : decode cX12_primary 27 = .ok (.iconst 2, 1) := by decide +kernel
theorem dX12_primary_28 : decode cX12_primary 28 = .ok (.invokevirtual 208, 3) := by decide +kernel
theorem dX12_primary_31 : decode cX12_primary 31 = .ok (.aload_n 0, 1) := by decide +kernel
theorem dX12_primary_32 : decode cX12_primary 32 = .ok (.getfield 199, 3) := by decide +kernel
theorem dX12_primary_35 : decode cX12_primary 35 = .ok (.ifCond .eq 4, 3) := by decide +kernel
theorem dX12_primary_38 : decode cX12_primary 38 = .ok (.return_, 1) := by decide +kernel
theorem dX12_primary_39 : decode cX12_primary 39 = .ok (.aload_n 0, 1) := by decide +kernel
theorem dX12_primary_40 : decode cX12_primary 40 = .ok (.dup, 1) := by decide +kernel
theorem dX12_primary_41 : decode cX12_primary 41 = .ok (.getfield 282, 3) := by decide +kernel
theorem dX12_primary_44 : decode cX12_primary 44 = .ok (.iconst 1, 1) := by decide +kernel
theorem dX12_primary_45 : decode cX12_primary 45 = .ok (.iadd, 1) := by decide +kernel
theorem dX12_primary_46 : decode cX12_primary 46 = .ok (.putfield 282, 3) := by decide +kernel
theorem dX12_primary_49 : decode cX12_primary 49 = .ok (.aload_n 0, 1) := by decide +kernel
theorem dX12_primary_50 : decode cX12_primary 50 = .ok (.invokevirtual 205, 3) := by decide +kernel
theorem dX12_primary_53 : decode cX12_primary 53 = .ok (.aload_n 0, 1) := by decide +kernel
theorem dX12_primary_54 : decode cX12_primary 54 = .ok (.invokevirtual 252, 3) := by decide +kernel
theorem dX12_primary_57 : decode cX12_primary 57 = .ok (.aload_n 0, 1) := by decide +kernel
theorem dX12_primary_58 : decode cX12_primary 58 = .ok (.getfield 199, 3) := by decide +kernel
theorem dX12_primary_61 : decode cX12_primary 61 = .ok (.ifCond .ne 17, 3) := by decide +kernel
theorem dX12_primary_64 : decode cX12_primary 64 = .ok (.aload_n 0, 1) := by decide +kernel
theorem dX12_primary_65 : decode cX12_primary 65 = .ok (.bipush 41, 2) := by decide +kernel
theorem dX12_primary_67 : decode cX12_primary 67 = .ok (.invokevirtual 246, 3) := by decide +kernel
theorem dX12_primary_70 : decode cX12_primary 70 = .ok (.ifCond .ne 8, 3) := by decide +kernel
theorem dX12_primary_73 : decode cX12_primary 73 = .ok (.aload_n 0, 1) := by decide +kernel
theorem dX12_primary_74 : decode cX12_primary 74 = .ok (.iconst 1, 1) := by decide +kernel
theorem dX12_primary_75 : decode cX12_primary 75 = .ok (.invokevirtual 208, 3) := by decide +kernel
theorem dX12_primary_78 : decode cX12_primary 78 = .ok (.aload_n 0, 1) := by decide +kernel
theorem dX12_primary_79 : decode cX12_primary 79 = .ok (.getfield 199, 3) := by decide +kernel
theorem dX12_primary_82 : decode cX12_primary 82 = .ok (.ifCond .eq 4, 3) := by decide +kernel
theorem dX12_primary_85 : decode cX12_primary 85 = .ok (.return_, 1) := by decide +kernel
theorem dX12_primary_86 : decode cX12_primary 86 = .ok (.aload_n 0, 1) := by decide +kernel
theorem dX12_primary_87 : decode cX12_primary 87 = .ok (.dup, 1) := by decide +kernel
theorem dX12_primary_88 : decode cX12_primary 88 = .ok (.getfield 282, 3) := by decide +kernel
theorem dX12_primary_91 : decode cX12_primary 91 = .ok (.iconst 1, 1) := by decide +kernel
theorem dX12_primary_92 : decode cX12_primary 92 = .ok (.isub, 1) := by decide +kernel
theorem dX12_primary_93 : decode cX12_primary 93 = .ok (.putfield 282, 3) := by decide +kernel
theorem dX12_primary_96 : decode cX12_primary 96 = .ok (.aload_n 0, 1) := by decide +kernel
theorem dX12_primary_97 : decode cX12_primary 97 = .ok (.invokevirtual 205, 3) := by decide +kernel
theorem dX12_primary_100 : decode cX12_primary 100 = .ok (.return_, 1) := by decide +kernel
theorem dX12_primary_101 : decode cX12_primary 101 = .ok (.aload_n 0, 1) := by decide +kernel
theorem dX12_primary_102 : decode cX12_primary 102 = .ok (.getfield 164, 3) := by decide +kernel
theorem dX12_primary_105 : decode cX12_primary 105 = .ok (.iconst 2, 1) := by decide +kernel
theorem dX12_primary_106 : decode cX12_primary 106 = .ok (.if_icmp .ne 7, 3) := by decide +kernel
theorem dX12_primary_109 : decode cX12_primary 109 = .ok (.iconst 1, 1) := by decide +kernel
theorem dX12_primary_110 : decode cX12_primary 110 = .ok (.goto 4, 3) := by decide +kernel
theorem dX12_primary_113 : decode cX12_primary 113 = .ok (.iconst 0, 1) := by decide +kernel
theorem dX12_primary_114 : decode cX12_primary 114 = .ok (.istore_n 1, 1) := by decide +kernel
theorem dX12_primary_115 : decode cX12_primary 115 = .ok (.iload_n 1, 1) := by decide +kernel
theorem dX12_primary_116 : decode cX12_primary 116 = .ok (.ifCond .eq 21, 3) := by decide +kernel
theorem dX12_primary_119 : decode cX12_primary 119 = .ok (.aload_n 0, 1) := by decide +kernel
theorem dX12_primary_120 : decode cX12_primary 120 = .ok (.getfield 174, 3) := by decide +kernel
theorem dX12_primary_123 : decode cX12_primary 123 = .ok (.sipush 9999, 3) := by decide +kernel
theorem dX12_primary_126 : decode cX12_primary 126 = .ok (.if_icmp .le 11, 3) := by decide +kernel
theorem dX12_primary_129 : decode cX12_primary 129 = .ok (.aload_n 0, 1) := by decide +kernel
theorem dX12_primary_130 : decode cX12_primary 130 = .ok (.iconst 2, 1) := by decide +kernel
theorem dX12_primary_131 : decode cX12_primary 131 = .ok (.invokevirtual 208, 3) := by decide +kernel
theorem dX12_primary_134 : decode cX12_primary 134 = .ok (.goto 36, 3) := by decide +kernel
theorem dX12_primary_137 : decode cX12_primary 137 = .ok (.iload_n 1, 1) := by decide +kernel
theorem dX12_primary_138 : decode cX12_primary 138 = .ok (.ifCond .ne 32, 3) := by decide +kernel
theorem dX12_primary_141 : decode cX12_primary 141 = .ok (.aload_n 0, 1) := by decide +kernel
theorem dX12_primary_142 : decode cX12_primary 142 = .ok (.getfield 164, 3) := by decide +kernel
theorem dX12_primary_145 : decode cX12_primary 145 = .ok (.ifCond .ne 20, 3) := by decide +kernel
theorem dX12_primary_148 : decode cX12_primary 148 = .ok (.aload_n 0, 1) := by decide +kernel
theorem dX12_primary_149 : decode cX12_primary 149 = .ok (.getfield 174, 3) := by decide +kernel
theorem dX12_primary_152 : decode cX12_primary 152 = .ok (.bipush 13, 2) := by decide +kernel
theorem dX12_primary_154 : decode cX12_primary 154 = .ok (.if_icmp .ge 16, 3) := by decide +kernel
theorem dX12_primary_157 : decode cX12_primary 157 = .ok (.aload_n 0, 1) := by decide +kernel
theorem dX12_primary_158 : decode cX12_primary 158 = .ok (.getfield 174, 3) := by decide +kernel
theorem dX12_primary_161 : decode cX12_primary 161 = .ok (.iconst 3, 1) := by decide +kernel
theorem dX12_primary_162 : decode cX12_primary 162 = .ok (.if_icmp .eq 8, 3) := by decide +kernel
theorem dX12_primary_165 : decode cX12_primary 165 = .ok (.aload_n 0, 1) := by decide +kernel
theorem dX12_primary_166 : decode cX12_primary 166 = .ok (.iconst 1, 1) := by decide +kernel
theorem dX12_primary_167 : decode cX12_primary 167 = .ok (.invokevirtual 208, 3) := by decide +kernel
theorem dX12_primary_170 : decode cX12_primary 170 = .ok (.aload_n 0, 1) := by decide +kernel
theorem dX12_primary_171 : decode cX12_primary 171 = .ok (.invokevirtual 264, 3) := by decide +kernel
theorem dX12_primary_174 : decode cX12_primary 174 = .ok (.aload_n 0, 1) := by decide +kernel
theorem dX12_primary_175 : decode cX12_primary 175 = .ok (.iload_n 1, 1) := by decide +kernel
theorem dX12_primary_176 : decode cX12_primary 176 = .ok (.ifCond .eq 7, 3) := by decide +kernel
theorem dX12_primary_179 : decode cX12_primary 179 = .ok (.iconst 0, 1) := by decide +kernel
theorem dX12_primary_180 : decode cX12_primary 180 = .ok (.goto 4, 3) := by decide +kernel
theorem dX12_primary_183 : decode cX12_primary 183 = .ok (.iconst 1, 1) := by decide +kernel
theorem dX12_primary_184 : decode cX12_primary 184 = .ok (.iload_n 1, 1) := by decide +kernel
theorem dX12_primary_185 : decode cX12_primary 185 = .ok (.ifCond .eq 10, 3) := by decide +kernel
theorem dX12_primary_188 : decode cX12_primary 188 = .ok (.aload_n 0, 1) := by decide +kernel
theorem dX12_primary_189 : decode cX12_primary 189 = .ok (.getfield 174, 3) := by decide +kernel
theorem dX12_primary_192 : decode cX12_primary 192 = .ok (.goto 23, 3) := by decide +kernel
theorem dX12_primary_195 : decode cX12_primary 195 = .ok (.aload_n 0, 1) := by decide +kernel
theorem dX12_primary_196 : decode cX12_primary 196 = .ok (.getfield 174, 3) := by decide +kernel
theorem dX12_primary_199 : decode cX12_primary 199 = .ok (.iconst 3, 1) := by decide +kernel
theorem dX12_primary_200 : decode cX12_primary 200 = .ok (.if_icmp .ne 8, 3) := by decide +kernel
theorem dX12_primary_203 : decode cX12_primary 203 = .ok (.bipush 6, 2) := by decide +kernel
theorem dX12_primary_205 : decode cX12_primary 205 = .ok (.goto 10, 3) := by decide +kernel
theorem dX12_primary_208 : decode cX12_primary 208 = .ok (.aload_n 0, 1) := by decide +kernel
theorem dX12_primary_209 : decode cX12_primary 209 = .ok (.getfield 174, 3) := by decide +kernel
theorem dX12_primary_212 : decode cX12_primary 212 = .ok (.bipush 13, 2) := by decide +kernel
theorem dX12_primary_214 : decode cX12_primary 214 = .ok (.isub, 1) := by decide +kernel
theorem dX12_primary_215 : decode cX12_primary 215 = .ok (.invokevirtual 267, 3) := by decide +kernel
theorem dX12_primary_218 : decode cX12_primary 218 = .ok (.aload_n 0, 1) := by decide +kernel
theorem dX12_primary_219 : decode cX12_primary 219 = .ok (.invokevirtual 215, 3) := by decide +kernel
theorem dX12_primary_222 : decode cX12_primary 222 = .ok (.return_, 1) := by decide +kernel
def wp_X12_thrown (h : ck_H) (Q : Int32 → ck_H → Prop) : Prop := Q (h.1 0 0) h
set_option maxHeartbeats 4000000 in
set_option maxRecDepth 100000 in
theorem c_X12_thrown {gr : Bool} {h : ck_H} {Q : Int32 → ck_H → Prop} (hq : wp_X12_thrown h Q) : ck_M yX12_thrown cX12_thrown 1 (some .int) 2 0 0 gr ck_shM h [.ref 0] (ck_Qi ck_shM Q) := by
  refine ck_entry (lv := [(0, .ref 0)]) false (own := RX12) rfl (fun q => by cases q) (by decide) (Nat.le_of_ble_eq_true rfl) rfl ?_
  refine ck_aload_n 0 dX12_thrown_0 rfl rfl ?_
  refine ck_getI clX12 0 rfl rfl (by decide) fl_X12_145 dX12_thrown_1 ?_
  exact ck_iret rfl rfl rfl rfl dX12_thrown_4 ⟨_, rfl, rfl, hq⟩
def wp_X12_feed_73 (Q : Int32 → ck_H → Prop) (K110 : ck_H → Prop) (Kc : Int32 → Int32 → Int32 → Int32 → Int32 → Int32 → ck_H → Prop) (x1 : Int32) (x2 : Int32) (x3 : Int32) (x4 : Int32) (x5 : Int32) (x6 : Int32) (y0 : Int32) (h : ck_H) : Prop := (vp_in ((h.1 0 2) + x6) 700 ∧ (∀ h9, h9 = ck_sI h 1 ((h.1 0 2) + x6).toNatClampNeg ((y0 >>> (((24 : Int32) - ((8 : Int32) * (ck_rem x6 (4 : Int32)))) &&& 31)) &&& (255 : Int32)) → (∀ v10, v10 = x6 + 1 → Kc x1 x2 x3 x4 x5 v10 h9)))
def wp_X12_feed_20 (Q : Int32 → ck_H → Prop) (K110 : ck_H → Prop) : Nat → Int32 → Int32 → Int32 → Int32 → Int32 → Int32 → ck_H → Prop
  | 0 => fun _ _ _ _ _ _ _ => False
  | n + 1 => fun x1 x2 x3 x4 x5 x6 h => (((20 : Int32) ≤ x6 → K110 h) ∧ (¬ (20 : Int32) ≤ x6 → (((4 : Int32) ≤ x6 → (((8 : Int32) ≤ x6 → (((12 : Int32) ≤ x6 → (((16 : Int32) ≤ x6 → wp_X12_feed_73 Q K110 (wp_X12_feed_20 Q K110 n) x1 x2 x3 x4 x5 x6 x5 h) ∧ (¬ (16 : Int32) ≤ x6 → wp_X12_feed_73 Q K110 (wp_X12_feed_20 Q K110 n) x1 x2 x3 x4 x5 x6 x4 h))) ∧ (¬ (12 : Int32) ≤ x6 → wp_X12_feed_73 Q K110 (wp_X12_feed_20 Q K110 n) x1 x2 x3 x4 x5 x6 x3 h))) ∧ (¬ (8 : Int32) ≤ x6 → wp_X12_feed_73 Q K110 (wp_X12_feed_20 Q K110 n) x1 x2 x3 x4 x5 x6 x2 h))) ∧ (¬ (4 : Int32) ≤ x6 → wp_X12_feed_73 Q K110 (wp_X12_feed_20 Q K110 n) x1 x2 x3 x4 x5 x6 x1 h))))
def wp_X12_feed (x1 : Int32) (x2 : Int32) (x3 : Int32) (x4 : Int32) (x5 : Int32) (h : ck_H) (Q : Int32 → ck_H → Prop) : Prop := (∀ h1, h1 = ck_sI h 0 0 (0 : Int32) → (((h1.1 0 2) ≤ (680 : Int32) → wp_X12_feed_20 Q (fun h11 => (∀ h12, h12 = ck_sI h11 0 2 ((h11.1 0 2) + (20 : Int32)) → Q (h12.1 0 2) h12)) lpN x1 x2 x3 x4 x5 (0 : Int32) h1) ∧ (¬ (h1.1 0 2) ≤ (680 : Int32) → Q (-1 : Int32) h1)))
set_option maxHeartbeats 4000000 in
set_option maxRecDepth 100000 in
theorem cp_X12_feed_73 {gr : Bool} {Q : Int32 → ck_H → Prop} {K110 : ck_H → Prop} {Kc : Int32 → Int32 → Int32 → Int32 → Int32 → Int32 → ck_H → Prop} (hK110 : ∀ (h : ck_H), K110 h → ck_W cX12_feed 8 RX12 (some .int) 2 0 0 false gr (ck_Qi ck_shM Q) ck_shM h 0 0 110 [(0, .ref 0)] []) (hKc : ∀ (x1 : Int32) (x2 : Int32) (x3 : Int32) (x4 : Int32) (x5 : Int32) (x6 : Int32) (h : ck_H), Kc x1 x2 x3 x4 x5 x6 h → ck_W cX12_feed 8 RX12 (some .int) 2 0 0 false gr (ck_Qi ck_shM Q) ck_shM h 0 0 20 [(0, .ref 0), (1, .int x1), (2, .int x2), (3, .int x3), (4, .int x4), (5, .int x5), (6, .int x6)] []) : ∀ (x1 : Int32) (x2 : Int32) (x3 : Int32) (x4 : Int32) (x5 : Int32) (x6 : Int32) (y0 : Int32) (h : ck_H), wp_X12_feed_73 Q K110 Kc x1 x2 x3 x4 x5 x6 y0 h → ck_W cX12_feed 8 RX12 (some .int) 2 0 0 false gr (ck_Qi ck_shM Q) ck_shM h 0 0 73 [(0, .ref 0), (1, .int x1), (2, .int x2), (3, .int x3), (4, .int x4), (5, .int x5), (6, .int x6)] [.int y0] := by
  intro x1 x2 x3 x4 x5 x6 y0 h hq
  refine ck_istore (lv' := [(7, .int y0), (0, .ref 0), (1, .int x1), (2, .int x2), (3, .int x3), (4, .int x4), (5, .int x5), (6, .int x6)]) dX12_feed_73 (by decide) rfl ?_
  refine ck_aload_n 1 dX12_feed_75 rfl rfl ?_
  refine ck_getR clX12 1 rfl rfl (by decide) fl_X12_7 dX12_feed_76 ?_
  refine ck_aload_n 1 dX12_feed_79 rfl rfl ?_
  refine ck_getI clX12 2 rfl rfl (by decide) fl_X12_148 dX12_feed_80 ?_
  refine ck_iload 7 dX12_feed_83 rfl ?_
  refine ck_iadd dX12_feed_85 ?_
  refine ck_iload 0 dX12_feed_86 rfl ?_
  refine ck_bipush (v := 24) dX12_feed_88 (by decide) ?_
  refine ck_bipush (v := 8) dX12_feed_90 (by decide) ?_
  refine ck_iload 7 dX12_feed_92 rfl ?_
  refine ck_iconst (v := 4) dX12_feed_94 (by decide) ?_
  refine ck_irem dX12_feed_95 (by decide) ?_
  refine ck_imul dX12_feed_96 ?_
  refine ck_isub dX12_feed_97 ?_
  refine ck_ishr dX12_feed_98 ?_
  refine ck_sipush (v := 255) dX12_feed_99 (by decide) ?_
  refine ck_iand dX12_feed_102 ?_
  obtain ⟨b8, hq⟩ := hq
  refine ck_iast rfl rfl b8 dX12_feed_103 ?_
  refine ck_nmH (fun h9 eh9 => ?_)
  have hq := hq h9 eh9
  obtain ⟨v10, ev10⟩ : ∃ z : Int32, z = x6 + 1 := ⟨_, rfl⟩
  have hq := hq v10 ev10
  refine ck_iinc (v := v10) (lv' := [(6, .int v10), (7, .int y0), (0, .ref 0), (1, .int x1), (2, .int x2), (3, .int x3), (4, .int x4), (5, .int x5)]) 7 dX12_feed_104 rfl (by rw [ev10]; rfl) (by decide) rfl ?_
  refine ck_goto (tgt := 20) dX12_feed_107 (by decide) ?_
  refine ck_loc [2, 3, 4, 5, 6, 7, 0] rfl ?_
  exact hKc _ _ _ _ _ _ _ hq
set_option maxHeartbeats 4000000 in
set_option maxRecDepth 100000 in
theorem cp_X12_feed_20 {gr : Bool} {Q : Int32 → ck_H → Prop} {K110 : ck_H → Prop} (hK110 : ∀ (h : ck_H), K110 h → ck_W cX12_feed 8 RX12 (some .int) 2 0 0 false gr (ck_Qi ck_shM Q) ck_shM h 0 0 110 [(0, .ref 0)] []) : ∀ (n : Nat) (x1 : Int32) (x2 : Int32) (x3 : Int32) (x4 : Int32) (x5 : Int32) (x6 : Int32) (h : ck_H), wp_X12_feed_20 Q K110 n x1 x2 x3 x4 x5 x6 h → ck_W cX12_feed 8 RX12 (some .int) 2 0 0 false gr (ck_Qi ck_shM Q) ck_shM h 0 0 20 [(0, .ref 0), (1, .int x1), (2, .int x2), (3, .int x3), (4, .int x4), (5, .int x5), (6, .int x6)] [] := by
  intro n
  induction n with
  | zero => intro x1 x2 x3 x4 x5 x6 h hq; exact hq.elim
  | succ n hKc =>
    intro x1 x2 x3 x4 x5 x6 h hq
    refine ck_iload 6 dX12_feed_20 rfl ?_
    refine ck_bipush (v := 20) dX12_feed_22 (by decide) ?_
    refine ck_icmp_ge (tgt := 110) dX12_feed_24 (by decide) (fun c3 => ?_) (fun c3 => ?_)
    · have hq := hq.1 c3
      refine ck_loc [0] rfl ?_
      exact hK110  _ hq
    · have hq := hq.2 c3
      refine ck_iload 6 dX12_feed_27 rfl ?_
      refine ck_iconst (v := 4) dX12_feed_29 (by decide) ?_
      refine ck_icmp_ge (tgt := 37) dX12_feed_30 (by decide) (fun c4 => ?_) (fun c4 => ?_)
      · have hq := hq.1 c4
        refine ck_iload 6 dX12_feed_37 rfl ?_
        refine ck_bipush (v := 8) dX12_feed_39 (by decide) ?_
        refine ck_icmp_ge (tgt := 48) dX12_feed_41 (by decide) (fun c5 => ?_) (fun c5 => ?_)
        · have hq := hq.1 c5
          refine ck_iload 6 dX12_feed_48 rfl ?_
          refine ck_bipush (v := 12) dX12_feed_50 (by decide) ?_
          refine ck_icmp_ge (tgt := 59) dX12_feed_52 (by decide) (fun c6 => ?_) (fun c6 => ?_)
          · have hq := hq.1 c6
            refine ck_iload 6 dX12_feed_59 rfl ?_
            refine ck_bipush (v := 16) dX12_feed_61 (by decide) ?_
            refine ck_icmp_ge (tgt := 71) dX12_feed_63 (by decide) (fun c7 => ?_) (fun c7 => ?_)
            · have hq := hq.1 c7
              refine ck_iload 5 dX12_feed_71 rfl ?_
              exact cp_X12_feed_73 hK110 hKc _ _ _ _ _ _ _ _ hq
            · have hq := hq.2 c7
              refine ck_iload 4 dX12_feed_66 rfl ?_
              refine ck_goto (tgt := 73) dX12_feed_68 (by decide) ?_
              exact cp_X12_feed_73 hK110 hKc _ _ _ _ _ _ _ _ hq
          · have hq := hq.2 c6
            refine ck_iload_n 3 dX12_feed_55 rfl rfl ?_
            refine ck_goto (tgt := 73) dX12_feed_56 (by decide) ?_
            exact cp_X12_feed_73 hK110 hKc _ _ _ _ _ _ _ _ hq
        · have hq := hq.2 c5
          refine ck_iload_n 2 dX12_feed_44 rfl rfl ?_
          refine ck_goto (tgt := 73) dX12_feed_45 (by decide) ?_
          exact cp_X12_feed_73 hK110 hKc _ _ _ _ _ _ _ _ hq
      · have hq := hq.2 c4
        refine ck_iload_n 1 dX12_feed_33 rfl rfl ?_
        refine ck_goto (tgt := 73) dX12_feed_34 (by decide) ?_
        exact cp_X12_feed_73 hK110 hKc _ _ _ _ _ _ _ _ hq
set_option maxHeartbeats 4000000 in
set_option maxRecDepth 100000 in
theorem c_X12_feed {gr : Bool} {x1 : Int32} {x2 : Int32} {x3 : Int32} {x4 : Int32} {x5 : Int32} {h : ck_H} {Q : Int32 → ck_H → Prop} (hq : wp_X12_feed x1 x2 x3 x4 x5 h Q) : ck_M yX12_feed cX12_feed 8 (some .int) 2 0 0 gr ck_shM h [.ref 0, .int x1, .int x2, .int x3, .int x4, .int x5] (ck_Qi ck_shM Q) := by
  refine ck_entry (lv := [(0, .ref 0), (1, .int x1), (2, .int x2), (3, .int x3), (4, .int x4), (5, .int x5)]) false (own := RX12) rfl (fun q => by cases q) (by decide) (Nat.le_of_ble_eq_true rfl) rfl ?_
  refine ck_aload_n 0 dX12_feed_0 rfl rfl ?_
  refine ck_iconst (v := 0) dX12_feed_1 (by decide) ?_
  refine ck_putI clX12 0 rfl rfl (by decide) fl_X12_145 rfl rfl rfl dX12_feed_2 ?_
  refine ck_nmH (fun h1 eh1 => ?_)
  have hq := hq h1 eh1
  refine ck_aload_n 0 dX12_feed_5 rfl rfl ?_
  refine ck_getI clX12 2 rfl rfl (by decide) fl_X12_148 dX12_feed_6 ?_
  refine ck_sipush (v := 680) dX12_feed_9 (by decide) ?_
  refine ck_icmp_le (tgt := 17) dX12_feed_12 (by decide) (fun c2 => ?_) (fun c2 => ?_)
  · have hq := hq.1 c2
    refine ck_iconst (v := 0) dX12_feed_17 (by decide) ?_
    refine ck_istore (lv' := [(6, .int (0 : Int32)), (0, .ref 0), (1, .int x1), (2, .int x2), (3, .int x3), (4, .int x4), (5, .int x5)]) dX12_feed_18 (by decide) rfl ?_
    refine ck_loc [1, 2, 3, 4, 5, 6, 0] rfl ?_
    refine cp_X12_feed_20 (fun h11 hq => ?_) lpN _ _ _ _ _ _ _ hq
    · refine ck_aload_n 0 dX12_feed_110 rfl rfl ?_
      refine ck_dup dX12_feed_111 rfl ?_
      refine ck_getI clX12 2 rfl rfl (by decide) fl_X12_148 dX12_feed_112 ?_
      refine ck_bipush (v := 20) dX12_feed_115 (by decide) ?_
      refine ck_iadd dX12_feed_117 ?_
      refine ck_putI clX12 2 rfl rfl (by decide) fl_X12_148 rfl rfl rfl dX12_feed_118 ?_
      refine ck_nmH (fun h12 eh12 => ?_)
      have hq := hq h12 eh12
      refine ck_aload_n 0 dX12_feed_121 rfl rfl ?_
      refine ck_getI clX12 2 rfl rfl (by decide) fl_X12_148 dX12_feed_122 ?_
      exact ck_iret rfl rfl rfl rfl dX12_feed_125 ⟨_, rfl, rfl, hq⟩
  · have hq := hq.2 c2
    refine ck_iconst (v := -1) dX12_feed_15 (by decide) ?_
    exact ck_iret rfl rfl rfl rfl dX12_feed_16 ⟨_, rfl, rfl, hq⟩
def wp_X12_reads (x1 : Int32) (x2 : Int32) (h : ck_H) (Q : ck_H → Prop) : Prop := (vp_in ((7 : Int32) + x1) 14 ∧ (∀ h2, h2 = ck_sI h 2 ((7 : Int32) + x1).toNatClampNeg x2 → Q h2))
set_option maxHeartbeats 4000000 in
set_option maxRecDepth 100000 in
theorem c_X12_reads {gr : Bool} {x1 : Int32} {x2 : Int32} {h : ck_H} {Q : ck_H → Prop} (hq : wp_X12_reads x1 x2 h Q) : ck_M yX12_reads cX12_reads 3 none 2 0 0 gr ck_shM h [.ref 0, .int x1, .int x2] (ck_Qv ck_shM Q) := by
  refine ck_entry (lv := [(0, .ref 0), (1, .int x1), (2, .int x2)]) false (own := RX12) rfl (fun q => by cases q) (by decide) (Nat.le_of_ble_eq_true rfl) rfl ?_
  refine ck_aload_n 0 dX12_reads_0 rfl rfl ?_
  refine ck_getR clX12 3 rfl rfl (by decide) fl_X12_13 dX12_reads_1 ?_
  refine ck_bipush (v := 7) dX12_reads_4 (by decide) ?_
  refine ck_iload_n 1 dX12_reads_6 rfl rfl ?_
  refine ck_iadd dX12_reads_7 ?_
  refine ck_iload_n 2 dX12_reads_8 rfl rfl ?_
  obtain ⟨b1, hq⟩ := hq
  refine ck_iast rfl rfl b1 dX12_reads_9 ?_
  refine ck_nmH (fun h2 eh2 => ?_)
  have hq := hq h2 eh2
  exact ck_vret rfl rfl rfl dX12_reads_10 ⟨rfl, rfl, hq⟩
def wp_X12_here (h : ck_H) (Q : Int32 → ck_H → Prop) : Prop := (((h.1 0 21) ≤ (h.1 0 22) → Q (-1 : Int32) h) ∧ (¬ (h.1 0 21) ≤ (h.1 0 22) → (vp_in (h.1 0 22) 700 ∧ Q (h.1 1 (h.1 0 22).toNatClampNeg) h)))
set_option maxHeartbeats 4000000 in
set_option maxRecDepth 100000 in
theorem c_X12_here {gr : Bool} {h : ck_H} {Q : Int32 → ck_H → Prop} (hq : wp_X12_here h Q) : ck_M yX12_here cX12_here 1 (some .int) 2 0 0 gr ck_shM h [.ref 0] (ck_Qi ck_shM Q) := by
  refine ck_entry (lv := [(0, .ref 0)]) false (own := RX12) rfl (fun q => by cases q) (by decide) (Nat.le_of_ble_eq_true rfl) rfl ?_
  refine ck_aload_n 0 dX12_here_0 rfl rfl ?_
  refine ck_getI clX12 22 rfl rfl (by decide) fl_X12_151 dX12_here_1 ?_
  refine ck_aload_n 0 dX12_here_4 rfl rfl ?_
  refine ck_getI clX12 21 rfl rfl (by decide) fl_X12_154 dX12_here_5 ?_
  refine ck_icmp_ge (tgt := 23) dX12_here_8 (by decide) (fun c1 => ?_) (fun c1 => ?_)
  · have hq := hq.1 c1
    refine ck_iconst (v := -1) dX12_here_23 (by decide) ?_
    exact ck_iret rfl rfl rfl rfl dX12_here_24 ⟨_, rfl, rfl, hq⟩
  · have hq := hq.2 c1
    refine ck_aload_n 0 dX12_here_11 rfl rfl ?_
    refine ck_getR clX12 1 rfl rfl (by decide) fl_X12_7 dX12_here_12 ?_
    refine ck_aload_n 0 dX12_here_15 rfl rfl ?_
    refine ck_getI clX12 22 rfl rfl (by decide) fl_X12_151 dX12_here_16 ?_
    obtain ⟨b2, hq⟩ := hq
    refine ck_iald rfl rfl b2 dX12_here_19 ?_
    refine ck_goto (tgt := 24) dX12_here_20 (by decide) ?_
    exact ck_iret rfl rfl rfl rfl dX12_here_24 ⟨_, rfl, rfl, hq⟩
def wp_X12_isSmall (x0 : Int32) (h : ck_H) (Q : Int32 → ck_H → Prop) : Prop := ((x0 < (97 : Int32) → Q (0 : Int32) h) ∧ (¬ x0 < (97 : Int32) → (((122 : Int32) < x0 → Q (0 : Int32) h) ∧ (¬ (122 : Int32) < x0 → Q (1 : Int32) h))))
set_option maxHeartbeats 4000000 in
set_option maxRecDepth 100000 in
theorem c_X12_isSmall {gr : Bool} {x0 : Int32} {h : ck_H} {Q : Int32 → ck_H → Prop} (hq : wp_X12_isSmall x0 h Q) : ck_M yX12_isSmall cX12_isSmall 1 (some .boolean) 2 0 0 gr ck_shM h [.int x0] (ck_Qi ck_shM Q) := by
  refine ck_entry (lv := [(0, .int x0)]) false (own := RX12) rfl (fun q => by cases q) (by decide) (Nat.le_of_ble_eq_true rfl) rfl ?_
  refine ck_iload_n 0 dX12_isSmall_0 rfl rfl ?_
  refine ck_bipush (v := 97) dX12_isSmall_1 (by decide) ?_
  refine ck_icmp_lt (tgt := 16) dX12_isSmall_3 (by decide) (fun c1 => ?_) (fun c1 => ?_)
  · have hq := hq.1 c1
    refine ck_iconst (v := 0) dX12_isSmall_16 (by decide) ?_
    exact ck_iret rfl (by decide) rfl rfl dX12_isSmall_17 ⟨_, rfl, rfl, hq⟩
  · have hq := hq.2 c1
    refine ck_iload_n 0 dX12_isSmall_6 rfl rfl ?_
    refine ck_bipush (v := 122) dX12_isSmall_7 (by decide) ?_
    refine ck_icmp_gt (tgt := 16) dX12_isSmall_9 (by decide) (fun c2 => ?_) (fun c2 => ?_)
    · have hq := hq.1 c2
      refine ck_iconst (v := 0) dX12_isSmall_16 (by decide) ?_
      exact ck_iret rfl (by decide) rfl rfl dX12_isSmall_17 ⟨_, rfl, rfl, hq⟩
    · have hq := hq.2 c2
      refine ck_iconst (v := 1) dX12_isSmall_12 (by decide) ?_
      refine ck_goto (tgt := 17) dX12_isSmall_13 (by decide) ?_
      exact ck_iret rfl (by decide) rfl rfl dX12_isSmall_17 ⟨_, rfl, rfl, hq⟩
def wp_X12_word_15 (Q : Int32 → ck_H → Prop) (K69 : Int32 → Int32 → Int32 → ck_H → Prop) : Nat → Int32 → Int32 → Int32 → ck_H → Prop
  | 0 => fun _ _ _ _ => False
  | n + 1 => fun x1 x2 x3 h => (vp_in (x2 + x3) 94 ∧ (((ck_chM (x2 + x3)) = (32 : Int32) → K69 x1 x2 x3 h) ∧ (¬ (ck_chM (x2 + x3)) = (32 : Int32) → (((h.1 0 22) ≤ ((h.1 0 23) + x3) → K69 x1 x2 x3 h) ∧ (¬ (h.1 0 22) ≤ ((h.1 0 23) + x3) → (vp_in ((h.1 0 23) + x3) 700 ∧ (vp_in (x2 + x3) 94 ∧ ((¬ (h.1 1 ((h.1 0 23) + x3).toNatClampNeg) = (ck_chM (x2 + x3)) → K69 x1 x2 x3 h) ∧ ((h.1 1 ((h.1 0 23) + x3).toNatClampNeg) = (ck_chM (x2 + x3)) → (∀ v8, v8 = x3 + 1 → (wp_X12_word_15 Q K69 n) x1 x2 v8 h))))))))))
def wp_X12_word_97 (Q : Int32 → ck_H → Prop) (K114 : Int32 → Int32 → ck_H → Prop) : Nat → Int32 → Int32 → ck_H → Prop
  | 0 => fun _ _ _ => False
  | n + 1 => fun x1 x2 h => (vp_in x2 94 ∧ (((ck_chM x2) = (32 : Int32) → K114 x1 x2 h) ∧ (¬ (ck_chM x2) = (32 : Int32) → (∀ v17, v17 = x2 + 1 → (wp_X12_word_97 Q K114 n) x1 v17 h))))
def wp_X12_word_69 (Q : Int32 → ck_H → Prop) (Kc : Int32 → Int32 → ck_H → Prop) (x1 : Int32) (x2 : Int32) (x3 : Int32) (h : ck_H) : Prop := (vp_in (x2 + x3) 94 ∧ ((¬ (ck_chM (x2 + x3)) = (32 : Int32) → wp_X12_word_97 Q (fun x19 x20 h18 => (∀ v21, v21 = x20 + 1 → (∀ v22, v22 = x19 + 1 → Kc v22 v21 h18))) lpN x1 x2 h) ∧ ((ck_chM (x2 + x3)) = (32 : Int32) → ((¬ ((h.1 0 23) + x3) = (h.1 0 22) → wp_X12_word_97 Q (fun x25 x26 h24 => (∀ v27, v27 = x26 + 1 → (∀ v28, v28 = x25 + 1 → Kc v28 v27 h24))) lpN x1 x2 h) ∧ (((h.1 0 23) + x3) = (h.1 0 22) → Q x1 h)))))
def wp_X12_word_4 (Q : Int32 → ck_H → Prop) : Nat → Int32 → Int32 → ck_H → Prop
  | 0 => fun _ _ _ => False
  | n + 1 => fun x1 x2 h => (((94 : Int32) ≤ x2 → Q (-1 : Int32) h) ∧ (¬ (94 : Int32) ≤ x2 → wp_X12_word_15 Q (fun x10 x11 x12 h9 => wp_X12_word_69 Q (wp_X12_word_4 Q n) x10 x11 x12 h9) lpN x1 x2 (0 : Int32) h))
def wp_X12_word (h : ck_H) (Q : Int32 → ck_H → Prop) : Prop := wp_X12_word_4 Q lpN (0 : Int32) (0 : Int32) h
set_option maxHeartbeats 4000000 in
set_option maxRecDepth 100000 in
theorem cp_X12_word_15 {gr : Bool} {Q : Int32 → ck_H → Prop} {K69 : Int32 → Int32 → Int32 → ck_H → Prop} (hK69 : ∀ (x1 : Int32) (x2 : Int32) (x3 : Int32) (h : ck_H), K69 x1 x2 x3 h → ck_W cX12_word 4 RX12 (some .int) 7 0 0 false gr (ck_Qi ck_shM Q) ck_shM h 0 0 69 [(0, .ref 0), (1, .int x1), (2, .int x2), (3, .int x3)] []) : ∀ (n : Nat) (x1 : Int32) (x2 : Int32) (x3 : Int32) (h : ck_H), wp_X12_word_15 Q K69 n x1 x2 x3 h → ck_W cX12_word 4 RX12 (some .int) 7 0 0 false gr (ck_Qi ck_shM Q) ck_shM h 0 0 15 [(0, .ref 0), (1, .int x1), (2, .int x2), (3, .int x3)] [] := by
  intro n
  induction n with
  | zero => intro x1 x2 x3 h hq; exact hq.elim
  | succ n hKc =>
    intro x1 x2 x3 h hq
    refine ck_ldcSM dX12_word_15 ?_
    refine ck_iload_n 2 dX12_word_17 rfl rfl ?_
    refine ck_iload_n 3 dX12_word_18 rfl rfl ?_
    refine ck_iadd dX12_word_19 ?_
    obtain ⟨b2, hq⟩ := hq
    refine ck_chatM ml_X12_195 b2 (by decide) (Nat.le_of_ble_eq_true rfl) (by decide) (by decide) dX12_word_20 ?_
    refine ck_bipush (v := 32) dX12_word_23 (by decide) ?_
    refine ck_icmp_eq (tgt := 69) dX12_word_25 (by decide) (fun c3 => ?_) (fun c3 => ?_)
    · have hq := hq.1 c3
      exact hK69 _ _ _ _ hq
    · have hq := hq.2 c3
      refine ck_aload_n 0 dX12_word_28 rfl rfl ?_
      refine ck_getI clX12 23 rfl rfl (by decide) fl_X12_161 dX12_word_29 ?_
      refine ck_iload_n 3 dX12_word_32 rfl rfl ?_
      refine ck_iadd dX12_word_33 ?_
      refine ck_aload_n 0 dX12_word_34 rfl rfl ?_
      refine ck_getI clX12 22 rfl rfl (by decide) fl_X12_151 dX12_word_35 ?_
      refine ck_icmp_ge (tgt := 69) dX12_word_38 (by decide) (fun c4 => ?_) (fun c4 => ?_)
      · have hq := hq.1 c4
        exact hK69 _ _ _ _ hq
      · have hq := hq.2 c4
        refine ck_aload_n 0 dX12_word_41 rfl rfl ?_
        refine ck_getR clX12 1 rfl rfl (by decide) fl_X12_7 dX12_word_42 ?_
        refine ck_aload_n 0 dX12_word_45 rfl rfl ?_
        refine ck_getI clX12 23 rfl rfl (by decide) fl_X12_161 dX12_word_46 ?_
        refine ck_iload_n 3 dX12_word_49 rfl rfl ?_
        refine ck_iadd dX12_word_50 ?_
        obtain ⟨b5, hq⟩ := hq
        refine ck_iald rfl rfl b5 dX12_word_51 ?_
        refine ck_ldcSM dX12_word_52 ?_
        refine ck_iload_n 2 dX12_word_54 rfl rfl ?_
        refine ck_iload_n 3 dX12_word_55 rfl rfl ?_
        refine ck_iadd dX12_word_56 ?_
        obtain ⟨b6, hq⟩ := hq
        refine ck_chatM ml_X12_195 b6 (by decide) (Nat.le_of_ble_eq_true rfl) (by decide) (by decide) dX12_word_57 ?_
        refine ck_icmp_ne (tgt := 69) dX12_word_60 (by decide) (fun c7 => ?_) (fun c7 => ?_)
        · have hq := hq.1 c7
          exact hK69 _ _ _ _ hq
        · have hq := hq.2 c7
          obtain ⟨v8, ev8⟩ : ∃ z : Int32, z = x3 + 1 := ⟨_, rfl⟩
          have hq := hq v8 ev8
          refine ck_iinc (v := v8) (lv' := [(3, .int v8), (0, .ref 0), (1, .int x1), (2, .int x2)]) 3 dX12_word_63 rfl (by rw [ev8]; rfl) (by decide) rfl ?_
          refine ck_goto (tgt := 15) dX12_word_66 (by decide) ?_
          refine ck_loc [1, 2, 3, 0] rfl ?_
          exact hKc _ _ _ _ hq
set_option maxHeartbeats 4000000 in
set_option maxRecDepth 100000 in
theorem cp_X12_word_97 {gr : Bool} {Q : Int32 → ck_H → Prop} {K114 : Int32 → Int32 → ck_H → Prop} (hK114 : ∀ (x1 : Int32) (x2 : Int32) (h : ck_H), K114 x1 x2 h → ck_W cX12_word 4 RX12 (some .int) 7 0 0 false gr (ck_Qi ck_shM Q) ck_shM h 0 0 114 [(0, .ref 0), (1, .int x1), (2, .int x2)] []) : ∀ (n : Nat) (x1 : Int32) (x2 : Int32) (h : ck_H), wp_X12_word_97 Q K114 n x1 x2 h → ck_W cX12_word 4 RX12 (some .int) 7 0 0 false gr (ck_Qi ck_shM Q) ck_shM h 0 0 97 [(0, .ref 0), (1, .int x1), (2, .int x2)] [] := by
  intro n
  induction n with
  | zero => intro x1 x2 h hq; exact hq.elim
  | succ n hKc =>
    intro x1 x2 h hq
    refine ck_ldcSM dX12_word_97 ?_
    refine ck_iload_n 2 dX12_word_99 rfl rfl ?_
    obtain ⟨b15, hq⟩ := hq
    refine ck_chatM ml_X12_195 b15 (by decide) (Nat.le_of_ble_eq_true rfl) (by decide) (by decide) dX12_word_100 ?_
    refine ck_bipush (v := 32) dX12_word_103 (by decide) ?_
    refine ck_icmp_eq (tgt := 114) dX12_word_105 (by decide) (fun c16 => ?_) (fun c16 => ?_)
    · have hq := hq.1 c16
      exact hK114 _ _ _ hq
    · have hq := hq.2 c16
      obtain ⟨v17, ev17⟩ : ∃ z : Int32, z = x2 + 1 := ⟨_, rfl⟩
      have hq := hq v17 ev17
      refine ck_iinc (v := v17) (lv' := [(2, .int v17), (0, .ref 0), (1, .int x1)]) 2 dX12_word_108 rfl (by rw [ev17]; rfl) (by decide) rfl ?_
      refine ck_goto (tgt := 97) dX12_word_111 (by decide) ?_
      refine ck_loc [1, 2, 0] rfl ?_
      exact hKc _ _ _ hq
set_option maxHeartbeats 4000000 in
set_option maxRecDepth 100000 in
theorem cp_X12_word_69 {gr : Bool} {Q : Int32 → ck_H → Prop} {Kc : Int32 → Int32 → ck_H → Prop} (hKc : ∀ (x1 : Int32) (x2 : Int32) (h : ck_H), Kc x1 x2 h → ck_W cX12_word 4 RX12 (some .int) 7 0 0 false gr (ck_Qi ck_shM Q) ck_shM h 0 0 4 [(0, .ref 0), (1, .int x1), (2, .int x2)] []) : ∀ (x1 : Int32) (x2 : Int32) (x3 : Int32) (h : ck_H), wp_X12_word_69 Q Kc x1 x2 x3 h → ck_W cX12_word 4 RX12 (some .int) 7 0 0 false gr (ck_Qi ck_shM Q) ck_shM h 0 0 69 [(0, .ref 0), (1, .int x1), (2, .int x2), (3, .int x3)] [] := by
  intro x1 x2 x3 h hq
  refine ck_ldcSM dX12_word_69 ?_
  refine ck_iload_n 2 dX12_word_71 rfl rfl ?_
  refine ck_iload_n 3 dX12_word_72 rfl rfl ?_
  refine ck_iadd dX12_word_73 ?_
  obtain ⟨b13, hq⟩ := hq
  refine ck_chatM ml_X12_195 b13 (by decide) (Nat.le_of_ble_eq_true rfl) (by decide) (by decide) dX12_word_74 ?_
  refine ck_bipush (v := 32) dX12_word_77 (by decide) ?_
  refine ck_icmp_ne (tgt := 97) dX12_word_79 (by decide) (fun c14 => ?_) (fun c14 => ?_)
  · have hq := hq.1 c14
    refine ck_loc [0, 1, 2] rfl ?_
    refine cp_X12_word_97 (fun x19 x20 h18 hq => ?_) lpN _ _ _ hq
    · obtain ⟨v21, ev21⟩ : ∃ z : Int32, z = x20 + 1 := ⟨_, rfl⟩
      have hq := hq v21 ev21
      refine ck_iinc (v := v21) (lv' := [(2, .int v21), (0, .ref 0), (1, .int x19)]) 2 dX12_word_114 rfl (by rw [ev21]; rfl) (by decide) rfl ?_
      obtain ⟨v22, ev22⟩ : ∃ z : Int32, z = x19 + 1 := ⟨_, rfl⟩
      have hq := hq v22 ev22
      refine ck_iinc (v := v22) (lv' := [(1, .int v22), (2, .int v21), (0, .ref 0)]) 2 dX12_word_117 rfl (by rw [ev22]; rfl) (by decide) rfl ?_
      refine ck_goto (tgt := 4) dX12_word_120 (by decide) ?_
      refine ck_loc [2, 0, 1] rfl ?_
      exact hKc _ _ _ hq
  · have hq := hq.2 c14
    refine ck_aload_n 0 dX12_word_82 rfl rfl ?_
    refine ck_getI clX12 23 rfl rfl (by decide) fl_X12_161 dX12_word_83 ?_
    refine ck_iload_n 3 dX12_word_86 rfl rfl ?_
    refine ck_iadd dX12_word_87 ?_
    refine ck_aload_n 0 dX12_word_88 rfl rfl ?_
    refine ck_getI clX12 22 rfl rfl (by decide) fl_X12_151 dX12_word_89 ?_
    refine ck_icmp_ne (tgt := 97) dX12_word_92 (by decide) (fun c23 => ?_) (fun c23 => ?_)
    · have hq := hq.1 c23
      refine ck_loc [0, 1, 2] rfl ?_
      refine cp_X12_word_97 (fun x25 x26 h24 hq => ?_) lpN _ _ _ hq
      · obtain ⟨v27, ev27⟩ : ∃ z : Int32, z = x26 + 1 := ⟨_, rfl⟩
        have hq := hq v27 ev27
        refine ck_iinc (v := v27) (lv' := [(2, .int v27), (0, .ref 0), (1, .int x25)]) 2 dX12_word_114 rfl (by rw [ev27]; rfl) (by decide) rfl ?_
        obtain ⟨v28, ev28⟩ : ∃ z : Int32, z = x25 + 1 := ⟨_, rfl⟩
        have hq := hq v28 ev28
        refine ck_iinc (v := v28) (lv' := [(1, .int v28), (2, .int v27), (0, .ref 0)]) 2 dX12_word_117 rfl (by rw [ev28]; rfl) (by decide) rfl ?_
        refine ck_goto (tgt := 4) dX12_word_120 (by decide) ?_
        refine ck_loc [2, 0, 1] rfl ?_
        exact hKc _ _ _ hq
    · have hq := hq.2 c23
      refine ck_iload_n 1 dX12_word_95 rfl rfl ?_
      exact ck_iret rfl rfl rfl rfl dX12_word_96 ⟨_, rfl, rfl, hq⟩
set_option maxHeartbeats 4000000 in
set_option maxRecDepth 100000 in
theorem cp_X12_word_4 {gr : Bool} {Q : Int32 → ck_H → Prop} : ∀ (n : Nat) (x1 : Int32) (x2 : Int32) (h : ck_H), wp_X12_word_4 Q n x1 x2 h → ck_W cX12_word 4 RX12 (some .int) 7 0 0 false gr (ck_Qi ck_shM Q) ck_shM h 0 0 4 [(0, .ref 0), (1, .int x1), (2, .int x2)] [] := by
  intro n
  induction n with
  | zero => intro x1 x2 h hq; exact hq.elim
  | succ n hKc =>
    intro x1 x2 h hq
    refine ck_iload_n 2 dX12_word_4 rfl rfl ?_
    refine ck_ldcSM dX12_word_5 ?_
    refine ck_slenM ml_X12_190 (by decide) (Nat.le_of_ble_eq_true rfl) (by decide) (by decide) dX12_word_7 ?_
    refine ck_icmp_ge (tgt := 123) dX12_word_10 (by decide) (fun c1 => ?_) (fun c1 => ?_)
    · have hq := hq.1 c1
      refine ck_iconst (v := -1) dX12_word_123 (by decide) ?_
      exact ck_iret rfl rfl rfl rfl dX12_word_124 ⟨_, rfl, rfl, hq⟩
    · have hq := hq.2 c1
      refine ck_iconst (v := 0) dX12_word_13 (by decide) ?_
      refine ck_istore_n (lv' := [(3, .int (0 : Int32)), (0, .ref 0), (1, .int x1), (2, .int x2)]) dX12_word_14 rfl (by decide) rfl ?_
      refine ck_loc [1, 2, 3, 0] rfl ?_
      refine cp_X12_word_15 (fun x10 x11 x12 h9 hq => ?_) lpN _ _ _ _ hq
      · exact cp_X12_word_69 hKc _ _ _ _ hq
set_option maxHeartbeats 4000000 in
set_option maxRecDepth 100000 in
theorem c_X12_word {gr : Bool} {h : ck_H} {Q : Int32 → ck_H → Prop} (hq : wp_X12_word h Q) : ck_M yX12_word cX12_word 4 (some .int) 7 0 0 gr ck_shM h [.ref 0] (ck_Qi ck_shM Q) := by
  refine ck_entry (lv := [(0, .ref 0)]) false (own := RX12) rfl (fun q => by cases q) (by decide) (Nat.le_of_ble_eq_true rfl) rfl ?_
  refine ck_iconst (v := 0) dX12_word_0 (by decide) ?_
  refine ck_istore_n (lv' := [(1, .int (0 : Int32)), (0, .ref 0)]) dX12_word_1 rfl (by decide) rfl ?_
  refine ck_iconst (v := 0) dX12_word_2 (by decide) ?_
  refine ck_istore_n (lv' := [(2, .int (0 : Int32)), (1, .int (0 : Int32)), (0, .ref 0)]) dX12_word_3 rfl (by decide) rfl ?_
  refine ck_loc [2, 1, 0] rfl ?_
  refine cp_X12_word_4 lpN _ _ _ hq
def wp_X12_name_53 (Q : ck_H → Prop) (Kc : Int32 → ck_H → Prop) (x1 : Int32) (y1 : Int32) (y2 : Int32) (h : ck_H) : Prop := (∀ h4, h4 = ck_sI h 0 25 (y1 ||| y2) → (∀ v5, v5 = x1 + 1 → Kc v5 h4))
def wp_X12_name_7 (Q : ck_H → Prop) : Nat → Int32 → ck_H → Prop
  | 0 => fun _ _ => False
  | n + 1 => fun x1 h => (((6 : Int32) ≤ x1 → Q h) ∧ (¬ (6 : Int32) ≤ x1 → (((h.1 0 22) ≤ ((h.1 0 23) + x1) → wp_X12_name_53 Q (wp_X12_name_7 Q n) x1 ((h.1 0 25) <<< ((5 : Int32) &&& 31)) (0 : Int32) h) ∧ (¬ (h.1 0 22) ≤ ((h.1 0 23) + x1) → (vp_in ((h.1 0 23) + x1) 700 ∧ wp_X12_name_53 Q (wp_X12_name_7 Q n) x1 ((h.1 0 25) <<< ((5 : Int32) &&& 31)) (((h.1 1 ((h.1 0 23) + x1).toNatClampNeg) - (97 : Int32)) + (1 : Int32)) h)))))
def wp_X12_name (h : ck_H) (Q : ck_H → Prop) : Prop := (∀ h1, h1 = ck_sI h 0 25 (0 : Int32) → wp_X12_name_7 Q lpN (0 : Int32) h1)
set_option maxHeartbeats 4000000 in
set_option maxRecDepth 100000 in
theorem cp_X12_name_53 {gr : Bool} {Q : ck_H → Prop} {Kc : Int32 → ck_H → Prop} (hKc : ∀ (x1 : Int32) (h : ck_H), Kc x1 h → ck_W cX12_name 2 RX12 none 2 0 0 false gr (ck_Qv ck_shM Q) ck_shM h 0 0 7 [(0, .ref 0), (1, .int x1)] []) : ∀ (x1 : Int32) (y1 : Int32) (y2 : Int32) (h : ck_H), wp_X12_name_53 Q Kc x1 y1 y2 h → ck_W cX12_name 2 RX12 none 2 0 0 false gr (ck_Qv ck_shM Q) ck_shM h 0 0 53 [(0, .ref 0), (1, .int x1)] [.int y2, .int y1, .ref 0] := by
  intro x1 y1 y2 h hq
  refine ck_ior dX12_name_53 ?_
  refine ck_putI clX12 25 rfl rfl (by decide) fl_X12_174 rfl rfl rfl dX12_name_54 ?_
  refine ck_nmH (fun h4 eh4 => ?_)
  have hq := hq h4 eh4
  obtain ⟨v5, ev5⟩ : ∃ z : Int32, z = x1 + 1 := ⟨_, rfl⟩
  have hq := hq v5 ev5
  refine ck_iinc (v := v5) (lv' := [(1, .int v5), (0, .ref 0)]) 1 dX12_name_57 rfl (by rw [ev5]; rfl) (by decide) rfl ?_
  refine ck_goto (tgt := 7) dX12_name_60 (by decide) ?_
  refine ck_loc [1, 0] rfl ?_
  exact hKc _ _ hq
set_option maxHeartbeats 4000000 in
set_option maxRecDepth 100000 in
theorem cp_X12_name_7 {gr : Bool} {Q : ck_H → Prop} : ∀ (n : Nat) (x1 : Int32) (h : ck_H), wp_X12_name_7 Q n x1 h → ck_W cX12_name 2 RX12 none 2 0 0 false gr (ck_Qv ck_shM Q) ck_shM h 0 0 7 [(0, .ref 0), (1, .int x1)] [] := by
  intro n
  induction n with
  | zero => intro x1 h hq; exact hq.elim
  | succ n hKc =>
    intro x1 h hq
    refine ck_iload_n 1 dX12_name_7 rfl rfl ?_
    refine ck_bipush (v := 6) dX12_name_8 (by decide) ?_
    refine ck_icmp_ge (tgt := 63) dX12_name_10 (by decide) (fun c2 => ?_) (fun c2 => ?_)
    · have hq := hq.1 c2
      exact ck_vret rfl rfl rfl dX12_name_63 ⟨rfl, rfl, hq⟩
    · have hq := hq.2 c2
      refine ck_aload_n 0 dX12_name_13 rfl rfl ?_
      refine ck_aload_n 0 dX12_name_14 rfl rfl ?_
      refine ck_getI clX12 25 rfl rfl (by decide) fl_X12_174 dX12_name_15 ?_
      refine ck_iconst (v := 5) dX12_name_18 (by decide) ?_
      refine ck_ishl dX12_name_19 ?_
      refine ck_aload_n 0 dX12_name_20 rfl rfl ?_
      refine ck_getI clX12 23 rfl rfl (by decide) fl_X12_161 dX12_name_21 ?_
      refine ck_iload_n 1 dX12_name_24 rfl rfl ?_
      refine ck_iadd dX12_name_25 ?_
      refine ck_aload_n 0 dX12_name_26 rfl rfl ?_
      refine ck_getI clX12 22 rfl rfl (by decide) fl_X12_151 dX12_name_27 ?_
      refine ck_icmp_ge (tgt := 52) dX12_name_30 (by decide) (fun c3 => ?_) (fun c3 => ?_)
      · have hq := hq.1 c3
        refine ck_iconst (v := 0) dX12_name_52 (by decide) ?_
        exact cp_X12_name_53 hKc _ _ _ _ hq
      · have hq := hq.2 c3
        refine ck_aload_n 0 dX12_name_33 rfl rfl ?_
        refine ck_getR clX12 1 rfl rfl (by decide) fl_X12_7 dX12_name_34 ?_
        refine ck_aload_n 0 dX12_name_37 rfl rfl ?_
        refine ck_getI clX12 23 rfl rfl (by decide) fl_X12_161 dX12_name_38 ?_
        refine ck_iload_n 1 dX12_name_41 rfl rfl ?_
        refine ck_iadd dX12_name_42 ?_
        obtain ⟨b6, hq⟩ := hq
        refine ck_iald rfl rfl b6 dX12_name_43 ?_
        refine ck_bipush (v := 97) dX12_name_44 (by decide) ?_
        refine ck_isub dX12_name_46 ?_
        refine ck_iconst (v := 1) dX12_name_47 (by decide) ?_
        refine ck_iadd dX12_name_48 ?_
        refine ck_goto (tgt := 53) dX12_name_49 (by decide) ?_
        exact cp_X12_name_53 hKc _ _ _ _ hq
set_option maxHeartbeats 4000000 in
set_option maxRecDepth 100000 in
theorem c_X12_name {gr : Bool} {h : ck_H} {Q : ck_H → Prop} (hq : wp_X12_name h Q) : ck_M yX12_name cX12_name 2 none 2 0 0 gr ck_shM h [.ref 0] (ck_Qv ck_shM Q) := by
  refine ck_entry (lv := [(0, .ref 0)]) false (own := RX12) rfl (fun q => by cases q) (by decide) (Nat.le_of_ble_eq_true rfl) rfl ?_
  refine ck_aload_n 0 dX12_name_0 rfl rfl ?_
  refine ck_iconst (v := 0) dX12_name_1 (by decide) ?_
  refine ck_putI clX12 25 rfl rfl (by decide) fl_X12_174 rfl rfl rfl dX12_name_2 ?_
  refine ck_nmH (fun h1 eh1 => ?_)
  have hq := hq h1 eh1
  refine ck_iconst (v := 0) dX12_name_5 (by decide) ?_
  refine ck_istore_n (lv' := [(1, .int (0 : Int32)), (0, .ref 0)]) dX12_name_6 rfl (by decide) rfl ?_
  refine ck_loc [1, 0] rfl ?_
  refine cp_X12_name_7 lpN _ _ hq
def wp_X12_isDigit (x0 : Int32) (h : ck_H) (Q : Int32 → ck_H → Prop) : Prop := ((x0 < (48 : Int32) → Q (0 : Int32) h) ∧ (¬ x0 < (48 : Int32) → (((57 : Int32) < x0 → Q (0 : Int32) h) ∧ (¬ (57 : Int32) < x0 → Q (1 : Int32) h))))
set_option maxHeartbeats 4000000 in
set_option maxRecDepth 100000 in
theorem c_X12_isDigit {gr : Bool} {x0 : Int32} {h : ck_H} {Q : Int32 → ck_H → Prop} (hq : wp_X12_isDigit x0 h Q) : ck_M yX12_isDigit cX12_isDigit 1 (some .boolean) 2 0 0 gr ck_shM h [.int x0] (ck_Qi ck_shM Q) := by
  refine ck_entry (lv := [(0, .int x0)]) false (own := RX12) rfl (fun q => by cases q) (by decide) (Nat.le_of_ble_eq_true rfl) rfl ?_
  refine ck_iload_n 0 dX12_isDigit_0 rfl rfl ?_
  refine ck_bipush (v := 48) dX12_isDigit_1 (by decide) ?_
  refine ck_icmp_lt (tgt := 16) dX12_isDigit_3 (by decide) (fun c1 => ?_) (fun c1 => ?_)
  · have hq := hq.1 c1
    refine ck_iconst (v := 0) dX12_isDigit_16 (by decide) ?_
    exact ck_iret rfl (by decide) rfl rfl dX12_isDigit_17 ⟨_, rfl, rfl, hq⟩
  · have hq := hq.2 c1
    refine ck_iload_n 0 dX12_isDigit_6 rfl rfl ?_
    refine ck_bipush (v := 57) dX12_isDigit_7 (by decide) ?_
    refine ck_icmp_gt (tgt := 16) dX12_isDigit_9 (by decide) (fun c2 => ?_) (fun c2 => ?_)
    · have hq := hq.1 c2
      refine ck_iconst (v := 0) dX12_isDigit_16 (by decide) ?_
      exact ck_iret rfl (by decide) rfl rfl dX12_isDigit_17 ⟨_, rfl, rfl, hq⟩
    · have hq := hq.2 c2
      refine ck_iconst (v := 1) dX12_isDigit_12 (by decide) ?_
      refine ck_goto (tgt := 17) dX12_isDigit_13 (by decide) ?_
      exact ck_iret rfl (by decide) rfl rfl dX12_isDigit_17 ⟨_, rfl, rfl, hq⟩
def wp_X12_sign_150 (Q : ck_H → Prop) (h : ck_H) : Prop := (((h.1 0 25) < (256 : Int32) → Q h) ∧ (¬ (h.1 0 25) < (256 : Int32) → (∀ h9, h9 = ck_sI h 0 22 ((h.1 0 22) + (1 : Int32)) → Q h9)))
def wp_X12_sign_128 (Q : ck_H → Prop) (x1 : Int32) (h : ck_H) : Prop := ((¬ x1 = (62 : Int32) → wp_X12_sign_150 Q h) ∧ (x1 = (62 : Int32) → (wp_X12_here h (fun r11 h10 => ((¬ r11 = (61 : Int32) → wp_X12_sign_150 Q h10) ∧ (r11 = (61 : Int32) → (∀ h13, h13 = ck_sI h10 0 25 (258 : Int32) → wp_X12_sign_150 Q h13)))))))
def wp_X12_sign_106 (Q : ck_H → Prop) (x1 : Int32) (h : ck_H) : Prop := ((¬ x1 = (60 : Int32) → wp_X12_sign_128 Q x1 h) ∧ (x1 = (60 : Int32) → (wp_X12_here h (fun r15 h14 => ((¬ r15 = (62 : Int32) → wp_X12_sign_128 Q x1 h14) ∧ (r15 = (62 : Int32) → (∀ h17, h17 = ck_sI h14 0 25 (257 : Int32) → wp_X12_sign_128 Q x1 h17)))))))
def wp_X12_sign_76 (Q : ck_H → Prop) (x1 : Int32) (y1 : Int32) (h : ck_H) : Prop := (∀ h3, h3 = ck_sI h 0 24 y1 → (∀ h4, h4 = ck_sI h3 0 25 x1 → ((¬ x1 = (60 : Int32) → wp_X12_sign_106 Q x1 h4) ∧ (x1 = (60 : Int32) → (wp_X12_here h4 (fun r19 h18 => ((¬ r19 = (61 : Int32) → wp_X12_sign_106 Q x1 h18) ∧ (r19 = (61 : Int32) → (∀ h21, h21 = ck_sI h18 0 25 (256 : Int32) → wp_X12_sign_106 Q x1 h21)))))))))
def wp_X12_sign_71 (Q : ck_H → Prop) (x1 : Int32) (h : ck_H) : Prop := wp_X12_sign_76 Q x1 (3 : Int32) h
def wp_X12_sign (x1 : Int32) (h : ck_H) (Q : ck_H → Prop) : Prop := (∀ h1, h1 = ck_sI h 0 22 ((h.1 0 22) + (1 : Int32)) → ((x1 = (59 : Int32) → wp_X12_sign_71 Q x1 h1) ∧ (¬ x1 = (59 : Int32) → ((x1 = (40 : Int32) → wp_X12_sign_71 Q x1 h1) ∧ (¬ x1 = (40 : Int32) → ((x1 = (41 : Int32) → wp_X12_sign_71 Q x1 h1) ∧ (¬ x1 = (41 : Int32) → ((x1 = (43 : Int32) → wp_X12_sign_71 Q x1 h1) ∧ (¬ x1 = (43 : Int32) → ((x1 = (45 : Int32) → wp_X12_sign_71 Q x1 h1) ∧ (¬ x1 = (45 : Int32) → ((x1 = (42 : Int32) → wp_X12_sign_71 Q x1 h1) ∧ (¬ x1 = (42 : Int32) → ((x1 = (47 : Int32) → wp_X12_sign_71 Q x1 h1) ∧ (¬ x1 = (47 : Int32) → ((x1 = (60 : Int32) → wp_X12_sign_71 Q x1 h1) ∧ (¬ x1 = (60 : Int32) → ((x1 = (61 : Int32) → wp_X12_sign_71 Q x1 h1) ∧ (¬ x1 = (61 : Int32) → ((¬ x1 = (62 : Int32) → wp_X12_sign_76 Q x1 (5 : Int32) h1) ∧ (x1 = (62 : Int32) → wp_X12_sign_71 Q x1 h1)))))))))))))))))))))
set_option maxHeartbeats 4000000 in
set_option maxRecDepth 100000 in
theorem cp_X12_sign_150 {gr : Bool} {Q : ck_H → Prop} : ∀ (h : ck_H), wp_X12_sign_150 Q h → ck_W cX12_sign 2 RX12 none 3 0 0 false gr (ck_Qv ck_shM Q) ck_shM h 0 0 150 [(0, .ref 0)] [] := by
  intro h hq
  refine ck_aload_n 0 dX12_sign_150 rfl rfl ?_
  refine ck_getI clX12 25 rfl rfl (by decide) fl_X12_174 dX12_sign_151 ?_
  refine ck_sipush (v := 256) dX12_sign_154 (by decide) ?_
  refine ck_icmp_lt (tgt := 170) dX12_sign_157 (by decide) (fun c8 => ?_) (fun c8 => ?_)
  · have hq := hq.1 c8
    exact ck_vret rfl rfl rfl dX12_sign_170 ⟨rfl, rfl, hq⟩
  · have hq := hq.2 c8
    refine ck_aload_n 0 dX12_sign_160 rfl rfl ?_
    refine ck_dup dX12_sign_161 rfl ?_
    refine ck_getI clX12 22 rfl rfl (by decide) fl_X12_151 dX12_sign_162 ?_
    refine ck_iconst (v := 1) dX12_sign_165 (by decide) ?_
    refine ck_iadd dX12_sign_166 ?_
    refine ck_putI clX12 22 rfl rfl (by decide) fl_X12_151 rfl rfl rfl dX12_sign_167 ?_
    refine ck_nmH (fun h9 eh9 => ?_)
    have hq := hq h9 eh9
    exact ck_vret rfl rfl rfl dX12_sign_170 ⟨rfl, rfl, hq⟩
set_option maxHeartbeats 4000000 in
set_option maxRecDepth 100000 in
theorem cp_X12_sign_128 {gr : Bool} {Q : ck_H → Prop} : ∀ (x1 : Int32) (h : ck_H), wp_X12_sign_128 Q x1 h → ck_W cX12_sign 2 RX12 none 3 0 0 false gr (ck_Qv ck_shM Q) ck_shM h 0 0 128 [(0, .ref 0), (1, .int x1)] [] := by
  intro x1 h hq
  refine ck_iload_n 1 dX12_sign_128 rfl rfl ?_
  refine ck_bipush (v := 62) dX12_sign_129 (by decide) ?_
  refine ck_icmp_ne (tgt := 150) dX12_sign_131 (by decide) (fun c7 => ?_) (fun c7 => ?_)
  · have hq := hq.1 c7
    refine ck_loc [0] rfl ?_
    exact cp_X12_sign_150  _ hq
  · have hq := hq.2 c7
    refine ck_aload_n 0 dX12_sign_134 rfl rfl ?_
    refine ck_callV (c_X12_here hq) rfl cal_X12_here rfl ml_X12_157 vir_X12_here rfl rfl (by decide) (Nat.le_of_ble_eq_true rfl) (Nat.le_of_ble_eq_true rfl) (by decide) (by decide) dX12_sign_135 ?_
    rintro _ _ h10 ⟨r11, rfl, rfl, hq⟩
    refine ck_bipush (v := 61) dX12_sign_138 (by decide) ?_
    refine ck_icmp_ne (tgt := 150) dX12_sign_140 (by decide) (fun c12 => ?_) (fun c12 => ?_)
    · have hq := hq.1 c12
      refine ck_loc [0] rfl ?_
      exact cp_X12_sign_150  _ hq
    · have hq := hq.2 c12
      refine ck_aload_n 0 dX12_sign_143 rfl rfl ?_
      refine ck_sipush (v := 258) dX12_sign_144 (by decide) ?_
      refine ck_putI clX12 25 rfl rfl (by decide) fl_X12_174 rfl rfl rfl dX12_sign_147 ?_
      refine ck_nmH (fun h13 eh13 => ?_)
      have hq := hq h13 eh13
      refine ck_loc [0] rfl ?_
      exact cp_X12_sign_150  _ hq
set_option maxHeartbeats 4000000 in
set_option maxRecDepth 100000 in
theorem cp_X12_sign_106 {gr : Bool} {Q : ck_H → Prop} : ∀ (x1 : Int32) (h : ck_H), wp_X12_sign_106 Q x1 h → ck_W cX12_sign 2 RX12 none 3 0 0 false gr (ck_Qv ck_shM Q) ck_shM h 0 0 106 [(0, .ref 0), (1, .int x1)] [] := by
  intro x1 h hq
  refine ck_iload_n 1 dX12_sign_106 rfl rfl ?_
  refine ck_bipush (v := 60) dX12_sign_107 (by decide) ?_
  refine ck_icmp_ne (tgt := 128) dX12_sign_109 (by decide) (fun c6 => ?_) (fun c6 => ?_)
  · have hq := hq.1 c6
    exact cp_X12_sign_128 _ _ hq
  · have hq := hq.2 c6
    refine ck_aload_n 0 dX12_sign_112 rfl rfl ?_
    refine ck_callV (c_X12_here hq) rfl cal_X12_here rfl ml_X12_157 vir_X12_here rfl rfl (by decide) (Nat.le_of_ble_eq_true rfl) (Nat.le_of_ble_eq_true rfl) (by decide) (by decide) dX12_sign_113 ?_
    rintro _ _ h14 ⟨r15, rfl, rfl, hq⟩
    refine ck_bipush (v := 62) dX12_sign_116 (by decide) ?_
    refine ck_icmp_ne (tgt := 128) dX12_sign_118 (by decide) (fun c16 => ?_) (fun c16 => ?_)
    · have hq := hq.1 c16
      exact cp_X12_sign_128 _ _ hq
    · have hq := hq.2 c16
      refine ck_aload_n 0 dX12_sign_121 rfl rfl ?_
      refine ck_sipush (v := 257) dX12_sign_122 (by decide) ?_
      refine ck_putI clX12 25 rfl rfl (by decide) fl_X12_174 rfl rfl rfl dX12_sign_125 ?_
      refine ck_nmH (fun h17 eh17 => ?_)
      have hq := hq h17 eh17
      exact cp_X12_sign_128 _ _ hq
set_option maxHeartbeats 4000000 in
set_option maxRecDepth 100000 in
theorem cp_X12_sign_76 {gr : Bool} {Q : ck_H → Prop} : ∀ (x1 : Int32) (y1 : Int32) (h : ck_H), wp_X12_sign_76 Q x1 y1 h → ck_W cX12_sign 2 RX12 none 3 0 0 false gr (ck_Qv ck_shM Q) ck_shM h 0 0 76 [(0, .ref 0), (1, .int x1)] [.int y1, .ref 0] := by
  intro x1 y1 h hq
  refine ck_putI clX12 24 rfl rfl (by decide) fl_X12_164 rfl rfl rfl dX12_sign_76 ?_
  refine ck_nmH (fun h3 eh3 => ?_)
  have hq := hq h3 eh3
  refine ck_aload_n 0 dX12_sign_79 rfl rfl ?_
  refine ck_iload_n 1 dX12_sign_80 rfl rfl ?_
  refine ck_putI clX12 25 rfl rfl (by decide) fl_X12_174 rfl rfl rfl dX12_sign_81 ?_
  refine ck_nmH (fun h4 eh4 => ?_)
  have hq := hq h4 eh4
  refine ck_iload_n 1 dX12_sign_84 rfl rfl ?_
  refine ck_bipush (v := 60) dX12_sign_85 (by decide) ?_
  refine ck_icmp_ne (tgt := 106) dX12_sign_87 (by decide) (fun c5 => ?_) (fun c5 => ?_)
  · have hq := hq.1 c5
    exact cp_X12_sign_106 _ _ hq
  · have hq := hq.2 c5
    refine ck_aload_n 0 dX12_sign_90 rfl rfl ?_
    refine ck_callV (c_X12_here hq) rfl cal_X12_here rfl ml_X12_157 vir_X12_here rfl rfl (by decide) (Nat.le_of_ble_eq_true rfl) (Nat.le_of_ble_eq_true rfl) (by decide) (by decide) dX12_sign_91 ?_
    rintro _ _ h18 ⟨r19, rfl, rfl, hq⟩
    refine ck_bipush (v := 61) dX12_sign_94 (by decide) ?_
    refine ck_icmp_ne (tgt := 106) dX12_sign_96 (by decide) (fun c20 => ?_) (fun c20 => ?_)
    · have hq := hq.1 c20
      exact cp_X12_sign_106 _ _ hq
    · have hq := hq.2 c20
      refine ck_aload_n 0 dX12_sign_99 rfl rfl ?_
      refine ck_sipush (v := 256) dX12_sign_100 (by decide) ?_
      refine ck_putI clX12 25 rfl rfl (by decide) fl_X12_174 rfl rfl rfl dX12_sign_103 ?_
      refine ck_nmH (fun h21 eh21 => ?_)
      have hq := hq h21 eh21
      exact cp_X12_sign_106 _ _ hq
set_option maxHeartbeats 4000000 in
set_option maxRecDepth 100000 in
theorem cp_X12_sign_71 {gr : Bool} {Q : ck_H → Prop} : ∀ (x1 : Int32) (h : ck_H), wp_X12_sign_71 Q x1 h → ck_W cX12_sign 2 RX12 none 3 0 0 false gr (ck_Qv ck_shM Q) ck_shM h 0 0 71 [(0, .ref 0), (1, .int x1)] [.ref 0] := by
  intro x1 h hq
  refine ck_iconst (v := 3) dX12_sign_71 (by decide) ?_
  refine ck_goto (tgt := 76) dX12_sign_72 (by decide) ?_
  exact cp_X12_sign_76 _ _ _ hq
set_option maxHeartbeats 4000000 in
set_option maxRecDepth 100000 in
theorem c_X12_sign {gr : Bool} {x1 : Int32} {h : ck_H} {Q : ck_H → Prop} (hq : wp_X12_sign x1 h Q) : ck_M yX12_sign cX12_sign 2 none 3 0 0 gr ck_shM h [.ref 0, .int x1] (ck_Qv ck_shM Q) := by
  refine ck_entry (lv := [(0, .ref 0), (1, .int x1)]) false (own := RX12) rfl (fun q => by cases q) (by decide) (Nat.le_of_ble_eq_true rfl) rfl ?_
  refine ck_aload_n 0 dX12_sign_0 rfl rfl ?_
  refine ck_dup dX12_sign_1 rfl ?_
  refine ck_getI clX12 22 rfl rfl (by decide) fl_X12_151 dX12_sign_2 ?_
  refine ck_iconst (v := 1) dX12_sign_5 (by decide) ?_
  refine ck_iadd dX12_sign_6 ?_
  refine ck_putI clX12 22 rfl rfl (by decide) fl_X12_151 rfl rfl rfl dX12_sign_7 ?_
  refine ck_nmH (fun h1 eh1 => ?_)
  have hq := hq h1 eh1
  refine ck_aload_n 0 dX12_sign_10 rfl rfl ?_
  refine ck_iload_n 1 dX12_sign_11 rfl rfl ?_
  refine ck_bipush (v := 59) dX12_sign_12 (by decide) ?_
  refine ck_icmp_eq (tgt := 71) dX12_sign_14 (by decide) (fun c2 => ?_) (fun c2 => ?_)
  · have hq := hq.1 c2
    exact cp_X12_sign_71 _ _ hq
  · have hq := hq.2 c2
    refine ck_iload_n 1 dX12_sign_17 rfl rfl ?_
    refine ck_bipush (v := 40) dX12_sign_18 (by decide) ?_
    refine ck_icmp_eq (tgt := 71) dX12_sign_20 (by decide) (fun c22 => ?_) (fun c22 => ?_)
    · have hq := hq.1 c22
      exact cp_X12_sign_71 _ _ hq
    · have hq := hq.2 c22
      refine ck_iload_n 1 dX12_sign_23 rfl rfl ?_
      refine ck_bipush (v := 41) dX12_sign_24 (by decide) ?_
      refine ck_icmp_eq (tgt := 71) dX12_sign_26 (by decide) (fun c23 => ?_) (fun c23 => ?_)
      · have hq := hq.1 c23
        exact cp_X12_sign_71 _ _ hq
      · have hq := hq.2 c23
        refine ck_iload_n 1 dX12_sign_29 rfl rfl ?_
        refine ck_bipush (v := 43) dX12_sign_30 (by decide) ?_
        refine ck_icmp_eq (tgt := 71) dX12_sign_32 (by decide) (fun c24 => ?_) (fun c24 => ?_)
        · have hq := hq.1 c24
          exact cp_X12_sign_71 _ _ hq
        · have hq := hq.2 c24
          refine ck_iload_n 1 dX12_sign_35 rfl rfl ?_
          refine ck_bipush (v := 45) dX12_sign_36 (by decide) ?_
          refine ck_icmp_eq (tgt := 71) dX12_sign_38 (by decide) (fun c25 => ?_) (fun c25 => ?_)
          · have hq := hq.1 c25
            exact cp_X12_sign_71 _ _ hq
          · have hq := hq.2 c25
            refine ck_iload_n 1 dX12_sign_41 rfl rfl ?_
            refine ck_bipush (v := 42) dX12_sign_42 (by decide) ?_
            refine ck_icmp_eq (tgt := 71) dX12_sign_44 (by decide) (fun c26 => ?_) (fun c26 => ?_)
            · have hq := hq.1 c26
              exact cp_X12_sign_71 _ _ hq
            · have hq := hq.2 c26
              refine ck_iload_n 1 dX12_sign_47 rfl rfl ?_
              refine ck_bipush (v := 47) dX12_sign_48 (by decide) ?_
              refine ck_icmp_eq (tgt := 71) dX12_sign_50 (by decide) (fun c27 => ?_) (fun c27 => ?_)
              · have hq := hq.1 c27
                exact cp_X12_sign_71 _ _ hq
              · have hq := hq.2 c27
                refine ck_iload_n 1 dX12_sign_53 rfl rfl ?_
                refine ck_bipush (v := 60) dX12_sign_54 (by decide) ?_
                refine ck_icmp_eq (tgt := 71) dX12_sign_56 (by decide) (fun c28 => ?_) (fun c28 => ?_)
                · have hq := hq.1 c28
                  exact cp_X12_sign_71 _ _ hq
                · have hq := hq.2 c28
                  refine ck_iload_n 1 dX12_sign_59 rfl rfl ?_
                  refine ck_bipush (v := 61) dX12_sign_60 (by decide) ?_
                  refine ck_icmp_eq (tgt := 71) dX12_sign_62 (by decide) (fun c29 => ?_) (fun c29 => ?_)
                  · have hq := hq.1 c29
                    exact cp_X12_sign_71 _ _ hq
                  · have hq := hq.2 c29
                    refine ck_iload_n 1 dX12_sign_65 rfl rfl ?_
                    refine ck_bipush (v := 62) dX12_sign_66 (by decide) ?_
                    refine ck_icmp_ne (tgt := 75) dX12_sign_68 (by decide) (fun c30 => ?_) (fun c30 => ?_)
                    · have hq := hq.1 c30
                      refine ck_iconst (v := 5) dX12_sign_75 (by decide) ?_
                      exact cp_X12_sign_76 _ _ _ hq
                    · have hq := hq.2 c30
                      exact cp_X12_sign_71 _ _ hq
def wp_X12_token_18 (Q : ck_H → Prop) (K31 : ck_H → Prop) (Kc : ck_H → Prop) (h : ck_H) : Prop := (∀ h4, h4 = ck_sI h 0 22 ((h.1 0 22) + (1 : Int32)) → Kc h4)
def wp_X12_token_0 (Q : ck_H → Prop) (K31 : ck_H → Prop) : Nat → ck_H → Prop
  | 0 => fun _ => False
  | n + 1 => fun h => (wp_X12_here h (fun r2 h1 => ((r2 = (10 : Int32) → wp_X12_token_18 Q K31 (wp_X12_token_0 Q K31 n) h1) ∧ (¬ r2 = (10 : Int32) → (wp_X12_here h1 (fun r6 h5 => ((¬ r6 = (32 : Int32) → K31 h5) ∧ (r6 = (32 : Int32) → wp_X12_token_18 Q K31 (wp_X12_token_0 Q K31 n) h5))))))))
def wp_X12_token_204 (Q : ck_H → Prop) (Kc : ck_H → Prop) (y1 : Int32) (h : ck_H) : Prop := (∀ h30, h30 = ck_sI h 0 25 y1 → (∀ h31, h31 = ck_sI h30 0 22 ((h30.1 0 22) + (1 : Int32)) → Kc h31))
def wp_X12_token_162 (Q : ck_H → Prop) : Nat → ck_H → Prop
  | 0 => fun _ => False
  | n + 1 => fun h => (wp_X12_here h (fun r23 h22 => (wp_X12_isDigit r23 h22 (fun r25 h24 => ((r25 = 0 → Q h24) ∧ (¬ r25 = 0 → (((h24.1 0 25) ≤ (99999 : Int32) → (wp_X12_here h24 (fun r29 h28 => wp_X12_token_204 Q (wp_X12_token_162 Q n) ((((10 : Int32) * (h24.1 0 25)) + r29) - (48 : Int32)) h28))) ∧ (¬ (h24.1 0 25) ≤ (99999 : Int32) → wp_X12_token_204 Q (wp_X12_token_162 Q n) (h24.1 0 25) h24))))))))
def wp_X12_token_64 (Q : ck_H → Prop) (K87 : ck_H → Prop) : Nat → ck_H → Prop
  | 0 => fun _ => False
  | n + 1 => fun h => (wp_X12_here h (fun r33 h32 => (wp_X12_isSmall r33 h32 (fun r35 h34 => ((r35 = 0 → K87 h34) ∧ (¬ r35 = 0 → (∀ h37, h37 = ck_sI h34 0 22 ((h34.1 0 22) + (1 : Int32)) → (wp_X12_token_64 Q K87 n) h37)))))))
def wp_X12_token_127 (Q : ck_H → Prop) (y1 : Int32) (h : ck_H) : Prop := (∀ h44, h44 = ck_sI h 0 24 y1 → ((¬ (h44.1 0 24) = (1 : Int32) → Q h44) ∧ ((h44.1 0 24) = (1 : Int32) → (wp_X12_name h44 (fun h46 => Q h46)))))
def wp_X12_token (h : ck_H) (Q : ck_H → Prop) : Prop := wp_X12_token_0 Q (fun h8 => (∀ h9, h9 = ck_sI h8 0 23 (h8.1 0 22) → (wp_X12_here h9 (fun r11 h10 => ((¬ r11 = (-1 : Int32) → (wp_X12_isSmall r11 h10 (fun r14 h13 => ((r14 = 0 → (wp_X12_isDigit r11 h13 (fun r17 h16 => ((r17 = 0 → (wp_X12_sign r11 h16 (fun h19 => Q h19))) ∧ (¬ r17 = 0 → (∀ h20, h20 = ck_sI h16 0 24 (2 : Int32) → (∀ h21, h21 = ck_sI h20 0 25 (0 : Int32) → wp_X12_token_162 Q lpN h21))))))) ∧ (¬ r14 = 0 → wp_X12_token_64 Q (fun h38 => (wp_X12_word h38 (fun r40 h39 => (∀ h41, h41 = ck_sI h39 0 25 r40 → (((h41.1 0 25) = (-1 : Int32) → ((((h41.1 0 22) - (h41.1 0 23)) ≤ (6 : Int32) → wp_X12_token_127 Q (1 : Int32) h41) ∧ (¬ ((h41.1 0 22) - (h41.1 0 23)) ≤ (6 : Int32) → wp_X12_token_127 Q (5 : Int32) h41))) ∧ (¬ (h41.1 0 25) = (-1 : Int32) → wp_X12_token_127 Q (0 : Int32) h41)))))) lpN h13))))) ∧ (r11 = (-1 : Int32) → (∀ h47, h47 = ck_sI h10 0 24 (4 : Int32) → Q h47))))))) lpN h
set_option maxHeartbeats 4000000 in
set_option maxRecDepth 100000 in
theorem cp_X12_token_18 {gr : Bool} {Q : ck_H → Prop} {K31 : ck_H → Prop} {Kc : ck_H → Prop} (hK31 : ∀ (h : ck_H), K31 h → ck_W cX12_token 2 RX12 none 8 0 0 false gr (ck_Qv ck_shM Q) ck_shM h 0 0 31 [(0, .ref 0)] []) (hKc : ∀ (h : ck_H), Kc h → ck_W cX12_token 2 RX12 none 8 0 0 false gr (ck_Qv ck_shM Q) ck_shM h 0 0 0 [(0, .ref 0)] []) : ∀ (h : ck_H), wp_X12_token_18 Q K31 Kc h → ck_W cX12_token 2 RX12 none 8 0 0 false gr (ck_Qv ck_shM Q) ck_shM h 0 0 18 [(0, .ref 0)] [] := by
  intro h hq
  refine ck_aload_n 0 dX12_token_18 rfl rfl ?_
  refine ck_dup dX12_token_19 rfl ?_
  refine ck_getI clX12 22 rfl rfl (by decide) fl_X12_151 dX12_token_20 ?_
  refine ck_iconst (v := 1) dX12_token_23 (by decide) ?_
  refine ck_iadd dX12_token_24 ?_
  refine ck_putI clX12 22 rfl rfl (by decide) fl_X12_151 rfl rfl rfl dX12_token_25 ?_
  refine ck_nmH (fun h4 eh4 => ?_)
  have hq := hq h4 eh4
  refine ck_goto (tgt := 0) dX12_token_28 (by decide) ?_
  exact hKc  _ hq
set_option maxHeartbeats 4000000 in
set_option maxRecDepth 100000 in
theorem cp_X12_token_0 {gr : Bool} {Q : ck_H → Prop} {K31 : ck_H → Prop} (hK31 : ∀ (h : ck_H), K31 h → ck_W cX12_token 2 RX12 none 8 0 0 false gr (ck_Qv ck_shM Q) ck_shM h 0 0 31 [(0, .ref 0)] []) : ∀ (n : Nat) (h : ck_H), wp_X12_token_0 Q K31 n h → ck_W cX12_token 2 RX12 none 8 0 0 false gr (ck_Qv ck_shM Q) ck_shM h 0 0 0 [(0, .ref 0)] [] := by
  intro n
  induction n with
  | zero => intro h hq; exact hq.elim
  | succ n hKc =>
    intro h hq
    unfold wp_X12_token_0 at hq
    refine ck_aload_n 0 dX12_token_0 rfl rfl ?_
    refine ck_callV (c_X12_here hq) rfl cal_X12_here rfl ml_X12_157 vir_X12_here rfl rfl (by decide) (Nat.le_of_ble_eq_true rfl) (Nat.le_of_ble_eq_true rfl) (by decide) (by decide) dX12_token_1 ?_
    rintro _ _ h1 ⟨r2, rfl, rfl, hq⟩
    refine ck_bipush (v := 10) dX12_token_4 (by decide) ?_
    refine ck_icmp_eq (tgt := 18) dX12_token_6 (by decide) (fun c3 => ?_) (fun c3 => ?_)
    · have hq := hq.1 c3
      exact cp_X12_token_18 hK31 hKc  _ hq
    · have hq := hq.2 c3
      refine ck_aload_n 0 dX12_token_9 rfl rfl ?_
      refine ck_callV (c_X12_here hq) rfl cal_X12_here rfl ml_X12_157 vir_X12_here rfl rfl (by decide) (Nat.le_of_ble_eq_true rfl) (Nat.le_of_ble_eq_true rfl) (by decide) (by decide) dX12_token_10 ?_
      rintro _ _ h5 ⟨r6, rfl, rfl, hq⟩
      refine ck_bipush (v := 32) dX12_token_13 (by decide) ?_
      refine ck_icmp_ne (tgt := 31) dX12_token_15 (by decide) (fun c7 => ?_) (fun c7 => ?_)
      · have hq := hq.1 c7
        exact hK31  _ hq
      · have hq := hq.2 c7
        exact cp_X12_token_18 hK31 hKc  _ hq
set_option maxHeartbeats 4000000 in
set_option maxRecDepth 100000 in
theorem cp_X12_token_204 {gr : Bool} {Q : ck_H → Prop} {Kc : ck_H → Prop} (hKc : ∀ (h : ck_H), Kc h → ck_W cX12_token 2 RX12 none 8 0 0 false gr (ck_Qv ck_shM Q) ck_shM h 0 0 162 [(0, .ref 0)] []) : ∀ (y1 : Int32) (h : ck_H), wp_X12_token_204 Q Kc y1 h → ck_W cX12_token 2 RX12 none 8 0 0 false gr (ck_Qv ck_shM Q) ck_shM h 0 0 204 [(0, .ref 0)] [.int y1, .ref 0] := by
  intro y1 h hq
  refine ck_putI clX12 25 rfl rfl (by decide) fl_X12_174 rfl rfl rfl dX12_token_204 ?_
  refine ck_nmH (fun h30 eh30 => ?_)
  have hq := hq h30 eh30
  refine ck_aload_n 0 dX12_token_207 rfl rfl ?_
  refine ck_dup dX12_token_208 rfl ?_
  refine ck_getI clX12 22 rfl rfl (by decide) fl_X12_151 dX12_token_209 ?_
  refine ck_iconst (v := 1) dX12_token_212 (by decide) ?_
  refine ck_iadd dX12_token_213 ?_
  refine ck_putI clX12 22 rfl rfl (by decide) fl_X12_151 rfl rfl rfl dX12_token_214 ?_
  refine ck_nmH (fun h31 eh31 => ?_)
  have hq := hq h31 eh31
  refine ck_goto (tgt := 162) dX12_token_217 (by decide) ?_
  exact hKc  _ hq
set_option maxHeartbeats 4000000 in
set_option maxRecDepth 100000 in
theorem cp_X12_token_162 {gr : Bool} {Q : ck_H → Prop} : ∀ (n : Nat) (h : ck_H), wp_X12_token_162 Q n h → ck_W cX12_token 2 RX12 none 8 0 0 false gr (ck_Qv ck_shM Q) ck_shM h 0 0 162 [(0, .ref 0)] [] := by
  intro n
  induction n with
  | zero => intro h hq; exact hq.elim
  | succ n hKc =>
    intro h hq
    unfold wp_X12_token_162 at hq
    refine ck_aload_n 0 dX12_token_162 rfl rfl ?_
    refine ck_callV (c_X12_here hq) rfl cal_X12_here rfl ml_X12_157 vir_X12_here rfl rfl (by decide) (Nat.le_of_ble_eq_true rfl) (Nat.le_of_ble_eq_true rfl) (by decide) (by decide) dX12_token_163 ?_
    rintro _ _ h22 ⟨r23, rfl, rfl, hq⟩
    refine ck_callS (c_X12_isDigit hq) rfl cal_X12_isDigit rfl ml_X12_180 sta_X12_isDigit (by decide) (Nat.le_of_ble_eq_true rfl) (Nat.le_of_ble_eq_true rfl) (by decide) (by decide) dX12_token_166 ?_
    rintro _ _ h24 ⟨r25, rfl, rfl, hq⟩
    refine ck_if_eq (tgt := 225) dX12_token_169 (by decide) (fun c26 => ?_) (fun c26 => ?_)
    · have hq := hq.1 c26
      exact ck_vret rfl rfl rfl dX12_token_225 ⟨rfl, rfl, hq⟩
    · have hq := hq.2 c26
      refine ck_aload_n 0 dX12_token_172 rfl rfl ?_
      refine ck_aload_n 0 dX12_token_173 rfl rfl ?_
      refine ck_getI clX12 25 rfl rfl (by decide) fl_X12_174 dX12_token_174 ?_
      refine ck_ldc con_X12_183 dX12_token_177 ?_
      refine ck_icmp_le (tgt := 189) dX12_token_179 (by decide) (fun c27 => ?_) (fun c27 => ?_)
      · have hq := hq.1 c27
        refine ck_bipush (v := 10) dX12_token_189 (by decide) ?_
        refine ck_aload_n 0 dX12_token_191 rfl rfl ?_
        refine ck_getI clX12 25 rfl rfl (by decide) fl_X12_174 dX12_token_192 ?_
        refine ck_imul dX12_token_195 ?_
        refine ck_aload_n 0 dX12_token_196 rfl rfl ?_
        refine ck_callV (c_X12_here hq) rfl cal_X12_here rfl ml_X12_157 vir_X12_here rfl rfl (by decide) (Nat.le_of_ble_eq_true rfl) (Nat.le_of_ble_eq_true rfl) (by decide) (by decide) dX12_token_197 ?_
        rintro _ _ h28 ⟨r29, rfl, rfl, hq⟩
        refine ck_iadd dX12_token_200 ?_
        refine ck_bipush (v := 48) dX12_token_201 (by decide) ?_
        refine ck_isub dX12_token_203 ?_
        exact cp_X12_token_204 hKc _ _ hq
      · have hq := hq.2 c27
        refine ck_aload_n 0 dX12_token_182 rfl rfl ?_
        refine ck_getI clX12 25 rfl rfl (by decide) fl_X12_174 dX12_token_183 ?_
        refine ck_goto (tgt := 204) dX12_token_186 (by decide) ?_
        exact cp_X12_token_204 hKc _ _ hq
set_option maxHeartbeats 4000000 in
set_option maxRecDepth 100000 in
theorem cp_X12_token_64 {gr : Bool} {Q : ck_H → Prop} {K87 : ck_H → Prop} (hK87 : ∀ (h : ck_H), K87 h → ck_W cX12_token 2 RX12 none 8 0 0 false gr (ck_Qv ck_shM Q) ck_shM h 0 0 87 [(0, .ref 0)] []) : ∀ (n : Nat) (h : ck_H), wp_X12_token_64 Q K87 n h → ck_W cX12_token 2 RX12 none 8 0 0 false gr (ck_Qv ck_shM Q) ck_shM h 0 0 64 [(0, .ref 0)] [] := by
  intro n
  induction n with
  | zero => intro h hq; exact hq.elim
  | succ n hKc =>
    intro h hq
    unfold wp_X12_token_64 at hq
    refine ck_aload_n 0 dX12_token_64 rfl rfl ?_
    refine ck_callV (c_X12_here hq) rfl cal_X12_here rfl ml_X12_157 vir_X12_here rfl rfl (by decide) (Nat.le_of_ble_eq_true rfl) (Nat.le_of_ble_eq_true rfl) (by decide) (by decide) dX12_token_65 ?_
    rintro _ _ h32 ⟨r33, rfl, rfl, hq⟩
    refine ck_callS (c_X12_isSmall hq) rfl cal_X12_isSmall rfl ml_X12_167 sta_X12_isSmall (by decide) (Nat.le_of_ble_eq_true rfl) (Nat.le_of_ble_eq_true rfl) (by decide) (by decide) dX12_token_68 ?_
    rintro _ _ h34 ⟨r35, rfl, rfl, hq⟩
    refine ck_if_eq (tgt := 87) dX12_token_71 (by decide) (fun c36 => ?_) (fun c36 => ?_)
    · have hq := hq.1 c36
      exact hK87  _ hq
    · have hq := hq.2 c36
      refine ck_aload_n 0 dX12_token_74 rfl rfl ?_
      refine ck_dup dX12_token_75 rfl ?_
      refine ck_getI clX12 22 rfl rfl (by decide) fl_X12_151 dX12_token_76 ?_
      refine ck_iconst (v := 1) dX12_token_79 (by decide) ?_
      refine ck_iadd dX12_token_80 ?_
      refine ck_putI clX12 22 rfl rfl (by decide) fl_X12_151 rfl rfl rfl dX12_token_81 ?_
      refine ck_nmH (fun h37 eh37 => ?_)
      have hq := hq h37 eh37
      refine ck_goto (tgt := 64) dX12_token_84 (by decide) ?_
      exact hKc  _ hq
set_option maxHeartbeats 4000000 in
set_option maxRecDepth 100000 in
theorem cp_X12_token_127 {gr : Bool} {Q : ck_H → Prop} : ∀ (y1 : Int32) (h : ck_H), wp_X12_token_127 Q y1 h → ck_W cX12_token 2 RX12 none 8 0 0 false gr (ck_Qv ck_shM Q) ck_shM h 0 0 127 [(0, .ref 0)] [.int y1, .ref 0] := by
  intro y1 h hq
  refine ck_putI clX12 24 rfl rfl (by decide) fl_X12_164 rfl rfl rfl dX12_token_127 ?_
  refine ck_nmH (fun h44 eh44 => ?_)
  have hq := hq h44 eh44
  refine ck_aload_n 0 dX12_token_130 rfl rfl ?_
  refine ck_getI clX12 24 rfl rfl (by decide) fl_X12_164 dX12_token_131 ?_
  refine ck_iconst (v := 1) dX12_token_134 (by decide) ?_
  refine ck_icmp_ne (tgt := 225) dX12_token_135 (by decide) (fun c45 => ?_) (fun c45 => ?_)
  · have hq := hq.1 c45
    exact ck_vret rfl rfl rfl dX12_token_225 ⟨rfl, rfl, hq⟩
  · have hq := hq.2 c45
    refine ck_aload_n 0 dX12_token_138 rfl rfl ?_
    refine ck_callV (c_X12_name hq) rfl cal_X12_name rfl ml_X12_177 vir_X12_name rfl rfl (by decide) (Nat.le_of_ble_eq_true rfl) (Nat.le_of_ble_eq_true rfl) (by decide) (by decide) dX12_token_139 ?_
    rintro _ _ h46 ⟨rfl, rfl, hq⟩
    refine ck_goto (tgt := 225) dX12_token_142 (by decide) ?_
    exact ck_vret rfl rfl rfl dX12_token_225 ⟨rfl, rfl, hq⟩
set_option maxHeartbeats 4000000 in
set_option maxRecDepth 100000 in
theorem c_X12_token {gr : Bool} {h : ck_H} {Q : ck_H → Prop} (hq : wp_X12_token h Q) : ck_M yX12_token cX12_token 2 none 8 0 0 gr ck_shM h [.ref 0] (ck_Qv ck_shM Q) := by
  refine ck_entry (lv := [(0, .ref 0)]) false (own := RX12) rfl (fun q => by cases q) (by decide) (Nat.le_of_ble_eq_true rfl) rfl ?_
  refine cp_X12_token_0 (fun h8 hq => ?_) lpN  _ hq
  · refine ck_aload_n 0 dX12_token_31 rfl rfl ?_
    refine ck_aload_n 0 dX12_token_32 rfl rfl ?_
    refine ck_getI clX12 22 rfl rfl (by decide) fl_X12_151 dX12_token_33 ?_
    refine ck_putI clX12 23 rfl rfl (by decide) fl_X12_161 rfl rfl rfl dX12_token_36 ?_
    refine ck_nmH (fun h9 eh9 => ?_)
    have hq := hq h9 eh9
    refine ck_aload_n 0 dX12_token_39 rfl rfl ?_
    refine ck_callV (c_X12_here hq) rfl cal_X12_here rfl ml_X12_157 vir_X12_here rfl rfl (by decide) (Nat.le_of_ble_eq_true rfl) (Nat.le_of_ble_eq_true rfl) (by decide) (by decide) dX12_token_40 ?_
    rintro _ _ h10 ⟨r11, rfl, rfl, hq⟩
    refine ck_istore_n (lv' := [(1, .int r11), (0, .ref 0)]) dX12_token_43 rfl (by decide) rfl ?_
    refine ck_iload_n 0 dX12_token_44 rfl rfl ?_
    refine ck_iconst (v := -1) dX12_token_45 (by decide) ?_
    refine ck_icmp_ne (tgt := 57) dX12_token_46 (by decide) (fun c12 => ?_) (fun c12 => ?_)
    · have hq := hq.1 c12
      refine ck_iload_n 0 dX12_token_57 rfl rfl ?_
      refine ck_callS (c_X12_isSmall hq) rfl cal_X12_isSmall rfl ml_X12_167 sta_X12_isSmall (by decide) (Nat.le_of_ble_eq_true rfl) (Nat.le_of_ble_eq_true rfl) (by decide) (by decide) dX12_token_58 ?_
      rintro _ _ h13 ⟨r14, rfl, rfl, hq⟩
      refine ck_if_eq (tgt := 145) dX12_token_61 (by decide) (fun c15 => ?_) (fun c15 => ?_)
      · have hq := hq.1 c15
        refine ck_iload_n 0 dX12_token_145 rfl rfl ?_
        refine ck_callS (c_X12_isDigit hq) rfl cal_X12_isDigit rfl ml_X12_180 sta_X12_isDigit (by decide) (Nat.le_of_ble_eq_true rfl) (Nat.le_of_ble_eq_true rfl) (by decide) (by decide) dX12_token_146 ?_
        rintro _ _ h16 ⟨r17, rfl, rfl, hq⟩
        refine ck_if_eq (tgt := 220) dX12_token_149 (by decide) (fun c18 => ?_) (fun c18 => ?_)
        · have hq := hq.1 c18
          refine ck_aload_n 1 dX12_token_220 rfl rfl ?_
          refine ck_iload_n 0 dX12_token_221 rfl rfl ?_
          refine ck_callV (c_X12_sign hq) rfl cal_X12_sign rfl ml_X12_184 vir_X12_sign rfl rfl (by decide) (Nat.le_of_ble_eq_true rfl) (Nat.le_of_ble_eq_true rfl) (by decide) (by decide) dX12_token_222 ?_
          rintro _ _ h19 ⟨rfl, rfl, hq⟩
          exact ck_vret rfl rfl rfl dX12_token_225 ⟨rfl, rfl, hq⟩
        · have hq := hq.2 c18
          refine ck_aload_n 1 dX12_token_152 rfl rfl ?_
          refine ck_iconst (v := 2) dX12_token_153 (by decide) ?_
          refine ck_putI clX12 24 rfl rfl (by decide) fl_X12_164 rfl rfl rfl dX12_token_154 ?_
          refine ck_nmH (fun h20 eh20 => ?_)
          have hq := hq h20 eh20
          refine ck_aload_n 1 dX12_token_157 rfl rfl ?_
          refine ck_iconst (v := 0) dX12_token_158 (by decide) ?_
          refine ck_putI clX12 25 rfl rfl (by decide) fl_X12_174 rfl rfl rfl dX12_token_159 ?_
          refine ck_nmH (fun h21 eh21 => ?_)
          have hq := hq h21 eh21
          refine ck_loc [1] rfl ?_
          refine cp_X12_token_162 lpN  _ hq
      · have hq := hq.2 c15
        refine ck_loc [1] rfl ?_
        refine cp_X12_token_64 (fun h38 hq => ?_) lpN  _ hq
        · refine ck_aload_n 0 dX12_token_87 rfl rfl ?_
          refine ck_aload_n 0 dX12_token_88 rfl rfl ?_
          refine ck_callV (c_X12_word hq) rfl cal_X12_word rfl ml_X12_171 vir_X12_word rfl rfl (by decide) (Nat.le_of_ble_eq_true rfl) (Nat.le_of_ble_eq_true rfl) (by decide) (by decide) dX12_token_89 ?_
          rintro _ _ h39 ⟨r40, rfl, rfl, hq⟩
          refine ck_putI clX12 25 rfl rfl (by decide) fl_X12_174 rfl rfl rfl dX12_token_92 ?_
          refine ck_nmH (fun h41 eh41 => ?_)
          have hq := hq h41 eh41
          refine ck_aload_n 0 dX12_token_95 rfl rfl ?_
          refine ck_aload_n 0 dX12_token_96 rfl rfl ?_
          refine ck_getI clX12 25 rfl rfl (by decide) fl_X12_174 dX12_token_97 ?_
          refine ck_iconst (v := -1) dX12_token_100 (by decide) ?_
          refine ck_icmp_eq (tgt := 108) dX12_token_101 (by decide) (fun c42 => ?_) (fun c42 => ?_)
          · have hq := hq.1 c42
            refine ck_aload_n 0 dX12_token_108 rfl rfl ?_
            refine ck_getI clX12 22 rfl rfl (by decide) fl_X12_151 dX12_token_109 ?_
            refine ck_aload_n 0 dX12_token_112 rfl rfl ?_
            refine ck_getI clX12 23 rfl rfl (by decide) fl_X12_161 dX12_token_113 ?_
            refine ck_isub dX12_token_116 ?_
            refine ck_bipush (v := 6) dX12_token_117 (by decide) ?_
            refine ck_icmp_le (tgt := 126) dX12_token_119 (by decide) (fun c43 => ?_) (fun c43 => ?_)
            · have hq := hq.1 c43
              refine ck_iconst (v := 1) dX12_token_126 (by decide) ?_
              exact cp_X12_token_127 _ _ hq
            · have hq := hq.2 c43
              refine ck_iconst (v := 5) dX12_token_122 (by decide) ?_
              refine ck_goto (tgt := 127) dX12_token_123 (by decide) ?_
              exact cp_X12_token_127 _ _ hq
          · have hq := hq.2 c42
            refine ck_iconst (v := 0) dX12_token_104 (by decide) ?_
            refine ck_goto (tgt := 127) dX12_token_105 (by decide) ?_
            exact cp_X12_token_127 _ _ hq
    · have hq := hq.2 c12
      refine ck_aload_n 1 dX12_token_49 rfl rfl ?_
      refine ck_iconst (v := 4) dX12_token_50 (by decide) ?_
      refine ck_putI clX12 24 rfl rfl (by decide) fl_X12_164 rfl rfl rfl dX12_token_51 ?_
      refine ck_nmH (fun h47 eh47 => ?_)
      have hq := hq h47 eh47
      refine ck_goto (tgt := 225) dX12_token_54 (by decide) ?_
      exact ck_vret rfl rfl rfl dX12_token_225 ⟨rfl, rfl, hq⟩
def wp_X12_wrong (x1 : Int32) (h : ck_H) (Q : ck_H → Prop) : Prop := (((h.1 0 26) = 0 → (∀ h2, h2 = ck_sI h 0 26 x1 → (∀ h3, h3 = ck_sI h2 0 27 (h2.1 0 23) → Q h3))) ∧ (¬ (h.1 0 26) = 0 → Q h))
set_option maxHeartbeats 4000000 in
set_option maxRecDepth 100000 in
theorem c_X12_wrong {gr : Bool} {x1 : Int32} {h : ck_H} {Q : ck_H → Prop} (hq : wp_X12_wrong x1 h Q) : ck_M yX12_wrong cX12_wrong 2 none 2 0 0 gr ck_shM h [.ref 0, .int x1] (ck_Qv ck_shM Q) := by
  refine ck_entry (lv := [(0, .ref 0), (1, .int x1)]) false (own := RX12) rfl (fun q => by cases q) (by decide) (Nat.le_of_ble_eq_true rfl) rfl ?_
  refine ck_aload_n 0 dX12_wrong_0 rfl rfl ?_
  refine ck_getI clX12 26 rfl rfl (by decide) fl_X12_199 dX12_wrong_1 ?_
  refine ck_if_eq (tgt := 8) dX12_wrong_4 (by decide) (fun c1 => ?_) (fun c1 => ?_)
  · have hq := hq.1 c1
    refine ck_aload_n 0 dX12_wrong_8 rfl rfl ?_
    refine ck_iload_n 1 dX12_wrong_9 rfl rfl ?_
    refine ck_putI clX12 26 rfl rfl (by decide) fl_X12_199 rfl rfl rfl dX12_wrong_10 ?_
    refine ck_nmH (fun h2 eh2 => ?_)
    have hq := hq h2 eh2
    refine ck_aload_n 0 dX12_wrong_13 rfl rfl ?_
    refine ck_aload_n 0 dX12_wrong_14 rfl rfl ?_
    refine ck_getI clX12 23 rfl rfl (by decide) fl_X12_161 dX12_wrong_15 ?_
    refine ck_putI clX12 27 rfl rfl (by decide) fl_X12_202 rfl rfl rfl dX12_wrong_18 ?_
    refine ck_nmH (fun h3 eh3 => ?_)
    have hq := hq h3 eh3
    exact ck_vret rfl rfl rfl dX12_wrong_21 ⟨rfl, rfl, hq⟩
  · have hq := hq.2 c1
    exact ck_vret rfl rfl rfl dX12_wrong_7 ⟨rfl, rfl, hq⟩
def wp_X12_fresher (x1 : Int32) (h : ck_H) (Q : Int32 → ck_H → Prop) : Prop := (vp_in ((7 : Int32) + x1) 14 ∧ Q (h.1 2 ((7 : Int32) + x1).toNatClampNeg) h)
set_option maxHeartbeats 4000000 in
set_option maxRecDepth 100000 in
theorem c_X12_fresher {gr : Bool} {x1 : Int32} {h : ck_H} {Q : Int32 → ck_H → Prop} (hq : wp_X12_fresher x1 h Q) : ck_M yX12_fresher cX12_fresher 2 (some .int) 2 0 0 gr ck_shM h [.ref 0, .int x1] (ck_Qi ck_shM Q) := by
  refine ck_entry (lv := [(0, .ref 0), (1, .int x1)]) false (own := RX12) rfl (fun q => by cases q) (by decide) (Nat.le_of_ble_eq_true rfl) rfl ?_
  refine ck_aload_n 0 dX12_fresher_0 rfl rfl ?_
  refine ck_getR clX12 3 rfl rfl (by decide) fl_X12_13 dX12_fresher_1 ?_
  refine ck_bipush (v := 7) dX12_fresher_4 (by decide) ?_
  refine ck_iload_n 1 dX12_fresher_6 rfl rfl ?_
  refine ck_iadd dX12_fresher_7 ?_
  obtain ⟨b1, hq⟩ := hq
  refine ck_iald rfl rfl b1 dX12_fresher_8 ?_
  exact ck_iret rfl rfl rfl rfl dX12_fresher_9 ⟨_, rfl, rfl, hq⟩
def wp_X12_isFull_43 (Q : Int32 → ck_H → Prop) (h : ck_H) : Prop := Q (1 : Int32) h
def wp_X12_isFull_28 (Q : Int32 → ck_H → Prop) (x1 : Int32) (h : ck_H) : Prop := ((¬ x1 = (2 : Int32) → Q (0 : Int32) h) ∧ (x1 = (2 : Int32) → (wp_X12_fresher (2 : Int32) h (fun r5 h4 => ((¬ r5 = (10 : Int32) → Q (0 : Int32) h4) ∧ (r5 = (10 : Int32) → wp_X12_isFull_43 Q h4))))))
def wp_X12_isFull_13 (Q : Int32 → ck_H → Prop) (x1 : Int32) (h : ck_H) : Prop := ((¬ x1 = (1 : Int32) → wp_X12_isFull_28 Q x1 h) ∧ (x1 = (1 : Int32) → (wp_X12_fresher (1 : Int32) h (fun r8 h7 => ((r8 = (6 : Int32) → wp_X12_isFull_43 Q h7) ∧ (¬ r8 = (6 : Int32) → wp_X12_isFull_28 Q x1 h7))))))
def wp_X12_isFull (x1 : Int32) (h : ck_H) (Q : Int32 → ck_H → Prop) : Prop := ((¬ x1 = 0 → wp_X12_isFull_13 Q x1 h) ∧ (x1 = 0 → (wp_X12_fresher (0 : Int32) h (fun r11 h10 => ((r11 = (4 : Int32) → wp_X12_isFull_43 Q h10) ∧ (¬ r11 = (4 : Int32) → wp_X12_isFull_13 Q x1 h10))))))
set_option maxHeartbeats 4000000 in
set_option maxRecDepth 100000 in
theorem cp_X12_isFull_43 {gr : Bool} {Q : Int32 → ck_H → Prop} : ∀ (h : ck_H), wp_X12_isFull_43 Q h → ck_W cX12_isFull 2 RX12 (some .boolean) 3 0 0 false gr (ck_Qi ck_shM Q) ck_shM h 0 0 43 [] [] := by
  intro h hq
  refine ck_iconst (v := 1) dX12_isFull_43 (by decide) ?_
  refine ck_goto (tgt := 48) dX12_isFull_44 (by decide) ?_
  exact ck_iret rfl (by decide) rfl rfl dX12_isFull_48 ⟨_, rfl, rfl, hq⟩
set_option maxHeartbeats 4000000 in
set_option maxRecDepth 100000 in
theorem cp_X12_isFull_28 {gr : Bool} {Q : Int32 → ck_H → Prop} : ∀ (x1 : Int32) (h : ck_H), wp_X12_isFull_28 Q x1 h → ck_W cX12_isFull 2 RX12 (some .boolean) 3 0 0 false gr (ck_Qi ck_shM Q) ck_shM h 0 0 28 [(0, .ref 0), (1, .int x1)] [] := by
  intro x1 h hq
  refine ck_iload_n 1 dX12_isFull_28 rfl rfl ?_
  refine ck_iconst (v := 2) dX12_isFull_29 (by decide) ?_
  refine ck_icmp_ne (tgt := 47) dX12_isFull_30 (by decide) (fun c3 => ?_) (fun c3 => ?_)
  · have hq := hq.1 c3
    refine ck_iconst (v := 0) dX12_isFull_47 (by decide) ?_
    exact ck_iret rfl (by decide) rfl rfl dX12_isFull_48 ⟨_, rfl, rfl, hq⟩
  · have hq := hq.2 c3
    refine ck_aload_n 0 dX12_isFull_33 rfl rfl ?_
    refine ck_iconst (v := 2) dX12_isFull_34 (by decide) ?_
    refine ck_callV (c_X12_fresher hq) rfl cal_X12_fresher rfl ml_X12_218 vir_X12_fresher rfl rfl (by decide) (Nat.le_of_ble_eq_true rfl) (Nat.le_of_ble_eq_true rfl) (by decide) (by decide) dX12_isFull_35 ?_
    rintro _ _ h4 ⟨r5, rfl, rfl, hq⟩
    refine ck_bipush (v := 10) dX12_isFull_38 (by decide) ?_
    refine ck_icmp_ne (tgt := 47) dX12_isFull_40 (by decide) (fun c6 => ?_) (fun c6 => ?_)
    · have hq := hq.1 c6
      refine ck_iconst (v := 0) dX12_isFull_47 (by decide) ?_
      exact ck_iret rfl (by decide) rfl rfl dX12_isFull_48 ⟨_, rfl, rfl, hq⟩
    · have hq := hq.2 c6
      refine ck_loc [] rfl ?_
      exact cp_X12_isFull_43  _ hq
set_option maxHeartbeats 4000000 in
set_option maxRecDepth 100000 in
theorem cp_X12_isFull_13 {gr : Bool} {Q : Int32 → ck_H → Prop} : ∀ (x1 : Int32) (h : ck_H), wp_X12_isFull_13 Q x1 h → ck_W cX12_isFull 2 RX12 (some .boolean) 3 0 0 false gr (ck_Qi ck_shM Q) ck_shM h 0 0 13 [(0, .ref 0), (1, .int x1)] [] := by
  intro x1 h hq
  refine ck_iload_n 1 dX12_isFull_13 rfl rfl ?_
  refine ck_iconst (v := 1) dX12_isFull_14 (by decide) ?_
  refine ck_icmp_ne (tgt := 28) dX12_isFull_15 (by decide) (fun c2 => ?_) (fun c2 => ?_)
  · have hq := hq.1 c2
    exact cp_X12_isFull_28 _ _ hq
  · have hq := hq.2 c2
    refine ck_aload_n 0 dX12_isFull_18 rfl rfl ?_
    refine ck_iconst (v := 1) dX12_isFull_19 (by decide) ?_
    refine ck_callV (c_X12_fresher hq) rfl cal_X12_fresher rfl ml_X12_218 vir_X12_fresher rfl rfl (by decide) (Nat.le_of_ble_eq_true rfl) (Nat.le_of_ble_eq_true rfl) (by decide) (by decide) dX12_isFull_20 ?_
    rintro _ _ h7 ⟨r8, rfl, rfl, hq⟩
    refine ck_bipush (v := 6) dX12_isFull_23 (by decide) ?_
    refine ck_icmp_eq (tgt := 43) dX12_isFull_25 (by decide) (fun c9 => ?_) (fun c9 => ?_)
    · have hq := hq.1 c9
      refine ck_loc [] rfl ?_
      exact cp_X12_isFull_43  _ hq
    · have hq := hq.2 c9
      exact cp_X12_isFull_28 _ _ hq
set_option maxHeartbeats 4000000 in
set_option maxRecDepth 100000 in
theorem c_X12_isFull {gr : Bool} {x1 : Int32} {h : ck_H} {Q : Int32 → ck_H → Prop} (hq : wp_X12_isFull x1 h Q) : ck_M yX12_isFull cX12_isFull 2 (some .boolean) 3 0 0 gr ck_shM h [.ref 0, .int x1] (ck_Qi ck_shM Q) := by
  refine ck_entry (lv := [(0, .ref 0), (1, .int x1)]) false (own := RX12) rfl (fun q => by cases q) (by decide) (Nat.le_of_ble_eq_true rfl) rfl ?_
  refine ck_iload_n 1 dX12_isFull_0 rfl rfl ?_
  refine ck_if_ne (tgt := 13) dX12_isFull_1 (by decide) (fun c1 => ?_) (fun c1 => ?_)
  · have hq := hq.1 c1
    exact cp_X12_isFull_13 _ _ hq
  · have hq := hq.2 c1
    refine ck_aload_n 0 dX12_isFull_4 rfl rfl ?_
    refine ck_iconst (v := 0) dX12_isFull_5 (by decide) ?_
    refine ck_callV (c_X12_fresher hq) rfl cal_X12_fresher rfl ml_X12_218 vir_X12_fresher rfl rfl (by decide) (Nat.le_of_ble_eq_true rfl) (Nat.le_of_ble_eq_true rfl) (by decide) (by decide) dX12_isFull_6 ?_
    rintro _ _ h10 ⟨r11, rfl, rfl, hq⟩
    refine ck_iconst (v := 4) dX12_isFull_9 (by decide) ?_
    refine ck_icmp_eq (tgt := 43) dX12_isFull_10 (by decide) (fun c12 => ?_) (fun c12 => ?_)
    · have hq := hq.1 c12
      refine ck_loc [] rfl ?_
      exact cp_X12_isFull_43  _ hq
    · have hq := hq.2 c12
      exact cp_X12_isFull_13 _ _ hq
def wp_X12_found_3 (Q : Int32 → ck_H → Prop) (o0 : Nat) : Nat → Int32 → Int32 → Int32 → Int32 → ck_H → Prop
  | 0 => fun _ _ _ _ _ => False
  | n + 1 => fun x1 x2 x3 x4 h => ((x2 ≤ x4 → Q (-1 : Int32) h) ∧ (¬ x2 ≤ x4 → (vp_in (x1 + x4) (ck_ln ck_shM o0) ∧ ((¬ (h.1 o0 (x1 + x4).toNatClampNeg) = x3 → (∀ v4, v4 = x4 + 1 → (wp_X12_found_3 Q o0 n) x1 x2 x3 v4 h)) ∧ ((h.1 o0 (x1 + x4).toNatClampNeg) = x3 → Q x4 h)))))
def wp_X12_found (o0 : Nat) (x1 : Int32) (x2 : Int32) (x3 : Int32) (h : ck_H) (Q : Int32 → ck_H → Prop) : Prop := wp_X12_found_3 Q o0 lpN x1 x2 x3 (0 : Int32) h
set_option maxHeartbeats 4000000 in
set_option maxRecDepth 100000 in
theorem cp_X12_found_3 {gr : Bool} {Q : Int32 → ck_H → Prop} {o0 : Nat} (hc : (o0 = 10) ∨ (o0 = 3) ∨ (o0 = 6)) : ∀ (n : Nat) (x1 : Int32) (x2 : Int32) (x3 : Int32) (x4 : Int32) (h : ck_H), wp_X12_found_3 Q o0 n x1 x2 x3 x4 h → ck_W cX12_found 5 RX12 (some .int) 2 0 0 false gr (ck_Qi ck_shM Q) ck_shM h 0 0 3 [(0, .ref o0), (1, .int x1), (2, .int x2), (3, .int x3), (4, .int x4)] [] := by
  rcases hc with rfl | rfl | rfl
  · intro n
    induction n with
    | zero => intro x1 x2 x3 x4 h hq; exact hq.elim
    | succ n hKc =>
      intro x1 x2 x3 x4 h hq
      refine ck_iload 4 dX12_found_3 rfl ?_
      refine ck_iload_n 2 dX12_found_5 rfl rfl ?_
      refine ck_icmp_ge (tgt := 28) dX12_found_6 (by decide) (fun c5 => ?_) (fun c5 => ?_)
      · have hq := hq.1 c5
        refine ck_iconst (v := -1) dX12_found_28 (by decide) ?_
        exact ck_iret rfl rfl rfl rfl dX12_found_29 ⟨_, rfl, rfl, hq⟩
      · have hq := hq.2 c5
        refine ck_aload_n 0 dX12_found_9 rfl rfl ?_
        refine ck_iload_n 1 dX12_found_10 rfl rfl ?_
        refine ck_iload 4 dX12_found_11 rfl ?_
        refine ck_iadd dX12_found_13 ?_
        obtain ⟨b6, hq⟩ := hq
        refine ck_iald rfl rfl b6 dX12_found_14 ?_
        refine ck_iload_n 3 dX12_found_15 rfl rfl ?_
        refine ck_icmp_ne (tgt := 22) dX12_found_16 (by decide) (fun c7 => ?_) (fun c7 => ?_)
        · have hq := hq.1 c7
          obtain ⟨v8, ev8⟩ : ∃ z : Int32, z = x4 + 1 := ⟨_, rfl⟩
          have hq := hq v8 ev8
          refine ck_iinc (v := v8) (lv' := [(4, .int v8), (0, .ref 10), (1, .int x1), (2, .int x2), (3, .int x3)]) 4 dX12_found_22 rfl (by rw [ev8]; rfl) (by decide) rfl ?_
          refine ck_goto (tgt := 3) dX12_found_25 (by decide) ?_
          refine ck_loc [1, 2, 3, 4, 0] rfl ?_
          exact hKc _ _ _ _ _ hq
        · have hq := hq.2 c7
          refine ck_iload 4 dX12_found_19 rfl ?_
          exact ck_iret rfl rfl rfl rfl dX12_found_21 ⟨_, rfl, rfl, hq⟩
  · intro n
    induction n with
    | zero => intro x1 x2 x3 x4 h hq; exact hq.elim
    | succ n hKc =>
      intro x1 x2 x3 x4 h hq
      refine ck_iload 4 dX12_found_3 rfl ?_
      refine ck_iload_n 2 dX12_found_5 rfl rfl ?_
      refine ck_icmp_ge (tgt := 28) dX12_found_6 (by decide) (fun c9 => ?_) (fun c9 => ?_)
      · have hq := hq.1 c9
        refine ck_iconst (v := -1) dX12_found_28 (by decide) ?_
        exact ck_iret rfl rfl rfl rfl dX12_found_29 ⟨_, rfl, rfl, hq⟩
      · have hq := hq.2 c9
        refine ck_aload_n 0 dX12_found_9 rfl rfl ?_
        refine ck_iload_n 1 dX12_found_10 rfl rfl ?_
        refine ck_iload 4 dX12_found_11 rfl ?_
        refine ck_iadd dX12_found_13 ?_
        obtain ⟨b10, hq⟩ := hq
        refine ck_iald rfl rfl b10 dX12_found_14 ?_
        refine ck_iload_n 3 dX12_found_15 rfl rfl ?_
        refine ck_icmp_ne (tgt := 22) dX12_found_16 (by decide) (fun c11 => ?_) (fun c11 => ?_)
        · have hq := hq.1 c11
          obtain ⟨v12, ev12⟩ : ∃ z : Int32, z = x4 + 1 := ⟨_, rfl⟩
          have hq := hq v12 ev12
          refine ck_iinc (v := v12) (lv' := [(4, .int v12), (0, .ref 3), (1, .int x1), (2, .int x2), (3, .int x3)]) 4 dX12_found_22 rfl (by rw [ev12]; rfl) (by decide) rfl ?_
          refine ck_goto (tgt := 3) dX12_found_25 (by decide) ?_
          refine ck_loc [1, 2, 3, 4, 0] rfl ?_
          exact hKc _ _ _ _ _ hq
        · have hq := hq.2 c11
          refine ck_iload 4 dX12_found_19 rfl ?_
          exact ck_iret rfl rfl rfl rfl dX12_found_21 ⟨_, rfl, rfl, hq⟩
  · intro n
    induction n with
    | zero => intro x1 x2 x3 x4 h hq; exact hq.elim
    | succ n hKc =>
      intro x1 x2 x3 x4 h hq
      refine ck_iload 4 dX12_found_3 rfl ?_
      refine ck_iload_n 2 dX12_found_5 rfl rfl ?_
      refine ck_icmp_ge (tgt := 28) dX12_found_6 (by decide) (fun c13 => ?_) (fun c13 => ?_)
      · have hq := hq.1 c13
        refine ck_iconst (v := -1) dX12_found_28 (by decide) ?_
        exact ck_iret rfl rfl rfl rfl dX12_found_29 ⟨_, rfl, rfl, hq⟩
      · have hq := hq.2 c13
        refine ck_aload_n 0 dX12_found_9 rfl rfl ?_
        refine ck_iload_n 1 dX12_found_10 rfl rfl ?_
        refine ck_iload 4 dX12_found_11 rfl ?_
        refine ck_iadd dX12_found_13 ?_
        obtain ⟨b14, hq⟩ := hq
        refine ck_iald rfl rfl b14 dX12_found_14 ?_
        refine ck_iload_n 3 dX12_found_15 rfl rfl ?_
        refine ck_icmp_ne (tgt := 22) dX12_found_16 (by decide) (fun c15 => ?_) (fun c15 => ?_)
        · have hq := hq.1 c15
          obtain ⟨v16, ev16⟩ : ∃ z : Int32, z = x4 + 1 := ⟨_, rfl⟩
          have hq := hq v16 ev16
          refine ck_iinc (v := v16) (lv' := [(4, .int v16), (0, .ref 6), (1, .int x1), (2, .int x2), (3, .int x3)]) 4 dX12_found_22 rfl (by rw [ev16]; rfl) (by decide) rfl ?_
          refine ck_goto (tgt := 3) dX12_found_25 (by decide) ?_
          refine ck_loc [1, 2, 3, 4, 0] rfl ?_
          exact hKc _ _ _ _ _ hq
        · have hq := hq.2 c15
          refine ck_iload 4 dX12_found_19 rfl ?_
          exact ck_iret rfl rfl rfl rfl dX12_found_21 ⟨_, rfl, rfl, hq⟩
set_option maxHeartbeats 4000000 in
set_option maxRecDepth 100000 in
theorem c_X12_found {gr : Bool} {x1 : Int32} {x2 : Int32} {x3 : Int32} {h : ck_H} {Q : Int32 → ck_H → Prop} {o0 : Nat} (hc : (o0 = 10) ∨ (o0 = 3) ∨ (o0 = 6)) (hq : wp_X12_found o0 x1 x2 x3 h Q) : ck_M yX12_found cX12_found 5 (some .int) 2 0 0 gr ck_shM h [.ref o0, .int x1, .int x2, .int x3] (ck_Qi ck_shM Q) := by
  rcases hc with rfl | rfl | rfl
  · refine ck_entry (lv := [(0, .ref 10), (1, .int x1), (2, .int x2), (3, .int x3)]) false (own := RX12) rfl (fun q => by cases q) (by decide) (Nat.le_of_ble_eq_true rfl) rfl ?_
    refine ck_iconst (v := 0) dX12_found_0 (by decide) ?_
    refine ck_istore (lv' := [(4, .int (0 : Int32)), (0, .ref 10), (1, .int x1), (2, .int x2), (3, .int x3)]) dX12_found_1 (by decide) rfl ?_
    refine ck_loc [1, 2, 3, 4, 0] rfl ?_
    refine cp_X12_found_3 (by simp) lpN _ _ _ _ _ hq
  · refine ck_entry (lv := [(0, .ref 3), (1, .int x1), (2, .int x2), (3, .int x3)]) false (own := RX12) rfl (fun q => by cases q) (by decide) (Nat.le_of_ble_eq_true rfl) rfl ?_
    refine ck_iconst (v := 0) dX12_found_0 (by decide) ?_
    refine ck_istore (lv' := [(4, .int (0 : Int32)), (0, .ref 3), (1, .int x1), (2, .int x2), (3, .int x3)]) dX12_found_1 (by decide) rfl ?_
    refine ck_loc [1, 2, 3, 4, 0] rfl ?_
    refine cp_X12_found_3 (by simp) lpN _ _ _ _ _ hq
  · refine ck_entry (lv := [(0, .ref 6), (1, .int x1), (2, .int x2), (3, .int x3)]) false (own := RX12) rfl (fun q => by cases q) (by decide) (Nat.le_of_ble_eq_true rfl) rfl ?_
    refine ck_iconst (v := 0) dX12_found_0 (by decide) ?_
    refine ck_istore (lv' := [(4, .int (0 : Int32)), (0, .ref 6), (1, .int x1), (2, .int x2), (3, .int x3)]) dX12_found_1 (by decide) rfl ?_
    refine ck_loc [1, 2, 3, 4, 0] rfl ?_
    refine cp_X12_found_3 (by simp) lpN _ _ _ _ _ hq
def wp_X12_fresh_44 (Q : Int32 → ck_H → Prop) (o1 : Nat) (h : ck_H) : Prop := (((h.1 0 26) = 0 → (∀ v7, v7 = (h.1 0 25) → (wp_X12_token h (fun h8 => Q v7 h8)))) ∧ (¬ (h.1 0 26) = 0 → Q (0 : Int32) h))
def wp_X12_fresh (o1 : Nat) (x2 : Int32) (x3 : Int32) (h : ck_H) (Q : Int32 → ck_H → Prop) : Prop := (((h.1 0 26) = 0 → (((h.1 0 24) = (1 : Int32) → (wp_X12_found o1 x2 x3 (h.1 0 25) h (fun r4 h3 => ((r4 = (-1 : Int32) → wp_X12_fresh_44 Q o1 h3) ∧ (¬ r4 = (-1 : Int32) → (wp_X12_wrong (3 : Int32) h3 (fun h18 => wp_X12_fresh_44 Q o1 h18))))))) ∧ (¬ (h.1 0 24) = (1 : Int32) → (wp_X12_wrong (1 : Int32) h (fun h19 => wp_X12_fresh_44 Q o1 h19))))) ∧ (¬ (h.1 0 26) = 0 → Q (0 : Int32) h))
set_option maxHeartbeats 4000000 in
set_option maxRecDepth 100000 in
theorem cp_X12_fresh_44 {gr : Bool} {Q : Int32 → ck_H → Prop} {o1 : Nat} (hc : (o1 = 10) ∨ (o1 = 6) ∨ (o1 = 3)) : ∀ (h : ck_H), wp_X12_fresh_44 Q o1 h → ck_W cX12_fresh 5 RX12 (some .int) 9 0 0 false gr (ck_Qi ck_shM Q) ck_shM h 0 0 44 [(0, .ref 0)] [] := by
  rcases hc with rfl | rfl | rfl
  · intro h hq
    refine ck_aload_n 0 dX12_fresh_44 rfl rfl ?_
    refine ck_getI clX12 26 rfl rfl (by decide) fl_X12_199 dX12_fresh_45 ?_
    refine ck_if_eq (tgt := 53) dX12_fresh_48 (by decide) (fun c9 => ?_) (fun c9 => ?_)
    · have hq := hq.1 c9
      refine ck_aload_n 0 dX12_fresh_53 rfl rfl ?_
      refine ck_getI clX12 25 rfl rfl (by decide) fl_X12_174 dX12_fresh_54 ?_
      refine ck_nmI (fun v10 ev10 => ?_)
      have hq := hq v10 ev10
      refine ck_istore (lv' := [(4, .int v10), (0, .ref 0)]) dX12_fresh_57 (by decide) rfl ?_
      refine ck_aload_n 1 dX12_fresh_59 rfl rfl ?_
      refine ck_callV (c_X12_token hq) rfl cal_X12_token rfl ml_X12_205 vir_X12_token rfl rfl (by decide) (Nat.le_of_ble_eq_true rfl) (Nat.le_of_ble_eq_true rfl) (by decide) (by decide) dX12_fresh_60 ?_
      rintro _ _ h11 ⟨rfl, rfl, hq⟩
      refine ck_iload 0 dX12_fresh_63 rfl ?_
      exact ck_iret rfl rfl rfl rfl dX12_fresh_65 ⟨_, rfl, rfl, hq⟩
    · have hq := hq.2 c9
      refine ck_iconst (v := 0) dX12_fresh_51 (by decide) ?_
      exact ck_iret rfl rfl rfl rfl dX12_fresh_52 ⟨_, rfl, rfl, hq⟩
  · intro h hq
    refine ck_aload_n 0 dX12_fresh_44 rfl rfl ?_
    refine ck_getI clX12 26 rfl rfl (by decide) fl_X12_199 dX12_fresh_45 ?_
    refine ck_if_eq (tgt := 53) dX12_fresh_48 (by decide) (fun c12 => ?_) (fun c12 => ?_)
    · have hq := hq.1 c12
      refine ck_aload_n 0 dX12_fresh_53 rfl rfl ?_
      refine ck_getI clX12 25 rfl rfl (by decide) fl_X12_174 dX12_fresh_54 ?_
      refine ck_nmI (fun v13 ev13 => ?_)
      have hq := hq v13 ev13
      refine ck_istore (lv' := [(4, .int v13), (0, .ref 0)]) dX12_fresh_57 (by decide) rfl ?_
      refine ck_aload_n 1 dX12_fresh_59 rfl rfl ?_
      refine ck_callV (c_X12_token hq) rfl cal_X12_token rfl ml_X12_205 vir_X12_token rfl rfl (by decide) (Nat.le_of_ble_eq_true rfl) (Nat.le_of_ble_eq_true rfl) (by decide) (by decide) dX12_fresh_60 ?_
      rintro _ _ h14 ⟨rfl, rfl, hq⟩
      refine ck_iload 0 dX12_fresh_63 rfl ?_
      exact ck_iret rfl rfl rfl rfl dX12_fresh_65 ⟨_, rfl, rfl, hq⟩
    · have hq := hq.2 c12
      refine ck_iconst (v := 0) dX12_fresh_51 (by decide) ?_
      exact ck_iret rfl rfl rfl rfl dX12_fresh_52 ⟨_, rfl, rfl, hq⟩
  · intro h hq
    refine ck_aload_n 0 dX12_fresh_44 rfl rfl ?_
    refine ck_getI clX12 26 rfl rfl (by decide) fl_X12_199 dX12_fresh_45 ?_
    refine ck_if_eq (tgt := 53) dX12_fresh_48 (by decide) (fun c15 => ?_) (fun c15 => ?_)
    · have hq := hq.1 c15
      refine ck_aload_n 0 dX12_fresh_53 rfl rfl ?_
      refine ck_getI clX12 25 rfl rfl (by decide) fl_X12_174 dX12_fresh_54 ?_
      refine ck_nmI (fun v16 ev16 => ?_)
      have hq := hq v16 ev16
      refine ck_istore (lv' := [(4, .int v16), (0, .ref 0)]) dX12_fresh_57 (by decide) rfl ?_
      refine ck_aload_n 1 dX12_fresh_59 rfl rfl ?_
      refine ck_callV (c_X12_token hq) rfl cal_X12_token rfl ml_X12_205 vir_X12_token rfl rfl (by decide) (Nat.le_of_ble_eq_true rfl) (Nat.le_of_ble_eq_true rfl) (by decide) (by decide) dX12_fresh_60 ?_
      rintro _ _ h17 ⟨rfl, rfl, hq⟩
      refine ck_iload 0 dX12_fresh_63 rfl ?_
      exact ck_iret rfl rfl rfl rfl dX12_fresh_65 ⟨_, rfl, rfl, hq⟩
    · have hq := hq.2 c15
      refine ck_iconst (v := 0) dX12_fresh_51 (by decide) ?_
      exact ck_iret rfl rfl rfl rfl dX12_fresh_52 ⟨_, rfl, rfl, hq⟩
set_option maxHeartbeats 4000000 in
set_option maxRecDepth 100000 in
theorem c_X12_fresh {gr : Bool} {x2 : Int32} {x3 : Int32} {h : ck_H} {Q : Int32 → ck_H → Prop} {o1 : Nat} (hc : (o1 = 10) ∨ (o1 = 6) ∨ (o1 = 3)) (hq : wp_X12_fresh o1 x2 x3 h Q) : ck_M yX12_fresh cX12_fresh 5 (some .int) 9 0 0 gr ck_shM h [.ref 0, .ref o1, .int x2, .int x3] (ck_Qi ck_shM Q) := by
  rcases hc with rfl | rfl | rfl
  · refine ck_entry (lv := [(0, .ref 0), (1, .ref 10), (2, .int x2), (3, .int x3)]) false (own := RX12) rfl (fun q => by cases q) (by decide) (Nat.le_of_ble_eq_true rfl) rfl ?_
    refine ck_aload_n 0 dX12_fresh_0 rfl rfl ?_
    refine ck_getI clX12 26 rfl rfl (by decide) fl_X12_199 dX12_fresh_1 ?_
    refine ck_if_eq (tgt := 9) dX12_fresh_4 (by decide) (fun c20 => ?_) (fun c20 => ?_)
    · have hq := hq.1 c20
      refine ck_aload_n 0 dX12_fresh_9 rfl rfl ?_
      refine ck_getI clX12 24 rfl rfl (by decide) fl_X12_164 dX12_fresh_10 ?_
      refine ck_iconst (v := 1) dX12_fresh_13 (by decide) ?_
      refine ck_icmp_eq (tgt := 25) dX12_fresh_14 (by decide) (fun c21 => ?_) (fun c21 => ?_)
      · have hq := hq.1 c21
        refine ck_aload_n 1 dX12_fresh_25 rfl rfl ?_
        refine ck_iload_n 2 dX12_fresh_26 rfl rfl ?_
        refine ck_iload_n 3 dX12_fresh_27 rfl rfl ?_
        refine ck_aload_n 0 dX12_fresh_28 rfl rfl ?_
        refine ck_getI clX12 25 rfl rfl (by decide) fl_X12_174 dX12_fresh_29 ?_
        refine ck_callS (c_X12_found (by simp) hq) rfl cal_X12_found rfl ml_X12_211 sta_X12_found (by decide) (Nat.le_of_ble_eq_true rfl) (Nat.le_of_ble_eq_true rfl) (by decide) (by decide) dX12_fresh_32 ?_
        rintro _ _ h22 ⟨r23, rfl, rfl, hq⟩
        refine ck_iconst (v := -1) dX12_fresh_35 (by decide) ?_
        refine ck_icmp_eq (tgt := 44) dX12_fresh_36 (by decide) (fun c24 => ?_) (fun c24 => ?_)
        · have hq := hq.1 c24
          refine ck_loc [0] rfl ?_
          exact cp_X12_fresh_44 (by simp)  _ hq
        · have hq := hq.2 c24
          refine ck_aload_n 0 dX12_fresh_39 rfl rfl ?_
          refine ck_iconst (v := 3) dX12_fresh_40 (by decide) ?_
          refine ck_callV (c_X12_wrong hq) rfl cal_X12_wrong rfl ml_X12_208 vir_X12_wrong rfl rfl (by decide) (Nat.le_of_ble_eq_true rfl) (Nat.le_of_ble_eq_true rfl) (by decide) (by decide) dX12_fresh_41 ?_
          rintro _ _ h25 ⟨rfl, rfl, hq⟩
          refine ck_loc [0] rfl ?_
          exact cp_X12_fresh_44 (by simp)  _ hq
      · have hq := hq.2 c21
        refine ck_aload_n 0 dX12_fresh_17 rfl rfl ?_
        refine ck_iconst (v := 1) dX12_fresh_18 (by decide) ?_
        refine ck_callV (c_X12_wrong hq) rfl cal_X12_wrong rfl ml_X12_208 vir_X12_wrong rfl rfl (by decide) (Nat.le_of_ble_eq_true rfl) (Nat.le_of_ble_eq_true rfl) (by decide) (by decide) dX12_fresh_19 ?_
        rintro _ _ h26 ⟨rfl, rfl, hq⟩
        refine ck_goto (tgt := 44) dX12_fresh_22 (by decide) ?_
        refine ck_loc [0] rfl ?_
        exact cp_X12_fresh_44 (by simp)  _ hq
    · have hq := hq.2 c20
      refine ck_iconst (v := 0) dX12_fresh_7 (by decide) ?_
      exact ck_iret rfl rfl rfl rfl dX12_fresh_8 ⟨_, rfl, rfl, hq⟩
  · refine ck_entry (lv := [(0, .ref 0), (1, .ref 6), (2, .int x2), (3, .int x3)]) false (own := RX12) rfl (fun q => by cases q) (by decide) (Nat.le_of_ble_eq_true rfl) rfl ?_
    refine ck_aload_n 0 dX12_fresh_0 rfl rfl ?_
    refine ck_getI clX12 26 rfl rfl (by decide) fl_X12_199 dX12_fresh_1 ?_
    refine ck_if_eq (tgt := 9) dX12_fresh_4 (by decide) (fun c27 => ?_) (fun c27 => ?_)
    · have hq := hq.1 c27
      refine ck_aload_n 0 dX12_fresh_9 rfl rfl ?_
      refine ck_getI clX12 24 rfl rfl (by decide) fl_X12_164 dX12_fresh_10 ?_
      refine ck_iconst (v := 1) dX12_fresh_13 (by decide) ?_
      refine ck_icmp_eq (tgt := 25) dX12_fresh_14 (by decide) (fun c28 => ?_) (fun c28 => ?_)
      · have hq := hq.1 c28
        refine ck_aload_n 1 dX12_fresh_25 rfl rfl ?_
        refine ck_iload_n 2 dX12_fresh_26 rfl rfl ?_
        refine ck_iload_n 3 dX12_fresh_27 rfl rfl ?_
        refine ck_aload_n 0 dX12_fresh_28 rfl rfl ?_
        refine ck_getI clX12 25 rfl rfl (by decide) fl_X12_174 dX12_fresh_29 ?_
        refine ck_callS (c_X12_found (by simp) hq) rfl cal_X12_found rfl ml_X12_211 sta_X12_found (by decide) (Nat.le_of_ble_eq_true rfl) (Nat.le_of_ble_eq_true rfl) (by decide) (by decide) dX12_fresh_32 ?_
        rintro _ _ h29 ⟨r30, rfl, rfl, hq⟩
        refine ck_iconst (v := -1) dX12_fresh_35 (by decide) ?_
        refine ck_icmp_eq (tgt := 44) dX12_fresh_36 (by decide) (fun c31 => ?_) (fun c31 => ?_)
        · have hq := hq.1 c31
          refine ck_loc [0] rfl ?_
          exact cp_X12_fresh_44 (by simp)  _ hq
        · have hq := hq.2 c31
          refine ck_aload_n 0 dX12_fresh_39 rfl rfl ?_
          refine ck_iconst (v := 3) dX12_fresh_40 (by decide) ?_
          refine ck_callV (c_X12_wrong hq) rfl cal_X12_wrong rfl ml_X12_208 vir_X12_wrong rfl rfl (by decide) (Nat.le_of_ble_eq_true rfl) (Nat.le_of_ble_eq_true rfl) (by decide) (by decide) dX12_fresh_41 ?_
          rintro _ _ h32 ⟨rfl, rfl, hq⟩
          refine ck_loc [0] rfl ?_
          exact cp_X12_fresh_44 (by simp)  _ hq
      · have hq := hq.2 c28
        refine ck_aload_n 0 dX12_fresh_17 rfl rfl ?_
        refine ck_iconst (v := 1) dX12_fresh_18 (by decide) ?_
        refine ck_callV (c_X12_wrong hq) rfl cal_X12_wrong rfl ml_X12_208 vir_X12_wrong rfl rfl (by decide) (Nat.le_of_ble_eq_true rfl) (Nat.le_of_ble_eq_true rfl) (by decide) (by decide) dX12_fresh_19 ?_
        rintro _ _ h33 ⟨rfl, rfl, hq⟩
        refine ck_goto (tgt := 44) dX12_fresh_22 (by decide) ?_
        refine ck_loc [0] rfl ?_
        exact cp_X12_fresh_44 (by simp)  _ hq
    · have hq := hq.2 c27
      refine ck_iconst (v := 0) dX12_fresh_7 (by decide) ?_
      exact ck_iret rfl rfl rfl rfl dX12_fresh_8 ⟨_, rfl, rfl, hq⟩
  · refine ck_entry (lv := [(0, .ref 0), (1, .ref 3), (2, .int x2), (3, .int x3)]) false (own := RX12) rfl (fun q => by cases q) (by decide) (Nat.le_of_ble_eq_true rfl) rfl ?_
    refine ck_aload_n 0 dX12_fresh_0 rfl rfl ?_
    refine ck_getI clX12 26 rfl rfl (by decide) fl_X12_199 dX12_fresh_1 ?_
    refine ck_if_eq (tgt := 9) dX12_fresh_4 (by decide) (fun c34 => ?_) (fun c34 => ?_)
    · have hq := hq.1 c34
      refine ck_aload_n 0 dX12_fresh_9 rfl rfl ?_
      refine ck_getI clX12 24 rfl rfl (by decide) fl_X12_164 dX12_fresh_10 ?_
      refine ck_iconst (v := 1) dX12_fresh_13 (by decide) ?_
      refine ck_icmp_eq (tgt := 25) dX12_fresh_14 (by decide) (fun c35 => ?_) (fun c35 => ?_)
      · have hq := hq.1 c35
        refine ck_aload_n 1 dX12_fresh_25 rfl rfl ?_
        refine ck_iload_n 2 dX12_fresh_26 rfl rfl ?_
        refine ck_iload_n 3 dX12_fresh_27 rfl rfl ?_
        refine ck_aload_n 0 dX12_fresh_28 rfl rfl ?_
        refine ck_getI clX12 25 rfl rfl (by decide) fl_X12_174 dX12_fresh_29 ?_
        refine ck_callS (c_X12_found (by simp) hq) rfl cal_X12_found rfl ml_X12_211 sta_X12_found (by decide) (Nat.le_of_ble_eq_true rfl) (Nat.le_of_ble_eq_true rfl) (by decide) (by decide) dX12_fresh_32 ?_
        rintro _ _ h36 ⟨r37, rfl, rfl, hq⟩
        refine ck_iconst (v := -1) dX12_fresh_35 (by decide) ?_
        refine ck_icmp_eq (tgt := 44) dX12_fresh_36 (by decide) (fun c38 => ?_) (fun c38 => ?_)
        · have hq := hq.1 c38
          refine ck_loc [0] rfl ?_
          exact cp_X12_fresh_44 (by simp)  _ hq
        · have hq := hq.2 c38
          refine ck_aload_n 0 dX12_fresh_39 rfl rfl ?_
          refine ck_iconst (v := 3) dX12_fresh_40 (by decide) ?_
          refine ck_callV (c_X12_wrong hq) rfl cal_X12_wrong rfl ml_X12_208 vir_X12_wrong rfl rfl (by decide) (Nat.le_of_ble_eq_true rfl) (Nat.le_of_ble_eq_true rfl) (by decide) (by decide) dX12_fresh_41 ?_
          rintro _ _ h39 ⟨rfl, rfl, hq⟩
          refine ck_loc [0] rfl ?_
          exact cp_X12_fresh_44 (by simp)  _ hq
      · have hq := hq.2 c35
        refine ck_aload_n 0 dX12_fresh_17 rfl rfl ?_
        refine ck_iconst (v := 1) dX12_fresh_18 (by decide) ?_
        refine ck_callV (c_X12_wrong hq) rfl cal_X12_wrong rfl ml_X12_208 vir_X12_wrong rfl rfl (by decide) (Nat.le_of_ble_eq_true rfl) (Nat.le_of_ble_eq_true rfl) (by decide) (by decide) dX12_fresh_19 ?_
        rintro _ _ h40 ⟨rfl, rfl, hq⟩
        refine ck_goto (tgt := 44) dX12_fresh_22 (by decide) ?_
        refine ck_loc [0] rfl ?_
        exact cp_X12_fresh_44 (by simp)  _ hq
    · have hq := hq.2 c34
      refine ck_iconst (v := 0) dX12_fresh_7 (by decide) ?_
      exact ck_iret rfl rfl rfl rfl dX12_fresh_8 ⟨_, rfl, rfl, hq⟩
def wp_X12_numeral_46 (Q : Int32 → ck_H → Prop) (x1 : Int32) (h : ck_H) : Prop := (((h.1 0 26) = 0 → (∀ v6, v6 = (h.1 0 25) → (wp_X12_token h (fun h7 => Q v6 h7)))) ∧ (¬ (h.1 0 26) = 0 → Q x1 h))
def wp_X12_numeral_41 (Q : Int32 → ck_H → Prop) (x1 : Int32) (h : ck_H) : Prop := (wp_X12_wrong (2 : Int32) h (fun h4 => wp_X12_numeral_46 Q x1 h4))
def wp_X12_numeral (x1 : Int32) (x2 : Int32) (h : ck_H) (Q : Int32 → ck_H → Prop) : Prop := (((h.1 0 26) = 0 → (((h.1 0 24) = (2 : Int32) → (((h.1 0 25) < x1 → wp_X12_numeral_41 Q x1 h) ∧ (¬ (h.1 0 25) < x1 → (((h.1 0 25) ≤ x2 → wp_X12_numeral_46 Q x1 h) ∧ (¬ (h.1 0 25) ≤ x2 → wp_X12_numeral_41 Q x1 h))))) ∧ (¬ (h.1 0 24) = (2 : Int32) → (wp_X12_wrong (1 : Int32) h (fun h9 => wp_X12_numeral_46 Q x1 h9))))) ∧ (¬ (h.1 0 26) = 0 → Q x1 h))
set_option maxHeartbeats 4000000 in
set_option maxRecDepth 100000 in
theorem cp_X12_numeral_46 {gr : Bool} {Q : Int32 → ck_H → Prop} : ∀ (x1 : Int32) (h : ck_H), wp_X12_numeral_46 Q x1 h → ck_W cX12_numeral 4 RX12 (some .int) 9 0 0 false gr (ck_Qi ck_shM Q) ck_shM h 0 0 46 [(0, .ref 0), (1, .int x1)] [] := by
  intro x1 h hq
  refine ck_aload_n 0 dX12_numeral_46 rfl rfl ?_
  refine ck_getI clX12 26 rfl rfl (by decide) fl_X12_199 dX12_numeral_47 ?_
  refine ck_if_eq (tgt := 55) dX12_numeral_50 (by decide) (fun c5 => ?_) (fun c5 => ?_)
  · have hq := hq.1 c5
    refine ck_aload_n 0 dX12_numeral_55 rfl rfl ?_
    refine ck_getI clX12 25 rfl rfl (by decide) fl_X12_174 dX12_numeral_56 ?_
    refine ck_nmI (fun v6 ev6 => ?_)
    have hq := hq v6 ev6
    refine ck_istore_n (lv' := [(3, .int v6), (0, .ref 0), (1, .int x1)]) dX12_numeral_59 rfl (by decide) rfl ?_
    refine ck_aload_n 1 dX12_numeral_60 rfl rfl ?_
    refine ck_callV (c_X12_token hq) rfl cal_X12_token rfl ml_X12_205 vir_X12_token rfl rfl (by decide) (Nat.le_of_ble_eq_true rfl) (Nat.le_of_ble_eq_true rfl) (by decide) (by decide) dX12_numeral_61 ?_
    rintro _ _ h7 ⟨rfl, rfl, hq⟩
    refine ck_iload_n 0 dX12_numeral_64 rfl rfl ?_
    exact ck_iret rfl rfl rfl rfl dX12_numeral_65 ⟨_, rfl, rfl, hq⟩
  · have hq := hq.2 c5
    refine ck_iload_n 1 dX12_numeral_53 rfl rfl ?_
    exact ck_iret rfl rfl rfl rfl dX12_numeral_54 ⟨_, rfl, rfl, hq⟩
set_option maxHeartbeats 4000000 in
set_option maxRecDepth 100000 in
theorem cp_X12_numeral_41 {gr : Bool} {Q : Int32 → ck_H → Prop} : ∀ (x1 : Int32) (h : ck_H), wp_X12_numeral_41 Q x1 h → ck_W cX12_numeral 4 RX12 (some .int) 9 0 0 false gr (ck_Qi ck_shM Q) ck_shM h 0 0 41 [(0, .ref 0), (1, .int x1)] [] := by
  intro x1 h hq
  refine ck_aload_n 0 dX12_numeral_41 rfl rfl ?_
  refine ck_iconst (v := 2) dX12_numeral_42 (by decide) ?_
  refine ck_callV (c_X12_wrong hq) rfl cal_X12_wrong rfl ml_X12_208 vir_X12_wrong rfl rfl (by decide) (Nat.le_of_ble_eq_true rfl) (Nat.le_of_ble_eq_true rfl) (by decide) (by decide) dX12_numeral_43 ?_
  rintro _ _ h4 ⟨rfl, rfl, hq⟩
  exact cp_X12_numeral_46 _ _ hq
set_option maxHeartbeats 4000000 in
set_option maxRecDepth 100000 in
theorem c_X12_numeral {gr : Bool} {x1 : Int32} {x2 : Int32} {h : ck_H} {Q : Int32 → ck_H → Prop} (hq : wp_X12_numeral x1 x2 h Q) : ck_M yX12_numeral cX12_numeral 4 (some .int) 9 0 0 gr ck_shM h [.ref 0, .int x1, .int x2] (ck_Qi ck_shM Q) := by
  refine ck_entry (lv := [(0, .ref 0), (1, .int x1), (2, .int x2)]) false (own := RX12) rfl (fun q => by cases q) (by decide) (Nat.le_of_ble_eq_true rfl) rfl ?_
  refine ck_aload_n 0 dX12_numeral_0 rfl rfl ?_
  refine ck_getI clX12 26 rfl rfl (by decide) fl_X12_199 dX12_numeral_1 ?_
  refine ck_if_eq (tgt := 9) dX12_numeral_4 (by decide) (fun c1 => ?_) (fun c1 => ?_)
  · have hq := hq.1 c1
    refine ck_aload_n 0 dX12_numeral_9 rfl rfl ?_
    refine ck_getI clX12 24 rfl rfl (by decide) fl_X12_164 dX12_numeral_10 ?_
    refine ck_iconst (v := 2) dX12_numeral_13 (by decide) ?_
    refine ck_icmp_eq (tgt := 25) dX12_numeral_14 (by decide) (fun c2 => ?_) (fun c2 => ?_)
    · have hq := hq.1 c2
      refine ck_aload_n 0 dX12_numeral_25 rfl rfl ?_
      refine ck_getI clX12 25 rfl rfl (by decide) fl_X12_174 dX12_numeral_26 ?_
      refine ck_iload_n 1 dX12_numeral_29 rfl rfl ?_
      refine ck_icmp_lt (tgt := 41) dX12_numeral_30 (by decide) (fun c3 => ?_) (fun c3 => ?_)
      · have hq := hq.1 c3
        refine ck_loc [0, 1] rfl ?_
        exact cp_X12_numeral_41 _ _ hq
      · have hq := hq.2 c3
        refine ck_aload_n 0 dX12_numeral_33 rfl rfl ?_
        refine ck_getI clX12 25 rfl rfl (by decide) fl_X12_174 dX12_numeral_34 ?_
        refine ck_iload_n 2 dX12_numeral_37 rfl rfl ?_
        refine ck_icmp_le (tgt := 46) dX12_numeral_38 (by decide) (fun c8 => ?_) (fun c8 => ?_)
        · have hq := hq.1 c8
          refine ck_loc [0, 1] rfl ?_
          exact cp_X12_numeral_46 _ _ hq
        · have hq := hq.2 c8
          refine ck_loc [0, 1] rfl ?_
          exact cp_X12_numeral_41 _ _ hq
    · have hq := hq.2 c2
      refine ck_aload_n 0 dX12_numeral_17 rfl rfl ?_
      refine ck_iconst (v := 1) dX12_numeral_18 (by decide) ?_
      refine ck_callV (c_X12_wrong hq) rfl cal_X12_wrong rfl ml_X12_208 vir_X12_wrong rfl rfl (by decide) (Nat.le_of_ble_eq_true rfl) (Nat.le_of_ble_eq_true rfl) (by decide) (by decide) dX12_numeral_19 ?_
      rintro _ _ h9 ⟨rfl, rfl, hq⟩
      refine ck_goto (tgt := 46) dX12_numeral_22 (by decide) ?_
      refine ck_loc [0, 1] rfl ?_
      exact cp_X12_numeral_46 _ _ hq
  · have hq := hq.2 c1
    refine ck_iload_n 1 dX12_numeral_7 rfl rfl ?_
    exact ck_iret rfl rfl rfl rfl dX12_numeral_8 ⟨_, rfl, rfl, hq⟩
def wp_X12_goOn (h : ck_H) (Q : ck_H → Prop) : Prop := ((¬ (h.1 0 26) = 0 → Q h) ∧ ((h.1 0 26) = 0 → (wp_X12_token h (fun h2 => Q h2))))
set_option maxHeartbeats 4000000 in
set_option maxRecDepth 100000 in
theorem c_X12_goOn {gr : Bool} {h : ck_H} {Q : ck_H → Prop} (hq : wp_X12_goOn h Q) : ck_M yX12_goOn cX12_goOn 1 none 9 0 0 gr ck_shM h [.ref 0] (ck_Qv ck_shM Q) := by
  refine ck_entry (lv := [(0, .ref 0)]) false (own := RX12) rfl (fun q => by cases q) (by decide) (Nat.le_of_ble_eq_true rfl) rfl ?_
  refine ck_aload_n 0 dX12_goOn_0 rfl rfl ?_
  refine ck_getI clX12 26 rfl rfl (by decide) fl_X12_199 dX12_goOn_1 ?_
  refine ck_if_ne (tgt := 11) dX12_goOn_4 (by decide) (fun c1 => ?_) (fun c1 => ?_)
  · have hq := hq.1 c1
    exact ck_vret rfl rfl rfl dX12_goOn_11 ⟨rfl, rfl, hq⟩
  · have hq := hq.2 c1
    refine ck_aload_n 0 dX12_goOn_7 rfl rfl ?_
    refine ck_callV (c_X12_token hq) rfl cal_X12_token rfl ml_X12_205 vir_X12_token rfl rfl (by decide) (Nat.le_of_ble_eq_true rfl) (Nat.le_of_ble_eq_true rfl) (by decide) (by decide) dX12_goOn_8 ?_
    rintro _ _ h2 ⟨rfl, rfl, hq⟩
    exact ck_vret rfl rfl rfl dX12_goOn_11 ⟨rfl, rfl, hq⟩
def wp_X12_toldAhead_63 (Q : Int32 → ck_H → Prop) (o1 : Nat) (x4 : Int32) (h : ck_H) : Prop := (wp_X12_goOn h (fun h5 => (((h5.1 0 26) = 0 → Q x4 h5) ∧ (¬ (h5.1 0 26) = 0 → Q (0 : Int32) h5))))
def wp_X12_toldAhead_43 (Q : Int32 → ck_H → Prop) (o1 : Nat) (y0 : Int32) (h : ck_H) : Prop := ((¬ (h.1 0 26) = 0 → wp_X12_toldAhead_63 Q o1 y0 h) ∧ ((h.1 0 26) = 0 → ((¬ y0 = (-1 : Int32) → wp_X12_toldAhead_63 Q o1 y0 h) ∧ (y0 = (-1 : Int32) → (wp_X12_wrong (4 : Int32) h (fun h12 => wp_X12_toldAhead_63 Q o1 y0 h12))))))
def wp_X12_toldAhead_22 (Q : Int32 → ck_H → Prop) (o1 : Nat) (x2 : Int32) (x3 : Int32) (h : ck_H) : Prop := ((¬ (h.1 0 26) = 0 → wp_X12_toldAhead_43 Q o1 (0 : Int32) h) ∧ ((h.1 0 26) = 0 → (wp_X12_found o1 x2 x3 (h.1 0 25) h (fun r20 h19 => wp_X12_toldAhead_43 Q o1 r20 h19))))
def wp_X12_toldAhead (o1 : Nat) (x2 : Int32) (x3 : Int32) (h : ck_H) (Q : Int32 → ck_H → Prop) : Prop := (((h.1 0 26) = 0 → (((h.1 0 24) = (1 : Int32) → wp_X12_toldAhead_22 Q o1 x2 x3 h) ∧ (¬ (h.1 0 24) = (1 : Int32) → (wp_X12_wrong (1 : Int32) h (fun h27 => wp_X12_toldAhead_22 Q o1 x2 x3 h27))))) ∧ (¬ (h.1 0 26) = 0 → Q (0 : Int32) h))
set_option maxHeartbeats 4000000 in
set_option maxRecDepth 100000 in
theorem cp_X12_toldAhead_63 {gr : Bool} {Q : Int32 → ck_H → Prop} {o1 : Nat} (hc : (o1 = 3) ∨ (o1 = 6)) : ∀ (x4 : Int32) (h : ck_H), wp_X12_toldAhead_63 Q o1 x4 h → ck_W cX12_toldAhead 5 RX12 (some .int) 10 0 0 false gr (ck_Qi ck_shM Q) ck_shM h 0 0 63 [(0, .ref 0), (4, .int x4)] [] := by
  rcases hc with rfl | rfl
  · intro x4 h hq
    refine ck_aload_n 0 dX12_toldAhead_63 rfl rfl ?_
    refine ck_callV (c_X12_goOn hq) rfl cal_X12_goOn rfl ml_X12_215 vir_X12_goOn rfl rfl (by decide) (Nat.le_of_ble_eq_true rfl) (Nat.le_of_ble_eq_true rfl) (by decide) (by decide) dX12_toldAhead_64 ?_
    rintro _ _ h7 ⟨rfl, rfl, hq⟩
    refine ck_aload_n 0 dX12_toldAhead_67 rfl rfl ?_
    refine ck_getI clX12 26 rfl rfl (by decide) fl_X12_199 dX12_toldAhead_68 ?_
    refine ck_if_eq (tgt := 78) dX12_toldAhead_71 (by decide) (fun c8 => ?_) (fun c8 => ?_)
    · have hq := hq.1 c8
      refine ck_iload 1 dX12_toldAhead_78 rfl ?_
      exact ck_iret rfl rfl rfl rfl dX12_toldAhead_80 ⟨_, rfl, rfl, hq⟩
    · have hq := hq.2 c8
      refine ck_iconst (v := 0) dX12_toldAhead_74 (by decide) ?_
      refine ck_goto (tgt := 80) dX12_toldAhead_75 (by decide) ?_
      exact ck_iret rfl rfl rfl rfl dX12_toldAhead_80 ⟨_, rfl, rfl, hq⟩
  · intro x4 h hq
    refine ck_aload_n 0 dX12_toldAhead_63 rfl rfl ?_
    refine ck_callV (c_X12_goOn hq) rfl cal_X12_goOn rfl ml_X12_215 vir_X12_goOn rfl rfl (by decide) (Nat.le_of_ble_eq_true rfl) (Nat.le_of_ble_eq_true rfl) (by decide) (by decide) dX12_toldAhead_64 ?_
    rintro _ _ h9 ⟨rfl, rfl, hq⟩
    refine ck_aload_n 0 dX12_toldAhead_67 rfl rfl ?_
    refine ck_getI clX12 26 rfl rfl (by decide) fl_X12_199 dX12_toldAhead_68 ?_
    refine ck_if_eq (tgt := 78) dX12_toldAhead_71 (by decide) (fun c10 => ?_) (fun c10 => ?_)
    · have hq := hq.1 c10
      refine ck_iload 1 dX12_toldAhead_78 rfl ?_
      exact ck_iret rfl rfl rfl rfl dX12_toldAhead_80 ⟨_, rfl, rfl, hq⟩
    · have hq := hq.2 c10
      refine ck_iconst (v := 0) dX12_toldAhead_74 (by decide) ?_
      refine ck_goto (tgt := 80) dX12_toldAhead_75 (by decide) ?_
      exact ck_iret rfl rfl rfl rfl dX12_toldAhead_80 ⟨_, rfl, rfl, hq⟩
set_option maxHeartbeats 4000000 in
set_option maxRecDepth 100000 in
theorem cp_X12_toldAhead_43 {gr : Bool} {Q : Int32 → ck_H → Prop} {o1 : Nat} (hc : (o1 = 3) ∨ (o1 = 6)) : ∀ (y0 : Int32) (h : ck_H), wp_X12_toldAhead_43 Q o1 y0 h → ck_W cX12_toldAhead 5 RX12 (some .int) 10 0 0 false gr (ck_Qi ck_shM Q) ck_shM h 0 0 43 [(0, .ref 0)] [.int y0] := by
  rcases hc with rfl | rfl
  · intro y0 h hq
    refine ck_istore (lv' := [(4, .int y0), (0, .ref 0)]) dX12_toldAhead_43 (by decide) rfl ?_
    refine ck_aload_n 1 dX12_toldAhead_45 rfl rfl ?_
    refine ck_getI clX12 26 rfl rfl (by decide) fl_X12_199 dX12_toldAhead_46 ?_
    refine ck_if_ne (tgt := 63) dX12_toldAhead_49 (by decide) (fun c13 => ?_) (fun c13 => ?_)
    · have hq := hq.1 c13
      refine ck_loc [1, 0] rfl ?_
      exact cp_X12_toldAhead_63 (by simp) _ _ hq
    · have hq := hq.2 c13
      refine ck_iload 0 dX12_toldAhead_52 rfl ?_
      refine ck_iconst (v := -1) dX12_toldAhead_54 (by decide) ?_
      refine ck_icmp_ne (tgt := 63) dX12_toldAhead_55 (by decide) (fun c14 => ?_) (fun c14 => ?_)
      · have hq := hq.1 c14
        refine ck_loc [1, 0] rfl ?_
        exact cp_X12_toldAhead_63 (by simp) _ _ hq
      · have hq := hq.2 c14
        refine ck_aload_n 1 dX12_toldAhead_58 rfl rfl ?_
        refine ck_iconst (v := 4) dX12_toldAhead_59 (by decide) ?_
        refine ck_callV (c_X12_wrong hq) rfl cal_X12_wrong rfl ml_X12_208 vir_X12_wrong rfl rfl (by decide) (Nat.le_of_ble_eq_true rfl) (Nat.le_of_ble_eq_true rfl) (by decide) (by decide) dX12_toldAhead_60 ?_
        rintro _ _ h15 ⟨rfl, rfl, hq⟩
        refine ck_loc [1, 0] rfl ?_
        exact cp_X12_toldAhead_63 (by simp) _ _ hq
  · intro y0 h hq
    refine ck_istore (lv' := [(4, .int y0), (0, .ref 0)]) dX12_toldAhead_43 (by decide) rfl ?_
    refine ck_aload_n 1 dX12_toldAhead_45 rfl rfl ?_
    refine ck_getI clX12 26 rfl rfl (by decide) fl_X12_199 dX12_toldAhead_46 ?_
    refine ck_if_ne (tgt := 63) dX12_toldAhead_49 (by decide) (fun c16 => ?_) (fun c16 => ?_)
    · have hq := hq.1 c16
      refine ck_loc [1, 0] rfl ?_
      exact cp_X12_toldAhead_63 (by simp) _ _ hq
    · have hq := hq.2 c16
      refine ck_iload 0 dX12_toldAhead_52 rfl ?_
      refine ck_iconst (v := -1) dX12_toldAhead_54 (by decide) ?_
      refine ck_icmp_ne (tgt := 63) dX12_toldAhead_55 (by decide) (fun c17 => ?_) (fun c17 => ?_)
      · have hq := hq.1 c17
        refine ck_loc [1, 0] rfl ?_
        exact cp_X12_toldAhead_63 (by simp) _ _ hq
      · have hq := hq.2 c17
        refine ck_aload_n 1 dX12_toldAhead_58 rfl rfl ?_
        refine ck_iconst (v := 4) dX12_toldAhead_59 (by decide) ?_
        refine ck_callV (c_X12_wrong hq) rfl cal_X12_wrong rfl ml_X12_208 vir_X12_wrong rfl rfl (by decide) (Nat.le_of_ble_eq_true rfl) (Nat.le_of_ble_eq_true rfl) (by decide) (by decide) dX12_toldAhead_60 ?_
        rintro _ _ h18 ⟨rfl, rfl, hq⟩
        refine ck_loc [1, 0] rfl ?_
        exact cp_X12_toldAhead_63 (by simp) _ _ hq
set_option maxHeartbeats 4000000 in
set_option maxRecDepth 100000 in
theorem cp_X12_toldAhead_22 {gr : Bool} {Q : Int32 → ck_H → Prop} {o1 : Nat} (hc : (o1 = 3) ∨ (o1 = 6)) : ∀ (x2 : Int32) (x3 : Int32) (h : ck_H), wp_X12_toldAhead_22 Q o1 x2 x3 h → ck_W cX12_toldAhead 5 RX12 (some .int) 10 0 0 false gr (ck_Qi ck_shM Q) ck_shM h 0 0 22 [(0, .ref 0), (1, .ref o1), (2, .int x2), (3, .int x3)] [] := by
  rcases hc with rfl | rfl
  · intro x2 x3 h hq
    refine ck_aload_n 0 dX12_toldAhead_22 rfl rfl ?_
    refine ck_getI clX12 26 rfl rfl (by decide) fl_X12_199 dX12_toldAhead_23 ?_
    refine ck_if_ne (tgt := 42) dX12_toldAhead_26 (by decide) (fun c21 => ?_) (fun c21 => ?_)
    · have hq := hq.1 c21
      refine ck_iconst (v := 0) dX12_toldAhead_42 (by decide) ?_
      refine ck_loc [0] rfl ?_
      exact cp_X12_toldAhead_43 (by simp) _ _ hq
    · have hq := hq.2 c21
      refine ck_aload_n 1 dX12_toldAhead_29 rfl rfl ?_
      refine ck_iload_n 2 dX12_toldAhead_30 rfl rfl ?_
      refine ck_iload_n 3 dX12_toldAhead_31 rfl rfl ?_
      refine ck_aload_n 0 dX12_toldAhead_32 rfl rfl ?_
      refine ck_getI clX12 25 rfl rfl (by decide) fl_X12_174 dX12_toldAhead_33 ?_
      refine ck_callS (c_X12_found (by simp) hq) rfl cal_X12_found rfl ml_X12_211 sta_X12_found (by decide) (Nat.le_of_ble_eq_true rfl) (Nat.le_of_ble_eq_true rfl) (by decide) (by decide) dX12_toldAhead_36 ?_
      rintro _ _ h22 ⟨r23, rfl, rfl, hq⟩
      refine ck_goto (tgt := 43) dX12_toldAhead_39 (by decide) ?_
      refine ck_loc [0] rfl ?_
      exact cp_X12_toldAhead_43 (by simp) _ _ hq
  · intro x2 x3 h hq
    refine ck_aload_n 0 dX12_toldAhead_22 rfl rfl ?_
    refine ck_getI clX12 26 rfl rfl (by decide) fl_X12_199 dX12_toldAhead_23 ?_
    refine ck_if_ne (tgt := 42) dX12_toldAhead_26 (by decide) (fun c24 => ?_) (fun c24 => ?_)
    · have hq := hq.1 c24
      refine ck_iconst (v := 0) dX12_toldAhead_42 (by decide) ?_
      refine ck_loc [0] rfl ?_
      exact cp_X12_toldAhead_43 (by simp) _ _ hq
    · have hq := hq.2 c24
      refine ck_aload_n 1 dX12_toldAhead_29 rfl rfl ?_
      refine ck_iload_n 2 dX12_toldAhead_30 rfl rfl ?_
      refine ck_iload_n 3 dX12_toldAhead_31 rfl rfl ?_
      refine ck_aload_n 0 dX12_toldAhead_32 rfl rfl ?_
      refine ck_getI clX12 25 rfl rfl (by decide) fl_X12_174 dX12_toldAhead_33 ?_
      refine ck_callS (c_X12_found (by simp) hq) rfl cal_X12_found rfl ml_X12_211 sta_X12_found (by decide) (Nat.le_of_ble_eq_true rfl) (Nat.le_of_ble_eq_true rfl) (by decide) (by decide) dX12_toldAhead_36 ?_
      rintro _ _ h25 ⟨r26, rfl, rfl, hq⟩
      refine ck_goto (tgt := 43) dX12_toldAhead_39 (by decide) ?_
      refine ck_loc [0] rfl ?_
      exact cp_X12_toldAhead_43 (by simp) _ _ hq
set_option maxHeartbeats 4000000 in
set_option maxRecDepth 100000 in
theorem c_X12_toldAhead {gr : Bool} {x2 : Int32} {x3 : Int32} {h : ck_H} {Q : Int32 → ck_H → Prop} {o1 : Nat} (hc : (o1 = 3) ∨ (o1 = 6)) (hq : wp_X12_toldAhead o1 x2 x3 h Q) : ck_M yX12_toldAhead cX12_toldAhead 5 (some .int) 10 0 0 gr ck_shM h [.ref 0, .ref o1, .int x2, .int x3] (ck_Qi ck_shM Q) := by
  rcases hc with rfl | rfl
  · refine ck_entry (lv := [(0, .ref 0), (1, .ref 3), (2, .int x2), (3, .int x3)]) false (own := RX12) rfl (fun q => by cases q) (by decide) (Nat.le_of_ble_eq_true rfl) rfl ?_
    refine ck_aload_n 0 dX12_toldAhead_0 rfl rfl ?_
    refine ck_getI clX12 26 rfl rfl (by decide) fl_X12_199 dX12_toldAhead_1 ?_
    refine ck_if_eq (tgt := 9) dX12_toldAhead_4 (by decide) (fun c28 => ?_) (fun c28 => ?_)
    · have hq := hq.1 c28
      refine ck_aload_n 0 dX12_toldAhead_9 rfl rfl ?_
      refine ck_getI clX12 24 rfl rfl (by decide) fl_X12_164 dX12_toldAhead_10 ?_
      refine ck_iconst (v := 1) dX12_toldAhead_13 (by decide) ?_
      refine ck_icmp_eq (tgt := 22) dX12_toldAhead_14 (by decide) (fun c29 => ?_) (fun c29 => ?_)
      · have hq := hq.1 c29
        exact cp_X12_toldAhead_22 (by simp) _ _ _ hq
      · have hq := hq.2 c29
        refine ck_aload_n 0 dX12_toldAhead_17 rfl rfl ?_
        refine ck_iconst (v := 1) dX12_toldAhead_18 (by decide) ?_
        refine ck_callV (c_X12_wrong hq) rfl cal_X12_wrong rfl ml_X12_208 vir_X12_wrong rfl rfl (by decide) (Nat.le_of_ble_eq_true rfl) (Nat.le_of_ble_eq_true rfl) (by decide) (by decide) dX12_toldAhead_19 ?_
        rintro _ _ h30 ⟨rfl, rfl, hq⟩
        exact cp_X12_toldAhead_22 (by simp) _ _ _ hq
    · have hq := hq.2 c28
      refine ck_iconst (v := 0) dX12_toldAhead_7 (by decide) ?_
      exact ck_iret rfl rfl rfl rfl dX12_toldAhead_8 ⟨_, rfl, rfl, hq⟩
  · refine ck_entry (lv := [(0, .ref 0), (1, .ref 6), (2, .int x2), (3, .int x3)]) false (own := RX12) rfl (fun q => by cases q) (by decide) (Nat.le_of_ble_eq_true rfl) rfl ?_
    refine ck_aload_n 0 dX12_toldAhead_0 rfl rfl ?_
    refine ck_getI clX12 26 rfl rfl (by decide) fl_X12_199 dX12_toldAhead_1 ?_
    refine ck_if_eq (tgt := 9) dX12_toldAhead_4 (by decide) (fun c31 => ?_) (fun c31 => ?_)
    · have hq := hq.1 c31
      refine ck_aload_n 0 dX12_toldAhead_9 rfl rfl ?_
      refine ck_getI clX12 24 rfl rfl (by decide) fl_X12_164 dX12_toldAhead_10 ?_
      refine ck_iconst (v := 1) dX12_toldAhead_13 (by decide) ?_
      refine ck_icmp_eq (tgt := 22) dX12_toldAhead_14 (by decide) (fun c32 => ?_) (fun c32 => ?_)
      · have hq := hq.1 c32
        exact cp_X12_toldAhead_22 (by simp) _ _ _ hq
      · have hq := hq.2 c32
        refine ck_aload_n 0 dX12_toldAhead_17 rfl rfl ?_
        refine ck_iconst (v := 1) dX12_toldAhead_18 (by decide) ?_
        refine ck_callV (c_X12_wrong hq) rfl cal_X12_wrong rfl ml_X12_208 vir_X12_wrong rfl rfl (by decide) (Nat.le_of_ble_eq_true rfl) (Nat.le_of_ble_eq_true rfl) (by decide) (by decide) dX12_toldAhead_19 ?_
        rintro _ _ h33 ⟨rfl, rfl, hq⟩
        exact cp_X12_toldAhead_22 (by simp) _ _ _ hq
    · have hq := hq.2 c31
      refine ck_iconst (v := 0) dX12_toldAhead_7 (by decide) ?_
      exact ck_iret rfl rfl rfl rfl dX12_toldAhead_8 ⟨_, rfl, rfl, hq⟩
def wp_X12_isWord (x1 : Int32) (h : ck_H) (Q : Int32 → ck_H → Prop) : Prop := ((¬ (h.1 0 26) = 0 → Q (0 : Int32) h) ∧ ((h.1 0 26) = 0 → ((¬ (h.1 0 24) = 0 → Q (0 : Int32) h) ∧ ((h.1 0 24) = 0 → ((¬ (h.1 0 25) = x1 → Q (0 : Int32) h) ∧ ((h.1 0 25) = x1 → Q (1 : Int32) h))))))
set_option maxHeartbeats 4000000 in
set_option maxRecDepth 100000 in
theorem c_X12_isWord {gr : Bool} {x1 : Int32} {h : ck_H} {Q : Int32 → ck_H → Prop} (hq : wp_X12_isWord x1 h Q) : ck_M yX12_isWord cX12_isWord 2 (some .boolean) 2 0 0 gr ck_shM h [.ref 0, .int x1] (ck_Qi ck_shM Q) := by
  refine ck_entry (lv := [(0, .ref 0), (1, .int x1)]) false (own := RX12) rfl (fun q => by cases q) (by decide) (Nat.le_of_ble_eq_true rfl) rfl ?_
  refine ck_aload_n 0 dX12_isWord_0 rfl rfl ?_
  refine ck_getI clX12 26 rfl rfl (by decide) fl_X12_199 dX12_isWord_1 ?_
  refine ck_if_ne (tgt := 26) dX12_isWord_4 (by decide) (fun c1 => ?_) (fun c1 => ?_)
  · have hq := hq.1 c1
    refine ck_iconst (v := 0) dX12_isWord_26 (by decide) ?_
    exact ck_iret rfl (by decide) rfl rfl dX12_isWord_27 ⟨_, rfl, rfl, hq⟩
  · have hq := hq.2 c1
    refine ck_aload_n 0 dX12_isWord_7 rfl rfl ?_
    refine ck_getI clX12 24 rfl rfl (by decide) fl_X12_164 dX12_isWord_8 ?_
    refine ck_if_ne (tgt := 26) dX12_isWord_11 (by decide) (fun c2 => ?_) (fun c2 => ?_)
    · have hq := hq.1 c2
      refine ck_iconst (v := 0) dX12_isWord_26 (by decide) ?_
      exact ck_iret rfl (by decide) rfl rfl dX12_isWord_27 ⟨_, rfl, rfl, hq⟩
    · have hq := hq.2 c2
      refine ck_aload_n 0 dX12_isWord_14 rfl rfl ?_
      refine ck_getI clX12 25 rfl rfl (by decide) fl_X12_174 dX12_isWord_15 ?_
      refine ck_iload_n 1 dX12_isWord_18 rfl rfl ?_
      refine ck_icmp_ne (tgt := 26) dX12_isWord_19 (by decide) (fun c3 => ?_) (fun c3 => ?_)
      · have hq := hq.1 c3
        refine ck_iconst (v := 0) dX12_isWord_26 (by decide) ?_
        exact ck_iret rfl (by decide) rfl rfl dX12_isWord_27 ⟨_, rfl, rfl, hq⟩
      · have hq := hq.2 c3
        refine ck_iconst (v := 1) dX12_isWord_22 (by decide) ?_
        refine ck_goto (tgt := 27) dX12_isWord_23 (by decide) ?_
        exact ck_iret rfl (by decide) rfl rfl dX12_isWord_27 ⟨_, rfl, rfl, hq⟩
def wp_X12_knot (h : ck_H) (Q : ck_H → Prop) : Prop := (((h.1 0 26) = 0 → ((¬ (h.1 0 31) = (64 : Int32) → (∀ h3, h3 = ck_sI h 0 31 ((h.1 0 31) + (1 : Int32)) → Q h3)) ∧ ((h.1 0 31) = (64 : Int32) → (wp_X12_wrong (2 : Int32) h (fun h4 => Q h4))))) ∧ (¬ (h.1 0 26) = 0 → Q h))
set_option maxHeartbeats 4000000 in
set_option maxRecDepth 100000 in
theorem c_X12_knot {gr : Bool} {h : ck_H} {Q : ck_H → Prop} (hq : wp_X12_knot h Q) : ck_M yX12_knot cX12_knot 1 none 3 0 0 gr ck_shM h [.ref 0] (ck_Qv ck_shM Q) := by
  refine ck_entry (lv := [(0, .ref 0)]) false (own := RX12) rfl (fun q => by cases q) (by decide) (Nat.le_of_ble_eq_true rfl) rfl ?_
  refine ck_aload_n 0 dX12_knot_0 rfl rfl ?_
  refine ck_getI clX12 26 rfl rfl (by decide) fl_X12_199 dX12_knot_1 ?_
  refine ck_if_eq (tgt := 8) dX12_knot_4 (by decide) (fun c1 => ?_) (fun c1 => ?_)
  · have hq := hq.1 c1
    refine ck_aload_n 0 dX12_knot_8 rfl rfl ?_
    refine ck_getI clX12 31 rfl rfl (by decide) fl_X12_255 dX12_knot_9 ?_
    refine ck_bipush (v := 64) dX12_knot_12 (by decide) ?_
    refine ck_icmp_ne (tgt := 25) dX12_knot_14 (by decide) (fun c2 => ?_) (fun c2 => ?_)
    · have hq := hq.1 c2
      refine ck_aload_n 0 dX12_knot_25 rfl rfl ?_
      refine ck_dup dX12_knot_26 rfl ?_
      refine ck_getI clX12 31 rfl rfl (by decide) fl_X12_255 dX12_knot_27 ?_
      refine ck_iconst (v := 1) dX12_knot_30 (by decide) ?_
      refine ck_iadd dX12_knot_31 ?_
      refine ck_putI clX12 31 rfl rfl (by decide) fl_X12_255 rfl rfl rfl dX12_knot_32 ?_
      refine ck_nmH (fun h3 eh3 => ?_)
      have hq := hq h3 eh3
      exact ck_vret rfl rfl rfl dX12_knot_35 ⟨rfl, rfl, hq⟩
    · have hq := hq.2 c2
      refine ck_aload_n 0 dX12_knot_17 rfl rfl ?_
      refine ck_iconst (v := 2) dX12_knot_18 (by decide) ?_
      refine ck_callV (c_X12_wrong hq) rfl cal_X12_wrong rfl ml_X12_208 vir_X12_wrong rfl rfl (by decide) (Nat.le_of_ble_eq_true rfl) (Nat.le_of_ble_eq_true rfl) (by decide) (by decide) dX12_knot_19 ?_
      rintro _ _ h4 ⟨rfl, rfl, hq⟩
      refine ck_goto (tgt := 35) dX12_knot_22 (by decide) ?_
      exact ck_vret rfl rfl rfl dX12_knot_35 ⟨rfl, rfl, hq⟩
  · have hq := hq.2 c1
    exact ck_vret rfl rfl rfl dX12_knot_7 ⟨rfl, rfl, hq⟩
def wp_X12_puts (x1 : Int32) (x2 : Int32) (h : ck_H) (Q : ck_H → Prop) : Prop := (((h.1 0 26) = 0 → (wp_X12_fresher (6 : Int32) h (fun r3 h2 => (vp_in ((64 : Int32) + r3) 128 ∧ (∀ h5, h5 = ck_sI h2 16 ((64 : Int32) + r3).toNatClampNeg x1 → (wp_X12_fresher (6 : Int32) h5 (fun r7 h6 => (vp_in ((64 : Int32) + r7) 128 ∧ (∀ h9, h9 = ck_sI h6 17 ((64 : Int32) + r7).toNatClampNeg x2 → (wp_X12_fresher (6 : Int32) h9 (fun r11 h10 => (wp_X12_reads (6 : Int32) (r11 + (1 : Int32)) h10 (fun h12 => Q h12))))))))))))) ∧ (¬ (h.1 0 26) = 0 → Q h))
set_option maxHeartbeats 4000000 in
set_option maxRecDepth 100000 in
theorem c_X12_puts {gr : Bool} {x1 : Int32} {x2 : Int32} {h : ck_H} {Q : ck_H → Prop} (hq : wp_X12_puts x1 x2 h Q) : ck_M yX12_puts cX12_puts 3 none 3 0 0 gr ck_shM h [.ref 0, .int x1, .int x2] (ck_Qv ck_shM Q) := by
  refine ck_entry (lv := [(0, .ref 0), (1, .int x1), (2, .int x2)]) false (own := RX12) rfl (fun q => by cases q) (by decide) (Nat.le_of_ble_eq_true rfl) rfl ?_
  refine ck_aload_n 0 dX12_puts_0 rfl rfl ?_
  refine ck_getI clX12 26 rfl rfl (by decide) fl_X12_199 dX12_puts_1 ?_
  refine ck_if_eq (tgt := 8) dX12_puts_4 (by decide) (fun c1 => ?_) (fun c1 => ?_)
  · have hq := hq.1 c1
    refine ck_aload_n 0 dX12_puts_8 rfl rfl ?_
    refine ck_getR clX12 17 rfl rfl (by decide) fl_X12_55 dX12_puts_9 ?_
    refine ck_bipush (v := 64) dX12_puts_12 (by decide) ?_
    refine ck_aload_n 0 dX12_puts_14 rfl rfl ?_
    refine ck_bipush (v := 6) dX12_puts_15 (by decide) ?_
    refine ck_callV (c_X12_fresher hq) rfl cal_X12_fresher rfl ml_X12_218 vir_X12_fresher rfl rfl (by decide) (Nat.le_of_ble_eq_true rfl) (Nat.le_of_ble_eq_true rfl) (by decide) (by decide) dX12_puts_17 ?_
    rintro _ _ h2 ⟨r3, rfl, rfl, hq⟩
    refine ck_iadd dX12_puts_20 ?_
    refine ck_iload_n 1 dX12_puts_21 rfl rfl ?_
    obtain ⟨b4, hq⟩ := hq
    refine ck_iast rfl rfl b4 dX12_puts_22 ?_
    refine ck_nmH (fun h5 eh5 => ?_)
    have hq := hq h5 eh5
    refine ck_aload_n 0 dX12_puts_23 rfl rfl ?_
    refine ck_getR clX12 18 rfl rfl (by decide) fl_X12_58 dX12_puts_24 ?_
    refine ck_bipush (v := 64) dX12_puts_27 (by decide) ?_
    refine ck_aload_n 0 dX12_puts_29 rfl rfl ?_
    refine ck_bipush (v := 6) dX12_puts_30 (by decide) ?_
    refine ck_callV (c_X12_fresher hq) rfl cal_X12_fresher rfl ml_X12_218 vir_X12_fresher rfl rfl (by decide) (Nat.le_of_ble_eq_true rfl) (Nat.le_of_ble_eq_true rfl) (by decide) (by decide) dX12_puts_32 ?_
    rintro _ _ h6 ⟨r7, rfl, rfl, hq⟩
    refine ck_iadd dX12_puts_35 ?_
    refine ck_iload_n 2 dX12_puts_36 rfl rfl ?_
    obtain ⟨b8, hq⟩ := hq
    refine ck_iast rfl rfl b8 dX12_puts_37 ?_
    refine ck_nmH (fun h9 eh9 => ?_)
    have hq := hq h9 eh9
    refine ck_aload_n 0 dX12_puts_38 rfl rfl ?_
    refine ck_bipush (v := 6) dX12_puts_39 (by decide) ?_
    refine ck_aload_n 0 dX12_puts_41 rfl rfl ?_
    refine ck_bipush (v := 6) dX12_puts_42 (by decide) ?_
    refine ck_callV (c_X12_fresher hq) rfl cal_X12_fresher rfl ml_X12_218 vir_X12_fresher rfl rfl (by decide) (Nat.le_of_ble_eq_true rfl) (Nat.le_of_ble_eq_true rfl) (by decide) (by decide) dX12_puts_44 ?_
    rintro _ _ h10 ⟨r11, rfl, rfl, hq⟩
    refine ck_iconst (v := 1) dX12_puts_47 (by decide) ?_
    refine ck_iadd dX12_puts_48 ?_
    refine ck_callV (c_X12_reads hq) rfl cal_X12_reads rfl ml_X12_236 vir_X12_reads rfl rfl (by decide) (Nat.le_of_ble_eq_true rfl) (Nat.le_of_ble_eq_true rfl) (by decide) (by decide) dX12_puts_49 ?_
    rintro _ _ h12 ⟨rfl, rfl, hq⟩
    exact ck_vret rfl rfl rfl dX12_puts_52 ⟨rfl, rfl, hq⟩
  · have hq := hq.2 c1
    exact ck_vret rfl rfl rfl dX12_puts_7 ⟨rfl, rfl, hq⟩
def wp_X12_isSign (x1 : Int32) (h : ck_H) (Q : Int32 → ck_H → Prop) : Prop := ((¬ (h.1 0 26) = 0 → Q (0 : Int32) h) ∧ ((h.1 0 26) = 0 → ((¬ (h.1 0 24) = (3 : Int32) → Q (0 : Int32) h) ∧ ((h.1 0 24) = (3 : Int32) → ((¬ (h.1 0 25) = x1 → Q (0 : Int32) h) ∧ ((h.1 0 25) = x1 → Q (1 : Int32) h))))))
set_option maxHeartbeats 4000000 in
set_option maxRecDepth 100000 in
theorem c_X12_isSign {gr : Bool} {x1 : Int32} {h : ck_H} {Q : Int32 → ck_H → Prop} (hq : wp_X12_isSign x1 h Q) : ck_M yX12_isSign cX12_isSign 2 (some .boolean) 2 0 0 gr ck_shM h [.ref 0, .int x1] (ck_Qi ck_shM Q) := by
  refine ck_entry (lv := [(0, .ref 0), (1, .int x1)]) false (own := RX12) rfl (fun q => by cases q) (by decide) (Nat.le_of_ble_eq_true rfl) rfl ?_
  refine ck_aload_n 0 dX12_isSign_0 rfl rfl ?_
  refine ck_getI clX12 26 rfl rfl (by decide) fl_X12_199 dX12_isSign_1 ?_
  refine ck_if_ne (tgt := 27) dX12_isSign_4 (by decide) (fun c1 => ?_) (fun c1 => ?_)
  · have hq := hq.1 c1
    refine ck_iconst (v := 0) dX12_isSign_27 (by decide) ?_
    exact ck_iret rfl (by decide) rfl rfl dX12_isSign_28 ⟨_, rfl, rfl, hq⟩
  · have hq := hq.2 c1
    refine ck_aload_n 0 dX12_isSign_7 rfl rfl ?_
    refine ck_getI clX12 24 rfl rfl (by decide) fl_X12_164 dX12_isSign_8 ?_
    refine ck_iconst (v := 3) dX12_isSign_11 (by decide) ?_
    refine ck_icmp_ne (tgt := 27) dX12_isSign_12 (by decide) (fun c2 => ?_) (fun c2 => ?_)
    · have hq := hq.1 c2
      refine ck_iconst (v := 0) dX12_isSign_27 (by decide) ?_
      exact ck_iret rfl (by decide) rfl rfl dX12_isSign_28 ⟨_, rfl, rfl, hq⟩
    · have hq := hq.2 c2
      refine ck_aload_n 0 dX12_isSign_15 rfl rfl ?_
      refine ck_getI clX12 25 rfl rfl (by decide) fl_X12_174 dX12_isSign_16 ?_
      refine ck_iload_n 1 dX12_isSign_19 rfl rfl ?_
      refine ck_icmp_ne (tgt := 27) dX12_isSign_20 (by decide) (fun c3 => ?_) (fun c3 => ?_)
      · have hq := hq.1 c3
        refine ck_iconst (v := 0) dX12_isSign_27 (by decide) ?_
        exact ck_iret rfl (by decide) rfl rfl dX12_isSign_28 ⟨_, rfl, rfl, hq⟩
      · have hq := hq.2 c3
        refine ck_iconst (v := 1) dX12_isSign_23 (by decide) ?_
        refine ck_goto (tgt := 28) dX12_isSign_24 (by decide) ?_
        exact ck_iret rfl (by decide) rfl rfl dX12_isSign_28 ⟨_, rfl, rfl, hq⟩
def wp_X12_primary_215 (Q : ck_H → Prop) (E : ck_H → (ck_H → Prop) → Prop) (y1 : Int32) (y2 : Int32) (h : ck_H) : Prop := (wp_X12_puts y1 y2 h (fun h12 => (wp_X12_goOn h12 (fun h13 => Q h13))))
def wp_X12_primary_184 (Q : ck_H → Prop) (E : ck_H → (ck_H → Prop) → Prop) (x1 : Int32) (y1 : Int32) (h : ck_H) : Prop := ((x1 = 0 → ((¬ (h.1 0 25) = (3 : Int32) → wp_X12_primary_215 Q E y1 ((h.1 0 25) - (13 : Int32)) h) ∧ ((h.1 0 25) = (3 : Int32) → wp_X12_primary_215 Q E y1 (6 : Int32) h))) ∧ (¬ x1 = 0 → wp_X12_primary_215 Q E y1 (h.1 0 25) h))
def wp_X12_primary_170 (Q : ck_H → Prop) (E : ck_H → (ck_H → Prop) → Prop) (x1 : Int32) (h : ck_H) : Prop := (wp_X12_knot h (fun h8 => ((x1 = 0 → wp_X12_primary_184 Q E x1 (1 : Int32) h8) ∧ (¬ x1 = 0 → wp_X12_primary_184 Q E x1 (0 : Int32) h8))))
def wp_X12_primary_165 (Q : ck_H → Prop) (E : ck_H → (ck_H → Prop) → Prop) (x1 : Int32) (h : ck_H) : Prop := (wp_X12_wrong (1 : Int32) h (fun h15 => wp_X12_primary_170 Q E x1 h15))
def wp_X12_primary_137 (Q : ck_H → Prop) (E : ck_H → (ck_H → Prop) → Prop) (x1 : Int32) (h : ck_H) : Prop := ((¬ x1 = 0 → wp_X12_primary_170 Q E x1 h) ∧ (x1 = 0 → ((¬ (h.1 0 24) = 0 → wp_X12_primary_165 Q E x1 h) ∧ ((h.1 0 24) = 0 → (((13 : Int32) ≤ (h.1 0 25) → wp_X12_primary_170 Q E x1 h) ∧ (¬ (13 : Int32) ≤ (h.1 0 25) → (((h.1 0 25) = (3 : Int32) → wp_X12_primary_170 Q E x1 h) ∧ (¬ (h.1 0 25) = (3 : Int32) → wp_X12_primary_165 Q E x1 h))))))))
def wp_X12_primary_114 (Q : ck_H → Prop) (E : ck_H → (ck_H → Prop) → Prop) (y0 : Int32) (h : ck_H) : Prop := ((y0 = 0 → wp_X12_primary_137 Q E y0 h) ∧ (¬ y0 = 0 → (((h.1 0 25) ≤ (9999 : Int32) → wp_X12_primary_137 Q E y0 h) ∧ (¬ (h.1 0 25) ≤ (9999 : Int32) → (wp_X12_wrong (2 : Int32) h (fun h19 => wp_X12_primary_170 Q E y0 h19))))))
def wp_X12_primary_78 (Q : ck_H → Prop) (E : ck_H → (ck_H → Prop) → Prop) (h : ck_H) : Prop := (((h.1 0 26) = 0 → (∀ h27, h27 = ck_sI h 0 30 ((h.1 0 30) - (1 : Int32)) → (wp_X12_token h27 (fun h28 => Q h28)))) ∧ (¬ (h.1 0 26) = 0 → Q h))
def wp_X12_primary_31 (Q : ck_H → Prop) (E : ck_H → (ck_H → Prop) → Prop) (h : ck_H) : Prop := (((h.1 0 26) = 0 → (∀ h22, h22 = ck_sI h 0 30 ((h.1 0 30) + (1 : Int32)) → (wp_X12_token h22 (fun h23 => (E h23 (fun h24 => ((¬ (h24.1 0 26) = 0 → wp_X12_primary_78 Q E h24) ∧ ((h24.1 0 26) = 0 → (wp_X12_isSign (41 : Int32) h24 (fun r30 h29 => ((¬ r30 = 0 → wp_X12_primary_78 Q E h29) ∧ (r30 = 0 → (wp_X12_wrong (1 : Int32) h29 (fun h32 => wp_X12_primary_78 Q E h32)))))))))))))) ∧ (¬ (h.1 0 26) = 0 → Q h))
def wp_X12_primary (E : ck_H → (ck_H → Prop) → Prop) (h : ck_H) (Q : ck_H → Prop) : Prop := (((h.1 0 26) = 0 → (wp_X12_isSign (40 : Int32) h (fun r3 h2 => ((r3 = 0 → ((¬ (h2.1 0 24) = (2 : Int32) → wp_X12_primary_114 Q E (0 : Int32) h2) ∧ ((h2.1 0 24) = (2 : Int32) → wp_X12_primary_114 Q E (1 : Int32) h2))) ∧ (¬ r3 = 0 → ((¬ (h2.1 0 30) = (8 : Int32) → wp_X12_primary_31 Q E h2) ∧ ((h2.1 0 30) = (8 : Int32) → (wp_X12_wrong (2 : Int32) h2 (fun h33 => wp_X12_primary_31 Q E h33))))))))) ∧ (¬ (h.1 0 26) = 0 → Q h))
set_option maxHeartbeats 4000000 in
set_option maxRecDepth 100000 in
theorem cp_X12_primary_215 {gr : Bool} {Q : ck_H → Prop} {E : ck_H → (ck_H → Prop) → Prop} {dE : Nat} (hE : ∀ {gr : Bool} {h : ck_H} {Q : ck_H → Prop}, E h Q → ck_M yX12_expression cX12_expression 1 none dE 0 0 gr ck_shM h [.ref 0] (ck_Qv ck_shM Q)) : ∀ (y1 : Int32) (y2 : Int32) (h : ck_H), wp_X12_primary_215 Q E y1 y2 h → ck_W cX12_primary 2 RX12 none (dE + 10) 0 0 false gr (ck_Qv ck_shM Q) ck_shM h 0 0 215 [(0, .ref 0)] [.int y2, .int y1, .ref 0] := by
  intro y1 y2 h hq
  refine ck_callV (c_X12_puts hq) rfl cal_X12_puts rfl ml_X12_267 vir_X12_puts rfl rfl (by omega) (by omega) (Nat.le_of_ble_eq_true rfl) (by decide) (by decide) dX12_primary_215 ?_
  rintro _ _ h12 ⟨rfl, rfl, hq⟩
  refine ck_aload_n 0 dX12_primary_218 rfl rfl ?_
  refine ck_callV (c_X12_goOn hq) rfl cal_X12_goOn rfl ml_X12_215 vir_X12_goOn rfl rfl (by omega) (by omega) (Nat.le_of_ble_eq_true rfl) (by decide) (by decide) dX12_primary_219 ?_
  rintro _ _ h13 ⟨rfl, rfl, hq⟩
  exact ck_vret rfl rfl rfl dX12_primary_222 ⟨rfl, rfl, hq⟩
set_option maxHeartbeats 4000000 in
set_option maxRecDepth 100000 in
theorem cp_X12_primary_184 {gr : Bool} {Q : ck_H → Prop} {E : ck_H → (ck_H → Prop) → Prop} {dE : Nat} (hE : ∀ {gr : Bool} {h : ck_H} {Q : ck_H → Prop}, E h Q → ck_M yX12_expression cX12_expression 1 none dE 0 0 gr ck_shM h [.ref 0] (ck_Qv ck_shM Q)) : ∀ (x1 : Int32) (y1 : Int32) (h : ck_H), wp_X12_primary_184 Q E x1 y1 h → ck_W cX12_primary 2 RX12 none (dE + 10) 0 0 false gr (ck_Qv ck_shM Q) ck_shM h 0 0 184 [(0, .ref 0), (1, .int x1)] [.int y1, .ref 0] := by
  intro x1 y1 h hq
  refine ck_iload_n 1 dX12_primary_184 rfl rfl ?_
  refine ck_if_eq (tgt := 195) dX12_primary_185 (by decide) (fun c10 => ?_) (fun c10 => ?_)
  · have hq := hq.1 c10
    refine ck_aload_n 0 dX12_primary_195 rfl rfl ?_
    refine ck_getI clX12 25 rfl rfl (by decide) fl_X12_174 dX12_primary_196 ?_
    refine ck_iconst (v := 3) dX12_primary_199 (by decide) ?_
    refine ck_icmp_ne (tgt := 208) dX12_primary_200 (by decide) (fun c11 => ?_) (fun c11 => ?_)
    · have hq := hq.1 c11
      refine ck_aload_n 0 dX12_primary_208 rfl rfl ?_
      refine ck_getI clX12 25 rfl rfl (by decide) fl_X12_174 dX12_primary_209 ?_
      refine ck_bipush (v := 13) dX12_primary_212 (by decide) ?_
      refine ck_isub dX12_primary_214 ?_
      refine ck_loc [0] rfl ?_
      exact cp_X12_primary_215 hE _ _ _ hq
    · have hq := hq.2 c11
      refine ck_bipush (v := 6) dX12_primary_203 (by decide) ?_
      refine ck_goto (tgt := 215) dX12_primary_205 (by decide) ?_
      refine ck_loc [0] rfl ?_
      exact cp_X12_primary_215 hE _ _ _ hq
  · have hq := hq.2 c10
    refine ck_aload_n 0 dX12_primary_188 rfl rfl ?_
    refine ck_getI clX12 25 rfl rfl (by decide) fl_X12_174 dX12_primary_189 ?_
    refine ck_goto (tgt := 215) dX12_primary_192 (by decide) ?_
    refine ck_loc [0] rfl ?_
    exact cp_X12_primary_215 hE _ _ _ hq
set_option maxHeartbeats 4000000 in
set_option maxRecDepth 100000 in
theorem cp_X12_primary_170 {gr : Bool} {Q : ck_H → Prop} {E : ck_H → (ck_H → Prop) → Prop} {dE : Nat} (hE : ∀ {gr : Bool} {h : ck_H} {Q : ck_H → Prop}, E h Q → ck_M yX12_expression cX12_expression 1 none dE 0 0 gr ck_shM h [.ref 0] (ck_Qv ck_shM Q)) : ∀ (x1 : Int32) (h : ck_H), wp_X12_primary_170 Q E x1 h → ck_W cX12_primary 2 RX12 none (dE + 10) 0 0 false gr (ck_Qv ck_shM Q) ck_shM h 0 0 170 [(0, .ref 0), (1, .int x1)] [] := by
  intro x1 h hq
  refine ck_aload_n 0 dX12_primary_170 rfl rfl ?_
  refine ck_callV (c_X12_knot hq) rfl cal_X12_knot rfl ml_X12_264 vir_X12_knot rfl rfl (by omega) (by omega) (Nat.le_of_ble_eq_true rfl) (by decide) (by decide) dX12_primary_171 ?_
  rintro _ _ h8 ⟨rfl, rfl, hq⟩
  refine ck_aload_n 0 dX12_primary_174 rfl rfl ?_
  refine ck_iload_n 1 dX12_primary_175 rfl rfl ?_
  refine ck_if_eq (tgt := 183) dX12_primary_176 (by decide) (fun c9 => ?_) (fun c9 => ?_)
  · have hq := hq.1 c9
    refine ck_iconst (v := 1) dX12_primary_183 (by decide) ?_
    exact cp_X12_primary_184 hE _ _ _ hq
  · have hq := hq.2 c9
    refine ck_iconst (v := 0) dX12_primary_179 (by decide) ?_
    refine ck_goto (tgt := 184) dX12_primary_180 (by decide) ?_
    exact cp_X12_primary_184 hE _ _ _ hq
set_option maxHeartbeats 4000000 in
set_option maxRecDepth 100000 in
theorem cp_X12_primary_165 {gr : Bool} {Q : ck_H → Prop} {E : ck_H → (ck_H → Prop) → Prop} {dE : Nat} (hE : ∀ {gr : Bool} {h : ck_H} {Q : ck_H → Prop}, E h Q → ck_M yX12_expression cX12_expression 1 none dE 0 0 gr ck_shM h [.ref 0] (ck_Qv ck_shM Q)) : ∀ (x1 : Int32) (h : ck_H), wp_X12_primary_165 Q E x1 h → ck_W cX12_primary 2 RX12 none (dE + 10) 0 0 false gr (ck_Qv ck_shM Q) ck_shM h 0 0 165 [(0, .ref 0), (1, .int x1)] [] := by
  intro x1 h hq
  refine ck_aload_n 0 dX12_primary_165 rfl rfl ?_
  refine ck_iconst (v := 1) dX12_primary_166 (by decide) ?_
  refine ck_callV (c_X12_wrong hq) rfl cal_X12_wrong rfl ml_X12_208 vir_X12_wrong rfl rfl (by omega) (by omega) (Nat.le_of_ble_eq_true rfl) (by decide) (by decide) dX12_primary_167 ?_
  rintro _ _ h15 ⟨rfl, rfl, hq⟩
  exact cp_X12_primary_170 hE _ _ hq
set_option maxHeartbeats 4000000 in
set_option maxRecDepth 100000 in
theorem cp_X12_primary_137 {gr : Bool} {Q : ck_H → Prop} {E : ck_H → (ck_H → Prop) → Prop} {dE : Nat} (hE : ∀ {gr : Bool} {h : ck_H} {Q : ck_H → Prop}, E h Q → ck_M yX12_expression cX12_expression 1 none dE 0 0 gr ck_shM h [.ref 0] (ck_Qv ck_shM Q)) : ∀ (x1 : Int32) (h : ck_H), wp_X12_primary_137 Q E x1 h → ck_W cX12_primary 2 RX12 none (dE + 10) 0 0 false gr (ck_Qv ck_shM Q) ck_shM h 0 0 137 [(0, .ref 0), (1, .int x1)] [] := by
  intro x1 h hq
  refine ck_iload_n 1 dX12_primary_137 rfl rfl ?_
  refine ck_if_ne (tgt := 170) dX12_primary_138 (by decide) (fun c7 => ?_) (fun c7 => ?_)
  · have hq := hq.1 c7
    exact cp_X12_primary_170 hE _ _ hq
  · have hq := hq.2 c7
    refine ck_aload_n 0 dX12_primary_141 rfl rfl ?_
    refine ck_getI clX12 24 rfl rfl (by decide) fl_X12_164 dX12_primary_142 ?_
    refine ck_if_ne (tgt := 165) dX12_primary_145 (by decide) (fun c14 => ?_) (fun c14 => ?_)
    · have hq := hq.1 c14
      exact cp_X12_primary_165 hE _ _ hq
    · have hq := hq.2 c14
      refine ck_aload_n 0 dX12_primary_148 rfl rfl ?_
      refine ck_getI clX12 25 rfl rfl (by decide) fl_X12_174 dX12_primary_149 ?_
      refine ck_bipush (v := 13) dX12_primary_152 (by decide) ?_
      refine ck_icmp_ge (tgt := 170) dX12_primary_154 (by decide) (fun c16 => ?_) (fun c16 => ?_)
      · have hq := hq.1 c16
        exact cp_X12_primary_170 hE _ _ hq
      · have hq := hq.2 c16
        refine ck_aload_n 0 dX12_primary_157 rfl rfl ?_
        refine ck_getI clX12 25 rfl rfl (by decide) fl_X12_174 dX12_primary_158 ?_
        refine ck_iconst (v := 3) dX12_primary_161 (by decide) ?_
        refine ck_icmp_eq (tgt := 170) dX12_primary_162 (by decide) (fun c17 => ?_) (fun c17 => ?_)
        · have hq := hq.1 c17
          exact cp_X12_primary_170 hE _ _ hq
        · have hq := hq.2 c17
          exact cp_X12_primary_165 hE _ _ hq
set_option maxHeartbeats 4000000 in
set_option maxRecDepth 100000 in
theorem cp_X12_primary_114 {gr : Bool} {Q : ck_H → Prop} {E : ck_H → (ck_H → Prop) → Prop} {dE : Nat} (hE : ∀ {gr : Bool} {h : ck_H} {Q : ck_H → Prop}, E h Q → ck_M yX12_expression cX12_expression 1 none dE 0 0 gr ck_shM h [.ref 0] (ck_Qv ck_shM Q)) : ∀ (y0 : Int32) (h : ck_H), wp_X12_primary_114 Q E y0 h → ck_W cX12_primary 2 RX12 none (dE + 10) 0 0 false gr (ck_Qv ck_shM Q) ck_shM h 0 0 114 [(0, .ref 0)] [.int y0] := by
  intro y0 h hq
  refine ck_istore_n (lv' := [(1, .int y0), (0, .ref 0)]) dX12_primary_114 rfl (by decide) rfl ?_
  refine ck_iload_n 0 dX12_primary_115 rfl rfl ?_
  refine ck_if_eq (tgt := 137) dX12_primary_116 (by decide) (fun c6 => ?_) (fun c6 => ?_)
  · have hq := hq.1 c6
    refine ck_loc [1, 0] rfl ?_
    exact cp_X12_primary_137 hE _ _ hq
  · have hq := hq.2 c6
    refine ck_aload_n 1 dX12_primary_119 rfl rfl ?_
    refine ck_getI clX12 25 rfl rfl (by decide) fl_X12_174 dX12_primary_120 ?_
    refine ck_sipush (v := 9999) dX12_primary_123 (by decide) ?_
    refine ck_icmp_le (tgt := 137) dX12_primary_126 (by decide) (fun c18 => ?_) (fun c18 => ?_)
    · have hq := hq.1 c18
      refine ck_loc [1, 0] rfl ?_
      exact cp_X12_primary_137 hE _ _ hq
    · have hq := hq.2 c18
      refine ck_aload_n 1 dX12_primary_129 rfl rfl ?_
      refine ck_iconst (v := 2) dX12_primary_130 (by decide) ?_
      refine ck_callV (c_X12_wrong hq) rfl cal_X12_wrong rfl ml_X12_208 vir_X12_wrong rfl rfl (by omega) (by omega) (Nat.le_of_ble_eq_true rfl) (by decide) (by decide) dX12_primary_131 ?_
      rintro _ _ h19 ⟨rfl, rfl, hq⟩
      refine ck_goto (tgt := 170) dX12_primary_134 (by decide) ?_
      refine ck_loc [1, 0] rfl ?_
      exact cp_X12_primary_170 hE _ _ hq
set_option maxHeartbeats 4000000 in
set_option maxRecDepth 100000 in
theorem cp_X12_primary_78 {gr : Bool} {Q : ck_H → Prop} {E : ck_H → (ck_H → Prop) → Prop} {dE : Nat} (hE : ∀ {gr : Bool} {h : ck_H} {Q : ck_H → Prop}, E h Q → ck_M yX12_expression cX12_expression 1 none dE 0 0 gr ck_shM h [.ref 0] (ck_Qv ck_shM Q)) : ∀ (h : ck_H), wp_X12_primary_78 Q E h → ck_W cX12_primary 2 RX12 none (dE + 10) 0 0 false gr (ck_Qv ck_shM Q) ck_shM h 0 0 78 [(0, .ref 0)] [] := by
  intro h hq
  refine ck_aload_n 0 dX12_primary_78 rfl rfl ?_
  refine ck_getI clX12 26 rfl rfl (by decide) fl_X12_199 dX12_primary_79 ?_
  refine ck_if_eq (tgt := 86) dX12_primary_82 (by decide) (fun c26 => ?_) (fun c26 => ?_)
  · have hq := hq.1 c26
    refine ck_aload_n 0 dX12_primary_86 rfl rfl ?_
    refine ck_dup dX12_primary_87 rfl ?_
    refine ck_getI clX12 30 rfl rfl (by decide) fl_X12_282 dX12_primary_88 ?_
    refine ck_iconst (v := 1) dX12_primary_91 (by decide) ?_
    refine ck_isub dX12_primary_92 ?_
    refine ck_putI clX12 30 rfl rfl (by decide) fl_X12_282 rfl rfl rfl dX12_primary_93 ?_
    refine ck_nmH (fun h27 eh27 => ?_)
    have hq := hq h27 eh27
    refine ck_aload_n 0 dX12_primary_96 rfl rfl ?_
    refine ck_callV (c_X12_token hq) rfl cal_X12_token rfl ml_X12_205 vir_X12_token rfl rfl (by omega) (by omega) (Nat.le_of_ble_eq_true rfl) (by decide) (by decide) dX12_primary_97 ?_
    rintro _ _ h28 ⟨rfl, rfl, hq⟩
    exact ck_vret rfl rfl rfl dX12_primary_100 ⟨rfl, rfl, hq⟩
  · have hq := hq.2 c26
    exact ck_vret rfl rfl rfl dX12_primary_85 ⟨rfl, rfl, hq⟩
set_option maxHeartbeats 4000000 in
set_option maxRecDepth 100000 in
theorem cp_X12_primary_31 {gr : Bool} {Q : ck_H → Prop} {E : ck_H → (ck_H → Prop) → Prop} {dE : Nat} (hE : ∀ {gr : Bool} {h : ck_H} {Q : ck_H → Prop}, E h Q → ck_M yX12_expression cX12_expression 1 none dE 0 0 gr ck_shM h [.ref 0] (ck_Qv ck_shM Q)) : ∀ (h : ck_H), wp_X12_primary_31 Q E h → ck_W cX12_primary 2 RX12 none (dE + 10) 0 0 false gr (ck_Qv ck_shM Q) ck_shM h 0 0 31 [(0, .ref 0)] [] := by
  intro h hq
  refine ck_aload_n 0 dX12_primary_31 rfl rfl ?_
  refine ck_getI clX12 26 rfl rfl (by decide) fl_X12_199 dX12_primary_32 ?_
  refine ck_if_eq (tgt := 39) dX12_primary_35 (by decide) (fun c21 => ?_) (fun c21 => ?_)
  · have hq := hq.1 c21
    refine ck_aload_n 0 dX12_primary_39 rfl rfl ?_
    refine ck_dup dX12_primary_40 rfl ?_
    refine ck_getI clX12 30 rfl rfl (by decide) fl_X12_282 dX12_primary_41 ?_
    refine ck_iconst (v := 1) dX12_primary_44 (by decide) ?_
    refine ck_iadd dX12_primary_45 ?_
    refine ck_putI clX12 30 rfl rfl (by decide) fl_X12_282 rfl rfl rfl dX12_primary_46 ?_
    refine ck_nmH (fun h22 eh22 => ?_)
    have hq := hq h22 eh22
    refine ck_aload_n 0 dX12_primary_49 rfl rfl ?_
    refine ck_callV (c_X12_token hq) rfl cal_X12_token rfl ml_X12_205 vir_X12_token rfl rfl (by omega) (by omega) (Nat.le_of_ble_eq_true rfl) (by decide) (by decide) dX12_primary_50 ?_
    rintro _ _ h23 ⟨rfl, rfl, hq⟩
    refine ck_aload_n 0 dX12_primary_53 rfl rfl ?_
    refine ck_callV (hE hq) rfl cal_X12_expression rfl ml_X12_252 vir_X12_expression rfl rfl (by omega) (by omega) (Nat.le_of_ble_eq_true rfl) (by decide) (by decide) dX12_primary_54 ?_
    rintro _ _ h24 ⟨rfl, rfl, hq⟩
    refine ck_aload_n 0 dX12_primary_57 rfl rfl ?_
    refine ck_getI clX12 26 rfl rfl (by decide) fl_X12_199 dX12_primary_58 ?_
    refine ck_if_ne (tgt := 78) dX12_primary_61 (by decide) (fun c25 => ?_) (fun c25 => ?_)
    · have hq := hq.1 c25
      exact cp_X12_primary_78 hE  _ hq
    · have hq := hq.2 c25
      refine ck_aload_n 0 dX12_primary_64 rfl rfl ?_
      refine ck_bipush (v := 41) dX12_primary_65 (by decide) ?_
      refine ck_callV (c_X12_isSign hq) rfl cal_X12_isSign rfl ml_X12_246 vir_X12_isSign rfl rfl (by omega) (by omega) (Nat.le_of_ble_eq_true rfl) (by decide) (by decide) dX12_primary_67 ?_
      rintro _ _ h29 ⟨r30, rfl, rfl, hq⟩
      refine ck_if_ne (tgt := 78) dX12_primary_70 (by decide) (fun c31 => ?_) (fun c31 => ?_)
      · have hq := hq.1 c31
        exact cp_X12_primary_78 hE  _ hq
      · have hq := hq.2 c31
        refine ck_aload_n 0 dX12_primary_73 rfl rfl ?_
        refine ck_iconst (v := 1) dX12_primary_74 (by decide) ?_
        refine ck_callV (c_X12_wrong hq) rfl cal_X12_wrong rfl ml_X12_208 vir_X12_wrong rfl rfl (by omega) (by omega) (Nat.le_of_ble_eq_true rfl) (by decide) (by decide) dX12_primary_75 ?_
        rintro _ _ h32 ⟨rfl, rfl, hq⟩
        exact cp_X12_primary_78 hE  _ hq
  · have hq := hq.2 c21
    exact ck_vret rfl rfl rfl dX12_primary_38 ⟨rfl, rfl, hq⟩
set_option maxHeartbeats 4000000 in
set_option maxRecDepth 100000 in
theorem c_X12_primary {gr : Bool} {h : ck_H} {Q : ck_H → Prop} {E : ck_H → (ck_H → Prop) → Prop} {dE : Nat} (hE : ∀ {gr : Bool} {h : ck_H} {Q : ck_H → Prop}, E h Q → ck_M yX12_expression cX12_expression 1 none dE 0 0 gr ck_shM h [.ref 0] (ck_Qv ck_shM Q)) (hq : wp_X12_primary E h Q) : ck_M yX12_primary cX12_primary 2 none (dE + 10) 0 0 gr ck_shM h [.ref 0] (ck_Qv ck_shM Q) := by
  refine ck_entry (lv := [(0, .ref 0)]) false (own := RX12) rfl (fun q => by cases q) (by decide) (Nat.le_of_ble_eq_true rfl) rfl ?_
  refine ck_aload_n 0 dX12_primary_0 rfl rfl ?_
  refine ck_getI clX12 26 rfl rfl (by decide) fl_X12_199 dX12_primary_1 ?_
  refine ck_if_eq (tgt := 8) dX12_primary_4 (by decide) (fun c1 => ?_) (fun c1 => ?_)
  · have hq := hq.1 c1
    refine ck_aload_n 0 dX12_primary_8 rfl rfl ?_
    refine ck_bipush (v := 40) dX12_primary_9 (by decide) ?_
    refine ck_callV (c_X12_isSign hq) rfl cal_X12_isSign rfl ml_X12_246 vir_X12_isSign rfl rfl (by omega) (by omega) (Nat.le_of_ble_eq_true rfl) (by decide) (by decide) dX12_primary_11 ?_
    rintro _ _ h2 ⟨r3, rfl, rfl, hq⟩
    refine ck_if_eq (tgt := 101) dX12_primary_14 (by decide) (fun c4 => ?_) (fun c4 => ?_)
    · have hq := hq.1 c4
      refine ck_aload_n 0 dX12_primary_101 rfl rfl ?_
      refine ck_getI clX12 24 rfl rfl (by decide) fl_X12_164 dX12_primary_102 ?_
      refine ck_iconst (v := 2) dX12_primary_105 (by decide) ?_
      refine ck_icmp_ne (tgt := 113) dX12_primary_106 (by decide) (fun c5 => ?_) (fun c5 => ?_)
      · have hq := hq.1 c5
        refine ck_iconst (v := 0) dX12_primary_113 (by decide) ?_
        exact cp_X12_primary_114 hE _ _ hq
      · have hq := hq.2 c5
        refine ck_iconst (v := 1) dX12_primary_109 (by decide) ?_
        refine ck_goto (tgt := 114) dX12_primary_110 (by decide) ?_
        exact cp_X12_primary_114 hE _ _ hq
    · have hq := hq.2 c4
      refine ck_aload_n 0 dX12_primary_17 rfl rfl ?_
      refine ck_getI clX12 30 rfl rfl (by decide) fl_X12_282 dX12_primary_18 ?_
      refine ck_bipush (v := 8) dX12_primary_21 (by decide) ?_
      refine ck_icmp_ne (tgt := 31) dX12_primary_23 (by decide) (fun c20 => ?_) (fun c20 => ?_)
      · have hq := hq.1 c20
        exact cp_X12_primary_31 hE  _ hq
      · have hq := hq.2 c20
        refine ck_aload_n 0 dX12_primary_26 rfl rfl ?_
        refine ck_iconst (v := 2) dX12_primary_27 (by decide) ?_
        refine ck_callV (c_X12_wrong hq) rfl cal_X12_wrong rfl ml_X12_208 vir_X12_wrong rfl rfl (by omega) (by omega) (Nat.le_of_ble_eq_true rfl) (by decide) (by decide) dX12_primary_28 ?_
        rintro _ _ h33 ⟨rfl, rfl, hq⟩
        exact cp_X12_primary_31 hE  _ hq
  · have hq := hq.2 c1
    exact ck_vret rfl rfl rfl dX12_primary_7 ⟨rfl, rfl, hq⟩
def wp_X12_product_22 (Q : ck_H → Prop) (E : ck_H → (ck_H → Prop) → Prop) (Kc : ck_H → Prop) (h : ck_H) : Prop := (∀ v5, v5 = (h.1 0 25) → (wp_X12_knot h (fun h6 => (wp_X12_goOn h6 (fun h7 => (wp_X12_primary E h7 (fun h8 => (wp_X12_puts (2 : Int32) v5 h8 (fun h9 => Kc h9)))))))))
def wp_X12_product_4 (Q : ck_H → Prop) (E : ck_H → (ck_H → Prop) → Prop) : Nat → ck_H → Prop
  | 0 => fun _ => False
  | n + 1 => fun h => (wp_X12_isSign (42 : Int32) h (fun r3 h2 => ((¬ r3 = 0 → wp_X12_product_22 Q E (wp_X12_product_4 Q E n) h2) ∧ (r3 = 0 → (wp_X12_isSign (47 : Int32) h2 (fun r11 h10 => ((r11 = 0 → Q h10) ∧ (¬ r11 = 0 → wp_X12_product_22 Q E (wp_X12_product_4 Q E n) h10))))))))
def wp_X12_product (E : ck_H → (ck_H → Prop) → Prop) (h : ck_H) (Q : ck_H → Prop) : Prop := (wp_X12_primary E h (fun h1 => wp_X12_product_4 Q E lpN h1))
set_option maxHeartbeats 4000000 in
set_option maxRecDepth 100000 in
theorem cp_X12_product_22 {gr : Bool} {Q : ck_H → Prop} {Kc : ck_H → Prop} {E : ck_H → (ck_H → Prop) → Prop} {dE : Nat} (hE : ∀ {gr : Bool} {h : ck_H} {Q : ck_H → Prop}, E h Q → ck_M yX12_expression cX12_expression 1 none dE 0 0 gr ck_shM h [.ref 0] (ck_Qv ck_shM Q)) (hKc : ∀ (h : ck_H), Kc h → ck_W cX12_product 2 RX12 none (dE + 11) 0 0 false gr (ck_Qv ck_shM Q) ck_shM h 0 0 4 [(0, .ref 0)] []) : ∀ (h : ck_H), wp_X12_product_22 Q E Kc h → ck_W cX12_product 2 RX12 none (dE + 11) 0 0 false gr (ck_Qv ck_shM Q) ck_shM h 0 0 22 [(0, .ref 0)] [] := by
  intro h hq
  refine ck_aload_n 0 dX12_product_22 rfl rfl ?_
  refine ck_getI clX12 25 rfl rfl (by decide) fl_X12_174 dX12_product_23 ?_
  refine ck_nmI (fun v5 ev5 => ?_)
  have hq := hq v5 ev5
  refine ck_istore_n (lv' := [(1, .int v5), (0, .ref 0)]) dX12_product_26 rfl (by decide) rfl ?_
  refine ck_aload_n 1 dX12_product_27 rfl rfl ?_
  refine ck_callV (c_X12_knot hq) rfl cal_X12_knot rfl ml_X12_264 vir_X12_knot rfl rfl (by omega) (by omega) (Nat.le_of_ble_eq_true rfl) (by decide) (by decide) dX12_product_28 ?_
  rintro _ _ h6 ⟨rfl, rfl, hq⟩
  refine ck_aload_n 1 dX12_product_31 rfl rfl ?_
  refine ck_callV (c_X12_goOn hq) rfl cal_X12_goOn rfl ml_X12_215 vir_X12_goOn rfl rfl (by omega) (by omega) (Nat.le_of_ble_eq_true rfl) (by decide) (by decide) dX12_product_32 ?_
  rintro _ _ h7 ⟨rfl, rfl, hq⟩
  refine ck_aload_n 1 dX12_product_35 rfl rfl ?_
  refine ck_callV (c_X12_primary hE hq) rfl cal_X12_primary rfl ml_X12_279 vir_X12_primary rfl rfl (by omega) (by omega) (Nat.le_of_ble_eq_true rfl) (by decide) (by decide) dX12_product_36 ?_
  rintro _ _ h8 ⟨rfl, rfl, hq⟩
  refine ck_aload_n 1 dX12_product_39 rfl rfl ?_
  refine ck_iconst (v := 2) dX12_product_40 (by decide) ?_
  refine ck_iload_n 0 dX12_product_41 rfl rfl ?_
  refine ck_callV (c_X12_puts hq) rfl cal_X12_puts rfl ml_X12_267 vir_X12_puts rfl rfl (by omega) (by omega) (Nat.le_of_ble_eq_true rfl) (by decide) (by decide) dX12_product_42 ?_
  rintro _ _ h9 ⟨rfl, rfl, hq⟩
  refine ck_goto (tgt := 4) dX12_product_45 (by decide) ?_
  refine ck_loc [1] rfl ?_
  exact hKc  _ hq
set_option maxHeartbeats 4000000 in
set_option maxRecDepth 100000 in
theorem cp_X12_product_4 {gr : Bool} {Q : ck_H → Prop} {E : ck_H → (ck_H → Prop) → Prop} {dE : Nat} (hE : ∀ {gr : Bool} {h : ck_H} {Q : ck_H → Prop}, E h Q → ck_M yX12_expression cX12_expression 1 none dE 0 0 gr ck_shM h [.ref 0] (ck_Qv ck_shM Q)) : ∀ (n : Nat) (h : ck_H), wp_X12_product_4 Q E n h → ck_W cX12_product 2 RX12 none (dE + 11) 0 0 false gr (ck_Qv ck_shM Q) ck_shM h 0 0 4 [(0, .ref 0)] [] := by
  intro n
  induction n with
  | zero => intro h hq; exact hq.elim
  | succ n hKc =>
    intro h hq
    unfold wp_X12_product_4 at hq
    refine ck_aload_n 0 dX12_product_4 rfl rfl ?_
    refine ck_bipush (v := 42) dX12_product_5 (by decide) ?_
    refine ck_callV (c_X12_isSign hq) rfl cal_X12_isSign rfl ml_X12_246 vir_X12_isSign rfl rfl (by omega) (by omega) (Nat.le_of_ble_eq_true rfl) (by decide) (by decide) dX12_product_7 ?_
    rintro _ _ h2 ⟨r3, rfl, rfl, hq⟩
    refine ck_if_ne (tgt := 22) dX12_product_10 (by decide) (fun c4 => ?_) (fun c4 => ?_)
    · have hq := hq.1 c4
      exact cp_X12_product_22 hE hKc  _ hq
    · have hq := hq.2 c4
      refine ck_aload_n 0 dX12_product_13 rfl rfl ?_
      refine ck_bipush (v := 47) dX12_product_14 (by decide) ?_
      refine ck_callV (c_X12_isSign hq) rfl cal_X12_isSign rfl ml_X12_246 vir_X12_isSign rfl rfl (by omega) (by omega) (Nat.le_of_ble_eq_true rfl) (by decide) (by decide) dX12_product_16 ?_
      rintro _ _ h10 ⟨r11, rfl, rfl, hq⟩
      refine ck_if_eq (tgt := 48) dX12_product_19 (by decide) (fun c12 => ?_) (fun c12 => ?_)
      · have hq := hq.1 c12
        exact ck_vret rfl rfl rfl dX12_product_48 ⟨rfl, rfl, hq⟩
      · have hq := hq.2 c12
        exact cp_X12_product_22 hE hKc  _ hq
set_option maxHeartbeats 4000000 in
set_option maxRecDepth 100000 in
theorem c_X12_product {gr : Bool} {h : ck_H} {Q : ck_H → Prop} {E : ck_H → (ck_H → Prop) → Prop} {dE : Nat} (hE : ∀ {gr : Bool} {h : ck_H} {Q : ck_H → Prop}, E h Q → ck_M yX12_expression cX12_expression 1 none dE 0 0 gr ck_shM h [.ref 0] (ck_Qv ck_shM Q)) (hq : wp_X12_product E h Q) : ck_M yX12_product cX12_product 2 none (dE + 11) 0 0 gr ck_shM h [.ref 0] (ck_Qv ck_shM Q) := by
  refine ck_entry (lv := [(0, .ref 0)]) false (own := RX12) rfl (fun q => by cases q) (by decide) (Nat.le_of_ble_eq_true rfl) rfl ?_
  refine ck_aload_n 0 dX12_product_0 rfl rfl ?_
  refine ck_callV (c_X12_primary hE hq) rfl cal_X12_primary rfl ml_X12_279 vir_X12_primary rfl rfl (by omega) (by omega) (Nat.le_of_ble_eq_true rfl) (by decide) (by decide) dX12_product_1 ?_
  rintro _ _ h1 ⟨rfl, rfl, hq⟩
  refine cp_X12_product_4 hE lpN  _ hq
def wp_X12_sum_22 (Q : ck_H → Prop) (E : ck_H → (ck_H → Prop) → Prop) (Kc : ck_H → Prop) (h : ck_H) : Prop := (∀ v5, v5 = (h.1 0 25) → (wp_X12_knot h (fun h6 => (wp_X12_goOn h6 (fun h7 => (wp_X12_product E h7 (fun h8 => (wp_X12_puts (2 : Int32) v5 h8 (fun h9 => Kc h9)))))))))
def wp_X12_sum_4 (Q : ck_H → Prop) (E : ck_H → (ck_H → Prop) → Prop) : Nat → ck_H → Prop
  | 0 => fun _ => False
  | n + 1 => fun h => (wp_X12_isSign (43 : Int32) h (fun r3 h2 => ((¬ r3 = 0 → wp_X12_sum_22 Q E (wp_X12_sum_4 Q E n) h2) ∧ (r3 = 0 → (wp_X12_isSign (45 : Int32) h2 (fun r11 h10 => ((r11 = 0 → Q h10) ∧ (¬ r11 = 0 → wp_X12_sum_22 Q E (wp_X12_sum_4 Q E n) h10))))))))
def wp_X12_sum (E : ck_H → (ck_H → Prop) → Prop) (h : ck_H) (Q : ck_H → Prop) : Prop := (wp_X12_product E h (fun h1 => wp_X12_sum_4 Q E lpN h1))
set_option maxHeartbeats 4000000 in
set_option maxRecDepth 100000 in
theorem cp_X12_sum_22 {gr : Bool} {Q : ck_H → Prop} {Kc : ck_H → Prop} {E : ck_H → (ck_H → Prop) → Prop} {dE : Nat} (hE : ∀ {gr : Bool} {h : ck_H} {Q : ck_H → Prop}, E h Q → ck_M yX12_expression cX12_expression 1 none dE 0 0 gr ck_shM h [.ref 0] (ck_Qv ck_shM Q)) (hKc : ∀ (h : ck_H), Kc h → ck_W cX12_sum 2 RX12 none (dE + 12) 0 0 false gr (ck_Qv ck_shM Q) ck_shM h 0 0 4 [(0, .ref 0)] []) : ∀ (h : ck_H), wp_X12_sum_22 Q E Kc h → ck_W cX12_sum 2 RX12 none (dE + 12) 0 0 false gr (ck_Qv ck_shM Q) ck_shM h 0 0 22 [(0, .ref 0)] [] := by
  intro h hq
  refine ck_aload_n 0 dX12_sum_22 rfl rfl ?_
  refine ck_getI clX12 25 rfl rfl (by decide) fl_X12_174 dX12_sum_23 ?_
  refine ck_nmI (fun v5 ev5 => ?_)
  have hq := hq v5 ev5
  refine ck_istore_n (lv' := [(1, .int v5), (0, .ref 0)]) dX12_sum_26 rfl (by decide) rfl ?_
  refine ck_aload_n 1 dX12_sum_27 rfl rfl ?_
  refine ck_callV (c_X12_knot hq) rfl cal_X12_knot rfl ml_X12_264 vir_X12_knot rfl rfl (by omega) (by omega) (Nat.le_of_ble_eq_true rfl) (by decide) (by decide) dX12_sum_28 ?_
  rintro _ _ h6 ⟨rfl, rfl, hq⟩
  refine ck_aload_n 1 dX12_sum_31 rfl rfl ?_
  refine ck_callV (c_X12_goOn hq) rfl cal_X12_goOn rfl ml_X12_215 vir_X12_goOn rfl rfl (by omega) (by omega) (Nat.le_of_ble_eq_true rfl) (by decide) (by decide) dX12_sum_32 ?_
  rintro _ _ h7 ⟨rfl, rfl, hq⟩
  refine ck_aload_n 1 dX12_sum_35 rfl rfl ?_
  refine ck_callV (c_X12_product hE hq) rfl cal_X12_product rfl ml_X12_276 vir_X12_product rfl rfl (by omega) (by omega) (Nat.le_of_ble_eq_true rfl) (by decide) (by decide) dX12_sum_36 ?_
  rintro _ _ h8 ⟨rfl, rfl, hq⟩
  refine ck_aload_n 1 dX12_sum_39 rfl rfl ?_
  refine ck_iconst (v := 2) dX12_sum_40 (by decide) ?_
  refine ck_iload_n 0 dX12_sum_41 rfl rfl ?_
  refine ck_callV (c_X12_puts hq) rfl cal_X12_puts rfl ml_X12_267 vir_X12_puts rfl rfl (by omega) (by omega) (Nat.le_of_ble_eq_true rfl) (by decide) (by decide) dX12_sum_42 ?_
  rintro _ _ h9 ⟨rfl, rfl, hq⟩
  refine ck_goto (tgt := 4) dX12_sum_45 (by decide) ?_
  refine ck_loc [1] rfl ?_
  exact hKc  _ hq
set_option maxHeartbeats 4000000 in
set_option maxRecDepth 100000 in
theorem cp_X12_sum_4 {gr : Bool} {Q : ck_H → Prop} {E : ck_H → (ck_H → Prop) → Prop} {dE : Nat} (hE : ∀ {gr : Bool} {h : ck_H} {Q : ck_H → Prop}, E h Q → ck_M yX12_expression cX12_expression 1 none dE 0 0 gr ck_shM h [.ref 0] (ck_Qv ck_shM Q)) : ∀ (n : Nat) (h : ck_H), wp_X12_sum_4 Q E n h → ck_W cX12_sum 2 RX12 none (dE + 12) 0 0 false gr (ck_Qv ck_shM Q) ck_shM h 0 0 4 [(0, .ref 0)] [] := by
  intro n
  induction n with
  | zero => intro h hq; exact hq.elim
  | succ n hKc =>
    intro h hq
    unfold wp_X12_sum_4 at hq
    refine ck_aload_n 0 dX12_sum_4 rfl rfl ?_
    refine ck_bipush (v := 43) dX12_sum_5 (by decide) ?_
    refine ck_callV (c_X12_isSign hq) rfl cal_X12_isSign rfl ml_X12_246 vir_X12_isSign rfl rfl (by omega) (by omega) (Nat.le_of_ble_eq_true rfl) (by decide) (by decide) dX12_sum_7 ?_
    rintro _ _ h2 ⟨r3, rfl, rfl, hq⟩
    refine ck_if_ne (tgt := 22) dX12_sum_10 (by decide) (fun c4 => ?_) (fun c4 => ?_)
    · have hq := hq.1 c4
      exact cp_X12_sum_22 hE hKc  _ hq
    · have hq := hq.2 c4
      refine ck_aload_n 0 dX12_sum_13 rfl rfl ?_
      refine ck_bipush (v := 45) dX12_sum_14 (by decide) ?_
      refine ck_callV (c_X12_isSign hq) rfl cal_X12_isSign rfl ml_X12_246 vir_X12_isSign rfl rfl (by omega) (by omega) (Nat.le_of_ble_eq_true rfl) (by decide) (by decide) dX12_sum_16 ?_
      rintro _ _ h10 ⟨r11, rfl, rfl, hq⟩
      refine ck_if_eq (tgt := 48) dX12_sum_19 (by decide) (fun c12 => ?_) (fun c12 => ?_)
      · have hq := hq.1 c12
        exact ck_vret rfl rfl rfl dX12_sum_48 ⟨rfl, rfl, hq⟩
      · have hq := hq.2 c12
        exact cp_X12_sum_22 hE hKc  _ hq
set_option maxHeartbeats 4000000 in
set_option maxRecDepth 100000 in
theorem c_X12_sum {gr : Bool} {h : ck_H} {Q : ck_H → Prop} {E : ck_H → (ck_H → Prop) → Prop} {dE : Nat} (hE : ∀ {gr : Bool} {h : ck_H} {Q : ck_H → Prop}, E h Q → ck_M yX12_expression cX12_expression 1 none dE 0 0 gr ck_shM h [.ref 0] (ck_Qv ck_shM Q)) (hq : wp_X12_sum E h Q) : ck_M yX12_sum cX12_sum 2 none (dE + 12) 0 0 gr ck_shM h [.ref 0] (ck_Qv ck_shM Q) := by
  refine ck_entry (lv := [(0, .ref 0)]) false (own := RX12) rfl (fun q => by cases q) (by decide) (Nat.le_of_ble_eq_true rfl) rfl ?_
  refine ck_aload_n 0 dX12_sum_0 rfl rfl ?_
  refine ck_callV (c_X12_product hE hq) rfl cal_X12_product rfl ml_X12_276 vir_X12_product rfl rfl (by omega) (by omega) (Nat.le_of_ble_eq_true rfl) (by decide) (by decide) dX12_sum_1 ?_
  rintro _ _ h1 ⟨rfl, rfl, hq⟩
  refine cp_X12_sum_4 hE lpN  _ hq
def wp_X12_negation_87 (Q : ck_H → Prop) (E : ck_H → (ck_H → Prop) → Prop) (N : ck_H → (ck_H → Prop) → Prop) (h : ck_H) : Prop := (∀ v8, v8 = (h.1 0 25) → (wp_X12_knot h (fun h9 => (wp_X12_goOn h9 (fun h10 => (wp_X12_sum E h10 (fun h11 => (wp_X12_puts (2 : Int32) v8 h11 (fun h12 => Q h12)))))))))
def wp_X12_negationB (E : ck_H → (ck_H → Prop) → Prop) (N : ck_H → (ck_H → Prop) → Prop) (h : ck_H) (Q : ck_H → Prop) : Prop := (wp_X12_isWord (12 : Int32) h (fun r2 h1 => ((r2 = 0 → (wp_X12_sum E h1 (fun h4 => ((¬ (h4.1 0 26) = 0 → Q h4) ∧ ((h4.1 0 26) = 0 → ((¬ (h4.1 0 24) = (3 : Int32) → Q h4) ∧ ((h4.1 0 24) = (3 : Int32) → (((h4.1 0 25) = (60 : Int32) → wp_X12_negation_87 Q E N h4) ∧ (¬ (h4.1 0 25) = (60 : Int32) → (((h4.1 0 25) = (62 : Int32) → wp_X12_negation_87 Q E N h4) ∧ (¬ (h4.1 0 25) = (62 : Int32) → (((h4.1 0 25) = (61 : Int32) → wp_X12_negation_87 Q E N h4) ∧ (¬ (h4.1 0 25) = (61 : Int32) → (((256 : Int32) ≤ (h4.1 0 25) → wp_X12_negation_87 Q E N h4) ∧ (¬ (256 : Int32) ≤ (h4.1 0 25) → Q h4))))))))))))))) ∧ (¬ r2 = 0 → (wp_X12_knot h1 (fun h16 => (wp_X12_goOn h16 (fun h17 => (N h17 (fun h18 => (wp_X12_puts (2 : Int32) (260 : Int32) h18 (fun h19 => Q h19))))))))))))
def wp_X12_negation (E : ck_H → (ck_H → Prop) → Prop) : Nat → ck_H → (ck_H → Prop) → Prop
  | 0 => fun _ _ => False
  | k + 1 => fun h Q => wp_X12_negationB E (wp_X12_negation E k) h Q
set_option maxHeartbeats 4000000 in
set_option maxRecDepth 100000 in
theorem cp_X12_negation_87 {gr : Bool} {Q : ck_H → Prop} {E : ck_H → (ck_H → Prop) → Prop} {dE : Nat} (hE : ∀ {gr : Bool} {h : ck_H} {Q : ck_H → Prop}, E h Q → ck_M yX12_expression cX12_expression 1 none dE 0 0 gr ck_shM h [.ref 0] (ck_Qv ck_shM Q)) {N : ck_H → (ck_H → Prop) → Prop} {dN : Nat} (hdN : dE + 12 ≤ dN) (hN : ∀ {gr : Bool} {h : ck_H} {Q : ck_H → Prop}, N h Q → ck_M yX12_negation cX12_negation 2 none dN 0 0 gr ck_shM h [.ref 0] (ck_Qv ck_shM Q)) : ∀ (h : ck_H), wp_X12_negation_87 Q E N h → ck_W cX12_negation 2 RX12 none (dN + 1) 0 0 false gr (ck_Qv ck_shM Q) ck_shM h 0 0 87 [(0, .ref 0)] [] := by
  intro h hq
  refine ck_aload_n 0 dX12_negation_87 rfl rfl ?_
  refine ck_getI clX12 25 rfl rfl (by decide) fl_X12_174 dX12_negation_88 ?_
  refine ck_nmI (fun v8 ev8 => ?_)
  have hq := hq v8 ev8
  refine ck_istore_n (lv' := [(1, .int v8), (0, .ref 0)]) dX12_negation_91 rfl (by decide) rfl ?_
  refine ck_aload_n 1 dX12_negation_92 rfl rfl ?_
  refine ck_callV (c_X12_knot hq) rfl cal_X12_knot rfl ml_X12_264 vir_X12_knot rfl rfl (by omega) (by omega) (Nat.le_of_ble_eq_true rfl) (by decide) (by decide) dX12_negation_93 ?_
  rintro _ _ h9 ⟨rfl, rfl, hq⟩
  refine ck_aload_n 1 dX12_negation_96 rfl rfl ?_
  refine ck_callV (c_X12_goOn hq) rfl cal_X12_goOn rfl ml_X12_215 vir_X12_goOn rfl rfl (by omega) (by omega) (Nat.le_of_ble_eq_true rfl) (by decide) (by decide) dX12_negation_97 ?_
  rintro _ _ h10 ⟨rfl, rfl, hq⟩
  refine ck_aload_n 1 dX12_negation_100 rfl rfl ?_
  refine ck_callV (c_X12_sum hE hq) rfl cal_X12_sum rfl ml_X12_273 vir_X12_sum rfl rfl (by omega) (by omega) (Nat.le_of_ble_eq_true rfl) (by decide) (by decide) dX12_negation_101 ?_
  rintro _ _ h11 ⟨rfl, rfl, hq⟩
  refine ck_aload_n 1 dX12_negation_104 rfl rfl ?_
  refine ck_iconst (v := 2) dX12_negation_105 (by decide) ?_
  refine ck_iload_n 0 dX12_negation_106 rfl rfl ?_
  refine ck_callV (c_X12_puts hq) rfl cal_X12_puts rfl ml_X12_267 vir_X12_puts rfl rfl (by omega) (by omega) (Nat.le_of_ble_eq_true rfl) (by decide) (by decide) dX12_negation_107 ?_
  rintro _ _ h12 ⟨rfl, rfl, hq⟩
  exact ck_vret rfl rfl rfl dX12_negation_110 ⟨rfl, rfl, hq⟩
set_option maxHeartbeats 4000000 in
set_option maxRecDepth 100000 in
theorem c_X12_negationB {gr : Bool} {h : ck_H} {Q : ck_H → Prop} {E : ck_H → (ck_H → Prop) → Prop} {dE : Nat} (hE : ∀ {gr : Bool} {h : ck_H} {Q : ck_H → Prop}, E h Q → ck_M yX12_expression cX12_expression 1 none dE 0 0 gr ck_shM h [.ref 0] (ck_Qv ck_shM Q)) {N : ck_H → (ck_H → Prop) → Prop} {dN : Nat} (hdN : dE + 12 ≤ dN) (hN : ∀ {gr : Bool} {h : ck_H} {Q : ck_H → Prop}, N h Q → ck_M yX12_negation cX12_negation 2 none dN 0 0 gr ck_shM h [.ref 0] (ck_Qv ck_shM Q)) (hq : wp_X12_negationB E N h Q) : ck_M yX12_negation cX12_negation 2 none (dN + 1) 0 0 gr ck_shM h [.ref 0] (ck_Qv ck_shM Q) := by
  refine ck_entry (lv := [(0, .ref 0)]) false (own := RX12) rfl (fun q => by cases q) (by decide) (Nat.le_of_ble_eq_true rfl) rfl ?_
  refine ck_aload_n 0 dX12_negation_0 rfl rfl ?_
  refine ck_bipush (v := 12) dX12_negation_1 (by decide) ?_
  refine ck_callV (c_X12_isWord hq) rfl cal_X12_isWord rfl ml_X12_261 vir_X12_isWord rfl rfl (by omega) (by omega) (Nat.le_of_ble_eq_true rfl) (by decide) (by decide) dX12_negation_3 ?_
  rintro _ _ h1 ⟨r2, rfl, rfl, hq⟩
  refine ck_if_eq (tgt := 30) dX12_negation_6 (by decide) (fun c3 => ?_) (fun c3 => ?_)
  · have hq := hq.1 c3
    refine ck_aload_n 0 dX12_negation_30 rfl rfl ?_
    refine ck_callV (c_X12_sum hE hq) rfl cal_X12_sum rfl ml_X12_273 vir_X12_sum rfl rfl (by omega) (by omega) (Nat.le_of_ble_eq_true rfl) (by decide) (by decide) dX12_negation_31 ?_
    rintro _ _ h4 ⟨rfl, rfl, hq⟩
    refine ck_aload_n 0 dX12_negation_34 rfl rfl ?_
    refine ck_getI clX12 26 rfl rfl (by decide) fl_X12_199 dX12_negation_35 ?_
    refine ck_if_ne (tgt := 86) dX12_negation_38 (by decide) (fun c5 => ?_) (fun c5 => ?_)
    · have hq := hq.1 c5
      exact ck_vret rfl rfl rfl dX12_negation_86 ⟨rfl, rfl, hq⟩
    · have hq := hq.2 c5
      refine ck_aload_n 0 dX12_negation_41 rfl rfl ?_
      refine ck_getI clX12 24 rfl rfl (by decide) fl_X12_164 dX12_negation_42 ?_
      refine ck_iconst (v := 3) dX12_negation_45 (by decide) ?_
      refine ck_icmp_ne (tgt := 86) dX12_negation_46 (by decide) (fun c6 => ?_) (fun c6 => ?_)
      · have hq := hq.1 c6
        exact ck_vret rfl rfl rfl dX12_negation_86 ⟨rfl, rfl, hq⟩
      · have hq := hq.2 c6
        refine ck_aload_n 0 dX12_negation_49 rfl rfl ?_
        refine ck_getI clX12 25 rfl rfl (by decide) fl_X12_174 dX12_negation_50 ?_
        refine ck_bipush (v := 60) dX12_negation_53 (by decide) ?_
        refine ck_icmp_eq (tgt := 87) dX12_negation_55 (by decide) (fun c7 => ?_) (fun c7 => ?_)
        · have hq := hq.1 c7
          exact cp_X12_negation_87 hE hdN hN  _ hq
        · have hq := hq.2 c7
          refine ck_aload_n 0 dX12_negation_58 rfl rfl ?_
          refine ck_getI clX12 25 rfl rfl (by decide) fl_X12_174 dX12_negation_59 ?_
          refine ck_bipush (v := 62) dX12_negation_62 (by decide) ?_
          refine ck_icmp_eq (tgt := 87) dX12_negation_64 (by decide) (fun c13 => ?_) (fun c13 => ?_)
          · have hq := hq.1 c13
            exact cp_X12_negation_87 hE hdN hN  _ hq
          · have hq := hq.2 c13
            refine ck_aload_n 0 dX12_negation_67 rfl rfl ?_
            refine ck_getI clX12 25 rfl rfl (by decide) fl_X12_174 dX12_negation_68 ?_
            refine ck_bipush (v := 61) dX12_negation_71 (by decide) ?_
            refine ck_icmp_eq (tgt := 87) dX12_negation_73 (by decide) (fun c14 => ?_) (fun c14 => ?_)
            · have hq := hq.1 c14
              exact cp_X12_negation_87 hE hdN hN  _ hq
            · have hq := hq.2 c14
              refine ck_aload_n 0 dX12_negation_76 rfl rfl ?_
              refine ck_getI clX12 25 rfl rfl (by decide) fl_X12_174 dX12_negation_77 ?_
              refine ck_sipush (v := 256) dX12_negation_80 (by decide) ?_
              refine ck_icmp_ge (tgt := 87) dX12_negation_83 (by decide) (fun c15 => ?_) (fun c15 => ?_)
              · have hq := hq.1 c15
                exact cp_X12_negation_87 hE hdN hN  _ hq
              · have hq := hq.2 c15
                exact ck_vret rfl rfl rfl dX12_negation_86 ⟨rfl, rfl, hq⟩
  · have hq := hq.2 c3
    refine ck_aload_n 0 dX12_negation_9 rfl rfl ?_
    refine ck_callV (c_X12_knot hq) rfl cal_X12_knot rfl ml_X12_264 vir_X12_knot rfl rfl (by omega) (by omega) (Nat.le_of_ble_eq_true rfl) (by decide) (by decide) dX12_negation_10 ?_
    rintro _ _ h16 ⟨rfl, rfl, hq⟩
    refine ck_aload_n 0 dX12_negation_13 rfl rfl ?_
    refine ck_callV (c_X12_goOn hq) rfl cal_X12_goOn rfl ml_X12_215 vir_X12_goOn rfl rfl (by omega) (by omega) (Nat.le_of_ble_eq_true rfl) (by decide) (by decide) dX12_negation_14 ?_
    rintro _ _ h17 ⟨rfl, rfl, hq⟩
    refine ck_aload_n 0 dX12_negation_17 rfl rfl ?_
    refine ck_callV (hN hq) rfl cal_X12_negation rfl ml_X12_270 vir_X12_negation rfl rfl (by omega) (by omega) (Nat.le_of_ble_eq_true rfl) (by decide) (by decide) dX12_negation_18 ?_
    rintro _ _ h18 ⟨rfl, rfl, hq⟩
    refine ck_aload_n 0 dX12_negation_21 rfl rfl ?_
    refine ck_iconst (v := 2) dX12_negation_22 (by decide) ?_
    refine ck_sipush (v := 260) dX12_negation_23 (by decide) ?_
    refine ck_callV (c_X12_puts hq) rfl cal_X12_puts rfl ml_X12_267 vir_X12_puts rfl rfl (by omega) (by omega) (Nat.le_of_ble_eq_true rfl) (by decide) (by decide) dX12_negation_26 ?_
    rintro _ _ h19 ⟨rfl, rfl, hq⟩
    exact ck_vret rfl rfl rfl dX12_negation_29 ⟨rfl, rfl, hq⟩
set_option maxHeartbeats 4000000 in
set_option maxRecDepth 100000 in
theorem c_X12_negation {E : ck_H → (ck_H → Prop) → Prop} {dE : Nat} (hE : ∀ {gr : Bool} {h : ck_H} {Q : ck_H → Prop}, E h Q → ck_M yX12_expression cX12_expression 1 none dE 0 0 gr ck_shM h [.ref 0] (ck_Qv ck_shM Q)) : ∀ (k : Nat) {gr : Bool} {h : ck_H} {Q : ck_H → Prop}, wp_X12_negation E k h Q → ck_M yX12_negation cX12_negation 2 none (dE + 12 + k) 0 0 gr ck_shM h [.ref 0] (ck_Qv ck_shM Q) := by
  intro k
  induction k with
  | zero => intro gr h Q hq; exact hq.elim
  | succ k ih => intro gr h Q hq; exact c_X12_negationB (dN := dE + 12 + k) hE (by omega) (fun q => ih q) hq
def wp_X12_conjunction_4 (Q : ck_H → Prop) (E : ck_H → (ck_H → Prop) → Prop) : Nat → ck_H → Prop
  | 0 => fun _ => False
  | n + 1 => fun h => (wp_X12_isWord (11 : Int32) h (fun r3 h2 => ((r3 = 0 → Q h2) ∧ (¬ r3 = 0 → (wp_X12_knot h2 (fun h5 => (wp_X12_goOn h5 (fun h6 => (wp_X12_negation E 70 h6 (fun h7 => (wp_X12_puts (2 : Int32) (261 : Int32) h7 (fun h8 => (wp_X12_conjunction_4 Q E n) h8))))))))))))
def wp_X12_conjunction (E : ck_H → (ck_H → Prop) → Prop) (h : ck_H) (Q : ck_H → Prop) : Prop := (wp_X12_negation E 70 h (fun h1 => wp_X12_conjunction_4 Q E lpN h1))
set_option maxHeartbeats 4000000 in
set_option maxRecDepth 100000 in
theorem cp_X12_conjunction_4 {gr : Bool} {Q : ck_H → Prop} {E : ck_H → (ck_H → Prop) → Prop} {dE : Nat} (hE : ∀ {gr : Bool} {h : ck_H} {Q : ck_H → Prop}, E h Q → ck_M yX12_expression cX12_expression 1 none dE 0 0 gr ck_shM h [.ref 0] (ck_Qv ck_shM Q)) : ∀ (n : Nat) (h : ck_H), wp_X12_conjunction_4 Q E n h → ck_W cX12_conjunction 1 RX12 none (dE + 83) 0 0 false gr (ck_Qv ck_shM Q) ck_shM h 0 0 4 [(0, .ref 0)] [] := by
  intro n
  induction n with
  | zero => intro h hq; exact hq.elim
  | succ n hKc =>
    intro h hq
    unfold wp_X12_conjunction_4 at hq
    refine ck_aload_n 0 dX12_conjunction_4 rfl rfl ?_
    refine ck_bipush (v := 11) dX12_conjunction_5 (by decide) ?_
    refine ck_callV (c_X12_isWord hq) rfl cal_X12_isWord rfl ml_X12_261 vir_X12_isWord rfl rfl (by omega) (by omega) (Nat.le_of_ble_eq_true rfl) (by decide) (by decide) dX12_conjunction_7 ?_
    rintro _ _ h2 ⟨r3, rfl, rfl, hq⟩
    refine ck_if_eq (tgt := 36) dX12_conjunction_10 (by decide) (fun c4 => ?_) (fun c4 => ?_)
    · have hq := hq.1 c4
      exact ck_vret rfl rfl rfl dX12_conjunction_36 ⟨rfl, rfl, hq⟩
    · have hq := hq.2 c4
      refine ck_aload_n 0 dX12_conjunction_13 rfl rfl ?_
      refine ck_callV (c_X12_knot hq) rfl cal_X12_knot rfl ml_X12_264 vir_X12_knot rfl rfl (by omega) (by omega) (Nat.le_of_ble_eq_true rfl) (by decide) (by decide) dX12_conjunction_14 ?_
      rintro _ _ h5 ⟨rfl, rfl, hq⟩
      refine ck_aload_n 0 dX12_conjunction_17 rfl rfl ?_
      refine ck_callV (c_X12_goOn hq) rfl cal_X12_goOn rfl ml_X12_215 vir_X12_goOn rfl rfl (by omega) (by omega) (Nat.le_of_ble_eq_true rfl) (by decide) (by decide) dX12_conjunction_18 ?_
      rintro _ _ h6 ⟨rfl, rfl, hq⟩
      refine ck_aload_n 0 dX12_conjunction_21 rfl rfl ?_
      refine ck_callV (c_X12_negation hE 70 hq) rfl cal_X12_negation rfl ml_X12_270 vir_X12_negation rfl rfl (by omega) (by omega) (Nat.le_of_ble_eq_true rfl) (by decide) (by decide) dX12_conjunction_22 ?_
      rintro _ _ h7 ⟨rfl, rfl, hq⟩
      refine ck_aload_n 0 dX12_conjunction_25 rfl rfl ?_
      refine ck_iconst (v := 2) dX12_conjunction_26 (by decide) ?_
      refine ck_sipush (v := 261) dX12_conjunction_27 (by decide) ?_
      refine ck_callV (c_X12_puts hq) rfl cal_X12_puts rfl ml_X12_267 vir_X12_puts rfl rfl (by omega) (by omega) (Nat.le_of_ble_eq_true rfl) (by decide) (by decide) dX12_conjunction_30 ?_
      rintro _ _ h8 ⟨rfl, rfl, hq⟩
      refine ck_goto (tgt := 4) dX12_conjunction_33 (by decide) ?_
      exact hKc  _ hq
set_option maxHeartbeats 4000000 in
set_option maxRecDepth 100000 in
theorem c_X12_conjunction {gr : Bool} {h : ck_H} {Q : ck_H → Prop} {E : ck_H → (ck_H → Prop) → Prop} {dE : Nat} (hE : ∀ {gr : Bool} {h : ck_H} {Q : ck_H → Prop}, E h Q → ck_M yX12_expression cX12_expression 1 none dE 0 0 gr ck_shM h [.ref 0] (ck_Qv ck_shM Q)) (hq : wp_X12_conjunction E h Q) : ck_M yX12_conjunction cX12_conjunction 1 none (dE + 83) 0 0 gr ck_shM h [.ref 0] (ck_Qv ck_shM Q) := by
  refine ck_entry (lv := [(0, .ref 0)]) false (own := RX12) rfl (fun q => by cases q) (by decide) (Nat.le_of_ble_eq_true rfl) rfl ?_
  refine ck_aload_n 0 dX12_conjunction_0 rfl rfl ?_
  refine ck_callV (c_X12_negation hE 70 hq) rfl cal_X12_negation rfl ml_X12_270 vir_X12_negation rfl rfl (by omega) (by omega) (Nat.le_of_ble_eq_true rfl) (by decide) (by decide) dX12_conjunction_1 ?_
  rintro _ _ h1 ⟨rfl, rfl, hq⟩
  refine cp_X12_conjunction_4 hE lpN  _ hq
def wp_X12_expression_4 (Q : ck_H → Prop) (E : ck_H → (ck_H → Prop) → Prop) : Nat → ck_H → Prop
  | 0 => fun _ => False
  | n + 1 => fun h => (wp_X12_isWord (10 : Int32) h (fun r3 h2 => ((r3 = 0 → Q h2) ∧ (¬ r3 = 0 → (wp_X12_knot h2 (fun h5 => (wp_X12_goOn h5 (fun h6 => (wp_X12_conjunction E h6 (fun h7 => (wp_X12_puts (2 : Int32) (262 : Int32) h7 (fun h8 => (wp_X12_expression_4 Q E n) h8))))))))))))
def wp_X12_expressionB (E : ck_H → (ck_H → Prop) → Prop) (h : ck_H) (Q : ck_H → Prop) : Prop := (wp_X12_conjunction E h (fun h1 => wp_X12_expression_4 Q E lpN h1))
def wp_X12_expression : Nat → ck_H → (ck_H → Prop) → Prop
  | 0 => fun _ _ => False
  | k + 1 => fun h Q => wp_X12_expressionB (wp_X12_expression k) h Q
set_option maxHeartbeats 4000000 in
set_option maxRecDepth 100000 in
theorem cp_X12_expression_4 {gr : Bool} {Q : ck_H → Prop} {E : ck_H → (ck_H → Prop) → Prop} {dE : Nat} (hE : ∀ {gr : Bool} {h : ck_H} {Q : ck_H → Prop}, E h Q → ck_M yX12_expression cX12_expression 1 none dE 0 0 gr ck_shM h [.ref 0] (ck_Qv ck_shM Q)) : ∀ (n : Nat) (h : ck_H), wp_X12_expression_4 Q E n h → ck_W cX12_expression 1 RX12 none (dE + 84) 0 0 false gr (ck_Qv ck_shM Q) ck_shM h 0 0 4 [(0, .ref 0)] [] := by
  intro n
  induction n with
  | zero => intro h hq; exact hq.elim
  | succ n hKc =>
    intro h hq
    unfold wp_X12_expression_4 at hq
    refine ck_aload_n 0 dX12_expression_4 rfl rfl ?_
    refine ck_bipush (v := 10) dX12_expression_5 (by decide) ?_
    refine ck_callV (c_X12_isWord hq) rfl cal_X12_isWord rfl ml_X12_261 vir_X12_isWord rfl rfl (by omega) (by omega) (Nat.le_of_ble_eq_true rfl) (by decide) (by decide) dX12_expression_7 ?_
    rintro _ _ h2 ⟨r3, rfl, rfl, hq⟩
    refine ck_if_eq (tgt := 36) dX12_expression_10 (by decide) (fun c4 => ?_) (fun c4 => ?_)
    · have hq := hq.1 c4
      exact ck_vret rfl rfl rfl dX12_expression_36 ⟨rfl, rfl, hq⟩
    · have hq := hq.2 c4
      refine ck_aload_n 0 dX12_expression_13 rfl rfl ?_
      refine ck_callV (c_X12_knot hq) rfl cal_X12_knot rfl ml_X12_264 vir_X12_knot rfl rfl (by omega) (by omega) (Nat.le_of_ble_eq_true rfl) (by decide) (by decide) dX12_expression_14 ?_
      rintro _ _ h5 ⟨rfl, rfl, hq⟩
      refine ck_aload_n 0 dX12_expression_17 rfl rfl ?_
      refine ck_callV (c_X12_goOn hq) rfl cal_X12_goOn rfl ml_X12_215 vir_X12_goOn rfl rfl (by omega) (by omega) (Nat.le_of_ble_eq_true rfl) (by decide) (by decide) dX12_expression_18 ?_
      rintro _ _ h6 ⟨rfl, rfl, hq⟩
      refine ck_aload_n 0 dX12_expression_21 rfl rfl ?_
      refine ck_callV (c_X12_conjunction hE hq) rfl cal_X12_conjunction rfl ml_X12_258 vir_X12_conjunction rfl rfl (by omega) (by omega) (Nat.le_of_ble_eq_true rfl) (by decide) (by decide) dX12_expression_22 ?_
      rintro _ _ h7 ⟨rfl, rfl, hq⟩
      refine ck_aload_n 0 dX12_expression_25 rfl rfl ?_
      refine ck_iconst (v := 2) dX12_expression_26 (by decide) ?_
      refine ck_sipush (v := 262) dX12_expression_27 (by decide) ?_
      refine ck_callV (c_X12_puts hq) rfl cal_X12_puts rfl ml_X12_267 vir_X12_puts rfl rfl (by omega) (by omega) (Nat.le_of_ble_eq_true rfl) (by decide) (by decide) dX12_expression_30 ?_
      rintro _ _ h8 ⟨rfl, rfl, hq⟩
      refine ck_goto (tgt := 4) dX12_expression_33 (by decide) ?_
      exact hKc  _ hq
set_option maxHeartbeats 4000000 in
set_option maxRecDepth 100000 in
theorem c_X12_expressionB {gr : Bool} {h : ck_H} {Q : ck_H → Prop} {E : ck_H → (ck_H → Prop) → Prop} {dE : Nat} (hE : ∀ {gr : Bool} {h : ck_H} {Q : ck_H → Prop}, E h Q → ck_M yX12_expression cX12_expression 1 none dE 0 0 gr ck_shM h [.ref 0] (ck_Qv ck_shM Q)) (hq : wp_X12_expressionB E h Q) : ck_M yX12_expression cX12_expression 1 none (dE + 84) 0 0 gr ck_shM h [.ref 0] (ck_Qv ck_shM Q) := by
  refine ck_entry (lv := [(0, .ref 0)]) false (own := RX12) rfl (fun q => by cases q) (by decide) (Nat.le_of_ble_eq_true rfl) rfl ?_
  refine ck_aload_n 0 dX12_expression_0 rfl rfl ?_
  refine ck_callV (c_X12_conjunction hE hq) rfl cal_X12_conjunction rfl ml_X12_258 vir_X12_conjunction rfl rfl (by omega) (by omega) (Nat.le_of_ble_eq_true rfl) (by decide) (by decide) dX12_expression_1 ?_
  rintro _ _ h1 ⟨rfl, rfl, hq⟩
  refine cp_X12_expression_4 hE lpN  _ hq
set_option maxHeartbeats 4000000 in
set_option maxRecDepth 100000 in
theorem c_X12_expression : ∀ (k : Nat) {gr : Bool} {h : ck_H} {Q : ck_H → Prop}, wp_X12_expression k h Q → ck_M yX12_expression cX12_expression 1 none (84 * k) 0 0 gr ck_shM h [.ref 0] (ck_Qv ck_shM Q) := by
  intro k
  induction k with
  | zero => intro gr h Q hq; exact hq.elim
  | succ k ih => intro gr h Q hq; exact c_X12_expressionB (dE := 84 * k) (fun q => ih q) hq
