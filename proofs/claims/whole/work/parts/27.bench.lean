theorem dX11_init_0 : decode cX11_init 0 = .ok (.aload_n 0, 1) := by decide +kernel
theorem dX11_init_1 : decode cX11_init 1 = .ok (.invokespecial 3, 3) := by decide +kernel
theorem dX11_init_4 : decode cX11_init 4 = .ok (.aload_n 0, 1) := by decide +kernel
theorem dX11_init_5 : decode cX11_init 5 = .ok (.sipush 700, 3) := by decide +kernel
theorem dX11_init_8 : decode cX11_init 8 = .ok (.newarray .byte, 2) := by decide +kernel
theorem dX11_init_10 : decode cX11_init 10 = .ok (.putfield 11, 3) := by decide +kernel
theorem dX11_init_13 : decode cX11_init 13 = .ok (.aload_n 0, 1) := by decide +kernel
theorem dX11_init_14 : decode cX11_init 14 = .ok (.new 15, 3) := by decide +kernel
theorem dX11_init_17 : decode cX11_init 17 = .ok (.dup, 1) := by decide +kernel
theorem dX11_init_18 : decode cX11_init 18 = .ok (.aload_n 0, 1) := by decide +kernel
theorem dX11_init_19 : decode cX11_init 19 = .ok (.getfield 11, 3) := by decide +kernel
theorem dX11_init_22 : decode cX11_init 22 = .ok (.invokespecial 17, 3) := by decide +kernel
theorem dX11_init_25 : decode cX11_init 25 = .ok (.putfield 20, 3) := by decide +kernel
theorem dX11_init_28 : decode cX11_init 28 = .ok (.aload_n 0, 1) := by decide +kernel
theorem dX11_init_29 : decode cX11_init 29 = .ok (.new 24, 3) := by decide +kernel
theorem dX11_init_32 : decode cX11_init 32 = .ok (.dup, 1) := by decide +kernel
theorem dX11_init_33 : decode cX11_init 33 = .ok (.invokespecial 26, 3) := by decide +kernel
theorem dX11_init_36 : decode cX11_init 36 = .ok (.putfield 27, 3) := by decide +kernel
theorem dX11_init_39 : decode cX11_init 39 = .ok (.aload_n 0, 1) := by decide +kernel
theorem dX11_init_40 : decode cX11_init 40 = .ok (.new 24, 3) := by decide +kernel
theorem dX11_init_43 : decode cX11_init 43 = .ok (.dup, 1) := by decide +kernel
theorem dX11_init_44 : decode cX11_init 44 = .ok (.invokespecial 26, 3) := by decide +kernel
theorem dX11_init_47 : decode cX11_init 47 = .ok (.putfield 31, 3) := by decide +kernel
theorem dX11_init_50 : decode cX11_init 50 = .ok (.aload_n 0, 1) := by decide +kernel
theorem dX11_init_51 : decode cX11_init 51 = .ok (.new 24, 3) := by decide +kernel
theorem dX11_init_54 : decode cX11_init 54 = .ok (.dup, 1) := by decide +kernel
theorem dX11_init_55 : decode cX11_init 55 = .ok (.invokespecial 26, 3) := by decide +kernel
theorem dX11_init_58 : decode cX11_init 58 = .ok (.putfield 34, 3) := by decide +kernel
theorem dX11_init_61 : decode cX11_init 61 = .ok (.aload_n 0, 1) := by decide +kernel
theorem dX11_init_62 : decode cX11_init 62 = .ok (.new 37, 3) := by decide +kernel
theorem dX11_init_65 : decode cX11_init 65 = .ok (.dup, 1) := by decide +kernel
theorem dX11_init_66 : decode cX11_init 66 = .ok (.invokespecial 39, 3) := by decide +kernel
theorem dX11_init_69 : decode cX11_init 69 = .ok (.putfield 40, 3) := by decide +kernel
theorem dX11_init_72 : decode cX11_init 72 = .ok (.aload_n 0, 1) := by decide +kernel
theorem dX11_init_73 : decode cX11_init 73 = .ok (.new 44, 3) := by decide +kernel
theorem dX11_init_76 : decode cX11_init 76 = .ok (.dup, 1) := by decide +kernel
theorem dX11_init_77 : decode cX11_init 77 = .ok (.invokespecial 46, 3) := by decide +kernel
theorem dX11_init_80 : decode cX11_init 80 = .ok (.putfield 47, 3) := by decide +kernel
theorem dX11_init_83 : decode cX11_init 83 = .ok (.aload_n 0, 1) := by decide +kernel
theorem dX11_init_84 : decode cX11_init 84 = .ok (.new 51, 3) := by decide +kernel
theorem dX11_init_87 : decode cX11_init 87 = .ok (.dup, 1) := by decide +kernel
theorem dX11_init_88 : decode cX11_init 88 = .ok (.invokespecial 53, 3) := by decide +kernel
theorem dX11_init_91 : decode cX11_init 91 = .ok (.putfield 54, 3) := by decide +kernel
theorem dX11_init_94 : decode cX11_init 94 = .ok (.aload_n 0, 1) := by decide +kernel
theorem dX11_init_95 : decode cX11_init 95 = .ok (.new 51, 3) := by decide +kernel
theorem dX11_init_98 : decode cX11_init 98 = .ok (.dup, 1) := by decide +kernel
theorem dX11_init_99 : decode cX11_init 99 = .ok (.invokespecial 53, 3) := by decide +kernel
theorem dX11_init_102 : decode cX11_init 102 = .ok (.putfield 58, 3) := by decide +kernel
theorem dX11_init_105 : decode cX11_init 105 = .ok (.aload_n 0, 1) := by decide +kernel
theorem dX11_init_106 : decode cX11_init 106 = .ok (.iconst (-1), 1) := by decide +kernel
theorem dX11_init_107 : decode cX11_init 107 = .ok (.putfield 61, 3) := by decide +kernel
theorem dX11_init_110 : decode cX11_init 110 = .ok (.aload_n 0, 1) := by decide +kernel
theorem dX11_init_111 : decode cX11_init 111 = .ok (.new 65, 3) := by decide +kernel
theorem dX11_init_114 : decode cX11_init 114 = .ok (.dup, 1) := by decide +kernel
theorem dX11_init_115 : decode cX11_init 115 = .ok (.aload_n 0, 1) := by decide +kernel
theorem dX11_init_116 : decode cX11_init 116 = .ok (.getfield 54, 3) := by decide +kernel
theorem dX11_init_119 : decode cX11_init 119 = .ok (.invokespecial 67, 3) := by decide +kernel
theorem dX11_init_122 : decode cX11_init 122 = .ok (.putfield 70, 3) := by decide +kernel
theorem dX11_init_125 : decode cX11_init 125 = .ok (.aload_n 0, 1) := by decide +kernel
theorem dX11_init_126 : decode cX11_init 126 = .ok (.new 74, 3) := by decide +kernel
theorem dX11_init_129 : decode cX11_init 129 = .ok (.dup, 1) := by decide +kernel
theorem dX11_init_130 : decode cX11_init 130 = .ok (.aload_n 0, 1) := by decide +kernel
theorem dX11_init_131 : decode cX11_init 131 = .ok (.getfield 70, 3) := by decide +kernel
theorem dX11_init_134 : decode cX11_init 134 = .ok (.aload_n 0, 1) := by decide +kernel
theorem dX11_init_135 : decode cX11_init 135 = .ok (.getfield 27, 3) := by decide +kernel
theorem dX11_init_138 : decode cX11_init 138 = .ok (.aload_n 0, 1) := by decide +kernel
theorem dX11_init_139 : decode cX11_init 139 = .ok (.getfield 34, 3) := by decide +kernel
theorem dX11_init_142 : decode cX11_init 142 = .ok (.invokespecial 76, 3) := by decide +kernel
theorem dX11_init_145 : decode cX11_init 145 = .ok (.putfield 79, 3) := by decide +kernel
theorem dX11_init_148 : decode cX11_init 148 = .ok (.aload_n 0, 1) := by decide +kernel
theorem dX11_init_149 : decode cX11_init 149 = .ok (.getfield 27, 3) := by decide +kernel
theorem dX11_init_152 : decode cX11_init 152 = .ok (.aload_n 0, 1) := by decide +kernel
theorem dX11_init_153 : decode cX11_init 153 = .ok (.getfield 54, 3) := by decide +kernel
theorem dX11_init_156 : decode cX11_init 156 = .ok (.invokevirtual 83, 3) := by decide +kernel
theorem dX11_init_159 : decode cX11_init 159 = .ok (.return_, 1) := by decide +kernel
theorem dX11_feed_0 : decode cX11_feed 0 = .ok (.aload_n 0, 1) := by decide +kernel
theorem dX11_feed_1 : decode cX11_feed 1 = .ok (.getfield 86, 3) := by decide +kernel
theorem dX11_feed_4 : decode cX11_feed 4 = .ok (.bipush 20, 2) := by decide +kernel
theorem dX11_feed_6 : decode cX11_feed 6 = .ok (.iadd, 1) := by decide +kernel
theorem dX11_feed_7 : decode cX11_feed 7 = .ok (.sipush 700, 3) := by decide +kernel
theorem dX11_feed_10 : decode cX11_feed 10 = .ok (.if_icmp .le 5, 3) := by decide +kernel
theorem dX11_feed_13 : decode cX11_feed 13 = .ok (.iconst (-1), 1) := by decide +kernel
theorem dX11_feed_14 : decode cX11_feed 14 = .ok (.ireturn, 1) := by decide +kernel
theorem dX11_feed_15 : decode cX11_feed 15 = .ok (.aload_n 0, 1) := by decide +kernel
theorem dX11_feed_16 : decode cX11_feed 16 = .ok (.iload_n 1, 1) := by decide +kernel
theorem dX11_feed_17 : decode cX11_feed 17 = .ok (.invokevirtual 89, 3) := by decide +kernel
theorem dX11_feed_20 : decode cX11_feed 20 = .ok (.aload_n 0, 1) := by decide +kernel
theorem dX11_feed_21 : decode cX11_feed 21 = .ok (.iload_n 2, 1) := by decide +kernel
theorem dX11_feed_22 : decode cX11_feed 22 = .ok (.invokevirtual 89, 3) := by decide +kernel
theorem dX11_feed_25 : decode cX11_feed 25 = .ok (.aload_n 0, 1) := by decide +kernel
theorem dX11_feed_26 : decode cX11_feed 26 = .ok (.iload_n 3, 1) := by decide +kernel
theorem dX11_feed_27 : decode cX11_feed 27 = .ok (.invokevirtual 89, 3) := by decide +kernel
theorem dX11_feed_30 : decode cX11_feed 30 = .ok (.aload_n 0, 1) := by decide +kernel
theorem dX11_feed_31 : decode cX11_feed 31 = .ok (.iload 4, 2) := by decide +kernel
theorem dX11_feed_33 : decode cX11_feed 33 = .ok (.invokevirtual 89, 3) := by decide +kernel
theorem dX11_feed_36 : decode cX11_feed 36 = .ok (.aload_n 0, 1) := by decide +kernel
theorem dX11_feed_37 : decode cX11_feed 37 = .ok (.iload 5, 2) := by decide +kernel
theorem dX11_feed_39 : decode cX11_feed 39 = .ok (.invokevirtual 89, 3) := by decide +kernel
theorem dX11_feed_42 : decode cX11_feed 42 = .ok (.aload_n 0, 1) := by decide +kernel
theorem dX11_feed_43 : decode cX11_feed 43 = .ok (.getfield 86, 3) := by decide +kernel
theorem dX11_feed_46 : decode cX11_feed 46 = .ok (.ireturn, 1) := by decide +kernel
theorem dX11_text_0 : decode cX11_text 0 = .ok (.iload_n 1, 1) := by decide +kernel
theorem dX11_text_1 : decode cX11_text 1 = .ok (.ifCond .lt 11, 3) := by decide +kernel
theorem dX11_text_4 : decode cX11_text 4 = .ok (.iload_n 1, 1) := by decide +kernel
theorem dX11_text_5 : decode cX11_text 5 = .ok (.aload_n 0, 1) := by decide +kernel
theorem dX11_text_6 : decode cX11_text 6 = .ok (.getfield 86, 3) := by decide +kernel
theorem dX11_text_9 : decode cX11_text 9 = .ok (.if_icmp .le 6, 3) := by decide +kernel
theorem dX11_text_12 : decode cX11_text 12 = .ok (.bipush (-2), 2) := by decide +kernel
theorem dX11_text_14 : decode cX11_text 14 = .ok (.ireturn, 1) := by decide +kernel
theorem dX11_text_15 : decode cX11_text 15 = .ok (.aload_n 0, 1) := by decide +kernel
theorem dX11_text_16 : decode cX11_text 16 = .ok (.iconst 0, 1) := by decide +kernel
theorem dX11_text_17 : decode cX11_text 17 = .ok (.putfield 86, 3) := by decide +kernel
theorem dX11_text_20 : decode cX11_text 20 = .ok (.aload_n 0, 1) := by decide +kernel
theorem dX11_text_21 : decode cX11_text 21 = .ok (.aload_n 0, 1) := by decide +kernel
theorem dX11_text_22 : decode cX11_text 22 = .ok (.getfield 20, 3) := by decide +kernel
theorem dX11_text_25 : decode cX11_text 25 = .ok (.aload_n 0, 1) := by decide +kernel
theorem dX11_text_26 : decode cX11_text 26 = .ok (.getfield 58, 3) := by decide +kernel
theorem dX11_text_29 : decode cX11_text 29 = .ok (.iload_n 1, 1) := by decide +kernel
theorem dX11_text_30 : decode cX11_text 30 = .ok (.invokevirtual 93, 3) := by decide +kernel
theorem dX11_text_33 : decode cX11_text 33 = .ok (.putfield 97, 3) := by decide +kernel
theorem dX11_text_36 : decode cX11_text 36 = .ok (.aload_n 0, 1) := by decide +kernel
theorem dX11_text_37 : decode cX11_text 37 = .ok (.aload_n 0, 1) := by decide +kernel
theorem dX11_text_38 : decode cX11_text 38 = .ok (.getfield 97, 3) := by decide +kernel
theorem dX11_text_41 : decode cX11_text 41 = .ok (.ifCond .ne 7, 3) := by decide +kernel
theorem dX11_text_44 : decode cX11_text 44 = .ok (.iconst (-1), 1) := by decide +kernel
theorem dX11_text_45 : decode cX11_text 45 = .ok (.goto 10, 3) := by decide +kernel
theorem dX11_text_48 : decode cX11_text 48 = .ok (.aload_n 0, 1) := by decide +kernel
theorem dX11_text_49 : decode cX11_text 49 = .ok (.getfield 20, 3) := by decide +kernel
theorem dX11_text_52 : decode cX11_text 52 = .ok (.invokevirtual 100, 3) := by decide +kernel
theorem dX11_text_55 : decode cX11_text 55 = .ok (.putfield 61, 3) := by decide +kernel
theorem dX11_text_58 : decode cX11_text 58 = .ok (.aload_n 0, 1) := by decide +kernel
theorem dX11_text_59 : decode cX11_text 59 = .ok (.getfield 97, 3) := by decide +kernel
theorem dX11_text_62 : decode cX11_text 62 = .ok (.ifCond .eq 5, 3) := by decide +kernel
theorem dX11_text_65 : decode cX11_text 65 = .ok (.iconst (-1), 1) := by decide +kernel
theorem dX11_text_66 : decode cX11_text 66 = .ok (.ireturn, 1) := by decide +kernel
theorem dX11_text_67 : decode cX11_text 67 = .ok (.aload_n 0, 1) := by decide +kernel
theorem dX11_text_68 : decode cX11_text 68 = .ok (.getfield 54, 3) := by decide +kernel
theorem dX11_text_71 : decode cX11_text 71 = .ok (.astore_n 2, 1) := by decide +kernel
theorem dX11_text_72 : decode cX11_text 72 = .ok (.aload_n 0, 1) := by decide +kernel
theorem dX11_text_73 : decode cX11_text 73 = .ok (.aload_n 0, 1) := by decide +kernel
theorem dX11_text_74 : decode cX11_text 74 = .ok (.getfield 58, 3) := by decide +kernel
theorem dX11_text_77 : decode cX11_text 77 = .ok (.putfield 54, 3) := by decide +kernel
theorem dX11_text_80 : decode cX11_text 80 = .ok (.aload_n 0, 1) := by decide +kernel
theorem dX11_text_81 : decode cX11_text 81 = .ok (.aload_n 2, 1) := by decide +kernel
theorem dX11_text_82 : decode cX11_text 82 = .ok (.putfield 58, 3) := by decide +kernel
theorem dX11_text_85 : decode cX11_text 85 = .ok (.aload_n 0, 1) := by decide +kernel
theorem dX11_text_86 : decode cX11_text 86 = .ok (.getfield 70, 3) := by decide +kernel
theorem dX11_text_89 : decode cX11_text 89 = .ok (.aload_n 0, 1) := by decide +kernel
theorem dX11_text_90 : decode cX11_text 90 = .ok (.getfield 54, 3) := by decide +kernel
theorem dX11_text_93 : decode cX11_text 93 = .ok (.putfield 104, 3) := by decide +kernel
theorem dX11_text_96 : decode cX11_text 96 = .ok (.aload_n 0, 1) := by decide +kernel
theorem dX11_text_97 : decode cX11_text 97 = .ok (.getfield 27, 3) := by decide +kernel
theorem dX11_text_100 : decode cX11_text 100 = .ok (.aload_n 0, 1) := by decide +kernel
theorem dX11_text_101 : decode cX11_text 101 = .ok (.getfield 54, 3) := by decide +kernel
theorem dX11_text_104 : decode cX11_text 104 = .ok (.invokevirtual 83, 3) := by decide +kernel
theorem dX11_text_107 : decode cX11_text 107 = .ok (.aload_n 0, 1) := by decide +kernel
theorem dX11_text_108 : decode cX11_text 108 = .ok (.getfield 40, 3) := by decide +kernel
theorem dX11_text_111 : decode cX11_text 111 = .ok (.invokevirtual 105, 3) := by decide +kernel
theorem dX11_text_114 : decode cX11_text 114 = .ok (.aload_n 0, 1) := by decide +kernel
theorem dX11_text_115 : decode cX11_text 115 = .ok (.getfield 47, 3) := by decide +kernel
theorem dX11_text_118 : decode cX11_text 118 = .ok (.invokevirtual 108, 3) := by decide +kernel
theorem dX11_text_121 : decode cX11_text 121 = .ok (.aload_n 0, 1) := by decide +kernel
theorem dX11_text_122 : decode cX11_text 122 = .ok (.iconst 0, 1) := by decide +kernel
theorem dX11_text_123 : decode cX11_text 123 = .ok (.putfield 109, 3) := by decide +kernel
theorem dX11_text_126 : decode cX11_text 126 = .ok (.aload_n 0, 1) := by decide +kernel
theorem dX11_text_127 : decode cX11_text 127 = .ok (.getfield 54, 3) := by decide +kernel
theorem dX11_text_130 : decode cX11_text 130 = .ok (.getfield 113, 3) := by decide +kernel
theorem dX11_text_133 : decode cX11_text 133 = .ok (.ireturn, 1) := by decide +kernel
theorem dX11_fault_0 : decode cX11_fault 0 = .ok (.iload_n 1, 1) := by decide +kernel
theorem dX11_fault_1 : decode cX11_fault 1 = .ok (.ifCond .ne 8, 3) := by decide +kernel
theorem dX11_fault_4 : decode cX11_fault 4 = .ok (.aload_n 0, 1) := by decide +kernel
theorem dX11_fault_5 : decode cX11_fault 5 = .ok (.getfield 97, 3) := by decide +kernel
theorem dX11_fault_8 : decode cX11_fault 8 = .ok (.ireturn, 1) := by decide +kernel
theorem dX11_fault_9 : decode cX11_fault 9 = .ok (.iload_n 1, 1) := by decide +kernel
theorem dX11_fault_10 : decode cX11_fault 10 = .ok (.iconst 1, 1) := by decide +kernel
theorem dX11_fault_11 : decode cX11_fault 11 = .ok (.if_icmp .ne 10, 3) := by decide +kernel
theorem dX11_fault_14 : decode cX11_fault 14 = .ok (.aload_n 0, 1) := by decide +kernel
theorem dX11_fault_15 : decode cX11_fault 15 = .ok (.getfield 61, 3) := by decide +kernel
theorem dX11_fault_18 : decode cX11_fault 18 = .ok (.goto 4, 3) := by decide +kernel
theorem dX11_fault_21 : decode cX11_fault 21 = .ok (.iconst (-1), 1) := by decide +kernel
theorem dX11_fault_22 : decode cX11_fault 22 = .ok (.ireturn, 1) := by decide +kernel
theorem dX11_named_0 : decode cX11_named 0 = .ok (.iload_n 1, 1) := by decide +kernel
theorem dX11_named_1 : decode cX11_named 1 = .ok (.tableswitch 63 0 2 #[27, 39, 51], 27) := by decide +kernel
theorem dX11_named_28 : decode cX11_named 28 = .ok (.aload_n 0, 1) := by decide +kernel
theorem dX11_named_29 : decode cX11_named 29 = .ok (.getfield 54, 3) := by decide +kernel
theorem dX11_named_32 : decode cX11_named 32 = .ok (.getfield 116, 3) := by decide +kernel
theorem dX11_named_35 : decode cX11_named 35 = .ok (.iload_n 2, 1) := by decide +kernel
theorem dX11_named_36 : decode cX11_named 36 = .ok (.invokevirtual 120, 3) := by decide +kernel
theorem dX11_named_39 : decode cX11_named 39 = .ok (.ireturn, 1) := by decide +kernel
theorem dX11_named_40 : decode cX11_named 40 = .ok (.aload_n 0, 1) := by decide +kernel
theorem dX11_named_41 : decode cX11_named 41 = .ok (.getfield 54, 3) := by decide +kernel
theorem dX11_named_44 : decode cX11_named 44 = .ok (.getfield 126, 3) := by decide +kernel
theorem dX11_named_47 : decode cX11_named 47 = .ok (.iload_n 2, 1) := by decide +kernel
theorem dX11_named_48 : decode cX11_named 48 = .ok (.invokevirtual 120, 3) := by decide +kernel
theorem dX11_named_51 : decode cX11_named 51 = .ok (.ireturn, 1) := by decide +kernel
theorem dX11_named_52 : decode cX11_named 52 = .ok (.aload_n 0, 1) := by decide +kernel
theorem dX11_named_53 : decode cX11_named 53 = .ok (.getfield 54, 3) := by decide +kernel
theorem dX11_named_56 : decode cX11_named 56 = .ok (.getfield 129, 3) := by decide +kernel
theorem dX11_named_59 : decode cX11_named 59 = .ok (.iload_n 2, 1) := by decide +kernel
theorem dX11_named_60 : decode cX11_named 60 = .ok (.invokevirtual 120, 3) := by decide +kernel
theorem dX11_named_63 : decode cX11_named 63 = .ok (.ireturn, 1) := by decide +kernel
theorem dX11_named_64 : decode cX11_named 64 = .ok (.iconst (-1), 1) := by decide +kernel
theorem dX11_named_65 : decode cX11_named 65 = .ok (.ireturn, 1) := by decide +kernel
theorem dX11_suit_0 : decode cX11_suit 0 = .ok (.aload_n 0, 1) := by decide +kernel
theorem dX11_suit_1 : decode cX11_suit 1 = .ok (.iload_n 1, 1) := by decide +kernel
theorem dX11_suit_2 : decode cX11_suit 2 = .ok (.invokevirtual 132, 3) := by decide +kernel
theorem dX11_suit_5 : decode cX11_suit 5 = .ok (.ifCond .ne 13, 3) := by decide +kernel
theorem dX11_suit_8 : decode cX11_suit 8 = .ok (.new 136, 3) := by decide +kernel
theorem dX11_suit_11 : decode cX11_suit 11 = .ok (.dup, 1) := by decide +kernel
theorem dX11_suit_12 : decode cX11_suit 12 = .ok (.ldc 138, 2) := by decide +kernel
theorem dX11_suit_14 : decode cX11_suit 14 = .ok (.invokespecial 140, 3) := by decide +kernel
theorem dX11_suit_17 : decode cX11_suit 17 = .ok (.athrow, 1) := by decide +kernel
theorem dX11_suit_18 : decode cX11_suit 18 = .ok (.iload_n 2, 1) := by decide +kernel
theorem dX11_suit_19 : decode cX11_suit 19 = .ok (.tableswitch 107 0 5 #[37, 47, 57, 67, 84, 94], 37) := by decide +kernel
theorem dX11_suit_56 : decode cX11_suit 56 = .ok (.aload_n 0, 1) := by decide +kernel
theorem dX11_suit_57 : decode cX11_suit 57 = .ok (.getfield 27, 3) := by decide +kernel
theorem dX11_suit_60 : decode cX11_suit 60 = .ok (.getfield 143, 3) := by decide +kernel
theorem dX11_suit_63 : decode cX11_suit 63 = .ok (.iload_n 1, 1) := by decide +kernel
theorem dX11_suit_64 : decode cX11_suit 64 = .ok (.iaload, 1) := by decide +kernel
theorem dX11_suit_65 : decode cX11_suit 65 = .ok (.ireturn, 1) := by decide +kernel
theorem dX11_suit_66 : decode cX11_suit 66 = .ok (.aload_n 0, 1) := by decide +kernel
theorem dX11_suit_67 : decode cX11_suit 67 = .ok (.getfield 54, 3) := by decide +kernel
theorem dX11_suit_70 : decode cX11_suit 70 = .ok (.getfield 147, 3) := by decide +kernel
theorem dX11_suit_73 : decode cX11_suit 73 = .ok (.iload_n 1, 1) := by decide +kernel
theorem dX11_suit_74 : decode cX11_suit 74 = .ok (.iaload, 1) := by decide +kernel
theorem dX11_suit_75 : decode cX11_suit 75 = .ok (.ireturn, 1) := by decide +kernel
theorem dX11_suit_76 : decode cX11_suit 76 = .ok (.aload_n 0, 1) := by decide +kernel
theorem dX11_suit_77 : decode cX11_suit 77 = .ok (.getfield 27, 3) := by decide +kernel
theorem dX11_suit_80 : decode cX11_suit 80 = .ok (.getfield 150, 3) := by decide +kernel
theorem dX11_suit_83 : decode cX11_suit 83 = .ok (.iload_n 1, 1) := by decide +kernel
theorem dX11_suit_84 : decode cX11_suit 84 = .ok (.iaload, 1) := by decide +kernel
theorem dX11_suit_85 : decode cX11_suit 85 = .ok (.ireturn, 1) := by decide +kernel
theorem dX11_suit_86 : decode cX11_suit 86 = .ok (.aload_n 0, 1) := by decide +kernel
theorem dX11_suit_87 : decode cX11_suit 87 = .ok (.getfield 27, 3) := by decide +kernel
theorem dX11_suit_90 : decode cX11_suit 90 = .ok (.iload_n 1, 1) := by decide +kernel
theorem dX11_suit_91 : decode cX11_suit 91 = .ok (.invokevirtual 153, 3) := by decide +kernel
theorem dX11_suit_94 : decode cX11_suit 94 = .ok (.ifCond .eq 7, 3) := by decide +kernel
theorem dX11_suit_97 : decode cX11_suit 97 = .ok (.iconst 1, 1) := by decide +kernel
theorem dX11_suit_98 : decode cX11_suit 98 = .ok (.goto 4, 3) := by decide +kernel
theorem dX11_suit_101 : decode cX11_suit 101 = .ok (.iconst 0, 1) := by decide +kernel
theorem dX11_suit_102 : decode cX11_suit 102 = .ok (.ireturn, 1) := by decide +kernel
theorem dX11_suit_103 : decode cX11_suit 103 = .ok (.aload_n 0, 1) := by decide +kernel
theorem dX11_suit_104 : decode cX11_suit 104 = .ok (.getfield 27, 3) := by decide +kernel
theorem dX11_suit_107 : decode cX11_suit 107 = .ok (.getfield 156, 3) := by decide +kernel
theorem dX11_suit_110 : decode cX11_suit 110 = .ok (.iload_n 1, 1) := by decide +kernel
theorem dX11_suit_111 : decode cX11_suit 111 = .ok (.iaload, 1) := by decide +kernel
theorem dX11_suit_112 : decode cX11_suit 112 = .ok (.ireturn, 1) := by decide +kernel
theorem dX11_suit_113 : decode cX11_suit 113 = .ok (.aload_n 0, 1) := by decide +kernel
theorem dX11_suit_114 : decode cX11_suit 114 = .ok (.getfield 70, 3) := by decide +kernel
theorem dX11_suit_117 : decode cX11_suit 117 = .ok (.aload_n 0, 1) := by decide +kernel
theorem dX11_suit_118 : decode cX11_suit 118 = .ok (.getfield 27, 3) := by decide +kernel
theorem dX11_suit_121 : decode cX11_suit 121 = .ok (.iload_n 1, 1) := by decide +kernel
theorem dX11_suit_122 : decode cX11_suit 122 = .ok (.invokevirtual 159, 3) := by decide +kernel
theorem dX11_suit_125 : decode cX11_suit 125 = .ok (.ireturn, 1) := by decide +kernel
theorem dX11_suit_126 : decode cX11_suit 126 = .ok (.new 163, 3) := by decide +kernel
theorem dX11_suit_129 : decode cX11_suit 129 = .ok (.dup, 1) := by decide +kernel
theorem dX11_suit_130 : decode cX11_suit 130 = .ok (.ldc 165, 2) := by decide +kernel
theorem dX11_suit_132 : decode cX11_suit 132 = .ok (.invokespecial 167, 3) := by decide +kernel
theorem dX11_suit_135 : decode cX11_suit 135 = .ok (.athrow, 1) := by decide +kernel
theorem dX11_judge_0 : decode cX11_judge 0 = .ok (.aload_n 0, 1) := by decide +kernel
theorem dX11_judge_1 : decode cX11_judge 1 = .ok (.iload_n 1, 1) := by decide +kernel
theorem dX11_judge_2 : decode cX11_judge 2 = .ok (.invokevirtual 168, 3) := by decide +kernel
theorem dX11_judge_5 : decode cX11_judge 5 = .ok (.ifCond .ne 5, 3) := by decide +kernel
theorem dX11_judge_8 : decode cX11_judge 8 = .ok (.iconst (-1), 1) := by decide +kernel
theorem dX11_judge_9 : decode cX11_judge 9 = .ok (.ireturn, 1) := by decide +kernel
theorem dX11_judge_10 : decode cX11_judge 10 = .ok (.iload_n 2, 1) := by decide +kernel
theorem dX11_judge_11 : decode cX11_judge 11 = .ok (.tableswitch 61 0 3 #[29, 39, 49, 55], 29) := by decide +kernel
theorem dX11_judge_40 : decode cX11_judge 40 = .ok (.aload_n 0, 1) := by decide +kernel
theorem dX11_judge_41 : decode cX11_judge 41 = .ok (.getfield 54, 3) := by decide +kernel
theorem dX11_judge_44 : decode cX11_judge 44 = .ok (.getfield 171, 3) := by decide +kernel
theorem dX11_judge_47 : decode cX11_judge 47 = .ok (.iload_n 1, 1) := by decide +kernel
theorem dX11_judge_48 : decode cX11_judge 48 = .ok (.iaload, 1) := by decide +kernel
theorem dX11_judge_49 : decode cX11_judge 49 = .ok (.ireturn, 1) := by decide +kernel
theorem dX11_judge_50 : decode cX11_judge 50 = .ok (.aload_n 0, 1) := by decide +kernel
theorem dX11_judge_51 : decode cX11_judge 51 = .ok (.getfield 27, 3) := by decide +kernel
theorem dX11_judge_54 : decode cX11_judge 54 = .ok (.getfield 174, 3) := by decide +kernel
theorem dX11_judge_57 : decode cX11_judge 57 = .ok (.iload_n 1, 1) := by decide +kernel
theorem dX11_judge_58 : decode cX11_judge 58 = .ok (.iaload, 1) := by decide +kernel
theorem dX11_judge_59 : decode cX11_judge 59 = .ok (.ireturn, 1) := by decide +kernel
theorem dX11_judge_60 : decode cX11_judge 60 = .ok (.aload_n 0, 1) := by decide +kernel
theorem dX11_judge_61 : decode cX11_judge 61 = .ok (.iload_n 1, 1) := by decide +kernel
theorem dX11_judge_62 : decode cX11_judge 62 = .ok (.invokevirtual 177, 3) := by decide +kernel
theorem dX11_judge_65 : decode cX11_judge 65 = .ok (.ireturn, 1) := by decide +kernel
theorem dX11_judge_66 : decode cX11_judge 66 = .ok (.aload_n 0, 1) := by decide +kernel
theorem dX11_judge_67 : decode cX11_judge 67 = .ok (.iload_n 1, 1) := by decide +kernel
theorem dX11_judge_68 : decode cX11_judge 68 = .ok (.invokevirtual 180, 3) := by decide +kernel
theorem dX11_judge_71 : decode cX11_judge 71 = .ok (.ireturn, 1) := by decide +kernel
theorem dX11_judge_72 : decode cX11_judge 72 = .ok (.iconst (-1), 1) := by decide +kernel
theorem dX11_judge_73 : decode cX11_judge 73 = .ok (.ireturn, 1) := by decide +kernel
theorem dX11_nut_0 : decode cX11_nut 0 = .ok (.aload_n 0, 1) := by decide +kernel
theorem dX11_nut_1 : decode cX11_nut 1 = .ok (.iload_n 1, 1) := by decide +kernel
theorem dX11_nut_2 : decode cX11_nut 2 = .ok (.invokevirtual 183, 3) := by decide +kernel
theorem dX11_nut_5 : decode cX11_nut 5 = .ok (.ifCond .ne 5, 3) := by decide +kernel
theorem dX11_nut_8 : decode cX11_nut 8 = .ok (.iconst (-1), 1) := by decide +kernel
theorem dX11_nut_9 : decode cX11_nut 9 = .ok (.ireturn, 1) := by decide +kernel
theorem dX11_nut_10 : decode cX11_nut 10 = .ok (.iload_n 2, 1) := by decide +kernel
theorem dX11_nut_11 : decode cX11_nut 11 = .ok (.tableswitch 55 0 2 #[25, 35, 45], 25) := by decide +kernel
theorem dX11_nut_36 : decode cX11_nut 36 = .ok (.aload_n 0, 1) := by decide +kernel
theorem dX11_nut_37 : decode cX11_nut 37 = .ok (.getfield 54, 3) := by decide +kernel
theorem dX11_nut_40 : decode cX11_nut 40 = .ok (.getfield 186, 3) := by decide +kernel
theorem dX11_nut_43 : decode cX11_nut 43 = .ok (.iload_n 1, 1) := by decide +kernel
theorem dX11_nut_44 : decode cX11_nut 44 = .ok (.iaload, 1) := by decide +kernel
theorem dX11_nut_45 : decode cX11_nut 45 = .ok (.ireturn, 1) := by decide +kernel
theorem dX11_nut_46 : decode cX11_nut 46 = .ok (.aload_n 0, 1) := by decide +kernel
theorem dX11_nut_47 : decode cX11_nut 47 = .ok (.getfield 54, 3) := by decide +kernel
theorem dX11_nut_50 : decode cX11_nut 50 = .ok (.getfield 189, 3) := by decide +kernel
theorem dX11_nut_53 : decode cX11_nut 53 = .ok (.iload_n 1, 1) := by decide +kernel
theorem dX11_nut_54 : decode cX11_nut 54 = .ok (.iaload, 1) := by decide +kernel
theorem dX11_nut_55 : decode cX11_nut 55 = .ok (.ireturn, 1) := by decide +kernel
theorem dX11_nut_56 : decode cX11_nut 56 = .ok (.aload_n 0, 1) := by decide +kernel
theorem dX11_nut_57 : decode cX11_nut 57 = .ok (.getfield 54, 3) := by decide +kernel
theorem dX11_nut_60 : decode cX11_nut 60 = .ok (.getfield 192, 3) := by decide +kernel
theorem dX11_nut_63 : decode cX11_nut 63 = .ok (.iload_n 1, 1) := by decide +kernel
theorem dX11_nut_64 : decode cX11_nut 64 = .ok (.iaload, 1) := by decide +kernel
theorem dX11_nut_65 : decode cX11_nut 65 = .ok (.ireturn, 1) := by decide +kernel
theorem dX11_nut_66 : decode cX11_nut 66 = .ok (.iconst (-1), 1) := by decide +kernel
theorem dX11_nut_67 : decode cX11_nut 67 = .ok (.ireturn, 1) := by decide +kernel
theorem dX11_force_0 : decode cX11_force 0 = .ok (.aload_n 0, 1) := by decide +kernel
theorem dX11_force_1 : decode cX11_force 1 = .ok (.iload_n 1, 1) := by decide +kernel
theorem dX11_force_2 : decode cX11_force 2 = .ok (.iload_n 2, 1) := by decide +kernel
theorem dX11_force_3 : decode cX11_force 3 = .ok (.invokevirtual 195, 3) := by decide +kernel
theorem dX11_force_6 : decode cX11_force 6 = .ok (.iconst (-1), 1) := by decide +kernel
theorem dX11_force_7 : decode cX11_force 7 = .ok (.if_icmp .ne 7, 3) := by decide +kernel
theorem dX11_force_10 : decode cX11_force 10 = .ok (.iconst (-1), 1) := by decide +kernel
theorem dX11_force_11 : decode cX11_force 11 = .ok (.goto 10, 3) := by decide +kernel
theorem dX11_force_14 : decode cX11_force 14 = .ok (.aload_n 0, 1) := by decide +kernel
theorem dX11_force_15 : decode cX11_force 15 = .ok (.getfield 70, 3) := by decide +kernel
theorem dX11_force_18 : decode cX11_force 18 = .ok (.getfield 199, 3) := by decide +kernel
theorem dX11_force_21 : decode cX11_force 21 = .ok (.ireturn, 1) := by decide +kernel
theorem dX11_slack_0 : decode cX11_slack 0 = .ok (.aload_n 0, 1) := by decide +kernel
theorem dX11_slack_1 : decode cX11_slack 1 = .ok (.iload_n 1, 1) := by decide +kernel
theorem dX11_slack_2 : decode cX11_slack 2 = .ok (.iload_n 2, 1) := by decide +kernel
theorem dX11_slack_3 : decode cX11_slack 3 = .ok (.invokevirtual 195, 3) := by decide +kernel
theorem dX11_slack_6 : decode cX11_slack 6 = .ok (.iconst (-1), 1) := by decide +kernel
theorem dX11_slack_7 : decode cX11_slack 7 = .ok (.if_icmp .ne 7, 3) := by decide +kernel
theorem dX11_slack_10 : decode cX11_slack 10 = .ok (.iconst (-1), 1) := by decide +kernel
theorem dX11_slack_11 : decode cX11_slack 11 = .ok (.goto 10, 3) := by decide +kernel
theorem dX11_slack_14 : decode cX11_slack 14 = .ok (.aload_n 0, 1) := by decide +kernel
theorem dX11_slack_15 : decode cX11_slack 15 = .ok (.getfield 70, 3) := by decide +kernel
theorem dX11_slack_18 : decode cX11_slack 18 = .ok (.getfield 202, 3) := by decide +kernel
theorem dX11_slack_21 : decode cX11_slack 21 = .ok (.ireturn, 1) := by decide +kernel
theorem dX11_verdict_0 : decode cX11_verdict 0 = .ok (.aload_n 0, 1) := by decide +kernel
theorem dX11_verdict_1 : decode cX11_verdict 1 = .ok (.iload_n 1, 1) := by decide +kernel
theorem dX11_verdict_2 : decode cX11_verdict 2 = .ok (.iload_n 2, 1) := by decide +kernel
theorem dX11_verdict_3 : decode cX11_verdict 3 = .ok (.invokevirtual 195, 3) := by decide +kernel
theorem dX11_verdict_6 : decode cX11_verdict 6 = .ok (.ireturn, 1) := by decide +kernel
theorem dX11_law_0 : decode cX11_law 0 = .ok (.iload_n 1, 1) := by decide +kernel
theorem dX11_law_1 : decode cX11_law 1 = .ok (.ifCond .lt 18, 3) := by decide +kernel
theorem dX11_law_4 : decode cX11_law 4 = .ok (.iload_n 1, 1) := by decide +kernel
theorem dX11_law_5 : decode cX11_law 5 = .ok (.iconst 3, 1) := by decide +kernel
theorem dX11_law_6 : decode cX11_law 6 = .ok (.if_icmp .ge 13, 3) := by decide +kernel
theorem dX11_law_9 : decode cX11_law 9 = .ok (.aload_n 0, 1) := by decide +kernel
theorem dX11_law_10 : decode cX11_law 10 = .ok (.iload_n 2, 1) := by decide +kernel
theorem dX11_law_11 : decode cX11_law 11 = .ok (.iload_n 3, 1) := by decide +kernel
theorem dX11_law_12 : decode cX11_law 12 = .ok (.invokevirtual 195, 3) := by decide +kernel
theorem dX11_law_15 : decode cX11_law 15 = .ok (.iconst (-1), 1) := by decide +kernel
theorem dX11_law_16 : decode cX11_law 16 = .ok (.if_icmp .ne 7, 3) := by decide +kernel
theorem dX11_law_19 : decode cX11_law 19 = .ok (.ldc2_w 205, 3) := by decide +kernel
theorem dX11_law_22 : decode cX11_law 22 = .ok (.lreturn, 1) := by decide +kernel
theorem dX11_law_23 : decode cX11_law 23 = .ok (.aload_n 0, 1) := by decide +kernel
theorem dX11_law_24 : decode cX11_law 24 = .ok (.getfield 54, 3) := by decide +kernel
theorem dX11_law_27 : decode cX11_law 27 = .ok (.getfield 207, 3) := by decide +kernel
theorem dX11_law_30 : decode cX11_law 30 = .ok (.iload_n 1, 1) := by decide +kernel
theorem dX11_law_31 : decode cX11_law 31 = .ok (.aload_n 0, 1) := by decide +kernel
theorem dX11_law_32 : decode cX11_law 32 = .ok (.getfield 70, 3) := by decide +kernel
theorem dX11_law_35 : decode cX11_law 35 = .ok (.getfield 211, 3) := by decide +kernel
theorem dX11_law_38 : decode cX11_law 38 = .ok (.invokevirtual 215, 3) := by decide +kernel
theorem dX11_law_41 : decode cX11_law 41 = .ok (.lreturn, 1) := by decide +kernel
theorem dX11_give_0 : decode cX11_give 0 = .ok (.aload_n 0, 1) := by decide +kernel
theorem dX11_give_1 : decode cX11_give 1 = .ok (.iload_n 1, 1) := by decide +kernel
theorem dX11_give_2 : decode cX11_give 2 = .ok (.invokevirtual 221, 3) := by decide +kernel
theorem dX11_give_5 : decode cX11_give 5 = .ok (.ifCond .eq 24, 3) := by decide +kernel
theorem dX11_give_8 : decode cX11_give 8 = .ok (.aload_n 0, 1) := by decide +kernel
theorem dX11_give_9 : decode cX11_give 9 = .ok (.iload_n 2, 1) := by decide +kernel
theorem dX11_give_10 : decode cX11_give 10 = .ok (.invokevirtual 168, 3) := by decide +kernel
theorem dX11_give_13 : decode cX11_give 13 = .ok (.ifCond .eq 16, 3) := by decide +kernel
theorem dX11_give_16 : decode cX11_give 16 = .ok (.aload_n 0, 1) := by decide +kernel
theorem dX11_give_17 : decode cX11_give 17 = .ok (.getfield 27, 3) := by decide +kernel
theorem dX11_give_20 : decode cX11_give 20 = .ok (.getfield 143, 3) := by decide +kernel
theorem dX11_give_23 : decode cX11_give 23 = .ok (.iload_n 1, 1) := by decide +kernel
theorem dX11_give_24 : decode cX11_give 24 = .ok (.iaload, 1) := by decide +kernel
theorem dX11_give_25 : decode cX11_give 25 = .ok (.iload_n 2, 1) := by decide +kernel
theorem dX11_give_26 : decode cX11_give 26 = .ok (.if_icmp .ne 5, 3) := by decide +kernel
theorem dX11_give_29 : decode cX11_give 29 = .ok (.iconst 0, 1) := by decide +kernel
theorem dX11_give_30 : decode cX11_give 30 = .ok (.ireturn, 1) := by decide +kernel
theorem dX11_give_31 : decode cX11_give 31 = .ok (.aload_n 0, 1) := by decide +kernel
theorem dX11_give_32 : decode cX11_give 32 = .ok (.getfield 47, 3) := by decide +kernel
theorem dX11_give_35 : decode cX11_give 35 = .ok (.iconst 0, 1) := by decide +kernel
theorem dX11_give_36 : decode cX11_give 36 = .ok (.iload_n 1, 1) := by decide +kernel
theorem dX11_give_37 : decode cX11_give 37 = .ok (.aload_n 0, 1) := by decide +kernel
theorem dX11_give_38 : decode cX11_give 38 = .ok (.getfield 27, 3) := by decide +kernel
theorem dX11_give_41 : decode cX11_give 41 = .ok (.getfield 143, 3) := by decide +kernel
theorem dX11_give_44 : decode cX11_give 44 = .ok (.iload_n 1, 1) := by decide +kernel
theorem dX11_give_45 : decode cX11_give 45 = .ok (.iaload, 1) := by decide +kernel
theorem dX11_give_46 : decode cX11_give 46 = .ok (.invokevirtual 224, 3) := by decide +kernel
theorem dX11_give_49 : decode cX11_give 49 = .ok (.aload_n 0, 1) := by decide +kernel
theorem dX11_give_50 : decode cX11_give 50 = .ok (.getfield 27, 3) := by decide +kernel
theorem dX11_give_53 : decode cX11_give 53 = .ok (.getfield 143, 3) := by decide +kernel
theorem dX11_give_56 : decode cX11_give 56 = .ok (.iload_n 1, 1) := by decide +kernel
theorem dX11_give_57 : decode cX11_give 57 = .ok (.iload_n 2, 1) := by decide +kernel
theorem dX11_give_58 : decode cX11_give 58 = .ok (.iastore, 1) := by decide +kernel
theorem dX11_give_59 : decode cX11_give 59 = .ok (.iconst 1, 1) := by decide +kernel
theorem dX11_give_60 : decode cX11_give 60 = .ok (.ireturn, 1) := by decide +kernel
theorem dX11_stone_0 : decode cX11_stone 0 = .ok (.aload_n 0, 1) := by decide +kernel
theorem dX11_stone_1 : decode cX11_stone 1 = .ok (.iload_n 1, 1) := by decide +kernel
theorem dX11_stone_2 : decode cX11_stone 2 = .ok (.invokevirtual 221, 3) := by decide +kernel
theorem dX11_stone_5 : decode cX11_stone 5 = .ok (.ifCond .eq 15, 3) := by decide +kernel
theorem dX11_stone_8 : decode cX11_stone 8 = .ok (.aload_n 0, 1) := by decide +kernel
theorem dX11_stone_9 : decode cX11_stone 9 = .ok (.getfield 27, 3) := by decide +kernel
theorem dX11_stone_12 : decode cX11_stone 12 = .ok (.iload_n 1, 1) := by decide +kernel
theorem dX11_stone_13 : decode cX11_stone 13 = .ok (.invokevirtual 153, 3) := by decide +kernel
theorem dX11_stone_16 : decode cX11_stone 16 = .ok (.iload_n 2, 1) := by decide +kernel
theorem dX11_stone_17 : decode cX11_stone 17 = .ok (.if_icmp .ne 5, 3) := by decide +kernel
theorem dX11_stone_20 : decode cX11_stone 20 = .ok (.iconst 0, 1) := by decide +kernel
theorem dX11_stone_21 : decode cX11_stone 21 = .ok (.ireturn, 1) := by decide +kernel
theorem dX11_stone_22 : decode cX11_stone 22 = .ok (.aload_n 0, 1) := by decide +kernel
theorem dX11_stone_23 : decode cX11_stone 23 = .ok (.getfield 47, 3) := by decide +kernel
theorem dX11_stone_26 : decode cX11_stone 26 = .ok (.iconst 1, 1) := by decide +kernel
theorem dX11_stone_27 : decode cX11_stone 27 = .ok (.iload_n 1, 1) := by decide +kernel
theorem dX11_stone_28 : decode cX11_stone 28 = .ok (.aload_n 0, 1) := by decide +kernel
theorem dX11_stone_29 : decode cX11_stone 29 = .ok (.getfield 27, 3) := by decide +kernel
theorem dX11_stone_32 : decode cX11_stone 32 = .ok (.getfield 228, 3) := by decide +kernel
theorem dX11_stone_35 : decode cX11_stone 35 = .ok (.invokevirtual 224, 3) := by decide +kernel
theorem dX11_stone_38 : decode cX11_stone 38 = .ok (.aload_n 0, 1) := by decide +kernel
theorem dX11_stone_39 : decode cX11_stone 39 = .ok (.getfield 27, 3) := by decide +kernel
theorem dX11_stone_42 : decode cX11_stone 42 = .ok (.dup, 1) := by decide +kernel
theorem dX11_stone_43 : decode cX11_stone 43 = .ok (.getfield 228, 3) := by decide +kernel
theorem dX11_stone_46 : decode cX11_stone 46 = .ok (.iconst 1, 1) := by decide +kernel
theorem dX11_stone_47 : decode cX11_stone 47 = .ok (.iload_n 1, 1) := by decide +kernel
theorem dX11_stone_48 : decode cX11_stone 48 = .ok (.ishl, 1) := by decide +kernel
theorem dX11_stone_49 : decode cX11_stone 49 = .ok (.ixor, 1) := by decide +kernel
theorem dX11_stone_50 : decode cX11_stone 50 = .ok (.putfield 228, 3) := by decide +kernel
theorem dX11_stone_53 : decode cX11_stone 53 = .ok (.iconst 1, 1) := by decide +kernel
theorem dX11_stone_54 : decode cX11_stone 54 = .ok (.ireturn, 1) := by decide +kernel
theorem dX11_put_0 : decode cX11_put 0 = .ok (.aload_n 0, 1) := by decide +kernel
theorem dX11_put_1 : decode cX11_put 1 = .ok (.iload_n 1, 1) := by decide +kernel
theorem dX11_put_2 : decode cX11_put 2 = .ok (.invokevirtual 221, 3) := by decide +kernel
theorem dX11_put_5 : decode cX11_put 5 = .ok (.ifCond .eq 34, 3) := by decide +kernel
theorem dX11_put_8 : decode cX11_put 8 = .ok (.iload_n 2, 1) := by decide +kernel
theorem dX11_put_9 : decode cX11_put 9 = .ok (.aload_n 0, 1) := by decide +kernel
theorem dX11_put_10 : decode cX11_put 10 = .ok (.getfield 27, 3) := by decide +kernel
theorem dX11_put_13 : decode cX11_put 13 = .ok (.getfield 231, 3) := by decide +kernel
theorem dX11_put_16 : decode cX11_put 16 = .ok (.if_icmp .lt 23, 3) := by decide +kernel
theorem dX11_put_19 : decode cX11_put 19 = .ok (.iload_n 2, 1) := by decide +kernel
theorem dX11_put_20 : decode cX11_put 20 = .ok (.sipush 9999, 3) := by decide +kernel
theorem dX11_put_23 : decode cX11_put 23 = .ok (.if_icmp .gt 16, 3) := by decide +kernel
theorem dX11_put_26 : decode cX11_put 26 = .ok (.aload_n 0, 1) := by decide +kernel
theorem dX11_put_27 : decode cX11_put 27 = .ok (.getfield 27, 3) := by decide +kernel
theorem dX11_put_30 : decode cX11_put 30 = .ok (.getfield 150, 3) := by decide +kernel
theorem dX11_put_33 : decode cX11_put 33 = .ok (.iload_n 1, 1) := by decide +kernel
theorem dX11_put_34 : decode cX11_put 34 = .ok (.iaload, 1) := by decide +kernel
theorem dX11_put_35 : decode cX11_put 35 = .ok (.iload_n 2, 1) := by decide +kernel
theorem dX11_put_36 : decode cX11_put 36 = .ok (.if_icmp .ne 5, 3) := by decide +kernel
theorem dX11_put_39 : decode cX11_put 39 = .ok (.iconst 0, 1) := by decide +kernel
theorem dX11_put_40 : decode cX11_put 40 = .ok (.ireturn, 1) := by decide +kernel
theorem dX11_put_41 : decode cX11_put 41 = .ok (.aload_n 0, 1) := by decide +kernel
theorem dX11_put_42 : decode cX11_put 42 = .ok (.getfield 47, 3) := by decide +kernel
theorem dX11_put_45 : decode cX11_put 45 = .ok (.iconst 2, 1) := by decide +kernel
theorem dX11_put_46 : decode cX11_put 46 = .ok (.iload_n 1, 1) := by decide +kernel
theorem dX11_put_47 : decode cX11_put 47 = .ok (.aload_n 0, 1) := by decide +kernel
theorem dX11_put_48 : decode cX11_put 48 = .ok (.getfield 27, 3) := by decide +kernel
theorem dX11_put_51 : decode cX11_put 51 = .ok (.getfield 150, 3) := by decide +kernel
theorem dX11_put_54 : decode cX11_put 54 = .ok (.iload_n 1, 1) := by decide +kernel
theorem dX11_put_55 : decode cX11_put 55 = .ok (.iaload, 1) := by decide +kernel
theorem dX11_put_56 : decode cX11_put 56 = .ok (.invokevirtual 224, 3) := by decide +kernel
theorem dX11_put_59 : decode cX11_put 59 = .ok (.aload_n 0, 1) := by decide +kernel
theorem dX11_put_60 : decode cX11_put 60 = .ok (.getfield 27, 3) := by decide +kernel
theorem dX11_put_63 : decode cX11_put 63 = .ok (.getfield 150, 3) := by decide +kernel
theorem dX11_put_66 : decode cX11_put 66 = .ok (.iload_n 1, 1) := by decide +kernel
theorem dX11_put_67 : decode cX11_put 67 = .ok (.iload_n 2, 1) := by decide +kernel
theorem dX11_put_68 : decode cX11_put 68 = .ok (.iastore, 1) := by decide +kernel
theorem dX11_put_69 : decode cX11_put 69 = .ok (.iconst 1, 1) := by decide +kernel
theorem dX11_put_70 : decode cX11_put 70 = .ok (.ireturn, 1) := by decide +kernel
theorem dX11_oil_0 : decode cX11_oil 0 = .ok (.iload_n 1, 1) := by decide +kernel
theorem dX11_oil_1 : decode cX11_oil 1 = .ok (.iconst 1, 1) := by decide +kernel
theorem dX11_oil_2 : decode cX11_oil 2 = .ok (.if_icmp .lt 23, 3) := by decide +kernel
theorem dX11_oil_5 : decode cX11_oil 5 = .ok (.iload_n 1, 1) := by decide +kernel
theorem dX11_oil_6 : decode cX11_oil 6 = .ok (.bipush 99, 2) := by decide +kernel
theorem dX11_oil_8 : decode cX11_oil 8 = .ok (.if_icmp .ge 17, 3) := by decide +kernel
theorem dX11_oil_11 : decode cX11_oil 11 = .ok (.aload_n 0, 1) := by decide +kernel
theorem dX11_oil_12 : decode cX11_oil 12 = .ok (.getfield 27, 3) := by decide +kernel
theorem dX11_oil_15 : decode cX11_oil 15 = .ok (.getfield 234, 3) := by decide +kernel
theorem dX11_oil_18 : decode cX11_oil 18 = .ok (.iload_n 1, 1) := by decide +kernel
theorem dX11_oil_19 : decode cX11_oil 19 = .ok (.iadd, 1) := by decide +kernel
theorem dX11_oil_20 : decode cX11_oil 20 = .ok (.bipush 99, 2) := by decide +kernel
theorem dX11_oil_22 : decode cX11_oil 22 = .ok (.if_icmp .le 5, 3) := by decide +kernel
theorem dX11_oil_25 : decode cX11_oil 25 = .ok (.iconst (-1), 1) := by decide +kernel
theorem dX11_oil_26 : decode cX11_oil 26 = .ok (.ireturn, 1) := by decide +kernel
theorem dX11_oil_27 : decode cX11_oil 27 = .ok (.aload_n 0, 1) := by decide +kernel
theorem dX11_oil_28 : decode cX11_oil 28 = .ok (.getfield 47, 3) := by decide +kernel
theorem dX11_oil_31 : decode cX11_oil 31 = .ok (.iconst 3, 1) := by decide +kernel
theorem dX11_oil_32 : decode cX11_oil 32 = .ok (.iconst 0, 1) := by decide +kernel
theorem dX11_oil_33 : decode cX11_oil 33 = .ok (.aload_n 0, 1) := by decide +kernel
theorem dX11_oil_34 : decode cX11_oil 34 = .ok (.getfield 27, 3) := by decide +kernel
theorem dX11_oil_37 : decode cX11_oil 37 = .ok (.getfield 234, 3) := by decide +kernel
theorem dX11_oil_40 : decode cX11_oil 40 = .ok (.invokevirtual 224, 3) := by decide +kernel
theorem dX11_oil_43 : decode cX11_oil 43 = .ok (.aload_n 0, 1) := by decide +kernel
theorem dX11_oil_44 : decode cX11_oil 44 = .ok (.getfield 27, 3) := by decide +kernel
theorem dX11_oil_47 : decode cX11_oil 47 = .ok (.dup, 1) := by decide +kernel
theorem dX11_oil_48 : decode cX11_oil 48 = .ok (.getfield 234, 3) := by decide +kernel
theorem dX11_oil_51 : decode cX11_oil 51 = .ok (.iload_n 1, 1) := by decide +kernel
theorem dX11_oil_52 : decode cX11_oil 52 = .ok (.iadd, 1) := by decide +kernel
theorem dX11_oil_53 : decode cX11_oil 53 = .ok (.putfield 234, 3) := by decide +kernel
theorem dX11_oil_56 : decode cX11_oil 56 = .ok (.aload_n 0, 1) := by decide +kernel
theorem dX11_oil_57 : decode cX11_oil 57 = .ok (.getfield 27, 3) := by decide +kernel
theorem dX11_oil_60 : decode cX11_oil 60 = .ok (.getfield 234, 3) := by decide +kernel
theorem dX11_oil_63 : decode cX11_oil 63 = .ok (.ireturn, 1) := by decide +kernel
theorem dX11_go_0 : decode cX11_go 0 = .ok (.iload_n 1, 1) := by decide +kernel
theorem dX11_go_1 : decode cX11_go 1 = .ok (.ifCond .lt 24, 3) := by decide +kernel
theorem dX11_go_4 : decode cX11_go 4 = .ok (.iload_n 1, 1) := by decide +kernel
theorem dX11_go_5 : decode cX11_go 5 = .ok (.bipush 99, 2) := by decide +kernel
theorem dX11_go_7 : decode cX11_go 7 = .ok (.if_icmp .gt 18, 3) := by decide +kernel
theorem dX11_go_10 : decode cX11_go 10 = .ok (.aload_n 0, 1) := by decide +kernel
theorem dX11_go_11 : decode cX11_go 11 = .ok (.getfield 27, 3) := by decide +kernel
theorem dX11_go_14 : decode cX11_go 14 = .ok (.getfield 231, 3) := by decide +kernel
theorem dX11_go_17 : decode cX11_go 17 = .ok (.iload_n 1, 1) := by decide +kernel
theorem dX11_go_18 : decode cX11_go 18 = .ok (.iadd, 1) := by decide +kernel
theorem dX11_go_19 : decode cX11_go 19 = .ok (.sipush 9900, 3) := by decide +kernel
theorem dX11_go_22 : decode cX11_go 22 = .ok (.if_icmp .le 5, 3) := by decide +kernel
theorem dX11_go_25 : decode cX11_go 25 = .ok (.iconst (-1), 1) := by decide +kernel
theorem dX11_go_26 : decode cX11_go 26 = .ok (.ireturn, 1) := by decide +kernel
theorem dX11_go_27 : decode cX11_go 27 = .ok (.iload_n 1, 1) := by decide +kernel
theorem dX11_go_28 : decode cX11_go 28 = .ok (.ifCond .le 10, 3) := by decide +kernel
theorem dX11_go_31 : decode cX11_go 31 = .ok (.aload_n 0, 1) := by decide +kernel
theorem dX11_go_32 : decode cX11_go 32 = .ok (.getfield 47, 3) := by decide +kernel
theorem dX11_go_35 : decode cX11_go 35 = .ok (.invokevirtual 108, 3) := by decide +kernel
theorem dX11_go_38 : decode cX11_go 38 = .ok (.aload_n 0, 1) := by decide +kernel
theorem dX11_go_39 : decode cX11_go 39 = .ok (.getfield 70, 3) := by decide +kernel
theorem dX11_go_42 : decode cX11_go 42 = .ok (.invokevirtual 237, 3) := by decide +kernel
theorem dX11_go_45 : decode cX11_go 45 = .ok (.aload_n 0, 1) := by decide +kernel
theorem dX11_go_46 : decode cX11_go 46 = .ok (.getfield 70, 3) := by decide +kernel
theorem dX11_go_49 : decode cX11_go 49 = .ok (.aload_n 0, 1) := by decide +kernel
theorem dX11_go_50 : decode cX11_go 50 = .ok (.getfield 27, 3) := by decide +kernel
theorem dX11_go_53 : decode cX11_go 53 = .ok (.iload_n 1, 1) := by decide +kernel
theorem dX11_go_54 : decode cX11_go 54 = .ok (.invokevirtual 240, 3) := by decide +kernel
theorem dX11_go_57 : decode cX11_go 57 = .ok (.aload_n 0, 1) := by decide +kernel
theorem dX11_go_58 : decode cX11_go 58 = .ok (.getfield 27, 3) := by decide +kernel
theorem dX11_go_61 : decode cX11_go 61 = .ok (.getfield 231, 3) := by decide +kernel
theorem dX11_go_64 : decode cX11_go 64 = .ok (.ireturn, 1) := by decide +kernel
theorem dX11_ahead_0 : decode cX11_ahead 0 = .ok (.iload_n 1, 1) := by decide +kernel
theorem dX11_ahead_1 : decode cX11_ahead 1 = .ok (.ifCond .lt 19, 3) := by decide +kernel
theorem dX11_ahead_4 : decode cX11_ahead 4 = .ok (.iload_n 1, 1) := by decide +kernel
theorem dX11_ahead_5 : decode cX11_ahead 5 = .ok (.bipush 99, 2) := by decide +kernel
theorem dX11_ahead_7 : decode cX11_ahead 7 = .ok (.if_icmp .gt 13, 3) := by decide +kernel
theorem dX11_ahead_10 : decode cX11_ahead 10 = .ok (.iload_n 2, 1) := by decide +kernel
theorem dX11_ahead_11 : decode cX11_ahead 11 = .ok (.ifCond .lt 9, 3) := by decide +kernel
theorem dX11_ahead_14 : decode cX11_ahead 14 = .ok (.iload_n 2, 1) := by decide +kernel
theorem dX11_ahead_15 : decode cX11_ahead 15 = .ok (.bipush 6, 2) := by decide +kernel
theorem dX11_ahead_17 : decode cX11_ahead 17 = .ok (.if_icmp .le 5, 3) := by decide +kernel
theorem dX11_ahead_20 : decode cX11_ahead 20 = .ok (.iconst (-1), 1) := by decide +kernel
theorem dX11_ahead_21 : decode cX11_ahead 21 = .ok (.ireturn, 1) := by decide +kernel
theorem dX11_ahead_22 : decode cX11_ahead 22 = .ok (.aload_n 0, 1) := by decide +kernel
theorem dX11_ahead_23 : decode cX11_ahead 23 = .ok (.getfield 79, 3) := by decide +kernel
theorem dX11_ahead_26 : decode cX11_ahead 26 = .ok (.invokevirtual 244, 3) := by decide +kernel
theorem dX11_ahead_29 : decode cX11_ahead 29 = .ok (.aload_n 0, 1) := by decide +kernel
theorem dX11_ahead_30 : decode cX11_ahead 30 = .ok (.getfield 70, 3) := by decide +kernel
theorem dX11_ahead_33 : decode cX11_ahead 33 = .ok (.aload_n 0, 1) := by decide +kernel
theorem dX11_ahead_34 : decode cX11_ahead 34 = .ok (.getfield 34, 3) := by decide +kernel
theorem dX11_ahead_37 : decode cX11_ahead 37 = .ok (.iload_n 1, 1) := by decide +kernel
theorem dX11_ahead_38 : decode cX11_ahead 38 = .ok (.invokevirtual 240, 3) := by decide +kernel
theorem dX11_ahead_41 : decode cX11_ahead 41 = .ok (.iload_n 2, 1) := by decide +kernel
theorem dX11_ahead_42 : decode cX11_ahead 42 = .ok (.iconst 3, 1) := by decide +kernel
theorem dX11_ahead_43 : decode cX11_ahead 43 = .ok (.if_icmp .gt 23, 3) := by decide +kernel
theorem dX11_ahead_46 : decode cX11_ahead 46 = .ok (.aload_n 0, 1) := by decide +kernel
theorem dX11_ahead_47 : decode cX11_ahead 47 = .ok (.aload_n 0, 1) := by decide +kernel
theorem dX11_ahead_48 : decode cX11_ahead 48 = .ok (.getfield 34, 3) := by decide +kernel
theorem dX11_ahead_51 : decode cX11_ahead 51 = .ok (.iload_n 2, 1) := by decide +kernel
theorem dX11_ahead_52 : decode cX11_ahead 52 = .ok (.invokevirtual 247, 3) := by decide +kernel
theorem dX11_ahead_55 : decode cX11_ahead 55 = .ok (.aload_n 0, 1) := by decide +kernel
theorem dX11_ahead_56 : decode cX11_ahead 56 = .ok (.aload_n 0, 1) := by decide +kernel
theorem dX11_ahead_57 : decode cX11_ahead 57 = .ok (.getfield 27, 3) := by decide +kernel
theorem dX11_ahead_60 : decode cX11_ahead 60 = .ok (.iload_n 2, 1) := by decide +kernel
theorem dX11_ahead_61 : decode cX11_ahead 61 = .ok (.invokevirtual 247, 3) := by decide +kernel
theorem dX11_ahead_64 : decode cX11_ahead 64 = .ok (.isub, 1) := by decide +kernel
theorem dX11_ahead_65 : decode cX11_ahead 65 = .ok (.ireturn, 1) := by decide +kernel
theorem dX11_ahead_66 : decode cX11_ahead 66 = .ok (.iload_n 2, 1) := by decide +kernel
theorem dX11_ahead_67 : decode cX11_ahead 67 = .ok (.iconst 4, 1) := by decide +kernel
theorem dX11_ahead_68 : decode cX11_ahead 68 = .ok (.if_icmp .ne 11, 3) := by decide +kernel
theorem dX11_ahead_71 : decode cX11_ahead 71 = .ok (.aload_n 0, 1) := by decide +kernel
theorem dX11_ahead_72 : decode cX11_ahead 72 = .ok (.getfield 79, 3) := by decide +kernel
theorem dX11_ahead_75 : decode cX11_ahead 75 = .ok (.invokevirtual 250, 3) := by decide +kernel
theorem dX11_ahead_78 : decode cX11_ahead 78 = .ok (.ireturn, 1) := by decide +kernel
theorem dX11_ahead_79 : decode cX11_ahead 79 = .ok (.iload_n 2, 1) := by decide +kernel
theorem dX11_ahead_80 : decode cX11_ahead 80 = .ok (.iconst 5, 1) := by decide +kernel
theorem dX11_ahead_81 : decode cX11_ahead 81 = .ok (.if_icmp .ne 13, 3) := by decide +kernel
theorem dX11_ahead_84 : decode cX11_ahead 84 = .ok (.aload_n 0, 1) := by decide +kernel
theorem dX11_ahead_85 : decode cX11_ahead 85 = .ok (.getfield 34, 3) := by decide +kernel
theorem dX11_ahead_88 : decode cX11_ahead 88 = .ok (.getfield 234, 3) := by decide +kernel
theorem dX11_ahead_91 : decode cX11_ahead 91 = .ok (.goto 11, 3) := by decide +kernel
theorem dX11_ahead_94 : decode cX11_ahead 94 = .ok (.aload_n 0, 1) := by decide +kernel
theorem dX11_ahead_95 : decode cX11_ahead 95 = .ok (.aload_n 0, 1) := by decide +kernel
theorem dX11_ahead_96 : decode cX11_ahead 96 = .ok (.getfield 34, 3) := by decide +kernel
theorem dX11_ahead_99 : decode cX11_ahead 99 = .ok (.invokevirtual 253, 3) := by decide +kernel
theorem dX11_ahead_102 : decode cX11_ahead 102 = .ok (.ireturn, 1) := by decide +kernel
theorem dX11_deal_0 : decode cX11_deal 0 = .ok (.iload_n 1, 1) := by decide +kernel
theorem dX11_deal_1 : decode cX11_deal 1 = .ok (.iconst 1, 1) := by decide +kernel
theorem dX11_deal_2 : decode cX11_deal 2 = .ok (.if_icmp .lt 31, 3) := by decide +kernel
theorem dX11_deal_5 : decode cX11_deal 5 = .ok (.iload_n 1, 1) := by decide +kernel
theorem dX11_deal_6 : decode cX11_deal 6 = .ok (.bipush 60, 2) := by decide +kernel
theorem dX11_deal_8 : decode cX11_deal 8 = .ok (.if_icmp .gt 25, 3) := by decide +kernel
theorem dX11_deal_11 : decode cX11_deal 11 = .ok (.iload_n 2, 1) := by decide +kernel
theorem dX11_deal_12 : decode cX11_deal 12 = .ok (.ifCond .lt 21, 3) := by decide +kernel
theorem dX11_deal_15 : decode cX11_deal 15 = .ok (.iload_n 2, 1) := by decide +kernel
theorem dX11_deal_16 : decode cX11_deal 16 = .ok (.iconst 4, 1) := by decide +kernel
theorem dX11_deal_17 : decode cX11_deal 17 = .ok (.if_icmp .gt 16, 3) := by decide +kernel
theorem dX11_deal_20 : decode cX11_deal 20 = .ok (.aload_n 0, 1) := by decide +kernel
theorem dX11_deal_21 : decode cX11_deal 21 = .ok (.getfield 54, 3) := by decide +kernel
theorem dX11_deal_24 : decode cX11_deal 24 = .ok (.getfield 116, 3) := by decide +kernel
theorem dX11_deal_27 : decode cX11_deal 27 = .ok (.getfield 257, 3) := by decide +kernel
theorem dX11_deal_30 : decode cX11_deal 30 = .ok (.ifCond .ne 5, 3) := by decide +kernel
theorem dX11_deal_33 : decode cX11_deal 33 = .ok (.iconst (-1), 1) := by decide +kernel
theorem dX11_deal_34 : decode cX11_deal 34 = .ok (.ireturn, 1) := by decide +kernel
theorem dX11_deal_35 : decode cX11_deal 35 = .ok (.aload_n 0, 1) := by decide +kernel
theorem dX11_deal_36 : decode cX11_deal 36 = .ok (.getfield 79, 3) := by decide +kernel
theorem dX11_deal_39 : decode cX11_deal 39 = .ok (.iload_n 1, 1) := by decide +kernel
theorem dX11_deal_40 : decode cX11_deal 40 = .ok (.invokevirtual 260, 3) := by decide +kernel
theorem dX11_deal_43 : decode cX11_deal 43 = .ok (.iload_n 2, 1) := by decide +kernel
theorem dX11_deal_44 : decode cX11_deal 44 = .ok (.iconst 4, 1) := by decide +kernel
theorem dX11_deal_45 : decode cX11_deal 45 = .ok (.if_icmp .ne 11, 3) := by decide +kernel
theorem dX11_deal_48 : decode cX11_deal 48 = .ok (.aload_n 0, 1) := by decide +kernel
theorem dX11_deal_49 : decode cX11_deal 49 = .ok (.getfield 79, 3) := by decide +kernel
theorem dX11_deal_52 : decode cX11_deal 52 = .ok (.getfield 263, 3) := by decide +kernel
theorem dX11_deal_55 : decode cX11_deal 55 = .ok (.ireturn, 1) := by decide +kernel
theorem dX11_deal_56 : decode cX11_deal 56 = .ok (.iload_n 2, 1) := by decide +kernel
theorem dX11_deal_57 : decode cX11_deal 57 = .ok (.aload_n 0, 1) := by decide +kernel
theorem dX11_deal_58 : decode cX11_deal 58 = .ok (.getfield 79, 3) := by decide +kernel
theorem dX11_deal_61 : decode cX11_deal 61 = .ok (.getfield 266, 3) := by decide +kernel
theorem dX11_deal_64 : decode cX11_deal 64 = .ok (.if_icmp .ge 15, 3) := by decide +kernel
theorem dX11_deal_67 : decode cX11_deal 67 = .ok (.aload_n 0, 1) := by decide +kernel
theorem dX11_deal_68 : decode cX11_deal 68 = .ok (.getfield 79, 3) := by decide +kernel
theorem dX11_deal_71 : decode cX11_deal 71 = .ok (.getfield 269, 3) := by decide +kernel
theorem dX11_deal_74 : decode cX11_deal 74 = .ok (.iload_n 2, 1) := by decide +kernel
theorem dX11_deal_75 : decode cX11_deal 75 = .ok (.iaload, 1) := by decide +kernel
theorem dX11_deal_76 : decode cX11_deal 76 = .ok (.goto 5, 3) := by decide +kernel
theorem dX11_deal_79 : decode cX11_deal 79 = .ok (.bipush (-2), 2) := by decide +kernel
theorem dX11_deal_81 : decode cX11_deal 81 = .ok (.ireturn, 1) := by decide +kernel
theorem dX11_order_0 : decode cX11_order 0 = .ok (.iload_n 1, 1) := by decide +kernel
theorem dX11_order_1 : decode cX11_order 1 = .ok (.ifCond .lt 8, 3) := by decide +kernel
theorem dX11_order_4 : decode cX11_order 4 = .ok (.iload_n 1, 1) := by decide +kernel
theorem dX11_order_5 : decode cX11_order 5 = .ok (.iconst 5, 1) := by decide +kernel
theorem dX11_order_6 : decode cX11_order 6 = .ok (.if_icmp .le 5, 3) := by decide +kernel
theorem dX11_order_9 : decode cX11_order 9 = .ok (.iconst (-1), 1) := by decide +kernel
theorem dX11_order_10 : decode cX11_order 10 = .ok (.ireturn, 1) := by decide +kernel
theorem dX11_order_11 : decode cX11_order 11 = .ok (.aload_n 0, 1) := by decide +kernel
theorem dX11_order_12 : decode cX11_order 12 = .ok (.getfield 79, 3) := by decide +kernel
theorem dX11_order_15 : decode cX11_order 15 = .ok (.invokevirtual 272, 3) := by decide +kernel
theorem dX11_order_18 : decode cX11_order 18 = .ok (.iload_n 1, 1) := by decide +kernel
theorem dX11_order_19 : decode cX11_order 19 = .ok (.iconst 5, 1) := by decide +kernel
theorem dX11_order_20 : decode cX11_order 20 = .ok (.if_icmp .ne 11, 3) := by decide +kernel
theorem dX11_order_23 : decode cX11_order 23 = .ok (.aload_n 0, 1) := by decide +kernel
theorem dX11_order_24 : decode cX11_order 24 = .ok (.getfield 79, 3) := by decide +kernel
theorem dX11_order_27 : decode cX11_order 27 = .ok (.getfield 263, 3) := by decide +kernel
theorem dX11_order_30 : decode cX11_order 30 = .ok (.ireturn, 1) := by decide +kernel
theorem dX11_order_31 : decode cX11_order 31 = .ok (.iload_n 1, 1) := by decide +kernel
theorem dX11_order_32 : decode cX11_order 32 = .ok (.aload_n 0, 1) := by decide +kernel
theorem dX11_order_33 : decode cX11_order 33 = .ok (.getfield 79, 3) := by decide +kernel
theorem dX11_order_36 : decode cX11_order 36 = .ok (.getfield 266, 3) := by decide +kernel
theorem dX11_order_39 : decode cX11_order 39 = .ok (.if_icmp .ge 15, 3) := by decide +kernel
theorem dX11_order_42 : decode cX11_order 42 = .ok (.aload_n 0, 1) := by decide +kernel
theorem dX11_order_43 : decode cX11_order 43 = .ok (.getfield 79, 3) := by decide +kernel
theorem dX11_order_46 : decode cX11_order 46 = .ok (.getfield 269, 3) := by decide +kernel
theorem dX11_order_49 : decode cX11_order 49 = .ok (.iload_n 1, 1) := by decide +kernel
theorem dX11_order_50 : decode cX11_order 50 = .ok (.iaload, 1) := by decide +kernel
theorem dX11_order_51 : decode cX11_order 51 = .ok (.goto 5, 3) := by decide +kernel
theorem dX11_order_54 : decode cX11_order 54 = .ok (.bipush (-2), 2) := by decide +kernel
theorem dX11_order_56 : decode cX11_order 56 = .ok (.ireturn, 1) := by decide +kernel
theorem dX11_enough_0 : decode cX11_enough 0 = .ok (.aload_n 0, 1) := by decide +kernel
theorem dX11_enough_1 : decode cX11_enough 1 = .ok (.iload_n 1, 1) := by decide +kernel
theorem dX11_enough_2 : decode cX11_enough 2 = .ok (.invokevirtual 168, 3) := by decide +kernel
theorem dX11_enough_5 : decode cX11_enough 5 = .ok (.ifCond .eq 11, 3) := by decide +kernel
theorem dX11_enough_8 : decode cX11_enough 8 = .ok (.aload_n 0, 1) := by decide +kernel
theorem dX11_enough_9 : decode cX11_enough 9 = .ok (.iload_n 2, 1) := by decide +kernel
theorem dX11_enough_10 : decode cX11_enough 10 = .ok (.invokevirtual 183, 3) := by decide +kernel
theorem dX11_enough_13 : decode cX11_enough 13 = .ok (.ifCond .ne 5, 3) := by decide +kernel
theorem dX11_enough_16 : decode cX11_enough 16 = .ok (.iconst (-1), 1) := by decide +kernel
theorem dX11_enough_17 : decode cX11_enough 17 = .ok (.ireturn, 1) := by decide +kernel
theorem dX11_enough_18 : decode cX11_enough 18 = .ok (.aload_n 0, 1) := by decide +kernel
theorem dX11_enough_19 : decode cX11_enough 19 = .ok (.getfield 79, 3) := by decide +kernel
theorem dX11_enough_22 : decode cX11_enough 22 = .ok (.invokevirtual 244, 3) := by decide +kernel
theorem dX11_enough_25 : decode cX11_enough 25 = .ok (.iconst 1, 1) := by decide +kernel
theorem dX11_enough_26 : decode cX11_enough 26 = .ok (.istore_n 3, 1) := by decide +kernel
theorem dX11_enough_27 : decode cX11_enough 27 = .ok (.iload_n 3, 1) := by decide +kernel
theorem dX11_enough_28 : decode cX11_enough 28 = .ok (.bipush 99, 2) := by decide +kernel
theorem dX11_enough_30 : decode cX11_enough 30 = .ok (.if_icmp .gt 45, 3) := by decide +kernel
theorem dX11_enough_33 : decode cX11_enough 33 = .ok (.aload_n 0, 1) := by decide +kernel
theorem dX11_enough_34 : decode cX11_enough 34 = .ok (.getfield 34, 3) := by decide +kernel
theorem dX11_enough_37 : decode cX11_enough 37 = .ok (.iload_n 3, 1) := by decide +kernel
theorem dX11_enough_38 : decode cX11_enough 38 = .ok (.putfield 234, 3) := by decide +kernel
theorem dX11_enough_41 : decode cX11_enough 41 = .ok (.aload_n 0, 1) := by decide +kernel
theorem dX11_enough_42 : decode cX11_enough 42 = .ok (.getfield 70, 3) := by decide +kernel
theorem dX11_enough_45 : decode cX11_enough 45 = .ok (.aload_n 0, 1) := by decide +kernel
theorem dX11_enough_46 : decode cX11_enough 46 = .ok (.getfield 34, 3) := by decide +kernel
theorem dX11_enough_49 : decode cX11_enough 49 = .ok (.iload_n 1, 1) := by decide +kernel
theorem dX11_enough_50 : decode cX11_enough 50 = .ok (.iload_n 2, 1) := by decide +kernel
theorem dX11_enough_51 : decode cX11_enough 51 = .ok (.aload_n 0, 1) := by decide +kernel
theorem dX11_enough_52 : decode cX11_enough 52 = .ok (.getfield 54, 3) := by decide +kernel
theorem dX11_enough_55 : decode cX11_enough 55 = .ok (.getfield 186, 3) := by decide +kernel
theorem dX11_enough_58 : decode cX11_enough 58 = .ok (.iload_n 2, 1) := by decide +kernel
theorem dX11_enough_59 : decode cX11_enough 59 = .ok (.iaload, 1) := by decide +kernel
theorem dX11_enough_60 : decode cX11_enough 60 = .ok (.invokevirtual 275, 3) := by decide +kernel
theorem dX11_enough_63 : decode cX11_enough 63 = .ok (.iconst 1, 1) := by decide +kernel
theorem dX11_enough_64 : decode cX11_enough 64 = .ok (.if_icmp .ne 5, 3) := by decide +kernel
theorem dX11_enough_67 : decode cX11_enough 67 = .ok (.iload_n 3, 1) := by decide +kernel
theorem dX11_enough_68 : decode cX11_enough 68 = .ok (.ireturn, 1) := by decide +kernel
theorem dX11_enough_69 : decode cX11_enough 69 = .ok (.iinc 3 1, 3) := by decide +kernel
theorem dX11_enough_72 : decode cX11_enough 72 = .ok (.goto (-45), 3) := by decide +kernel
theorem dX11_enough_75 : decode cX11_enough 75 = .ok (.bipush (-2), 2) := by decide +kernel
theorem dX11_enough_77 : decode cX11_enough 77 = .ok (.ireturn, 1) := by decide +kernel
theorem dX11_spoil_0 : decode cX11_spoil 0 = .ok (.iload_n 1, 1) := by decide +kernel
theorem dX11_spoil_1 : decode cX11_spoil 1 = .ok (.iconst 1, 1) := by decide +kernel
theorem dX11_spoil_2 : decode cX11_spoil 2 = .ok (.if_icmp .lt 20, 3) := by decide +kernel
theorem dX11_spoil_5 : decode cX11_spoil 5 = .ok (.iload_n 1, 1) := by decide +kernel
theorem dX11_spoil_6 : decode cX11_spoil 6 = .ok (.bipush 60, 2) := by decide +kernel
theorem dX11_spoil_8 : decode cX11_spoil 8 = .ok (.if_icmp .gt 14, 3) := by decide +kernel
theorem dX11_spoil_11 : decode cX11_spoil 11 = .ok (.iload_n 2, 1) := by decide +kernel
theorem dX11_spoil_12 : decode cX11_spoil 12 = .ok (.ifCond .lt 10, 3) := by decide +kernel
theorem dX11_spoil_15 : decode cX11_spoil 15 = .ok (.iload_n 2, 1) := by decide +kernel
theorem dX11_spoil_16 : decode cX11_spoil 16 = .ok (.sipush 999, 3) := by decide +kernel
theorem dX11_spoil_19 : decode cX11_spoil 19 = .ok (.if_icmp .le 5, 3) := by decide +kernel
theorem dX11_spoil_22 : decode cX11_spoil 22 = .ok (.iconst (-1), 1) := by decide +kernel
theorem dX11_spoil_23 : decode cX11_spoil 23 = .ok (.ireturn, 1) := by decide +kernel
theorem dX11_spoil_24 : decode cX11_spoil 24 = .ok (.aload_n 0, 1) := by decide +kernel
theorem dX11_spoil_25 : decode cX11_spoil 25 = .ok (.getfield 79, 3) := by decide +kernel
theorem dX11_spoil_28 : decode cX11_spoil 28 = .ok (.iload_n 1, 1) := by decide +kernel
theorem dX11_spoil_29 : decode cX11_spoil 29 = .ok (.iload_n 2, 1) := by decide +kernel
theorem dX11_spoil_30 : decode cX11_spoil 30 = .ok (.invokevirtual 279, 3) := by decide +kernel
theorem dX11_spoil_33 : decode cX11_spoil 33 = .ok (.ireturn, 1) := by decide +kernel
theorem dX11_rests_0 : decode cX11_rests 0 = .ok (.aload_n 0, 1) := by decide +kernel
theorem dX11_rests_1 : decode cX11_rests 1 = .ok (.iload_n 1, 1) := by decide +kernel
theorem dX11_rests_2 : decode cX11_rests 2 = .ok (.invokevirtual 221, 3) := by decide +kernel
theorem dX11_rests_5 : decode cX11_rests 5 = .ok (.ifCond .ne 5, 3) := by decide +kernel
theorem dX11_rests_8 : decode cX11_rests 8 = .ok (.iconst (-1), 1) := by decide +kernel
theorem dX11_rests_9 : decode cX11_rests 9 = .ok (.ireturn, 1) := by decide +kernel
theorem dX11_rests_10 : decode cX11_rests 10 = .ok (.aload_n 0, 1) := by decide +kernel
theorem dX11_rests_11 : decode cX11_rests 11 = .ok (.iload_n 1, 1) := by decide +kernel
theorem dX11_rests_12 : decode cX11_rests 12 = .ok (.invokevirtual 282, 3) := by decide +kernel
theorem dX11_rests_15 : decode cX11_rests 15 = .ok (.istore_n 2, 1) := by decide +kernel
theorem dX11_rests_16 : decode cX11_rests 16 = .ok (.aload_n 0, 1) := by decide +kernel
theorem dX11_rests_17 : decode cX11_rests 17 = .ok (.getfield 54, 3) := by decide +kernel
theorem dX11_rests_20 : decode cX11_rests 20 = .ok (.getfield 189, 3) := by decide +kernel
theorem dX11_rests_23 : decode cX11_rests 23 = .ok (.aload_n 0, 1) := by decide +kernel
theorem dX11_rests_24 : decode cX11_rests 24 = .ok (.getfield 54, 3) := by decide +kernel
theorem dX11_rests_27 : decode cX11_rests 27 = .ok (.getfield 147, 3) := by decide +kernel
theorem dX11_rests_30 : decode cX11_rests 30 = .ok (.iload_n 1, 1) := by decide +kernel
theorem dX11_rests_31 : decode cX11_rests 31 = .ok (.iaload, 1) := by decide +kernel
theorem dX11_rests_32 : decode cX11_rests 32 = .ok (.iaload, 1) := by decide +kernel
theorem dX11_rests_33 : decode cX11_rests 33 = .ok (.istore_n 3, 1) := by decide +kernel
theorem dX11_rests_34 : decode cX11_rests 34 = .ok (.iconst 0, 1) := by decide +kernel
theorem dX11_rests_35 : decode cX11_rests 35 = .ok (.istore 4, 2) := by decide +kernel
theorem dX11_rests_37 : decode cX11_rests 37 = .ok (.iconst 0, 1) := by decide +kernel
theorem dX11_rests_38 : decode cX11_rests 38 = .ok (.istore 5, 2) := by decide +kernel
theorem dX11_rests_40 : decode cX11_rests 40 = .ok (.iload 5, 2) := by decide +kernel
theorem dX11_rests_42 : decode cX11_rests 42 = .ok (.iconst 4, 1) := by decide +kernel
theorem dX11_rests_43 : decode cX11_rests 43 = .ok (.if_icmp .ge 28, 3) := by decide +kernel
theorem dX11_rests_46 : decode cX11_rests 46 = .ok (.iload 5, 2) := by decide +kernel
theorem dX11_rests_48 : decode cX11_rests 48 = .ok (.iconst 2, 1) := by decide +kernel
theorem dX11_rests_49 : decode cX11_rests 49 = .ok (.idiv, 1) := by decide +kernel
theorem dX11_rests_50 : decode cX11_rests 50 = .ok (.iload 5, 2) := by decide +kernel
theorem dX11_rests_52 : decode cX11_rests 52 = .ok (.iconst 2, 1) := by decide +kernel
theorem dX11_rests_53 : decode cX11_rests 53 = .ok (.irem, 1) := by decide +kernel
theorem dX11_rests_54 : decode cX11_rests 54 = .ok (.iload_n 2, 1) := by decide +kernel
theorem dX11_rests_55 : decode cX11_rests 55 = .ok (.iload_n 3, 1) := by decide +kernel
theorem dX11_rests_56 : decode cX11_rests 56 = .ok (.invokestatic 285, 3) := by decide +kernel
theorem dX11_rests_59 : decode cX11_rests 59 = .ok (.ifCond .eq 6, 3) := by decide +kernel
theorem dX11_rests_62 : decode cX11_rests 62 = .ok (.iinc 4 1, 3) := by decide +kernel
theorem dX11_rests_65 : decode cX11_rests 65 = .ok (.iinc 5 1, 3) := by decide +kernel
theorem dX11_rests_68 : decode cX11_rests 68 = .ok (.goto (-28), 3) := by decide +kernel
theorem dX11_rests_71 : decode cX11_rests 71 = .ok (.iload 4, 2) := by decide +kernel
theorem dX11_rests_73 : decode cX11_rests 73 = .ok (.ireturn, 1) := by decide +kernel
theorem dX11_rest_0 : decode cX11_rest 0 = .ok (.aload_n 0, 1) := by decide +kernel
theorem dX11_rest_1 : decode cX11_rest 1 = .ok (.iload_n 1, 1) := by decide +kernel
theorem dX11_rest_2 : decode cX11_rest 2 = .ok (.invokevirtual 221, 3) := by decide +kernel
theorem dX11_rest_5 : decode cX11_rest 5 = .ok (.ifCond .eq 7, 3) := by decide +kernel
theorem dX11_rest_8 : decode cX11_rest 8 = .ok (.iload_n 2, 1) := by decide +kernel
theorem dX11_rest_9 : decode cX11_rest 9 = .ok (.ifCond .ge 5, 3) := by decide +kernel
theorem dX11_rest_12 : decode cX11_rest 12 = .ok (.iconst (-1), 1) := by decide +kernel
theorem dX11_rest_13 : decode cX11_rest 13 = .ok (.ireturn, 1) := by decide +kernel
theorem dX11_rest_14 : decode cX11_rest 14 = .ok (.aload_n 0, 1) := by decide +kernel
theorem dX11_rest_15 : decode cX11_rest 15 = .ok (.iload_n 1, 1) := by decide +kernel
theorem dX11_rest_16 : decode cX11_rest 16 = .ok (.invokevirtual 282, 3) := by decide +kernel
theorem dX11_rest_19 : decode cX11_rest 19 = .ok (.istore_n 3, 1) := by decide +kernel
theorem dX11_rest_20 : decode cX11_rest 20 = .ok (.aload_n 0, 1) := by decide +kernel
theorem dX11_rest_21 : decode cX11_rest 21 = .ok (.getfield 54, 3) := by decide +kernel
theorem dX11_rest_24 : decode cX11_rest 24 = .ok (.getfield 189, 3) := by decide +kernel
theorem dX11_rest_27 : decode cX11_rest 27 = .ok (.aload_n 0, 1) := by decide +kernel
theorem dX11_rest_28 : decode cX11_rest 28 = .ok (.getfield 54, 3) := by decide +kernel
theorem dX11_rest_31 : decode cX11_rest 31 = .ok (.getfield 147, 3) := by decide +kernel
theorem dX11_rest_34 : decode cX11_rest 34 = .ok (.iload_n 1, 1) := by decide +kernel
theorem dX11_rest_35 : decode cX11_rest 35 = .ok (.iaload, 1) := by decide +kernel
theorem dX11_rest_36 : decode cX11_rest 36 = .ok (.iaload, 1) := by decide +kernel
theorem dX11_rest_37 : decode cX11_rest 37 = .ok (.istore 4, 2) := by decide +kernel
theorem dX11_rest_39 : decode cX11_rest 39 = .ok (.iconst 0, 1) := by decide +kernel
theorem dX11_rest_40 : decode cX11_rest 40 = .ok (.istore 5, 2) := by decide +kernel
theorem dX11_rest_42 : decode cX11_rest 42 = .ok (.iconst 0, 1) := by decide +kernel
theorem dX11_rest_43 : decode cX11_rest 43 = .ok (.istore 6, 2) := by decide +kernel
theorem dX11_rest_45 : decode cX11_rest 45 = .ok (.iload 6, 2) := by decide +kernel
theorem dX11_rest_47 : decode cX11_rest 47 = .ok (.iconst 4, 1) := by decide +kernel
theorem dX11_rest_48 : decode cX11_rest 48 = .ok (.if_icmp .ge 48, 3) := by decide +kernel
theorem dX11_rest_51 : decode cX11_rest 51 = .ok (.iload 6, 2) := by decide +kernel
theorem dX11_rest_53 : decode cX11_rest 53 = .ok (.iconst 2, 1) := by decide +kernel
theorem dX11_rest_54 : decode cX11_rest 54 = .ok (.idiv, 1) := by decide +kernel
theorem dX11_rest_55 : decode cX11_rest 55 = .ok (.iload 6, 2) := by decide +kernel
theorem dX11_rest_57 : decode cX11_rest 57 = .ok (.iconst 2, 1) := by decide +kernel
theorem dX11_rest_58 : decode cX11_rest 58 = .ok (.irem, 1) := by decide +kernel
theorem dX11_rest_59 : decode cX11_rest 59 = .ok (.iload_n 3, 1) := by decide +kernel
theorem dX11_rest_60 : decode cX11_rest 60 = .ok (.iload 4, 2) := by decide +kernel
theorem dX11_rest_62 : decode cX11_rest 62 = .ok (.invokestatic 285, 3) := by decide +kernel
theorem dX11_rest_65 : decode cX11_rest 65 = .ok (.ifCond .eq 25, 3) := by decide +kernel
theorem dX11_rest_68 : decode cX11_rest 68 = .ok (.iload 5, 2) := by decide +kernel
theorem dX11_rest_70 : decode cX11_rest 70 = .ok (.iload_n 2, 1) := by decide +kernel
theorem dX11_rest_71 : decode cX11_rest 71 = .ok (.if_icmp .ne 16, 3) := by decide +kernel
theorem dX11_rest_74 : decode cX11_rest 74 = .ok (.bipush 10, 2) := by decide +kernel
theorem dX11_rest_76 : decode cX11_rest 76 = .ok (.iload 6, 2) := by decide +kernel
theorem dX11_rest_78 : decode cX11_rest 78 = .ok (.iconst 2, 1) := by decide +kernel
theorem dX11_rest_79 : decode cX11_rest 79 = .ok (.idiv, 1) := by decide +kernel
theorem dX11_rest_80 : decode cX11_rest 80 = .ok (.imul, 1) := by decide +kernel
theorem dX11_rest_81 : decode cX11_rest 81 = .ok (.iload 6, 2) := by decide +kernel
theorem dX11_rest_83 : decode cX11_rest 83 = .ok (.iconst 2, 1) := by decide +kernel
theorem dX11_rest_84 : decode cX11_rest 84 = .ok (.irem, 1) := by decide +kernel
theorem dX11_rest_85 : decode cX11_rest 85 = .ok (.iadd, 1) := by decide +kernel
theorem dX11_rest_86 : decode cX11_rest 86 = .ok (.ireturn, 1) := by decide +kernel
theorem dX11_rest_87 : decode cX11_rest 87 = .ok (.iinc 5 1, 3) := by decide +kernel
theorem dX11_rest_90 : decode cX11_rest 90 = .ok (.iinc 6 1, 3) := by decide +kernel
theorem dX11_rest_93 : decode cX11_rest 93 = .ok (.goto (-48), 3) := by decide +kernel
theorem dX11_rest_96 : decode cX11_rest 96 = .ok (.bipush (-2), 2) := by decide +kernel
theorem dX11_rest_98 : decode cX11_rest 98 = .ok (.ireturn, 1) := by decide +kernel
theorem dX11_twins_0 : decode cX11_twins 0 = .ok (.iconst 0, 1) := by decide +kernel
theorem dX11_twins_1 : decode cX11_twins 1 = .ok (.istore_n 1, 1) := by decide +kernel
theorem dX11_twins_2 : decode cX11_twins 2 = .ok (.iconst 0, 1) := by decide +kernel
theorem dX11_twins_3 : decode cX11_twins 3 = .ok (.istore_n 2, 1) := by decide +kernel
theorem dX11_twins_4 : decode cX11_twins 4 = .ok (.iload_n 2, 1) := by decide +kernel
theorem dX11_twins_5 : decode cX11_twins 5 = .ok (.aload_n 0, 1) := by decide +kernel
theorem dX11_twins_6 : decode cX11_twins 6 = .ok (.getfield 54, 3) := by decide +kernel
theorem dX11_twins_9 : decode cX11_twins 9 = .ok (.getfield 129, 3) := by decide +kernel
theorem dX11_twins_12 : decode cX11_twins 12 = .ok (.getfield 257, 3) := by decide +kernel
theorem dX11_twins_15 : decode cX11_twins 15 = .ok (.if_icmp .ge 45, 3) := by decide +kernel
theorem dX11_twins_18 : decode cX11_twins 18 = .ok (.iload_n 2, 1) := by decide +kernel
theorem dX11_twins_19 : decode cX11_twins 19 = .ok (.iconst 1, 1) := by decide +kernel
theorem dX11_twins_20 : decode cX11_twins 20 = .ok (.iadd, 1) := by decide +kernel
theorem dX11_twins_21 : decode cX11_twins 21 = .ok (.istore_n 3, 1) := by decide +kernel
theorem dX11_twins_22 : decode cX11_twins 22 = .ok (.iload_n 3, 1) := by decide +kernel
theorem dX11_twins_23 : decode cX11_twins 23 = .ok (.aload_n 0, 1) := by decide +kernel
theorem dX11_twins_24 : decode cX11_twins 24 = .ok (.getfield 54, 3) := by decide +kernel
theorem dX11_twins_27 : decode cX11_twins 27 = .ok (.getfield 129, 3) := by decide +kernel
theorem dX11_twins_30 : decode cX11_twins 30 = .ok (.getfield 257, 3) := by decide +kernel
theorem dX11_twins_33 : decode cX11_twins 33 = .ok (.if_icmp .ge 21, 3) := by decide +kernel
theorem dX11_twins_36 : decode cX11_twins 36 = .ok (.aload_n 0, 1) := by decide +kernel
theorem dX11_twins_37 : decode cX11_twins 37 = .ok (.iload_n 2, 1) := by decide +kernel
theorem dX11_twins_38 : decode cX11_twins 38 = .ok (.iload_n 3, 1) := by decide +kernel
theorem dX11_twins_39 : decode cX11_twins 39 = .ok (.invokevirtual 289, 3) := by decide +kernel
theorem dX11_twins_42 : decode cX11_twins 42 = .ok (.ifCond .eq 6, 3) := by decide +kernel
theorem dX11_twins_45 : decode cX11_twins 45 = .ok (.iinc 1 1, 3) := by decide +kernel
theorem dX11_twins_48 : decode cX11_twins 48 = .ok (.iinc 3 1, 3) := by decide +kernel
theorem dX11_twins_51 : decode cX11_twins 51 = .ok (.goto (-29), 3) := by decide +kernel
theorem dX11_twins_54 : decode cX11_twins 54 = .ok (.iinc 2 1, 3) := by decide +kernel
theorem dX11_twins_57 : decode cX11_twins 57 = .ok (.goto (-53), 3) := by decide +kernel
theorem dX11_twins_60 : decode cX11_twins 60 = .ok (.iload_n 1, 1) := by decide +kernel
theorem dX11_twins_61 : decode cX11_twins 61 = .ok (.ireturn, 1) := by decide +kernel
theorem dX11_likely_0 : decode cX11_likely 0 = .ok (.aload_n 0, 1) := by decide +kernel
theorem dX11_likely_1 : decode cX11_likely 1 = .ok (.iload_n 1, 1) := by decide +kernel
theorem dX11_likely_2 : decode cX11_likely 2 = .ok (.invokevirtual 221, 3) := by decide +kernel
theorem dX11_likely_5 : decode cX11_likely 5 = .ok (.ifCond .eq 12, 3) := by decide +kernel
theorem dX11_likely_8 : decode cX11_likely 8 = .ok (.iload_n 2, 1) := by decide +kernel
theorem dX11_likely_9 : decode cX11_likely 9 = .ok (.ifCond .lt 8, 3) := by decide +kernel
theorem dX11_likely_12 : decode cX11_likely 12 = .ok (.iload_n 2, 1) := by decide +kernel
theorem dX11_likely_13 : decode cX11_likely 13 = .ok (.iconst 1, 1) := by decide +kernel
theorem dX11_likely_14 : decode cX11_likely 14 = .ok (.if_icmp .le 5, 3) := by decide +kernel
theorem dX11_likely_17 : decode cX11_likely 17 = .ok (.iconst (-1), 1) := by decide +kernel
theorem dX11_likely_18 : decode cX11_likely 18 = .ok (.ireturn, 1) := by decide +kernel
theorem dX11_likely_19 : decode cX11_likely 19 = .ok (.aload_n 0, 1) := by decide +kernel
theorem dX11_likely_20 : decode cX11_likely 20 = .ok (.getfield 70, 3) := by decide +kernel
theorem dX11_likely_23 : decode cX11_likely 23 = .ok (.invokevirtual 237, 3) := by decide +kernel
theorem dX11_likely_26 : decode cX11_likely 26 = .ok (.aload_n 0, 1) := by decide +kernel
theorem dX11_likely_27 : decode cX11_likely 27 = .ok (.getfield 70, 3) := by decide +kernel
theorem dX11_likely_30 : decode cX11_likely 30 = .ok (.aload_n 0, 1) := by decide +kernel
theorem dX11_likely_31 : decode cX11_likely 31 = .ok (.getfield 27, 3) := by decide +kernel
theorem dX11_likely_34 : decode cX11_likely 34 = .ok (.iload_n 1, 1) := by decide +kernel
theorem dX11_likely_35 : decode cX11_likely 35 = .ok (.invokevirtual 293, 3) := by decide +kernel
theorem dX11_likely_38 : decode cX11_likely 38 = .ok (.istore_n 3, 1) := by decide +kernel
theorem dX11_likely_39 : decode cX11_likely 39 = .ok (.iconst 0, 1) := by decide +kernel
theorem dX11_likely_40 : decode cX11_likely 40 = .ok (.istore 4, 2) := by decide +kernel
theorem dX11_likely_42 : decode cX11_likely 42 = .ok (.iconst 0, 1) := by decide +kernel
theorem dX11_likely_43 : decode cX11_likely 43 = .ok (.istore 5, 2) := by decide +kernel
theorem dX11_likely_45 : decode cX11_likely 45 = .ok (.iload 5, 2) := by decide +kernel
theorem dX11_likely_47 : decode cX11_likely 47 = .ok (.bipush 10, 2) := by decide +kernel
theorem dX11_likely_49 : decode cX11_likely 49 = .ok (.if_icmp .ge 49, 3) := by decide +kernel
theorem dX11_likely_52 : decode cX11_likely 52 = .ok (.aload_n 0, 1) := by decide +kernel
theorem dX11_likely_53 : decode cX11_likely 53 = .ok (.getfield 70, 3) := by decide +kernel
theorem dX11_likely_56 : decode cX11_likely 56 = .ok (.aload_n 0, 1) := by decide +kernel
theorem dX11_likely_57 : decode cX11_likely 57 = .ok (.getfield 27, 3) := by decide +kernel
theorem dX11_likely_60 : decode cX11_likely 60 = .ok (.aload_n 0, 1) := by decide +kernel
theorem dX11_likely_61 : decode cX11_likely 61 = .ok (.getfield 27, 3) := by decide +kernel
theorem dX11_likely_64 : decode cX11_likely 64 = .ok (.getfield 143, 3) := by decide +kernel
theorem dX11_likely_67 : decode cX11_likely 67 = .ok (.iload_n 1, 1) := by decide +kernel
theorem dX11_likely_68 : decode cX11_likely 68 = .ok (.iaload, 1) := by decide +kernel
theorem dX11_likely_69 : decode cX11_likely 69 = .ok (.aload_n 0, 1) := by decide +kernel
theorem dX11_likely_70 : decode cX11_likely 70 = .ok (.getfield 54, 3) := by decide +kernel
theorem dX11_likely_73 : decode cX11_likely 73 = .ok (.getfield 147, 3) := by decide +kernel
theorem dX11_likely_76 : decode cX11_likely 76 = .ok (.iload_n 1, 1) := by decide +kernel
theorem dX11_likely_77 : decode cX11_likely 77 = .ok (.iaload, 1) := by decide +kernel
theorem dX11_likely_78 : decode cX11_likely 78 = .ok (.iload_n 3, 1) := by decide +kernel
theorem dX11_likely_79 : decode cX11_likely 79 = .ok (.iload 5, 2) := by decide +kernel
theorem dX11_likely_81 : decode cX11_likely 81 = .ok (.iadd, 1) := by decide +kernel
theorem dX11_likely_82 : decode cX11_likely 82 = .ok (.invokevirtual 275, 3) := by decide +kernel
theorem dX11_likely_85 : decode cX11_likely 85 = .ok (.iconst 1, 1) := by decide +kernel
theorem dX11_likely_86 : decode cX11_likely 86 = .ok (.if_icmp .ne 6, 3) := by decide +kernel
theorem dX11_likely_89 : decode cX11_likely 89 = .ok (.iinc 4 1, 3) := by decide +kernel
theorem dX11_likely_92 : decode cX11_likely 92 = .ok (.iinc 5 1, 3) := by decide +kernel
theorem dX11_likely_95 : decode cX11_likely 95 = .ok (.goto (-50), 3) := by decide +kernel
theorem dX11_likely_98 : decode cX11_likely 98 = .ok (.iload 4, 2) := by decide +kernel
theorem dX11_likely_100 : decode cX11_likely 100 = .ok (.invokestatic 296, 3) := by decide +kernel
theorem dX11_likely_103 : decode cX11_likely 103 = .ok (.istore 5, 2) := by decide +kernel
theorem dX11_likely_105 : decode cX11_likely 105 = .ok (.iload_n 2, 1) := by decide +kernel
theorem dX11_likely_106 : decode cX11_likely 106 = .ok (.ifCond .ne 11, 3) := by decide +kernel
theorem dX11_likely_109 : decode cX11_likely 109 = .ok (.iload 4, 2) := by decide +kernel
theorem dX11_likely_111 : decode cX11_likely 111 = .ok (.iload 5, 2) := by decide +kernel
theorem dX11_likely_113 : decode cX11_likely 113 = .ok (.idiv, 1) := by decide +kernel
theorem dX11_likely_114 : decode cX11_likely 114 = .ok (.goto 8, 3) := by decide +kernel
theorem dX11_likely_117 : decode cX11_likely 117 = .ok (.bipush 10, 2) := by decide +kernel
theorem dX11_likely_119 : decode cX11_likely 119 = .ok (.iload 5, 2) := by decide +kernel
theorem dX11_likely_121 : decode cX11_likely 121 = .ok (.idiv, 1) := by decide +kernel
theorem dX11_likely_122 : decode cX11_likely 122 = .ok (.ireturn, 1) := by decide +kernel
theorem dX11_wholeBy_0 : decode cX11_wholeBy 0 = .ok (.aload_n 0, 1) := by decide +kernel
theorem dX11_wholeBy_1 : decode cX11_wholeBy 1 = .ok (.iload_n 1, 1) := by decide +kernel
theorem dX11_wholeBy_2 : decode cX11_wholeBy 2 = .ok (.invokevirtual 221, 3) := by decide +kernel
theorem dX11_wholeBy_5 : decode cX11_wholeBy 5 = .ok (.ifCond .ne 5, 3) := by decide +kernel
theorem dX11_wholeBy_8 : decode cX11_wholeBy 8 = .ok (.iconst (-1), 1) := by decide +kernel
theorem dX11_wholeBy_9 : decode cX11_wholeBy 9 = .ok (.ireturn, 1) := by decide +kernel
theorem dX11_wholeBy_10 : decode cX11_wholeBy 10 = .ok (.aload_n 0, 1) := by decide +kernel
theorem dX11_wholeBy_11 : decode cX11_wholeBy 11 = .ok (.getfield 70, 3) := by decide +kernel
theorem dX11_wholeBy_14 : decode cX11_wholeBy 14 = .ok (.invokevirtual 237, 3) := by decide +kernel
theorem dX11_wholeBy_17 : decode cX11_wholeBy 17 = .ok (.aload_n 0, 1) := by decide +kernel
theorem dX11_wholeBy_18 : decode cX11_wholeBy 18 = .ok (.getfield 70, 3) := by decide +kernel
theorem dX11_wholeBy_21 : decode cX11_wholeBy 21 = .ok (.aload_n 0, 1) := by decide +kernel
theorem dX11_wholeBy_22 : decode cX11_wholeBy 22 = .ok (.getfield 27, 3) := by decide +kernel
theorem dX11_wholeBy_25 : decode cX11_wholeBy 25 = .ok (.iload_n 1, 1) := by decide +kernel
theorem dX11_wholeBy_26 : decode cX11_wholeBy 26 = .ok (.invokevirtual 293, 3) := by decide +kernel
theorem dX11_wholeBy_29 : decode cX11_wholeBy 29 = .ok (.istore_n 2, 1) := by decide +kernel
theorem dX11_wholeBy_30 : decode cX11_wholeBy 30 = .ok (.iconst 0, 1) := by decide +kernel
theorem dX11_wholeBy_31 : decode cX11_wholeBy 31 = .ok (.istore_n 3, 1) := by decide +kernel
theorem dX11_wholeBy_32 : decode cX11_wholeBy 32 = .ok (.iconst 0, 1) := by decide +kernel
theorem dX11_wholeBy_33 : decode cX11_wholeBy 33 = .ok (.istore 4, 2) := by decide +kernel
theorem dX11_wholeBy_35 : decode cX11_wholeBy 35 = .ok (.iload 4, 2) := by decide +kernel
theorem dX11_wholeBy_37 : decode cX11_wholeBy 37 = .ok (.aload_n 0, 1) := by decide +kernel
theorem dX11_wholeBy_38 : decode cX11_wholeBy 38 = .ok (.getfield 54, 3) := by decide +kernel
theorem dX11_wholeBy_41 : decode cX11_wholeBy 41 = .ok (.getfield 116, 3) := by decide +kernel
theorem dX11_wholeBy_44 : decode cX11_wholeBy 44 = .ok (.getfield 257, 3) := by decide +kernel
theorem dX11_wholeBy_47 : decode cX11_wholeBy 47 = .ok (.if_icmp .ge 43, 3) := by decide +kernel
theorem dX11_wholeBy_50 : decode cX11_wholeBy 50 = .ok (.aload_n 0, 1) := by decide +kernel
theorem dX11_wholeBy_51 : decode cX11_wholeBy 51 = .ok (.getfield 70, 3) := by decide +kernel
theorem dX11_wholeBy_54 : decode cX11_wholeBy 54 = .ok (.aload_n 0, 1) := by decide +kernel
theorem dX11_wholeBy_55 : decode cX11_wholeBy 55 = .ok (.getfield 27, 3) := by decide +kernel
theorem dX11_wholeBy_58 : decode cX11_wholeBy 58 = .ok (.iload 4, 2) := by decide +kernel
theorem dX11_wholeBy_60 : decode cX11_wholeBy 60 = .ok (.aload_n 0, 1) := by decide +kernel
theorem dX11_wholeBy_61 : decode cX11_wholeBy 61 = .ok (.getfield 54, 3) := by decide +kernel
theorem dX11_wholeBy_64 : decode cX11_wholeBy 64 = .ok (.getfield 147, 3) := by decide +kernel
theorem dX11_wholeBy_67 : decode cX11_wholeBy 67 = .ok (.iload_n 1, 1) := by decide +kernel
theorem dX11_wholeBy_68 : decode cX11_wholeBy 68 = .ok (.iaload, 1) := by decide +kernel
theorem dX11_wholeBy_69 : decode cX11_wholeBy 69 = .ok (.iload_n 2, 1) := by decide +kernel
theorem dX11_wholeBy_70 : decode cX11_wholeBy 70 = .ok (.invokevirtual 275, 3) := by decide +kernel
theorem dX11_wholeBy_73 : decode cX11_wholeBy 73 = .ok (.iconst 1, 1) := by decide +kernel
theorem dX11_wholeBy_74 : decode cX11_wholeBy 74 = .ok (.if_icmp .ne 10, 3) := by decide +kernel
theorem dX11_wholeBy_77 : decode cX11_wholeBy 77 = .ok (.iload_n 3, 1) := by decide +kernel
theorem dX11_wholeBy_78 : decode cX11_wholeBy 78 = .ok (.iconst 1, 1) := by decide +kernel
theorem dX11_wholeBy_79 : decode cX11_wholeBy 79 = .ok (.iload 4, 2) := by decide +kernel
theorem dX11_wholeBy_81 : decode cX11_wholeBy 81 = .ok (.ishl, 1) := by decide +kernel
theorem dX11_wholeBy_82 : decode cX11_wholeBy 82 = .ok (.ior, 1) := by decide +kernel
theorem dX11_wholeBy_83 : decode cX11_wholeBy 83 = .ok (.istore_n 3, 1) := by decide +kernel
theorem dX11_wholeBy_84 : decode cX11_wholeBy 84 = .ok (.iinc 4 1, 3) := by decide +kernel
theorem dX11_wholeBy_87 : decode cX11_wholeBy 87 = .ok (.goto (-52), 3) := by decide +kernel
theorem dX11_wholeBy_90 : decode cX11_wholeBy 90 = .ok (.iload_n 3, 1) := by decide +kernel
theorem dX11_wholeBy_91 : decode cX11_wholeBy 91 = .ok (.ireturn, 1) := by decide +kernel
theorem dX11_docket_0 : decode cX11_docket 0 = .ok (.iload_n 1, 1) := by decide +kernel
theorem dX11_docket_1 : decode cX11_docket 1 = .ok (.ifCond .lt 10, 3) := by decide +kernel
theorem dX11_docket_4 : decode cX11_docket 4 = .ok (.iload_n 1, 1) := by decide +kernel
theorem dX11_docket_5 : decode cX11_docket 5 = .ok (.sipush 9999, 3) := by decide +kernel
theorem dX11_docket_8 : decode cX11_docket 8 = .ok (.if_icmp .le 5, 3) := by decide +kernel
theorem dX11_docket_11 : decode cX11_docket 11 = .ok (.iconst (-1), 1) := by decide +kernel
theorem dX11_docket_12 : decode cX11_docket 12 = .ok (.ireturn, 1) := by decide +kernel
theorem dX11_docket_13 : decode cX11_docket 13 = .ok (.iconst 0, 1) := by decide +kernel
theorem dX11_docket_14 : decode cX11_docket 14 = .ok (.istore_n 2, 1) := by decide +kernel
theorem dX11_docket_15 : decode cX11_docket 15 = .ok (.iconst 0, 1) := by decide +kernel
theorem dX11_docket_16 : decode cX11_docket 16 = .ok (.istore_n 3, 1) := by decide +kernel
theorem dX11_docket_17 : decode cX11_docket 17 = .ok (.iload_n 3, 1) := by decide +kernel
theorem dX11_docket_18 : decode cX11_docket 18 = .ok (.aload_n 0, 1) := by decide +kernel
theorem dX11_docket_19 : decode cX11_docket 19 = .ok (.getfield 54, 3) := by decide +kernel
theorem dX11_docket_22 : decode cX11_docket 22 = .ok (.getfield 129, 3) := by decide +kernel
theorem dX11_docket_25 : decode cX11_docket 25 = .ok (.getfield 257, 3) := by decide +kernel
theorem dX11_docket_28 : decode cX11_docket 28 = .ok (.if_icmp .ge 36, 3) := by decide +kernel
theorem dX11_docket_31 : decode cX11_docket 31 = .ok (.aload_n 0, 1) := by decide +kernel
theorem dX11_docket_32 : decode cX11_docket 32 = .ok (.iload_n 3, 1) := by decide +kernel
theorem dX11_docket_33 : decode cX11_docket 33 = .ok (.invokevirtual 221, 3) := by decide +kernel
theorem dX11_docket_36 : decode cX11_docket 36 = .ok (.ifCond .eq 22, 3) := by decide +kernel
theorem dX11_docket_39 : decode cX11_docket 39 = .ok (.aload_n 0, 1) := by decide +kernel
theorem dX11_docket_40 : decode cX11_docket 40 = .ok (.getfield 27, 3) := by decide +kernel
theorem dX11_docket_43 : decode cX11_docket 43 = .ok (.getfield 150, 3) := by decide +kernel
theorem dX11_docket_46 : decode cX11_docket 46 = .ok (.iload_n 3, 1) := by decide +kernel
theorem dX11_docket_47 : decode cX11_docket 47 = .ok (.iaload, 1) := by decide +kernel
theorem dX11_docket_48 : decode cX11_docket 48 = .ok (.iload_n 1, 1) := by decide +kernel
theorem dX11_docket_49 : decode cX11_docket 49 = .ok (.if_icmp .ne 9, 3) := by decide +kernel
theorem dX11_docket_52 : decode cX11_docket 52 = .ok (.iload_n 2, 1) := by decide +kernel
theorem dX11_docket_53 : decode cX11_docket 53 = .ok (.iconst 1, 1) := by decide +kernel
theorem dX11_docket_54 : decode cX11_docket 54 = .ok (.iload_n 3, 1) := by decide +kernel
theorem dX11_docket_55 : decode cX11_docket 55 = .ok (.ishl, 1) := by decide +kernel
theorem dX11_docket_56 : decode cX11_docket 56 = .ok (.ior, 1) := by decide +kernel
theorem dX11_docket_57 : decode cX11_docket 57 = .ok (.istore_n 2, 1) := by decide +kernel
theorem dX11_docket_58 : decode cX11_docket 58 = .ok (.iinc 3 1, 3) := by decide +kernel
theorem dX11_docket_61 : decode cX11_docket 61 = .ok (.goto (-44), 3) := by decide +kernel
theorem dX11_docket_64 : decode cX11_docket 64 = .ok (.iload_n 2, 1) := by decide +kernel
theorem dX11_docket_65 : decode cX11_docket 65 = .ok (.ireturn, 1) := by decide +kernel
theorem dX11_crown_0 : decode cX11_crown 0 = .ok (.iconst (-1), 1) := by decide +kernel
theorem dX11_crown_1 : decode cX11_crown 1 = .ok (.istore_n 1, 1) := by decide +kernel
theorem dX11_crown_2 : decode cX11_crown 2 = .ok (.iconst (-1), 1) := by decide +kernel
theorem dX11_crown_3 : decode cX11_crown 3 = .ok (.istore_n 2, 1) := by decide +kernel
theorem dX11_crown_4 : decode cX11_crown 4 = .ok (.iconst 0, 1) := by decide +kernel
theorem dX11_crown_5 : decode cX11_crown 5 = .ok (.istore_n 3, 1) := by decide +kernel
theorem dX11_crown_6 : decode cX11_crown 6 = .ok (.iload_n 3, 1) := by decide +kernel
theorem dX11_crown_7 : decode cX11_crown 7 = .ok (.aload_n 0, 1) := by decide +kernel
theorem dX11_crown_8 : decode cX11_crown 8 = .ok (.getfield 54, 3) := by decide +kernel
theorem dX11_crown_11 : decode cX11_crown 11 = .ok (.getfield 116, 3) := by decide +kernel
theorem dX11_crown_14 : decode cX11_crown 14 = .ok (.getfield 257, 3) := by decide +kernel
theorem dX11_crown_17 : decode cX11_crown 17 = .ok (.if_icmp .ge 27, 3) := by decide +kernel
theorem dX11_crown_20 : decode cX11_crown 20 = .ok (.aload_n 0, 1) := by decide +kernel
theorem dX11_crown_21 : decode cX11_crown 21 = .ok (.iload_n 3, 1) := by decide +kernel
theorem dX11_crown_22 : decode cX11_crown 22 = .ok (.invokevirtual 180, 3) := by decide +kernel
theorem dX11_crown_25 : decode cX11_crown 25 = .ok (.istore 4, 2) := by decide +kernel
theorem dX11_crown_27 : decode cX11_crown 27 = .ok (.iload 4, 2) := by decide +kernel
theorem dX11_crown_29 : decode cX11_crown 29 = .ok (.iload_n 2, 1) := by decide +kernel
theorem dX11_crown_30 : decode cX11_crown 30 = .ok (.if_icmp .le 8, 3) := by decide +kernel
theorem dX11_crown_33 : decode cX11_crown 33 = .ok (.iload 4, 2) := by decide +kernel
theorem dX11_crown_35 : decode cX11_crown 35 = .ok (.istore_n 2, 1) := by decide +kernel
theorem dX11_crown_36 : decode cX11_crown 36 = .ok (.iload_n 3, 1) := by decide +kernel
theorem dX11_crown_37 : decode cX11_crown 37 = .ok (.istore_n 1, 1) := by decide +kernel
theorem dX11_crown_38 : decode cX11_crown 38 = .ok (.iinc 3 1, 3) := by decide +kernel
theorem dX11_crown_41 : decode cX11_crown 41 = .ok (.goto (-35), 3) := by decide +kernel
theorem dX11_crown_44 : decode cX11_crown 44 = .ok (.iload_n 1, 1) := by decide +kernel
theorem dX11_crown_45 : decode cX11_crown 45 = .ok (.ireturn, 1) := by decide +kernel
theorem dX11_nextTooth_0 : decode cX11_nextTooth 0 = .ok (.aload_n 0, 1) := by decide +kernel
theorem dX11_nextTooth_1 : decode cX11_nextTooth 1 = .ok (.getfield 79, 3) := by decide +kernel
theorem dX11_nextTooth_4 : decode cX11_nextTooth 4 = .ok (.invokevirtual 244, 3) := by decide +kernel
theorem dX11_nextTooth_7 : decode cX11_nextTooth 7 = .ok (.iconst 1, 1) := by decide +kernel
theorem dX11_nextTooth_8 : decode cX11_nextTooth 8 = .ok (.istore_n 1, 1) := by decide +kernel
theorem dX11_nextTooth_9 : decode cX11_nextTooth 9 = .ok (.iload_n 1, 1) := by decide +kernel
theorem dX11_nextTooth_10 : decode cX11_nextTooth 10 = .ok (.bipush 99, 2) := by decide +kernel
theorem dX11_nextTooth_12 : decode cX11_nextTooth 12 = .ok (.if_icmp .gt 40, 3) := by decide +kernel
theorem dX11_nextTooth_15 : decode cX11_nextTooth 15 = .ok (.aload_n 0, 1) := by decide +kernel
theorem dX11_nextTooth_16 : decode cX11_nextTooth 16 = .ok (.getfield 70, 3) := by decide +kernel
theorem dX11_nextTooth_19 : decode cX11_nextTooth 19 = .ok (.aload_n 0, 1) := by decide +kernel
theorem dX11_nextTooth_20 : decode cX11_nextTooth 20 = .ok (.getfield 34, 3) := by decide +kernel
theorem dX11_nextTooth_23 : decode cX11_nextTooth 23 = .ok (.iconst 1, 1) := by decide +kernel
theorem dX11_nextTooth_24 : decode cX11_nextTooth 24 = .ok (.invokevirtual 240, 3) := by decide +kernel
theorem dX11_nextTooth_27 : decode cX11_nextTooth 27 = .ok (.aload_n 0, 1) := by decide +kernel
theorem dX11_nextTooth_28 : decode cX11_nextTooth 28 = .ok (.getfield 34, 3) := by decide +kernel
theorem dX11_nextTooth_31 : decode cX11_nextTooth 31 = .ok (.getfield 299, 3) := by decide +kernel
theorem dX11_nextTooth_34 : decode cX11_nextTooth 34 = .ok (.aload_n 0, 1) := by decide +kernel
theorem dX11_nextTooth_35 : decode cX11_nextTooth 35 = .ok (.getfield 27, 3) := by decide +kernel
theorem dX11_nextTooth_38 : decode cX11_nextTooth 38 = .ok (.getfield 299, 3) := by decide +kernel
theorem dX11_nextTooth_41 : decode cX11_nextTooth 41 = .ok (.if_icmp .le 5, 3) := by decide +kernel
theorem dX11_nextTooth_44 : decode cX11_nextTooth 44 = .ok (.iload_n 1, 1) := by decide +kernel
theorem dX11_nextTooth_45 : decode cX11_nextTooth 45 = .ok (.ireturn, 1) := by decide +kernel
theorem dX11_nextTooth_46 : decode cX11_nextTooth 46 = .ok (.iinc 1 1, 3) := by decide +kernel
theorem dX11_nextTooth_49 : decode cX11_nextTooth 49 = .ok (.goto (-40), 3) := by decide +kernel
theorem dX11_nextTooth_52 : decode cX11_nextTooth 52 = .ok (.bipush (-2), 2) := by decide +kernel
theorem dX11_nextTooth_54 : decode cX11_nextTooth 54 = .ok (.ireturn, 1) := by decide +kernel
theorem dX11_note_0 : decode cX11_note 0 = .ok (.aload_n 0, 1) := by decide +kernel
theorem dX11_note_1 : decode cX11_note 1 = .ok (.iload_n 1, 1) := by decide +kernel
theorem dX11_note_2 : decode cX11_note 2 = .ok (.invokevirtual 132, 3) := by decide +kernel
theorem dX11_note_5 : decode cX11_note 5 = .ok (.ifCond .eq 12, 3) := by decide +kernel
theorem dX11_note_8 : decode cX11_note 8 = .ok (.iload_n 2, 1) := by decide +kernel
theorem dX11_note_9 : decode cX11_note 9 = .ok (.ifCond .lt 8, 3) := by decide +kernel
theorem dX11_note_12 : decode cX11_note 12 = .ok (.iload_n 2, 1) := by decide +kernel
theorem dX11_note_13 : decode cX11_note 13 = .ok (.iconst 3, 1) := by decide +kernel
theorem dX11_note_14 : decode cX11_note 14 = .ok (.if_icmp .le 5, 3) := by decide +kernel
theorem dX11_note_17 : decode cX11_note 17 = .ok (.iconst (-1), 1) := by decide +kernel
theorem dX11_note_18 : decode cX11_note 18 = .ok (.ireturn, 1) := by decide +kernel
theorem dX11_note_19 : decode cX11_note 19 = .ok (.aload_n 0, 1) := by decide +kernel
theorem dX11_note_20 : decode cX11_note 20 = .ok (.getfield 40, 3) := by decide +kernel
theorem dX11_note_23 : decode cX11_note 23 = .ok (.iload_n 1, 1) := by decide +kernel
theorem dX11_note_24 : decode cX11_note 24 = .ok (.iload_n 2, 1) := by decide +kernel
theorem dX11_note_25 : decode cX11_note 25 = .ok (.iload_n 3, 1) := by decide +kernel
theorem dX11_note_26 : decode cX11_note 26 = .ok (.iconst (-1), 1) := by decide +kernel
theorem dX11_note_27 : decode cX11_note 27 = .ok (.invokevirtual 302, 3) := by decide +kernel
theorem dX11_note_30 : decode cX11_note 30 = .ok (.ireturn, 1) := by decide +kernel
theorem dX11_out_0 : decode cX11_out 0 = .ok (.iload_n 1, 1) := by decide +kernel
theorem dX11_out_1 : decode cX11_out 1 = .ok (.ifCond .lt 14, 3) := by decide +kernel
theorem dX11_out_4 : decode cX11_out 4 = .ok (.iload_n 1, 1) := by decide +kernel
theorem dX11_out_5 : decode cX11_out 5 = .ok (.aload_n 0, 1) := by decide +kernel
theorem dX11_out_6 : decode cX11_out 6 = .ok (.getfield 40, 3) := by decide +kernel
theorem dX11_out_9 : decode cX11_out 9 = .ok (.getfield 305, 3) := by decide +kernel
theorem dX11_out_12 : decode cX11_out 12 = .ok (.if_icmp .lt 5, 3) := by decide +kernel
theorem dX11_out_15 : decode cX11_out 15 = .ok (.iconst (-1), 1) := by decide +kernel
theorem dX11_out_16 : decode cX11_out 16 = .ok (.ireturn, 1) := by decide +kernel
theorem dX11_out_17 : decode cX11_out 17 = .ok (.aload_n 0, 1) := by decide +kernel
theorem dX11_out_18 : decode cX11_out 18 = .ok (.getfield 40, 3) := by decide +kernel
theorem dX11_out_21 : decode cX11_out 21 = .ok (.iconst (-1), 1) := by decide +kernel
theorem dX11_out_22 : decode cX11_out 22 = .ok (.iconst (-1), 1) := by decide +kernel
theorem dX11_out_23 : decode cX11_out 23 = .ok (.iconst 0, 1) := by decide +kernel
theorem dX11_out_24 : decode cX11_out 24 = .ok (.iload_n 1, 1) := by decide +kernel
theorem dX11_out_25 : decode cX11_out 25 = .ok (.invokevirtual 302, 3) := by decide +kernel
theorem dX11_out_28 : decode cX11_out 28 = .ok (.ireturn, 1) := by decide +kernel
theorem dX11_known_0 : decode cX11_known 0 = .ok (.iload_n 1, 1) := by decide +kernel
theorem dX11_known_1 : decode cX11_known 1 = .ok (.iconst (-1), 1) := by decide +kernel
theorem dX11_known_2 : decode cX11_known 2 = .ok (.if_icmp .lt 14, 3) := by decide +kernel
theorem dX11_known_5 : decode cX11_known 5 = .ok (.iload_n 1, 1) := by decide +kernel
theorem dX11_known_6 : decode cX11_known 6 = .ok (.aload_n 0, 1) := by decide +kernel
theorem dX11_known_7 : decode cX11_known 7 = .ok (.getfield 40, 3) := by decide +kernel
theorem dX11_known_10 : decode cX11_known 10 = .ok (.getfield 305, 3) := by decide +kernel
theorem dX11_known_13 : decode cX11_known 13 = .ok (.if_icmp .le 5, 3) := by decide +kernel
theorem dX11_known_16 : decode cX11_known 16 = .ok (.iconst 0, 1) := by decide +kernel
theorem dX11_known_17 : decode cX11_known 17 = .ok (.ireturn, 1) := by decide +kernel
theorem dX11_known_18 : decode cX11_known 18 = .ok (.aload_n 0, 1) := by decide +kernel
theorem dX11_known_19 : decode cX11_known 19 = .ok (.getfield 40, 3) := by decide +kernel
theorem dX11_known_22 : decode cX11_known 22 = .ok (.iload_n 1, 1) := by decide +kernel
theorem dX11_known_23 : decode cX11_known 23 = .ok (.putfield 306, 3) := by decide +kernel
theorem dX11_known_26 : decode cX11_known 26 = .ok (.iconst 1, 1) := by decide +kernel
theorem dX11_known_27 : decode cX11_known 27 = .ok (.ireturn, 1) := by decide +kernel
theorem dX11_levers_0 : decode cX11_levers 0 = .ok (.aload_n 0, 1) := by decide +kernel
theorem dX11_levers_1 : decode cX11_levers 1 = .ok (.getfield 40, 3) := by decide +kernel
theorem dX11_levers_4 : decode cX11_levers 4 = .ok (.invokevirtual 309, 3) := by decide +kernel
theorem dX11_levers_7 : decode cX11_levers 7 = .ok (.iconst 0, 1) := by decide +kernel
theorem dX11_levers_8 : decode cX11_levers 8 = .ok (.istore_n 1, 1) := by decide +kernel
theorem dX11_levers_9 : decode cX11_levers 9 = .ok (.iconst 0, 1) := by decide +kernel
theorem dX11_levers_10 : decode cX11_levers 10 = .ok (.istore_n 2, 1) := by decide +kernel
theorem dX11_levers_11 : decode cX11_levers 11 = .ok (.iload_n 2, 1) := by decide +kernel
theorem dX11_levers_12 : decode cX11_levers 12 = .ok (.bipush 10, 2) := by decide +kernel
theorem dX11_levers_14 : decode cX11_levers 14 = .ok (.if_icmp .ge 55, 3) := by decide +kernel
theorem dX11_levers_17 : decode cX11_levers 17 = .ok (.aload_n 0, 1) := by decide +kernel
theorem dX11_levers_18 : decode cX11_levers 18 = .ok (.getfield 79, 3) := by decide +kernel
theorem dX11_levers_21 : decode cX11_levers 21 = .ok (.bipush 10, 2) := by decide +kernel
theorem dX11_levers_23 : decode cX11_levers 23 = .ok (.iload_n 2, 1) := by decide +kernel
theorem dX11_levers_24 : decode cX11_levers 24 = .ok (.imul, 1) := by decide +kernel
theorem dX11_levers_25 : decode cX11_levers 25 = .ok (.iconst 5, 1) := by decide +kernel
theorem dX11_levers_26 : decode cX11_levers 26 = .ok (.iadd, 1) := by decide +kernel
theorem dX11_levers_27 : decode cX11_levers 27 = .ok (.invokevirtual 312, 3) := by decide +kernel
theorem dX11_levers_30 : decode cX11_levers 30 = .ok (.aload_n 0, 1) := by decide +kernel
theorem dX11_levers_31 : decode cX11_levers 31 = .ok (.getfield 70, 3) := by decide +kernel
theorem dX11_levers_34 : decode cX11_levers 34 = .ok (.aload_n 0, 1) := by decide +kernel
theorem dX11_levers_35 : decode cX11_levers 35 = .ok (.getfield 34, 3) := by decide +kernel
theorem dX11_levers_38 : decode cX11_levers 38 = .ok (.bipush 100, 2) := by decide +kernel
theorem dX11_levers_40 : decode cX11_levers 40 = .ok (.invokevirtual 240, 3) := by decide +kernel
theorem dX11_levers_43 : decode cX11_levers 43 = .ok (.aload_n 0, 1) := by decide +kernel
theorem dX11_levers_44 : decode cX11_levers 44 = .ok (.getfield 40, 3) := by decide +kernel
theorem dX11_levers_47 : decode cX11_levers 47 = .ok (.aload_n 0, 1) := by decide +kernel
theorem dX11_levers_48 : decode cX11_levers 48 = .ok (.getfield 34, 3) := by decide +kernel
theorem dX11_levers_51 : decode cX11_levers 51 = .ok (.invokevirtual 315, 3) := by decide +kernel
theorem dX11_levers_54 : decode cX11_levers 54 = .ok (.ifCond .eq 9, 3) := by decide +kernel
theorem dX11_levers_57 : decode cX11_levers 57 = .ok (.iload_n 1, 1) := by decide +kernel
theorem dX11_levers_58 : decode cX11_levers 58 = .ok (.iconst 1, 1) := by decide +kernel
theorem dX11_levers_59 : decode cX11_levers 59 = .ok (.iload_n 2, 1) := by decide +kernel
theorem dX11_levers_60 : decode cX11_levers 60 = .ok (.ishl, 1) := by decide +kernel
theorem dX11_levers_61 : decode cX11_levers 61 = .ok (.ior, 1) := by decide +kernel
theorem dX11_levers_62 : decode cX11_levers 62 = .ok (.istore_n 1, 1) := by decide +kernel
theorem dX11_levers_63 : decode cX11_levers 63 = .ok (.iinc 2 1, 3) := by decide +kernel
theorem dX11_levers_66 : decode cX11_levers 66 = .ok (.goto (-55), 3) := by decide +kernel
theorem dX11_levers_69 : decode cX11_levers 69 = .ok (.iload_n 1, 1) := by decide +kernel
theorem dX11_levers_70 : decode cX11_levers 70 = .ok (.ireturn, 1) := by decide +kernel
theorem dX11_chance_0 : decode cX11_chance 0 = .ok (.iload_n 1, 1) := by decide +kernel
theorem dX11_chance_1 : decode cX11_chance 1 = .ok (.ifCond .lt 25, 3) := by decide +kernel
theorem dX11_chance_4 : decode cX11_chance 4 = .ok (.iload_n 2, 1) := by decide +kernel
theorem dX11_chance_5 : decode cX11_chance 5 = .ok (.iconst 1, 1) := by decide +kernel
theorem dX11_chance_6 : decode cX11_chance 6 = .ok (.if_icmp .lt 20, 3) := by decide +kernel
theorem dX11_chance_9 : decode cX11_chance 9 = .ok (.iload_n 2, 1) := by decide +kernel
theorem dX11_chance_10 : decode cX11_chance 10 = .ok (.bipush 99, 2) := by decide +kernel
theorem dX11_chance_12 : decode cX11_chance 12 = .ok (.if_icmp .gt 14, 3) := by decide +kernel
theorem dX11_chance_15 : decode cX11_chance 15 = .ok (.iload_n 3, 1) := by decide +kernel
theorem dX11_chance_16 : decode cX11_chance 16 = .ok (.ifCond .lt 10, 3) := by decide +kernel
theorem dX11_chance_19 : decode cX11_chance 19 = .ok (.iload_n 3, 1) := by decide +kernel
theorem dX11_chance_20 : decode cX11_chance 20 = .ok (.sipush 999, 3) := by decide +kernel
theorem dX11_chance_23 : decode cX11_chance 23 = .ok (.if_icmp .le 5, 3) := by decide +kernel
theorem dX11_chance_26 : decode cX11_chance 26 = .ok (.iconst (-1), 1) := by decide +kernel
theorem dX11_chance_27 : decode cX11_chance 27 = .ok (.ireturn, 1) := by decide +kernel
theorem dX11_chance_28 : decode cX11_chance 28 = .ok (.aload_n 0, 1) := by decide +kernel
theorem dX11_chance_29 : decode cX11_chance 29 = .ok (.getfield 79, 3) := by decide +kernel
theorem dX11_chance_32 : decode cX11_chance 32 = .ok (.invokevirtual 244, 3) := by decide +kernel
theorem dX11_chance_35 : decode cX11_chance 35 = .ok (.aload_n 0, 1) := by decide +kernel
theorem dX11_chance_36 : decode cX11_chance 36 = .ok (.getfield 70, 3) := by decide +kernel
theorem dX11_chance_39 : decode cX11_chance 39 = .ok (.iconst 1, 1) := by decide +kernel
theorem dX11_chance_40 : decode cX11_chance 40 = .ok (.putfield 319, 3) := by decide +kernel
theorem dX11_chance_43 : decode cX11_chance 43 = .ok (.aload_n 0, 1) := by decide +kernel
theorem dX11_chance_44 : decode cX11_chance 44 = .ok (.getfield 70, 3) := by decide +kernel
theorem dX11_chance_47 : decode cX11_chance 47 = .ok (.iload_n 1, 1) := by decide +kernel
theorem dX11_chance_48 : decode cX11_chance 48 = .ok (.i2l, 1) := by decide +kernel
theorem dX11_chance_49 : decode cX11_chance 49 = .ok (.putfield 322, 3) := by decide +kernel
theorem dX11_chance_52 : decode cX11_chance 52 = .ok (.iconst 0, 1) := by decide +kernel
theorem dX11_chance_53 : decode cX11_chance 53 = .ok (.istore 4, 2) := by decide +kernel
theorem dX11_chance_55 : decode cX11_chance 55 = .ok (.iconst 0, 1) := by decide +kernel
theorem dX11_chance_56 : decode cX11_chance 56 = .ok (.istore 5, 2) := by decide +kernel
theorem dX11_chance_58 : decode cX11_chance 58 = .ok (.iload 5, 2) := by decide +kernel
theorem dX11_chance_60 : decode cX11_chance 60 = .ok (.bipush 10, 2) := by decide +kernel
theorem dX11_chance_62 : decode cX11_chance 62 = .ok (.if_icmp .ge 46, 3) := by decide +kernel
theorem dX11_chance_65 : decode cX11_chance 65 = .ok (.aload_n 0, 1) := by decide +kernel
theorem dX11_chance_66 : decode cX11_chance 66 = .ok (.getfield 34, 3) := by decide +kernel
theorem dX11_chance_69 : decode cX11_chance 69 = .ok (.aload_n 0, 1) := by decide +kernel
theorem dX11_chance_70 : decode cX11_chance 70 = .ok (.getfield 27, 3) := by decide +kernel
theorem dX11_chance_73 : decode cX11_chance 73 = .ok (.invokevirtual 326, 3) := by decide +kernel
theorem dX11_chance_76 : decode cX11_chance 76 = .ok (.aload_n 0, 1) := by decide +kernel
theorem dX11_chance_77 : decode cX11_chance 77 = .ok (.getfield 70, 3) := by decide +kernel
theorem dX11_chance_80 : decode cX11_chance 80 = .ok (.aload_n 0, 1) := by decide +kernel
theorem dX11_chance_81 : decode cX11_chance 81 = .ok (.getfield 34, 3) := by decide +kernel
theorem dX11_chance_84 : decode cX11_chance 84 = .ok (.iload_n 2, 1) := by decide +kernel
theorem dX11_chance_85 : decode cX11_chance 85 = .ok (.invokevirtual 240, 3) := by decide +kernel
theorem dX11_chance_88 : decode cX11_chance 88 = .ok (.aload_n 0, 1) := by decide +kernel
theorem dX11_chance_89 : decode cX11_chance 89 = .ok (.getfield 79, 3) := by decide +kernel
theorem dX11_chance_92 : decode cX11_chance 92 = .ok (.invokevirtual 250, 3) := by decide +kernel
theorem dX11_chance_95 : decode cX11_chance 95 = .ok (.iload_n 3, 1) := by decide +kernel
theorem dX11_chance_96 : decode cX11_chance 96 = .ok (.if_icmp .lt 6, 3) := by decide +kernel
theorem dX11_chance_99 : decode cX11_chance 99 = .ok (.iinc 4 1, 3) := by decide +kernel
theorem dX11_chance_102 : decode cX11_chance 102 = .ok (.iinc 5 1, 3) := by decide +kernel
theorem dX11_chance_105 : decode cX11_chance 105 = .ok (.goto (-47), 3) := by decide +kernel
theorem dX11_chance_108 : decode cX11_chance 108 = .ok (.iload 4, 2) := by decide +kernel
theorem dX11_chance_110 : decode cX11_chance 110 = .ok (.ireturn, 1) := by decide +kernel
theorem dX11_tried_0 : decode cX11_tried 0 = .ok (.iload_n 1, 1) := by decide +kernel
theorem dX11_tried_1 : decode cX11_tried 1 = .ok (.ifCond .lt 18, 3) := by decide +kernel
theorem dX11_tried_4 : decode cX11_tried 4 = .ok (.iload_n 1, 1) := by decide +kernel
theorem dX11_tried_5 : decode cX11_tried 5 = .ok (.iconst 5, 1) := by decide +kernel
theorem dX11_tried_6 : decode cX11_tried 6 = .ok (.if_icmp .gt 13, 3) := by decide +kernel
theorem dX11_tried_9 : decode cX11_tried 9 = .ok (.iload_n 3, 1) := by decide +kernel
theorem dX11_tried_10 : decode cX11_tried 10 = .ok (.ifCond .lt 9, 3) := by decide +kernel
theorem dX11_tried_13 : decode cX11_tried 13 = .ok (.iload_n 3, 1) := by decide +kernel
theorem dX11_tried_14 : decode cX11_tried 14 = .ok (.bipush 99, 2) := by decide +kernel
theorem dX11_tried_16 : decode cX11_tried 16 = .ok (.if_icmp .le 5, 3) := by decide +kernel
theorem dX11_tried_19 : decode cX11_tried 19 = .ok (.iconst (-1), 1) := by decide +kernel
theorem dX11_tried_20 : decode cX11_tried 20 = .ok (.ireturn, 1) := by decide +kernel
theorem dX11_tried_21 : decode cX11_tried 21 = .ok (.iload_n 1, 1) := by decide +kernel
theorem dX11_tried_22 : decode cX11_tried 22 = .ok (.iconst 2, 1) := by decide +kernel
theorem dX11_tried_23 : decode cX11_tried 23 = .ok (.if_icmp .ne 14, 3) := by decide +kernel
theorem dX11_tried_26 : decode cX11_tried 26 = .ok (.aload_n 0, 1) := by decide +kernel
theorem dX11_tried_27 : decode cX11_tried 27 = .ok (.iload_n 2, 1) := by decide +kernel
theorem dX11_tried_28 : decode cX11_tried 28 = .ok (.invokevirtual 168, 3) := by decide +kernel
theorem dX11_tried_31 : decode cX11_tried 31 = .ok (.ifCond .ne 12, 3) := by decide +kernel
theorem dX11_tried_34 : decode cX11_tried 34 = .ok (.goto 7, 3) := by decide +kernel
theorem dX11_tried_37 : decode cX11_tried 37 = .ok (.iload_n 2, 1) := by decide +kernel
theorem dX11_tried_38 : decode cX11_tried 38 = .ok (.ifCond .eq 5, 3) := by decide +kernel
theorem dX11_tried_41 : decode cX11_tried 41 = .ok (.iconst (-1), 1) := by decide +kernel
theorem dX11_tried_42 : decode cX11_tried 42 = .ok (.ireturn, 1) := by decide +kernel
theorem dX11_tried_43 : decode cX11_tried 43 = .ok (.aload_n 0, 1) := by decide +kernel
theorem dX11_tried_44 : decode cX11_tried 44 = .ok (.getfield 79, 3) := by decide +kernel
theorem dX11_tried_47 : decode cX11_tried 47 = .ok (.invokevirtual 244, 3) := by decide +kernel
theorem dX11_tried_50 : decode cX11_tried 50 = .ok (.aload_n 0, 1) := by decide +kernel
theorem dX11_tried_51 : decode cX11_tried 51 = .ok (.getfield 70, 3) := by decide +kernel
theorem dX11_tried_54 : decode cX11_tried 54 = .ok (.iload_n 1, 1) := by decide +kernel
theorem dX11_tried_55 : decode cX11_tried 55 = .ok (.iconst 1, 1) := by decide +kernel
theorem dX11_tried_56 : decode cX11_tried 56 = .ok (.if_icmp .ne 7, 3) := by decide +kernel
theorem dX11_tried_59 : decode cX11_tried 59 = .ok (.iconst 1, 1) := by decide +kernel
theorem dX11_tried_60 : decode cX11_tried 60 = .ok (.goto 4, 3) := by decide +kernel
theorem dX11_tried_63 : decode cX11_tried 63 = .ok (.iconst 0, 1) := by decide +kernel
theorem dX11_tried_64 : decode cX11_tried 64 = .ok (.putfield 330, 3) := by decide +kernel
theorem dX11_tried_67 : decode cX11_tried 67 = .ok (.aload_n 0, 1) := by decide +kernel
theorem dX11_tried_68 : decode cX11_tried 68 = .ok (.getfield 70, 3) := by decide +kernel
theorem dX11_tried_71 : decode cX11_tried 71 = .ok (.iload_n 1, 1) := by decide +kernel
theorem dX11_tried_72 : decode cX11_tried 72 = .ok (.iconst 2, 1) := by decide +kernel
theorem dX11_tried_73 : decode cX11_tried 73 = .ok (.if_icmp .ne 7, 3) := by decide +kernel
theorem dX11_tried_76 : decode cX11_tried 76 = .ok (.iload_n 2, 1) := by decide +kernel
theorem dX11_tried_77 : decode cX11_tried 77 = .ok (.goto 4, 3) := by decide +kernel
theorem dX11_tried_80 : decode cX11_tried 80 = .ok (.iconst (-1), 1) := by decide +kernel
theorem dX11_tried_81 : decode cX11_tried 81 = .ok (.putfield 333, 3) := by decide +kernel
theorem dX11_tried_84 : decode cX11_tried 84 = .ok (.aload_n 0, 1) := by decide +kernel
theorem dX11_tried_85 : decode cX11_tried 85 = .ok (.getfield 70, 3) := by decide +kernel
theorem dX11_tried_88 : decode cX11_tried 88 = .ok (.iload_n 1, 1) := by decide +kernel
theorem dX11_tried_89 : decode cX11_tried 89 = .ok (.iconst 3, 1) := by decide +kernel
theorem dX11_tried_90 : decode cX11_tried 90 = .ok (.if_icmp .ne 7, 3) := by decide +kernel
theorem dX11_tried_93 : decode cX11_tried 93 = .ok (.iconst 1, 1) := by decide +kernel
theorem dX11_tried_94 : decode cX11_tried 94 = .ok (.goto 4, 3) := by decide +kernel
theorem dX11_tried_97 : decode cX11_tried 97 = .ok (.iconst 0, 1) := by decide +kernel
theorem dX11_tried_98 : decode cX11_tried 98 = .ok (.putfield 336, 3) := by decide +kernel
theorem dX11_tried_101 : decode cX11_tried 101 = .ok (.aload_n 0, 1) := by decide +kernel
theorem dX11_tried_102 : decode cX11_tried 102 = .ok (.getfield 70, 3) := by decide +kernel
theorem dX11_tried_105 : decode cX11_tried 105 = .ok (.iload_n 1, 1) := by decide +kernel
theorem dX11_tried_106 : decode cX11_tried 106 = .ok (.iconst 4, 1) := by decide +kernel
theorem dX11_tried_107 : decode cX11_tried 107 = .ok (.if_icmp .ne 7, 3) := by decide +kernel
theorem dX11_tried_110 : decode cX11_tried 110 = .ok (.iconst 1, 1) := by decide +kernel
theorem dX11_tried_111 : decode cX11_tried 111 = .ok (.goto 4, 3) := by decide +kernel
theorem dX11_tried_114 : decode cX11_tried 114 = .ok (.iconst 0, 1) := by decide +kernel
theorem dX11_tried_115 : decode cX11_tried 115 = .ok (.putfield 339, 3) := by decide +kernel
theorem dX11_tried_118 : decode cX11_tried 118 = .ok (.iload_n 1, 1) := by decide +kernel
theorem dX11_tried_119 : decode cX11_tried 119 = .ok (.iconst 5, 1) := by decide +kernel
theorem dX11_tried_120 : decode cX11_tried 120 = .ok (.if_icmp .ne 12, 3) := by decide +kernel
theorem dX11_tried_123 : decode cX11_tried 123 = .ok (.aload_n 0, 1) := by decide +kernel
theorem dX11_tried_124 : decode cX11_tried 124 = .ok (.getfield 34, 3) := by decide +kernel
theorem dX11_tried_127 : decode cX11_tried 127 = .ok (.bipush 99, 2) := by decide +kernel
theorem dX11_tried_129 : decode cX11_tried 129 = .ok (.putfield 234, 3) := by decide +kernel
theorem dX11_tried_132 : decode cX11_tried 132 = .ok (.aload_n 0, 1) := by decide +kernel
theorem dX11_tried_133 : decode cX11_tried 133 = .ok (.getfield 70, 3) := by decide +kernel
theorem dX11_tried_136 : decode cX11_tried 136 = .ok (.aload_n 0, 1) := by decide +kernel
theorem dX11_tried_137 : decode cX11_tried 137 = .ok (.getfield 34, 3) := by decide +kernel
theorem dX11_tried_140 : decode cX11_tried 140 = .ok (.iload_n 3, 1) := by decide +kernel
theorem dX11_tried_141 : decode cX11_tried 141 = .ok (.invokevirtual 240, 3) := by decide +kernel
theorem dX11_tried_144 : decode cX11_tried 144 = .ok (.aload_n 0, 1) := by decide +kernel
theorem dX11_tried_145 : decode cX11_tried 145 = .ok (.getfield 79, 3) := by decide +kernel
theorem dX11_tried_148 : decode cX11_tried 148 = .ok (.invokevirtual 250, 3) := by decide +kernel
theorem dX11_tried_151 : decode cX11_tried 151 = .ok (.ireturn, 1) := by decide +kernel
theorem dX11_undo_0 : decode cX11_undo 0 = .ok (.aload_n 0, 1) := by decide +kernel
theorem dX11_undo_1 : decode cX11_undo 1 = .ok (.getfield 47, 3) := by decide +kernel
theorem dX11_undo_4 : decode cX11_undo 4 = .ok (.getfield 342, 3) := by decide +kernel
theorem dX11_undo_7 : decode cX11_undo 7 = .ok (.ifCond .ne 5, 3) := by decide +kernel
theorem dX11_undo_10 : decode cX11_undo 10 = .ok (.iconst (-1), 1) := by decide +kernel
theorem dX11_undo_11 : decode cX11_undo 11 = .ok (.ireturn, 1) := by decide +kernel
theorem dX11_undo_12 : decode cX11_undo 12 = .ok (.aload_n 0, 1) := by decide +kernel
theorem dX11_undo_13 : decode cX11_undo 13 = .ok (.getfield 47, 3) := by decide +kernel
theorem dX11_undo_16 : decode cX11_undo 16 = .ok (.aload_n 0, 1) := by decide +kernel
theorem dX11_undo_17 : decode cX11_undo 17 = .ok (.getfield 27, 3) := by decide +kernel
theorem dX11_undo_20 : decode cX11_undo 20 = .ok (.invokevirtual 343, 3) := by decide +kernel
theorem dX11_undo_23 : decode cX11_undo 23 = .ok (.aload_n 0, 1) := by decide +kernel
theorem dX11_undo_24 : decode cX11_undo 24 = .ok (.getfield 47, 3) := by decide +kernel
theorem dX11_undo_27 : decode cX11_undo 27 = .ok (.getfield 342, 3) := by decide +kernel
theorem dX11_undo_30 : decode cX11_undo 30 = .ok (.ireturn, 1) := by decide +kernel
theorem dX11_keep_0 : decode cX11_keep 0 = .ok (.aload_n 0, 1) := by decide +kernel
theorem dX11_keep_1 : decode cX11_keep 1 = .ok (.getfield 31, 3) := by decide +kernel
theorem dX11_keep_4 : decode cX11_keep 4 = .ok (.aload_n 0, 1) := by decide +kernel
theorem dX11_keep_5 : decode cX11_keep 5 = .ok (.getfield 27, 3) := by decide +kernel
theorem dX11_keep_8 : decode cX11_keep 8 = .ok (.invokevirtual 326, 3) := by decide +kernel
theorem dX11_keep_11 : decode cX11_keep 11 = .ok (.aload_n 0, 1) := by decide +kernel
theorem dX11_keep_12 : decode cX11_keep 12 = .ok (.iconst 1, 1) := by decide +kernel
theorem dX11_keep_13 : decode cX11_keep 13 = .ok (.putfield 109, 3) := by decide +kernel
theorem dX11_keep_16 : decode cX11_keep 16 = .ok (.aload_n 0, 1) := by decide +kernel
theorem dX11_keep_17 : decode cX11_keep 17 = .ok (.getfield 27, 3) := by decide +kernel
theorem dX11_keep_20 : decode cX11_keep 20 = .ok (.getfield 231, 3) := by decide +kernel
theorem dX11_keep_23 : decode cX11_keep 23 = .ok (.ireturn, 1) := by decide +kernel
theorem dX11_back_0 : decode cX11_back 0 = .ok (.aload_n 0, 1) := by decide +kernel
theorem dX11_back_1 : decode cX11_back 1 = .ok (.getfield 109, 3) := by decide +kernel
theorem dX11_back_4 : decode cX11_back 4 = .ok (.ifCond .ne 5, 3) := by decide +kernel
theorem dX11_back_7 : decode cX11_back 7 = .ok (.iconst (-1), 1) := by decide +kernel
theorem dX11_back_8 : decode cX11_back 8 = .ok (.ireturn, 1) := by decide +kernel
theorem dX11_back_9 : decode cX11_back 9 = .ok (.aload_n 0, 1) := by decide +kernel
theorem dX11_back_10 : decode cX11_back 10 = .ok (.getfield 27, 3) := by decide +kernel
theorem dX11_back_13 : decode cX11_back 13 = .ok (.aload_n 0, 1) := by decide +kernel
theorem dX11_back_14 : decode cX11_back 14 = .ok (.getfield 31, 3) := by decide +kernel
theorem dX11_back_17 : decode cX11_back 17 = .ok (.invokevirtual 326, 3) := by decide +kernel
theorem dX11_back_20 : decode cX11_back 20 = .ok (.aload_n 0, 1) := by decide +kernel
theorem dX11_back_21 : decode cX11_back 21 = .ok (.getfield 47, 3) := by decide +kernel
theorem dX11_back_24 : decode cX11_back 24 = .ok (.invokevirtual 108, 3) := by decide +kernel
theorem dX11_back_27 : decode cX11_back 27 = .ok (.aload_n 0, 1) := by decide +kernel
theorem dX11_back_28 : decode cX11_back 28 = .ok (.getfield 27, 3) := by decide +kernel
theorem dX11_back_31 : decode cX11_back 31 = .ok (.getfield 231, 3) := by decide +kernel
theorem dX11_back_34 : decode cX11_back 34 = .ok (.ireturn, 1) := by decide +kernel
theorem dX11_count_0 : decode cX11_count 0 = .ok (.iload_n 1, 1) := by decide +kernel
theorem dX11_count_1 : decode cX11_count 1 = .ok (.tableswitch 228 0 15 #[79, 90, 101, 112, 123, 131, 139, 149, 159, 169, 179, 191, 196, 204, 212, 220], 79) := by decide +kernel
theorem dX11_count_80 : decode cX11_count 80 = .ok (.aload_n 0, 1) := by decide +kernel
theorem dX11_count_81 : decode cX11_count 81 = .ok (.getfield 54, 3) := by decide +kernel
theorem dX11_count_84 : decode cX11_count 84 = .ok (.getfield 116, 3) := by decide +kernel
theorem dX11_count_87 : decode cX11_count 87 = .ok (.getfield 257, 3) := by decide +kernel
theorem dX11_count_90 : decode cX11_count 90 = .ok (.ireturn, 1) := by decide +kernel
theorem dX11_count_91 : decode cX11_count 91 = .ok (.aload_n 0, 1) := by decide +kernel
theorem dX11_count_92 : decode cX11_count 92 = .ok (.getfield 54, 3) := by decide +kernel
theorem dX11_count_95 : decode cX11_count 95 = .ok (.getfield 126, 3) := by decide +kernel
theorem dX11_count_98 : decode cX11_count 98 = .ok (.getfield 257, 3) := by decide +kernel
theorem dX11_count_101 : decode cX11_count 101 = .ok (.ireturn, 1) := by decide +kernel
theorem dX11_count_102 : decode cX11_count 102 = .ok (.aload_n 0, 1) := by decide +kernel
theorem dX11_count_103 : decode cX11_count 103 = .ok (.getfield 54, 3) := by decide +kernel
theorem dX11_count_106 : decode cX11_count 106 = .ok (.getfield 129, 3) := by decide +kernel
theorem dX11_count_109 : decode cX11_count 109 = .ok (.getfield 257, 3) := by decide +kernel
theorem dX11_count_112 : decode cX11_count 112 = .ok (.ireturn, 1) := by decide +kernel
theorem dX11_count_113 : decode cX11_count 113 = .ok (.aload_n 0, 1) := by decide +kernel
theorem dX11_count_114 : decode cX11_count 114 = .ok (.getfield 54, 3) := by decide +kernel
theorem dX11_count_117 : decode cX11_count 117 = .ok (.getfield 207, 3) := by decide +kernel
theorem dX11_count_120 : decode cX11_count 120 = .ok (.getfield 346, 3) := by decide +kernel
theorem dX11_count_123 : decode cX11_count 123 = .ok (.ireturn, 1) := by decide +kernel
theorem dX11_count_124 : decode cX11_count 124 = .ok (.aload_n 0, 1) := by decide +kernel
theorem dX11_count_125 : decode cX11_count 125 = .ok (.getfield 27, 3) := by decide +kernel
theorem dX11_count_128 : decode cX11_count 128 = .ok (.getfield 231, 3) := by decide +kernel
theorem dX11_count_131 : decode cX11_count 131 = .ok (.ireturn, 1) := by decide +kernel
theorem dX11_count_132 : decode cX11_count 132 = .ok (.aload_n 0, 1) := by decide +kernel
theorem dX11_count_133 : decode cX11_count 133 = .ok (.getfield 27, 3) := by decide +kernel
theorem dX11_count_136 : decode cX11_count 136 = .ok (.getfield 234, 3) := by decide +kernel
theorem dX11_count_139 : decode cX11_count 139 = .ok (.ireturn, 1) := by decide +kernel
theorem dX11_count_140 : decode cX11_count 140 = .ok (.aload_n 0, 1) := by decide +kernel
theorem dX11_count_141 : decode cX11_count 141 = .ok (.aload_n 0, 1) := by decide +kernel
theorem dX11_count_142 : decode cX11_count 142 = .ok (.getfield 27, 3) := by decide +kernel
theorem dX11_count_145 : decode cX11_count 145 = .ok (.iconst 0, 1) := by decide +kernel
theorem dX11_count_146 : decode cX11_count 146 = .ok (.invokevirtual 247, 3) := by decide +kernel
theorem dX11_count_149 : decode cX11_count 149 = .ok (.ireturn, 1) := by decide +kernel
theorem dX11_count_150 : decode cX11_count 150 = .ok (.aload_n 0, 1) := by decide +kernel
theorem dX11_count_151 : decode cX11_count 151 = .ok (.aload_n 0, 1) := by decide +kernel
theorem dX11_count_152 : decode cX11_count 152 = .ok (.getfield 27, 3) := by decide +kernel
theorem dX11_count_155 : decode cX11_count 155 = .ok (.iconst 1, 1) := by decide +kernel
theorem dX11_count_156 : decode cX11_count 156 = .ok (.invokevirtual 247, 3) := by decide +kernel
theorem dX11_count_159 : decode cX11_count 159 = .ok (.ireturn, 1) := by decide +kernel
theorem dX11_count_160 : decode cX11_count 160 = .ok (.aload_n 0, 1) := by decide +kernel
theorem dX11_count_161 : decode cX11_count 161 = .ok (.aload_n 0, 1) := by decide +kernel
theorem dX11_count_162 : decode cX11_count 162 = .ok (.getfield 27, 3) := by decide +kernel
theorem dX11_count_165 : decode cX11_count 165 = .ok (.iconst 2, 1) := by decide +kernel
theorem dX11_count_166 : decode cX11_count 166 = .ok (.invokevirtual 247, 3) := by decide +kernel
theorem dX11_count_169 : decode cX11_count 169 = .ok (.ireturn, 1) := by decide +kernel
theorem dX11_count_170 : decode cX11_count 170 = .ok (.aload_n 0, 1) := by decide +kernel
theorem dX11_count_171 : decode cX11_count 171 = .ok (.aload_n 0, 1) := by decide +kernel
theorem dX11_count_172 : decode cX11_count 172 = .ok (.getfield 27, 3) := by decide +kernel
theorem dX11_count_175 : decode cX11_count 175 = .ok (.iconst 3, 1) := by decide +kernel
theorem dX11_count_176 : decode cX11_count 176 = .ok (.invokevirtual 247, 3) := by decide +kernel
theorem dX11_count_179 : decode cX11_count 179 = .ok (.ireturn, 1) := by decide +kernel
theorem dX11_count_180 : decode cX11_count 180 = .ok (.aload_n 0, 1) := by decide +kernel
theorem dX11_count_181 : decode cX11_count 181 = .ok (.getfield 70, 3) := by decide +kernel
theorem dX11_count_184 : decode cX11_count 184 = .ok (.aload_n 0, 1) := by decide +kernel
theorem dX11_count_185 : decode cX11_count 185 = .ok (.getfield 27, 3) := by decide +kernel
theorem dX11_count_188 : decode cX11_count 188 = .ok (.invokevirtual 349, 3) := by decide +kernel
theorem dX11_count_191 : decode cX11_count 191 = .ok (.ireturn, 1) := by decide +kernel
theorem dX11_count_192 : decode cX11_count 192 = .ok (.aload_n 0, 1) := by decide +kernel
theorem dX11_count_193 : decode cX11_count 193 = .ok (.invokevirtual 352, 3) := by decide +kernel
theorem dX11_count_196 : decode cX11_count 196 = .ok (.ireturn, 1) := by decide +kernel
theorem dX11_count_197 : decode cX11_count 197 = .ok (.aload_n 0, 1) := by decide +kernel
theorem dX11_count_198 : decode cX11_count 198 = .ok (.getfield 27, 3) := by decide +kernel
theorem dX11_count_201 : decode cX11_count 201 = .ok (.getfield 299, 3) := by decide +kernel
theorem dX11_count_204 : decode cX11_count 204 = .ok (.ireturn, 1) := by decide +kernel
theorem dX11_count_205 : decode cX11_count 205 = .ok (.aload_n 0, 1) := by decide +kernel
theorem dX11_count_206 : decode cX11_count 206 = .ok (.getfield 40, 3) := by decide +kernel
theorem dX11_count_209 : decode cX11_count 209 = .ok (.getfield 305, 3) := by decide +kernel
theorem dX11_count_212 : decode cX11_count 212 = .ok (.ireturn, 1) := by decide +kernel
theorem dX11_count_213 : decode cX11_count 213 = .ok (.aload_n 0, 1) := by decide +kernel
theorem dX11_count_214 : decode cX11_count 214 = .ok (.getfield 40, 3) := by decide +kernel
theorem dX11_count_217 : decode cX11_count 217 = .ok (.invokevirtual 355, 3) := by decide +kernel
theorem dX11_count_220 : decode cX11_count 220 = .ok (.ireturn, 1) := by decide +kernel
theorem dX11_count_221 : decode cX11_count 221 = .ok (.aload_n 0, 1) := by decide +kernel
theorem dX11_count_222 : decode cX11_count 222 = .ok (.getfield 47, 3) := by decide +kernel
theorem dX11_count_225 : decode cX11_count 225 = .ok (.getfield 342, 3) := by decide +kernel
theorem dX11_count_228 : decode cX11_count 228 = .ok (.ireturn, 1) := by decide +kernel
theorem dX11_count_229 : decode cX11_count 229 = .ok (.iconst (-1), 1) := by decide +kernel
theorem dX11_count_230 : decode cX11_count 230 = .ok (.ireturn, 1) := by decide +kernel
theorem dX11_feedFour_0 : decode cX11_feedFour 0 = .ok (.bipush 24, 2) := by decide +kernel
theorem dX11_feedFour_2 : decode cX11_feedFour 2 = .ok (.istore_n 2, 1) := by decide +kernel
theorem dX11_feedFour_3 : decode cX11_feedFour 3 = .ok (.iload_n 2, 1) := by decide +kernel
theorem dX11_feedFour_4 : decode cX11_feedFour 4 = .ok (.ifCond .lt 42, 3) := by decide +kernel
theorem dX11_feedFour_7 : decode cX11_feedFour 7 = .ok (.aload_n 0, 1) := by decide +kernel
theorem dX11_feedFour_8 : decode cX11_feedFour 8 = .ok (.getfield 86, 3) := by decide +kernel
theorem dX11_feedFour_11 : decode cX11_feedFour 11 = .ok (.sipush 700, 3) := by decide +kernel
theorem dX11_feedFour_14 : decode cX11_feedFour 14 = .ok (.if_icmp .ge 32, 3) := by decide +kernel
theorem dX11_feedFour_17 : decode cX11_feedFour 17 = .ok (.aload_n 0, 1) := by decide +kernel
theorem dX11_feedFour_18 : decode cX11_feedFour 18 = .ok (.getfield 11, 3) := by decide +kernel
theorem dX11_feedFour_21 : decode cX11_feedFour 21 = .ok (.aload_n 0, 1) := by decide +kernel
theorem dX11_feedFour_22 : decode cX11_feedFour 22 = .ok (.getfield 86, 3) := by decide +kernel
theorem dX11_feedFour_25 : decode cX11_feedFour 25 = .ok (.iload_n 1, 1) := by decide +kernel
theorem dX11_feedFour_26 : decode cX11_feedFour 26 = .ok (.iload_n 2, 1) := by decide +kernel
theorem dX11_feedFour_27 : decode cX11_feedFour 27 = .ok (.ishr, 1) := by decide +kernel
theorem dX11_feedFour_28 : decode cX11_feedFour 28 = .ok (.i2b, 1) := by decide +kernel
theorem dX11_feedFour_29 : decode cX11_feedFour 29 = .ok (.bastore, 1) := by decide +kernel
theorem dX11_feedFour_30 : decode cX11_feedFour 30 = .ok (.aload_n 0, 1) := by decide +kernel
theorem dX11_feedFour_31 : decode cX11_feedFour 31 = .ok (.dup, 1) := by decide +kernel
theorem dX11_feedFour_32 : decode cX11_feedFour 32 = .ok (.getfield 86, 3) := by decide +kernel
theorem dX11_feedFour_35 : decode cX11_feedFour 35 = .ok (.iconst 1, 1) := by decide +kernel
theorem dX11_feedFour_36 : decode cX11_feedFour 36 = .ok (.iadd, 1) := by decide +kernel
theorem dX11_feedFour_37 : decode cX11_feedFour 37 = .ok (.putfield 86, 3) := by decide +kernel
theorem dX11_feedFour_40 : decode cX11_feedFour 40 = .ok (.iinc 2 (-8), 3) := by decide +kernel
theorem dX11_feedFour_43 : decode cX11_feedFour 43 = .ok (.goto (-40), 3) := by decide +kernel
theorem dX11_feedFour_46 : decode cX11_feedFour 46 = .ok (.return_, 1) := by decide +kernel
theorem dX11_isJudge_0 : decode cX11_isJudge 0 = .ok (.iload_n 1, 1) := by decide +kernel
theorem dX11_isJudge_1 : decode cX11_isJudge 1 = .ok (.ifCond .lt 21, 3) := by decide +kernel
theorem dX11_isJudge_4 : decode cX11_isJudge 4 = .ok (.iload_n 1, 1) := by decide +kernel
theorem dX11_isJudge_5 : decode cX11_isJudge 5 = .ok (.aload_n 0, 1) := by decide +kernel
theorem dX11_isJudge_6 : decode cX11_isJudge 6 = .ok (.getfield 54, 3) := by decide +kernel
theorem dX11_isJudge_9 : decode cX11_isJudge 9 = .ok (.getfield 116, 3) := by decide +kernel
theorem dX11_isJudge_12 : decode cX11_isJudge 12 = .ok (.getfield 257, 3) := by decide +kernel
theorem dX11_isJudge_15 : decode cX11_isJudge 15 = .ok (.if_icmp .ge 7, 3) := by decide +kernel
theorem dX11_isJudge_18 : decode cX11_isJudge 18 = .ok (.iconst 1, 1) := by decide +kernel
theorem dX11_isJudge_19 : decode cX11_isJudge 19 = .ok (.goto 4, 3) := by decide +kernel
theorem dX11_isJudge_22 : decode cX11_isJudge 22 = .ok (.iconst 0, 1) := by decide +kernel
theorem dX11_isJudge_23 : decode cX11_isJudge 23 = .ok (.ireturn, 1) := by decide +kernel
theorem dX11_isNut_0 : decode cX11_isNut 0 = .ok (.iload_n 1, 1) := by decide +kernel
theorem dX11_isNut_1 : decode cX11_isNut 1 = .ok (.ifCond .lt 21, 3) := by decide +kernel
theorem dX11_isNut_4 : decode cX11_isNut 4 = .ok (.iload_n 1, 1) := by decide +kernel
theorem dX11_isNut_5 : decode cX11_isNut 5 = .ok (.aload_n 0, 1) := by decide +kernel
theorem dX11_isNut_6 : decode cX11_isNut 6 = .ok (.getfield 54, 3) := by decide +kernel
theorem dX11_isNut_9 : decode cX11_isNut 9 = .ok (.getfield 126, 3) := by decide +kernel
theorem dX11_isNut_12 : decode cX11_isNut 12 = .ok (.getfield 257, 3) := by decide +kernel
theorem dX11_isNut_15 : decode cX11_isNut 15 = .ok (.if_icmp .ge 7, 3) := by decide +kernel
theorem dX11_isNut_18 : decode cX11_isNut 18 = .ok (.iconst 1, 1) := by decide +kernel
theorem dX11_isNut_19 : decode cX11_isNut 19 = .ok (.goto 4, 3) := by decide +kernel
theorem dX11_isNut_22 : decode cX11_isNut 22 = .ok (.iconst 0, 1) := by decide +kernel
theorem dX11_isNut_23 : decode cX11_isNut 23 = .ok (.ireturn, 1) := by decide +kernel
theorem dX11_isSuit_0 : decode cX11_isSuit 0 = .ok (.iload_n 1, 1) := by decide +kernel
theorem dX11_isSuit_1 : decode cX11_isSuit 1 = .ok (.ifCond .lt 21, 3) := by decide +kernel
theorem dX11_isSuit_4 : decode cX11_isSuit 4 = .ok (.iload_n 1, 1) := by decide +kernel
theorem dX11_isSuit_5 : decode cX11_isSuit 5 = .ok (.aload_n 0, 1) := by decide +kernel
theorem dX11_isSuit_6 : decode cX11_isSuit 6 = .ok (.getfield 54, 3) := by decide +kernel
theorem dX11_isSuit_9 : decode cX11_isSuit 9 = .ok (.getfield 129, 3) := by decide +kernel
theorem dX11_isSuit_12 : decode cX11_isSuit 12 = .ok (.getfield 257, 3) := by decide +kernel
theorem dX11_isSuit_15 : decode cX11_isSuit 15 = .ok (.if_icmp .ge 7, 3) := by decide +kernel
theorem dX11_isSuit_18 : decode cX11_isSuit 18 = .ok (.iconst 1, 1) := by decide +kernel
theorem dX11_isSuit_19 : decode cX11_isSuit 19 = .ok (.goto 4, 3) := by decide +kernel
theorem dX11_isSuit_22 : decode cX11_isSuit 22 = .ok (.iconst 0, 1) := by decide +kernel
theorem dX11_isSuit_23 : decode cX11_isSuit 23 = .ok (.ireturn, 1) := by decide +kernel
theorem dX11_isPending_0 : decode cX11_isPending 0 = .ok (.aload_n 0, 1) := by decide +kernel
theorem dX11_isPending_1 : decode cX11_isPending 1 = .ok (.iload_n 1, 1) := by decide +kernel
theorem dX11_isPending_2 : decode cX11_isPending 2 = .ok (.invokevirtual 132, 3) := by decide +kernel
theorem dX11_isPending_5 : decode cX11_isPending 5 = .ok (.ifCond .eq 20, 3) := by decide +kernel
theorem dX11_isPending_8 : decode cX11_isPending 8 = .ok (.aload_n 0, 1) := by decide +kernel
theorem dX11_isPending_9 : decode cX11_isPending 9 = .ok (.getfield 27, 3) := by decide +kernel
theorem dX11_isPending_12 : decode cX11_isPending 12 = .ok (.getfield 156, 3) := by decide +kernel
theorem dX11_isPending_15 : decode cX11_isPending 15 = .ok (.iload_n 1, 1) := by decide +kernel
theorem dX11_isPending_16 : decode cX11_isPending 16 = .ok (.iaload, 1) := by decide +kernel
theorem dX11_isPending_17 : decode cX11_isPending 17 = .ok (.iconst (-1), 1) := by decide +kernel
theorem dX11_isPending_18 : decode cX11_isPending 18 = .ok (.if_icmp .ne 7, 3) := by decide +kernel
theorem dX11_isPending_21 : decode cX11_isPending 21 = .ok (.iconst 1, 1) := by decide +kernel
theorem dX11_isPending_22 : decode cX11_isPending 22 = .ok (.goto 4, 3) := by decide +kernel
theorem dX11_isPending_25 : decode cX11_isPending 25 = .ok (.iconst 0, 1) := by decide +kernel
theorem dX11_isPending_26 : decode cX11_isPending 26 = .ok (.ireturn, 1) := by decide +kernel
theorem dX11_verdictWithoutStone_0 : decode cX11_verdictWithoutStone 0 = .ok (.aload_n 0, 1) := by decide +kernel
theorem dX11_verdictWithoutStone_1 : decode cX11_verdictWithoutStone 1 = .ok (.iload_n 1, 1) := by decide +kernel
theorem dX11_verdictWithoutStone_2 : decode cX11_verdictWithoutStone 2 = .ok (.invokevirtual 168, 3) := by decide +kernel
theorem dX11_verdictWithoutStone_5 : decode cX11_verdictWithoutStone 5 = .ok (.ifCond .eq 11, 3) := by decide +kernel
theorem dX11_verdictWithoutStone_8 : decode cX11_verdictWithoutStone 8 = .ok (.aload_n 0, 1) := by decide +kernel
theorem dX11_verdictWithoutStone_9 : decode cX11_verdictWithoutStone 9 = .ok (.iload_n 2, 1) := by decide +kernel
theorem dX11_verdictWithoutStone_10 : decode cX11_verdictWithoutStone 10 = .ok (.invokevirtual 183, 3) := by decide +kernel
theorem dX11_verdictWithoutStone_13 : decode cX11_verdictWithoutStone 13 = .ok (.ifCond .ne 5, 3) := by decide +kernel
theorem dX11_verdictWithoutStone_16 : decode cX11_verdictWithoutStone 16 = .ok (.iconst (-1), 1) := by decide +kernel
theorem dX11_verdictWithoutStone_17 : decode cX11_verdictWithoutStone 17 = .ok (.ireturn, 1) := by decide +kernel
theorem dX11_verdictWithoutStone_18 : decode cX11_verdictWithoutStone 18 = .ok (.aload_n 0, 1) := by decide +kernel
theorem dX11_verdictWithoutStone_19 : decode cX11_verdictWithoutStone 19 = .ok (.getfield 70, 3) := by decide +kernel
theorem dX11_verdictWithoutStone_22 : decode cX11_verdictWithoutStone 22 = .ok (.invokevirtual 237, 3) := by decide +kernel
theorem dX11_verdictWithoutStone_25 : decode cX11_verdictWithoutStone 25 = .ok (.aload_n 0, 1) := by decide +kernel
theorem dX11_verdictWithoutStone_26 : decode cX11_verdictWithoutStone 26 = .ok (.getfield 70, 3) := by decide +kernel
theorem dX11_verdictWithoutStone_29 : decode cX11_verdictWithoutStone 29 = .ok (.aload_n 0, 1) := by decide +kernel
theorem dX11_verdictWithoutStone_30 : decode cX11_verdictWithoutStone 30 = .ok (.getfield 27, 3) := by decide +kernel
theorem dX11_verdictWithoutStone_33 : decode cX11_verdictWithoutStone 33 = .ok (.iload_n 1, 1) := by decide +kernel
theorem dX11_verdictWithoutStone_34 : decode cX11_verdictWithoutStone 34 = .ok (.iload_n 2, 1) := by decide +kernel
theorem dX11_verdictWithoutStone_35 : decode cX11_verdictWithoutStone 35 = .ok (.aload_n 0, 1) := by decide +kernel
theorem dX11_verdictWithoutStone_36 : decode cX11_verdictWithoutStone 36 = .ok (.getfield 54, 3) := by decide +kernel
theorem dX11_verdictWithoutStone_39 : decode cX11_verdictWithoutStone 39 = .ok (.getfield 186, 3) := by decide +kernel
theorem dX11_verdictWithoutStone_42 : decode cX11_verdictWithoutStone 42 = .ok (.iload_n 2, 1) := by decide +kernel
theorem dX11_verdictWithoutStone_43 : decode cX11_verdictWithoutStone 43 = .ok (.iaload, 1) := by decide +kernel
theorem dX11_verdictWithoutStone_44 : decode cX11_verdictWithoutStone 44 = .ok (.invokevirtual 275, 3) := by decide +kernel
theorem dX11_verdictWithoutStone_47 : decode cX11_verdictWithoutStone 47 = .ok (.ireturn, 1) := by decide +kernel
theorem dX11_verdictNow_0 : decode cX11_verdictNow 0 = .ok (.aload_n 0, 1) := by decide +kernel
theorem dX11_verdictNow_1 : decode cX11_verdictNow 1 = .ok (.getfield 70, 3) := by decide +kernel
theorem dX11_verdictNow_4 : decode cX11_verdictNow 4 = .ok (.invokevirtual 237, 3) := by decide +kernel
theorem dX11_verdictNow_7 : decode cX11_verdictNow 7 = .ok (.aload_n 0, 1) := by decide +kernel
theorem dX11_verdictNow_8 : decode cX11_verdictNow 8 = .ok (.getfield 70, 3) := by decide +kernel
theorem dX11_verdictNow_11 : decode cX11_verdictNow 11 = .ok (.aload_n 0, 1) := by decide +kernel
theorem dX11_verdictNow_12 : decode cX11_verdictNow 12 = .ok (.getfield 27, 3) := by decide +kernel
theorem dX11_verdictNow_15 : decode cX11_verdictNow 15 = .ok (.aload_n 0, 1) := by decide +kernel
theorem dX11_verdictNow_16 : decode cX11_verdictNow 16 = .ok (.getfield 27, 3) := by decide +kernel
theorem dX11_verdictNow_19 : decode cX11_verdictNow 19 = .ok (.getfield 143, 3) := by decide +kernel
theorem dX11_verdictNow_22 : decode cX11_verdictNow 22 = .ok (.iload_n 1, 1) := by decide +kernel
theorem dX11_verdictNow_23 : decode cX11_verdictNow 23 = .ok (.iaload, 1) := by decide +kernel
theorem dX11_verdictNow_24 : decode cX11_verdictNow 24 = .ok (.aload_n 0, 1) := by decide +kernel
theorem dX11_verdictNow_25 : decode cX11_verdictNow 25 = .ok (.getfield 54, 3) := by decide +kernel
theorem dX11_verdictNow_28 : decode cX11_verdictNow 28 = .ok (.getfield 147, 3) := by decide +kernel
theorem dX11_verdictNow_31 : decode cX11_verdictNow 31 = .ok (.iload_n 1, 1) := by decide +kernel
theorem dX11_verdictNow_32 : decode cX11_verdictNow 32 = .ok (.iaload, 1) := by decide +kernel
theorem dX11_verdictNow_33 : decode cX11_verdictNow 33 = .ok (.aload_n 0, 1) := by decide +kernel
theorem dX11_verdictNow_34 : decode cX11_verdictNow 34 = .ok (.getfield 70, 3) := by decide +kernel
theorem dX11_verdictNow_37 : decode cX11_verdictNow 37 = .ok (.aload_n 0, 1) := by decide +kernel
theorem dX11_verdictNow_38 : decode cX11_verdictNow 38 = .ok (.getfield 27, 3) := by decide +kernel
theorem dX11_verdictNow_41 : decode cX11_verdictNow 41 = .ok (.iload_n 1, 1) := by decide +kernel
theorem dX11_verdictNow_42 : decode cX11_verdictNow 42 = .ok (.invokevirtual 293, 3) := by decide +kernel
theorem dX11_verdictNow_45 : decode cX11_verdictNow 45 = .ok (.invokevirtual 275, 3) := by decide +kernel
theorem dX11_verdictNow_48 : decode cX11_verdictNow 48 = .ok (.ireturn, 1) := by decide +kernel
theorem dX11_triedBy_0 : decode cX11_triedBy 0 = .ok (.iconst 0, 1) := by decide +kernel
theorem dX11_triedBy_1 : decode cX11_triedBy 1 = .ok (.istore_n 2, 1) := by decide +kernel
theorem dX11_triedBy_2 : decode cX11_triedBy 2 = .ok (.iconst 0, 1) := by decide +kernel
theorem dX11_triedBy_3 : decode cX11_triedBy 3 = .ok (.istore_n 3, 1) := by decide +kernel
theorem dX11_triedBy_4 : decode cX11_triedBy 4 = .ok (.iload_n 3, 1) := by decide +kernel
theorem dX11_triedBy_5 : decode cX11_triedBy 5 = .ok (.aload_n 0, 1) := by decide +kernel
theorem dX11_triedBy_6 : decode cX11_triedBy 6 = .ok (.getfield 54, 3) := by decide +kernel
theorem dX11_triedBy_9 : decode cX11_triedBy 9 = .ok (.getfield 129, 3) := by decide +kernel
theorem dX11_triedBy_12 : decode cX11_triedBy 12 = .ok (.getfield 257, 3) := by decide +kernel
theorem dX11_triedBy_15 : decode cX11_triedBy 15 = .ok (.if_icmp .ge 38, 3) := by decide +kernel
theorem dX11_triedBy_18 : decode cX11_triedBy 18 = .ok (.aload_n 0, 1) := by decide +kernel
theorem dX11_triedBy_19 : decode cX11_triedBy 19 = .ok (.getfield 27, 3) := by decide +kernel
theorem dX11_triedBy_22 : decode cX11_triedBy 22 = .ok (.getfield 143, 3) := by decide +kernel
theorem dX11_triedBy_25 : decode cX11_triedBy 25 = .ok (.iload_n 3, 1) := by decide +kernel
theorem dX11_triedBy_26 : decode cX11_triedBy 26 = .ok (.iaload, 1) := by decide +kernel
theorem dX11_triedBy_27 : decode cX11_triedBy 27 = .ok (.iload_n 1, 1) := by decide +kernel
theorem dX11_triedBy_28 : decode cX11_triedBy 28 = .ok (.if_icmp .ne 19, 3) := by decide +kernel
theorem dX11_triedBy_31 : decode cX11_triedBy 31 = .ok (.aload_n 0, 1) := by decide +kernel
theorem dX11_triedBy_32 : decode cX11_triedBy 32 = .ok (.getfield 27, 3) := by decide +kernel
theorem dX11_triedBy_35 : decode cX11_triedBy 35 = .ok (.getfield 156, 3) := by decide +kernel
theorem dX11_triedBy_38 : decode cX11_triedBy 38 = .ok (.iload_n 3, 1) := by decide +kernel
theorem dX11_triedBy_39 : decode cX11_triedBy 39 = .ok (.iaload, 1) := by decide +kernel
theorem dX11_triedBy_40 : decode cX11_triedBy 40 = .ok (.iconst (-1), 1) := by decide +kernel
theorem dX11_triedBy_41 : decode cX11_triedBy 41 = .ok (.if_icmp .eq 6, 3) := by decide +kernel
theorem dX11_triedBy_44 : decode cX11_triedBy 44 = .ok (.iinc 2 1, 3) := by decide +kernel
theorem dX11_triedBy_47 : decode cX11_triedBy 47 = .ok (.iinc 3 1, 3) := by decide +kernel
theorem dX11_triedBy_50 : decode cX11_triedBy 50 = .ok (.goto (-46), 3) := by decide +kernel
theorem dX11_triedBy_53 : decode cX11_triedBy 53 = .ok (.iload_n 2, 1) := by decide +kernel
theorem dX11_triedBy_54 : decode cX11_triedBy 54 = .ok (.ireturn, 1) := by decide +kernel
theorem dX11_wholeOnesBy_0 : decode cX11_wholeOnesBy 0 = .ok (.iconst 0, 1) := by decide +kernel
theorem dX11_wholeOnesBy_1 : decode cX11_wholeOnesBy 1 = .ok (.istore_n 2, 1) := by decide +kernel
theorem dX11_wholeOnesBy_2 : decode cX11_wholeOnesBy 2 = .ok (.iconst 0, 1) := by decide +kernel
theorem dX11_wholeOnesBy_3 : decode cX11_wholeOnesBy 3 = .ok (.istore_n 3, 1) := by decide +kernel
theorem dX11_wholeOnesBy_4 : decode cX11_wholeOnesBy 4 = .ok (.iload_n 3, 1) := by decide +kernel
theorem dX11_wholeOnesBy_5 : decode cX11_wholeOnesBy 5 = .ok (.aload_n 0, 1) := by decide +kernel
theorem dX11_wholeOnesBy_6 : decode cX11_wholeOnesBy 6 = .ok (.getfield 54, 3) := by decide +kernel
theorem dX11_wholeOnesBy_9 : decode cX11_wholeOnesBy 9 = .ok (.getfield 129, 3) := by decide +kernel
theorem dX11_wholeOnesBy_12 : decode cX11_wholeOnesBy 12 = .ok (.getfield 257, 3) := by decide +kernel
theorem dX11_wholeOnesBy_15 : decode cX11_wholeOnesBy 15 = .ok (.if_icmp .ge 38, 3) := by decide +kernel
theorem dX11_wholeOnesBy_18 : decode cX11_wholeOnesBy 18 = .ok (.aload_n 0, 1) := by decide +kernel
theorem dX11_wholeOnesBy_19 : decode cX11_wholeOnesBy 19 = .ok (.getfield 27, 3) := by decide +kernel
theorem dX11_wholeOnesBy_22 : decode cX11_wholeOnesBy 22 = .ok (.getfield 143, 3) := by decide +kernel
theorem dX11_wholeOnesBy_25 : decode cX11_wholeOnesBy 25 = .ok (.iload_n 3, 1) := by decide +kernel
theorem dX11_wholeOnesBy_26 : decode cX11_wholeOnesBy 26 = .ok (.iaload, 1) := by decide +kernel
theorem dX11_wholeOnesBy_27 : decode cX11_wholeOnesBy 27 = .ok (.iload_n 1, 1) := by decide +kernel
theorem dX11_wholeOnesBy_28 : decode cX11_wholeOnesBy 28 = .ok (.if_icmp .ne 19, 3) := by decide +kernel
theorem dX11_wholeOnesBy_31 : decode cX11_wholeOnesBy 31 = .ok (.aload_n 0, 1) := by decide +kernel
theorem dX11_wholeOnesBy_32 : decode cX11_wholeOnesBy 32 = .ok (.getfield 27, 3) := by decide +kernel
theorem dX11_wholeOnesBy_35 : decode cX11_wholeOnesBy 35 = .ok (.getfield 156, 3) := by decide +kernel
theorem dX11_wholeOnesBy_38 : decode cX11_wholeOnesBy 38 = .ok (.iload_n 3, 1) := by decide +kernel
theorem dX11_wholeOnesBy_39 : decode cX11_wholeOnesBy 39 = .ok (.iaload, 1) := by decide +kernel
theorem dX11_wholeOnesBy_40 : decode cX11_wholeOnesBy 40 = .ok (.iconst 1, 1) := by decide +kernel
theorem dX11_wholeOnesBy_41 : decode cX11_wholeOnesBy 41 = .ok (.if_icmp .ne 6, 3) := by decide +kernel
theorem dX11_wholeOnesBy_44 : decode cX11_wholeOnesBy 44 = .ok (.iinc 2 1, 3) := by decide +kernel
theorem dX11_wholeOnesBy_47 : decode cX11_wholeOnesBy 47 = .ok (.iinc 3 1, 3) := by decide +kernel
theorem dX11_wholeOnesBy_50 : decode cX11_wholeOnesBy 50 = .ok (.goto (-46), 3) := by decide +kernel
theorem dX11_wholeOnesBy_53 : decode cX11_wholeOnesBy 53 = .ok (.iload_n 2, 1) := by decide +kernel
theorem dX11_wholeOnesBy_54 : decode cX11_wholeOnesBy 54 = .ok (.ireturn, 1) := by decide +kernel
theorem dX11_verdictsOf_0 : decode cX11_verdictsOf 0 = .ok (.iconst 0, 1) := by decide +kernel
theorem dX11_verdictsOf_1 : decode cX11_verdictsOf 1 = .ok (.istore_n 3, 1) := by decide +kernel
theorem dX11_verdictsOf_2 : decode cX11_verdictsOf 2 = .ok (.iconst 0, 1) := by decide +kernel
theorem dX11_verdictsOf_3 : decode cX11_verdictsOf 3 = .ok (.istore 4, 2) := by decide +kernel
theorem dX11_verdictsOf_5 : decode cX11_verdictsOf 5 = .ok (.iload 4, 2) := by decide +kernel
theorem dX11_verdictsOf_7 : decode cX11_verdictsOf 7 = .ok (.aload_n 0, 1) := by decide +kernel
theorem dX11_verdictsOf_8 : decode cX11_verdictsOf 8 = .ok (.getfield 54, 3) := by decide +kernel
theorem dX11_verdictsOf_11 : decode cX11_verdictsOf 11 = .ok (.getfield 129, 3) := by decide +kernel
theorem dX11_verdictsOf_14 : decode cX11_verdictsOf 14 = .ok (.getfield 257, 3) := by decide +kernel
theorem dX11_verdictsOf_17 : decode cX11_verdictsOf 17 = .ok (.if_icmp .ge 23, 3) := by decide +kernel
theorem dX11_verdictsOf_20 : decode cX11_verdictsOf 20 = .ok (.aload_n 1, 1) := by decide +kernel
theorem dX11_verdictsOf_21 : decode cX11_verdictsOf 21 = .ok (.getfield 156, 3) := by decide +kernel
theorem dX11_verdictsOf_24 : decode cX11_verdictsOf 24 = .ok (.iload 4, 2) := by decide +kernel
theorem dX11_verdictsOf_26 : decode cX11_verdictsOf 26 = .ok (.iaload, 1) := by decide +kernel
theorem dX11_verdictsOf_27 : decode cX11_verdictsOf 27 = .ok (.iload_n 2, 1) := by decide +kernel
theorem dX11_verdictsOf_28 : decode cX11_verdictsOf 28 = .ok (.if_icmp .ne 6, 3) := by decide +kernel
theorem dX11_verdictsOf_31 : decode cX11_verdictsOf 31 = .ok (.iinc 3 1, 3) := by decide +kernel
theorem dX11_verdictsOf_34 : decode cX11_verdictsOf 34 = .ok (.iinc 4 1, 3) := by decide +kernel
theorem dX11_verdictsOf_37 : decode cX11_verdictsOf 37 = .ok (.goto (-32), 3) := by decide +kernel
theorem dX11_verdictsOf_40 : decode cX11_verdictsOf 40 = .ok (.iload_n 3, 1) := by decide +kernel
theorem dX11_verdictsOf_41 : decode cX11_verdictsOf 41 = .ok (.ireturn, 1) := by decide +kernel
theorem dX11_teethOf_0 : decode cX11_teethOf 0 = .ok (.iconst 0, 1) := by decide +kernel
theorem dX11_teethOf_1 : decode cX11_teethOf 1 = .ok (.istore_n 2, 1) := by decide +kernel
theorem dX11_teethOf_2 : decode cX11_teethOf 2 = .ok (.iconst 0, 1) := by decide +kernel
theorem dX11_teethOf_3 : decode cX11_teethOf 3 = .ok (.istore_n 3, 1) := by decide +kernel
theorem dX11_teethOf_4 : decode cX11_teethOf 4 = .ok (.iload_n 3, 1) := by decide +kernel
theorem dX11_teethOf_5 : decode cX11_teethOf 5 = .ok (.aload_n 0, 1) := by decide +kernel
theorem dX11_teethOf_6 : decode cX11_teethOf 6 = .ok (.getfield 54, 3) := by decide +kernel
theorem dX11_teethOf_9 : decode cX11_teethOf 9 = .ok (.getfield 116, 3) := by decide +kernel
theorem dX11_teethOf_12 : decode cX11_teethOf 12 = .ok (.getfield 257, 3) := by decide +kernel
theorem dX11_teethOf_15 : decode cX11_teethOf 15 = .ok (.if_icmp .ge 18, 3) := by decide +kernel
theorem dX11_teethOf_18 : decode cX11_teethOf 18 = .ok (.iload_n 2, 1) := by decide +kernel
theorem dX11_teethOf_19 : decode cX11_teethOf 19 = .ok (.aload_n 1, 1) := by decide +kernel
theorem dX11_teethOf_20 : decode cX11_teethOf 20 = .ok (.getfield 174, 3) := by decide +kernel
theorem dX11_teethOf_23 : decode cX11_teethOf 23 = .ok (.iload_n 3, 1) := by decide +kernel
theorem dX11_teethOf_24 : decode cX11_teethOf 24 = .ok (.iaload, 1) := by decide +kernel
theorem dX11_teethOf_25 : decode cX11_teethOf 25 = .ok (.iadd, 1) := by decide +kernel
theorem dX11_teethOf_26 : decode cX11_teethOf 26 = .ok (.istore_n 2, 1) := by decide +kernel
theorem dX11_teethOf_27 : decode cX11_teethOf 27 = .ok (.iinc 3 1, 3) := by decide +kernel
theorem dX11_teethOf_30 : decode cX11_teethOf 30 = .ok (.goto (-26), 3) := by decide +kernel
theorem dX11_teethOf_33 : decode cX11_teethOf 33 = .ok (.iload_n 2, 1) := by decide +kernel
theorem dX11_teethOf_34 : decode cX11_teethOf 34 = .ok (.ireturn, 1) := by decide +kernel
theorem dX11_worthOfCrumbs_0 : decode cX11_worthOfCrumbs 0 = .ok (.iconst 0, 1) := by decide +kernel
theorem dX11_worthOfCrumbs_1 : decode cX11_worthOfCrumbs 1 = .ok (.istore_n 1, 1) := by decide +kernel
theorem dX11_worthOfCrumbs_2 : decode cX11_worthOfCrumbs 2 = .ok (.iconst 0, 1) := by decide +kernel
theorem dX11_worthOfCrumbs_3 : decode cX11_worthOfCrumbs 3 = .ok (.istore_n 2, 1) := by decide +kernel
theorem dX11_worthOfCrumbs_4 : decode cX11_worthOfCrumbs 4 = .ok (.iload_n 2, 1) := by decide +kernel
theorem dX11_worthOfCrumbs_5 : decode cX11_worthOfCrumbs 5 = .ok (.aload_n 0, 1) := by decide +kernel
theorem dX11_worthOfCrumbs_6 : decode cX11_worthOfCrumbs 6 = .ok (.getfield 54, 3) := by decide +kernel
theorem dX11_worthOfCrumbs_9 : decode cX11_worthOfCrumbs 9 = .ok (.getfield 129, 3) := by decide +kernel
theorem dX11_worthOfCrumbs_12 : decode cX11_worthOfCrumbs 12 = .ok (.getfield 257, 3) := by decide +kernel
theorem dX11_worthOfCrumbs_15 : decode cX11_worthOfCrumbs 15 = .ok (.if_icmp .ge 42, 3) := by decide +kernel
theorem dX11_worthOfCrumbs_18 : decode cX11_worthOfCrumbs 18 = .ok (.aload_n 0, 1) := by decide +kernel
theorem dX11_worthOfCrumbs_19 : decode cX11_worthOfCrumbs 19 = .ok (.getfield 27, 3) := by decide +kernel
theorem dX11_worthOfCrumbs_22 : decode cX11_worthOfCrumbs 22 = .ok (.getfield 156, 3) := by decide +kernel
theorem dX11_worthOfCrumbs_25 : decode cX11_worthOfCrumbs 25 = .ok (.iload_n 2, 1) := by decide +kernel
theorem dX11_worthOfCrumbs_26 : decode cX11_worthOfCrumbs 26 = .ok (.iaload, 1) := by decide +kernel
theorem dX11_worthOfCrumbs_27 : decode cX11_worthOfCrumbs 27 = .ok (.iconst 3, 1) := by decide +kernel
theorem dX11_worthOfCrumbs_28 : decode cX11_worthOfCrumbs 28 = .ok (.if_icmp .ne 23, 3) := by decide +kernel
theorem dX11_worthOfCrumbs_31 : decode cX11_worthOfCrumbs 31 = .ok (.iload_n 1, 1) := by decide +kernel
theorem dX11_worthOfCrumbs_32 : decode cX11_worthOfCrumbs 32 = .ok (.aload_n 0, 1) := by decide +kernel
theorem dX11_worthOfCrumbs_33 : decode cX11_worthOfCrumbs 33 = .ok (.getfield 54, 3) := by decide +kernel
theorem dX11_worthOfCrumbs_36 : decode cX11_worthOfCrumbs 36 = .ok (.getfield 189, 3) := by decide +kernel
theorem dX11_worthOfCrumbs_39 : decode cX11_worthOfCrumbs 39 = .ok (.aload_n 0, 1) := by decide +kernel
theorem dX11_worthOfCrumbs_40 : decode cX11_worthOfCrumbs 40 = .ok (.getfield 54, 3) := by decide +kernel
theorem dX11_worthOfCrumbs_43 : decode cX11_worthOfCrumbs 43 = .ok (.getfield 147, 3) := by decide +kernel
theorem dX11_worthOfCrumbs_46 : decode cX11_worthOfCrumbs 46 = .ok (.iload_n 2, 1) := by decide +kernel
theorem dX11_worthOfCrumbs_47 : decode cX11_worthOfCrumbs 47 = .ok (.iaload, 1) := by decide +kernel
theorem dX11_worthOfCrumbs_48 : decode cX11_worthOfCrumbs 48 = .ok (.iaload, 1) := by decide +kernel
theorem dX11_worthOfCrumbs_49 : decode cX11_worthOfCrumbs 49 = .ok (.iadd, 1) := by decide +kernel
theorem dX11_worthOfCrumbs_50 : decode cX11_worthOfCrumbs 50 = .ok (.istore_n 1, 1) := by decide +kernel
theorem dX11_worthOfCrumbs_51 : decode cX11_worthOfCrumbs 51 = .ok (.iinc 2 1, 3) := by decide +kernel
theorem dX11_worthOfCrumbs_54 : decode cX11_worthOfCrumbs 54 = .ok (.goto (-50), 3) := by decide +kernel
theorem dX11_worthOfCrumbs_57 : decode cX11_worthOfCrumbs 57 = .ok (.iload_n 1, 1) := by decide +kernel
theorem dX11_worthOfCrumbs_58 : decode cX11_worthOfCrumbs 58 = .ok (.ireturn, 1) := by decide +kernel
theorem dX11_areTwins_0 : decode cX11_areTwins 0 = .ok (.aload_n 0, 1) := by decide +kernel
theorem dX11_areTwins_1 : decode cX11_areTwins 1 = .ok (.getfield 54, 3) := by decide +kernel
theorem dX11_areTwins_4 : decode cX11_areTwins 4 = .ok (.getfield 147, 3) := by decide +kernel
theorem dX11_areTwins_7 : decode cX11_areTwins 7 = .ok (.iload_n 1, 1) := by decide +kernel
theorem dX11_areTwins_8 : decode cX11_areTwins 8 = .ok (.iaload, 1) := by decide +kernel
theorem dX11_areTwins_9 : decode cX11_areTwins 9 = .ok (.aload_n 0, 1) := by decide +kernel
theorem dX11_areTwins_10 : decode cX11_areTwins 10 = .ok (.getfield 54, 3) := by decide +kernel
theorem dX11_areTwins_13 : decode cX11_areTwins 13 = .ok (.getfield 147, 3) := by decide +kernel
theorem dX11_areTwins_16 : decode cX11_areTwins 16 = .ok (.iload_n 2, 1) := by decide +kernel
theorem dX11_areTwins_17 : decode cX11_areTwins 17 = .ok (.iaload, 1) := by decide +kernel
theorem dX11_areTwins_18 : decode cX11_areTwins 18 = .ok (.if_icmp .ne 54, 3) := by decide +kernel
theorem dX11_areTwins_21 : decode cX11_areTwins 21 = .ok (.aload_n 0, 1) := by decide +kernel
theorem dX11_areTwins_22 : decode cX11_areTwins 22 = .ok (.getfield 27, 3) := by decide +kernel
theorem dX11_areTwins_25 : decode cX11_areTwins 25 = .ok (.getfield 156, 3) := by decide +kernel
theorem dX11_areTwins_28 : decode cX11_areTwins 28 = .ok (.iload_n 1, 1) := by decide +kernel
theorem dX11_areTwins_29 : decode cX11_areTwins 29 = .ok (.iaload, 1) := by decide +kernel
theorem dX11_areTwins_30 : decode cX11_areTwins 30 = .ok (.iconst (-1), 1) := by decide +kernel
theorem dX11_areTwins_31 : decode cX11_areTwins 31 = .ok (.if_icmp .eq 41, 3) := by decide +kernel
theorem dX11_areTwins_34 : decode cX11_areTwins 34 = .ok (.aload_n 0, 1) := by decide +kernel
theorem dX11_areTwins_35 : decode cX11_areTwins 35 = .ok (.getfield 27, 3) := by decide +kernel
theorem dX11_areTwins_38 : decode cX11_areTwins 38 = .ok (.getfield 156, 3) := by decide +kernel
theorem dX11_areTwins_41 : decode cX11_areTwins 41 = .ok (.iload_n 2, 1) := by decide +kernel
theorem dX11_areTwins_42 : decode cX11_areTwins 42 = .ok (.iaload, 1) := by decide +kernel
theorem dX11_areTwins_43 : decode cX11_areTwins 43 = .ok (.iconst (-1), 1) := by decide +kernel
theorem dX11_areTwins_44 : decode cX11_areTwins 44 = .ok (.if_icmp .eq 28, 3) := by decide +kernel
theorem dX11_areTwins_47 : decode cX11_areTwins 47 = .ok (.aload_n 0, 1) := by decide +kernel
theorem dX11_areTwins_48 : decode cX11_areTwins 48 = .ok (.getfield 27, 3) := by decide +kernel
theorem dX11_areTwins_51 : decode cX11_areTwins 51 = .ok (.getfield 156, 3) := by decide +kernel
theorem dX11_areTwins_54 : decode cX11_areTwins 54 = .ok (.iload_n 1, 1) := by decide +kernel
theorem dX11_areTwins_55 : decode cX11_areTwins 55 = .ok (.iaload, 1) := by decide +kernel
theorem dX11_areTwins_56 : decode cX11_areTwins 56 = .ok (.aload_n 0, 1) := by decide +kernel
theorem dX11_areTwins_57 : decode cX11_areTwins 57 = .ok (.getfield 27, 3) := by decide +kernel
theorem dX11_areTwins_60 : decode cX11_areTwins 60 = .ok (.getfield 156, 3) := by decide +kernel
theorem dX11_areTwins_63 : decode cX11_areTwins 63 = .ok (.iload_n 2, 1) := by decide +kernel
theorem dX11_areTwins_64 : decode cX11_areTwins 64 = .ok (.iaload, 1) := by decide +kernel
theorem dX11_areTwins_65 : decode cX11_areTwins 65 = .ok (.if_icmp .eq 7, 3) := by decide +kernel
theorem dX11_areTwins_68 : decode cX11_areTwins 68 = .ok (.iconst 1, 1) := by decide +kernel
theorem dX11_areTwins_69 : decode cX11_areTwins 69 = .ok (.goto 4, 3) := by decide +kernel
theorem dX11_areTwins_72 : decode cX11_areTwins 72 = .ok (.iconst 0, 1) := by decide +kernel
theorem dX11_areTwins_73 : decode cX11_areTwins 73 = .ok (.ireturn, 1) := by decide +kernel
theorem dX11_commonWithTen_0 : decode cX11_commonWithTen 0 = .ok (.bipush 10, 2) := by decide +kernel
theorem dX11_commonWithTen_2 : decode cX11_commonWithTen 2 = .ok (.istore_n 1, 1) := by decide +kernel
theorem dX11_commonWithTen_3 : decode cX11_commonWithTen 3 = .ok (.iload_n 1, 1) := by decide +kernel
theorem dX11_commonWithTen_4 : decode cX11_commonWithTen 4 = .ok (.iconst 1, 1) := by decide +kernel
theorem dX11_commonWithTen_5 : decode cX11_commonWithTen 5 = .ok (.if_icmp .le 24, 3) := by decide +kernel
theorem dX11_commonWithTen_8 : decode cX11_commonWithTen 8 = .ok (.iload_n 0, 1) := by decide +kernel
theorem dX11_commonWithTen_9 : decode cX11_commonWithTen 9 = .ok (.iload_n 1, 1) := by decide +kernel
theorem dX11_commonWithTen_10 : decode cX11_commonWithTen 10 = .ok (.irem, 1) := by decide +kernel
theorem dX11_commonWithTen_11 : decode cX11_commonWithTen 11 = .ok (.ifCond .ne 12, 3) := by decide +kernel
theorem dX11_commonWithTen_14 : decode cX11_commonWithTen 14 = .ok (.bipush 10, 2) := by decide +kernel
theorem dX11_commonWithTen_16 : decode cX11_commonWithTen 16 = .ok (.iload_n 1, 1) := by decide +kernel
theorem dX11_commonWithTen_17 : decode cX11_commonWithTen 17 = .ok (.irem, 1) := by decide +kernel
theorem dX11_commonWithTen_18 : decode cX11_commonWithTen 18 = .ok (.ifCond .ne 5, 3) := by decide +kernel
theorem dX11_commonWithTen_21 : decode cX11_commonWithTen 21 = .ok (.iload_n 1, 1) := by decide +kernel
theorem dX11_commonWithTen_22 : decode cX11_commonWithTen 22 = .ok (.ireturn, 1) := by decide +kernel
theorem dX11_commonWithTen_23 : decode cX11_commonWithTen 23 = .ok (.iinc 1 (-1), 3) := by decide +kernel
theorem dX11_commonWithTen_26 : decode cX11_commonWithTen 26 = .ok (.goto (-23), 3) := by decide +kernel
theorem dX11_commonWithTen_29 : decode cX11_commonWithTen 29 = .ok (.iconst 1, 1) := by decide +kernel
theorem dX11_commonWithTen_30 : decode cX11_commonWithTen 30 = .ok (.ireturn, 1) := by decide +kernel
theorem dX11_isRest_0 : decode cX11_isRest 0 = .ok (.iload_n 0, 1) := by decide +kernel
theorem dX11_isRest_1 : decode cX11_isRest 1 = .ok (.iload_n 1, 1) := by decide +kernel
theorem dX11_isRest_2 : decode cX11_isRest 2 = .ok (.iload_n 2, 1) := by decide +kernel
theorem dX11_isRest_3 : decode cX11_isRest 3 = .ok (.iload_n 3, 1) := by decide +kernel
theorem dX11_isRest_4 : decode cX11_isRest 4 = .ok (.invokestatic 358, 3) := by decide +kernel
theorem dX11_isRest_7 : decode cX11_isRest 7 = .ok (.iconst 1, 1) := by decide +kernel
theorem dX11_isRest_8 : decode cX11_isRest 8 = .ok (.iload_n 0, 1) := by decide +kernel
theorem dX11_isRest_9 : decode cX11_isRest 9 = .ok (.isub, 1) := by decide +kernel
theorem dX11_isRest_10 : decode cX11_isRest 10 = .ok (.iload_n 1, 1) := by decide +kernel
theorem dX11_isRest_11 : decode cX11_isRest 11 = .ok (.iload_n 2, 1) := by decide +kernel
theorem dX11_isRest_12 : decode cX11_isRest 12 = .ok (.iload_n 3, 1) := by decide +kernel
theorem dX11_isRest_13 : decode cX11_isRest 13 = .ok (.invokestatic 358, 3) := by decide +kernel
theorem dX11_isRest_16 : decode cX11_isRest 16 = .ok (.if_icmp .lt 26, 3) := by decide +kernel
theorem dX11_isRest_19 : decode cX11_isRest 19 = .ok (.iload_n 0, 1) := by decide +kernel
theorem dX11_isRest_20 : decode cX11_isRest 20 = .ok (.iload_n 1, 1) := by decide +kernel
theorem dX11_isRest_21 : decode cX11_isRest 21 = .ok (.iload_n 2, 1) := by decide +kernel
theorem dX11_isRest_22 : decode cX11_isRest 22 = .ok (.iload_n 3, 1) := by decide +kernel
theorem dX11_isRest_23 : decode cX11_isRest 23 = .ok (.invokestatic 362, 3) := by decide +kernel
theorem dX11_isRest_26 : decode cX11_isRest 26 = .ok (.iload_n 0, 1) := by decide +kernel
theorem dX11_isRest_27 : decode cX11_isRest 27 = .ok (.iconst 1, 1) := by decide +kernel
theorem dX11_isRest_28 : decode cX11_isRest 28 = .ok (.iload_n 1, 1) := by decide +kernel
theorem dX11_isRest_29 : decode cX11_isRest 29 = .ok (.isub, 1) := by decide +kernel
theorem dX11_isRest_30 : decode cX11_isRest 30 = .ok (.iload_n 2, 1) := by decide +kernel
theorem dX11_isRest_31 : decode cX11_isRest 31 = .ok (.iload_n 3, 1) := by decide +kernel
theorem dX11_isRest_32 : decode cX11_isRest 32 = .ok (.invokestatic 362, 3) := by decide +kernel
theorem dX11_isRest_35 : decode cX11_isRest 35 = .ok (.if_icmp .lt 7, 3) := by decide +kernel
theorem dX11_isRest_38 : decode cX11_isRest 38 = .ok (.iconst 1, 1) := by decide +kernel
theorem dX11_isRest_39 : decode cX11_isRest 39 = .ok (.goto 4, 3) := by decide +kernel
theorem dX11_isRest_42 : decode cX11_isRest 42 = .ok (.iconst 0, 1) := by decide +kernel
theorem dX11_isRest_43 : decode cX11_isRest 43 = .ok (.ireturn, 1) := by decide +kernel
theorem dX11_shareOfFirst_0 : decode cX11_shareOfFirst 0 = .ok (.iload_n 0, 1) := by decide +kernel
theorem dX11_shareOfFirst_1 : decode cX11_shareOfFirst 1 = .ok (.ifCond .ne 11, 3) := by decide +kernel
theorem dX11_shareOfFirst_4 : decode cX11_shareOfFirst 4 = .ok (.iload_n 1, 1) := by decide +kernel
theorem dX11_shareOfFirst_5 : decode cX11_shareOfFirst 5 = .ok (.ifCond .ne 7, 3) := by decide +kernel
theorem dX11_shareOfFirst_8 : decode cX11_shareOfFirst 8 = .ok (.iload_n 3, 1) := by decide +kernel
theorem dX11_shareOfFirst_9 : decode cX11_shareOfFirst 9 = .ok (.iconst 2, 1) := by decide +kernel
theorem dX11_shareOfFirst_10 : decode cX11_shareOfFirst 10 = .ok (.idiv, 1) := by decide +kernel
theorem dX11_shareOfFirst_11 : decode cX11_shareOfFirst 11 = .ok (.ireturn, 1) := by decide +kernel
theorem dX11_shareOfFirst_12 : decode cX11_shareOfFirst 12 = .ok (.iload_n 2, 1) := by decide +kernel
theorem dX11_shareOfFirst_13 : decode cX11_shareOfFirst 13 = .ok (.iconst 1, 1) := by decide +kernel
theorem dX11_shareOfFirst_14 : decode cX11_shareOfFirst 14 = .ok (.if_icmp .ne 7, 3) := by decide +kernel
theorem dX11_shareOfFirst_17 : decode cX11_shareOfFirst 17 = .ok (.iload_n 3, 1) := by decide +kernel
theorem dX11_shareOfFirst_18 : decode cX11_shareOfFirst 18 = .ok (.goto 15, 3) := by decide +kernel
theorem dX11_shareOfFirst_21 : decode cX11_shareOfFirst 21 = .ok (.iload_n 2, 1) := by decide +kernel
theorem dX11_shareOfFirst_22 : decode cX11_shareOfFirst 22 = .ok (.iconst 2, 1) := by decide +kernel
theorem dX11_shareOfFirst_23 : decode cX11_shareOfFirst 23 = .ok (.if_icmp .ne 9, 3) := by decide +kernel
theorem dX11_shareOfFirst_26 : decode cX11_shareOfFirst 26 = .ok (.iload_n 3, 1) := by decide +kernel
theorem dX11_shareOfFirst_27 : decode cX11_shareOfFirst 27 = .ok (.iconst 2, 1) := by decide +kernel
theorem dX11_shareOfFirst_28 : decode cX11_shareOfFirst 28 = .ok (.idiv, 1) := by decide +kernel
theorem dX11_shareOfFirst_29 : decode cX11_shareOfFirst 29 = .ok (.goto 4, 3) := by decide +kernel
theorem dX11_shareOfFirst_32 : decode cX11_shareOfFirst 32 = .ok (.iconst 0, 1) := by decide +kernel
theorem dX11_shareOfFirst_33 : decode cX11_shareOfFirst 33 = .ok (.istore 4, 2) := by decide +kernel
theorem dX11_shareOfFirst_35 : decode cX11_shareOfFirst 35 = .ok (.iload 4, 2) := by decide +kernel
theorem dX11_shareOfFirst_37 : decode cX11_shareOfFirst 37 = .ok (.iconst 5, 1) := by decide +kernel
theorem dX11_shareOfFirst_38 : decode cX11_shareOfFirst 38 = .ok (.iload_n 0, 1) := by decide +kernel
theorem dX11_shareOfFirst_39 : decode cX11_shareOfFirst 39 = .ok (.imul, 1) := by decide +kernel
theorem dX11_shareOfFirst_40 : decode cX11_shareOfFirst 40 = .ok (.isub, 1) := by decide +kernel
theorem dX11_shareOfFirst_41 : decode cX11_shareOfFirst 41 = .ok (.ireturn, 1) := by decide +kernel
theorem dX11_shareOfSecond_0 : decode cX11_shareOfSecond 0 = .ok (.iload_n 0, 1) := by decide +kernel
theorem dX11_shareOfSecond_1 : decode cX11_shareOfSecond 1 = .ok (.ifCond .ne 11, 3) := by decide +kernel
theorem dX11_shareOfSecond_4 : decode cX11_shareOfSecond 4 = .ok (.iload_n 1, 1) := by decide +kernel
theorem dX11_shareOfSecond_5 : decode cX11_shareOfSecond 5 = .ok (.ifCond .ne 7, 3) := by decide +kernel
theorem dX11_shareOfSecond_8 : decode cX11_shareOfSecond 8 = .ok (.iload_n 3, 1) := by decide +kernel
theorem dX11_shareOfSecond_9 : decode cX11_shareOfSecond 9 = .ok (.iconst 2, 1) := by decide +kernel
theorem dX11_shareOfSecond_10 : decode cX11_shareOfSecond 10 = .ok (.idiv, 1) := by decide +kernel
theorem dX11_shareOfSecond_11 : decode cX11_shareOfSecond 11 = .ok (.ireturn, 1) := by decide +kernel
theorem dX11_shareOfSecond_12 : decode cX11_shareOfSecond 12 = .ok (.iload_n 2, 1) := by decide +kernel
theorem dX11_shareOfSecond_13 : decode cX11_shareOfSecond 13 = .ok (.iconst 2, 1) := by decide +kernel
theorem dX11_shareOfSecond_14 : decode cX11_shareOfSecond 14 = .ok (.if_icmp .ne 9, 3) := by decide +kernel
theorem dX11_shareOfSecond_17 : decode cX11_shareOfSecond 17 = .ok (.iload_n 3, 1) := by decide +kernel
theorem dX11_shareOfSecond_18 : decode cX11_shareOfSecond 18 = .ok (.iconst 2, 1) := by decide +kernel
theorem dX11_shareOfSecond_19 : decode cX11_shareOfSecond 19 = .ok (.idiv, 1) := by decide +kernel
theorem dX11_shareOfSecond_20 : decode cX11_shareOfSecond 20 = .ok (.goto 4, 3) := by decide +kernel
theorem dX11_shareOfSecond_23 : decode cX11_shareOfSecond 23 = .ok (.iconst 0, 1) := by decide +kernel
theorem dX11_shareOfSecond_24 : decode cX11_shareOfSecond 24 = .ok (.iconst 5, 1) := by decide +kernel
theorem dX11_shareOfSecond_25 : decode cX11_shareOfSecond 25 = .ok (.iload_n 1, 1) := by decide +kernel
theorem dX11_shareOfSecond_26 : decode cX11_shareOfSecond 26 = .ok (.imul, 1) := by decide +kernel
theorem dX11_shareOfSecond_27 : decode cX11_shareOfSecond 27 = .ok (.isub, 1) := by decide +kernel
theorem dX11_shareOfSecond_28 : decode cX11_shareOfSecond 28 = .ok (.ireturn, 1) := by decide +kernel
def wp_X11_feedFour_3 (Q : ck_H → Prop) : Nat → Int32 → Int32 → ck_H → Prop
  | 0 => fun _ _ _ => False
  | n + 1 => fun x1 x2 h => ((x2 < 0 → Q h) ∧ (¬ x2 < 0 → (((700 : Int32) ≤ (h.1 0 11) → Q h) ∧ (¬ (700 : Int32) ≤ (h.1 0 11) → (vp_in (h.1 0 11) 700 ∧ (∀ h4, h4 = ck_sI h 1 (h.1 0 11).toNatClampNeg (vp_nar .byte (x1 >>> (x2 &&& 31)).toInt8.toInt32) → (∀ h5, h5 = ck_sI h4 0 11 ((h4.1 0 11) + (1 : Int32)) → (∀ v6, v6 = x2 + (-8) → (wp_X11_feedFour_3 Q n) x1 v6 h5))))))))
def wp_X11_feedFour (x1 : Int32) (h : ck_H) (Q : ck_H → Prop) : Prop := wp_X11_feedFour_3 Q lpN x1 (24 : Int32) h
set_option maxHeartbeats 4000000 in
set_option maxRecDepth 100000 in
theorem cp_X11_feedFour_3 {gr : Bool} {Q : ck_H → Prop} : ∀ (n : Nat) (x1 : Int32) (x2 : Int32) (h : ck_H), wp_X11_feedFour_3 Q n x1 x2 h → ck_W cX11_feedFour 3 RX11 none 2 0 0 false gr (ck_Qv ck_shX Q) ck_shX h 0 0 3 [(0, .ref 0), (1, .int x1), (2, .int x2)] [] := by
  intro n
  induction n with
  | zero => intro x1 x2 h hq; exact hq.elim
  | succ n hKc =>
    intro x1 x2 h hq
    refine ck_iload_n 2 dX11_feedFour_3 rfl rfl ?_
    refine ck_if_lt (tgt := 46) dX11_feedFour_4 (by decide) (fun c1 => ?_) (fun c1 => ?_)
    · have hq := hq.1 c1
      exact ck_vret rfl rfl rfl dX11_feedFour_46 ⟨rfl, rfl, hq⟩
    · have hq := hq.2 c1
      refine ck_aload_n 0 dX11_feedFour_7 rfl rfl ?_
      refine ck_getI clX11 11 rfl rfl (by decide) fl_X11_86 dX11_feedFour_8 ?_
      refine ck_sipush (v := 700) dX11_feedFour_11 (by decide) ?_
      refine ck_icmp_ge (tgt := 46) dX11_feedFour_14 (by decide) (fun c2 => ?_) (fun c2 => ?_)
      · have hq := hq.1 c2
        exact ck_vret rfl rfl rfl dX11_feedFour_46 ⟨rfl, rfl, hq⟩
      · have hq := hq.2 c2
        refine ck_aload_n 0 dX11_feedFour_17 rfl rfl ?_
        refine ck_getR clX11 0 rfl rfl (by decide) fl_X11_11 dX11_feedFour_18 ?_
        refine ck_aload_n 0 dX11_feedFour_21 rfl rfl ?_
        refine ck_getI clX11 11 rfl rfl (by decide) fl_X11_86 dX11_feedFour_22 ?_
        refine ck_iload_n 1 dX11_feedFour_25 rfl rfl ?_
        refine ck_iload_n 2 dX11_feedFour_26 rfl rfl ?_
        refine ck_ishr dX11_feedFour_27 ?_
        refine ck_i2b dX11_feedFour_28 ?_
        obtain ⟨b3, hq⟩ := hq
        refine ck_bast rfl rfl b3 dX11_feedFour_29 ?_
        refine ck_nmH (fun h4 eh4 => ?_)
        have hq := hq h4 eh4
        refine ck_aload_n 0 dX11_feedFour_30 rfl rfl ?_
        refine ck_dup dX11_feedFour_31 rfl ?_
        refine ck_getI clX11 11 rfl rfl (by decide) fl_X11_86 dX11_feedFour_32 ?_
        refine ck_iconst (v := 1) dX11_feedFour_35 (by decide) ?_
        refine ck_iadd dX11_feedFour_36 ?_
        refine ck_putI clX11 11 rfl rfl (by decide) fl_X11_86 rfl rfl rfl dX11_feedFour_37 ?_
        refine ck_nmH (fun h5 eh5 => ?_)
        have hq := hq h5 eh5
        obtain ⟨v6, ev6⟩ : ∃ z : Int32, z = x2 + (-8) := ⟨_, rfl⟩
        have hq := hq v6 ev6
        refine ck_iinc (v := v6) (lv' := [(2, .int v6), (0, .ref 0), (1, .int x1)]) 2 dX11_feedFour_40 rfl (by rw [ev6]; rfl) (by decide) rfl ?_
        refine ck_goto (tgt := 3) dX11_feedFour_43 (by decide) ?_
        refine ck_loc [1, 2, 0] rfl ?_
        exact hKc _ _ _ hq
set_option maxHeartbeats 4000000 in
set_option maxRecDepth 100000 in
theorem c_X11_feedFour {gr : Bool} {x1 : Int32} {h : ck_H} {Q : ck_H → Prop} (hq : wp_X11_feedFour x1 h Q) : ck_M yX11_feedFour cX11_feedFour 3 none 2 0 0 gr ck_shX h [.ref 0, .int x1] (ck_Qv ck_shX Q) := by
  refine ck_entry (lv := [(0, .ref 0), (1, .int x1)]) false (own := RX11) rfl (fun q => by cases q) (by decide) (Nat.le_of_ble_eq_true rfl) rfl ?_
  refine ck_bipush (v := 24) dX11_feedFour_0 (by decide) ?_
  refine ck_istore_n (lv' := [(2, .int (24 : Int32)), (0, .ref 0), (1, .int x1)]) dX11_feedFour_2 rfl (by decide) rfl ?_
  refine ck_loc [1, 2, 0] rfl ?_
  refine cp_X11_feedFour_3 lpN _ _ _ hq
def wp_X11_feed (x1 : Int32) (x2 : Int32) (x3 : Int32) (x4 : Int32) (x5 : Int32) (h : ck_H) (Q : Int32 → ck_H → Prop) : Prop := ((((h.1 0 11) + (20 : Int32)) ≤ (700 : Int32) → (wp_X11_feedFour x1 h (fun h2 => (wp_X11_feedFour x2 h2 (fun h3 => (wp_X11_feedFour x3 h3 (fun h4 => (wp_X11_feedFour x4 h4 (fun h5 => (wp_X11_feedFour x5 h5 (fun h6 => Q (h6.1 0 11) h6))))))))))) ∧ (¬ ((h.1 0 11) + (20 : Int32)) ≤ (700 : Int32) → Q (-1 : Int32) h))
set_option maxHeartbeats 4000000 in
set_option maxRecDepth 100000 in
theorem c_X11_feed {gr : Bool} {x1 : Int32} {x2 : Int32} {x3 : Int32} {x4 : Int32} {x5 : Int32} {h : ck_H} {Q : Int32 → ck_H → Prop} (hq : wp_X11_feed x1 x2 x3 x4 x5 h Q) : ck_M yX11_feed cX11_feed 6 (some .int) 3 0 0 gr ck_shX h [.ref 0, .int x1, .int x2, .int x3, .int x4, .int x5] (ck_Qi ck_shX Q) := by
  refine ck_entry (lv := [(0, .ref 0), (1, .int x1), (2, .int x2), (3, .int x3), (4, .int x4), (5, .int x5)]) false (own := RX11) rfl (fun q => by cases q) (by decide) (Nat.le_of_ble_eq_true rfl) rfl ?_
  refine ck_aload_n 0 dX11_feed_0 rfl rfl ?_
  refine ck_getI clX11 11 rfl rfl (by decide) fl_X11_86 dX11_feed_1 ?_
  refine ck_bipush (v := 20) dX11_feed_4 (by decide) ?_
  refine ck_iadd dX11_feed_6 ?_
  refine ck_sipush (v := 700) dX11_feed_7 (by decide) ?_
  refine ck_icmp_le (tgt := 15) dX11_feed_10 (by decide) (fun c1 => ?_) (fun c1 => ?_)
  · have hq := hq.1 c1
    refine ck_aload_n 0 dX11_feed_15 rfl rfl ?_
    refine ck_iload_n 1 dX11_feed_16 rfl rfl ?_
    refine ck_callV (c_X11_feedFour hq) rfl cal_X11_feedFour rfl ml_X11_89 vir_X11_feedFour rfl rfl (by decide) (Nat.le_of_ble_eq_true rfl) (Nat.le_of_ble_eq_true rfl) (by decide) (by decide) dX11_feed_17 ?_
    rintro _ _ h2 ⟨rfl, rfl, hq⟩
    refine ck_aload_n 0 dX11_feed_20 rfl rfl ?_
    refine ck_iload_n 2 dX11_feed_21 rfl rfl ?_
    refine ck_callV (c_X11_feedFour hq) rfl cal_X11_feedFour rfl ml_X11_89 vir_X11_feedFour rfl rfl (by decide) (Nat.le_of_ble_eq_true rfl) (Nat.le_of_ble_eq_true rfl) (by decide) (by decide) dX11_feed_22 ?_
    rintro _ _ h3 ⟨rfl, rfl, hq⟩
    refine ck_aload_n 0 dX11_feed_25 rfl rfl ?_
    refine ck_iload_n 3 dX11_feed_26 rfl rfl ?_
    refine ck_callV (c_X11_feedFour hq) rfl cal_X11_feedFour rfl ml_X11_89 vir_X11_feedFour rfl rfl (by decide) (Nat.le_of_ble_eq_true rfl) (Nat.le_of_ble_eq_true rfl) (by decide) (by decide) dX11_feed_27 ?_
    rintro _ _ h4 ⟨rfl, rfl, hq⟩
    refine ck_aload_n 0 dX11_feed_30 rfl rfl ?_
    refine ck_iload 4 dX11_feed_31 rfl ?_
    refine ck_callV (c_X11_feedFour hq) rfl cal_X11_feedFour rfl ml_X11_89 vir_X11_feedFour rfl rfl (by decide) (Nat.le_of_ble_eq_true rfl) (Nat.le_of_ble_eq_true rfl) (by decide) (by decide) dX11_feed_33 ?_
    rintro _ _ h5 ⟨rfl, rfl, hq⟩
    refine ck_aload_n 0 dX11_feed_36 rfl rfl ?_
    refine ck_iload 5 dX11_feed_37 rfl ?_
    refine ck_callV (c_X11_feedFour hq) rfl cal_X11_feedFour rfl ml_X11_89 vir_X11_feedFour rfl rfl (by decide) (Nat.le_of_ble_eq_true rfl) (Nat.le_of_ble_eq_true rfl) (by decide) (by decide) dX11_feed_39 ?_
    rintro _ _ h6 ⟨rfl, rfl, hq⟩
    refine ck_aload_n 0 dX11_feed_42 rfl rfl ?_
    refine ck_getI clX11 11 rfl rfl (by decide) fl_X11_86 dX11_feed_43 ?_
    exact ck_iret rfl rfl rfl rfl dX11_feed_46 ⟨_, rfl, rfl, hq⟩
  · have hq := hq.2 c1
    refine ck_iconst (v := -1) dX11_feed_13 (by decide) ?_
    exact ck_iret rfl rfl rfl rfl dX11_feed_14 ⟨_, rfl, rfl, hq⟩
def wp_X11_text_55 (Q : Bool → Int32 → ck_H → Prop) (y1 : Int32) (h : ck_H) : Prop := (∀ h10, h10 = ck_sI h 0 13 y1 → (((h10.1 0 12) = 0 → (wp_X1_beginAsTold 7 53 h10 (fun h12 => (wp_X6_clear h12 (fun h13 => (wp_X2_clear h13 (fun h14 => (∀ h15, h15 = ck_sI h14 0 14 (0 : Int32) → Q true (h15.1 53 17) h15)))))))) ∧ (¬ (h10.1 0 12) = 0 → Q false (-1 : Int32) h10)))
def wp_X11_text (x1 : Int32) (h : ck_H) (Q : Bool → Int32 → ck_H → Prop) : Prop := ((x1 < 0 → Q false (-2 : Int32) h) ∧ (¬ x1 < 0 → ((x1 ≤ (h.1 0 11) → (∀ h3, h3 = ck_sI h 0 11 (0 : Int32) → (wp_X9_readText x1 h3 (fun r5 h4 => (∀ h6, h6 = ck_sI h4 0 12 r5 → ((¬ (h6.1 0 12) = 0 → (wp_X9_place h6 (fun r9 h8 => wp_X11_text_55 Q r9 h8))) ∧ ((h6.1 0 12) = 0 → wp_X11_text_55 Q (-1 : Int32) h6))))))) ∧ (¬ x1 ≤ (h.1 0 11) → Q false (-2 : Int32) h))))
set_option maxHeartbeats 4000000 in
set_option maxRecDepth 100000 in
theorem cp_X11_text_55 {gr : Bool} {Q : Bool → Int32 → ck_H → Prop} : ∀ (y1 : Int32) (h : ck_H), wp_X11_text_55 Q y1 h → ck_W cX11_text 3 RX11 (some .int) 9 0 0 false gr (ck_Qt Q) ck_shX h 0 0 55 [(0, .ref 0)] [.int y1, .ref 0] := by
  intro y1 h hq
  refine ck_putI clX11 13 rfl rfl (by decide) fl_X11_61 rfl rfl rfl dX11_text_55 ?_
  refine ck_nmH (fun h10 eh10 => ?_)
  have hq := hq h10 eh10
  refine ck_aload_n 0 dX11_text_58 rfl rfl ?_
  refine ck_getI clX11 12 rfl rfl (by decide) fl_X11_97 dX11_text_59 ?_
  refine ck_if_eq (tgt := 67) dX11_text_62 (by decide) (fun c11 => ?_) (fun c11 => ?_)
  · have hq := hq.1 c11
    refine ck_aload_n 0 dX11_text_67 rfl rfl ?_
    refine ck_getR clX11 9 rfl rfl (by decide) fl_X11_54 dX11_text_68 ?_
    refine ck_astore_n (lv' := [(2, .ref 32), (0, .ref 0)]) dX11_text_71 rfl (by decide) rfl ?_
    refine ck_aload_n 1 dX11_text_72 rfl rfl ?_
    refine ck_aload_n 1 dX11_text_73 rfl rfl ?_
    refine ck_getR clX11 10 rfl rfl (by decide) fl_X11_58 dX11_text_74 ?_
    refine ck_putR (sh' := ck_shX1) clX11 9 rfl rfl (by decide) fl_X11_54 rfl (fun _ => rfl) (fun _ => rfl) rfl dX11_text_77 ?_
    refine ck_aload_n 1 dX11_text_80 rfl rfl ?_
    refine ck_aload_n 0 dX11_text_81 rfl rfl ?_
    refine ck_putR (sh' := ck_shX2) clX11 10 rfl rfl (by decide) fl_X11_58 rfl (fun _ => rfl) (fun _ => rfl) rfl dX11_text_82 ?_
    refine ck_aload_n 1 dX11_text_85 rfl rfl ?_
    refine ck_getR clX11 5 rfl rfl (by decide) fl_X11_70 dX11_text_86 ?_
    refine ck_aload_n 1 dX11_text_89 rfl rfl ?_
    refine ck_getR clX11 9 rfl rfl (by decide) fl_X11_54 dX11_text_90 ?_
    refine ck_putRN (sh' := ck_shX3) clX10 2 rfl rfl (by decide) fl_X11_104 rfl (fun _ => rfl) (fun _ => rfl) rfl dX11_text_93 ?_
    refine ck_aload_n 1 dX11_text_96 rfl rfl ?_
    refine ck_getR clX11 2 rfl rfl (by decide) fl_X11_27 dX11_text_97 ?_
    refine ck_aload_n 1 dX11_text_100 rfl rfl ?_
    refine ck_getR clX11 9 rfl rfl (by decide) fl_X11_54 dX11_text_101 ?_
    refine ck_callV (c_X1_beginAsTold (by simp) hq) rfl cal_X1_beginAsTold rfl ml_X11_83 vir_X1_beginAsTold rfl rfl (by decide) (Nat.le_of_ble_eq_true rfl) (Nat.le_of_ble_eq_true rfl) (by decide) (by decide) dX11_text_104 ?_
    rintro _ _ h12 ⟨rfl, rfl, hq⟩
    refine ck_aload_n 1 dX11_text_107 rfl rfl ?_
    refine ck_getR clX11 7 rfl rfl (by decide) fl_X11_40 dX11_text_108 ?_
    refine ck_callV (c_X6_clear hq) rfl cal_X6_clear rfl ml_X11_105 vir_X6_clear rfl rfl (by decide) (Nat.le_of_ble_eq_true rfl) (Nat.le_of_ble_eq_true rfl) (by decide) (by decide) dX11_text_111 ?_
    rintro _ _ h13 ⟨rfl, rfl, hq⟩
    refine ck_aload_n 1 dX11_text_114 rfl rfl ?_
    refine ck_getR clX11 8 rfl rfl (by decide) fl_X11_47 dX11_text_115 ?_
    refine ck_callV (c_X2_clear (by simp) hq) rfl cal_X2_clear rfl ml_X11_108 vir_X2_clear rfl rfl (by decide) (Nat.le_of_ble_eq_true rfl) (Nat.le_of_ble_eq_true rfl) (by decide) (by decide) dX11_text_118 ?_
    rintro _ _ h14 ⟨rfl, rfl, hq⟩
    refine ck_aload_n 1 dX11_text_121 rfl rfl ?_
    refine ck_iconst (v := 0) dX11_text_122 (by decide) ?_
    refine ck_putI clX11 14 rfl rfl (by decide) fl_X11_109 rfl (by decide) (by decide) dX11_text_123 ?_
    refine ck_nmH (fun h15 eh15 => ?_)
    have hq := hq h15 eh15
    refine ck_aload_n 1 dX11_text_126 rfl rfl ?_
    refine ck_getR clX11 9 rfl rfl (by decide) fl_X11_54 dX11_text_127 ?_
    refine ck_getIN clX7 17 rfl rfl (by decide) fl_X11_113 dX11_text_130 ?_
    exact ck_iret rfl rfl rfl rfl dX11_text_133 ⟨_, rfl, Or.inr ⟨rfl, hq⟩⟩
  · have hq := hq.2 c11
    refine ck_iconst (v := -1) dX11_text_65 (by decide) ?_
    exact ck_iret rfl rfl rfl rfl dX11_text_66 ⟨_, rfl, Or.inl ⟨rfl, hq⟩⟩
set_option maxHeartbeats 4000000 in
set_option maxRecDepth 100000 in
theorem c_X11_text {gr : Bool} {x1 : Int32} {h : ck_H} {Q : Bool → Int32 → ck_H → Prop} (hq : wp_X11_text x1 h Q) : ck_M yX11_text cX11_text 3 (some .int) 9 0 0 gr ck_shX h [.ref 0, .int x1] (ck_Qt Q) := by
  refine ck_entry (lv := [(0, .ref 0), (1, .int x1)]) false (own := RX11) rfl (fun q => by cases q) (by decide) (Nat.le_of_ble_eq_true rfl) rfl ?_
  refine ck_iload_n 1 dX11_text_0 rfl rfl ?_
  refine ck_if_lt (tgt := 12) dX11_text_1 (by decide) (fun c1 => ?_) (fun c1 => ?_)
  · have hq := hq.1 c1
    refine ck_bipush (v := -2) dX11_text_12 (by decide) ?_
    exact ck_iret rfl rfl rfl rfl dX11_text_14 ⟨_, rfl, Or.inl ⟨rfl, hq⟩⟩
  · have hq := hq.2 c1
    refine ck_iload_n 1 dX11_text_4 rfl rfl ?_
    refine ck_aload_n 0 dX11_text_5 rfl rfl ?_
    refine ck_getI clX11 11 rfl rfl (by decide) fl_X11_86 dX11_text_6 ?_
    refine ck_icmp_le (tgt := 15) dX11_text_9 (by decide) (fun c2 => ?_) (fun c2 => ?_)
    · have hq := hq.1 c2
      refine ck_aload_n 0 dX11_text_15 rfl rfl ?_
      refine ck_iconst (v := 0) dX11_text_16 (by decide) ?_
      refine ck_putI clX11 11 rfl rfl (by decide) fl_X11_86 rfl rfl rfl dX11_text_17 ?_
      refine ck_nmH (fun h3 eh3 => ?_)
      have hq := hq h3 eh3
      refine ck_aload_n 0 dX11_text_20 rfl rfl ?_
      refine ck_aload_n 0 dX11_text_21 rfl rfl ?_
      refine ck_getR clX11 1 rfl rfl (by decide) fl_X11_20 dX11_text_22 ?_
      refine ck_aload_n 0 dX11_text_25 rfl rfl ?_
      refine ck_getR clX11 10 rfl rfl (by decide) fl_X11_58 dX11_text_26 ?_
      refine ck_iload_n 1 dX11_text_29 rfl rfl ?_
      refine ck_callV (c_X9_readText hq) rfl cal_X9_readText rfl ml_X11_93 vir_X9_readText rfl rfl (by decide) (Nat.le_of_ble_eq_true rfl) (Nat.le_of_ble_eq_true rfl) (by decide) (by decide) dX11_text_30 ?_
      rintro _ _ h4 ⟨r5, rfl, rfl, hq⟩
      refine ck_putI clX11 12 rfl rfl (by decide) fl_X11_97 rfl rfl rfl dX11_text_33 ?_
      refine ck_nmH (fun h6 eh6 => ?_)
      have hq := hq h6 eh6
      refine ck_aload_n 0 dX11_text_36 rfl rfl ?_
      refine ck_aload_n 0 dX11_text_37 rfl rfl ?_
      refine ck_getI clX11 12 rfl rfl (by decide) fl_X11_97 dX11_text_38 ?_
      refine ck_if_ne (tgt := 48) dX11_text_41 (by decide) (fun c7 => ?_) (fun c7 => ?_)
      · have hq := hq.1 c7
        refine ck_aload_n 0 dX11_text_48 rfl rfl ?_
        refine ck_getR clX11 1 rfl rfl (by decide) fl_X11_20 dX11_text_49 ?_
        refine ck_callV (c_X9_place hq) rfl cal_X9_place rfl ml_X11_100 vir_X9_place rfl rfl (by decide) (Nat.le_of_ble_eq_true rfl) (Nat.le_of_ble_eq_true rfl) (by decide) (by decide) dX11_text_52 ?_
        rintro _ _ h8 ⟨r9, rfl, rfl, hq⟩
        refine ck_loc [0] rfl ?_
        exact cp_X11_text_55 _ _ hq
      · have hq := hq.2 c7
        refine ck_iconst (v := -1) dX11_text_44 (by decide) ?_
        refine ck_goto (tgt := 55) dX11_text_45 (by decide) ?_
        refine ck_loc [0] rfl ?_
        exact cp_X11_text_55 _ _ hq
    · have hq := hq.2 c2
      refine ck_bipush (v := -2) dX11_text_12 (by decide) ?_
      exact ck_iret rfl rfl rfl rfl dX11_text_14 ⟨_, rfl, Or.inl ⟨rfl, hq⟩⟩
def wp_X11_fault (x1 : Int32) (h : ck_H) (Q : Int32 → ck_H → Prop) : Prop := ((¬ x1 = 0 → ((¬ x1 = (1 : Int32) → Q (-1 : Int32) h) ∧ (x1 = (1 : Int32) → Q (h.1 0 13) h))) ∧ (x1 = 0 → Q (h.1 0 12) h))
set_option maxHeartbeats 4000000 in
set_option maxRecDepth 100000 in
theorem c_X11_fault {gr : Bool} {x1 : Int32} {h : ck_H} {Q : Int32 → ck_H → Prop} (hq : wp_X11_fault x1 h Q) : ck_M yX11_fault cX11_fault 2 (some .int) 2 0 0 gr ck_shX h [.ref 0, .int x1] (ck_Qi ck_shX Q) := by
  refine ck_entry (lv := [(0, .ref 0), (1, .int x1)]) false (own := RX11) rfl (fun q => by cases q) (by decide) (Nat.le_of_ble_eq_true rfl) rfl ?_
  refine ck_iload_n 1 dX11_fault_0 rfl rfl ?_
  refine ck_if_ne (tgt := 9) dX11_fault_1 (by decide) (fun c1 => ?_) (fun c1 => ?_)
  · have hq := hq.1 c1
    refine ck_iload_n 1 dX11_fault_9 rfl rfl ?_
    refine ck_iconst (v := 1) dX11_fault_10 (by decide) ?_
    refine ck_icmp_ne (tgt := 21) dX11_fault_11 (by decide) (fun c2 => ?_) (fun c2 => ?_)
    · have hq := hq.1 c2
      refine ck_iconst (v := -1) dX11_fault_21 (by decide) ?_
      exact ck_iret rfl rfl rfl rfl dX11_fault_22 ⟨_, rfl, rfl, hq⟩
    · have hq := hq.2 c2
      refine ck_aload_n 0 dX11_fault_14 rfl rfl ?_
      refine ck_getI clX11 13 rfl rfl (by decide) fl_X11_61 dX11_fault_15 ?_
      refine ck_goto (tgt := 22) dX11_fault_18 (by decide) ?_
      exact ck_iret rfl rfl rfl rfl dX11_fault_22 ⟨_, rfl, rfl, hq⟩
  · have hq := hq.2 c1
    refine ck_aload_n 0 dX11_fault_4 rfl rfl ?_
    refine ck_getI clX11 12 rfl rfl (by decide) fl_X11_97 dX11_fault_5 ?_
    exact ck_iret rfl rfl rfl rfl dX11_fault_8 ⟨_, rfl, rfl, hq⟩
def wp_X11_named (x1 : Int32) (x2 : Int32) (h : ck_H) (Q : Int32 → ck_H → Prop) : Prop := ((x1 = 0 → (wp_X5_find 33 x2 h (fun r3 h2 => Q r3 h2))) ∧ (¬ x1 = 0 → ((x1 = 1 → (wp_X5_find 37 x2 h (fun r6 h5 => Q r6 h5))) ∧ (¬ x1 = 1 → ((x1 = 2 → (wp_X5_find 42 x2 h (fun r9 h8 => Q r9 h8))) ∧ (¬ x1 = 2 → Q (-1 : Int32) h))))))
set_option maxHeartbeats 4000000 in
set_option maxRecDepth 100000 in
theorem c_X11_named {gr : Bool} {x1 : Int32} {x2 : Int32} {h : ck_H} {Q : Int32 → ck_H → Prop} (hq : wp_X11_named x1 x2 h Q) : ck_M yX11_named cX11_named 3 (some .int) 3 0 0 gr ck_shX h [.ref 0, .int x1, .int x2] (ck_Qi ck_shX Q) := by
  refine ck_entry (lv := [(0, .ref 0), (1, .int x1), (2, .int x2)]) false (own := RX11) rfl (fun q => by cases q) (by decide) (Nat.le_of_ble_eq_true rfl) rfl ?_
  refine ck_iload_n 1 dX11_named_0 rfl rfl ?_
  by_cases c1 : x1 = 0
  · have hq := hq.1 c1
    refine ck_tabIn (tgt := 28) dX11_named_1 (by rw [c1]; decide) (by rw [c1]; decide) (by rw [c1]; rfl) (by decide) ?_
    refine ck_aload_n 0 dX11_named_28 rfl rfl ?_
    refine ck_getR clX11 9 rfl rfl (by decide) fl_X11_54 dX11_named_29 ?_
    refine ck_getRN clX7 0 rfl rfl (by decide) fl_X11_116 dX11_named_32 ?_
    refine ck_iload_n 2 dX11_named_35 rfl rfl ?_
    refine ck_callV (c_X5_find (by simp) hq) rfl cal_X5_find rfl ml_X11_120 vir_X5_find rfl rfl (by decide) (Nat.le_of_ble_eq_true rfl) (Nat.le_of_ble_eq_true rfl) (by decide) (by decide) dX11_named_36 ?_
    rintro _ _ h2 ⟨r3, rfl, rfl, hq⟩
    exact ck_iret rfl rfl rfl rfl dX11_named_39 ⟨_, rfl, rfl, hq⟩
  have hq := hq.2 c1
  by_cases c4 : x1 = 1
  · have hq := hq.1 c4
    refine ck_tabIn (tgt := 40) dX11_named_1 (by rw [c4]; decide) (by rw [c4]; decide) (by rw [c4]; rfl) (by decide) ?_
    refine ck_aload_n 0 dX11_named_40 rfl rfl ?_
    refine ck_getR clX11 9 rfl rfl (by decide) fl_X11_54 dX11_named_41 ?_
    refine ck_getRN clX7 3 rfl rfl (by decide) fl_X11_126 dX11_named_44 ?_
    refine ck_iload_n 2 dX11_named_47 rfl rfl ?_
    refine ck_callV (c_X5_find (by simp) hq) rfl cal_X5_find rfl ml_X11_120 vir_X5_find rfl rfl (by decide) (Nat.le_of_ble_eq_true rfl) (Nat.le_of_ble_eq_true rfl) (by decide) (by decide) dX11_named_48 ?_
    rintro _ _ h5 ⟨r6, rfl, rfl, hq⟩
    exact ck_iret rfl rfl rfl rfl dX11_named_51 ⟨_, rfl, rfl, hq⟩
  have hq := hq.2 c4
  by_cases c7 : x1 = 2
  · have hq := hq.1 c7
    refine ck_tabIn (tgt := 52) dX11_named_1 (by rw [c7]; decide) (by rw [c7]; decide) (by rw [c7]; rfl) (by decide) ?_
    refine ck_aload_n 0 dX11_named_52 rfl rfl ?_
    refine ck_getR clX11 9 rfl rfl (by decide) fl_X11_54 dX11_named_53 ?_
    refine ck_getRN clX7 7 rfl rfl (by decide) fl_X11_129 dX11_named_56 ?_
    refine ck_iload_n 2 dX11_named_59 rfl rfl ?_
    refine ck_callV (c_X5_find (by simp) hq) rfl cal_X5_find rfl ml_X11_120 vir_X5_find rfl rfl (by decide) (Nat.le_of_ble_eq_true rfl) (Nat.le_of_ble_eq_true rfl) (by decide) (by decide) dX11_named_60 ?_
    rintro _ _ h8 ⟨r9, rfl, rfl, hq⟩
    exact ck_iret rfl rfl rfl rfl dX11_named_63 ⟨_, rfl, rfl, hq⟩
  have hq := hq.2 c7
  refine ck_tabOut (tgt := 64) dX11_named_1 (by have z0 := lv_neT c1 (a := 0) (by decide); have z1 := lv_neT c4 (a := 1) (by decide); have z2 := lv_neT c7 (a := 2) (by decide); omega) (by decide) ?_
  refine ck_iconst (v := -1) dX11_named_64 (by decide) ?_
  exact ck_iret rfl rfl rfl rfl dX11_named_65 ⟨_, rfl, rfl, hq⟩
def wp_X11_isSuit (x1 : Int32) (h : ck_H) (Q : Int32 → ck_H → Prop) : Prop := ((x1 < 0 → Q (0 : Int32) h) ∧ (¬ x1 < 0 → (((h.1 42 1) ≤ x1 → Q (0 : Int32) h) ∧ (¬ (h.1 42 1) ≤ x1 → Q (1 : Int32) h))))
set_option maxHeartbeats 4000000 in
set_option maxRecDepth 100000 in
theorem c_X11_isSuit {gr : Bool} {x1 : Int32} {h : ck_H} {Q : Int32 → ck_H → Prop} (hq : wp_X11_isSuit x1 h Q) : ck_M yX11_isSuit cX11_isSuit 2 (some .boolean) 2 0 0 gr ck_shX h [.ref 0, .int x1] (ck_Qi ck_shX Q) := by
  refine ck_entry (lv := [(0, .ref 0), (1, .int x1)]) false (own := RX11) rfl (fun q => by cases q) (by decide) (Nat.le_of_ble_eq_true rfl) rfl ?_
  refine ck_iload_n 1 dX11_isSuit_0 rfl rfl ?_
  refine ck_if_lt (tgt := 22) dX11_isSuit_1 (by decide) (fun c1 => ?_) (fun c1 => ?_)
  · have hq := hq.1 c1
    refine ck_iconst (v := 0) dX11_isSuit_22 (by decide) ?_
    exact ck_iret rfl (by decide) rfl rfl dX11_isSuit_23 ⟨_, rfl, rfl, hq⟩
  · have hq := hq.2 c1
    refine ck_iload_n 1 dX11_isSuit_4 rfl rfl ?_
    refine ck_aload_n 0 dX11_isSuit_5 rfl rfl ?_
    refine ck_getR clX11 9 rfl rfl (by decide) fl_X11_54 dX11_isSuit_6 ?_
    refine ck_getRN clX7 7 rfl rfl (by decide) fl_X11_129 dX11_isSuit_9 ?_
    refine ck_getIN clX5 1 rfl rfl (by decide) fl_X11_257 dX11_isSuit_12 ?_
    refine ck_icmp_ge (tgt := 22) dX11_isSuit_15 (by decide) (fun c2 => ?_) (fun c2 => ?_)
    · have hq := hq.1 c2
      refine ck_iconst (v := 0) dX11_isSuit_22 (by decide) ?_
      exact ck_iret rfl (by decide) rfl rfl dX11_isSuit_23 ⟨_, rfl, rfl, hq⟩
    · have hq := hq.2 c2
      refine ck_iconst (v := 1) dX11_isSuit_18 (by decide) ?_
      refine ck_goto (tgt := 23) dX11_isSuit_19 (by decide) ?_
      exact ck_iret rfl (by decide) rfl rfl dX11_isSuit_23 ⟨_, rfl, rfl, hq⟩
def wp_X11_isJudge (x1 : Int32) (h : ck_H) (Q : Int32 → ck_H → Prop) : Prop := ((x1 < 0 → Q (0 : Int32) h) ∧ (¬ x1 < 0 → (((h.1 33 1) ≤ x1 → Q (0 : Int32) h) ∧ (¬ (h.1 33 1) ≤ x1 → Q (1 : Int32) h))))
set_option maxHeartbeats 4000000 in
set_option maxRecDepth 100000 in
theorem c_X11_isJudge {gr : Bool} {x1 : Int32} {h : ck_H} {Q : Int32 → ck_H → Prop} (hq : wp_X11_isJudge x1 h Q) : ck_M yX11_isJudge cX11_isJudge 2 (some .boolean) 2 0 0 gr ck_shX h [.ref 0, .int x1] (ck_Qi ck_shX Q) := by
  refine ck_entry (lv := [(0, .ref 0), (1, .int x1)]) false (own := RX11) rfl (fun q => by cases q) (by decide) (Nat.le_of_ble_eq_true rfl) rfl ?_
  refine ck_iload_n 1 dX11_isJudge_0 rfl rfl ?_
  refine ck_if_lt (tgt := 22) dX11_isJudge_1 (by decide) (fun c1 => ?_) (fun c1 => ?_)
  · have hq := hq.1 c1
    refine ck_iconst (v := 0) dX11_isJudge_22 (by decide) ?_
    exact ck_iret rfl (by decide) rfl rfl dX11_isJudge_23 ⟨_, rfl, rfl, hq⟩
  · have hq := hq.2 c1
    refine ck_iload_n 1 dX11_isJudge_4 rfl rfl ?_
    refine ck_aload_n 0 dX11_isJudge_5 rfl rfl ?_
    refine ck_getR clX11 9 rfl rfl (by decide) fl_X11_54 dX11_isJudge_6 ?_
    refine ck_getRN clX7 0 rfl rfl (by decide) fl_X11_116 dX11_isJudge_9 ?_
    refine ck_getIN clX5 1 rfl rfl (by decide) fl_X11_257 dX11_isJudge_12 ?_
    refine ck_icmp_ge (tgt := 22) dX11_isJudge_15 (by decide) (fun c2 => ?_) (fun c2 => ?_)
    · have hq := hq.1 c2
      refine ck_iconst (v := 0) dX11_isJudge_22 (by decide) ?_
      exact ck_iret rfl (by decide) rfl rfl dX11_isJudge_23 ⟨_, rfl, rfl, hq⟩
    · have hq := hq.2 c2
      refine ck_iconst (v := 1) dX11_isJudge_18 (by decide) ?_
      refine ck_goto (tgt := 23) dX11_isJudge_19 (by decide) ?_
      exact ck_iret rfl (by decide) rfl rfl dX11_isJudge_23 ⟨_, rfl, rfl, hq⟩
def wp_X11_triedBy_47 (Q : Int32 → ck_H → Prop) (Kc : Int32 → Int32 → Int32 → ck_H → Prop) (x1 : Int32) (x2 : Int32) (x3 : Int32) (h : ck_H) : Prop := (∀ v4, v4 = x3 + 1 → Kc x1 x2 v4 h)
def wp_X11_triedBy_4 (Q : Int32 → ck_H → Prop) : Nat → Int32 → Int32 → Int32 → ck_H → Prop
  | 0 => fun _ _ _ _ => False
  | n + 1 => fun x1 x2 x3 h => (((h.1 42 1) ≤ x3 → Q x2 h) ∧ (¬ (h.1 42 1) ≤ x3 → (vp_in x3 10 ∧ ((¬ (h.1 9 x3.toNatClampNeg) = x1 → wp_X11_triedBy_47 Q (wp_X11_triedBy_4 Q n) x1 x2 x3 h) ∧ ((h.1 9 x3.toNatClampNeg) = x1 → (vp_in x3 10 ∧ (((h.1 11 x3.toNatClampNeg) = (-1 : Int32) → wp_X11_triedBy_47 Q (wp_X11_triedBy_4 Q n) x1 x2 x3 h) ∧ (¬ (h.1 11 x3.toNatClampNeg) = (-1 : Int32) → (∀ v7, v7 = x2 + 1 → wp_X11_triedBy_47 Q (wp_X11_triedBy_4 Q n) x1 v7 x3 h)))))))))
def wp_X11_triedBy (x1 : Int32) (h : ck_H) (Q : Int32 → ck_H → Prop) : Prop := wp_X11_triedBy_4 Q lpN x1 (0 : Int32) (0 : Int32) h
set_option maxHeartbeats 4000000 in
set_option maxRecDepth 100000 in
theorem cp_X11_triedBy_47 {gr : Bool} {Q : Int32 → ck_H → Prop} {Kc : Int32 → Int32 → Int32 → ck_H → Prop} (hKc : ∀ (x1 : Int32) (x2 : Int32) (x3 : Int32) (h : ck_H), Kc x1 x2 x3 h → ck_W cX11_triedBy 4 RX11 (some .int) 2 0 0 false gr (ck_Qi ck_shX Q) ck_shX h 0 0 4 [(0, .ref 0), (1, .int x1), (2, .int x2), (3, .int x3)] []) : ∀ (x1 : Int32) (x2 : Int32) (x3 : Int32) (h : ck_H), wp_X11_triedBy_47 Q Kc x1 x2 x3 h → ck_W cX11_triedBy 4 RX11 (some .int) 2 0 0 false gr (ck_Qi ck_shX Q) ck_shX h 0 0 47 [(0, .ref 0), (1, .int x1), (2, .int x2), (3, .int x3)] [] := by
  intro x1 x2 x3 h hq
  obtain ⟨v4, ev4⟩ : ∃ z : Int32, z = x3 + 1 := ⟨_, rfl⟩
  have hq := hq v4 ev4
  refine ck_iinc (v := v4) (lv' := [(3, .int v4), (0, .ref 0), (1, .int x1), (2, .int x2)]) 3 dX11_triedBy_47 rfl (by rw [ev4]; rfl) (by decide) rfl ?_
  refine ck_goto (tgt := 4) dX11_triedBy_50 (by decide) ?_
  refine ck_loc [1, 2, 3, 0] rfl ?_
  exact hKc _ _ _ _ hq
set_option maxHeartbeats 4000000 in
set_option maxRecDepth 100000 in
theorem cp_X11_triedBy_4 {gr : Bool} {Q : Int32 → ck_H → Prop} : ∀ (n : Nat) (x1 : Int32) (x2 : Int32) (x3 : Int32) (h : ck_H), wp_X11_triedBy_4 Q n x1 x2 x3 h → ck_W cX11_triedBy 4 RX11 (some .int) 2 0 0 false gr (ck_Qi ck_shX Q) ck_shX h 0 0 4 [(0, .ref 0), (1, .int x1), (2, .int x2), (3, .int x3)] [] := by
  intro n
  induction n with
  | zero => intro x1 x2 x3 h hq; exact hq.elim
  | succ n hKc =>
    intro x1 x2 x3 h hq
    refine ck_iload_n 3 dX11_triedBy_4 rfl rfl ?_
    refine ck_aload_n 0 dX11_triedBy_5 rfl rfl ?_
    refine ck_getR clX11 9 rfl rfl (by decide) fl_X11_54 dX11_triedBy_6 ?_
    refine ck_getRN clX7 7 rfl rfl (by decide) fl_X11_129 dX11_triedBy_9 ?_
    refine ck_getIN clX5 1 rfl rfl (by decide) fl_X11_257 dX11_triedBy_12 ?_
    refine ck_icmp_ge (tgt := 53) dX11_triedBy_15 (by decide) (fun c1 => ?_) (fun c1 => ?_)
    · have hq := hq.1 c1
      refine ck_iload_n 2 dX11_triedBy_53 rfl rfl ?_
      exact ck_iret rfl rfl rfl rfl dX11_triedBy_54 ⟨_, rfl, rfl, hq⟩
    · have hq := hq.2 c1
      refine ck_aload_n 0 dX11_triedBy_18 rfl rfl ?_
      refine ck_getR clX11 2 rfl rfl (by decide) fl_X11_27 dX11_triedBy_19 ?_
      refine ck_getRN clX1 1 rfl rfl (by decide) fl_X11_143 dX11_triedBy_22 ?_
      refine ck_iload_n 3 dX11_triedBy_25 rfl rfl ?_
      obtain ⟨b2, hq⟩ := hq
      refine ck_iald rfl rfl b2 dX11_triedBy_26 ?_
      refine ck_iload_n 1 dX11_triedBy_27 rfl rfl ?_
      refine ck_icmp_ne (tgt := 47) dX11_triedBy_28 (by decide) (fun c3 => ?_) (fun c3 => ?_)
      · have hq := hq.1 c3
        exact cp_X11_triedBy_47 hKc _ _ _ _ hq
      · have hq := hq.2 c3
        refine ck_aload_n 0 dX11_triedBy_31 rfl rfl ?_
        refine ck_getR clX11 2 rfl rfl (by decide) fl_X11_27 dX11_triedBy_32 ?_
        refine ck_getRN clX1 3 rfl rfl (by decide) fl_X11_156 dX11_triedBy_35 ?_
        refine ck_iload_n 3 dX11_triedBy_38 rfl rfl ?_
        obtain ⟨b5, hq⟩ := hq
        refine ck_iald rfl rfl b5 dX11_triedBy_39 ?_
        refine ck_iconst (v := -1) dX11_triedBy_40 (by decide) ?_
        refine ck_icmp_eq (tgt := 47) dX11_triedBy_41 (by decide) (fun c6 => ?_) (fun c6 => ?_)
        · have hq := hq.1 c6
          exact cp_X11_triedBy_47 hKc _ _ _ _ hq
        · have hq := hq.2 c6
          obtain ⟨v7, ev7⟩ : ∃ z : Int32, z = x2 + 1 := ⟨_, rfl⟩
          have hq := hq v7 ev7
          refine ck_iinc (v := v7) (lv' := [(2, .int v7), (0, .ref 0), (1, .int x1), (3, .int x3)]) 2 dX11_triedBy_44 rfl (by rw [ev7]; rfl) (by decide) rfl ?_
          refine ck_loc [1, 2, 0, 3] rfl ?_
          exact cp_X11_triedBy_47 hKc _ _ _ _ hq
set_option maxHeartbeats 4000000 in
set_option maxRecDepth 100000 in
theorem c_X11_triedBy {gr : Bool} {x1 : Int32} {h : ck_H} {Q : Int32 → ck_H → Prop} (hq : wp_X11_triedBy x1 h Q) : ck_M yX11_triedBy cX11_triedBy 4 (some .int) 2 0 0 gr ck_shX h [.ref 0, .int x1] (ck_Qi ck_shX Q) := by
  refine ck_entry (lv := [(0, .ref 0), (1, .int x1)]) false (own := RX11) rfl (fun q => by cases q) (by decide) (Nat.le_of_ble_eq_true rfl) rfl ?_
  refine ck_iconst (v := 0) dX11_triedBy_0 (by decide) ?_
  refine ck_istore_n (lv' := [(2, .int (0 : Int32)), (0, .ref 0), (1, .int x1)]) dX11_triedBy_1 rfl (by decide) rfl ?_
  refine ck_iconst (v := 0) dX11_triedBy_2 (by decide) ?_
  refine ck_istore_n (lv' := [(3, .int (0 : Int32)), (2, .int (0 : Int32)), (0, .ref 0), (1, .int x1)]) dX11_triedBy_3 rfl (by decide) rfl ?_
  refine ck_loc [2, 3, 1, 0] rfl ?_
  refine cp_X11_triedBy_4 lpN _ _ _ _ hq
def wp_X11_wholeOnesBy_47 (Q : Int32 → ck_H → Prop) (Kc : Int32 → Int32 → Int32 → ck_H → Prop) (x1 : Int32) (x2 : Int32) (x3 : Int32) (h : ck_H) : Prop := (∀ v4, v4 = x3 + 1 → Kc x1 x2 v4 h)
def wp_X11_wholeOnesBy_4 (Q : Int32 → ck_H → Prop) : Nat → Int32 → Int32 → Int32 → ck_H → Prop
  | 0 => fun _ _ _ _ => False
  | n + 1 => fun x1 x2 x3 h => (((h.1 42 1) ≤ x3 → Q x2 h) ∧ (¬ (h.1 42 1) ≤ x3 → (vp_in x3 10 ∧ ((¬ (h.1 9 x3.toNatClampNeg) = x1 → wp_X11_wholeOnesBy_47 Q (wp_X11_wholeOnesBy_4 Q n) x1 x2 x3 h) ∧ ((h.1 9 x3.toNatClampNeg) = x1 → (vp_in x3 10 ∧ ((¬ (h.1 11 x3.toNatClampNeg) = (1 : Int32) → wp_X11_wholeOnesBy_47 Q (wp_X11_wholeOnesBy_4 Q n) x1 x2 x3 h) ∧ ((h.1 11 x3.toNatClampNeg) = (1 : Int32) → (∀ v7, v7 = x2 + 1 → wp_X11_wholeOnesBy_47 Q (wp_X11_wholeOnesBy_4 Q n) x1 v7 x3 h)))))))))
def wp_X11_wholeOnesBy (x1 : Int32) (h : ck_H) (Q : Int32 → ck_H → Prop) : Prop := wp_X11_wholeOnesBy_4 Q lpN x1 (0 : Int32) (0 : Int32) h
set_option maxHeartbeats 4000000 in
set_option maxRecDepth 100000 in
theorem cp_X11_wholeOnesBy_47 {gr : Bool} {Q : Int32 → ck_H → Prop} {Kc : Int32 → Int32 → Int32 → ck_H → Prop} (hKc : ∀ (x1 : Int32) (x2 : Int32) (x3 : Int32) (h : ck_H), Kc x1 x2 x3 h → ck_W cX11_wholeOnesBy 4 RX11 (some .int) 2 0 0 false gr (ck_Qi ck_shX Q) ck_shX h 0 0 4 [(0, .ref 0), (1, .int x1), (2, .int x2), (3, .int x3)] []) : ∀ (x1 : Int32) (x2 : Int32) (x3 : Int32) (h : ck_H), wp_X11_wholeOnesBy_47 Q Kc x1 x2 x3 h → ck_W cX11_wholeOnesBy 4 RX11 (some .int) 2 0 0 false gr (ck_Qi ck_shX Q) ck_shX h 0 0 47 [(0, .ref 0), (1, .int x1), (2, .int x2), (3, .int x3)] [] := by
  intro x1 x2 x3 h hq
  obtain ⟨v4, ev4⟩ : ∃ z : Int32, z = x3 + 1 := ⟨_, rfl⟩
  have hq := hq v4 ev4
  refine ck_iinc (v := v4) (lv' := [(3, .int v4), (0, .ref 0), (1, .int x1), (2, .int x2)]) 3 dX11_wholeOnesBy_47 rfl (by rw [ev4]; rfl) (by decide) rfl ?_
  refine ck_goto (tgt := 4) dX11_wholeOnesBy_50 (by decide) ?_
  refine ck_loc [1, 2, 3, 0] rfl ?_
  exact hKc _ _ _ _ hq
set_option maxHeartbeats 4000000 in
set_option maxRecDepth 100000 in
theorem cp_X11_wholeOnesBy_4 {gr : Bool} {Q : Int32 → ck_H → Prop} : ∀ (n : Nat) (x1 : Int32) (x2 : Int32) (x3 : Int32) (h : ck_H), wp_X11_wholeOnesBy_4 Q n x1 x2 x3 h → ck_W cX11_wholeOnesBy 4 RX11 (some .int) 2 0 0 false gr (ck_Qi ck_shX Q) ck_shX h 0 0 4 [(0, .ref 0), (1, .int x1), (2, .int x2), (3, .int x3)] [] := by
  intro n
  induction n with
  | zero => intro x1 x2 x3 h hq; exact hq.elim
  | succ n hKc =>
    intro x1 x2 x3 h hq
    refine ck_iload_n 3 dX11_wholeOnesBy_4 rfl rfl ?_
    refine ck_aload_n 0 dX11_wholeOnesBy_5 rfl rfl ?_
    refine ck_getR clX11 9 rfl rfl (by decide) fl_X11_54 dX11_wholeOnesBy_6 ?_
    refine ck_getRN clX7 7 rfl rfl (by decide) fl_X11_129 dX11_wholeOnesBy_9 ?_
    refine ck_getIN clX5 1 rfl rfl (by decide) fl_X11_257 dX11_wholeOnesBy_12 ?_
    refine ck_icmp_ge (tgt := 53) dX11_wholeOnesBy_15 (by decide) (fun c1 => ?_) (fun c1 => ?_)
    · have hq := hq.1 c1
      refine ck_iload_n 2 dX11_wholeOnesBy_53 rfl rfl ?_
      exact ck_iret rfl rfl rfl rfl dX11_wholeOnesBy_54 ⟨_, rfl, rfl, hq⟩
    · have hq := hq.2 c1
      refine ck_aload_n 0 dX11_wholeOnesBy_18 rfl rfl ?_
      refine ck_getR clX11 2 rfl rfl (by decide) fl_X11_27 dX11_wholeOnesBy_19 ?_
      refine ck_getRN clX1 1 rfl rfl (by decide) fl_X11_143 dX11_wholeOnesBy_22 ?_
      refine ck_iload_n 3 dX11_wholeOnesBy_25 rfl rfl ?_
      obtain ⟨b2, hq⟩ := hq
      refine ck_iald rfl rfl b2 dX11_wholeOnesBy_26 ?_
      refine ck_iload_n 1 dX11_wholeOnesBy_27 rfl rfl ?_
      refine ck_icmp_ne (tgt := 47) dX11_wholeOnesBy_28 (by decide) (fun c3 => ?_) (fun c3 => ?_)
      · have hq := hq.1 c3
        exact cp_X11_wholeOnesBy_47 hKc _ _ _ _ hq
      · have hq := hq.2 c3
        refine ck_aload_n 0 dX11_wholeOnesBy_31 rfl rfl ?_
        refine ck_getR clX11 2 rfl rfl (by decide) fl_X11_27 dX11_wholeOnesBy_32 ?_
        refine ck_getRN clX1 3 rfl rfl (by decide) fl_X11_156 dX11_wholeOnesBy_35 ?_
        refine ck_iload_n 3 dX11_wholeOnesBy_38 rfl rfl ?_
        obtain ⟨b5, hq⟩ := hq
        refine ck_iald rfl rfl b5 dX11_wholeOnesBy_39 ?_
        refine ck_iconst (v := 1) dX11_wholeOnesBy_40 (by decide) ?_
        refine ck_icmp_ne (tgt := 47) dX11_wholeOnesBy_41 (by decide) (fun c6 => ?_) (fun c6 => ?_)
        · have hq := hq.1 c6
          exact cp_X11_wholeOnesBy_47 hKc _ _ _ _ hq
        · have hq := hq.2 c6
          obtain ⟨v7, ev7⟩ : ∃ z : Int32, z = x2 + 1 := ⟨_, rfl⟩
          have hq := hq v7 ev7
          refine ck_iinc (v := v7) (lv' := [(2, .int v7), (0, .ref 0), (1, .int x1), (3, .int x3)]) 2 dX11_wholeOnesBy_44 rfl (by rw [ev7]; rfl) (by decide) rfl ?_
          refine ck_loc [1, 2, 0, 3] rfl ?_
          exact cp_X11_wholeOnesBy_47 hKc _ _ _ _ hq
set_option maxHeartbeats 4000000 in
set_option maxRecDepth 100000 in
theorem c_X11_wholeOnesBy {gr : Bool} {x1 : Int32} {h : ck_H} {Q : Int32 → ck_H → Prop} (hq : wp_X11_wholeOnesBy x1 h Q) : ck_M yX11_wholeOnesBy cX11_wholeOnesBy 4 (some .int) 2 0 0 gr ck_shX h [.ref 0, .int x1] (ck_Qi ck_shX Q) := by
  refine ck_entry (lv := [(0, .ref 0), (1, .int x1)]) false (own := RX11) rfl (fun q => by cases q) (by decide) (Nat.le_of_ble_eq_true rfl) rfl ?_
  refine ck_iconst (v := 0) dX11_wholeOnesBy_0 (by decide) ?_
  refine ck_istore_n (lv' := [(2, .int (0 : Int32)), (0, .ref 0), (1, .int x1)]) dX11_wholeOnesBy_1 rfl (by decide) rfl ?_
  refine ck_iconst (v := 0) dX11_wholeOnesBy_2 (by decide) ?_
  refine ck_istore_n (lv' := [(3, .int (0 : Int32)), (2, .int (0 : Int32)), (0, .ref 0), (1, .int x1)]) dX11_wholeOnesBy_3 rfl (by decide) rfl ?_
  refine ck_loc [2, 3, 1, 0] rfl ?_
  refine cp_X11_wholeOnesBy_4 lpN _ _ _ _ hq
def wp_X11_judge (x1 : Int32) (x2 : Int32) (h : ck_H) (Q : Int32 → ck_H → Prop) : Prop := (wp_X11_isJudge x1 h (fun r2 h1 => ((¬ r2 = 0 → ((x2 = 0 → (vp_in x1 4 ∧ Q (h1.1 35 x1.toNatClampNeg) h1)) ∧ (¬ x2 = 0 → ((x2 = 1 → (vp_in x1 4 ∧ Q (h1.1 8 x1.toNatClampNeg) h1)) ∧ (¬ x2 = 1 → ((x2 = 2 → (wp_X11_triedBy x1 h1 (fun r10 h9 => Q r10 h9))) ∧ (¬ x2 = 2 → ((x2 = 3 → (wp_X11_wholeOnesBy x1 h1 (fun r13 h12 => Q r13 h12))) ∧ (¬ x2 = 3 → Q (-1 : Int32) h1))))))))) ∧ (r2 = 0 → Q (-1 : Int32) h1))))
set_option maxHeartbeats 4000000 in
set_option maxRecDepth 100000 in
theorem c_X11_judge {gr : Bool} {x1 : Int32} {x2 : Int32} {h : ck_H} {Q : Int32 → ck_H → Prop} (hq : wp_X11_judge x1 x2 h Q) : ck_M yX11_judge cX11_judge 3 (some .int) 3 0 0 gr ck_shX h [.ref 0, .int x1, .int x2] (ck_Qi ck_shX Q) := by
  refine ck_entry (lv := [(0, .ref 0), (1, .int x1), (2, .int x2)]) false (own := RX11) rfl (fun q => by cases q) (by decide) (Nat.le_of_ble_eq_true rfl) rfl ?_
  refine ck_aload_n 0 dX11_judge_0 rfl rfl ?_
  refine ck_iload_n 1 dX11_judge_1 rfl rfl ?_
  refine ck_callV (c_X11_isJudge hq) rfl cal_X11_isJudge rfl ml_X11_168 vir_X11_isJudge rfl rfl (by decide) (Nat.le_of_ble_eq_true rfl) (Nat.le_of_ble_eq_true rfl) (by decide) (by decide) dX11_judge_2 ?_
  rintro _ _ h1 ⟨r2, rfl, rfl, hq⟩
  refine ck_if_ne (tgt := 10) dX11_judge_5 (by decide) (fun c3 => ?_) (fun c3 => ?_)
  · have hq := hq.1 c3
    refine ck_iload_n 2 dX11_judge_10 rfl rfl ?_
    by_cases c4 : x2 = 0
    · have hq := hq.1 c4
      refine ck_tabIn (tgt := 40) dX11_judge_11 (by rw [c4]; decide) (by rw [c4]; decide) (by rw [c4]; rfl) (by decide) ?_
      refine ck_aload_n 0 dX11_judge_40 rfl rfl ?_
      refine ck_getR clX11 9 rfl rfl (by decide) fl_X11_54 dX11_judge_41 ?_
      refine ck_getRN clX7 1 rfl rfl (by decide) fl_X11_171 dX11_judge_44 ?_
      refine ck_iload_n 1 dX11_judge_47 rfl rfl ?_
      obtain ⟨b5, hq⟩ := hq
      refine ck_iald rfl rfl b5 dX11_judge_48 ?_
      exact ck_iret rfl rfl rfl rfl dX11_judge_49 ⟨_, rfl, rfl, hq⟩
    have hq := hq.2 c4
    by_cases c6 : x2 = 1
    · have hq := hq.1 c6
      refine ck_tabIn (tgt := 50) dX11_judge_11 (by rw [c6]; decide) (by rw [c6]; decide) (by rw [c6]; rfl) (by decide) ?_
      refine ck_aload_n 0 dX11_judge_50 rfl rfl ?_
      refine ck_getR clX11 2 rfl rfl (by decide) fl_X11_27 dX11_judge_51 ?_
      refine ck_getRN clX1 0 rfl rfl (by decide) fl_X11_174 dX11_judge_54 ?_
      refine ck_iload_n 1 dX11_judge_57 rfl rfl ?_
      obtain ⟨b7, hq⟩ := hq
      refine ck_iald rfl rfl b7 dX11_judge_58 ?_
      exact ck_iret rfl rfl rfl rfl dX11_judge_59 ⟨_, rfl, rfl, hq⟩
    have hq := hq.2 c6
    by_cases c8 : x2 = 2
    · have hq := hq.1 c8
      refine ck_tabIn (tgt := 60) dX11_judge_11 (by rw [c8]; decide) (by rw [c8]; decide) (by rw [c8]; rfl) (by decide) ?_
      refine ck_aload_n 0 dX11_judge_60 rfl rfl ?_
      refine ck_iload_n 1 dX11_judge_61 rfl rfl ?_
      refine ck_callV (c_X11_triedBy hq) rfl cal_X11_triedBy rfl ml_X11_177 vir_X11_triedBy rfl rfl (by decide) (Nat.le_of_ble_eq_true rfl) (Nat.le_of_ble_eq_true rfl) (by decide) (by decide) dX11_judge_62 ?_
      rintro _ _ h9 ⟨r10, rfl, rfl, hq⟩
      exact ck_iret rfl rfl rfl rfl dX11_judge_65 ⟨_, rfl, rfl, hq⟩
    have hq := hq.2 c8
    by_cases c11 : x2 = 3
    · have hq := hq.1 c11
      refine ck_tabIn (tgt := 66) dX11_judge_11 (by rw [c11]; decide) (by rw [c11]; decide) (by rw [c11]; rfl) (by decide) ?_
      refine ck_aload_n 0 dX11_judge_66 rfl rfl ?_
      refine ck_iload_n 1 dX11_judge_67 rfl rfl ?_
      refine ck_callV (c_X11_wholeOnesBy hq) rfl cal_X11_wholeOnesBy rfl ml_X11_180 vir_X11_wholeOnesBy rfl rfl (by decide) (Nat.le_of_ble_eq_true rfl) (Nat.le_of_ble_eq_true rfl) (by decide) (by decide) dX11_judge_68 ?_
      rintro _ _ h12 ⟨r13, rfl, rfl, hq⟩
      exact ck_iret rfl rfl rfl rfl dX11_judge_71 ⟨_, rfl, rfl, hq⟩
    have hq := hq.2 c11
    refine ck_tabOut (tgt := 72) dX11_judge_11 (by have z0 := lv_neT c4 (a := 0) (by decide); have z1 := lv_neT c6 (a := 1) (by decide); have z2 := lv_neT c8 (a := 2) (by decide); have z3 := lv_neT c11 (a := 3) (by decide); omega) (by decide) ?_
    refine ck_iconst (v := -1) dX11_judge_72 (by decide) ?_
    exact ck_iret rfl rfl rfl rfl dX11_judge_73 ⟨_, rfl, rfl, hq⟩
  · have hq := hq.2 c3
    refine ck_iconst (v := -1) dX11_judge_8 (by decide) ?_
    exact ck_iret rfl rfl rfl rfl dX11_judge_9 ⟨_, rfl, rfl, hq⟩
def wp_X11_isNut (x1 : Int32) (h : ck_H) (Q : Int32 → ck_H → Prop) : Prop := ((x1 < 0 → Q (0 : Int32) h) ∧ (¬ x1 < 0 → (((h.1 37 1) ≤ x1 → Q (0 : Int32) h) ∧ (¬ (h.1 37 1) ≤ x1 → Q (1 : Int32) h))))
set_option maxHeartbeats 4000000 in
set_option maxRecDepth 100000 in
theorem c_X11_isNut {gr : Bool} {x1 : Int32} {h : ck_H} {Q : Int32 → ck_H → Prop} (hq : wp_X11_isNut x1 h Q) : ck_M yX11_isNut cX11_isNut 2 (some .boolean) 2 0 0 gr ck_shX h [.ref 0, .int x1] (ck_Qi ck_shX Q) := by
  refine ck_entry (lv := [(0, .ref 0), (1, .int x1)]) false (own := RX11) rfl (fun q => by cases q) (by decide) (Nat.le_of_ble_eq_true rfl) rfl ?_
  refine ck_iload_n 1 dX11_isNut_0 rfl rfl ?_
  refine ck_if_lt (tgt := 22) dX11_isNut_1 (by decide) (fun c1 => ?_) (fun c1 => ?_)
  · have hq := hq.1 c1
    refine ck_iconst (v := 0) dX11_isNut_22 (by decide) ?_
    exact ck_iret rfl (by decide) rfl rfl dX11_isNut_23 ⟨_, rfl, rfl, hq⟩
  · have hq := hq.2 c1
    refine ck_iload_n 1 dX11_isNut_4 rfl rfl ?_
    refine ck_aload_n 0 dX11_isNut_5 rfl rfl ?_
    refine ck_getR clX11 9 rfl rfl (by decide) fl_X11_54 dX11_isNut_6 ?_
    refine ck_getRN clX7 3 rfl rfl (by decide) fl_X11_126 dX11_isNut_9 ?_
    refine ck_getIN clX5 1 rfl rfl (by decide) fl_X11_257 dX11_isNut_12 ?_
    refine ck_icmp_ge (tgt := 22) dX11_isNut_15 (by decide) (fun c2 => ?_) (fun c2 => ?_)
    · have hq := hq.1 c2
      refine ck_iconst (v := 0) dX11_isNut_22 (by decide) ?_
      exact ck_iret rfl (by decide) rfl rfl dX11_isNut_23 ⟨_, rfl, rfl, hq⟩
    · have hq := hq.2 c2
      refine ck_iconst (v := 1) dX11_isNut_18 (by decide) ?_
      refine ck_goto (tgt := 23) dX11_isNut_19 (by decide) ?_
      exact ck_iret rfl (by decide) rfl rfl dX11_isNut_23 ⟨_, rfl, rfl, hq⟩
def wp_X11_nut (x1 : Int32) (x2 : Int32) (h : ck_H) (Q : Int32 → ck_H → Prop) : Prop := (wp_X11_isNut x1 h (fun r2 h1 => ((¬ r2 = 0 → ((x2 = 0 → (vp_in x1 6 ∧ Q (h1.1 39 x1.toNatClampNeg) h1)) ∧ (¬ x2 = 0 → ((x2 = 1 → (vp_in x1 6 ∧ Q (h1.1 40 x1.toNatClampNeg) h1)) ∧ (¬ x2 = 1 → ((x2 = 2 → (vp_in x1 6 ∧ Q (h1.1 41 x1.toNatClampNeg) h1)) ∧ (¬ x2 = 2 → Q (-1 : Int32) h1))))))) ∧ (r2 = 0 → Q (-1 : Int32) h1))))
set_option maxHeartbeats 4000000 in
set_option maxRecDepth 100000 in
theorem c_X11_nut {gr : Bool} {x1 : Int32} {x2 : Int32} {h : ck_H} {Q : Int32 → ck_H → Prop} (hq : wp_X11_nut x1 x2 h Q) : ck_M yX11_nut cX11_nut 3 (some .int) 3 0 0 gr ck_shX h [.ref 0, .int x1, .int x2] (ck_Qi ck_shX Q) := by
  refine ck_entry (lv := [(0, .ref 0), (1, .int x1), (2, .int x2)]) false (own := RX11) rfl (fun q => by cases q) (by decide) (Nat.le_of_ble_eq_true rfl) rfl ?_
  refine ck_aload_n 0 dX11_nut_0 rfl rfl ?_
  refine ck_iload_n 1 dX11_nut_1 rfl rfl ?_
  refine ck_callV (c_X11_isNut hq) rfl cal_X11_isNut rfl ml_X11_183 vir_X11_isNut rfl rfl (by decide) (Nat.le_of_ble_eq_true rfl) (Nat.le_of_ble_eq_true rfl) (by decide) (by decide) dX11_nut_2 ?_
  rintro _ _ h1 ⟨r2, rfl, rfl, hq⟩
  refine ck_if_ne (tgt := 10) dX11_nut_5 (by decide) (fun c3 => ?_) (fun c3 => ?_)
  · have hq := hq.1 c3
    refine ck_iload_n 2 dX11_nut_10 rfl rfl ?_
    by_cases c4 : x2 = 0
    · have hq := hq.1 c4
      refine ck_tabIn (tgt := 36) dX11_nut_11 (by rw [c4]; decide) (by rw [c4]; decide) (by rw [c4]; rfl) (by decide) ?_
      refine ck_aload_n 0 dX11_nut_36 rfl rfl ?_
      refine ck_getR clX11 9 rfl rfl (by decide) fl_X11_54 dX11_nut_37 ?_
      refine ck_getRN clX7 4 rfl rfl (by decide) fl_X11_186 dX11_nut_40 ?_
      refine ck_iload_n 1 dX11_nut_43 rfl rfl ?_
      obtain ⟨b5, hq⟩ := hq
      refine ck_iald rfl rfl b5 dX11_nut_44 ?_
      exact ck_iret rfl rfl rfl rfl dX11_nut_45 ⟨_, rfl, rfl, hq⟩
    have hq := hq.2 c4
    by_cases c6 : x2 = 1
    · have hq := hq.1 c6
      refine ck_tabIn (tgt := 46) dX11_nut_11 (by rw [c6]; decide) (by rw [c6]; decide) (by rw [c6]; rfl) (by decide) ?_
      refine ck_aload_n 0 dX11_nut_46 rfl rfl ?_
      refine ck_getR clX11 9 rfl rfl (by decide) fl_X11_54 dX11_nut_47 ?_
      refine ck_getRN clX7 5 rfl rfl (by decide) fl_X11_189 dX11_nut_50 ?_
      refine ck_iload_n 1 dX11_nut_53 rfl rfl ?_
      obtain ⟨b7, hq⟩ := hq
      refine ck_iald rfl rfl b7 dX11_nut_54 ?_
      exact ck_iret rfl rfl rfl rfl dX11_nut_55 ⟨_, rfl, rfl, hq⟩
    have hq := hq.2 c6
    by_cases c8 : x2 = 2
    · have hq := hq.1 c8
      refine ck_tabIn (tgt := 56) dX11_nut_11 (by rw [c8]; decide) (by rw [c8]; decide) (by rw [c8]; rfl) (by decide) ?_
      refine ck_aload_n 0 dX11_nut_56 rfl rfl ?_
      refine ck_getR clX11 9 rfl rfl (by decide) fl_X11_54 dX11_nut_57 ?_
      refine ck_getRN clX7 6 rfl rfl (by decide) fl_X11_192 dX11_nut_60 ?_
      refine ck_iload_n 1 dX11_nut_63 rfl rfl ?_
      obtain ⟨b9, hq⟩ := hq
      refine ck_iald rfl rfl b9 dX11_nut_64 ?_
      exact ck_iret rfl rfl rfl rfl dX11_nut_65 ⟨_, rfl, rfl, hq⟩
    have hq := hq.2 c8
    refine ck_tabOut (tgt := 66) dX11_nut_11 (by have z0 := lv_neT c4 (a := 0) (by decide); have z1 := lv_neT c6 (a := 1) (by decide); have z2 := lv_neT c8 (a := 2) (by decide); omega) (by decide) ?_
    refine ck_iconst (v := -1) dX11_nut_66 (by decide) ?_
    exact ck_iret rfl rfl rfl rfl dX11_nut_67 ⟨_, rfl, rfl, hq⟩
  · have hq := hq.2 c3
    refine ck_iconst (v := -1) dX11_nut_8 (by decide) ?_
    exact ck_iret rfl rfl rfl rfl dX11_nut_9 ⟨_, rfl, rfl, hq⟩
def wp_X11_verdictWithoutStone (x1 : Int32) (x2 : Int32) (h : ck_H) (Q : Int32 → ck_H → Prop) : Prop := (wp_X11_isJudge x1 h (fun r2 h1 => ((r2 = 0 → Q (-1 : Int32) h1) ∧ (¬ r2 = 0 → (wp_X11_isNut x2 h1 (fun r5 h4 => ((¬ r5 = 0 → (wp_X10_asTheyAre h4 (fun h7 => (vp_in x2 6 ∧ (wp_X10_measured 7 x1 x2 (h7.1 39 x2.toNatClampNeg) h7 (fun r10 h9 => Q r10 h9)))))) ∧ (r5 = 0 → Q (-1 : Int32) h4))))))))
set_option maxHeartbeats 4000000 in
set_option maxRecDepth 100000 in
theorem c_X11_verdictWithoutStone {gr : Bool} {x1 : Int32} {x2 : Int32} {h : ck_H} {Q : Int32 → ck_H → Prop} (hq : wp_X11_verdictWithoutStone x1 x2 h Q) : ck_M yX11_verdictWithoutStone cX11_verdictWithoutStone 3 (some .int) 6 0 0 gr ck_shX h [.ref 0, .int x1, .int x2] (ck_Qi ck_shX Q) := by
  refine ck_entry (lv := [(0, .ref 0), (1, .int x1), (2, .int x2)]) false (own := RX11) rfl (fun q => by cases q) (by decide) (Nat.le_of_ble_eq_true rfl) rfl ?_
  refine ck_aload_n 0 dX11_verdictWithoutStone_0 rfl rfl ?_
  refine ck_iload_n 1 dX11_verdictWithoutStone_1 rfl rfl ?_
  refine ck_callV (c_X11_isJudge hq) rfl cal_X11_isJudge rfl ml_X11_168 vir_X11_isJudge rfl rfl (by decide) (Nat.le_of_ble_eq_true rfl) (Nat.le_of_ble_eq_true rfl) (by decide) (by decide) dX11_verdictWithoutStone_2 ?_
  rintro _ _ h1 ⟨r2, rfl, rfl, hq⟩
  refine ck_if_eq (tgt := 16) dX11_verdictWithoutStone_5 (by decide) (fun c3 => ?_) (fun c3 => ?_)
  · have hq := hq.1 c3
    refine ck_iconst (v := -1) dX11_verdictWithoutStone_16 (by decide) ?_
    exact ck_iret rfl rfl rfl rfl dX11_verdictWithoutStone_17 ⟨_, rfl, rfl, hq⟩
  · have hq := hq.2 c3
    refine ck_aload_n 0 dX11_verdictWithoutStone_8 rfl rfl ?_
    refine ck_iload_n 2 dX11_verdictWithoutStone_9 rfl rfl ?_
    refine ck_callV (c_X11_isNut hq) rfl cal_X11_isNut rfl ml_X11_183 vir_X11_isNut rfl rfl (by decide) (Nat.le_of_ble_eq_true rfl) (Nat.le_of_ble_eq_true rfl) (by decide) (by decide) dX11_verdictWithoutStone_10 ?_
    rintro _ _ h4 ⟨r5, rfl, rfl, hq⟩
    refine ck_if_ne (tgt := 18) dX11_verdictWithoutStone_13 (by decide) (fun c6 => ?_) (fun c6 => ?_)
    · have hq := hq.1 c6
      refine ck_aload_n 0 dX11_verdictWithoutStone_18 rfl rfl ?_
      refine ck_getR clX11 5 rfl rfl (by decide) fl_X11_70 dX11_verdictWithoutStone_19 ?_
      refine ck_callV (c_X10_asTheyAre hq) rfl cal_X10_asTheyAre rfl ml_X11_237 vir_X10_asTheyAre rfl rfl (by decide) (Nat.le_of_ble_eq_true rfl) (Nat.le_of_ble_eq_true rfl) (by decide) (by decide) dX11_verdictWithoutStone_22 ?_
      rintro _ _ h7 ⟨rfl, rfl, hq⟩
      refine ck_aload_n 0 dX11_verdictWithoutStone_25 rfl rfl ?_
      refine ck_getR clX11 5 rfl rfl (by decide) fl_X11_70 dX11_verdictWithoutStone_26 ?_
      refine ck_aload_n 0 dX11_verdictWithoutStone_29 rfl rfl ?_
      refine ck_getR clX11 2 rfl rfl (by decide) fl_X11_27 dX11_verdictWithoutStone_30 ?_
      refine ck_iload_n 1 dX11_verdictWithoutStone_33 rfl rfl ?_
      refine ck_iload_n 2 dX11_verdictWithoutStone_34 rfl rfl ?_
      refine ck_aload_n 0 dX11_verdictWithoutStone_35 rfl rfl ?_
      refine ck_getR clX11 9 rfl rfl (by decide) fl_X11_54 dX11_verdictWithoutStone_36 ?_
      refine ck_getRN clX7 4 rfl rfl (by decide) fl_X11_186 dX11_verdictWithoutStone_39 ?_
      refine ck_iload_n 2 dX11_verdictWithoutStone_42 rfl rfl ?_
      obtain ⟨b8, hq⟩ := hq
      refine ck_iald rfl rfl b8 dX11_verdictWithoutStone_43 ?_
      refine ck_callV (c_X10_measured (by simp) hq) rfl cal_X10_measured rfl ml_X11_275 vir_X10_measured rfl rfl (by decide) (Nat.le_of_ble_eq_true rfl) (Nat.le_of_ble_eq_true rfl) (by decide) (by decide) dX11_verdictWithoutStone_44 ?_
      rintro _ _ h9 ⟨r10, rfl, rfl, hq⟩
      exact ck_iret rfl rfl rfl rfl dX11_verdictWithoutStone_47 ⟨_, rfl, rfl, hq⟩
    · have hq := hq.2 c6
      refine ck_iconst (v := -1) dX11_verdictWithoutStone_16 (by decide) ?_
      exact ck_iret rfl rfl rfl rfl dX11_verdictWithoutStone_17 ⟨_, rfl, rfl, hq⟩
def wp_X11_force (x1 : Int32) (x2 : Int32) (h : ck_H) (Q : Int32 → ck_H → Prop) : Prop := (wp_X11_verdictWithoutStone x1 x2 h (fun r2 h1 => ((¬ r2 = (-1 : Int32) → Q (h1.1 74 3) h1) ∧ (r2 = (-1 : Int32) → Q (-1 : Int32) h1))))
set_option maxHeartbeats 4000000 in
set_option maxRecDepth 100000 in
theorem c_X11_force {gr : Bool} {x1 : Int32} {x2 : Int32} {h : ck_H} {Q : Int32 → ck_H → Prop} (hq : wp_X11_force x1 x2 h Q) : ck_M yX11_force cX11_force 3 (some .int) 7 0 0 gr ck_shX h [.ref 0, .int x1, .int x2] (ck_Qi ck_shX Q) := by
  refine ck_entry (lv := [(0, .ref 0), (1, .int x1), (2, .int x2)]) false (own := RX11) rfl (fun q => by cases q) (by decide) (Nat.le_of_ble_eq_true rfl) rfl ?_
  refine ck_aload_n 0 dX11_force_0 rfl rfl ?_
  refine ck_iload_n 1 dX11_force_1 rfl rfl ?_
  refine ck_iload_n 2 dX11_force_2 rfl rfl ?_
  refine ck_callV (c_X11_verdictWithoutStone hq) rfl cal_X11_verdictWithoutStone rfl ml_X11_195 vir_X11_verdictWithoutStone rfl rfl (by decide) (Nat.le_of_ble_eq_true rfl) (Nat.le_of_ble_eq_true rfl) (by decide) (by decide) dX11_force_3 ?_
  rintro _ _ h1 ⟨r2, rfl, rfl, hq⟩
  refine ck_iconst (v := -1) dX11_force_6 (by decide) ?_
  refine ck_icmp_ne (tgt := 14) dX11_force_7 (by decide) (fun c3 => ?_) (fun c3 => ?_)
  · have hq := hq.1 c3
    refine ck_aload_n 0 dX11_force_14 rfl rfl ?_
    refine ck_getR clX11 5 rfl rfl (by decide) fl_X11_70 dX11_force_15 ?_
    refine ck_getIN clX10 3 rfl rfl (by decide) fl_X11_199 dX11_force_18 ?_
    exact ck_iret rfl rfl rfl rfl dX11_force_21 ⟨_, rfl, rfl, hq⟩
  · have hq := hq.2 c3
    refine ck_iconst (v := -1) dX11_force_10 (by decide) ?_
    refine ck_goto (tgt := 21) dX11_force_11 (by decide) ?_
    exact ck_iret rfl rfl rfl rfl dX11_force_21 ⟨_, rfl, rfl, hq⟩
def wp_X11_slack (x1 : Int32) (x2 : Int32) (h : ck_H) (Q : Int32 → ck_H → Prop) : Prop := (wp_X11_verdictWithoutStone x1 x2 h (fun r2 h1 => ((¬ r2 = (-1 : Int32) → Q (h1.1 74 4) h1) ∧ (r2 = (-1 : Int32) → Q (-1 : Int32) h1))))
set_option maxHeartbeats 4000000 in
set_option maxRecDepth 100000 in
theorem c_X11_slack {gr : Bool} {x1 : Int32} {x2 : Int32} {h : ck_H} {Q : Int32 → ck_H → Prop} (hq : wp_X11_slack x1 x2 h Q) : ck_M yX11_slack cX11_slack 3 (some .int) 7 0 0 gr ck_shX h [.ref 0, .int x1, .int x2] (ck_Qi ck_shX Q) := by
  refine ck_entry (lv := [(0, .ref 0), (1, .int x1), (2, .int x2)]) false (own := RX11) rfl (fun q => by cases q) (by decide) (Nat.le_of_ble_eq_true rfl) rfl ?_
  refine ck_aload_n 0 dX11_slack_0 rfl rfl ?_
  refine ck_iload_n 1 dX11_slack_1 rfl rfl ?_
  refine ck_iload_n 2 dX11_slack_2 rfl rfl ?_
  refine ck_callV (c_X11_verdictWithoutStone hq) rfl cal_X11_verdictWithoutStone rfl ml_X11_195 vir_X11_verdictWithoutStone rfl rfl (by decide) (Nat.le_of_ble_eq_true rfl) (Nat.le_of_ble_eq_true rfl) (by decide) (by decide) dX11_slack_3 ?_
  rintro _ _ h1 ⟨r2, rfl, rfl, hq⟩
  refine ck_iconst (v := -1) dX11_slack_6 (by decide) ?_
  refine ck_icmp_ne (tgt := 14) dX11_slack_7 (by decide) (fun c3 => ?_) (fun c3 => ?_)
  · have hq := hq.1 c3
    refine ck_aload_n 0 dX11_slack_14 rfl rfl ?_
    refine ck_getR clX11 5 rfl rfl (by decide) fl_X11_70 dX11_slack_15 ?_
    refine ck_getIN clX10 4 rfl rfl (by decide) fl_X11_202 dX11_slack_18 ?_
    exact ck_iret rfl rfl rfl rfl dX11_slack_21 ⟨_, rfl, rfl, hq⟩
  · have hq := hq.2 c3
    refine ck_iconst (v := -1) dX11_slack_10 (by decide) ?_
    refine ck_goto (tgt := 21) dX11_slack_11 (by decide) ?_
    exact ck_iret rfl rfl rfl rfl dX11_slack_21 ⟨_, rfl, rfl, hq⟩
def wp_X11_verdict (x1 : Int32) (x2 : Int32) (h : ck_H) (Q : Int32 → ck_H → Prop) : Prop := (wp_X11_verdictWithoutStone x1 x2 h (fun r2 h1 => Q r2 h1))
set_option maxHeartbeats 4000000 in
set_option maxRecDepth 100000 in
theorem c_X11_verdict {gr : Bool} {x1 : Int32} {x2 : Int32} {h : ck_H} {Q : Int32 → ck_H → Prop} (hq : wp_X11_verdict x1 x2 h Q) : ck_M yX11_verdict cX11_verdict 3 (some .int) 7 0 0 gr ck_shX h [.ref 0, .int x1, .int x2] (ck_Qi ck_shX Q) := by
  refine ck_entry (lv := [(0, .ref 0), (1, .int x1), (2, .int x2)]) false (own := RX11) rfl (fun q => by cases q) (by decide) (Nat.le_of_ble_eq_true rfl) rfl ?_
  refine ck_aload_n 0 dX11_verdict_0 rfl rfl ?_
  refine ck_iload_n 1 dX11_verdict_1 rfl rfl ?_
  refine ck_iload_n 2 dX11_verdict_2 rfl rfl ?_
  refine ck_callV (c_X11_verdictWithoutStone hq) rfl cal_X11_verdictWithoutStone rfl ml_X11_195 vir_X11_verdictWithoutStone rfl rfl (by decide) (Nat.le_of_ble_eq_true rfl) (Nat.le_of_ble_eq_true rfl) (by decide) (by decide) dX11_verdict_3 ?_
  rintro _ _ h1 ⟨r2, rfl, rfl, hq⟩
  exact ck_iret rfl rfl rfl rfl dX11_verdict_6 ⟨_, rfl, rfl, hq⟩
def wp_X11_law (x1 : Int32) (x2 : Int32) (x3 : Int32) (h : ck_H) (Q : Int64 → ck_H → Prop) : Prop := ((x1 < 0 → Q (-9223372036854775808 : Int64) h) ∧ (¬ x1 < 0 → (((3 : Int32) ≤ x1 → Q (-9223372036854775808 : Int64) h) ∧ (¬ (3 : Int32) ≤ x1 → (wp_X11_verdictWithoutStone x2 x3 h (fun r4 h3 => ((¬ r4 = (-1 : Int32) → (wp_X4_worked x1 h3 (fun r7 h6 => Q r7 h6))) ∧ (r4 = (-1 : Int32) → Q (-9223372036854775808 : Int64) h3))))))))
set_option maxHeartbeats 4000000 in
set_option maxRecDepth 100000 in
theorem c_X11_law {gr : Bool} {x1 : Int32} {x2 : Int32} {x3 : Int32} {h : ck_H} {Q : Int64 → ck_H → Prop} (hq : wp_X11_law x1 x2 x3 h Q) : ck_M yX11_law cX11_law 4 (some .long) 7 0 0 gr ck_shX h [.ref 0, .int x1, .int x2, .int x3] (ck_Ql ck_shX Q) := by
  refine ck_entry (lv := [(0, .ref 0), (1, .int x1), (2, .int x2), (3, .int x3)]) false (own := RX11) rfl (fun q => by cases q) (by decide) (Nat.le_of_ble_eq_true rfl) rfl ?_
  refine ck_iload_n 1 dX11_law_0 rfl rfl ?_
  refine ck_if_lt (tgt := 19) dX11_law_1 (by decide) (fun c1 => ?_) (fun c1 => ?_)
  · have hq := hq.1 c1
    refine ck_ldc2 con_X11_205 dX11_law_19 ?_
    exact ck_lret rfl rfl rfl dX11_law_22 ⟨_, rfl, rfl, hq⟩
  · have hq := hq.2 c1
    refine ck_iload_n 1 dX11_law_4 rfl rfl ?_
    refine ck_iconst (v := 3) dX11_law_5 (by decide) ?_
    refine ck_icmp_ge (tgt := 19) dX11_law_6 (by decide) (fun c2 => ?_) (fun c2 => ?_)
    · have hq := hq.1 c2
      refine ck_ldc2 con_X11_205 dX11_law_19 ?_
      exact ck_lret rfl rfl rfl dX11_law_22 ⟨_, rfl, rfl, hq⟩
    · have hq := hq.2 c2
      refine ck_aload_n 0 dX11_law_9 rfl rfl ?_
      refine ck_iload_n 2 dX11_law_10 rfl rfl ?_
      refine ck_iload_n 3 dX11_law_11 rfl rfl ?_
      refine ck_callV (c_X11_verdictWithoutStone hq) rfl cal_X11_verdictWithoutStone rfl ml_X11_195 vir_X11_verdictWithoutStone rfl rfl (by decide) (Nat.le_of_ble_eq_true rfl) (Nat.le_of_ble_eq_true rfl) (by decide) (by decide) dX11_law_12 ?_
      rintro _ _ h3 ⟨r4, rfl, rfl, hq⟩
      refine ck_iconst (v := -1) dX11_law_15 (by decide) ?_
      refine ck_icmp_ne (tgt := 23) dX11_law_16 (by decide) (fun c5 => ?_) (fun c5 => ?_)
      · have hq := hq.1 c5
        refine ck_aload_n 0 dX11_law_23 rfl rfl ?_
        refine ck_getR clX11 9 rfl rfl (by decide) fl_X11_54 dX11_law_24 ?_
        refine ck_getRN clX7 11 rfl rfl (by decide) fl_X11_207 dX11_law_27 ?_
        refine ck_iload_n 1 dX11_law_30 rfl rfl ?_
        refine ck_aload_n 0 dX11_law_31 rfl rfl ?_
        refine ck_getR clX11 5 rfl rfl (by decide) fl_X11_70 dX11_law_32 ?_
        refine ck_getRN clX10 0 rfl rfl (by decide) fl_X11_211 dX11_law_35 ?_
        refine ck_callV (c_X4_worked hq) rfl cal_X4_worked rfl ml_X11_215 vir_X4_worked rfl rfl (by decide) (Nat.le_of_ble_eq_true rfl) (Nat.le_of_ble_eq_true rfl) (by decide) (by decide) dX11_law_38 ?_
        rintro _ _ h6 ⟨r7, rfl, rfl, hq⟩
        exact ck_lret rfl rfl rfl dX11_law_41 ⟨_, rfl, rfl, hq⟩
      · have hq := hq.2 c5
        refine ck_ldc2 con_X11_205 dX11_law_19 ?_
        exact ck_lret rfl rfl rfl dX11_law_22 ⟨_, rfl, rfl, hq⟩
def wp_X11_isPending (x1 : Int32) (h : ck_H) (Q : Int32 → ck_H → Prop) : Prop := (wp_X11_isSuit x1 h (fun r2 h1 => ((r2 = 0 → Q (0 : Int32) h1) ∧ (¬ r2 = 0 → (vp_in x1 10 ∧ ((¬ (h1.1 11 x1.toNatClampNeg) = (-1 : Int32) → Q (0 : Int32) h1) ∧ ((h1.1 11 x1.toNatClampNeg) = (-1 : Int32) → Q (1 : Int32) h1)))))))
set_option maxHeartbeats 4000000 in
set_option maxRecDepth 100000 in
theorem c_X11_isPending {gr : Bool} {x1 : Int32} {h : ck_H} {Q : Int32 → ck_H → Prop} (hq : wp_X11_isPending x1 h Q) : ck_M yX11_isPending cX11_isPending 2 (some .boolean) 3 0 0 gr ck_shX h [.ref 0, .int x1] (ck_Qi ck_shX Q) := by
  refine ck_entry (lv := [(0, .ref 0), (1, .int x1)]) false (own := RX11) rfl (fun q => by cases q) (by decide) (Nat.le_of_ble_eq_true rfl) rfl ?_
  refine ck_aload_n 0 dX11_isPending_0 rfl rfl ?_
  refine ck_iload_n 1 dX11_isPending_1 rfl rfl ?_
  refine ck_callV (c_X11_isSuit hq) rfl cal_X11_isSuit rfl ml_X11_132 vir_X11_isSuit rfl rfl (by decide) (Nat.le_of_ble_eq_true rfl) (Nat.le_of_ble_eq_true rfl) (by decide) (by decide) dX11_isPending_2 ?_
  rintro _ _ h1 ⟨r2, rfl, rfl, hq⟩
  refine ck_if_eq (tgt := 25) dX11_isPending_5 (by decide) (fun c3 => ?_) (fun c3 => ?_)
  · have hq := hq.1 c3
    refine ck_iconst (v := 0) dX11_isPending_25 (by decide) ?_
    exact ck_iret rfl (by decide) rfl rfl dX11_isPending_26 ⟨_, rfl, rfl, hq⟩
  · have hq := hq.2 c3
    refine ck_aload_n 0 dX11_isPending_8 rfl rfl ?_
    refine ck_getR clX11 2 rfl rfl (by decide) fl_X11_27 dX11_isPending_9 ?_
    refine ck_getRN clX1 3 rfl rfl (by decide) fl_X11_156 dX11_isPending_12 ?_
    refine ck_iload_n 1 dX11_isPending_15 rfl rfl ?_
    obtain ⟨b4, hq⟩ := hq
    refine ck_iald rfl rfl b4 dX11_isPending_16 ?_
    refine ck_iconst (v := -1) dX11_isPending_17 (by decide) ?_
    refine ck_icmp_ne (tgt := 25) dX11_isPending_18 (by decide) (fun c5 => ?_) (fun c5 => ?_)
    · have hq := hq.1 c5
      refine ck_iconst (v := 0) dX11_isPending_25 (by decide) ?_
      exact ck_iret rfl (by decide) rfl rfl dX11_isPending_26 ⟨_, rfl, rfl, hq⟩
    · have hq := hq.2 c5
      refine ck_iconst (v := 1) dX11_isPending_21 (by decide) ?_
      refine ck_goto (tgt := 26) dX11_isPending_22 (by decide) ?_
      exact ck_iret rfl (by decide) rfl rfl dX11_isPending_26 ⟨_, rfl, rfl, hq⟩
def wp_X11_give (x1 : Int32) (x2 : Int32) (h : ck_H) (Q : Int32 → ck_H → Prop) : Prop := (wp_X11_isPending x1 h (fun r2 h1 => ((r2 = 0 → Q (0 : Int32) h1) ∧ (¬ r2 = 0 → (wp_X11_isJudge x2 h1 (fun r5 h4 => ((r5 = 0 → Q (0 : Int32) h4) ∧ (¬ r5 = 0 → (vp_in x1 10 ∧ ((¬ (h4.1 9 x1.toNatClampNeg) = x2 → (vp_in x1 10 ∧ (wp_X2_add (0 : Int32) x1 (h4.1 9 x1.toNatClampNeg) h4 (fun h10 => (vp_in x1 10 ∧ (∀ h12, h12 = ck_sI h10 9 x1.toNatClampNeg x2 → Q (1 : Int32) h12)))))) ∧ ((h4.1 9 x1.toNatClampNeg) = x2 → Q (0 : Int32) h4)))))))))))
set_option maxHeartbeats 4000000 in
set_option maxRecDepth 100000 in
theorem c_X11_give {gr : Bool} {x1 : Int32} {x2 : Int32} {h : ck_H} {Q : Int32 → ck_H → Prop} (hq : wp_X11_give x1 x2 h Q) : ck_M yX11_give cX11_give 3 (some .boolean) 4 0 0 gr ck_shX h [.ref 0, .int x1, .int x2] (ck_Qi ck_shX Q) := by
  refine ck_entry (lv := [(0, .ref 0), (1, .int x1), (2, .int x2)]) false (own := RX11) rfl (fun q => by cases q) (by decide) (Nat.le_of_ble_eq_true rfl) rfl ?_
  refine ck_aload_n 0 dX11_give_0 rfl rfl ?_
  refine ck_iload_n 1 dX11_give_1 rfl rfl ?_
  refine ck_callV (c_X11_isPending hq) rfl cal_X11_isPending rfl ml_X11_221 vir_X11_isPending rfl rfl (by decide) (Nat.le_of_ble_eq_true rfl) (Nat.le_of_ble_eq_true rfl) (by decide) (by decide) dX11_give_2 ?_
  rintro _ _ h1 ⟨r2, rfl, rfl, hq⟩
  refine ck_if_eq (tgt := 29) dX11_give_5 (by decide) (fun c3 => ?_) (fun c3 => ?_)
  · have hq := hq.1 c3
    refine ck_iconst (v := 0) dX11_give_29 (by decide) ?_
    exact ck_iret rfl (by decide) rfl rfl dX11_give_30 ⟨_, rfl, rfl, hq⟩
  · have hq := hq.2 c3
    refine ck_aload_n 0 dX11_give_8 rfl rfl ?_
    refine ck_iload_n 2 dX11_give_9 rfl rfl ?_
    refine ck_callV (c_X11_isJudge hq) rfl cal_X11_isJudge rfl ml_X11_168 vir_X11_isJudge rfl rfl (by decide) (Nat.le_of_ble_eq_true rfl) (Nat.le_of_ble_eq_true rfl) (by decide) (by decide) dX11_give_10 ?_
    rintro _ _ h4 ⟨r5, rfl, rfl, hq⟩
    refine ck_if_eq (tgt := 29) dX11_give_13 (by decide) (fun c6 => ?_) (fun c6 => ?_)
    · have hq := hq.1 c6
      refine ck_iconst (v := 0) dX11_give_29 (by decide) ?_
      exact ck_iret rfl (by decide) rfl rfl dX11_give_30 ⟨_, rfl, rfl, hq⟩
    · have hq := hq.2 c6
      refine ck_aload_n 0 dX11_give_16 rfl rfl ?_
      refine ck_getR clX11 2 rfl rfl (by decide) fl_X11_27 dX11_give_17 ?_
      refine ck_getRN clX1 1 rfl rfl (by decide) fl_X11_143 dX11_give_20 ?_
      refine ck_iload_n 1 dX11_give_23 rfl rfl ?_
      obtain ⟨b7, hq⟩ := hq
      refine ck_iald rfl rfl b7 dX11_give_24 ?_
      refine ck_iload_n 2 dX11_give_25 rfl rfl ?_
      refine ck_icmp_ne (tgt := 31) dX11_give_26 (by decide) (fun c8 => ?_) (fun c8 => ?_)
      · have hq := hq.1 c8
        refine ck_aload_n 0 dX11_give_31 rfl rfl ?_
        refine ck_getR clX11 8 rfl rfl (by decide) fl_X11_47 dX11_give_32 ?_
        refine ck_iconst (v := 0) dX11_give_35 (by decide) ?_
        refine ck_iload_n 1 dX11_give_36 rfl rfl ?_
        refine ck_aload_n 0 dX11_give_37 rfl rfl ?_
        refine ck_getR clX11 2 rfl rfl (by decide) fl_X11_27 dX11_give_38 ?_
        refine ck_getRN clX1 1 rfl rfl (by decide) fl_X11_143 dX11_give_41 ?_
        refine ck_iload_n 1 dX11_give_44 rfl rfl ?_
        obtain ⟨b9, hq⟩ := hq
        refine ck_iald rfl rfl b9 dX11_give_45 ?_
        refine ck_callV (c_X2_add hq) rfl cal_X2_add rfl ml_X11_224 vir_X2_add rfl rfl (by decide) (Nat.le_of_ble_eq_true rfl) (Nat.le_of_ble_eq_true rfl) (by decide) (by decide) dX11_give_46 ?_
        rintro _ _ h10 ⟨rfl, rfl, hq⟩
        refine ck_aload_n 0 dX11_give_49 rfl rfl ?_
        refine ck_getR clX11 2 rfl rfl (by decide) fl_X11_27 dX11_give_50 ?_
        refine ck_getRN clX1 1 rfl rfl (by decide) fl_X11_143 dX11_give_53 ?_
        refine ck_iload_n 1 dX11_give_56 rfl rfl ?_
        refine ck_iload_n 2 dX11_give_57 rfl rfl ?_
        obtain ⟨b11, hq⟩ := hq
        refine ck_iast rfl rfl b11 dX11_give_58 ?_
        refine ck_nmH (fun h12 eh12 => ?_)
        have hq := hq h12 eh12
        refine ck_iconst (v := 1) dX11_give_59 (by decide) ?_
        exact ck_iret rfl (by decide) rfl rfl dX11_give_60 ⟨_, rfl, rfl, hq⟩
      · have hq := hq.2 c8
        refine ck_iconst (v := 0) dX11_give_29 (by decide) ?_
        exact ck_iret rfl (by decide) rfl rfl dX11_give_30 ⟨_, rfl, rfl, hq⟩
def wp_X11_stone (x1 : Int32) (x2 : Int32) (h : ck_H) (Q : Int32 → ck_H → Prop) : Prop := (wp_X11_isPending x1 h (fun r2 h1 => ((r2 = 0 → Q (0 : Int32) h1) ∧ (¬ r2 = 0 → (wp_X1_hasStone 7 x1 h1 (fun r5 h4 => ((¬ r5 = x2 → (wp_X2_add (1 : Int32) x1 (h4.1 7 4) h4 (fun h7 => (∀ h8, h8 = ck_sI h7 7 4 ((h7.1 7 4) ^^^ ((1 : Int32) <<< (x1 &&& 31))) → Q (1 : Int32) h8)))) ∧ (r5 = x2 → Q (0 : Int32) h4))))))))
set_option maxHeartbeats 4000000 in
set_option maxRecDepth 100000 in
theorem c_X11_stone {gr : Bool} {x1 : Int32} {x2 : Int32} {h : ck_H} {Q : Int32 → ck_H → Prop} (hq : wp_X11_stone x1 x2 h Q) : ck_M yX11_stone cX11_stone 3 (some .boolean) 4 0 0 gr ck_shX h [.ref 0, .int x1, .int x2] (ck_Qi ck_shX Q) := by
  refine ck_entry (lv := [(0, .ref 0), (1, .int x1), (2, .int x2)]) false (own := RX11) rfl (fun q => by cases q) (by decide) (Nat.le_of_ble_eq_true rfl) rfl ?_
  refine ck_aload_n 0 dX11_stone_0 rfl rfl ?_
  refine ck_iload_n 1 dX11_stone_1 rfl rfl ?_
  refine ck_callV (c_X11_isPending hq) rfl cal_X11_isPending rfl ml_X11_221 vir_X11_isPending rfl rfl (by decide) (Nat.le_of_ble_eq_true rfl) (Nat.le_of_ble_eq_true rfl) (by decide) (by decide) dX11_stone_2 ?_
  rintro _ _ h1 ⟨r2, rfl, rfl, hq⟩
  refine ck_if_eq (tgt := 20) dX11_stone_5 (by decide) (fun c3 => ?_) (fun c3 => ?_)
  · have hq := hq.1 c3
    refine ck_iconst (v := 0) dX11_stone_20 (by decide) ?_
    exact ck_iret rfl (by decide) rfl rfl dX11_stone_21 ⟨_, rfl, rfl, hq⟩
  · have hq := hq.2 c3
    refine ck_aload_n 0 dX11_stone_8 rfl rfl ?_
    refine ck_getR clX11 2 rfl rfl (by decide) fl_X11_27 dX11_stone_9 ?_
    refine ck_iload_n 1 dX11_stone_12 rfl rfl ?_
    refine ck_callV (c_X1_hasStone (by simp) hq) rfl cal_X1_hasStone rfl ml_X11_153 vir_X1_hasStone rfl rfl (by decide) (Nat.le_of_ble_eq_true rfl) (Nat.le_of_ble_eq_true rfl) (by decide) (by decide) dX11_stone_13 ?_
    rintro _ _ h4 ⟨r5, rfl, rfl, hq⟩
    refine ck_iload_n 2 dX11_stone_16 rfl rfl ?_
    refine ck_icmp_ne (tgt := 22) dX11_stone_17 (by decide) (fun c6 => ?_) (fun c6 => ?_)
    · have hq := hq.1 c6
      refine ck_aload_n 0 dX11_stone_22 rfl rfl ?_
      refine ck_getR clX11 8 rfl rfl (by decide) fl_X11_47 dX11_stone_23 ?_
      refine ck_iconst (v := 1) dX11_stone_26 (by decide) ?_
      refine ck_iload_n 1 dX11_stone_27 rfl rfl ?_
      refine ck_aload_n 0 dX11_stone_28 rfl rfl ?_
      refine ck_getR clX11 2 rfl rfl (by decide) fl_X11_27 dX11_stone_29 ?_
      refine ck_getIN clX1 4 rfl rfl (by decide) fl_X11_228 dX11_stone_32 ?_
      refine ck_callV (c_X2_add hq) rfl cal_X2_add rfl ml_X11_224 vir_X2_add rfl rfl (by decide) (Nat.le_of_ble_eq_true rfl) (Nat.le_of_ble_eq_true rfl) (by decide) (by decide) dX11_stone_35 ?_
      rintro _ _ h7 ⟨rfl, rfl, hq⟩
      refine ck_aload_n 0 dX11_stone_38 rfl rfl ?_
      refine ck_getR clX11 2 rfl rfl (by decide) fl_X11_27 dX11_stone_39 ?_
      refine ck_dup dX11_stone_42 rfl ?_
      refine ck_getIN clX1 4 rfl rfl (by decide) fl_X11_228 dX11_stone_43 ?_
      refine ck_iconst (v := 1) dX11_stone_46 (by decide) ?_
      refine ck_iload_n 1 dX11_stone_47 rfl rfl ?_
      refine ck_ishl dX11_stone_48 ?_
      refine ck_ixor dX11_stone_49 ?_
      refine ck_putIN clX1 4 rfl rfl (by decide) fl_X11_228 rfl rfl rfl dX11_stone_50 ?_
      refine ck_nmH (fun h8 eh8 => ?_)
      have hq := hq h8 eh8
      refine ck_iconst (v := 1) dX11_stone_53 (by decide) ?_
      exact ck_iret rfl (by decide) rfl rfl dX11_stone_54 ⟨_, rfl, rfl, hq⟩
    · have hq := hq.2 c6
      refine ck_iconst (v := 0) dX11_stone_20 (by decide) ?_
      exact ck_iret rfl (by decide) rfl rfl dX11_stone_21 ⟨_, rfl, rfl, hq⟩
def wp_X11_put (x1 : Int32) (x2 : Int32) (h : ck_H) (Q : Int32 → ck_H → Prop) : Prop := (wp_X11_isPending x1 h (fun r2 h1 => ((r2 = 0 → Q (0 : Int32) h1) ∧ (¬ r2 = 0 → ((x2 < (h1.1 7 5) → Q (0 : Int32) h1) ∧ (¬ x2 < (h1.1 7 5) → (((9999 : Int32) < x2 → Q (0 : Int32) h1) ∧ (¬ (9999 : Int32) < x2 → (vp_in x1 10 ∧ ((¬ (h1.1 10 x1.toNatClampNeg) = x2 → (vp_in x1 10 ∧ (wp_X2_add (2 : Int32) x1 (h1.1 10 x1.toNatClampNeg) h1 (fun h9 => (vp_in x1 10 ∧ (∀ h11, h11 = ck_sI h9 10 x1.toNatClampNeg x2 → Q (1 : Int32) h11)))))) ∧ ((h1.1 10 x1.toNatClampNeg) = x2 → Q (0 : Int32) h1)))))))))))
set_option maxHeartbeats 4000000 in
set_option maxRecDepth 100000 in
theorem c_X11_put {gr : Bool} {x1 : Int32} {x2 : Int32} {h : ck_H} {Q : Int32 → ck_H → Prop} (hq : wp_X11_put x1 x2 h Q) : ck_M yX11_put cX11_put 3 (some .boolean) 4 0 0 gr ck_shX h [.ref 0, .int x1, .int x2] (ck_Qi ck_shX Q) := by
  refine ck_entry (lv := [(0, .ref 0), (1, .int x1), (2, .int x2)]) false (own := RX11) rfl (fun q => by cases q) (by decide) (Nat.le_of_ble_eq_true rfl) rfl ?_
  refine ck_aload_n 0 dX11_put_0 rfl rfl ?_
  refine ck_iload_n 1 dX11_put_1 rfl rfl ?_
  refine ck_callV (c_X11_isPending hq) rfl cal_X11_isPending rfl ml_X11_221 vir_X11_isPending rfl rfl (by decide) (Nat.le_of_ble_eq_true rfl) (Nat.le_of_ble_eq_true rfl) (by decide) (by decide) dX11_put_2 ?_
  rintro _ _ h1 ⟨r2, rfl, rfl, hq⟩
  refine ck_if_eq (tgt := 39) dX11_put_5 (by decide) (fun c3 => ?_) (fun c3 => ?_)
  · have hq := hq.1 c3
    refine ck_iconst (v := 0) dX11_put_39 (by decide) ?_
    exact ck_iret rfl (by decide) rfl rfl dX11_put_40 ⟨_, rfl, rfl, hq⟩
  · have hq := hq.2 c3
    refine ck_iload_n 2 dX11_put_8 rfl rfl ?_
    refine ck_aload_n 0 dX11_put_9 rfl rfl ?_
    refine ck_getR clX11 2 rfl rfl (by decide) fl_X11_27 dX11_put_10 ?_
    refine ck_getIN clX1 5 rfl rfl (by decide) fl_X11_231 dX11_put_13 ?_
    refine ck_icmp_lt (tgt := 39) dX11_put_16 (by decide) (fun c4 => ?_) (fun c4 => ?_)
    · have hq := hq.1 c4
      refine ck_iconst (v := 0) dX11_put_39 (by decide) ?_
      exact ck_iret rfl (by decide) rfl rfl dX11_put_40 ⟨_, rfl, rfl, hq⟩
    · have hq := hq.2 c4
      refine ck_iload_n 2 dX11_put_19 rfl rfl ?_
      refine ck_sipush (v := 9999) dX11_put_20 (by decide) ?_
      refine ck_icmp_gt (tgt := 39) dX11_put_23 (by decide) (fun c5 => ?_) (fun c5 => ?_)
      · have hq := hq.1 c5
        refine ck_iconst (v := 0) dX11_put_39 (by decide) ?_
        exact ck_iret rfl (by decide) rfl rfl dX11_put_40 ⟨_, rfl, rfl, hq⟩
      · have hq := hq.2 c5
        refine ck_aload_n 0 dX11_put_26 rfl rfl ?_
        refine ck_getR clX11 2 rfl rfl (by decide) fl_X11_27 dX11_put_27 ?_
        refine ck_getRN clX1 2 rfl rfl (by decide) fl_X11_150 dX11_put_30 ?_
        refine ck_iload_n 1 dX11_put_33 rfl rfl ?_
        obtain ⟨b6, hq⟩ := hq
        refine ck_iald rfl rfl b6 dX11_put_34 ?_
        refine ck_iload_n 2 dX11_put_35 rfl rfl ?_
        refine ck_icmp_ne (tgt := 41) dX11_put_36 (by decide) (fun c7 => ?_) (fun c7 => ?_)
        · have hq := hq.1 c7
          refine ck_aload_n 0 dX11_put_41 rfl rfl ?_
          refine ck_getR clX11 8 rfl rfl (by decide) fl_X11_47 dX11_put_42 ?_
          refine ck_iconst (v := 2) dX11_put_45 (by decide) ?_
          refine ck_iload_n 1 dX11_put_46 rfl rfl ?_
          refine ck_aload_n 0 dX11_put_47 rfl rfl ?_
          refine ck_getR clX11 2 rfl rfl (by decide) fl_X11_27 dX11_put_48 ?_
          refine ck_getRN clX1 2 rfl rfl (by decide) fl_X11_150 dX11_put_51 ?_
          refine ck_iload_n 1 dX11_put_54 rfl rfl ?_
          obtain ⟨b8, hq⟩ := hq
          refine ck_iald rfl rfl b8 dX11_put_55 ?_
          refine ck_callV (c_X2_add hq) rfl cal_X2_add rfl ml_X11_224 vir_X2_add rfl rfl (by decide) (Nat.le_of_ble_eq_true rfl) (Nat.le_of_ble_eq_true rfl) (by decide) (by decide) dX11_put_56 ?_
          rintro _ _ h9 ⟨rfl, rfl, hq⟩
          refine ck_aload_n 0 dX11_put_59 rfl rfl ?_
          refine ck_getR clX11 2 rfl rfl (by decide) fl_X11_27 dX11_put_60 ?_
          refine ck_getRN clX1 2 rfl rfl (by decide) fl_X11_150 dX11_put_63 ?_
          refine ck_iload_n 1 dX11_put_66 rfl rfl ?_
          refine ck_iload_n 2 dX11_put_67 rfl rfl ?_
          obtain ⟨b10, hq⟩ := hq
          refine ck_iast rfl rfl b10 dX11_put_68 ?_
          refine ck_nmH (fun h11 eh11 => ?_)
          have hq := hq h11 eh11
          refine ck_iconst (v := 1) dX11_put_69 (by decide) ?_
          exact ck_iret rfl (by decide) rfl rfl dX11_put_70 ⟨_, rfl, rfl, hq⟩
        · have hq := hq.2 c7
          refine ck_iconst (v := 0) dX11_put_39 (by decide) ?_
          exact ck_iret rfl (by decide) rfl rfl dX11_put_40 ⟨_, rfl, rfl, hq⟩
def wp_X11_oil (x1 : Int32) (h : ck_H) (Q : Int32 → ck_H → Prop) : Prop := ((x1 < (1 : Int32) → Q (-1 : Int32) h) ∧ (¬ x1 < (1 : Int32) → (((99 : Int32) ≤ x1 → Q (-1 : Int32) h) ∧ (¬ (99 : Int32) ≤ x1 → ((((h.1 7 6) + x1) ≤ (99 : Int32) → (wp_X2_add (3 : Int32) (0 : Int32) (h.1 7 6) h (fun h4 => (∀ h5, h5 = ck_sI h4 7 6 ((h4.1 7 6) + x1) → Q (h5.1 7 6) h5)))) ∧ (¬ ((h.1 7 6) + x1) ≤ (99 : Int32) → Q (-1 : Int32) h))))))
set_option maxHeartbeats 4000000 in
set_option maxRecDepth 100000 in
theorem c_X11_oil {gr : Bool} {x1 : Int32} {h : ck_H} {Q : Int32 → ck_H → Prop} (hq : wp_X11_oil x1 h Q) : ck_M yX11_oil cX11_oil 2 (some .int) 4 0 0 gr ck_shX h [.ref 0, .int x1] (ck_Qi ck_shX Q) := by
  refine ck_entry (lv := [(0, .ref 0), (1, .int x1)]) false (own := RX11) rfl (fun q => by cases q) (by decide) (Nat.le_of_ble_eq_true rfl) rfl ?_
  refine ck_iload_n 1 dX11_oil_0 rfl rfl ?_
  refine ck_iconst (v := 1) dX11_oil_1 (by decide) ?_
  refine ck_icmp_lt (tgt := 25) dX11_oil_2 (by decide) (fun c1 => ?_) (fun c1 => ?_)
  · have hq := hq.1 c1
    refine ck_iconst (v := -1) dX11_oil_25 (by decide) ?_
    exact ck_iret rfl rfl rfl rfl dX11_oil_26 ⟨_, rfl, rfl, hq⟩
  · have hq := hq.2 c1
    refine ck_iload_n 1 dX11_oil_5 rfl rfl ?_
    refine ck_bipush (v := 99) dX11_oil_6 (by decide) ?_
    refine ck_icmp_ge (tgt := 25) dX11_oil_8 (by decide) (fun c2 => ?_) (fun c2 => ?_)
    · have hq := hq.1 c2
      refine ck_iconst (v := -1) dX11_oil_25 (by decide) ?_
      exact ck_iret rfl rfl rfl rfl dX11_oil_26 ⟨_, rfl, rfl, hq⟩
    · have hq := hq.2 c2
      refine ck_aload_n 0 dX11_oil_11 rfl rfl ?_
      refine ck_getR clX11 2 rfl rfl (by decide) fl_X11_27 dX11_oil_12 ?_
      refine ck_getIN clX1 6 rfl rfl (by decide) fl_X11_234 dX11_oil_15 ?_
      refine ck_iload_n 1 dX11_oil_18 rfl rfl ?_
      refine ck_iadd dX11_oil_19 ?_
      refine ck_bipush (v := 99) dX11_oil_20 (by decide) ?_
      refine ck_icmp_le (tgt := 27) dX11_oil_22 (by decide) (fun c3 => ?_) (fun c3 => ?_)
      · have hq := hq.1 c3
        refine ck_aload_n 0 dX11_oil_27 rfl rfl ?_
        refine ck_getR clX11 8 rfl rfl (by decide) fl_X11_47 dX11_oil_28 ?_
        refine ck_iconst (v := 3) dX11_oil_31 (by decide) ?_
        refine ck_iconst (v := 0) dX11_oil_32 (by decide) ?_
        refine ck_aload_n 0 dX11_oil_33 rfl rfl ?_
        refine ck_getR clX11 2 rfl rfl (by decide) fl_X11_27 dX11_oil_34 ?_
        refine ck_getIN clX1 6 rfl rfl (by decide) fl_X11_234 dX11_oil_37 ?_
        refine ck_callV (c_X2_add hq) rfl cal_X2_add rfl ml_X11_224 vir_X2_add rfl rfl (by decide) (Nat.le_of_ble_eq_true rfl) (Nat.le_of_ble_eq_true rfl) (by decide) (by decide) dX11_oil_40 ?_
        rintro _ _ h4 ⟨rfl, rfl, hq⟩
        refine ck_aload_n 0 dX11_oil_43 rfl rfl ?_
        refine ck_getR clX11 2 rfl rfl (by decide) fl_X11_27 dX11_oil_44 ?_
        refine ck_dup dX11_oil_47 rfl ?_
        refine ck_getIN clX1 6 rfl rfl (by decide) fl_X11_234 dX11_oil_48 ?_
        refine ck_iload_n 1 dX11_oil_51 rfl rfl ?_
        refine ck_iadd dX11_oil_52 ?_
        refine ck_putIN clX1 6 rfl rfl (by decide) fl_X11_234 rfl rfl rfl dX11_oil_53 ?_
        refine ck_nmH (fun h5 eh5 => ?_)
        have hq := hq h5 eh5
        refine ck_aload_n 0 dX11_oil_56 rfl rfl ?_
        refine ck_getR clX11 2 rfl rfl (by decide) fl_X11_27 dX11_oil_57 ?_
        refine ck_getIN clX1 6 rfl rfl (by decide) fl_X11_234 dX11_oil_60 ?_
        exact ck_iret rfl rfl rfl rfl dX11_oil_63 ⟨_, rfl, rfl, hq⟩
      · have hq := hq.2 c3
        refine ck_iconst (v := -1) dX11_oil_25 (by decide) ?_
        exact ck_iret rfl rfl rfl rfl dX11_oil_26 ⟨_, rfl, rfl, hq⟩
def wp_X11_go_38 (Q : Int32 → ck_H → Prop) (x1 : Int32) (h : ck_H) : Prop := (wp_X10_asTheyAre h (fun h5 => (wp_X10_pass 7 x1 h5 (fun h6 => Q (h6.1 7 5) h6))))
def wp_X11_go (x1 : Int32) (h : ck_H) (Q : Int32 → ck_H → Prop) : Prop := ((x1 < 0 → Q (-1 : Int32) h) ∧ (¬ x1 < 0 → (((99 : Int32) < x1 → Q (-1 : Int32) h) ∧ (¬ (99 : Int32) < x1 → ((((h.1 7 5) + x1) ≤ (9900 : Int32) → ((x1 ≤ 0 → wp_X11_go_38 Q x1 h) ∧ (¬ x1 ≤ 0 → (wp_X2_clear h (fun h7 => wp_X11_go_38 Q x1 h7))))) ∧ (¬ ((h.1 7 5) + x1) ≤ (9900 : Int32) → Q (-1 : Int32) h))))))
set_option maxHeartbeats 4000000 in
set_option maxRecDepth 100000 in
theorem cp_X11_go_38 {gr : Bool} {Q : Int32 → ck_H → Prop} : ∀ (x1 : Int32) (h : ck_H), wp_X11_go_38 Q x1 h → ck_W cX11_go 2 RX11 (some .int) 8 0 0 false gr (ck_Qi ck_shX Q) ck_shX h 0 0 38 [(0, .ref 0), (1, .int x1)] [] := by
  intro x1 h hq
  refine ck_aload_n 0 dX11_go_38 rfl rfl ?_
  refine ck_getR clX11 5 rfl rfl (by decide) fl_X11_70 dX11_go_39 ?_
  refine ck_callV (c_X10_asTheyAre hq) rfl cal_X10_asTheyAre rfl ml_X11_237 vir_X10_asTheyAre rfl rfl (by decide) (Nat.le_of_ble_eq_true rfl) (Nat.le_of_ble_eq_true rfl) (by decide) (by decide) dX11_go_42 ?_
  rintro _ _ h5 ⟨rfl, rfl, hq⟩
  refine ck_aload_n 0 dX11_go_45 rfl rfl ?_
  refine ck_getR clX11 5 rfl rfl (by decide) fl_X11_70 dX11_go_46 ?_
  refine ck_aload_n 0 dX11_go_49 rfl rfl ?_
  refine ck_getR clX11 2 rfl rfl (by decide) fl_X11_27 dX11_go_50 ?_
  refine ck_iload_n 1 dX11_go_53 rfl rfl ?_
  refine ck_callV (c_X10_pass (by simp) hq) rfl cal_X10_pass rfl ml_X11_240 vir_X10_pass rfl rfl (by decide) (Nat.le_of_ble_eq_true rfl) (Nat.le_of_ble_eq_true rfl) (by decide) (by decide) dX11_go_54 ?_
  rintro _ _ h6 ⟨rfl, rfl, hq⟩
  refine ck_aload_n 0 dX11_go_57 rfl rfl ?_
  refine ck_getR clX11 2 rfl rfl (by decide) fl_X11_27 dX11_go_58 ?_
  refine ck_getIN clX1 5 rfl rfl (by decide) fl_X11_231 dX11_go_61 ?_
  exact ck_iret rfl rfl rfl rfl dX11_go_64 ⟨_, rfl, rfl, hq⟩
set_option maxHeartbeats 4000000 in
set_option maxRecDepth 100000 in
theorem c_X11_go {gr : Bool} {x1 : Int32} {h : ck_H} {Q : Int32 → ck_H → Prop} (hq : wp_X11_go x1 h Q) : ck_M yX11_go cX11_go 2 (some .int) 8 0 0 gr ck_shX h [.ref 0, .int x1] (ck_Qi ck_shX Q) := by
  refine ck_entry (lv := [(0, .ref 0), (1, .int x1)]) false (own := RX11) rfl (fun q => by cases q) (by decide) (Nat.le_of_ble_eq_true rfl) rfl ?_
  refine ck_iload_n 1 dX11_go_0 rfl rfl ?_
  refine ck_if_lt (tgt := 25) dX11_go_1 (by decide) (fun c1 => ?_) (fun c1 => ?_)
  · have hq := hq.1 c1
    refine ck_iconst (v := -1) dX11_go_25 (by decide) ?_
    exact ck_iret rfl rfl rfl rfl dX11_go_26 ⟨_, rfl, rfl, hq⟩
  · have hq := hq.2 c1
    refine ck_iload_n 1 dX11_go_4 rfl rfl ?_
    refine ck_bipush (v := 99) dX11_go_5 (by decide) ?_
    refine ck_icmp_gt (tgt := 25) dX11_go_7 (by decide) (fun c2 => ?_) (fun c2 => ?_)
    · have hq := hq.1 c2
      refine ck_iconst (v := -1) dX11_go_25 (by decide) ?_
      exact ck_iret rfl rfl rfl rfl dX11_go_26 ⟨_, rfl, rfl, hq⟩
    · have hq := hq.2 c2
      refine ck_aload_n 0 dX11_go_10 rfl rfl ?_
      refine ck_getR clX11 2 rfl rfl (by decide) fl_X11_27 dX11_go_11 ?_
      refine ck_getIN clX1 5 rfl rfl (by decide) fl_X11_231 dX11_go_14 ?_
      refine ck_iload_n 1 dX11_go_17 rfl rfl ?_
      refine ck_iadd dX11_go_18 ?_
      refine ck_sipush (v := 9900) dX11_go_19 (by decide) ?_
      refine ck_icmp_le (tgt := 27) dX11_go_22 (by decide) (fun c3 => ?_) (fun c3 => ?_)
      · have hq := hq.1 c3
        refine ck_iload_n 1 dX11_go_27 rfl rfl ?_
        refine ck_if_le (tgt := 38) dX11_go_28 (by decide) (fun c4 => ?_) (fun c4 => ?_)
        · have hq := hq.1 c4
          exact cp_X11_go_38 _ _ hq
        · have hq := hq.2 c4
          refine ck_aload_n 0 dX11_go_31 rfl rfl ?_
          refine ck_getR clX11 8 rfl rfl (by decide) fl_X11_47 dX11_go_32 ?_
          refine ck_callV (c_X2_clear (by simp) hq) rfl cal_X2_clear rfl ml_X11_108 vir_X2_clear rfl rfl (by decide) (Nat.le_of_ble_eq_true rfl) (Nat.le_of_ble_eq_true rfl) (by decide) (by decide) dX11_go_35 ?_
          rintro _ _ h7 ⟨rfl, rfl, hq⟩
          exact cp_X11_go_38 _ _ hq
      · have hq := hq.2 c3
        refine ck_iconst (v := -1) dX11_go_25 (by decide) ?_
        exact ck_iret rfl rfl rfl rfl dX11_go_26 ⟨_, rfl, rfl, hq⟩
def wp_X11_verdictsOf_34 (Q : Int32 → ck_H → Prop) (o1 : Nat) (Kc : Int32 → Int32 → Int32 → ck_H → Prop) (x2 : Int32) (x3 : Int32) (x4 : Int32) (h : ck_H) : Prop := (∀ v4, v4 = x4 + 1 → Kc x2 x3 v4 h)
def wp_X11_verdictsOf_5 (Q : Int32 → ck_H → Prop) (o1 : Nat) : Nat → Int32 → Int32 → Int32 → ck_H → Prop
  | 0 => fun _ _ _ _ => False
  | n + 1 => fun x2 x3 x4 h => (((h.1 42 1) ≤ x4 → Q x3 h) ∧ (¬ (h.1 42 1) ≤ x4 → (vp_in x4 10 ∧ ((¬ (h.1 (o1 + 4) x4.toNatClampNeg) = x2 → wp_X11_verdictsOf_34 Q o1 (wp_X11_verdictsOf_5 Q o1 n) x2 x3 x4 h) ∧ ((h.1 (o1 + 4) x4.toNatClampNeg) = x2 → (∀ v7, v7 = x3 + 1 → wp_X11_verdictsOf_34 Q o1 (wp_X11_verdictsOf_5 Q o1 n) x2 v7 x4 h))))))
def wp_X11_verdictsOf (o1 : Nat) (x2 : Int32) (h : ck_H) (Q : Int32 → ck_H → Prop) : Prop := wp_X11_verdictsOf_5 Q o1 lpN x2 (0 : Int32) (0 : Int32) h
set_option maxHeartbeats 4000000 in
set_option maxRecDepth 100000 in
theorem cp_X11_verdictsOf_34 {gr : Bool} {Q : Int32 → ck_H → Prop} {Kc : Int32 → Int32 → Int32 → ck_H → Prop} {o1 : Nat} (hc : (o1 = 17) ∨ (o1 = 7)) (hKc : ∀ (x2 : Int32) (x3 : Int32) (x4 : Int32) (h : ck_H), Kc x2 x3 x4 h → ck_W cX11_verdictsOf 5 RX11 (some .int) 2 0 0 false gr (ck_Qi ck_shX Q) ck_shX h 0 0 5 [(0, .ref 0), (1, .ref o1), (2, .int x2), (3, .int x3), (4, .int x4)] []) : ∀ (x2 : Int32) (x3 : Int32) (x4 : Int32) (h : ck_H), wp_X11_verdictsOf_34 Q o1 Kc x2 x3 x4 h → ck_W cX11_verdictsOf 5 RX11 (some .int) 2 0 0 false gr (ck_Qi ck_shX Q) ck_shX h 0 0 34 [(0, .ref 0), (1, .ref o1), (2, .int x2), (3, .int x3), (4, .int x4)] [] := by
  rcases hc with rfl | rfl
  · intro x2 x3 x4 h hq
    obtain ⟨v5, ev5⟩ : ∃ z : Int32, z = x4 + 1 := ⟨_, rfl⟩
    have hq := hq v5 ev5
    refine ck_iinc (v := v5) (lv' := [(4, .int v5), (0, .ref 0), (1, .ref 17), (2, .int x2), (3, .int x3)]) 4 dX11_verdictsOf_34 rfl (by rw [ev5]; rfl) (by decide) rfl ?_
    refine ck_goto (tgt := 5) dX11_verdictsOf_37 (by decide) ?_
    refine ck_loc [1, 2, 3, 4, 0] rfl ?_
    exact hKc _ _ _ _ hq
  · intro x2 x3 x4 h hq
    obtain ⟨v6, ev6⟩ : ∃ z : Int32, z = x4 + 1 := ⟨_, rfl⟩
    have hq := hq v6 ev6
    refine ck_iinc (v := v6) (lv' := [(4, .int v6), (0, .ref 0), (1, .ref 7), (2, .int x2), (3, .int x3)]) 4 dX11_verdictsOf_34 rfl (by rw [ev6]; rfl) (by decide) rfl ?_
    refine ck_goto (tgt := 5) dX11_verdictsOf_37 (by decide) ?_
    refine ck_loc [1, 2, 3, 4, 0] rfl ?_
    exact hKc _ _ _ _ hq
set_option maxHeartbeats 4000000 in
set_option maxRecDepth 100000 in
theorem cp_X11_verdictsOf_5 {gr : Bool} {Q : Int32 → ck_H → Prop} {o1 : Nat} (hc : (o1 = 17) ∨ (o1 = 7)) : ∀ (n : Nat) (x2 : Int32) (x3 : Int32) (x4 : Int32) (h : ck_H), wp_X11_verdictsOf_5 Q o1 n x2 x3 x4 h → ck_W cX11_verdictsOf 5 RX11 (some .int) 2 0 0 false gr (ck_Qi ck_shX Q) ck_shX h 0 0 5 [(0, .ref 0), (1, .ref o1), (2, .int x2), (3, .int x3), (4, .int x4)] [] := by
  rcases hc with rfl | rfl
  · intro n
    induction n with
    | zero => intro x2 x3 x4 h hq; exact hq.elim
    | succ n hKc =>
      intro x2 x3 x4 h hq
      refine ck_iload 4 dX11_verdictsOf_5 rfl ?_
      refine ck_aload_n 0 dX11_verdictsOf_7 rfl rfl ?_
      refine ck_getR clX11 9 rfl rfl (by decide) fl_X11_54 dX11_verdictsOf_8 ?_
      refine ck_getRN clX7 7 rfl rfl (by decide) fl_X11_129 dX11_verdictsOf_11 ?_
      refine ck_getIN clX5 1 rfl rfl (by decide) fl_X11_257 dX11_verdictsOf_14 ?_
      refine ck_icmp_ge (tgt := 40) dX11_verdictsOf_17 (by decide) (fun c8 => ?_) (fun c8 => ?_)
      · have hq := hq.1 c8
        refine ck_iload_n 3 dX11_verdictsOf_40 rfl rfl ?_
        exact ck_iret rfl rfl rfl rfl dX11_verdictsOf_41 ⟨_, rfl, rfl, hq⟩
      · have hq := hq.2 c8
        refine ck_aload_n 1 dX11_verdictsOf_20 rfl rfl ?_
        refine ck_getRN clX1 3 rfl rfl (by decide) fl_X11_156 dX11_verdictsOf_21 ?_
        refine ck_iload 4 dX11_verdictsOf_24 rfl ?_
        obtain ⟨b9, hq⟩ := hq
        refine ck_iald rfl rfl b9 dX11_verdictsOf_26 ?_
        refine ck_iload_n 2 dX11_verdictsOf_27 rfl rfl ?_
        refine ck_icmp_ne (tgt := 34) dX11_verdictsOf_28 (by decide) (fun c10 => ?_) (fun c10 => ?_)
        · have hq := hq.1 c10
          exact cp_X11_verdictsOf_34 (by simp) hKc _ _ _ _ hq
        · have hq := hq.2 c10
          obtain ⟨v11, ev11⟩ : ∃ z : Int32, z = x3 + 1 := ⟨_, rfl⟩
          have hq := hq v11 ev11
          refine ck_iinc (v := v11) (lv' := [(3, .int v11), (0, .ref 0), (1, .ref 17), (2, .int x2), (4, .int x4)]) 3 dX11_verdictsOf_31 rfl (by rw [ev11]; rfl) (by decide) rfl ?_
          refine ck_loc [1, 2, 3, 0, 4] rfl ?_
          exact cp_X11_verdictsOf_34 (by simp) hKc _ _ _ _ hq
  · intro n
    induction n with
    | zero => intro x2 x3 x4 h hq; exact hq.elim
    | succ n hKc =>
      intro x2 x3 x4 h hq
      refine ck_iload 4 dX11_verdictsOf_5 rfl ?_
      refine ck_aload_n 0 dX11_verdictsOf_7 rfl rfl ?_
      refine ck_getR clX11 9 rfl rfl (by decide) fl_X11_54 dX11_verdictsOf_8 ?_
      refine ck_getRN clX7 7 rfl rfl (by decide) fl_X11_129 dX11_verdictsOf_11 ?_
      refine ck_getIN clX5 1 rfl rfl (by decide) fl_X11_257 dX11_verdictsOf_14 ?_
      refine ck_icmp_ge (tgt := 40) dX11_verdictsOf_17 (by decide) (fun c12 => ?_) (fun c12 => ?_)
      · have hq := hq.1 c12
        refine ck_iload_n 3 dX11_verdictsOf_40 rfl rfl ?_
        exact ck_iret rfl rfl rfl rfl dX11_verdictsOf_41 ⟨_, rfl, rfl, hq⟩
      · have hq := hq.2 c12
        refine ck_aload_n 1 dX11_verdictsOf_20 rfl rfl ?_
        refine ck_getRN clX1 3 rfl rfl (by decide) fl_X11_156 dX11_verdictsOf_21 ?_
        refine ck_iload 4 dX11_verdictsOf_24 rfl ?_
        obtain ⟨b13, hq⟩ := hq
        refine ck_iald rfl rfl b13 dX11_verdictsOf_26 ?_
        refine ck_iload_n 2 dX11_verdictsOf_27 rfl rfl ?_
        refine ck_icmp_ne (tgt := 34) dX11_verdictsOf_28 (by decide) (fun c14 => ?_) (fun c14 => ?_)
        · have hq := hq.1 c14
          exact cp_X11_verdictsOf_34 (by simp) hKc _ _ _ _ hq
        · have hq := hq.2 c14
          obtain ⟨v15, ev15⟩ : ∃ z : Int32, z = x3 + 1 := ⟨_, rfl⟩
          have hq := hq v15 ev15
          refine ck_iinc (v := v15) (lv' := [(3, .int v15), (0, .ref 0), (1, .ref 7), (2, .int x2), (4, .int x4)]) 3 dX11_verdictsOf_31 rfl (by rw [ev15]; rfl) (by decide) rfl ?_
          refine ck_loc [1, 2, 3, 0, 4] rfl ?_
          exact cp_X11_verdictsOf_34 (by simp) hKc _ _ _ _ hq
set_option maxHeartbeats 4000000 in
set_option maxRecDepth 100000 in
theorem c_X11_verdictsOf {gr : Bool} {x2 : Int32} {h : ck_H} {Q : Int32 → ck_H → Prop} {o1 : Nat} (hc : (o1 = 17) ∨ (o1 = 7)) (hq : wp_X11_verdictsOf o1 x2 h Q) : ck_M yX11_verdictsOf cX11_verdictsOf 5 (some .int) 2 0 0 gr ck_shX h [.ref 0, .ref o1, .int x2] (ck_Qi ck_shX Q) := by
  rcases hc with rfl | rfl
  · refine ck_entry (lv := [(0, .ref 0), (1, .ref 17), (2, .int x2)]) false (own := RX11) rfl (fun q => by cases q) (by decide) (Nat.le_of_ble_eq_true rfl) rfl ?_
    refine ck_iconst (v := 0) dX11_verdictsOf_0 (by decide) ?_
    refine ck_istore_n (lv' := [(3, .int (0 : Int32)), (0, .ref 0), (1, .ref 17), (2, .int x2)]) dX11_verdictsOf_1 rfl (by decide) rfl ?_
    refine ck_iconst (v := 0) dX11_verdictsOf_2 (by decide) ?_
    refine ck_istore (lv' := [(4, .int (0 : Int32)), (3, .int (0 : Int32)), (0, .ref 0), (1, .ref 17), (2, .int x2)]) dX11_verdictsOf_3 (by decide) rfl ?_
    refine ck_loc [2, 3, 4, 1, 0] rfl ?_
    refine cp_X11_verdictsOf_5 (by simp) lpN _ _ _ _ hq
  · refine ck_entry (lv := [(0, .ref 0), (1, .ref 7), (2, .int x2)]) false (own := RX11) rfl (fun q => by cases q) (by decide) (Nat.le_of_ble_eq_true rfl) rfl ?_
    refine ck_iconst (v := 0) dX11_verdictsOf_0 (by decide) ?_
    refine ck_istore_n (lv' := [(3, .int (0 : Int32)), (0, .ref 0), (1, .ref 7), (2, .int x2)]) dX11_verdictsOf_1 rfl (by decide) rfl ?_
    refine ck_iconst (v := 0) dX11_verdictsOf_2 (by decide) ?_
    refine ck_istore (lv' := [(4, .int (0 : Int32)), (3, .int (0 : Int32)), (0, .ref 0), (1, .ref 7), (2, .int x2)]) dX11_verdictsOf_3 (by decide) rfl ?_
    refine ck_loc [2, 3, 4, 1, 0] rfl ?_
    refine cp_X11_verdictsOf_5 (by simp) lpN _ _ _ _ hq
def wp_X11_teethOf_4 (Q : Int32 → ck_H → Prop) : Nat → Int32 → Int32 → ck_H → Prop
  | 0 => fun _ _ _ => False
  | n + 1 => fun x2 x3 h => (((h.1 33 1) ≤ x3 → Q x2 h) ∧ (¬ (h.1 33 1) ≤ x3 → (vp_in x3 4 ∧ (∀ v3, v3 = (x2 + (h.1 18 x3.toNatClampNeg)) → (∀ v4, v4 = x3 + 1 → (wp_X11_teethOf_4 Q n) v3 v4 h)))))
def wp_X11_teethOf (h : ck_H) (Q : Int32 → ck_H → Prop) : Prop := wp_X11_teethOf_4 Q lpN (0 : Int32) (0 : Int32) h
set_option maxHeartbeats 4000000 in
set_option maxRecDepth 100000 in
theorem cp_X11_teethOf_4 {gr : Bool} {Q : Int32 → ck_H → Prop} : ∀ (n : Nat) (x2 : Int32) (x3 : Int32) (h : ck_H), wp_X11_teethOf_4 Q n x2 x3 h → ck_W cX11_teethOf 4 RX11 (some .int) 2 0 0 false gr (ck_Qi ck_shX Q) ck_shX h 0 0 4 [(0, .ref 0), (1, .ref 17), (2, .int x2), (3, .int x3)] [] := by
  intro n
  induction n with
  | zero => intro x2 x3 h hq; exact hq.elim
  | succ n hKc =>
    intro x2 x3 h hq
    refine ck_iload_n 3 dX11_teethOf_4 rfl rfl ?_
    refine ck_aload_n 0 dX11_teethOf_5 rfl rfl ?_
    refine ck_getR clX11 9 rfl rfl (by decide) fl_X11_54 dX11_teethOf_6 ?_
    refine ck_getRN clX7 0 rfl rfl (by decide) fl_X11_116 dX11_teethOf_9 ?_
    refine ck_getIN clX5 1 rfl rfl (by decide) fl_X11_257 dX11_teethOf_12 ?_
    refine ck_icmp_ge (tgt := 33) dX11_teethOf_15 (by decide) (fun c1 => ?_) (fun c1 => ?_)
    · have hq := hq.1 c1
      refine ck_iload_n 2 dX11_teethOf_33 rfl rfl ?_
      exact ck_iret rfl rfl rfl rfl dX11_teethOf_34 ⟨_, rfl, rfl, hq⟩
    · have hq := hq.2 c1
      refine ck_iload_n 2 dX11_teethOf_18 rfl rfl ?_
      refine ck_aload_n 1 dX11_teethOf_19 rfl rfl ?_
      refine ck_getRN clX1 0 rfl rfl (by decide) fl_X11_174 dX11_teethOf_20 ?_
      refine ck_iload_n 3 dX11_teethOf_23 rfl rfl ?_
      obtain ⟨b2, hq⟩ := hq
      refine ck_iald rfl rfl b2 dX11_teethOf_24 ?_
      refine ck_iadd dX11_teethOf_25 ?_
      refine ck_nmI (fun v3 ev3 => ?_)
      have hq := hq v3 ev3
      refine ck_istore_n (lv' := [(2, .int v3), (0, .ref 0), (1, .ref 17), (3, .int x3)]) dX11_teethOf_26 rfl (by decide) rfl ?_
      obtain ⟨v4, ev4⟩ : ∃ z : Int32, z = x3 + 1 := ⟨_, rfl⟩
      have hq := hq v4 ev4
      refine ck_iinc (v := v4) (lv' := [(3, .int v4), (2, .int v3), (0, .ref 0), (1, .ref 17)]) 3 dX11_teethOf_27 rfl (by rw [ev4]; rfl) (by decide) rfl ?_
      refine ck_goto (tgt := 4) dX11_teethOf_30 (by decide) ?_
      refine ck_loc [2, 3, 1, 0] rfl ?_
      exact hKc _ _ _ hq
set_option maxHeartbeats 4000000 in
set_option maxRecDepth 100000 in
theorem c_X11_teethOf {gr : Bool} {h : ck_H} {Q : Int32 → ck_H → Prop} (hq : wp_X11_teethOf h Q) : ck_M yX11_teethOf cX11_teethOf 4 (some .int) 2 0 0 gr ck_shX h [.ref 0, .ref 17] (ck_Qi ck_shX Q) := by
  refine ck_entry (lv := [(0, .ref 0), (1, .ref 17)]) false (own := RX11) rfl (fun q => by cases q) (by decide) (Nat.le_of_ble_eq_true rfl) rfl ?_
  refine ck_iconst (v := 0) dX11_teethOf_0 (by decide) ?_
  refine ck_istore_n (lv' := [(2, .int (0 : Int32)), (0, .ref 0), (1, .ref 17)]) dX11_teethOf_1 rfl (by decide) rfl ?_
  refine ck_iconst (v := 0) dX11_teethOf_2 (by decide) ?_
  refine ck_istore_n (lv' := [(3, .int (0 : Int32)), (2, .int (0 : Int32)), (0, .ref 0), (1, .ref 17)]) dX11_teethOf_3 rfl (by decide) rfl ?_
  refine ck_loc [2, 3, 1, 0] rfl ?_
  refine cp_X11_teethOf_4 lpN _ _ _ hq
def wp_X11_ahead (x1 : Int32) (x2 : Int32) (h : ck_H) (Q : Int32 → ck_H → Prop) : Prop := ((x1 < 0 → Q (-1 : Int32) h) ∧ (¬ x1 < 0 → (((99 : Int32) < x1 → Q (-1 : Int32) h) ∧ (¬ (99 : Int32) < x1 → ((x2 < 0 → Q (-1 : Int32) h) ∧ (¬ x2 < 0 → ((x2 ≤ (6 : Int32) → (wp_X0_think h (fun h5 => (wp_X10_pass 17 x1 h5 (fun h6 => (((3 : Int32) < x2 → ((¬ x2 = (4 : Int32) → ((¬ x2 = (5 : Int32) → (wp_X11_teethOf h6 (fun r11 h10 => Q r11 h10))) ∧ (x2 = (5 : Int32) → Q (h6.1 17 6) h6))) ∧ (x2 = (4 : Int32) → (wp_X0_gainMore h6 (fun r13 h12 => Q r13 h12))))) ∧ (¬ (3 : Int32) < x2 → (wp_X11_verdictsOf 17 x2 h6 (fun r15 h14 => (wp_X11_verdictsOf 7 x2 h14 (fun r17 h16 => Q (r15 - r17) h16))))))))))) ∧ (¬ x2 ≤ (6 : Int32) → Q (-1 : Int32) h))))))))
set_option maxHeartbeats 4000000 in
set_option maxRecDepth 100000 in
theorem c_X11_ahead {gr : Bool} {x1 : Int32} {x2 : Int32} {h : ck_H} {Q : Int32 → ck_H → Prop} (hq : wp_X11_ahead x1 x2 h Q) : ck_M yX11_ahead cX11_ahead 3 (some .int) 8 0 0 gr ck_shX h [.ref 0, .int x1, .int x2] (ck_Qi ck_shX Q) := by
  refine ck_entry (lv := [(0, .ref 0), (1, .int x1), (2, .int x2)]) false (own := RX11) rfl (fun q => by cases q) (by decide) (Nat.le_of_ble_eq_true rfl) rfl ?_
  refine ck_iload_n 1 dX11_ahead_0 rfl rfl ?_
  refine ck_if_lt (tgt := 20) dX11_ahead_1 (by decide) (fun c1 => ?_) (fun c1 => ?_)
  · have hq := hq.1 c1
    refine ck_iconst (v := -1) dX11_ahead_20 (by decide) ?_
    exact ck_iret rfl rfl rfl rfl dX11_ahead_21 ⟨_, rfl, rfl, hq⟩
  · have hq := hq.2 c1
    refine ck_iload_n 1 dX11_ahead_4 rfl rfl ?_
    refine ck_bipush (v := 99) dX11_ahead_5 (by decide) ?_
    refine ck_icmp_gt (tgt := 20) dX11_ahead_7 (by decide) (fun c2 => ?_) (fun c2 => ?_)
    · have hq := hq.1 c2
      refine ck_iconst (v := -1) dX11_ahead_20 (by decide) ?_
      exact ck_iret rfl rfl rfl rfl dX11_ahead_21 ⟨_, rfl, rfl, hq⟩
    · have hq := hq.2 c2
      refine ck_iload_n 2 dX11_ahead_10 rfl rfl ?_
      refine ck_if_lt (tgt := 20) dX11_ahead_11 (by decide) (fun c3 => ?_) (fun c3 => ?_)
      · have hq := hq.1 c3
        refine ck_iconst (v := -1) dX11_ahead_20 (by decide) ?_
        exact ck_iret rfl rfl rfl rfl dX11_ahead_21 ⟨_, rfl, rfl, hq⟩
      · have hq := hq.2 c3
        refine ck_iload_n 2 dX11_ahead_14 rfl rfl ?_
        refine ck_bipush (v := 6) dX11_ahead_15 (by decide) ?_
        refine ck_icmp_le (tgt := 22) dX11_ahead_17 (by decide) (fun c4 => ?_) (fun c4 => ?_)
        · have hq := hq.1 c4
          refine ck_aload_n 0 dX11_ahead_22 rfl rfl ?_
          refine ck_getR clX11 6 rfl rfl (by decide) fl_X11_79 dX11_ahead_23 ?_
          refine ck_callV (c_X0_think hq) rfl cal_X0_think rfl ml_X11_244 vir_X0_think rfl rfl (by decide) (Nat.le_of_ble_eq_true rfl) (Nat.le_of_ble_eq_true rfl) (by decide) (by decide) dX11_ahead_26 ?_
          rintro _ _ h5 ⟨rfl, rfl, hq⟩
          refine ck_aload_n 0 dX11_ahead_29 rfl rfl ?_
          refine ck_getR clX11 5 rfl rfl (by decide) fl_X11_70 dX11_ahead_30 ?_
          refine ck_aload_n 0 dX11_ahead_33 rfl rfl ?_
          refine ck_getR clX11 4 rfl rfl (by decide) fl_X11_34 dX11_ahead_34 ?_
          refine ck_iload_n 1 dX11_ahead_37 rfl rfl ?_
          refine ck_callV (c_X10_pass (by simp) hq) rfl cal_X10_pass rfl ml_X11_240 vir_X10_pass rfl rfl (by decide) (Nat.le_of_ble_eq_true rfl) (Nat.le_of_ble_eq_true rfl) (by decide) (by decide) dX11_ahead_38 ?_
          rintro _ _ h6 ⟨rfl, rfl, hq⟩
          refine ck_iload_n 2 dX11_ahead_41 rfl rfl ?_
          refine ck_iconst (v := 3) dX11_ahead_42 (by decide) ?_
          refine ck_icmp_gt (tgt := 66) dX11_ahead_43 (by decide) (fun c7 => ?_) (fun c7 => ?_)
          · have hq := hq.1 c7
            refine ck_iload_n 2 dX11_ahead_66 rfl rfl ?_
            refine ck_iconst (v := 4) dX11_ahead_67 (by decide) ?_
            refine ck_icmp_ne (tgt := 79) dX11_ahead_68 (by decide) (fun c8 => ?_) (fun c8 => ?_)
            · have hq := hq.1 c8
              refine ck_iload_n 2 dX11_ahead_79 rfl rfl ?_
              refine ck_iconst (v := 5) dX11_ahead_80 (by decide) ?_
              refine ck_icmp_ne (tgt := 94) dX11_ahead_81 (by decide) (fun c9 => ?_) (fun c9 => ?_)
              · have hq := hq.1 c9
                refine ck_aload_n 0 dX11_ahead_94 rfl rfl ?_
                refine ck_aload_n 0 dX11_ahead_95 rfl rfl ?_
                refine ck_getR clX11 4 rfl rfl (by decide) fl_X11_34 dX11_ahead_96 ?_
                refine ck_callV (c_X11_teethOf hq) rfl cal_X11_teethOf rfl ml_X11_253 vir_X11_teethOf rfl rfl (by decide) (Nat.le_of_ble_eq_true rfl) (Nat.le_of_ble_eq_true rfl) (by decide) (by decide) dX11_ahead_99 ?_
                rintro _ _ h10 ⟨r11, rfl, rfl, hq⟩
                exact ck_iret rfl rfl rfl rfl dX11_ahead_102 ⟨_, rfl, rfl, hq⟩
              · have hq := hq.2 c9
                refine ck_aload_n 0 dX11_ahead_84 rfl rfl ?_
                refine ck_getR clX11 4 rfl rfl (by decide) fl_X11_34 dX11_ahead_85 ?_
                refine ck_getIN clX1 6 rfl rfl (by decide) fl_X11_234 dX11_ahead_88 ?_
                refine ck_goto (tgt := 102) dX11_ahead_91 (by decide) ?_
                exact ck_iret rfl rfl rfl rfl dX11_ahead_102 ⟨_, rfl, rfl, hq⟩
            · have hq := hq.2 c8
              refine ck_aload_n 0 dX11_ahead_71 rfl rfl ?_
              refine ck_getR clX11 6 rfl rfl (by decide) fl_X11_79 dX11_ahead_72 ?_
              refine ck_callV (c_X0_gainMore hq) rfl cal_X0_gainMore rfl ml_X11_250 vir_X0_gainMore rfl rfl (by decide) (Nat.le_of_ble_eq_true rfl) (Nat.le_of_ble_eq_true rfl) (by decide) (by decide) dX11_ahead_75 ?_
              rintro _ _ h12 ⟨r13, rfl, rfl, hq⟩
              exact ck_iret rfl rfl rfl rfl dX11_ahead_78 ⟨_, rfl, rfl, hq⟩
          · have hq := hq.2 c7
            refine ck_aload_n 0 dX11_ahead_46 rfl rfl ?_
            refine ck_aload_n 0 dX11_ahead_47 rfl rfl ?_
            refine ck_getR clX11 4 rfl rfl (by decide) fl_X11_34 dX11_ahead_48 ?_
            refine ck_iload_n 2 dX11_ahead_51 rfl rfl ?_
            refine ck_callV (c_X11_verdictsOf (by simp) hq) rfl cal_X11_verdictsOf rfl ml_X11_247 vir_X11_verdictsOf rfl rfl (by decide) (Nat.le_of_ble_eq_true rfl) (Nat.le_of_ble_eq_true rfl) (by decide) (by decide) dX11_ahead_52 ?_
            rintro _ _ h14 ⟨r15, rfl, rfl, hq⟩
            refine ck_aload_n 0 dX11_ahead_55 rfl rfl ?_
            refine ck_aload_n 0 dX11_ahead_56 rfl rfl ?_
            refine ck_getR clX11 2 rfl rfl (by decide) fl_X11_27 dX11_ahead_57 ?_
            refine ck_iload_n 2 dX11_ahead_60 rfl rfl ?_
            refine ck_callV (c_X11_verdictsOf (by simp) hq) rfl cal_X11_verdictsOf rfl ml_X11_247 vir_X11_verdictsOf rfl rfl (by decide) (Nat.le_of_ble_eq_true rfl) (Nat.le_of_ble_eq_true rfl) (by decide) (by decide) dX11_ahead_61 ?_
            rintro _ _ h16 ⟨r17, rfl, rfl, hq⟩
            refine ck_isub dX11_ahead_64 ?_
            exact ck_iret rfl rfl rfl rfl dX11_ahead_65 ⟨_, rfl, rfl, hq⟩
        · have hq := hq.2 c4
          refine ck_iconst (v := -1) dX11_ahead_20 (by decide) ?_
          exact ck_iret rfl rfl rfl rfl dX11_ahead_21 ⟨_, rfl, rfl, hq⟩
def wp_X11_deal (x1 : Int32) (x2 : Int32) (h : ck_H) (Q : Int32 → ck_H → Prop) : Prop := ((x1 < (1 : Int32) → Q (-1 : Int32) h) ∧ (¬ x1 < (1 : Int32) → (((60 : Int32) < x1 → Q (-1 : Int32) h) ∧ (¬ (60 : Int32) < x1 → ((x2 < 0 → Q (-1 : Int32) h) ∧ (¬ x2 < 0 → (((4 : Int32) < x2 → Q (-1 : Int32) h) ∧ (¬ (4 : Int32) < x2 → ((¬ (h.1 33 1) = 0 → (wp_X0_seekDeal x1 h (fun h6 => ((¬ x2 = (4 : Int32) → (((h6.1 77 6) ≤ x2 → Q (-2 : Int32) h6) ∧ (¬ (h6.1 77 6) ≤ x2 → (vp_in x2 5 ∧ Q (h6.1 80 x2.toNatClampNeg) h6)))) ∧ (x2 = (4 : Int32) → Q (h6.1 77 7) h6))))) ∧ ((h.1 33 1) = 0 → Q (-1 : Int32) h))))))))))
set_option maxHeartbeats 4000000 in
set_option maxRecDepth 100000 in
theorem c_X11_deal {gr : Bool} {x1 : Int32} {x2 : Int32} {h : ck_H} {Q : Int32 → ck_H → Prop} (hq : wp_X11_deal x1 x2 h Q) : ck_M yX11_deal cX11_deal 3 (some .int) 9 0 0 gr ck_shX h [.ref 0, .int x1, .int x2] (ck_Qi ck_shX Q) := by
  refine ck_entry (lv := [(0, .ref 0), (1, .int x1), (2, .int x2)]) false (own := RX11) rfl (fun q => by cases q) (by decide) (Nat.le_of_ble_eq_true rfl) rfl ?_
  refine ck_iload_n 1 dX11_deal_0 rfl rfl ?_
  refine ck_iconst (v := 1) dX11_deal_1 (by decide) ?_
  refine ck_icmp_lt (tgt := 33) dX11_deal_2 (by decide) (fun c1 => ?_) (fun c1 => ?_)
  · have hq := hq.1 c1
    refine ck_iconst (v := -1) dX11_deal_33 (by decide) ?_
    exact ck_iret rfl rfl rfl rfl dX11_deal_34 ⟨_, rfl, rfl, hq⟩
  · have hq := hq.2 c1
    refine ck_iload_n 1 dX11_deal_5 rfl rfl ?_
    refine ck_bipush (v := 60) dX11_deal_6 (by decide) ?_
    refine ck_icmp_gt (tgt := 33) dX11_deal_8 (by decide) (fun c2 => ?_) (fun c2 => ?_)
    · have hq := hq.1 c2
      refine ck_iconst (v := -1) dX11_deal_33 (by decide) ?_
      exact ck_iret rfl rfl rfl rfl dX11_deal_34 ⟨_, rfl, rfl, hq⟩
    · have hq := hq.2 c2
      refine ck_iload_n 2 dX11_deal_11 rfl rfl ?_
      refine ck_if_lt (tgt := 33) dX11_deal_12 (by decide) (fun c3 => ?_) (fun c3 => ?_)
      · have hq := hq.1 c3
        refine ck_iconst (v := -1) dX11_deal_33 (by decide) ?_
        exact ck_iret rfl rfl rfl rfl dX11_deal_34 ⟨_, rfl, rfl, hq⟩
      · have hq := hq.2 c3
        refine ck_iload_n 2 dX11_deal_15 rfl rfl ?_
        refine ck_iconst (v := 4) dX11_deal_16 (by decide) ?_
        refine ck_icmp_gt (tgt := 33) dX11_deal_17 (by decide) (fun c4 => ?_) (fun c4 => ?_)
        · have hq := hq.1 c4
          refine ck_iconst (v := -1) dX11_deal_33 (by decide) ?_
          exact ck_iret rfl rfl rfl rfl dX11_deal_34 ⟨_, rfl, rfl, hq⟩
        · have hq := hq.2 c4
          refine ck_aload_n 0 dX11_deal_20 rfl rfl ?_
          refine ck_getR clX11 9 rfl rfl (by decide) fl_X11_54 dX11_deal_21 ?_
          refine ck_getRN clX7 0 rfl rfl (by decide) fl_X11_116 dX11_deal_24 ?_
          refine ck_getIN clX5 1 rfl rfl (by decide) fl_X11_257 dX11_deal_27 ?_
          refine ck_if_ne (tgt := 35) dX11_deal_30 (by decide) (fun c5 => ?_) (fun c5 => ?_)
          · have hq := hq.1 c5
            refine ck_aload_n 0 dX11_deal_35 rfl rfl ?_
            refine ck_getR clX11 6 rfl rfl (by decide) fl_X11_79 dX11_deal_36 ?_
            refine ck_iload_n 1 dX11_deal_39 rfl rfl ?_
            refine ck_callV (c_X0_seekDeal hq) rfl cal_X0_seekDeal rfl ml_X11_260 vir_X0_seekDeal rfl rfl (by decide) (Nat.le_of_ble_eq_true rfl) (Nat.le_of_ble_eq_true rfl) (by decide) (by decide) dX11_deal_40 ?_
            rintro _ _ h6 ⟨rfl, rfl, hq⟩
            refine ck_iload_n 2 dX11_deal_43 rfl rfl ?_
            refine ck_iconst (v := 4) dX11_deal_44 (by decide) ?_
            refine ck_icmp_ne (tgt := 56) dX11_deal_45 (by decide) (fun c7 => ?_) (fun c7 => ?_)
            · have hq := hq.1 c7
              refine ck_iload_n 2 dX11_deal_56 rfl rfl ?_
              refine ck_aload_n 0 dX11_deal_57 rfl rfl ?_
              refine ck_getR clX11 6 rfl rfl (by decide) fl_X11_79 dX11_deal_58 ?_
              refine ck_getIN clX0 6 rfl rfl (by decide) fl_X11_266 dX11_deal_61 ?_
              refine ck_icmp_ge (tgt := 79) dX11_deal_64 (by decide) (fun c8 => ?_) (fun c8 => ?_)
              · have hq := hq.1 c8
                refine ck_bipush (v := -2) dX11_deal_79 (by decide) ?_
                exact ck_iret rfl rfl rfl rfl dX11_deal_81 ⟨_, rfl, rfl, hq⟩
              · have hq := hq.2 c8
                refine ck_aload_n 0 dX11_deal_67 rfl rfl ?_
                refine ck_getR clX11 6 rfl rfl (by decide) fl_X11_79 dX11_deal_68 ?_
                refine ck_getRN clX0 5 rfl rfl (by decide) fl_X11_269 dX11_deal_71 ?_
                refine ck_iload_n 2 dX11_deal_74 rfl rfl ?_
                obtain ⟨b9, hq⟩ := hq
                refine ck_iald rfl rfl b9 dX11_deal_75 ?_
                refine ck_goto (tgt := 81) dX11_deal_76 (by decide) ?_
                exact ck_iret rfl rfl rfl rfl dX11_deal_81 ⟨_, rfl, rfl, hq⟩
            · have hq := hq.2 c7
              refine ck_aload_n 0 dX11_deal_48 rfl rfl ?_
              refine ck_getR clX11 6 rfl rfl (by decide) fl_X11_79 dX11_deal_49 ?_
              refine ck_getIN clX0 7 rfl rfl (by decide) fl_X11_263 dX11_deal_52 ?_
              exact ck_iret rfl rfl rfl rfl dX11_deal_55 ⟨_, rfl, rfl, hq⟩
          · have hq := hq.2 c5
            refine ck_iconst (v := -1) dX11_deal_33 (by decide) ?_
            exact ck_iret rfl rfl rfl rfl dX11_deal_34 ⟨_, rfl, rfl, hq⟩
def wp_X11_order (x1 : Int32) (h : ck_H) (Q : Int32 → ck_H → Prop) : Prop := ((x1 < 0 → Q (-1 : Int32) h) ∧ (¬ x1 < 0 → ((x1 ≤ (5 : Int32) → (wp_X0_seekOrder h (fun h3 => ((¬ x1 = (5 : Int32) → (((h3.1 77 6) ≤ x1 → Q (-2 : Int32) h3) ∧ (¬ (h3.1 77 6) ≤ x1 → (vp_in x1 5 ∧ Q (h3.1 80 x1.toNatClampNeg) h3)))) ∧ (x1 = (5 : Int32) → Q (h3.1 77 7) h3))))) ∧ (¬ x1 ≤ (5 : Int32) → Q (-1 : Int32) h))))
set_option maxHeartbeats 4000000 in
set_option maxRecDepth 100000 in
theorem c_X11_order {gr : Bool} {x1 : Int32} {h : ck_H} {Q : Int32 → ck_H → Prop} (hq : wp_X11_order x1 h Q) : ck_M yX11_order cX11_order 2 (some .int) 8 0 0 gr ck_shX h [.ref 0, .int x1] (ck_Qi ck_shX Q) := by
  refine ck_entry (lv := [(0, .ref 0), (1, .int x1)]) false (own := RX11) rfl (fun q => by cases q) (by decide) (Nat.le_of_ble_eq_true rfl) rfl ?_
  refine ck_iload_n 1 dX11_order_0 rfl rfl ?_
  refine ck_if_lt (tgt := 9) dX11_order_1 (by decide) (fun c1 => ?_) (fun c1 => ?_)
  · have hq := hq.1 c1
    refine ck_iconst (v := -1) dX11_order_9 (by decide) ?_
    exact ck_iret rfl rfl rfl rfl dX11_order_10 ⟨_, rfl, rfl, hq⟩
  · have hq := hq.2 c1
    refine ck_iload_n 1 dX11_order_4 rfl rfl ?_
    refine ck_iconst (v := 5) dX11_order_5 (by decide) ?_
    refine ck_icmp_le (tgt := 11) dX11_order_6 (by decide) (fun c2 => ?_) (fun c2 => ?_)
    · have hq := hq.1 c2
      refine ck_aload_n 0 dX11_order_11 rfl rfl ?_
      refine ck_getR clX11 6 rfl rfl (by decide) fl_X11_79 dX11_order_12 ?_
      refine ck_callV (c_X0_seekOrder hq) rfl cal_X0_seekOrder rfl ml_X11_272 vir_X0_seekOrder rfl rfl (by decide) (Nat.le_of_ble_eq_true rfl) (Nat.le_of_ble_eq_true rfl) (by decide) (by decide) dX11_order_15 ?_
      rintro _ _ h3 ⟨rfl, rfl, hq⟩
      refine ck_iload_n 1 dX11_order_18 rfl rfl ?_
      refine ck_iconst (v := 5) dX11_order_19 (by decide) ?_
      refine ck_icmp_ne (tgt := 31) dX11_order_20 (by decide) (fun c4 => ?_) (fun c4 => ?_)
      · have hq := hq.1 c4
        refine ck_iload_n 1 dX11_order_31 rfl rfl ?_
        refine ck_aload_n 0 dX11_order_32 rfl rfl ?_
        refine ck_getR clX11 6 rfl rfl (by decide) fl_X11_79 dX11_order_33 ?_
        refine ck_getIN clX0 6 rfl rfl (by decide) fl_X11_266 dX11_order_36 ?_
        refine ck_icmp_ge (tgt := 54) dX11_order_39 (by decide) (fun c5 => ?_) (fun c5 => ?_)
        · have hq := hq.1 c5
          refine ck_bipush (v := -2) dX11_order_54 (by decide) ?_
          exact ck_iret rfl rfl rfl rfl dX11_order_56 ⟨_, rfl, rfl, hq⟩
        · have hq := hq.2 c5
          refine ck_aload_n 0 dX11_order_42 rfl rfl ?_
          refine ck_getR clX11 6 rfl rfl (by decide) fl_X11_79 dX11_order_43 ?_
          refine ck_getRN clX0 5 rfl rfl (by decide) fl_X11_269 dX11_order_46 ?_
          refine ck_iload_n 1 dX11_order_49 rfl rfl ?_
          obtain ⟨b6, hq⟩ := hq
          refine ck_iald rfl rfl b6 dX11_order_50 ?_
          refine ck_goto (tgt := 56) dX11_order_51 (by decide) ?_
          exact ck_iret rfl rfl rfl rfl dX11_order_56 ⟨_, rfl, rfl, hq⟩
      · have hq := hq.2 c4
        refine ck_aload_n 0 dX11_order_23 rfl rfl ?_
        refine ck_getR clX11 6 rfl rfl (by decide) fl_X11_79 dX11_order_24 ?_
        refine ck_getIN clX0 7 rfl rfl (by decide) fl_X11_263 dX11_order_27 ?_
        exact ck_iret rfl rfl rfl rfl dX11_order_30 ⟨_, rfl, rfl, hq⟩
    · have hq := hq.2 c2
      refine ck_iconst (v := -1) dX11_order_9 (by decide) ?_
      exact ck_iret rfl rfl rfl rfl dX11_order_10 ⟨_, rfl, rfl, hq⟩
def wp_X11_enough_27 (Q : Int32 → ck_H → Prop) : Nat → Int32 → Int32 → Int32 → ck_H → Prop
  | 0 => fun _ _ _ _ => False
  | n + 1 => fun x1 x2 x3 h => (((99 : Int32) < x3 → Q (-2 : Int32) h) ∧ (¬ (99 : Int32) < x3 → (∀ h9, h9 = ck_sI h 17 6 x3 → (vp_in x2 6 ∧ (wp_X10_measured 17 x1 x2 (h9.1 39 x2.toNatClampNeg) h9 (fun r12 h11 => ((¬ r12 = (1 : Int32) → (∀ v14, v14 = x3 + 1 → (wp_X11_enough_27 Q n) x1 x2 v14 h11)) ∧ (r12 = (1 : Int32) → Q x3 h11))))))))
def wp_X11_enough (x1 : Int32) (x2 : Int32) (h : ck_H) (Q : Int32 → ck_H → Prop) : Prop := (wp_X11_isJudge x1 h (fun r2 h1 => ((r2 = 0 → Q (-1 : Int32) h1) ∧ (¬ r2 = 0 → (wp_X11_isNut x2 h1 (fun r5 h4 => ((¬ r5 = 0 → (wp_X0_think h4 (fun h7 => wp_X11_enough_27 Q lpN x1 x2 (1 : Int32) h7))) ∧ (r5 = 0 → Q (-1 : Int32) h4))))))))
set_option maxHeartbeats 4000000 in
set_option maxRecDepth 100000 in
theorem cp_X11_enough_27 {gr : Bool} {Q : Int32 → ck_H → Prop} : ∀ (n : Nat) (x1 : Int32) (x2 : Int32) (x3 : Int32) (h : ck_H), wp_X11_enough_27 Q n x1 x2 x3 h → ck_W cX11_enough 4 RX11 (some .int) 6 0 0 false gr (ck_Qi ck_shX Q) ck_shX h 0 0 27 [(0, .ref 0), (1, .int x1), (2, .int x2), (3, .int x3)] [] := by
  intro n
  induction n with
  | zero => intro x1 x2 x3 h hq; exact hq.elim
  | succ n hKc =>
    intro x1 x2 x3 h hq
    refine ck_iload_n 3 dX11_enough_27 rfl rfl ?_
    refine ck_bipush (v := 99) dX11_enough_28 (by decide) ?_
    refine ck_icmp_gt (tgt := 75) dX11_enough_30 (by decide) (fun c8 => ?_) (fun c8 => ?_)
    · have hq := hq.1 c8
      refine ck_bipush (v := -2) dX11_enough_75 (by decide) ?_
      exact ck_iret rfl rfl rfl rfl dX11_enough_77 ⟨_, rfl, rfl, hq⟩
    · have hq := hq.2 c8
      refine ck_aload_n 0 dX11_enough_33 rfl rfl ?_
      refine ck_getR clX11 4 rfl rfl (by decide) fl_X11_34 dX11_enough_34 ?_
      refine ck_iload_n 3 dX11_enough_37 rfl rfl ?_
      refine ck_putIN clX1 6 rfl rfl (by decide) fl_X11_234 rfl rfl rfl dX11_enough_38 ?_
      refine ck_nmH (fun h9 eh9 => ?_)
      have hq := hq h9 eh9
      refine ck_aload_n 0 dX11_enough_41 rfl rfl ?_
      refine ck_getR clX11 5 rfl rfl (by decide) fl_X11_70 dX11_enough_42 ?_
      refine ck_aload_n 0 dX11_enough_45 rfl rfl ?_
      refine ck_getR clX11 4 rfl rfl (by decide) fl_X11_34 dX11_enough_46 ?_
      refine ck_iload_n 1 dX11_enough_49 rfl rfl ?_
      refine ck_iload_n 2 dX11_enough_50 rfl rfl ?_
      refine ck_aload_n 0 dX11_enough_51 rfl rfl ?_
      refine ck_getR clX11 9 rfl rfl (by decide) fl_X11_54 dX11_enough_52 ?_
      refine ck_getRN clX7 4 rfl rfl (by decide) fl_X11_186 dX11_enough_55 ?_
      refine ck_iload_n 2 dX11_enough_58 rfl rfl ?_
      obtain ⟨b10, hq⟩ := hq
      refine ck_iald rfl rfl b10 dX11_enough_59 ?_
      refine ck_callV (c_X10_measured (by simp) hq) rfl cal_X10_measured rfl ml_X11_275 vir_X10_measured rfl rfl (by decide) (Nat.le_of_ble_eq_true rfl) (Nat.le_of_ble_eq_true rfl) (by decide) (by decide) dX11_enough_60 ?_
      rintro _ _ h11 ⟨r12, rfl, rfl, hq⟩
      refine ck_iconst (v := 1) dX11_enough_63 (by decide) ?_
      refine ck_icmp_ne (tgt := 69) dX11_enough_64 (by decide) (fun c13 => ?_) (fun c13 => ?_)
      · have hq := hq.1 c13
        obtain ⟨v14, ev14⟩ : ∃ z : Int32, z = x3 + 1 := ⟨_, rfl⟩
        have hq := hq v14 ev14
        refine ck_iinc (v := v14) (lv' := [(3, .int v14), (0, .ref 0), (1, .int x1), (2, .int x2)]) 3 dX11_enough_69 rfl (by rw [ev14]; rfl) (by decide) rfl ?_
        refine ck_goto (tgt := 27) dX11_enough_72 (by decide) ?_
        refine ck_loc [1, 2, 3, 0] rfl ?_
        exact hKc _ _ _ _ hq
      · have hq := hq.2 c13
        refine ck_iload_n 3 dX11_enough_67 rfl rfl ?_
        exact ck_iret rfl rfl rfl rfl dX11_enough_68 ⟨_, rfl, rfl, hq⟩
set_option maxHeartbeats 4000000 in
set_option maxRecDepth 100000 in
theorem c_X11_enough {gr : Bool} {x1 : Int32} {x2 : Int32} {h : ck_H} {Q : Int32 → ck_H → Prop} (hq : wp_X11_enough x1 x2 h Q) : ck_M yX11_enough cX11_enough 4 (some .int) 6 0 0 gr ck_shX h [.ref 0, .int x1, .int x2] (ck_Qi ck_shX Q) := by
  refine ck_entry (lv := [(0, .ref 0), (1, .int x1), (2, .int x2)]) false (own := RX11) rfl (fun q => by cases q) (by decide) (Nat.le_of_ble_eq_true rfl) rfl ?_
  refine ck_aload_n 0 dX11_enough_0 rfl rfl ?_
  refine ck_iload_n 1 dX11_enough_1 rfl rfl ?_
  refine ck_callV (c_X11_isJudge hq) rfl cal_X11_isJudge rfl ml_X11_168 vir_X11_isJudge rfl rfl (by decide) (Nat.le_of_ble_eq_true rfl) (Nat.le_of_ble_eq_true rfl) (by decide) (by decide) dX11_enough_2 ?_
  rintro _ _ h1 ⟨r2, rfl, rfl, hq⟩
  refine ck_if_eq (tgt := 16) dX11_enough_5 (by decide) (fun c3 => ?_) (fun c3 => ?_)
  · have hq := hq.1 c3
    refine ck_iconst (v := -1) dX11_enough_16 (by decide) ?_
    exact ck_iret rfl rfl rfl rfl dX11_enough_17 ⟨_, rfl, rfl, hq⟩
  · have hq := hq.2 c3
    refine ck_aload_n 0 dX11_enough_8 rfl rfl ?_
    refine ck_iload_n 2 dX11_enough_9 rfl rfl ?_
    refine ck_callV (c_X11_isNut hq) rfl cal_X11_isNut rfl ml_X11_183 vir_X11_isNut rfl rfl (by decide) (Nat.le_of_ble_eq_true rfl) (Nat.le_of_ble_eq_true rfl) (by decide) (by decide) dX11_enough_10 ?_
    rintro _ _ h4 ⟨r5, rfl, rfl, hq⟩
    refine ck_if_ne (tgt := 18) dX11_enough_13 (by decide) (fun c6 => ?_) (fun c6 => ?_)
    · have hq := hq.1 c6
      refine ck_aload_n 0 dX11_enough_18 rfl rfl ?_
      refine ck_getR clX11 6 rfl rfl (by decide) fl_X11_79 dX11_enough_19 ?_
      refine ck_callV (c_X0_think hq) rfl cal_X0_think rfl ml_X11_244 vir_X0_think rfl rfl (by decide) (Nat.le_of_ble_eq_true rfl) (Nat.le_of_ble_eq_true rfl) (by decide) (by decide) dX11_enough_22 ?_
      rintro _ _ h7 ⟨rfl, rfl, hq⟩
      refine ck_iconst (v := 1) dX11_enough_25 (by decide) ?_
      refine ck_istore_n (lv' := [(3, .int (1 : Int32)), (0, .ref 0), (1, .int x1), (2, .int x2)]) dX11_enough_26 rfl (by decide) rfl ?_
      refine ck_loc [1, 2, 3, 0] rfl ?_
      refine cp_X11_enough_27 lpN _ _ _ _ hq
    · have hq := hq.2 c6
      refine ck_iconst (v := -1) dX11_enough_16 (by decide) ?_
      exact ck_iret rfl rfl rfl rfl dX11_enough_17 ⟨_, rfl, rfl, hq⟩
def wp_X11_spoil (x1 : Int32) (x2 : Int32) (h : ck_H) (Q : Int32 → ck_H → Prop) : Prop := ((x1 < (1 : Int32) → Q (-1 : Int32) h) ∧ (¬ x1 < (1 : Int32) → (((60 : Int32) < x1 → Q (-1 : Int32) h) ∧ (¬ (60 : Int32) < x1 → ((x2 < 0 → Q (-1 : Int32) h) ∧ (¬ x2 < 0 → ((x2 ≤ (999 : Int32) → (wp_X0_fewestStones x1 x2 h (fun r6 h5 => Q r6 h5))) ∧ (¬ x2 ≤ (999 : Int32) → Q (-1 : Int32) h))))))))
set_option maxHeartbeats 4000000 in
set_option maxRecDepth 100000 in
theorem c_X11_spoil {gr : Bool} {x1 : Int32} {x2 : Int32} {h : ck_H} {Q : Int32 → ck_H → Prop} (hq : wp_X11_spoil x1 x2 h Q) : ck_M yX11_spoil cX11_spoil 3 (some .int) 9 0 0 gr ck_shX h [.ref 0, .int x1, .int x2] (ck_Qi ck_shX Q) := by
  refine ck_entry (lv := [(0, .ref 0), (1, .int x1), (2, .int x2)]) false (own := RX11) rfl (fun q => by cases q) (by decide) (Nat.le_of_ble_eq_true rfl) rfl ?_
  refine ck_iload_n 1 dX11_spoil_0 rfl rfl ?_
  refine ck_iconst (v := 1) dX11_spoil_1 (by decide) ?_
  refine ck_icmp_lt (tgt := 22) dX11_spoil_2 (by decide) (fun c1 => ?_) (fun c1 => ?_)
  · have hq := hq.1 c1
    refine ck_iconst (v := -1) dX11_spoil_22 (by decide) ?_
    exact ck_iret rfl rfl rfl rfl dX11_spoil_23 ⟨_, rfl, rfl, hq⟩
  · have hq := hq.2 c1
    refine ck_iload_n 1 dX11_spoil_5 rfl rfl ?_
    refine ck_bipush (v := 60) dX11_spoil_6 (by decide) ?_
    refine ck_icmp_gt (tgt := 22) dX11_spoil_8 (by decide) (fun c2 => ?_) (fun c2 => ?_)
    · have hq := hq.1 c2
      refine ck_iconst (v := -1) dX11_spoil_22 (by decide) ?_
      exact ck_iret rfl rfl rfl rfl dX11_spoil_23 ⟨_, rfl, rfl, hq⟩
    · have hq := hq.2 c2
      refine ck_iload_n 2 dX11_spoil_11 rfl rfl ?_
      refine ck_if_lt (tgt := 22) dX11_spoil_12 (by decide) (fun c3 => ?_) (fun c3 => ?_)
      · have hq := hq.1 c3
        refine ck_iconst (v := -1) dX11_spoil_22 (by decide) ?_
        exact ck_iret rfl rfl rfl rfl dX11_spoil_23 ⟨_, rfl, rfl, hq⟩
      · have hq := hq.2 c3
        refine ck_iload_n 2 dX11_spoil_15 rfl rfl ?_
        refine ck_sipush (v := 999) dX11_spoil_16 (by decide) ?_
        refine ck_icmp_le (tgt := 24) dX11_spoil_19 (by decide) (fun c4 => ?_) (fun c4 => ?_)
        · have hq := hq.1 c4
          refine ck_aload_n 0 dX11_spoil_24 rfl rfl ?_
          refine ck_getR clX11 6 rfl rfl (by decide) fl_X11_79 dX11_spoil_25 ?_
          refine ck_iload_n 1 dX11_spoil_28 rfl rfl ?_
          refine ck_iload_n 2 dX11_spoil_29 rfl rfl ?_
          refine ck_callV (c_X0_fewestStones hq) rfl cal_X0_fewestStones rfl ml_X11_279 vir_X0_fewestStones rfl rfl (by decide) (Nat.le_of_ble_eq_true rfl) (Nat.le_of_ble_eq_true rfl) (by decide) (by decide) dX11_spoil_30 ?_
          rintro _ _ h5 ⟨r6, rfl, rfl, hq⟩
          exact ck_iret rfl rfl rfl rfl dX11_spoil_33 ⟨_, rfl, rfl, hq⟩
        · have hq := hq.2 c4
          refine ck_iconst (v := -1) dX11_spoil_22 (by decide) ?_
          exact ck_iret rfl rfl rfl rfl dX11_spoil_23 ⟨_, rfl, rfl, hq⟩
def wp_X11_verdictNow (x1 : Int32) (h : ck_H) (Q : Int32 → ck_H → Prop) : Prop := (wp_X10_asTheyAre h (fun h1 => (vp_in x1 10 ∧ (vp_in x1 10 ∧ (wp_X10_hardnessOf 7 x1 h1 (fun r5 h4 => (wp_X10_measured 7 (h1.1 9 x1.toNatClampNeg) (h1.1 45 x1.toNatClampNeg) r5 h4 (fun r7 h6 => Q r7 h6))))))))
set_option maxHeartbeats 4000000 in
set_option maxRecDepth 100000 in
theorem c_X11_verdictNow {gr : Bool} {x1 : Int32} {h : ck_H} {Q : Int32 → ck_H → Prop} (hq : wp_X11_verdictNow x1 h Q) : ck_M yX11_verdictNow cX11_verdictNow 2 (some .int) 6 0 0 gr ck_shX h [.ref 0, .int x1] (ck_Qi ck_shX Q) := by
  refine ck_entry (lv := [(0, .ref 0), (1, .int x1)]) false (own := RX11) rfl (fun q => by cases q) (by decide) (Nat.le_of_ble_eq_true rfl) rfl ?_
  refine ck_aload_n 0 dX11_verdictNow_0 rfl rfl ?_
  refine ck_getR clX11 5 rfl rfl (by decide) fl_X11_70 dX11_verdictNow_1 ?_
  refine ck_callV (c_X10_asTheyAre hq) rfl cal_X10_asTheyAre rfl ml_X11_237 vir_X10_asTheyAre rfl rfl (by decide) (Nat.le_of_ble_eq_true rfl) (Nat.le_of_ble_eq_true rfl) (by decide) (by decide) dX11_verdictNow_4 ?_
  rintro _ _ h1 ⟨rfl, rfl, hq⟩
  refine ck_aload_n 0 dX11_verdictNow_7 rfl rfl ?_
  refine ck_getR clX11 5 rfl rfl (by decide) fl_X11_70 dX11_verdictNow_8 ?_
  refine ck_aload_n 0 dX11_verdictNow_11 rfl rfl ?_
  refine ck_getR clX11 2 rfl rfl (by decide) fl_X11_27 dX11_verdictNow_12 ?_
  refine ck_aload_n 0 dX11_verdictNow_15 rfl rfl ?_
  refine ck_getR clX11 2 rfl rfl (by decide) fl_X11_27 dX11_verdictNow_16 ?_
  refine ck_getRN clX1 1 rfl rfl (by decide) fl_X11_143 dX11_verdictNow_19 ?_
  refine ck_iload_n 1 dX11_verdictNow_22 rfl rfl ?_
  obtain ⟨b2, hq⟩ := hq
  refine ck_iald rfl rfl b2 dX11_verdictNow_23 ?_
  refine ck_aload_n 0 dX11_verdictNow_24 rfl rfl ?_
  refine ck_getR clX11 9 rfl rfl (by decide) fl_X11_54 dX11_verdictNow_25 ?_
  refine ck_getRN clX7 9 rfl rfl (by decide) fl_X11_147 dX11_verdictNow_28 ?_
  refine ck_iload_n 1 dX11_verdictNow_31 rfl rfl ?_
  obtain ⟨b3, hq⟩ := hq
  refine ck_iald rfl rfl b3 dX11_verdictNow_32 ?_
  refine ck_aload_n 0 dX11_verdictNow_33 rfl rfl ?_
  refine ck_getR clX11 5 rfl rfl (by decide) fl_X11_70 dX11_verdictNow_34 ?_
  refine ck_aload_n 0 dX11_verdictNow_37 rfl rfl ?_
  refine ck_getR clX11 2 rfl rfl (by decide) fl_X11_27 dX11_verdictNow_38 ?_
  refine ck_iload_n 1 dX11_verdictNow_41 rfl rfl ?_
  refine ck_callV (c_X10_hardnessOf (by simp) hq) rfl cal_X10_hardnessOf rfl ml_X11_293 vir_X10_hardnessOf rfl rfl (by decide) (Nat.le_of_ble_eq_true rfl) (Nat.le_of_ble_eq_true rfl) (by decide) (by decide) dX11_verdictNow_42 ?_
  rintro _ _ h4 ⟨r5, rfl, rfl, hq⟩
  refine ck_callV (c_X10_measured (by simp) hq) rfl cal_X10_measured rfl ml_X11_275 vir_X10_measured rfl rfl (by decide) (Nat.le_of_ble_eq_true rfl) (Nat.le_of_ble_eq_true rfl) (by decide) (by decide) dX11_verdictNow_45 ?_
  rintro _ _ h6 ⟨r7, rfl, rfl, hq⟩
  exact ck_iret rfl rfl rfl rfl dX11_verdictNow_48 ⟨_, rfl, rfl, hq⟩
def wp_X11_shareOfFirst_33 (Q : Int32 → ck_H → Prop) (x0 : Int32) (y0 : Int32) (h : ck_H) : Prop := Q (y0 - ((5 : Int32) * x0)) h
def wp_X11_shareOfFirst_12 (Q : Int32 → ck_H → Prop) (x0 : Int32) (x2 : Int32) (x3 : Int32) (h : ck_H) : Prop := ((¬ x2 = (1 : Int32) → ((¬ x2 = (2 : Int32) → wp_X11_shareOfFirst_33 Q x0 (0 : Int32) h) ∧ (x2 = (2 : Int32) → wp_X11_shareOfFirst_33 Q x0 (x3 / (2 : Int32)) h))) ∧ (x2 = (1 : Int32) → wp_X11_shareOfFirst_33 Q x0 x3 h))
def wp_X11_shareOfFirst (x0 : Int32) (x1 : Int32) (x2 : Int32) (x3 : Int32) (h : ck_H) (Q : Int32 → ck_H → Prop) : Prop := ((¬ x0 = 0 → wp_X11_shareOfFirst_12 Q x0 x2 x3 h) ∧ (x0 = 0 → ((¬ x1 = 0 → wp_X11_shareOfFirst_12 Q x0 x2 x3 h) ∧ (x1 = 0 → Q (x3 / (2 : Int32)) h))))
set_option maxHeartbeats 4000000 in
set_option maxRecDepth 100000 in
theorem cp_X11_shareOfFirst_33 {gr : Bool} {Q : Int32 → ck_H → Prop} : ∀ (x0 : Int32) (y0 : Int32) (h : ck_H), wp_X11_shareOfFirst_33 Q x0 y0 h → ck_W cX11_shareOfFirst 5 RX11 (some .int) 2 0 0 false gr (ck_Qi ck_shX Q) ck_shX h 0 0 33 [(0, .int x0)] [.int y0] := by
  intro x0 y0 h hq
  refine ck_istore (lv' := [(4, .int y0), (0, .int x0)]) dX11_shareOfFirst_33 (by decide) rfl ?_
  refine ck_iload 0 dX11_shareOfFirst_35 rfl ?_
  refine ck_iconst (v := 5) dX11_shareOfFirst_37 (by decide) ?_
  refine ck_iload_n 1 dX11_shareOfFirst_38 rfl rfl ?_
  refine ck_imul dX11_shareOfFirst_39 ?_
  refine ck_isub dX11_shareOfFirst_40 ?_
  exact ck_iret rfl rfl rfl rfl dX11_shareOfFirst_41 ⟨_, rfl, rfl, hq⟩
set_option maxHeartbeats 4000000 in
set_option maxRecDepth 100000 in
theorem cp_X11_shareOfFirst_12 {gr : Bool} {Q : Int32 → ck_H → Prop} : ∀ (x0 : Int32) (x2 : Int32) (x3 : Int32) (h : ck_H), wp_X11_shareOfFirst_12 Q x0 x2 x3 h → ck_W cX11_shareOfFirst 5 RX11 (some .int) 2 0 0 false gr (ck_Qi ck_shX Q) ck_shX h 0 0 12 [(0, .int x0), (2, .int x2), (3, .int x3)] [] := by
  intro x0 x2 x3 h hq
  refine ck_iload_n 1 dX11_shareOfFirst_12 rfl rfl ?_
  refine ck_iconst (v := 1) dX11_shareOfFirst_13 (by decide) ?_
  refine ck_icmp_ne (tgt := 21) dX11_shareOfFirst_14 (by decide) (fun c2 => ?_) (fun c2 => ?_)
  · have hq := hq.1 c2
    refine ck_iload_n 1 dX11_shareOfFirst_21 rfl rfl ?_
    refine ck_iconst (v := 2) dX11_shareOfFirst_22 (by decide) ?_
    refine ck_icmp_ne (tgt := 32) dX11_shareOfFirst_23 (by decide) (fun c3 => ?_) (fun c3 => ?_)
    · have hq := hq.1 c3
      refine ck_iconst (v := 0) dX11_shareOfFirst_32 (by decide) ?_
      refine ck_loc [0] rfl ?_
      exact cp_X11_shareOfFirst_33 _ _ _ hq
    · have hq := hq.2 c3
      refine ck_iload_n 2 dX11_shareOfFirst_26 rfl rfl ?_
      refine ck_iconst (v := 2) dX11_shareOfFirst_27 (by decide) ?_
      refine ck_idiv dX11_shareOfFirst_28 (by decide) ?_
      refine ck_goto (tgt := 33) dX11_shareOfFirst_29 (by decide) ?_
      refine ck_loc [0] rfl ?_
      exact cp_X11_shareOfFirst_33 _ _ _ hq
  · have hq := hq.2 c2
    refine ck_iload_n 2 dX11_shareOfFirst_17 rfl rfl ?_
    refine ck_goto (tgt := 33) dX11_shareOfFirst_18 (by decide) ?_
    refine ck_loc [0] rfl ?_
    exact cp_X11_shareOfFirst_33 _ _ _ hq
set_option maxHeartbeats 4000000 in
set_option maxRecDepth 100000 in
theorem c_X11_shareOfFirst {gr : Bool} {x0 : Int32} {x1 : Int32} {x2 : Int32} {x3 : Int32} {h : ck_H} {Q : Int32 → ck_H → Prop} (hq : wp_X11_shareOfFirst x0 x1 x2 x3 h Q) : ck_M yX11_shareOfFirst cX11_shareOfFirst 5 (some .int) 2 0 0 gr ck_shX h [.int x0, .int x1, .int x2, .int x3] (ck_Qi ck_shX Q) := by
  refine ck_entry (lv := [(0, .int x0), (1, .int x1), (2, .int x2), (3, .int x3)]) false (own := RX11) rfl (fun q => by cases q) (by decide) (Nat.le_of_ble_eq_true rfl) rfl ?_
  refine ck_iload_n 0 dX11_shareOfFirst_0 rfl rfl ?_
  refine ck_if_ne (tgt := 12) dX11_shareOfFirst_1 (by decide) (fun c1 => ?_) (fun c1 => ?_)
  · have hq := hq.1 c1
    refine ck_loc [0, 2, 3] rfl ?_
    exact cp_X11_shareOfFirst_12 _ _ _ _ hq
  · have hq := hq.2 c1
    refine ck_iload_n 1 dX11_shareOfFirst_4 rfl rfl ?_
    refine ck_if_ne (tgt := 12) dX11_shareOfFirst_5 (by decide) (fun c4 => ?_) (fun c4 => ?_)
    · have hq := hq.1 c4
      refine ck_loc [0, 2, 3] rfl ?_
      exact cp_X11_shareOfFirst_12 _ _ _ _ hq
    · have hq := hq.2 c4
      refine ck_iload_n 3 dX11_shareOfFirst_8 rfl rfl ?_
      refine ck_iconst (v := 2) dX11_shareOfFirst_9 (by decide) ?_
      refine ck_idiv dX11_shareOfFirst_10 (by decide) ?_
      exact ck_iret rfl rfl rfl rfl dX11_shareOfFirst_11 ⟨_, rfl, rfl, hq⟩
def wp_X11_shareOfSecond_12 (Q : Int32 → ck_H → Prop) (x1 : Int32) (x2 : Int32) (x3 : Int32) (h : ck_H) : Prop := ((¬ x2 = (2 : Int32) → Q ((0 : Int32) - ((5 : Int32) * x1)) h) ∧ (x2 = (2 : Int32) → Q ((x3 / (2 : Int32)) - ((5 : Int32) * x1)) h))
def wp_X11_shareOfSecond (x0 : Int32) (x1 : Int32) (x2 : Int32) (x3 : Int32) (h : ck_H) (Q : Int32 → ck_H → Prop) : Prop := ((¬ x0 = 0 → wp_X11_shareOfSecond_12 Q x1 x2 x3 h) ∧ (x0 = 0 → ((¬ x1 = 0 → wp_X11_shareOfSecond_12 Q x1 x2 x3 h) ∧ (x1 = 0 → Q (x3 / (2 : Int32)) h))))
set_option maxHeartbeats 4000000 in
set_option maxRecDepth 100000 in
theorem cp_X11_shareOfSecond_12 {gr : Bool} {Q : Int32 → ck_H → Prop} : ∀ (x1 : Int32) (x2 : Int32) (x3 : Int32) (h : ck_H), wp_X11_shareOfSecond_12 Q x1 x2 x3 h → ck_W cX11_shareOfSecond 4 RX11 (some .int) 2 0 0 false gr (ck_Qi ck_shX Q) ck_shX h 0 0 12 [(1, .int x1), (2, .int x2), (3, .int x3)] [] := by
  intro x1 x2 x3 h hq
  refine ck_iload_n 1 dX11_shareOfSecond_12 rfl rfl ?_
  refine ck_iconst (v := 2) dX11_shareOfSecond_13 (by decide) ?_
  refine ck_icmp_ne (tgt := 23) dX11_shareOfSecond_14 (by decide) (fun c2 => ?_) (fun c2 => ?_)
  · have hq := hq.1 c2
    refine ck_iconst (v := 0) dX11_shareOfSecond_23 (by decide) ?_
    refine ck_iconst (v := 5) dX11_shareOfSecond_24 (by decide) ?_
    refine ck_iload_n 0 dX11_shareOfSecond_25 rfl rfl ?_
    refine ck_imul dX11_shareOfSecond_26 ?_
    refine ck_isub dX11_shareOfSecond_27 ?_
    exact ck_iret rfl rfl rfl rfl dX11_shareOfSecond_28 ⟨_, rfl, rfl, hq⟩
  · have hq := hq.2 c2
    refine ck_iload_n 2 dX11_shareOfSecond_17 rfl rfl ?_
    refine ck_iconst (v := 2) dX11_shareOfSecond_18 (by decide) ?_
    refine ck_idiv dX11_shareOfSecond_19 (by decide) ?_
    refine ck_goto (tgt := 24) dX11_shareOfSecond_20 (by decide) ?_
    refine ck_iconst (v := 5) dX11_shareOfSecond_24 (by decide) ?_
    refine ck_iload_n 0 dX11_shareOfSecond_25 rfl rfl ?_
    refine ck_imul dX11_shareOfSecond_26 ?_
    refine ck_isub dX11_shareOfSecond_27 ?_
    exact ck_iret rfl rfl rfl rfl dX11_shareOfSecond_28 ⟨_, rfl, rfl, hq⟩
set_option maxHeartbeats 4000000 in
set_option maxRecDepth 100000 in
theorem c_X11_shareOfSecond {gr : Bool} {x0 : Int32} {x1 : Int32} {x2 : Int32} {x3 : Int32} {h : ck_H} {Q : Int32 → ck_H → Prop} (hq : wp_X11_shareOfSecond x0 x1 x2 x3 h Q) : ck_M yX11_shareOfSecond cX11_shareOfSecond 4 (some .int) 2 0 0 gr ck_shX h [.int x0, .int x1, .int x2, .int x3] (ck_Qi ck_shX Q) := by
  refine ck_entry (lv := [(0, .int x0), (1, .int x1), (2, .int x2), (3, .int x3)]) false (own := RX11) rfl (fun q => by cases q) (by decide) (Nat.le_of_ble_eq_true rfl) rfl ?_
  refine ck_iload_n 0 dX11_shareOfSecond_0 rfl rfl ?_
  refine ck_if_ne (tgt := 12) dX11_shareOfSecond_1 (by decide) (fun c1 => ?_) (fun c1 => ?_)
  · have hq := hq.1 c1
    refine ck_loc [1, 2, 3] rfl ?_
    exact cp_X11_shareOfSecond_12 _ _ _ _ hq
  · have hq := hq.2 c1
    refine ck_iload_n 1 dX11_shareOfSecond_4 rfl rfl ?_
    refine ck_if_ne (tgt := 12) dX11_shareOfSecond_5 (by decide) (fun c3 => ?_) (fun c3 => ?_)
    · have hq := hq.1 c3
      refine ck_loc [1, 2, 3] rfl ?_
      exact cp_X11_shareOfSecond_12 _ _ _ _ hq
    · have hq := hq.2 c3
      refine ck_iload_n 3 dX11_shareOfSecond_8 rfl rfl ?_
      refine ck_iconst (v := 2) dX11_shareOfSecond_9 (by decide) ?_
      refine ck_idiv dX11_shareOfSecond_10 (by decide) ?_
      exact ck_iret rfl rfl rfl rfl dX11_shareOfSecond_11 ⟨_, rfl, rfl, hq⟩
def wp_X11_isRest (x0 : Int32) (x1 : Int32) (x2 : Int32) (x3 : Int32) (h : ck_H) (Q : Int32 → ck_H → Prop) : Prop := (wp_X11_shareOfFirst x0 x1 x2 x3 h (fun r2 h1 => (wp_X11_shareOfFirst ((1 : Int32) - x0) x1 x2 x3 h1 (fun r4 h3 => ((r2 < r4 → Q (0 : Int32) h3) ∧ (¬ r2 < r4 → (wp_X11_shareOfSecond x0 x1 x2 x3 h3 (fun r7 h6 => (wp_X11_shareOfSecond x0 ((1 : Int32) - x1) x2 x3 h6 (fun r9 h8 => ((r7 < r9 → Q (0 : Int32) h8) ∧ (¬ r7 < r9 → Q (1 : Int32) h8))))))))))))
set_option maxHeartbeats 4000000 in
set_option maxRecDepth 100000 in
theorem c_X11_isRest {gr : Bool} {x0 : Int32} {x1 : Int32} {x2 : Int32} {x3 : Int32} {h : ck_H} {Q : Int32 → ck_H → Prop} (hq : wp_X11_isRest x0 x1 x2 x3 h Q) : ck_M yX11_isRest cX11_isRest 4 (some .boolean) 3 0 0 gr ck_shX h [.int x0, .int x1, .int x2, .int x3] (ck_Qi ck_shX Q) := by
  refine ck_entry (lv := [(0, .int x0), (1, .int x1), (2, .int x2), (3, .int x3)]) false (own := RX11) rfl (fun q => by cases q) (by decide) (Nat.le_of_ble_eq_true rfl) rfl ?_
  refine ck_iload_n 0 dX11_isRest_0 rfl rfl ?_
  refine ck_iload_n 1 dX11_isRest_1 rfl rfl ?_
  refine ck_iload_n 2 dX11_isRest_2 rfl rfl ?_
  refine ck_iload_n 3 dX11_isRest_3 rfl rfl ?_
  refine ck_callS (c_X11_shareOfFirst hq) rfl cal_X11_shareOfFirst rfl ml_X11_358 sta_X11_shareOfFirst (by decide) (Nat.le_of_ble_eq_true rfl) (Nat.le_of_ble_eq_true rfl) (by decide) (by decide) dX11_isRest_4 ?_
  rintro _ _ h1 ⟨r2, rfl, rfl, hq⟩
  refine ck_iconst (v := 1) dX11_isRest_7 (by decide) ?_
  refine ck_iload_n 0 dX11_isRest_8 rfl rfl ?_
  refine ck_isub dX11_isRest_9 ?_
  refine ck_iload_n 1 dX11_isRest_10 rfl rfl ?_
  refine ck_iload_n 2 dX11_isRest_11 rfl rfl ?_
  refine ck_iload_n 3 dX11_isRest_12 rfl rfl ?_
  refine ck_callS (c_X11_shareOfFirst hq) rfl cal_X11_shareOfFirst rfl ml_X11_358 sta_X11_shareOfFirst (by decide) (Nat.le_of_ble_eq_true rfl) (Nat.le_of_ble_eq_true rfl) (by decide) (by decide) dX11_isRest_13 ?_
  rintro _ _ h3 ⟨r4, rfl, rfl, hq⟩
  refine ck_icmp_lt (tgt := 42) dX11_isRest_16 (by decide) (fun c5 => ?_) (fun c5 => ?_)
  · have hq := hq.1 c5
    refine ck_iconst (v := 0) dX11_isRest_42 (by decide) ?_
    exact ck_iret rfl (by decide) rfl rfl dX11_isRest_43 ⟨_, rfl, rfl, hq⟩
  · have hq := hq.2 c5
    refine ck_iload_n 0 dX11_isRest_19 rfl rfl ?_
    refine ck_iload_n 1 dX11_isRest_20 rfl rfl ?_
    refine ck_iload_n 2 dX11_isRest_21 rfl rfl ?_
    refine ck_iload_n 3 dX11_isRest_22 rfl rfl ?_
    refine ck_callS (c_X11_shareOfSecond hq) rfl cal_X11_shareOfSecond rfl ml_X11_362 sta_X11_shareOfSecond (by decide) (Nat.le_of_ble_eq_true rfl) (Nat.le_of_ble_eq_true rfl) (by decide) (by decide) dX11_isRest_23 ?_
    rintro _ _ h6 ⟨r7, rfl, rfl, hq⟩
    refine ck_iload_n 0 dX11_isRest_26 rfl rfl ?_
    refine ck_iconst (v := 1) dX11_isRest_27 (by decide) ?_
    refine ck_iload_n 1 dX11_isRest_28 rfl rfl ?_
    refine ck_isub dX11_isRest_29 ?_
    refine ck_iload_n 2 dX11_isRest_30 rfl rfl ?_
    refine ck_iload_n 3 dX11_isRest_31 rfl rfl ?_
    refine ck_callS (c_X11_shareOfSecond hq) rfl cal_X11_shareOfSecond rfl ml_X11_362 sta_X11_shareOfSecond (by decide) (Nat.le_of_ble_eq_true rfl) (Nat.le_of_ble_eq_true rfl) (by decide) (by decide) dX11_isRest_32 ?_
    rintro _ _ h8 ⟨r9, rfl, rfl, hq⟩
    refine ck_icmp_lt (tgt := 42) dX11_isRest_35 (by decide) (fun c10 => ?_) (fun c10 => ?_)
    · have hq := hq.1 c10
      refine ck_iconst (v := 0) dX11_isRest_42 (by decide) ?_
      exact ck_iret rfl (by decide) rfl rfl dX11_isRest_43 ⟨_, rfl, rfl, hq⟩
    · have hq := hq.2 c10
      refine ck_iconst (v := 1) dX11_isRest_38 (by decide) ?_
      refine ck_goto (tgt := 43) dX11_isRest_39 (by decide) ?_
      exact ck_iret rfl (by decide) rfl rfl dX11_isRest_43 ⟨_, rfl, rfl, hq⟩
def wp_X11_rests_65 (Q : Int32 → ck_H → Prop) (Kc : Int32 → Int32 → Int32 → Int32 → ck_H → Prop) (x2 : Int32) (x3 : Int32) (x4 : Int32) (x5 : Int32) (h : ck_H) : Prop := (∀ v13, v13 = x5 + 1 → Kc x2 x3 x4 v13 h)
def wp_X11_rests_40 (Q : Int32 → ck_H → Prop) : Nat → Int32 → Int32 → Int32 → Int32 → ck_H → Prop
  | 0 => fun _ _ _ _ _ => False
  | n + 1 => fun x2 x3 x4 x5 h => (((4 : Int32) ≤ x5 → Q x4 h) ∧ (¬ (4 : Int32) ≤ x5 → (wp_X11_isRest (x5 / (2 : Int32)) (ck_rem x5 (2 : Int32)) x2 x3 h (fun r11 h10 => ((r11 = 0 → wp_X11_rests_65 Q (wp_X11_rests_40 Q n) x2 x3 x4 x5 h10) ∧ (¬ r11 = 0 → (∀ v14, v14 = x4 + 1 → wp_X11_rests_65 Q (wp_X11_rests_40 Q n) x2 x3 v14 x5 h10)))))))
def wp_X11_rests (x1 : Int32) (h : ck_H) (Q : Int32 → ck_H → Prop) : Prop := (wp_X11_isPending x1 h (fun r2 h1 => ((¬ r2 = 0 → (wp_X11_verdictNow x1 h1 (fun r5 h4 => (vp_in x1 10 ∧ (vp_in (h4.1 45 x1.toNatClampNeg) 6 ∧ (∀ v8, v8 = (h4.1 40 (h4.1 45 x1.toNatClampNeg).toNatClampNeg) → wp_X11_rests_40 Q lpN r5 v8 (0 : Int32) (0 : Int32) h4)))))) ∧ (r2 = 0 → Q (-1 : Int32) h1))))
set_option maxHeartbeats 4000000 in
set_option maxRecDepth 100000 in
theorem cp_X11_rests_65 {gr : Bool} {Q : Int32 → ck_H → Prop} {Kc : Int32 → Int32 → Int32 → Int32 → ck_H → Prop} (hKc : ∀ (x2 : Int32) (x3 : Int32) (x4 : Int32) (x5 : Int32) (h : ck_H), Kc x2 x3 x4 x5 h → ck_W cX11_rests 6 RX11 (some .int) 7 0 0 false gr (ck_Qi ck_shX Q) ck_shX h 0 0 40 [(2, .int x2), (3, .int x3), (4, .int x4), (5, .int x5)] []) : ∀ (x2 : Int32) (x3 : Int32) (x4 : Int32) (x5 : Int32) (h : ck_H), wp_X11_rests_65 Q Kc x2 x3 x4 x5 h → ck_W cX11_rests 6 RX11 (some .int) 7 0 0 false gr (ck_Qi ck_shX Q) ck_shX h 0 0 65 [(2, .int x2), (3, .int x3), (4, .int x4), (5, .int x5)] [] := by
  intro x2 x3 x4 x5 h hq
  obtain ⟨v13, ev13⟩ : ∃ z : Int32, z = x5 + 1 := ⟨_, rfl⟩
  have hq := hq v13 ev13
  refine ck_iinc (v := v13) (lv' := [(5, .int v13), (2, .int x2), (3, .int x3), (4, .int x4)]) 3 dX11_rests_65 rfl (by rw [ev13]; rfl) (by decide) rfl ?_
  refine ck_goto (tgt := 40) dX11_rests_68 (by decide) ?_
  refine ck_loc [1, 2, 3, 0] rfl ?_
  exact hKc _ _ _ _ _ hq
set_option maxHeartbeats 4000000 in
set_option maxRecDepth 100000 in
theorem cp_X11_rests_40 {gr : Bool} {Q : Int32 → ck_H → Prop} : ∀ (n : Nat) (x2 : Int32) (x3 : Int32) (x4 : Int32) (x5 : Int32) (h : ck_H), wp_X11_rests_40 Q n x2 x3 x4 x5 h → ck_W cX11_rests 6 RX11 (some .int) 7 0 0 false gr (ck_Qi ck_shX Q) ck_shX h 0 0 40 [(2, .int x2), (3, .int x3), (4, .int x4), (5, .int x5)] [] := by
  intro n
  induction n with
  | zero => intro x2 x3 x4 x5 h hq; exact hq.elim
  | succ n hKc =>
    intro x2 x3 x4 x5 h hq
    refine ck_iload 3 dX11_rests_40 rfl ?_
    refine ck_iconst (v := 4) dX11_rests_42 (by decide) ?_
    refine ck_icmp_ge (tgt := 71) dX11_rests_43 (by decide) (fun c9 => ?_) (fun c9 => ?_)
    · have hq := hq.1 c9
      refine ck_iload 2 dX11_rests_71 rfl ?_
      exact ck_iret rfl rfl rfl rfl dX11_rests_73 ⟨_, rfl, rfl, hq⟩
    · have hq := hq.2 c9
      refine ck_iload 3 dX11_rests_46 rfl ?_
      refine ck_iconst (v := 2) dX11_rests_48 (by decide) ?_
      refine ck_idiv dX11_rests_49 (by decide) ?_
      refine ck_iload 3 dX11_rests_50 rfl ?_
      refine ck_iconst (v := 2) dX11_rests_52 (by decide) ?_
      refine ck_irem dX11_rests_53 (by decide) ?_
      refine ck_iload_n 0 dX11_rests_54 rfl rfl ?_
      refine ck_iload_n 1 dX11_rests_55 rfl rfl ?_
      refine ck_callS (c_X11_isRest hq) rfl cal_X11_isRest rfl ml_X11_285 sta_X11_isRest (by decide) (Nat.le_of_ble_eq_true rfl) (Nat.le_of_ble_eq_true rfl) (by decide) (by decide) dX11_rests_56 ?_
      rintro _ _ h10 ⟨r11, rfl, rfl, hq⟩
      refine ck_if_eq (tgt := 65) dX11_rests_59 (by decide) (fun c12 => ?_) (fun c12 => ?_)
      · have hq := hq.1 c12
        exact cp_X11_rests_65 hKc _ _ _ _ _ hq
      · have hq := hq.2 c12
        obtain ⟨v14, ev14⟩ : ∃ z : Int32, z = x4 + 1 := ⟨_, rfl⟩
        have hq := hq v14 ev14
        refine ck_iinc (v := v14) (lv' := [(4, .int v14), (2, .int x2), (3, .int x3), (5, .int x5)]) 2 dX11_rests_62 rfl (by rw [ev14]; rfl) (by decide) rfl ?_
        refine ck_loc [1, 2, 0, 3] rfl ?_
        exact cp_X11_rests_65 hKc _ _ _ _ _ hq
set_option maxHeartbeats 4000000 in
set_option maxRecDepth 100000 in
theorem c_X11_rests {gr : Bool} {x1 : Int32} {h : ck_H} {Q : Int32 → ck_H → Prop} (hq : wp_X11_rests x1 h Q) : ck_M yX11_rests cX11_rests 6 (some .int) 7 0 0 gr ck_shX h [.ref 0, .int x1] (ck_Qi ck_shX Q) := by
  refine ck_entry (lv := [(0, .ref 0), (1, .int x1)]) false (own := RX11) rfl (fun q => by cases q) (by decide) (Nat.le_of_ble_eq_true rfl) rfl ?_
  refine ck_aload_n 0 dX11_rests_0 rfl rfl ?_
  refine ck_iload_n 1 dX11_rests_1 rfl rfl ?_
  refine ck_callV (c_X11_isPending hq) rfl cal_X11_isPending rfl ml_X11_221 vir_X11_isPending rfl rfl (by decide) (Nat.le_of_ble_eq_true rfl) (Nat.le_of_ble_eq_true rfl) (by decide) (by decide) dX11_rests_2 ?_
  rintro _ _ h1 ⟨r2, rfl, rfl, hq⟩
  refine ck_if_ne (tgt := 10) dX11_rests_5 (by decide) (fun c3 => ?_) (fun c3 => ?_)
  · have hq := hq.1 c3
    refine ck_aload_n 0 dX11_rests_10 rfl rfl ?_
    refine ck_iload_n 1 dX11_rests_11 rfl rfl ?_
    refine ck_callV (c_X11_verdictNow hq) rfl cal_X11_verdictNow rfl ml_X11_282 vir_X11_verdictNow rfl rfl (by decide) (Nat.le_of_ble_eq_true rfl) (Nat.le_of_ble_eq_true rfl) (by decide) (by decide) dX11_rests_12 ?_
    rintro _ _ h4 ⟨r5, rfl, rfl, hq⟩
    refine ck_istore_n (lv' := [(2, .int r5), (0, .ref 0), (1, .int x1)]) dX11_rests_15 rfl (by decide) rfl ?_
    refine ck_aload_n 1 dX11_rests_16 rfl rfl ?_
    refine ck_getR clX11 9 rfl rfl (by decide) fl_X11_54 dX11_rests_17 ?_
    refine ck_getRN clX7 5 rfl rfl (by decide) fl_X11_189 dX11_rests_20 ?_
    refine ck_aload_n 1 dX11_rests_23 rfl rfl ?_
    refine ck_getR clX11 9 rfl rfl (by decide) fl_X11_54 dX11_rests_24 ?_
    refine ck_getRN clX7 9 rfl rfl (by decide) fl_X11_147 dX11_rests_27 ?_
    refine ck_iload_n 2 dX11_rests_30 rfl rfl ?_
    obtain ⟨b6, hq⟩ := hq
    refine ck_iald rfl rfl b6 dX11_rests_31 ?_
    obtain ⟨b7, hq⟩ := hq
    refine ck_iald rfl rfl b7 dX11_rests_32 ?_
    refine ck_nmI (fun v8 ev8 => ?_)
    have hq := hq v8 ev8
    refine ck_istore_n (lv' := [(3, .int v8), (2, .int r5), (0, .ref 0), (1, .int x1)]) dX11_rests_33 rfl (by decide) rfl ?_
    refine ck_iconst (v := 0) dX11_rests_34 (by decide) ?_
    refine ck_istore (lv' := [(4, .int (0 : Int32)), (3, .int v8), (2, .int r5), (0, .ref 0), (1, .int x1)]) dX11_rests_35 (by decide) rfl ?_
    refine ck_iconst (v := 0) dX11_rests_37 (by decide) ?_
    refine ck_istore (lv' := [(5, .int (0 : Int32)), (4, .int (0 : Int32)), (3, .int v8), (2, .int r5), (0, .ref 0), (1, .int x1)]) dX11_rests_38 (by decide) rfl ?_
    refine ck_loc [3, 2, 1, 0] rfl ?_
    refine cp_X11_rests_40 lpN _ _ _ _ _ hq
  · have hq := hq.2 c3
    refine ck_iconst (v := -1) dX11_rests_8 (by decide) ?_
    exact ck_iret rfl rfl rfl rfl dX11_rests_9 ⟨_, rfl, rfl, hq⟩
def wp_X11_rest_90 (Q : Int32 → ck_H → Prop) (K74 : Int32 → ck_H → Prop) (Kc : Int32 → Int32 → Int32 → Int32 → Int32 → ck_H → Prop) (x2 : Int32) (x3 : Int32) (x4 : Int32) (x5 : Int32) (x6 : Int32) (h : ck_H) : Prop := (∀ v14, v14 = x6 + 1 → Kc x2 x3 x4 x5 v14 h)
def wp_X11_rest_45 (Q : Int32 → ck_H → Prop) (K74 : Int32 → ck_H → Prop) : Nat → Int32 → Int32 → Int32 → Int32 → Int32 → ck_H → Prop
  | 0 => fun _ _ _ _ _ _ => False
  | n + 1 => fun x2 x3 x4 x5 x6 h => (((4 : Int32) ≤ x6 → Q (-2 : Int32) h) ∧ (¬ (4 : Int32) ≤ x6 → (wp_X11_isRest (x6 / (2 : Int32)) (ck_rem x6 (2 : Int32)) x3 x4 h (fun r12 h11 => ((r12 = 0 → wp_X11_rest_90 Q K74 (wp_X11_rest_45 Q K74 n) x2 x3 x4 x5 x6 h11) ∧ (¬ r12 = 0 → ((¬ x5 = x2 → (∀ v16, v16 = x5 + 1 → wp_X11_rest_90 Q K74 (wp_X11_rest_45 Q K74 n) x2 x3 x4 v16 x6 h11)) ∧ (x5 = x2 → K74 x6 h11))))))))
def wp_X11_rest (x1 : Int32) (x2 : Int32) (h : ck_H) (Q : Int32 → ck_H → Prop) : Prop := (wp_X11_isPending x1 h (fun r2 h1 => ((r2 = 0 → Q (-1 : Int32) h1) ∧ (¬ r2 = 0 → ((0 ≤ x2 → (wp_X11_verdictNow x1 h1 (fun r6 h5 => (vp_in x1 10 ∧ (vp_in (h5.1 45 x1.toNatClampNeg) 6 ∧ (∀ v9, v9 = (h5.1 40 (h5.1 45 x1.toNatClampNeg).toNatClampNeg) → wp_X11_rest_45 Q (fun x18 h17 => Q (((10 : Int32) * (x18 / (2 : Int32))) + (ck_rem x18 (2 : Int32))) h17) lpN x2 r6 v9 (0 : Int32) (0 : Int32) h5)))))) ∧ (¬ 0 ≤ x2 → Q (-1 : Int32) h1))))))
set_option maxHeartbeats 4000000 in
set_option maxRecDepth 100000 in
theorem cp_X11_rest_90 {gr : Bool} {Q : Int32 → ck_H → Prop} {K74 : Int32 → ck_H → Prop} {Kc : Int32 → Int32 → Int32 → Int32 → Int32 → ck_H → Prop} (hK74 : ∀ (x6 : Int32) (h : ck_H), K74 x6 h → ck_W cX11_rest 7 RX11 (some .int) 7 0 0 false gr (ck_Qi ck_shX Q) ck_shX h 0 0 74 [(6, .int x6)] []) (hKc : ∀ (x2 : Int32) (x3 : Int32) (x4 : Int32) (x5 : Int32) (x6 : Int32) (h : ck_H), Kc x2 x3 x4 x5 x6 h → ck_W cX11_rest 7 RX11 (some .int) 7 0 0 false gr (ck_Qi ck_shX Q) ck_shX h 0 0 45 [(2, .int x2), (3, .int x3), (4, .int x4), (5, .int x5), (6, .int x6)] []) : ∀ (x2 : Int32) (x3 : Int32) (x4 : Int32) (x5 : Int32) (x6 : Int32) (h : ck_H), wp_X11_rest_90 Q K74 Kc x2 x3 x4 x5 x6 h → ck_W cX11_rest 7 RX11 (some .int) 7 0 0 false gr (ck_Qi ck_shX Q) ck_shX h 0 0 90 [(2, .int x2), (3, .int x3), (4, .int x4), (5, .int x5), (6, .int x6)] [] := by
  intro x2 x3 x4 x5 x6 h hq
  obtain ⟨v14, ev14⟩ : ∃ z : Int32, z = x6 + 1 := ⟨_, rfl⟩
  have hq := hq v14 ev14
  refine ck_iinc (v := v14) (lv' := [(6, .int v14), (2, .int x2), (3, .int x3), (4, .int x4), (5, .int x5)]) 4 dX11_rest_90 rfl (by rw [ev14]; rfl) (by decide) rfl ?_
  refine ck_goto (tgt := 45) dX11_rest_93 (by decide) ?_
  refine ck_loc [1, 2, 3, 4, 0] rfl ?_
  exact hKc _ _ _ _ _ _ hq
set_option maxHeartbeats 4000000 in
set_option maxRecDepth 100000 in
theorem cp_X11_rest_45 {gr : Bool} {Q : Int32 → ck_H → Prop} {K74 : Int32 → ck_H → Prop} (hK74 : ∀ (x6 : Int32) (h : ck_H), K74 x6 h → ck_W cX11_rest 7 RX11 (some .int) 7 0 0 false gr (ck_Qi ck_shX Q) ck_shX h 0 0 74 [(6, .int x6)] []) : ∀ (n : Nat) (x2 : Int32) (x3 : Int32) (x4 : Int32) (x5 : Int32) (x6 : Int32) (h : ck_H), wp_X11_rest_45 Q K74 n x2 x3 x4 x5 x6 h → ck_W cX11_rest 7 RX11 (some .int) 7 0 0 false gr (ck_Qi ck_shX Q) ck_shX h 0 0 45 [(2, .int x2), (3, .int x3), (4, .int x4), (5, .int x5), (6, .int x6)] [] := by
  intro n
  induction n with
  | zero => intro x2 x3 x4 x5 x6 h hq; exact hq.elim
  | succ n hKc =>
    intro x2 x3 x4 x5 x6 h hq
    refine ck_iload 4 dX11_rest_45 rfl ?_
    refine ck_iconst (v := 4) dX11_rest_47 (by decide) ?_
    refine ck_icmp_ge (tgt := 96) dX11_rest_48 (by decide) (fun c10 => ?_) (fun c10 => ?_)
    · have hq := hq.1 c10
      refine ck_bipush (v := -2) dX11_rest_96 (by decide) ?_
      exact ck_iret rfl rfl rfl rfl dX11_rest_98 ⟨_, rfl, rfl, hq⟩
    · have hq := hq.2 c10
      refine ck_iload 4 dX11_rest_51 rfl ?_
      refine ck_iconst (v := 2) dX11_rest_53 (by decide) ?_
      refine ck_idiv dX11_rest_54 (by decide) ?_
      refine ck_iload 4 dX11_rest_55 rfl ?_
      refine ck_iconst (v := 2) dX11_rest_57 (by decide) ?_
      refine ck_irem dX11_rest_58 (by decide) ?_
      refine ck_iload_n 1 dX11_rest_59 rfl rfl ?_
      refine ck_iload 2 dX11_rest_60 rfl ?_
      refine ck_callS (c_X11_isRest hq) rfl cal_X11_isRest rfl ml_X11_285 sta_X11_isRest (by decide) (Nat.le_of_ble_eq_true rfl) (Nat.le_of_ble_eq_true rfl) (by decide) (by decide) dX11_rest_62 ?_
      rintro _ _ h11 ⟨r12, rfl, rfl, hq⟩
      refine ck_if_eq (tgt := 90) dX11_rest_65 (by decide) (fun c13 => ?_) (fun c13 => ?_)
      · have hq := hq.1 c13
        exact cp_X11_rest_90 hK74 hKc _ _ _ _ _ _ hq
      · have hq := hq.2 c13
        refine ck_iload 3 dX11_rest_68 rfl ?_
        refine ck_iload_n 0 dX11_rest_70 rfl rfl ?_
        refine ck_icmp_ne (tgt := 87) dX11_rest_71 (by decide) (fun c15 => ?_) (fun c15 => ?_)
        · have hq := hq.1 c15
          obtain ⟨v16, ev16⟩ : ∃ z : Int32, z = x5 + 1 := ⟨_, rfl⟩
          have hq := hq v16 ev16
          refine ck_iinc (v := v16) (lv' := [(5, .int v16), (2, .int x2), (3, .int x3), (4, .int x4), (6, .int x6)]) 3 dX11_rest_87 rfl (by rw [ev16]; rfl) (by decide) rfl ?_
          refine ck_loc [1, 2, 3, 0, 4] rfl ?_
          exact cp_X11_rest_90 hK74 hKc _ _ _ _ _ _ hq
        · have hq := hq.2 c15
          refine ck_loc [4] rfl ?_
          exact hK74 _ _ hq
set_option maxHeartbeats 4000000 in
set_option maxRecDepth 100000 in
theorem c_X11_rest {gr : Bool} {x1 : Int32} {x2 : Int32} {h : ck_H} {Q : Int32 → ck_H → Prop} (hq : wp_X11_rest x1 x2 h Q) : ck_M yX11_rest cX11_rest 7 (some .int) 7 0 0 gr ck_shX h [.ref 0, .int x1, .int x2] (ck_Qi ck_shX Q) := by
  refine ck_entry (lv := [(0, .ref 0), (1, .int x1), (2, .int x2)]) false (own := RX11) rfl (fun q => by cases q) (by decide) (Nat.le_of_ble_eq_true rfl) rfl ?_
  refine ck_aload_n 0 dX11_rest_0 rfl rfl ?_
  refine ck_iload_n 1 dX11_rest_1 rfl rfl ?_
  refine ck_callV (c_X11_isPending hq) rfl cal_X11_isPending rfl ml_X11_221 vir_X11_isPending rfl rfl (by decide) (Nat.le_of_ble_eq_true rfl) (Nat.le_of_ble_eq_true rfl) (by decide) (by decide) dX11_rest_2 ?_
  rintro _ _ h1 ⟨r2, rfl, rfl, hq⟩
  refine ck_if_eq (tgt := 12) dX11_rest_5 (by decide) (fun c3 => ?_) (fun c3 => ?_)
  · have hq := hq.1 c3
    refine ck_iconst (v := -1) dX11_rest_12 (by decide) ?_
    exact ck_iret rfl rfl rfl rfl dX11_rest_13 ⟨_, rfl, rfl, hq⟩
  · have hq := hq.2 c3
    refine ck_iload_n 2 dX11_rest_8 rfl rfl ?_
    refine ck_if_ge (tgt := 14) dX11_rest_9 (by decide) (fun c4 => ?_) (fun c4 => ?_)
    · have hq := hq.1 c4
      refine ck_aload_n 0 dX11_rest_14 rfl rfl ?_
      refine ck_iload_n 1 dX11_rest_15 rfl rfl ?_
      refine ck_callV (c_X11_verdictNow hq) rfl cal_X11_verdictNow rfl ml_X11_282 vir_X11_verdictNow rfl rfl (by decide) (Nat.le_of_ble_eq_true rfl) (Nat.le_of_ble_eq_true rfl) (by decide) (by decide) dX11_rest_16 ?_
      rintro _ _ h5 ⟨r6, rfl, rfl, hq⟩
      refine ck_istore_n (lv' := [(3, .int r6), (0, .ref 0), (1, .int x1), (2, .int x2)]) dX11_rest_19 rfl (by decide) rfl ?_
      refine ck_aload_n 1 dX11_rest_20 rfl rfl ?_
      refine ck_getR clX11 9 rfl rfl (by decide) fl_X11_54 dX11_rest_21 ?_
      refine ck_getRN clX7 5 rfl rfl (by decide) fl_X11_189 dX11_rest_24 ?_
      refine ck_aload_n 1 dX11_rest_27 rfl rfl ?_
      refine ck_getR clX11 9 rfl rfl (by decide) fl_X11_54 dX11_rest_28 ?_
      refine ck_getRN clX7 9 rfl rfl (by decide) fl_X11_147 dX11_rest_31 ?_
      refine ck_iload_n 2 dX11_rest_34 rfl rfl ?_
      obtain ⟨b7, hq⟩ := hq
      refine ck_iald rfl rfl b7 dX11_rest_35 ?_
      obtain ⟨b8, hq⟩ := hq
      refine ck_iald rfl rfl b8 dX11_rest_36 ?_
      refine ck_nmI (fun v9 ev9 => ?_)
      have hq := hq v9 ev9
      refine ck_istore (lv' := [(4, .int v9), (3, .int r6), (0, .ref 0), (1, .int x1), (2, .int x2)]) dX11_rest_37 (by decide) rfl ?_
      refine ck_iconst (v := 0) dX11_rest_39 (by decide) ?_
      refine ck_istore (lv' := [(5, .int (0 : Int32)), (4, .int v9), (3, .int r6), (0, .ref 0), (1, .int x1), (2, .int x2)]) dX11_rest_40 (by decide) rfl ?_
      refine ck_iconst (v := 0) dX11_rest_42 (by decide) ?_
      refine ck_istore (lv' := [(6, .int (0 : Int32)), (5, .int (0 : Int32)), (4, .int v9), (3, .int r6), (0, .ref 0), (1, .int x1), (2, .int x2)]) dX11_rest_43 (by decide) rfl ?_
      refine ck_loc [6, 3, 2, 1, 0] rfl ?_
      refine cp_X11_rest_45 (fun x18 h17 hq => ?_) lpN _ _ _ _ _ _ hq
      · refine ck_bipush (v := 10) dX11_rest_74 (by decide) ?_
        refine ck_iload 0 dX11_rest_76 rfl ?_
        refine ck_iconst (v := 2) dX11_rest_78 (by decide) ?_
        refine ck_idiv dX11_rest_79 (by decide) ?_
        refine ck_imul dX11_rest_80 ?_
        refine ck_iload 0 dX11_rest_81 rfl ?_
        refine ck_iconst (v := 2) dX11_rest_83 (by decide) ?_
        refine ck_irem dX11_rest_84 (by decide) ?_
        refine ck_iadd dX11_rest_85 ?_
        exact ck_iret rfl rfl rfl rfl dX11_rest_86 ⟨_, rfl, rfl, hq⟩
    · have hq := hq.2 c4
      refine ck_iconst (v := -1) dX11_rest_12 (by decide) ?_
      exact ck_iret rfl rfl rfl rfl dX11_rest_13 ⟨_, rfl, rfl, hq⟩
def wp_X11_areTwins (x1 : Int32) (x2 : Int32) (h : ck_H) (Q : Int32 → ck_H → Prop) : Prop := (vp_in x1 10 ∧ (vp_in x2 10 ∧ ((¬ (h.1 45 x1.toNatClampNeg) = (h.1 45 x2.toNatClampNeg) → Q (0 : Int32) h) ∧ ((h.1 45 x1.toNatClampNeg) = (h.1 45 x2.toNatClampNeg) → (vp_in x1 10 ∧ (((h.1 11 x1.toNatClampNeg) = (-1 : Int32) → Q (0 : Int32) h) ∧ (¬ (h.1 11 x1.toNatClampNeg) = (-1 : Int32) → (vp_in x2 10 ∧ (((h.1 11 x2.toNatClampNeg) = (-1 : Int32) → Q (0 : Int32) h) ∧ (¬ (h.1 11 x2.toNatClampNeg) = (-1 : Int32) → (vp_in x1 10 ∧ (vp_in x2 10 ∧ (((h.1 11 x1.toNatClampNeg) = (h.1 11 x2.toNatClampNeg) → Q (0 : Int32) h) ∧ (¬ (h.1 11 x1.toNatClampNeg) = (h.1 11 x2.toNatClampNeg) → Q (1 : Int32) h))))))))))))))
set_option maxHeartbeats 4000000 in
set_option maxRecDepth 100000 in
theorem c_X11_areTwins {gr : Bool} {x1 : Int32} {x2 : Int32} {h : ck_H} {Q : Int32 → ck_H → Prop} (hq : wp_X11_areTwins x1 x2 h Q) : ck_M yX11_areTwins cX11_areTwins 3 (some .boolean) 2 0 0 gr ck_shX h [.ref 0, .int x1, .int x2] (ck_Qi ck_shX Q) := by
  refine ck_entry (lv := [(0, .ref 0), (1, .int x1), (2, .int x2)]) false (own := RX11) rfl (fun q => by cases q) (by decide) (Nat.le_of_ble_eq_true rfl) rfl ?_
  refine ck_aload_n 0 dX11_areTwins_0 rfl rfl ?_
  refine ck_getR clX11 9 rfl rfl (by decide) fl_X11_54 dX11_areTwins_1 ?_
  refine ck_getRN clX7 9 rfl rfl (by decide) fl_X11_147 dX11_areTwins_4 ?_
  refine ck_iload_n 1 dX11_areTwins_7 rfl rfl ?_
  obtain ⟨b1, hq⟩ := hq
  refine ck_iald rfl rfl b1 dX11_areTwins_8 ?_
  refine ck_aload_n 0 dX11_areTwins_9 rfl rfl ?_
  refine ck_getR clX11 9 rfl rfl (by decide) fl_X11_54 dX11_areTwins_10 ?_
  refine ck_getRN clX7 9 rfl rfl (by decide) fl_X11_147 dX11_areTwins_13 ?_
  refine ck_iload_n 2 dX11_areTwins_16 rfl rfl ?_
  obtain ⟨b2, hq⟩ := hq
  refine ck_iald rfl rfl b2 dX11_areTwins_17 ?_
  refine ck_icmp_ne (tgt := 72) dX11_areTwins_18 (by decide) (fun c3 => ?_) (fun c3 => ?_)
  · have hq := hq.1 c3
    refine ck_iconst (v := 0) dX11_areTwins_72 (by decide) ?_
    exact ck_iret rfl (by decide) rfl rfl dX11_areTwins_73 ⟨_, rfl, rfl, hq⟩
  · have hq := hq.2 c3
    refine ck_aload_n 0 dX11_areTwins_21 rfl rfl ?_
    refine ck_getR clX11 2 rfl rfl (by decide) fl_X11_27 dX11_areTwins_22 ?_
    refine ck_getRN clX1 3 rfl rfl (by decide) fl_X11_156 dX11_areTwins_25 ?_
    refine ck_iload_n 1 dX11_areTwins_28 rfl rfl ?_
    obtain ⟨b4, hq⟩ := hq
    refine ck_iald rfl rfl b4 dX11_areTwins_29 ?_
    refine ck_iconst (v := -1) dX11_areTwins_30 (by decide) ?_
    refine ck_icmp_eq (tgt := 72) dX11_areTwins_31 (by decide) (fun c5 => ?_) (fun c5 => ?_)
    · have hq := hq.1 c5
      refine ck_iconst (v := 0) dX11_areTwins_72 (by decide) ?_
      exact ck_iret rfl (by decide) rfl rfl dX11_areTwins_73 ⟨_, rfl, rfl, hq⟩
    · have hq := hq.2 c5
      refine ck_aload_n 0 dX11_areTwins_34 rfl rfl ?_
      refine ck_getR clX11 2 rfl rfl (by decide) fl_X11_27 dX11_areTwins_35 ?_
      refine ck_getRN clX1 3 rfl rfl (by decide) fl_X11_156 dX11_areTwins_38 ?_
      refine ck_iload_n 2 dX11_areTwins_41 rfl rfl ?_
      obtain ⟨b6, hq⟩ := hq
      refine ck_iald rfl rfl b6 dX11_areTwins_42 ?_
      refine ck_iconst (v := -1) dX11_areTwins_43 (by decide) ?_
      refine ck_icmp_eq (tgt := 72) dX11_areTwins_44 (by decide) (fun c7 => ?_) (fun c7 => ?_)
      · have hq := hq.1 c7
        refine ck_iconst (v := 0) dX11_areTwins_72 (by decide) ?_
        exact ck_iret rfl (by decide) rfl rfl dX11_areTwins_73 ⟨_, rfl, rfl, hq⟩
      · have hq := hq.2 c7
        refine ck_aload_n 0 dX11_areTwins_47 rfl rfl ?_
        refine ck_getR clX11 2 rfl rfl (by decide) fl_X11_27 dX11_areTwins_48 ?_
        refine ck_getRN clX1 3 rfl rfl (by decide) fl_X11_156 dX11_areTwins_51 ?_
        refine ck_iload_n 1 dX11_areTwins_54 rfl rfl ?_
        obtain ⟨b8, hq⟩ := hq
        refine ck_iald rfl rfl b8 dX11_areTwins_55 ?_
        refine ck_aload_n 0 dX11_areTwins_56 rfl rfl ?_
        refine ck_getR clX11 2 rfl rfl (by decide) fl_X11_27 dX11_areTwins_57 ?_
        refine ck_getRN clX1 3 rfl rfl (by decide) fl_X11_156 dX11_areTwins_60 ?_
        refine ck_iload_n 2 dX11_areTwins_63 rfl rfl ?_
        obtain ⟨b9, hq⟩ := hq
        refine ck_iald rfl rfl b9 dX11_areTwins_64 ?_
        refine ck_icmp_eq (tgt := 72) dX11_areTwins_65 (by decide) (fun c10 => ?_) (fun c10 => ?_)
        · have hq := hq.1 c10
          refine ck_iconst (v := 0) dX11_areTwins_72 (by decide) ?_
          exact ck_iret rfl (by decide) rfl rfl dX11_areTwins_73 ⟨_, rfl, rfl, hq⟩
        · have hq := hq.2 c10
          refine ck_iconst (v := 1) dX11_areTwins_68 (by decide) ?_
          refine ck_goto (tgt := 73) dX11_areTwins_69 (by decide) ?_
          exact ck_iret rfl (by decide) rfl rfl dX11_areTwins_73 ⟨_, rfl, rfl, hq⟩
def wp_X11_twins_48 (Q : Int32 → ck_H → Prop) (K54 : Int32 → Int32 → ck_H → Prop) (Kc : Int32 → Int32 → Int32 → ck_H → Prop) (x1 : Int32) (x2 : Int32) (x3 : Int32) (h : ck_H) : Prop := (∀ v7, v7 = x3 + 1 → Kc x1 x2 v7 h)
def wp_X11_twins_22 (Q : Int32 → ck_H → Prop) (K54 : Int32 → Int32 → ck_H → Prop) : Nat → Int32 → Int32 → Int32 → ck_H → Prop
  | 0 => fun _ _ _ _ => False
  | n + 1 => fun x1 x2 x3 h => (((h.1 42 1) ≤ x3 → K54 x1 x2 h) ∧ (¬ (h.1 42 1) ≤ x3 → (wp_X11_areTwins x2 x3 h (fun r5 h4 => ((r5 = 0 → wp_X11_twins_48 Q K54 (wp_X11_twins_22 Q K54 n) x1 x2 x3 h4) ∧ (¬ r5 = 0 → (∀ v8, v8 = x1 + 1 → wp_X11_twins_48 Q K54 (wp_X11_twins_22 Q K54 n) v8 x2 x3 h4)))))))
def wp_X11_twins_4 (Q : Int32 → ck_H → Prop) : Nat → Int32 → Int32 → ck_H → Prop
  | 0 => fun _ _ _ => False
  | n + 1 => fun x1 x2 h => (((h.1 42 1) ≤ x2 → Q x1 h) ∧ (¬ (h.1 42 1) ≤ x2 → (∀ v2, v2 = (x2 + (1 : Int32)) → wp_X11_twins_22 Q (fun x10 x11 h9 => (∀ v12, v12 = x11 + 1 → (wp_X11_twins_4 Q n) x10 v12 h9)) lpN x1 x2 v2 h)))
def wp_X11_twins (h : ck_H) (Q : Int32 → ck_H → Prop) : Prop := wp_X11_twins_4 Q lpN (0 : Int32) (0 : Int32) h
set_option maxHeartbeats 4000000 in
set_option maxRecDepth 100000 in
theorem cp_X11_twins_48 {gr : Bool} {Q : Int32 → ck_H → Prop} {K54 : Int32 → Int32 → ck_H → Prop} {Kc : Int32 → Int32 → Int32 → ck_H → Prop} (hK54 : ∀ (x1 : Int32) (x2 : Int32) (h : ck_H), K54 x1 x2 h → ck_W cX11_twins 4 RX11 (some .int) 3 0 0 false gr (ck_Qi ck_shX Q) ck_shX h 0 0 54 [(0, .ref 0), (1, .int x1), (2, .int x2)] []) (hKc : ∀ (x1 : Int32) (x2 : Int32) (x3 : Int32) (h : ck_H), Kc x1 x2 x3 h → ck_W cX11_twins 4 RX11 (some .int) 3 0 0 false gr (ck_Qi ck_shX Q) ck_shX h 0 0 22 [(0, .ref 0), (1, .int x1), (2, .int x2), (3, .int x3)] []) : ∀ (x1 : Int32) (x2 : Int32) (x3 : Int32) (h : ck_H), wp_X11_twins_48 Q K54 Kc x1 x2 x3 h → ck_W cX11_twins 4 RX11 (some .int) 3 0 0 false gr (ck_Qi ck_shX Q) ck_shX h 0 0 48 [(0, .ref 0), (1, .int x1), (2, .int x2), (3, .int x3)] [] := by
  intro x1 x2 x3 h hq
  obtain ⟨v7, ev7⟩ : ∃ z : Int32, z = x3 + 1 := ⟨_, rfl⟩
  have hq := hq v7 ev7
  refine ck_iinc (v := v7) (lv' := [(3, .int v7), (0, .ref 0), (1, .int x1), (2, .int x2)]) 3 dX11_twins_48 rfl (by rw [ev7]; rfl) (by decide) rfl ?_
  refine ck_goto (tgt := 22) dX11_twins_51 (by decide) ?_
  refine ck_loc [1, 2, 3, 0] rfl ?_
  exact hKc _ _ _ _ hq
set_option maxHeartbeats 4000000 in
set_option maxRecDepth 100000 in
theorem cp_X11_twins_22 {gr : Bool} {Q : Int32 → ck_H → Prop} {K54 : Int32 → Int32 → ck_H → Prop} (hK54 : ∀ (x1 : Int32) (x2 : Int32) (h : ck_H), K54 x1 x2 h → ck_W cX11_twins 4 RX11 (some .int) 3 0 0 false gr (ck_Qi ck_shX Q) ck_shX h 0 0 54 [(0, .ref 0), (1, .int x1), (2, .int x2)] []) : ∀ (n : Nat) (x1 : Int32) (x2 : Int32) (x3 : Int32) (h : ck_H), wp_X11_twins_22 Q K54 n x1 x2 x3 h → ck_W cX11_twins 4 RX11 (some .int) 3 0 0 false gr (ck_Qi ck_shX Q) ck_shX h 0 0 22 [(0, .ref 0), (1, .int x1), (2, .int x2), (3, .int x3)] [] := by
  intro n
  induction n with
  | zero => intro x1 x2 x3 h hq; exact hq.elim
  | succ n hKc =>
    intro x1 x2 x3 h hq
    refine ck_iload_n 3 dX11_twins_22 rfl rfl ?_
    refine ck_aload_n 0 dX11_twins_23 rfl rfl ?_
    refine ck_getR clX11 9 rfl rfl (by decide) fl_X11_54 dX11_twins_24 ?_
    refine ck_getRN clX7 7 rfl rfl (by decide) fl_X11_129 dX11_twins_27 ?_
    refine ck_getIN clX5 1 rfl rfl (by decide) fl_X11_257 dX11_twins_30 ?_
    refine ck_icmp_ge (tgt := 54) dX11_twins_33 (by decide) (fun c3 => ?_) (fun c3 => ?_)
    · have hq := hq.1 c3
      refine ck_loc [0, 1, 2] rfl ?_
      exact hK54 _ _ _ hq
    · have hq := hq.2 c3
      refine ck_aload_n 0 dX11_twins_36 rfl rfl ?_
      refine ck_iload_n 2 dX11_twins_37 rfl rfl ?_
      refine ck_iload_n 3 dX11_twins_38 rfl rfl ?_
      refine ck_callV (c_X11_areTwins hq) rfl cal_X11_areTwins rfl ml_X11_289 vir_X11_areTwins rfl rfl (by decide) (Nat.le_of_ble_eq_true rfl) (Nat.le_of_ble_eq_true rfl) (by decide) (by decide) dX11_twins_39 ?_
      rintro _ _ h4 ⟨r5, rfl, rfl, hq⟩
      refine ck_if_eq (tgt := 48) dX11_twins_42 (by decide) (fun c6 => ?_) (fun c6 => ?_)
      · have hq := hq.1 c6
        exact cp_X11_twins_48 hK54 hKc _ _ _ _ hq
      · have hq := hq.2 c6
        obtain ⟨v8, ev8⟩ : ∃ z : Int32, z = x1 + 1 := ⟨_, rfl⟩
        have hq := hq v8 ev8
        refine ck_iinc (v := v8) (lv' := [(1, .int v8), (0, .ref 0), (2, .int x2), (3, .int x3)]) 1 dX11_twins_45 rfl (by rw [ev8]; rfl) (by decide) rfl ?_
        refine ck_loc [1, 0, 2, 3] rfl ?_
        exact cp_X11_twins_48 hK54 hKc _ _ _ _ hq
set_option maxHeartbeats 4000000 in
set_option maxRecDepth 100000 in
theorem cp_X11_twins_4 {gr : Bool} {Q : Int32 → ck_H → Prop} : ∀ (n : Nat) (x1 : Int32) (x2 : Int32) (h : ck_H), wp_X11_twins_4 Q n x1 x2 h → ck_W cX11_twins 4 RX11 (some .int) 3 0 0 false gr (ck_Qi ck_shX Q) ck_shX h 0 0 4 [(0, .ref 0), (1, .int x1), (2, .int x2)] [] := by
  intro n
  induction n with
  | zero => intro x1 x2 h hq; exact hq.elim
  | succ n hKc =>
    intro x1 x2 h hq
    refine ck_iload_n 2 dX11_twins_4 rfl rfl ?_
    refine ck_aload_n 0 dX11_twins_5 rfl rfl ?_
    refine ck_getR clX11 9 rfl rfl (by decide) fl_X11_54 dX11_twins_6 ?_
    refine ck_getRN clX7 7 rfl rfl (by decide) fl_X11_129 dX11_twins_9 ?_
    refine ck_getIN clX5 1 rfl rfl (by decide) fl_X11_257 dX11_twins_12 ?_
    refine ck_icmp_ge (tgt := 60) dX11_twins_15 (by decide) (fun c1 => ?_) (fun c1 => ?_)
    · have hq := hq.1 c1
      refine ck_iload_n 1 dX11_twins_60 rfl rfl ?_
      exact ck_iret rfl rfl rfl rfl dX11_twins_61 ⟨_, rfl, rfl, hq⟩
    · have hq := hq.2 c1
      refine ck_iload_n 2 dX11_twins_18 rfl rfl ?_
      refine ck_iconst (v := 1) dX11_twins_19 (by decide) ?_
      refine ck_iadd dX11_twins_20 ?_
      refine ck_nmI (fun v2 ev2 => ?_)
      have hq := hq v2 ev2
      refine ck_istore_n (lv' := [(3, .int v2), (0, .ref 0), (1, .int x1), (2, .int x2)]) dX11_twins_21 rfl (by decide) rfl ?_
      refine ck_loc [1, 2, 3, 0] rfl ?_
      refine cp_X11_twins_22 (fun x10 x11 h9 hq => ?_) lpN _ _ _ _ hq
      · obtain ⟨v12, ev12⟩ : ∃ z : Int32, z = x11 + 1 := ⟨_, rfl⟩
        have hq := hq v12 ev12
        refine ck_iinc (v := v12) (lv' := [(2, .int v12), (0, .ref 0), (1, .int x10)]) 2 dX11_twins_54 rfl (by rw [ev12]; rfl) (by decide) rfl ?_
        refine ck_goto (tgt := 4) dX11_twins_57 (by decide) ?_
        refine ck_loc [1, 2, 0] rfl ?_
        exact hKc _ _ _ hq
set_option maxHeartbeats 4000000 in
set_option maxRecDepth 100000 in
theorem c_X11_twins {gr : Bool} {h : ck_H} {Q : Int32 → ck_H → Prop} (hq : wp_X11_twins h Q) : ck_M yX11_twins cX11_twins 4 (some .int) 3 0 0 gr ck_shX h [.ref 0] (ck_Qi ck_shX Q) := by
  refine ck_entry (lv := [(0, .ref 0)]) false (own := RX11) rfl (fun q => by cases q) (by decide) (Nat.le_of_ble_eq_true rfl) rfl ?_
  refine ck_iconst (v := 0) dX11_twins_0 (by decide) ?_
  refine ck_istore_n (lv' := [(1, .int (0 : Int32)), (0, .ref 0)]) dX11_twins_1 rfl (by decide) rfl ?_
  refine ck_iconst (v := 0) dX11_twins_2 (by decide) ?_
  refine ck_istore_n (lv' := [(2, .int (0 : Int32)), (1, .int (0 : Int32)), (0, .ref 0)]) dX11_twins_3 rfl (by decide) rfl ?_
  refine ck_loc [2, 1, 0] rfl ?_
  refine cp_X11_twins_4 lpN _ _ _ hq
def wp_X11_commonWithTen_23 (Q : Int32 → ck_H → Prop) (Kc : Int32 → Int32 → ck_H → Prop) (x0 : Int32) (x1 : Int32) (h : ck_H) : Prop := (∀ v4, v4 = x1 + (-1) → Kc x0 v4 h)
def wp_X11_commonWithTen_3 (Q : Int32 → ck_H → Prop) : Nat → Int32 → Int32 → ck_H → Prop
  | 0 => fun _ _ _ => False
  | n + 1 => fun x0 x1 h => ((x1 ≤ (1 : Int32) → Q (1 : Int32) h) ∧ (¬ x1 ≤ (1 : Int32) → (¬ x1 = 0 ∧ ((¬ (ck_rem x0 x1) = 0 → wp_X11_commonWithTen_23 Q (wp_X11_commonWithTen_3 Q n) x0 x1 h) ∧ ((ck_rem x0 x1) = 0 → (¬ x1 = 0 ∧ ((¬ (ck_rem (10 : Int32) x1) = 0 → wp_X11_commonWithTen_23 Q (wp_X11_commonWithTen_3 Q n) x0 x1 h) ∧ ((ck_rem (10 : Int32) x1) = 0 → Q x1 h))))))))
def wp_X11_commonWithTen (x0 : Int32) (h : ck_H) (Q : Int32 → ck_H → Prop) : Prop := wp_X11_commonWithTen_3 Q lpN x0 (10 : Int32) h
set_option maxHeartbeats 4000000 in
set_option maxRecDepth 100000 in
theorem cp_X11_commonWithTen_23 {gr : Bool} {Q : Int32 → ck_H → Prop} {Kc : Int32 → Int32 → ck_H → Prop} (hKc : ∀ (x0 : Int32) (x1 : Int32) (h : ck_H), Kc x0 x1 h → ck_W cX11_commonWithTen 2 RX11 (some .int) 2 0 0 false gr (ck_Qi ck_shX Q) ck_shX h 0 0 3 [(0, .int x0), (1, .int x1)] []) : ∀ (x0 : Int32) (x1 : Int32) (h : ck_H), wp_X11_commonWithTen_23 Q Kc x0 x1 h → ck_W cX11_commonWithTen 2 RX11 (some .int) 2 0 0 false gr (ck_Qi ck_shX Q) ck_shX h 0 0 23 [(0, .int x0), (1, .int x1)] [] := by
  intro x0 x1 h hq
  obtain ⟨v4, ev4⟩ : ∃ z : Int32, z = x1 + (-1) := ⟨_, rfl⟩
  have hq := hq v4 ev4
  refine ck_iinc (v := v4) (lv' := [(1, .int v4), (0, .int x0)]) 1 dX11_commonWithTen_23 rfl (by rw [ev4]; rfl) (by decide) rfl ?_
  refine ck_goto (tgt := 3) dX11_commonWithTen_26 (by decide) ?_
  refine ck_loc [1, 0] rfl ?_
  exact hKc _ _ _ hq
set_option maxHeartbeats 4000000 in
set_option maxRecDepth 100000 in
theorem cp_X11_commonWithTen_3 {gr : Bool} {Q : Int32 → ck_H → Prop} : ∀ (n : Nat) (x0 : Int32) (x1 : Int32) (h : ck_H), wp_X11_commonWithTen_3 Q n x0 x1 h → ck_W cX11_commonWithTen 2 RX11 (some .int) 2 0 0 false gr (ck_Qi ck_shX Q) ck_shX h 0 0 3 [(0, .int x0), (1, .int x1)] [] := by
  intro n
  induction n with
  | zero => intro x0 x1 h hq; exact hq.elim
  | succ n hKc =>
    intro x0 x1 h hq
    refine ck_iload_n 1 dX11_commonWithTen_3 rfl rfl ?_
    refine ck_iconst (v := 1) dX11_commonWithTen_4 (by decide) ?_
    refine ck_icmp_le (tgt := 29) dX11_commonWithTen_5 (by decide) (fun c1 => ?_) (fun c1 => ?_)
    · have hq := hq.1 c1
      refine ck_iconst (v := 1) dX11_commonWithTen_29 (by decide) ?_
      exact ck_iret rfl rfl rfl rfl dX11_commonWithTen_30 ⟨_, rfl, rfl, hq⟩
    · have hq := hq.2 c1
      refine ck_iload_n 0 dX11_commonWithTen_8 rfl rfl ?_
      refine ck_iload_n 1 dX11_commonWithTen_9 rfl rfl ?_
      obtain ⟨b2, hq⟩ := hq
      refine ck_irem dX11_commonWithTen_10 b2 ?_
      refine ck_if_ne (tgt := 23) dX11_commonWithTen_11 (by decide) (fun c3 => ?_) (fun c3 => ?_)
      · have hq := hq.1 c3
        exact cp_X11_commonWithTen_23 hKc _ _ _ hq
      · have hq := hq.2 c3
        refine ck_bipush (v := 10) dX11_commonWithTen_14 (by decide) ?_
        refine ck_iload_n 1 dX11_commonWithTen_16 rfl rfl ?_
        obtain ⟨b5, hq⟩ := hq
        refine ck_irem dX11_commonWithTen_17 b5 ?_
        refine ck_if_ne (tgt := 23) dX11_commonWithTen_18 (by decide) (fun c6 => ?_) (fun c6 => ?_)
        · have hq := hq.1 c6
          exact cp_X11_commonWithTen_23 hKc _ _ _ hq
        · have hq := hq.2 c6
          refine ck_iload_n 1 dX11_commonWithTen_21 rfl rfl ?_
          exact ck_iret rfl rfl rfl rfl dX11_commonWithTen_22 ⟨_, rfl, rfl, hq⟩
set_option maxHeartbeats 4000000 in
set_option maxRecDepth 100000 in
theorem c_X11_commonWithTen {gr : Bool} {x0 : Int32} {h : ck_H} {Q : Int32 → ck_H → Prop} (hq : wp_X11_commonWithTen x0 h Q) : ck_M yX11_commonWithTen cX11_commonWithTen 2 (some .int) 2 0 0 gr ck_shX h [.int x0] (ck_Qi ck_shX Q) := by
  refine ck_entry (lv := [(0, .int x0)]) false (own := RX11) rfl (fun q => by cases q) (by decide) (Nat.le_of_ble_eq_true rfl) rfl ?_
  refine ck_bipush (v := 10) dX11_commonWithTen_0 (by decide) ?_
  refine ck_istore_n (lv' := [(1, .int (10 : Int32)), (0, .int x0)]) dX11_commonWithTen_2 rfl (by decide) rfl ?_
  refine ck_loc [1, 0] rfl ?_
  refine cp_X11_commonWithTen_3 lpN _ _ _ hq
def wp_X11_likely_92 (Q : Int32 → ck_H → Prop) (K98 : Int32 → Int32 → ck_H → Prop) (Kc : Int32 → Int32 → Int32 → Int32 → Int32 → ck_H → Prop) (x1 : Int32) (x2 : Int32) (x3 : Int32) (x4 : Int32) (x5 : Int32) (h : ck_H) : Prop := (∀ v15, v15 = x5 + 1 → Kc x1 x2 x3 x4 v15 h)
def wp_X11_likely_45 (Q : Int32 → ck_H → Prop) (K98 : Int32 → Int32 → ck_H → Prop) : Nat → Int32 → Int32 → Int32 → Int32 → Int32 → ck_H → Prop
  | 0 => fun _ _ _ _ _ _ => False
  | n + 1 => fun x1 x2 x3 x4 x5 h => (((10 : Int32) ≤ x5 → K98 x2 x4 h) ∧ (¬ (10 : Int32) ≤ x5 → (vp_in x1 10 ∧ (vp_in x1 10 ∧ (wp_X10_measured 7 (h.1 9 x1.toNatClampNeg) (h.1 45 x1.toNatClampNeg) (x3 + x5) h (fun r13 h12 => ((¬ r13 = (1 : Int32) → wp_X11_likely_92 Q K98 (wp_X11_likely_45 Q K98 n) x1 x2 x3 x4 x5 h12) ∧ (r13 = (1 : Int32) → (∀ v16, v16 = x4 + 1 → wp_X11_likely_92 Q K98 (wp_X11_likely_45 Q K98 n) x1 x2 x3 v16 x5 h12)))))))))
def wp_X11_likely (x1 : Int32) (x2 : Int32) (h : ck_H) (Q : Int32 → ck_H → Prop) : Prop := (wp_X11_isPending x1 h (fun r2 h1 => ((r2 = 0 → Q (-1 : Int32) h1) ∧ (¬ r2 = 0 → ((x2 < 0 → Q (-1 : Int32) h1) ∧ (¬ x2 < 0 → ((x2 ≤ (1 : Int32) → (wp_X10_asTheyAre h1 (fun h6 => (wp_X10_hardnessOf 7 x1 h6 (fun r8 h7 => wp_X11_likely_45 Q (fun x18 x19 h17 => (wp_X11_commonWithTen x19 h17 (fun r21 h20 => ((¬ x18 = 0 → (¬ r21 = 0 ∧ Q ((10 : Int32) / r21) h20)) ∧ (x18 = 0 → (¬ r21 = 0 ∧ Q (x19 / r21) h20)))))) lpN x1 x2 r8 (0 : Int32) (0 : Int32) h7))))) ∧ (¬ x2 ≤ (1 : Int32) → Q (-1 : Int32) h1))))))))
set_option maxHeartbeats 4000000 in
set_option maxRecDepth 100000 in
theorem cp_X11_likely_92 {gr : Bool} {Q : Int32 → ck_H → Prop} {K98 : Int32 → Int32 → ck_H → Prop} {Kc : Int32 → Int32 → Int32 → Int32 → Int32 → ck_H → Prop} (hK98 : ∀ (x2 : Int32) (x4 : Int32) (h : ck_H), K98 x2 x4 h → ck_W cX11_likely 6 RX11 (some .int) 6 0 0 false gr (ck_Qi ck_shX Q) ck_shX h 0 0 98 [(2, .int x2), (4, .int x4)] []) (hKc : ∀ (x1 : Int32) (x2 : Int32) (x3 : Int32) (x4 : Int32) (x5 : Int32) (h : ck_H), Kc x1 x2 x3 x4 x5 h → ck_W cX11_likely 6 RX11 (some .int) 6 0 0 false gr (ck_Qi ck_shX Q) ck_shX h 0 0 45 [(0, .ref 0), (1, .int x1), (2, .int x2), (3, .int x3), (4, .int x4), (5, .int x5)] []) : ∀ (x1 : Int32) (x2 : Int32) (x3 : Int32) (x4 : Int32) (x5 : Int32) (h : ck_H), wp_X11_likely_92 Q K98 Kc x1 x2 x3 x4 x5 h → ck_W cX11_likely 6 RX11 (some .int) 6 0 0 false gr (ck_Qi ck_shX Q) ck_shX h 0 0 92 [(0, .ref 0), (1, .int x1), (2, .int x2), (3, .int x3), (4, .int x4), (5, .int x5)] [] := by
  intro x1 x2 x3 x4 x5 h hq
  obtain ⟨v15, ev15⟩ : ∃ z : Int32, z = x5 + 1 := ⟨_, rfl⟩
  have hq := hq v15 ev15
  refine ck_iinc (v := v15) (lv' := [(5, .int v15), (0, .ref 0), (1, .int x1), (2, .int x2), (3, .int x3), (4, .int x4)]) 5 dX11_likely_92 rfl (by rw [ev15]; rfl) (by decide) rfl ?_
  refine ck_goto (tgt := 45) dX11_likely_95 (by decide) ?_
  refine ck_loc [1, 2, 3, 4, 5, 0] rfl ?_
  exact hKc _ _ _ _ _ _ hq
set_option maxHeartbeats 4000000 in
set_option maxRecDepth 100000 in
theorem cp_X11_likely_45 {gr : Bool} {Q : Int32 → ck_H → Prop} {K98 : Int32 → Int32 → ck_H → Prop} (hK98 : ∀ (x2 : Int32) (x4 : Int32) (h : ck_H), K98 x2 x4 h → ck_W cX11_likely 6 RX11 (some .int) 6 0 0 false gr (ck_Qi ck_shX Q) ck_shX h 0 0 98 [(2, .int x2), (4, .int x4)] []) : ∀ (n : Nat) (x1 : Int32) (x2 : Int32) (x3 : Int32) (x4 : Int32) (x5 : Int32) (h : ck_H), wp_X11_likely_45 Q K98 n x1 x2 x3 x4 x5 h → ck_W cX11_likely 6 RX11 (some .int) 6 0 0 false gr (ck_Qi ck_shX Q) ck_shX h 0 0 45 [(0, .ref 0), (1, .int x1), (2, .int x2), (3, .int x3), (4, .int x4), (5, .int x5)] [] := by
  intro n
  induction n with
  | zero => intro x1 x2 x3 x4 x5 h hq; exact hq.elim
  | succ n hKc =>
    intro x1 x2 x3 x4 x5 h hq
    refine ck_iload 5 dX11_likely_45 rfl ?_
    refine ck_bipush (v := 10) dX11_likely_47 (by decide) ?_
    refine ck_icmp_ge (tgt := 98) dX11_likely_49 (by decide) (fun c9 => ?_) (fun c9 => ?_)
    · have hq := hq.1 c9
      refine ck_loc [2, 4] rfl ?_
      exact hK98 _ _ _ hq
    · have hq := hq.2 c9
      refine ck_aload_n 0 dX11_likely_52 rfl rfl ?_
      refine ck_getR clX11 5 rfl rfl (by decide) fl_X11_70 dX11_likely_53 ?_
      refine ck_aload_n 0 dX11_likely_56 rfl rfl ?_
      refine ck_getR clX11 2 rfl rfl (by decide) fl_X11_27 dX11_likely_57 ?_
      refine ck_aload_n 0 dX11_likely_60 rfl rfl ?_
      refine ck_getR clX11 2 rfl rfl (by decide) fl_X11_27 dX11_likely_61 ?_
      refine ck_getRN clX1 1 rfl rfl (by decide) fl_X11_143 dX11_likely_64 ?_
      refine ck_iload_n 1 dX11_likely_67 rfl rfl ?_
      obtain ⟨b10, hq⟩ := hq
      refine ck_iald rfl rfl b10 dX11_likely_68 ?_
      refine ck_aload_n 0 dX11_likely_69 rfl rfl ?_
      refine ck_getR clX11 9 rfl rfl (by decide) fl_X11_54 dX11_likely_70 ?_
      refine ck_getRN clX7 9 rfl rfl (by decide) fl_X11_147 dX11_likely_73 ?_
      refine ck_iload_n 1 dX11_likely_76 rfl rfl ?_
      obtain ⟨b11, hq⟩ := hq
      refine ck_iald rfl rfl b11 dX11_likely_77 ?_
      refine ck_iload_n 3 dX11_likely_78 rfl rfl ?_
      refine ck_iload 5 dX11_likely_79 rfl ?_
      refine ck_iadd dX11_likely_81 ?_
      refine ck_callV (c_X10_measured (by simp) hq) rfl cal_X10_measured rfl ml_X11_275 vir_X10_measured rfl rfl (by decide) (Nat.le_of_ble_eq_true rfl) (Nat.le_of_ble_eq_true rfl) (by decide) (by decide) dX11_likely_82 ?_
      rintro _ _ h12 ⟨r13, rfl, rfl, hq⟩
      refine ck_iconst (v := 1) dX11_likely_85 (by decide) ?_
      refine ck_icmp_ne (tgt := 92) dX11_likely_86 (by decide) (fun c14 => ?_) (fun c14 => ?_)
      · have hq := hq.1 c14
        exact cp_X11_likely_92 hK98 hKc _ _ _ _ _ _ hq
      · have hq := hq.2 c14
        obtain ⟨v16, ev16⟩ : ∃ z : Int32, z = x4 + 1 := ⟨_, rfl⟩
        have hq := hq v16 ev16
        refine ck_iinc (v := v16) (lv' := [(4, .int v16), (0, .ref 0), (1, .int x1), (2, .int x2), (3, .int x3), (5, .int x5)]) 4 dX11_likely_89 rfl (by rw [ev16]; rfl) (by decide) rfl ?_
        refine ck_loc [1, 2, 3, 4, 0, 5] rfl ?_
        exact cp_X11_likely_92 hK98 hKc _ _ _ _ _ _ hq
set_option maxHeartbeats 4000000 in
set_option maxRecDepth 100000 in
theorem c_X11_likely {gr : Bool} {x1 : Int32} {x2 : Int32} {h : ck_H} {Q : Int32 → ck_H → Prop} (hq : wp_X11_likely x1 x2 h Q) : ck_M yX11_likely cX11_likely 6 (some .int) 6 0 0 gr ck_shX h [.ref 0, .int x1, .int x2] (ck_Qi ck_shX Q) := by
  refine ck_entry (lv := [(0, .ref 0), (1, .int x1), (2, .int x2)]) false (own := RX11) rfl (fun q => by cases q) (by decide) (Nat.le_of_ble_eq_true rfl) rfl ?_
  refine ck_aload_n 0 dX11_likely_0 rfl rfl ?_
  refine ck_iload_n 1 dX11_likely_1 rfl rfl ?_
  refine ck_callV (c_X11_isPending hq) rfl cal_X11_isPending rfl ml_X11_221 vir_X11_isPending rfl rfl (by decide) (Nat.le_of_ble_eq_true rfl) (Nat.le_of_ble_eq_true rfl) (by decide) (by decide) dX11_likely_2 ?_
  rintro _ _ h1 ⟨r2, rfl, rfl, hq⟩
  refine ck_if_eq (tgt := 17) dX11_likely_5 (by decide) (fun c3 => ?_) (fun c3 => ?_)
  · have hq := hq.1 c3
    refine ck_iconst (v := -1) dX11_likely_17 (by decide) ?_
    exact ck_iret rfl rfl rfl rfl dX11_likely_18 ⟨_, rfl, rfl, hq⟩
  · have hq := hq.2 c3
    refine ck_iload_n 2 dX11_likely_8 rfl rfl ?_
    refine ck_if_lt (tgt := 17) dX11_likely_9 (by decide) (fun c4 => ?_) (fun c4 => ?_)
    · have hq := hq.1 c4
      refine ck_iconst (v := -1) dX11_likely_17 (by decide) ?_
      exact ck_iret rfl rfl rfl rfl dX11_likely_18 ⟨_, rfl, rfl, hq⟩
    · have hq := hq.2 c4
      refine ck_iload_n 2 dX11_likely_12 rfl rfl ?_
      refine ck_iconst (v := 1) dX11_likely_13 (by decide) ?_
      refine ck_icmp_le (tgt := 19) dX11_likely_14 (by decide) (fun c5 => ?_) (fun c5 => ?_)
      · have hq := hq.1 c5
        refine ck_aload_n 0 dX11_likely_19 rfl rfl ?_
        refine ck_getR clX11 5 rfl rfl (by decide) fl_X11_70 dX11_likely_20 ?_
        refine ck_callV (c_X10_asTheyAre hq) rfl cal_X10_asTheyAre rfl ml_X11_237 vir_X10_asTheyAre rfl rfl (by decide) (Nat.le_of_ble_eq_true rfl) (Nat.le_of_ble_eq_true rfl) (by decide) (by decide) dX11_likely_23 ?_
        rintro _ _ h6 ⟨rfl, rfl, hq⟩
        refine ck_aload_n 0 dX11_likely_26 rfl rfl ?_
        refine ck_getR clX11 5 rfl rfl (by decide) fl_X11_70 dX11_likely_27 ?_
        refine ck_aload_n 0 dX11_likely_30 rfl rfl ?_
        refine ck_getR clX11 2 rfl rfl (by decide) fl_X11_27 dX11_likely_31 ?_
        refine ck_iload_n 1 dX11_likely_34 rfl rfl ?_
        refine ck_callV (c_X10_hardnessOf (by simp) hq) rfl cal_X10_hardnessOf rfl ml_X11_293 vir_X10_hardnessOf rfl rfl (by decide) (Nat.le_of_ble_eq_true rfl) (Nat.le_of_ble_eq_true rfl) (by decide) (by decide) dX11_likely_35 ?_
        rintro _ _ h7 ⟨r8, rfl, rfl, hq⟩
        refine ck_istore_n (lv' := [(3, .int r8), (0, .ref 0), (1, .int x1), (2, .int x2)]) dX11_likely_38 rfl (by decide) rfl ?_
        refine ck_iconst (v := 0) dX11_likely_39 (by decide) ?_
        refine ck_istore (lv' := [(4, .int (0 : Int32)), (3, .int r8), (0, .ref 0), (1, .int x1), (2, .int x2)]) dX11_likely_40 (by decide) rfl ?_
        refine ck_iconst (v := 0) dX11_likely_42 (by decide) ?_
        refine ck_istore (lv' := [(5, .int (0 : Int32)), (4, .int (0 : Int32)), (3, .int r8), (0, .ref 0), (1, .int x1), (2, .int x2)]) dX11_likely_43 (by decide) rfl ?_
        refine ck_loc [3, 4, 5, 2, 1, 0] rfl ?_
        refine cp_X11_likely_45 (fun x18 x19 h17 hq => ?_) lpN _ _ _ _ _ _ hq
        · refine ck_iload 1 dX11_likely_98 rfl ?_
          refine ck_callS (c_X11_commonWithTen hq) rfl cal_X11_commonWithTen rfl ml_X11_296 sta_X11_commonWithTen (by decide) (Nat.le_of_ble_eq_true rfl) (Nat.le_of_ble_eq_true rfl) (by decide) (by decide) dX11_likely_100 ?_
          rintro _ _ h20 ⟨r21, rfl, rfl, hq⟩
          refine ck_istore (lv' := [(5, .int r21), (2, .int x18), (4, .int x19)]) dX11_likely_103 (by decide) rfl ?_
          refine ck_iload_n 1 dX11_likely_105 rfl rfl ?_
          refine ck_if_ne (tgt := 117) dX11_likely_106 (by decide) (fun c22 => ?_) (fun c22 => ?_)
          · have hq := hq.1 c22
            refine ck_bipush (v := 10) dX11_likely_117 (by decide) ?_
            refine ck_iload 0 dX11_likely_119 rfl ?_
            obtain ⟨b23, hq⟩ := hq
            refine ck_idiv dX11_likely_121 b23 ?_
            exact ck_iret rfl rfl rfl rfl dX11_likely_122 ⟨_, rfl, rfl, hq⟩
          · have hq := hq.2 c22
            refine ck_iload 2 dX11_likely_109 rfl ?_
            refine ck_iload 0 dX11_likely_111 rfl ?_
            obtain ⟨b24, hq⟩ := hq
            refine ck_idiv dX11_likely_113 b24 ?_
            refine ck_goto (tgt := 122) dX11_likely_114 (by decide) ?_
            exact ck_iret rfl rfl rfl rfl dX11_likely_122 ⟨_, rfl, rfl, hq⟩
      · have hq := hq.2 c5
        refine ck_iconst (v := -1) dX11_likely_17 (by decide) ?_
        exact ck_iret rfl rfl rfl rfl dX11_likely_18 ⟨_, rfl, rfl, hq⟩
def wp_X11_wholeBy_84 (Q : Int32 → ck_H → Prop) (Kc : Int32 → Int32 → Int32 → Int32 → ck_H → Prop) (x1 : Int32) (x2 : Int32) (x3 : Int32) (x4 : Int32) (h : ck_H) : Prop := (∀ v12, v12 = x4 + 1 → Kc x1 x2 x3 v12 h)
def wp_X11_wholeBy_35 (Q : Int32 → ck_H → Prop) : Nat → Int32 → Int32 → Int32 → Int32 → ck_H → Prop
  | 0 => fun _ _ _ _ _ => False
  | n + 1 => fun x1 x2 x3 x4 h => (((h.1 33 1) ≤ x4 → Q x3 h) ∧ (¬ (h.1 33 1) ≤ x4 → (vp_in x1 10 ∧ (wp_X10_measured 7 x4 (h.1 45 x1.toNatClampNeg) x2 h (fun r10 h9 => ((¬ r10 = (1 : Int32) → wp_X11_wholeBy_84 Q (wp_X11_wholeBy_35 Q n) x1 x2 x3 x4 h9) ∧ (r10 = (1 : Int32) → (∀ v13, v13 = (x3 ||| ((1 : Int32) <<< (x4 &&& 31))) → wp_X11_wholeBy_84 Q (wp_X11_wholeBy_35 Q n) x1 x2 v13 x4 h9))))))))
def wp_X11_wholeBy (x1 : Int32) (h : ck_H) (Q : Int32 → ck_H → Prop) : Prop := (wp_X11_isPending x1 h (fun r2 h1 => ((¬ r2 = 0 → (wp_X10_asTheyAre h1 (fun h4 => (wp_X10_hardnessOf 7 x1 h4 (fun r6 h5 => wp_X11_wholeBy_35 Q lpN x1 r6 (0 : Int32) (0 : Int32) h5))))) ∧ (r2 = 0 → Q (-1 : Int32) h1))))
set_option maxHeartbeats 4000000 in
set_option maxRecDepth 100000 in
theorem cp_X11_wholeBy_84 {gr : Bool} {Q : Int32 → ck_H → Prop} {Kc : Int32 → Int32 → Int32 → Int32 → ck_H → Prop} (hKc : ∀ (x1 : Int32) (x2 : Int32) (x3 : Int32) (x4 : Int32) (h : ck_H), Kc x1 x2 x3 x4 h → ck_W cX11_wholeBy 5 RX11 (some .int) 6 0 0 false gr (ck_Qi ck_shX Q) ck_shX h 0 0 35 [(0, .ref 0), (1, .int x1), (2, .int x2), (3, .int x3), (4, .int x4)] []) : ∀ (x1 : Int32) (x2 : Int32) (x3 : Int32) (x4 : Int32) (h : ck_H), wp_X11_wholeBy_84 Q Kc x1 x2 x3 x4 h → ck_W cX11_wholeBy 5 RX11 (some .int) 6 0 0 false gr (ck_Qi ck_shX Q) ck_shX h 0 0 84 [(0, .ref 0), (1, .int x1), (2, .int x2), (3, .int x3), (4, .int x4)] [] := by
  intro x1 x2 x3 x4 h hq
  obtain ⟨v12, ev12⟩ : ∃ z : Int32, z = x4 + 1 := ⟨_, rfl⟩
  have hq := hq v12 ev12
  refine ck_iinc (v := v12) (lv' := [(4, .int v12), (0, .ref 0), (1, .int x1), (2, .int x2), (3, .int x3)]) 4 dX11_wholeBy_84 rfl (by rw [ev12]; rfl) (by decide) rfl ?_
  refine ck_goto (tgt := 35) dX11_wholeBy_87 (by decide) ?_
  refine ck_loc [1, 2, 3, 4, 0] rfl ?_
  exact hKc _ _ _ _ _ hq
set_option maxHeartbeats 4000000 in
set_option maxRecDepth 100000 in
theorem cp_X11_wholeBy_35 {gr : Bool} {Q : Int32 → ck_H → Prop} : ∀ (n : Nat) (x1 : Int32) (x2 : Int32) (x3 : Int32) (x4 : Int32) (h : ck_H), wp_X11_wholeBy_35 Q n x1 x2 x3 x4 h → ck_W cX11_wholeBy 5 RX11 (some .int) 6 0 0 false gr (ck_Qi ck_shX Q) ck_shX h 0 0 35 [(0, .ref 0), (1, .int x1), (2, .int x2), (3, .int x3), (4, .int x4)] [] := by
  intro n
  induction n with
  | zero => intro x1 x2 x3 x4 h hq; exact hq.elim
  | succ n hKc =>
    intro x1 x2 x3 x4 h hq
    refine ck_iload 4 dX11_wholeBy_35 rfl ?_
    refine ck_aload_n 0 dX11_wholeBy_37 rfl rfl ?_
    refine ck_getR clX11 9 rfl rfl (by decide) fl_X11_54 dX11_wholeBy_38 ?_
    refine ck_getRN clX7 0 rfl rfl (by decide) fl_X11_116 dX11_wholeBy_41 ?_
    refine ck_getIN clX5 1 rfl rfl (by decide) fl_X11_257 dX11_wholeBy_44 ?_
    refine ck_icmp_ge (tgt := 90) dX11_wholeBy_47 (by decide) (fun c7 => ?_) (fun c7 => ?_)
    · have hq := hq.1 c7
      refine ck_iload_n 3 dX11_wholeBy_90 rfl rfl ?_
      exact ck_iret rfl rfl rfl rfl dX11_wholeBy_91 ⟨_, rfl, rfl, hq⟩
    · have hq := hq.2 c7
      refine ck_aload_n 0 dX11_wholeBy_50 rfl rfl ?_
      refine ck_getR clX11 5 rfl rfl (by decide) fl_X11_70 dX11_wholeBy_51 ?_
      refine ck_aload_n 0 dX11_wholeBy_54 rfl rfl ?_
      refine ck_getR clX11 2 rfl rfl (by decide) fl_X11_27 dX11_wholeBy_55 ?_
      refine ck_iload 4 dX11_wholeBy_58 rfl ?_
      refine ck_aload_n 0 dX11_wholeBy_60 rfl rfl ?_
      refine ck_getR clX11 9 rfl rfl (by decide) fl_X11_54 dX11_wholeBy_61 ?_
      refine ck_getRN clX7 9 rfl rfl (by decide) fl_X11_147 dX11_wholeBy_64 ?_
      refine ck_iload_n 1 dX11_wholeBy_67 rfl rfl ?_
      obtain ⟨b8, hq⟩ := hq
      refine ck_iald rfl rfl b8 dX11_wholeBy_68 ?_
      refine ck_iload_n 2 dX11_wholeBy_69 rfl rfl ?_
      refine ck_callV (c_X10_measured (by simp) hq) rfl cal_X10_measured rfl ml_X11_275 vir_X10_measured rfl rfl (by decide) (Nat.le_of_ble_eq_true rfl) (Nat.le_of_ble_eq_true rfl) (by decide) (by decide) dX11_wholeBy_70 ?_
      rintro _ _ h9 ⟨r10, rfl, rfl, hq⟩
      refine ck_iconst (v := 1) dX11_wholeBy_73 (by decide) ?_
      refine ck_icmp_ne (tgt := 84) dX11_wholeBy_74 (by decide) (fun c11 => ?_) (fun c11 => ?_)
      · have hq := hq.1 c11
        exact cp_X11_wholeBy_84 hKc _ _ _ _ _ hq
      · have hq := hq.2 c11
        refine ck_iload_n 3 dX11_wholeBy_77 rfl rfl ?_
        refine ck_iconst (v := 1) dX11_wholeBy_78 (by decide) ?_
        refine ck_iload 4 dX11_wholeBy_79 rfl ?_
        refine ck_ishl dX11_wholeBy_81 ?_
        refine ck_ior dX11_wholeBy_82 ?_
        refine ck_nmI (fun v13 ev13 => ?_)
        have hq := hq v13 ev13
        refine ck_istore_n (lv' := [(3, .int v13), (0, .ref 0), (1, .int x1), (2, .int x2), (4, .int x4)]) dX11_wholeBy_83 rfl (by decide) rfl ?_
        refine ck_loc [1, 2, 3, 0, 4] rfl ?_
        exact cp_X11_wholeBy_84 hKc _ _ _ _ _ hq
set_option maxHeartbeats 4000000 in
set_option maxRecDepth 100000 in
theorem c_X11_wholeBy {gr : Bool} {x1 : Int32} {h : ck_H} {Q : Int32 → ck_H → Prop} (hq : wp_X11_wholeBy x1 h Q) : ck_M yX11_wholeBy cX11_wholeBy 5 (some .int) 6 0 0 gr ck_shX h [.ref 0, .int x1] (ck_Qi ck_shX Q) := by
  refine ck_entry (lv := [(0, .ref 0), (1, .int x1)]) false (own := RX11) rfl (fun q => by cases q) (by decide) (Nat.le_of_ble_eq_true rfl) rfl ?_
  refine ck_aload_n 0 dX11_wholeBy_0 rfl rfl ?_
  refine ck_iload_n 1 dX11_wholeBy_1 rfl rfl ?_
  refine ck_callV (c_X11_isPending hq) rfl cal_X11_isPending rfl ml_X11_221 vir_X11_isPending rfl rfl (by decide) (Nat.le_of_ble_eq_true rfl) (Nat.le_of_ble_eq_true rfl) (by decide) (by decide) dX11_wholeBy_2 ?_
  rintro _ _ h1 ⟨r2, rfl, rfl, hq⟩
  refine ck_if_ne (tgt := 10) dX11_wholeBy_5 (by decide) (fun c3 => ?_) (fun c3 => ?_)
  · have hq := hq.1 c3
    refine ck_aload_n 0 dX11_wholeBy_10 rfl rfl ?_
    refine ck_getR clX11 5 rfl rfl (by decide) fl_X11_70 dX11_wholeBy_11 ?_
    refine ck_callV (c_X10_asTheyAre hq) rfl cal_X10_asTheyAre rfl ml_X11_237 vir_X10_asTheyAre rfl rfl (by decide) (Nat.le_of_ble_eq_true rfl) (Nat.le_of_ble_eq_true rfl) (by decide) (by decide) dX11_wholeBy_14 ?_
    rintro _ _ h4 ⟨rfl, rfl, hq⟩
    refine ck_aload_n 0 dX11_wholeBy_17 rfl rfl ?_
    refine ck_getR clX11 5 rfl rfl (by decide) fl_X11_70 dX11_wholeBy_18 ?_
    refine ck_aload_n 0 dX11_wholeBy_21 rfl rfl ?_
    refine ck_getR clX11 2 rfl rfl (by decide) fl_X11_27 dX11_wholeBy_22 ?_
    refine ck_iload_n 1 dX11_wholeBy_25 rfl rfl ?_
    refine ck_callV (c_X10_hardnessOf (by simp) hq) rfl cal_X10_hardnessOf rfl ml_X11_293 vir_X10_hardnessOf rfl rfl (by decide) (Nat.le_of_ble_eq_true rfl) (Nat.le_of_ble_eq_true rfl) (by decide) (by decide) dX11_wholeBy_26 ?_
    rintro _ _ h5 ⟨r6, rfl, rfl, hq⟩
    refine ck_istore_n (lv' := [(2, .int r6), (0, .ref 0), (1, .int x1)]) dX11_wholeBy_29 rfl (by decide) rfl ?_
    refine ck_iconst (v := 0) dX11_wholeBy_30 (by decide) ?_
    refine ck_istore_n (lv' := [(3, .int (0 : Int32)), (2, .int r6), (0, .ref 0), (1, .int x1)]) dX11_wholeBy_31 rfl (by decide) rfl ?_
    refine ck_iconst (v := 0) dX11_wholeBy_32 (by decide) ?_
    refine ck_istore (lv' := [(4, .int (0 : Int32)), (3, .int (0 : Int32)), (2, .int r6), (0, .ref 0), (1, .int x1)]) dX11_wholeBy_33 (by decide) rfl ?_
    refine ck_loc [3, 4, 2, 1, 0] rfl ?_
    refine cp_X11_wholeBy_35 lpN _ _ _ _ _ hq
  · have hq := hq.2 c3
    refine ck_iconst (v := -1) dX11_wholeBy_8 (by decide) ?_
    exact ck_iret rfl rfl rfl rfl dX11_wholeBy_9 ⟨_, rfl, rfl, hq⟩
def wp_X11_docket_58 (Q : Int32 → ck_H → Prop) (Kc : Int32 → Int32 → Int32 → ck_H → Prop) (x1 : Int32) (x2 : Int32) (x3 : Int32) (h : ck_H) : Prop := (∀ v7, v7 = x3 + 1 → Kc x1 x2 v7 h)
def wp_X11_docket_17 (Q : Int32 → ck_H → Prop) : Nat → Int32 → Int32 → Int32 → ck_H → Prop
  | 0 => fun _ _ _ _ => False
  | n + 1 => fun x1 x2 x3 h => (((h.1 42 1) ≤ x3 → Q x2 h) ∧ (¬ (h.1 42 1) ≤ x3 → (wp_X11_isPending x3 h (fun r5 h4 => ((r5 = 0 → wp_X11_docket_58 Q (wp_X11_docket_17 Q n) x1 x2 x3 h4) ∧ (¬ r5 = 0 → (vp_in x3 10 ∧ ((¬ (h4.1 10 x3.toNatClampNeg) = x1 → wp_X11_docket_58 Q (wp_X11_docket_17 Q n) x1 x2 x3 h4) ∧ ((h4.1 10 x3.toNatClampNeg) = x1 → (∀ v10, v10 = (x2 ||| ((1 : Int32) <<< (x3 &&& 31))) → wp_X11_docket_58 Q (wp_X11_docket_17 Q n) x1 v10 x3 h4))))))))))
def wp_X11_docket (x1 : Int32) (h : ck_H) (Q : Int32 → ck_H → Prop) : Prop := ((x1 < 0 → Q (-1 : Int32) h) ∧ (¬ x1 < 0 → ((x1 ≤ (9999 : Int32) → wp_X11_docket_17 Q lpN x1 (0 : Int32) (0 : Int32) h) ∧ (¬ x1 ≤ (9999 : Int32) → Q (-1 : Int32) h))))
set_option maxHeartbeats 4000000 in
set_option maxRecDepth 100000 in
theorem cp_X11_docket_58 {gr : Bool} {Q : Int32 → ck_H → Prop} {Kc : Int32 → Int32 → Int32 → ck_H → Prop} (hKc : ∀ (x1 : Int32) (x2 : Int32) (x3 : Int32) (h : ck_H), Kc x1 x2 x3 h → ck_W cX11_docket 4 RX11 (some .int) 4 0 0 false gr (ck_Qi ck_shX Q) ck_shX h 0 0 17 [(0, .ref 0), (1, .int x1), (2, .int x2), (3, .int x3)] []) : ∀ (x1 : Int32) (x2 : Int32) (x3 : Int32) (h : ck_H), wp_X11_docket_58 Q Kc x1 x2 x3 h → ck_W cX11_docket 4 RX11 (some .int) 4 0 0 false gr (ck_Qi ck_shX Q) ck_shX h 0 0 58 [(0, .ref 0), (1, .int x1), (2, .int x2), (3, .int x3)] [] := by
  intro x1 x2 x3 h hq
  obtain ⟨v7, ev7⟩ : ∃ z : Int32, z = x3 + 1 := ⟨_, rfl⟩
  have hq := hq v7 ev7
  refine ck_iinc (v := v7) (lv' := [(3, .int v7), (0, .ref 0), (1, .int x1), (2, .int x2)]) 3 dX11_docket_58 rfl (by rw [ev7]; rfl) (by decide) rfl ?_
  refine ck_goto (tgt := 17) dX11_docket_61 (by decide) ?_
  refine ck_loc [1, 2, 3, 0] rfl ?_
  exact hKc _ _ _ _ hq
set_option maxHeartbeats 4000000 in
set_option maxRecDepth 100000 in
theorem cp_X11_docket_17 {gr : Bool} {Q : Int32 → ck_H → Prop} : ∀ (n : Nat) (x1 : Int32) (x2 : Int32) (x3 : Int32) (h : ck_H), wp_X11_docket_17 Q n x1 x2 x3 h → ck_W cX11_docket 4 RX11 (some .int) 4 0 0 false gr (ck_Qi ck_shX Q) ck_shX h 0 0 17 [(0, .ref 0), (1, .int x1), (2, .int x2), (3, .int x3)] [] := by
  intro n
  induction n with
  | zero => intro x1 x2 x3 h hq; exact hq.elim
  | succ n hKc =>
    intro x1 x2 x3 h hq
    refine ck_iload_n 3 dX11_docket_17 rfl rfl ?_
    refine ck_aload_n 0 dX11_docket_18 rfl rfl ?_
    refine ck_getR clX11 9 rfl rfl (by decide) fl_X11_54 dX11_docket_19 ?_
    refine ck_getRN clX7 7 rfl rfl (by decide) fl_X11_129 dX11_docket_22 ?_
    refine ck_getIN clX5 1 rfl rfl (by decide) fl_X11_257 dX11_docket_25 ?_
    refine ck_icmp_ge (tgt := 64) dX11_docket_28 (by decide) (fun c3 => ?_) (fun c3 => ?_)
    · have hq := hq.1 c3
      refine ck_iload_n 2 dX11_docket_64 rfl rfl ?_
      exact ck_iret rfl rfl rfl rfl dX11_docket_65 ⟨_, rfl, rfl, hq⟩
    · have hq := hq.2 c3
      refine ck_aload_n 0 dX11_docket_31 rfl rfl ?_
      refine ck_iload_n 3 dX11_docket_32 rfl rfl ?_
      refine ck_callV (c_X11_isPending hq) rfl cal_X11_isPending rfl ml_X11_221 vir_X11_isPending rfl rfl (by decide) (Nat.le_of_ble_eq_true rfl) (Nat.le_of_ble_eq_true rfl) (by decide) (by decide) dX11_docket_33 ?_
      rintro _ _ h4 ⟨r5, rfl, rfl, hq⟩
      refine ck_if_eq (tgt := 58) dX11_docket_36 (by decide) (fun c6 => ?_) (fun c6 => ?_)
      · have hq := hq.1 c6
        exact cp_X11_docket_58 hKc _ _ _ _ hq
      · have hq := hq.2 c6
        refine ck_aload_n 0 dX11_docket_39 rfl rfl ?_
        refine ck_getR clX11 2 rfl rfl (by decide) fl_X11_27 dX11_docket_40 ?_
        refine ck_getRN clX1 2 rfl rfl (by decide) fl_X11_150 dX11_docket_43 ?_
        refine ck_iload_n 3 dX11_docket_46 rfl rfl ?_
        obtain ⟨b8, hq⟩ := hq
        refine ck_iald rfl rfl b8 dX11_docket_47 ?_
        refine ck_iload_n 1 dX11_docket_48 rfl rfl ?_
        refine ck_icmp_ne (tgt := 58) dX11_docket_49 (by decide) (fun c9 => ?_) (fun c9 => ?_)
        · have hq := hq.1 c9
          exact cp_X11_docket_58 hKc _ _ _ _ hq
        · have hq := hq.2 c9
          refine ck_iload_n 2 dX11_docket_52 rfl rfl ?_
          refine ck_iconst (v := 1) dX11_docket_53 (by decide) ?_
          refine ck_iload_n 3 dX11_docket_54 rfl rfl ?_
          refine ck_ishl dX11_docket_55 ?_
          refine ck_ior dX11_docket_56 ?_
          refine ck_nmI (fun v10 ev10 => ?_)
          have hq := hq v10 ev10
          refine ck_istore_n (lv' := [(2, .int v10), (0, .ref 0), (1, .int x1), (3, .int x3)]) dX11_docket_57 rfl (by decide) rfl ?_
          refine ck_loc [1, 2, 0, 3] rfl ?_
          exact cp_X11_docket_58 hKc _ _ _ _ hq
set_option maxHeartbeats 4000000 in
set_option maxRecDepth 100000 in
theorem c_X11_docket {gr : Bool} {x1 : Int32} {h : ck_H} {Q : Int32 → ck_H → Prop} (hq : wp_X11_docket x1 h Q) : ck_M yX11_docket cX11_docket 4 (some .int) 4 0 0 gr ck_shX h [.ref 0, .int x1] (ck_Qi ck_shX Q) := by
  refine ck_entry (lv := [(0, .ref 0), (1, .int x1)]) false (own := RX11) rfl (fun q => by cases q) (by decide) (Nat.le_of_ble_eq_true rfl) rfl ?_
  refine ck_iload_n 1 dX11_docket_0 rfl rfl ?_
  refine ck_if_lt (tgt := 11) dX11_docket_1 (by decide) (fun c1 => ?_) (fun c1 => ?_)
  · have hq := hq.1 c1
    refine ck_iconst (v := -1) dX11_docket_11 (by decide) ?_
    exact ck_iret rfl rfl rfl rfl dX11_docket_12 ⟨_, rfl, rfl, hq⟩
  · have hq := hq.2 c1
    refine ck_iload_n 1 dX11_docket_4 rfl rfl ?_
    refine ck_sipush (v := 9999) dX11_docket_5 (by decide) ?_
    refine ck_icmp_le (tgt := 13) dX11_docket_8 (by decide) (fun c2 => ?_) (fun c2 => ?_)
    · have hq := hq.1 c2
      refine ck_iconst (v := 0) dX11_docket_13 (by decide) ?_
      refine ck_istore_n (lv' := [(2, .int (0 : Int32)), (0, .ref 0), (1, .int x1)]) dX11_docket_14 rfl (by decide) rfl ?_
      refine ck_iconst (v := 0) dX11_docket_15 (by decide) ?_
      refine ck_istore_n (lv' := [(3, .int (0 : Int32)), (2, .int (0 : Int32)), (0, .ref 0), (1, .int x1)]) dX11_docket_16 rfl (by decide) rfl ?_
      refine ck_loc [2, 3, 1, 0] rfl ?_
      refine cp_X11_docket_17 lpN _ _ _ _ hq
    · have hq := hq.2 c2
      refine ck_iconst (v := -1) dX11_docket_11 (by decide) ?_
      exact ck_iret rfl rfl rfl rfl dX11_docket_12 ⟨_, rfl, rfl, hq⟩
def wp_X11_crown_38 (Q : Int32 → ck_H → Prop) (Kc : Int32 → Int32 → Int32 → ck_H → Prop) (x1 : Int32) (x2 : Int32) (x3 : Int32) (h : ck_H) : Prop := (∀ v5, v5 = x3 + 1 → Kc x1 x2 v5 h)
def wp_X11_crown_6 (Q : Int32 → ck_H → Prop) : Nat → Int32 → Int32 → Int32 → ck_H → Prop
  | 0 => fun _ _ _ _ => False
  | n + 1 => fun x1 x2 x3 h => (((h.1 33 1) ≤ x3 → Q x1 h) ∧ (¬ (h.1 33 1) ≤ x3 → (wp_X11_wholeOnesBy x3 h (fun r3 h2 => ((r3 ≤ x2 → wp_X11_crown_38 Q (wp_X11_crown_6 Q n) x1 x2 x3 h2) ∧ (¬ r3 ≤ x2 → wp_X11_crown_38 Q (wp_X11_crown_6 Q n) x3 r3 x3 h2))))))
def wp_X11_crown (h : ck_H) (Q : Int32 → ck_H → Prop) : Prop := wp_X11_crown_6 Q lpN (-1 : Int32) (-1 : Int32) (0 : Int32) h
set_option maxHeartbeats 4000000 in
set_option maxRecDepth 100000 in
theorem cp_X11_crown_38 {gr : Bool} {Q : Int32 → ck_H → Prop} {Kc : Int32 → Int32 → Int32 → ck_H → Prop} (hKc : ∀ (x1 : Int32) (x2 : Int32) (x3 : Int32) (h : ck_H), Kc x1 x2 x3 h → ck_W cX11_crown 5 RX11 (some .int) 3 0 0 false gr (ck_Qi ck_shX Q) ck_shX h 0 0 6 [(0, .ref 0), (1, .int x1), (2, .int x2), (3, .int x3)] []) : ∀ (x1 : Int32) (x2 : Int32) (x3 : Int32) (h : ck_H), wp_X11_crown_38 Q Kc x1 x2 x3 h → ck_W cX11_crown 5 RX11 (some .int) 3 0 0 false gr (ck_Qi ck_shX Q) ck_shX h 0 0 38 [(0, .ref 0), (1, .int x1), (2, .int x2), (3, .int x3)] [] := by
  intro x1 x2 x3 h hq
  obtain ⟨v5, ev5⟩ : ∃ z : Int32, z = x3 + 1 := ⟨_, rfl⟩
  have hq := hq v5 ev5
  refine ck_iinc (v := v5) (lv' := [(3, .int v5), (0, .ref 0), (1, .int x1), (2, .int x2)]) 3 dX11_crown_38 rfl (by rw [ev5]; rfl) (by decide) rfl ?_
  refine ck_goto (tgt := 6) dX11_crown_41 (by decide) ?_
  refine ck_loc [1, 2, 3, 0] rfl ?_
  exact hKc _ _ _ _ hq
set_option maxHeartbeats 4000000 in
set_option maxRecDepth 100000 in
theorem cp_X11_crown_6 {gr : Bool} {Q : Int32 → ck_H → Prop} : ∀ (n : Nat) (x1 : Int32) (x2 : Int32) (x3 : Int32) (h : ck_H), wp_X11_crown_6 Q n x1 x2 x3 h → ck_W cX11_crown 5 RX11 (some .int) 3 0 0 false gr (ck_Qi ck_shX Q) ck_shX h 0 0 6 [(0, .ref 0), (1, .int x1), (2, .int x2), (3, .int x3)] [] := by
  intro n
  induction n with
  | zero => intro x1 x2 x3 h hq; exact hq.elim
  | succ n hKc =>
    intro x1 x2 x3 h hq
    refine ck_iload_n 3 dX11_crown_6 rfl rfl ?_
    refine ck_aload_n 0 dX11_crown_7 rfl rfl ?_
    refine ck_getR clX11 9 rfl rfl (by decide) fl_X11_54 dX11_crown_8 ?_
    refine ck_getRN clX7 0 rfl rfl (by decide) fl_X11_116 dX11_crown_11 ?_
    refine ck_getIN clX5 1 rfl rfl (by decide) fl_X11_257 dX11_crown_14 ?_
    refine ck_icmp_ge (tgt := 44) dX11_crown_17 (by decide) (fun c1 => ?_) (fun c1 => ?_)
    · have hq := hq.1 c1
      refine ck_iload_n 1 dX11_crown_44 rfl rfl ?_
      exact ck_iret rfl rfl rfl rfl dX11_crown_45 ⟨_, rfl, rfl, hq⟩
    · have hq := hq.2 c1
      refine ck_aload_n 0 dX11_crown_20 rfl rfl ?_
      refine ck_iload_n 3 dX11_crown_21 rfl rfl ?_
      refine ck_callV (c_X11_wholeOnesBy hq) rfl cal_X11_wholeOnesBy rfl ml_X11_180 vir_X11_wholeOnesBy rfl rfl (by decide) (Nat.le_of_ble_eq_true rfl) (Nat.le_of_ble_eq_true rfl) (by decide) (by decide) dX11_crown_22 ?_
      rintro _ _ h2 ⟨r3, rfl, rfl, hq⟩
      refine ck_istore (lv' := [(4, .int r3), (0, .ref 0), (1, .int x1), (2, .int x2), (3, .int x3)]) dX11_crown_25 (by decide) rfl ?_
      refine ck_iload 0 dX11_crown_27 rfl ?_
      refine ck_iload_n 3 dX11_crown_29 rfl rfl ?_
      refine ck_icmp_le (tgt := 38) dX11_crown_30 (by decide) (fun c4 => ?_) (fun c4 => ?_)
      · have hq := hq.1 c4
        refine ck_loc [1, 2, 3, 4] rfl ?_
        exact cp_X11_crown_38 hKc _ _ _ _ hq
      · have hq := hq.2 c4
        refine ck_iload 0 dX11_crown_33 rfl ?_
        refine ck_istore_n (lv' := [(2, .int r3), (4, .int r3), (0, .ref 0), (1, .int x1), (3, .int x3)]) dX11_crown_35 rfl (by decide) rfl ?_
        refine ck_iload_n 4 dX11_crown_36 rfl rfl ?_
        refine ck_istore_n (lv' := [(1, .int x3), (2, .int r3), (4, .int r3), (0, .ref 0), (3, .int x3)]) dX11_crown_37 rfl (by decide) rfl ?_
        refine ck_loc [3, 0, 1, 4] rfl ?_
        exact cp_X11_crown_38 hKc _ _ _ _ hq
set_option maxHeartbeats 4000000 in
set_option maxRecDepth 100000 in
theorem c_X11_crown {gr : Bool} {h : ck_H} {Q : Int32 → ck_H → Prop} (hq : wp_X11_crown h Q) : ck_M yX11_crown cX11_crown 5 (some .int) 3 0 0 gr ck_shX h [.ref 0] (ck_Qi ck_shX Q) := by
  refine ck_entry (lv := [(0, .ref 0)]) false (own := RX11) rfl (fun q => by cases q) (by decide) (Nat.le_of_ble_eq_true rfl) rfl ?_
  refine ck_iconst (v := -1) dX11_crown_0 (by decide) ?_
  refine ck_istore_n (lv' := [(1, .int (-1 : Int32)), (0, .ref 0)]) dX11_crown_1 rfl (by decide) rfl ?_
  refine ck_iconst (v := -1) dX11_crown_2 (by decide) ?_
  refine ck_istore_n (lv' := [(2, .int (-1 : Int32)), (1, .int (-1 : Int32)), (0, .ref 0)]) dX11_crown_3 rfl (by decide) rfl ?_
  refine ck_iconst (v := 0) dX11_crown_4 (by decide) ?_
  refine ck_istore_n (lv' := [(3, .int (0 : Int32)), (2, .int (-1 : Int32)), (1, .int (-1 : Int32)), (0, .ref 0)]) dX11_crown_5 rfl (by decide) rfl ?_
  refine ck_loc [3, 2, 1, 0] rfl ?_
  refine cp_X11_crown_6 lpN _ _ _ _ hq
def wp_X11_nextTooth_9 (Q : Int32 → ck_H → Prop) : Nat → Int32 → ck_H → Prop
  | 0 => fun _ _ => False
  | n + 1 => fun x1 h => (((99 : Int32) < x1 → Q (-2 : Int32) h) ∧ (¬ (99 : Int32) < x1 → (wp_X10_pass 17 (1 : Int32) h (fun h3 => (((h3.1 17 7) ≤ (h3.1 7 7) → (∀ v5, v5 = x1 + 1 → (wp_X11_nextTooth_9 Q n) v5 h3)) ∧ (¬ (h3.1 17 7) ≤ (h3.1 7 7) → Q x1 h3))))))
def wp_X11_nextTooth (h : ck_H) (Q : Int32 → ck_H → Prop) : Prop := (wp_X0_think h (fun h1 => wp_X11_nextTooth_9 Q lpN (1 : Int32) h1))
set_option maxHeartbeats 4000000 in
set_option maxRecDepth 100000 in
theorem cp_X11_nextTooth_9 {gr : Bool} {Q : Int32 → ck_H → Prop} : ∀ (n : Nat) (x1 : Int32) (h : ck_H), wp_X11_nextTooth_9 Q n x1 h → ck_W cX11_nextTooth 2 RX11 (some .int) 8 0 0 false gr (ck_Qi ck_shX Q) ck_shX h 0 0 9 [(0, .ref 0), (1, .int x1)] [] := by
  intro n
  induction n with
  | zero => intro x1 h hq; exact hq.elim
  | succ n hKc =>
    intro x1 h hq
    refine ck_iload_n 1 dX11_nextTooth_9 rfl rfl ?_
    refine ck_bipush (v := 99) dX11_nextTooth_10 (by decide) ?_
    refine ck_icmp_gt (tgt := 52) dX11_nextTooth_12 (by decide) (fun c2 => ?_) (fun c2 => ?_)
    · have hq := hq.1 c2
      refine ck_bipush (v := -2) dX11_nextTooth_52 (by decide) ?_
      exact ck_iret rfl rfl rfl rfl dX11_nextTooth_54 ⟨_, rfl, rfl, hq⟩
    · have hq := hq.2 c2
      refine ck_aload_n 0 dX11_nextTooth_15 rfl rfl ?_
      refine ck_getR clX11 5 rfl rfl (by decide) fl_X11_70 dX11_nextTooth_16 ?_
      refine ck_aload_n 0 dX11_nextTooth_19 rfl rfl ?_
      refine ck_getR clX11 4 rfl rfl (by decide) fl_X11_34 dX11_nextTooth_20 ?_
      refine ck_iconst (v := 1) dX11_nextTooth_23 (by decide) ?_
      refine ck_callV (c_X10_pass (by simp) hq) rfl cal_X10_pass rfl ml_X11_240 vir_X10_pass rfl rfl (by decide) (Nat.le_of_ble_eq_true rfl) (Nat.le_of_ble_eq_true rfl) (by decide) (by decide) dX11_nextTooth_24 ?_
      rintro _ _ h3 ⟨rfl, rfl, hq⟩
      refine ck_aload_n 0 dX11_nextTooth_27 rfl rfl ?_
      refine ck_getR clX11 4 rfl rfl (by decide) fl_X11_34 dX11_nextTooth_28 ?_
      refine ck_getIN clX1 7 rfl rfl (by decide) fl_X11_299 dX11_nextTooth_31 ?_
      refine ck_aload_n 0 dX11_nextTooth_34 rfl rfl ?_
      refine ck_getR clX11 2 rfl rfl (by decide) fl_X11_27 dX11_nextTooth_35 ?_
      refine ck_getIN clX1 7 rfl rfl (by decide) fl_X11_299 dX11_nextTooth_38 ?_
      refine ck_icmp_le (tgt := 46) dX11_nextTooth_41 (by decide) (fun c4 => ?_) (fun c4 => ?_)
      · have hq := hq.1 c4
        obtain ⟨v5, ev5⟩ : ∃ z : Int32, z = x1 + 1 := ⟨_, rfl⟩
        have hq := hq v5 ev5
        refine ck_iinc (v := v5) (lv' := [(1, .int v5), (0, .ref 0)]) 1 dX11_nextTooth_46 rfl (by rw [ev5]; rfl) (by decide) rfl ?_
        refine ck_goto (tgt := 9) dX11_nextTooth_49 (by decide) ?_
        refine ck_loc [1, 0] rfl ?_
        exact hKc _ _ hq
      · have hq := hq.2 c4
        refine ck_iload_n 1 dX11_nextTooth_44 rfl rfl ?_
        exact ck_iret rfl rfl rfl rfl dX11_nextTooth_45 ⟨_, rfl, rfl, hq⟩
set_option maxHeartbeats 4000000 in
set_option maxRecDepth 100000 in
theorem c_X11_nextTooth {gr : Bool} {h : ck_H} {Q : Int32 → ck_H → Prop} (hq : wp_X11_nextTooth h Q) : ck_M yX11_nextTooth cX11_nextTooth 2 (some .int) 8 0 0 gr ck_shX h [.ref 0] (ck_Qi ck_shX Q) := by
  refine ck_entry (lv := [(0, .ref 0)]) false (own := RX11) rfl (fun q => by cases q) (by decide) (Nat.le_of_ble_eq_true rfl) rfl ?_
  refine ck_aload_n 0 dX11_nextTooth_0 rfl rfl ?_
  refine ck_getR clX11 6 rfl rfl (by decide) fl_X11_79 dX11_nextTooth_1 ?_
  refine ck_callV (c_X0_think hq) rfl cal_X0_think rfl ml_X11_244 vir_X0_think rfl rfl (by decide) (Nat.le_of_ble_eq_true rfl) (Nat.le_of_ble_eq_true rfl) (by decide) (by decide) dX11_nextTooth_4 ?_
  rintro _ _ h1 ⟨rfl, rfl, hq⟩
  refine ck_iconst (v := 1) dX11_nextTooth_7 (by decide) ?_
  refine ck_istore_n (lv' := [(1, .int (1 : Int32)), (0, .ref 0)]) dX11_nextTooth_8 rfl (by decide) rfl ?_
  refine ck_loc [1, 0] rfl ?_
  refine cp_X11_nextTooth_9 lpN _ _ hq
def wp_X11_note (x1 : Int32) (x2 : Int32) (x3 : Int32) (h : ck_H) (Q : Int32 → ck_H → Prop) : Prop := (wp_X11_isSuit x1 h (fun r2 h1 => ((r2 = 0 → Q (-1 : Int32) h1) ∧ (¬ r2 = 0 → ((x2 < 0 → Q (-1 : Int32) h1) ∧ (¬ x2 < 0 → ((x2 ≤ (3 : Int32) → (wp_X6_add x1 x2 x3 (-1 : Int32) h1 (fun r7 h6 => Q r7 h6))) ∧ (¬ x2 ≤ (3 : Int32) → Q (-1 : Int32) h1))))))))
set_option maxHeartbeats 4000000 in
set_option maxRecDepth 100000 in
theorem c_X11_note {gr : Bool} {x1 : Int32} {x2 : Int32} {x3 : Int32} {h : ck_H} {Q : Int32 → ck_H → Prop} (hq : wp_X11_note x1 x2 x3 h Q) : ck_M yX11_note cX11_note 4 (some .int) 3 0 0 gr ck_shX h [.ref 0, .int x1, .int x2, .int x3] (ck_Qi ck_shX Q) := by
  refine ck_entry (lv := [(0, .ref 0), (1, .int x1), (2, .int x2), (3, .int x3)]) false (own := RX11) rfl (fun q => by cases q) (by decide) (Nat.le_of_ble_eq_true rfl) rfl ?_
  refine ck_aload_n 0 dX11_note_0 rfl rfl ?_
  refine ck_iload_n 1 dX11_note_1 rfl rfl ?_
  refine ck_callV (c_X11_isSuit hq) rfl cal_X11_isSuit rfl ml_X11_132 vir_X11_isSuit rfl rfl (by decide) (Nat.le_of_ble_eq_true rfl) (Nat.le_of_ble_eq_true rfl) (by decide) (by decide) dX11_note_2 ?_
  rintro _ _ h1 ⟨r2, rfl, rfl, hq⟩
  refine ck_if_eq (tgt := 17) dX11_note_5 (by decide) (fun c3 => ?_) (fun c3 => ?_)
  · have hq := hq.1 c3
    refine ck_iconst (v := -1) dX11_note_17 (by decide) ?_
    exact ck_iret rfl rfl rfl rfl dX11_note_18 ⟨_, rfl, rfl, hq⟩
  · have hq := hq.2 c3
    refine ck_iload_n 2 dX11_note_8 rfl rfl ?_
    refine ck_if_lt (tgt := 17) dX11_note_9 (by decide) (fun c4 => ?_) (fun c4 => ?_)
    · have hq := hq.1 c4
      refine ck_iconst (v := -1) dX11_note_17 (by decide) ?_
      exact ck_iret rfl rfl rfl rfl dX11_note_18 ⟨_, rfl, rfl, hq⟩
    · have hq := hq.2 c4
      refine ck_iload_n 2 dX11_note_12 rfl rfl ?_
      refine ck_iconst (v := 3) dX11_note_13 (by decide) ?_
      refine ck_icmp_le (tgt := 19) dX11_note_14 (by decide) (fun c5 => ?_) (fun c5 => ?_)
      · have hq := hq.1 c5
        refine ck_aload_n 0 dX11_note_19 rfl rfl ?_
        refine ck_getR clX11 7 rfl rfl (by decide) fl_X11_40 dX11_note_20 ?_
        refine ck_iload_n 1 dX11_note_23 rfl rfl ?_
        refine ck_iload_n 2 dX11_note_24 rfl rfl ?_
        refine ck_iload_n 3 dX11_note_25 rfl rfl ?_
        refine ck_iconst (v := -1) dX11_note_26 (by decide) ?_
        refine ck_callV (c_X6_add hq) rfl cal_X6_add rfl ml_X11_302 vir_X6_add rfl rfl (by decide) (Nat.le_of_ble_eq_true rfl) (Nat.le_of_ble_eq_true rfl) (by decide) (by decide) dX11_note_27 ?_
        rintro _ _ h6 ⟨r7, rfl, rfl, hq⟩
        exact ck_iret rfl rfl rfl rfl dX11_note_30 ⟨_, rfl, rfl, hq⟩
      · have hq := hq.2 c5
        refine ck_iconst (v := -1) dX11_note_17 (by decide) ?_
        exact ck_iret rfl rfl rfl rfl dX11_note_18 ⟨_, rfl, rfl, hq⟩
def wp_X11_out (x1 : Int32) (h : ck_H) (Q : Int32 → ck_H → Prop) : Prop := ((x1 < 0 → Q (-1 : Int32) h) ∧ (¬ x1 < 0 → ((x1 < (h.1 22 5) → (wp_X6_add (-1 : Int32) (-1 : Int32) (0 : Int32) x1 h (fun r4 h3 => Q r4 h3))) ∧ (¬ x1 < (h.1 22 5) → Q (-1 : Int32) h))))
set_option maxHeartbeats 4000000 in
set_option maxRecDepth 100000 in
theorem c_X11_out {gr : Bool} {x1 : Int32} {h : ck_H} {Q : Int32 → ck_H → Prop} (hq : wp_X11_out x1 h Q) : ck_M yX11_out cX11_out 2 (some .int) 3 0 0 gr ck_shX h [.ref 0, .int x1] (ck_Qi ck_shX Q) := by
  refine ck_entry (lv := [(0, .ref 0), (1, .int x1)]) false (own := RX11) rfl (fun q => by cases q) (by decide) (Nat.le_of_ble_eq_true rfl) rfl ?_
  refine ck_iload_n 1 dX11_out_0 rfl rfl ?_
  refine ck_if_lt (tgt := 15) dX11_out_1 (by decide) (fun c1 => ?_) (fun c1 => ?_)
  · have hq := hq.1 c1
    refine ck_iconst (v := -1) dX11_out_15 (by decide) ?_
    exact ck_iret rfl rfl rfl rfl dX11_out_16 ⟨_, rfl, rfl, hq⟩
  · have hq := hq.2 c1
    refine ck_iload_n 1 dX11_out_4 rfl rfl ?_
    refine ck_aload_n 0 dX11_out_5 rfl rfl ?_
    refine ck_getR clX11 7 rfl rfl (by decide) fl_X11_40 dX11_out_6 ?_
    refine ck_getIN clX6 5 rfl rfl (by decide) fl_X11_305 dX11_out_9 ?_
    refine ck_icmp_lt (tgt := 17) dX11_out_12 (by decide) (fun c2 => ?_) (fun c2 => ?_)
    · have hq := hq.1 c2
      refine ck_aload_n 0 dX11_out_17 rfl rfl ?_
      refine ck_getR clX11 7 rfl rfl (by decide) fl_X11_40 dX11_out_18 ?_
      refine ck_iconst (v := -1) dX11_out_21 (by decide) ?_
      refine ck_iconst (v := -1) dX11_out_22 (by decide) ?_
      refine ck_iconst (v := 0) dX11_out_23 (by decide) ?_
      refine ck_iload_n 1 dX11_out_24 rfl rfl ?_
      refine ck_callV (c_X6_add hq) rfl cal_X6_add rfl ml_X11_302 vir_X6_add rfl rfl (by decide) (Nat.le_of_ble_eq_true rfl) (Nat.le_of_ble_eq_true rfl) (by decide) (by decide) dX11_out_25 ?_
      rintro _ _ h3 ⟨r4, rfl, rfl, hq⟩
      exact ck_iret rfl rfl rfl rfl dX11_out_28 ⟨_, rfl, rfl, hq⟩
    · have hq := hq.2 c2
      refine ck_iconst (v := -1) dX11_out_15 (by decide) ?_
      exact ck_iret rfl rfl rfl rfl dX11_out_16 ⟨_, rfl, rfl, hq⟩
def wp_X11_known (x1 : Int32) (h : ck_H) (Q : Int32 → ck_H → Prop) : Prop := ((x1 < (-1 : Int32) → Q (0 : Int32) h) ∧ (¬ x1 < (-1 : Int32) → ((x1 ≤ (h.1 22 5) → (∀ h3, h3 = ck_sI h 22 6 x1 → Q (1 : Int32) h3)) ∧ (¬ x1 ≤ (h.1 22 5) → Q (0 : Int32) h))))
set_option maxHeartbeats 4000000 in
set_option maxRecDepth 100000 in
theorem c_X11_known {gr : Bool} {x1 : Int32} {h : ck_H} {Q : Int32 → ck_H → Prop} (hq : wp_X11_known x1 h Q) : ck_M yX11_known cX11_known 2 (some .boolean) 2 0 0 gr ck_shX h [.ref 0, .int x1] (ck_Qi ck_shX Q) := by
  refine ck_entry (lv := [(0, .ref 0), (1, .int x1)]) false (own := RX11) rfl (fun q => by cases q) (by decide) (Nat.le_of_ble_eq_true rfl) rfl ?_
  refine ck_iload_n 1 dX11_known_0 rfl rfl ?_
  refine ck_iconst (v := -1) dX11_known_1 (by decide) ?_
  refine ck_icmp_lt (tgt := 16) dX11_known_2 (by decide) (fun c1 => ?_) (fun c1 => ?_)
  · have hq := hq.1 c1
    refine ck_iconst (v := 0) dX11_known_16 (by decide) ?_
    exact ck_iret rfl (by decide) rfl rfl dX11_known_17 ⟨_, rfl, rfl, hq⟩
  · have hq := hq.2 c1
    refine ck_iload_n 1 dX11_known_5 rfl rfl ?_
    refine ck_aload_n 0 dX11_known_6 rfl rfl ?_
    refine ck_getR clX11 7 rfl rfl (by decide) fl_X11_40 dX11_known_7 ?_
    refine ck_getIN clX6 5 rfl rfl (by decide) fl_X11_305 dX11_known_10 ?_
    refine ck_icmp_le (tgt := 18) dX11_known_13 (by decide) (fun c2 => ?_) (fun c2 => ?_)
    · have hq := hq.1 c2
      refine ck_aload_n 0 dX11_known_18 rfl rfl ?_
      refine ck_getR clX11 7 rfl rfl (by decide) fl_X11_40 dX11_known_19 ?_
      refine ck_iload_n 1 dX11_known_22 rfl rfl ?_
      refine ck_putIN clX6 6 rfl rfl (by decide) fl_X11_306 rfl rfl rfl dX11_known_23 ?_
      refine ck_nmH (fun h3 eh3 => ?_)
      have hq := hq h3 eh3
      refine ck_iconst (v := 1) dX11_known_26 (by decide) ?_
      exact ck_iret rfl (by decide) rfl rfl dX11_known_27 ⟨_, rfl, rfl, hq⟩
    · have hq := hq.2 c2
      refine ck_iconst (v := 0) dX11_known_16 (by decide) ?_
      exact ck_iret rfl (by decide) rfl rfl dX11_known_17 ⟨_, rfl, rfl, hq⟩
def wp_X11_levers_63 (Q : Int32 → ck_H → Prop) (Kc : Int32 → Int32 → ck_H → Prop) (x1 : Int32) (x2 : Int32) (h : ck_H) : Prop := (∀ v8, v8 = x2 + 1 → Kc x1 v8 h)
def wp_X11_levers_11 (Q : Int32 → ck_H → Prop) : Nat → Int32 → Int32 → ck_H → Prop
  | 0 => fun _ _ _ => False
  | n + 1 => fun x1 x2 h => (((10 : Int32) ≤ x2 → Q x1 h) ∧ (¬ (10 : Int32) ≤ x2 → (wp_X0_thinkFromTextWith (((10 : Int32) * x2) + (5 : Int32)) h (fun h3 => (wp_X10_pass 17 (100 : Int32) h3 (fun h4 => (wp_X6_agreeWith h4 (fun r6 h5 => ((r6 = 0 → wp_X11_levers_63 Q (wp_X11_levers_11 Q n) x1 x2 h5) ∧ (¬ r6 = 0 → (∀ v9, v9 = (x1 ||| ((1 : Int32) <<< (x2 &&& 31))) → wp_X11_levers_63 Q (wp_X11_levers_11 Q n) v9 x2 h5)))))))))))
def wp_X11_levers (h : ck_H) (Q : Int32 → ck_H → Prop) : Prop := (wp_X6_findStruck h (fun h1 => wp_X11_levers_11 Q lpN (0 : Int32) (0 : Int32) h1))
set_option maxHeartbeats 4000000 in
set_option maxRecDepth 100000 in
theorem cp_X11_levers_63 {gr : Bool} {Q : Int32 → ck_H → Prop} {Kc : Int32 → Int32 → ck_H → Prop} (hKc : ∀ (x1 : Int32) (x2 : Int32) (h : ck_H), Kc x1 x2 h → ck_W cX11_levers 3 RX11 (some .int) 8 0 0 false gr (ck_Qi ck_shX Q) ck_shX h 0 0 11 [(0, .ref 0), (1, .int x1), (2, .int x2)] []) : ∀ (x1 : Int32) (x2 : Int32) (h : ck_H), wp_X11_levers_63 Q Kc x1 x2 h → ck_W cX11_levers 3 RX11 (some .int) 8 0 0 false gr (ck_Qi ck_shX Q) ck_shX h 0 0 63 [(0, .ref 0), (1, .int x1), (2, .int x2)] [] := by
  intro x1 x2 h hq
  obtain ⟨v8, ev8⟩ : ∃ z : Int32, z = x2 + 1 := ⟨_, rfl⟩
  have hq := hq v8 ev8
  refine ck_iinc (v := v8) (lv' := [(2, .int v8), (0, .ref 0), (1, .int x1)]) 2 dX11_levers_63 rfl (by rw [ev8]; rfl) (by decide) rfl ?_
  refine ck_goto (tgt := 11) dX11_levers_66 (by decide) ?_
  refine ck_loc [1, 2, 0] rfl ?_
  exact hKc _ _ _ hq
set_option maxHeartbeats 4000000 in
set_option maxRecDepth 100000 in
theorem cp_X11_levers_11 {gr : Bool} {Q : Int32 → ck_H → Prop} : ∀ (n : Nat) (x1 : Int32) (x2 : Int32) (h : ck_H), wp_X11_levers_11 Q n x1 x2 h → ck_W cX11_levers 3 RX11 (some .int) 8 0 0 false gr (ck_Qi ck_shX Q) ck_shX h 0 0 11 [(0, .ref 0), (1, .int x1), (2, .int x2)] [] := by
  intro n
  induction n with
  | zero => intro x1 x2 h hq; exact hq.elim
  | succ n hKc =>
    intro x1 x2 h hq
    refine ck_iload_n 2 dX11_levers_11 rfl rfl ?_
    refine ck_bipush (v := 10) dX11_levers_12 (by decide) ?_
    refine ck_icmp_ge (tgt := 69) dX11_levers_14 (by decide) (fun c2 => ?_) (fun c2 => ?_)
    · have hq := hq.1 c2
      refine ck_iload_n 1 dX11_levers_69 rfl rfl ?_
      exact ck_iret rfl rfl rfl rfl dX11_levers_70 ⟨_, rfl, rfl, hq⟩
    · have hq := hq.2 c2
      refine ck_aload_n 0 dX11_levers_17 rfl rfl ?_
      refine ck_getR clX11 6 rfl rfl (by decide) fl_X11_79 dX11_levers_18 ?_
      refine ck_bipush (v := 10) dX11_levers_21 (by decide) ?_
      refine ck_iload_n 2 dX11_levers_23 rfl rfl ?_
      refine ck_imul dX11_levers_24 ?_
      refine ck_iconst (v := 5) dX11_levers_25 (by decide) ?_
      refine ck_iadd dX11_levers_26 ?_
      refine ck_callV (c_X0_thinkFromTextWith hq) rfl cal_X0_thinkFromTextWith rfl ml_X11_312 vir_X0_thinkFromTextWith rfl rfl (by decide) (Nat.le_of_ble_eq_true rfl) (Nat.le_of_ble_eq_true rfl) (by decide) (by decide) dX11_levers_27 ?_
      rintro _ _ h3 ⟨rfl, rfl, hq⟩
      refine ck_aload_n 0 dX11_levers_30 rfl rfl ?_
      refine ck_getR clX11 5 rfl rfl (by decide) fl_X11_70 dX11_levers_31 ?_
      refine ck_aload_n 0 dX11_levers_34 rfl rfl ?_
      refine ck_getR clX11 4 rfl rfl (by decide) fl_X11_34 dX11_levers_35 ?_
      refine ck_bipush (v := 100) dX11_levers_38 (by decide) ?_
      refine ck_callV (c_X10_pass (by simp) hq) rfl cal_X10_pass rfl ml_X11_240 vir_X10_pass rfl rfl (by decide) (Nat.le_of_ble_eq_true rfl) (Nat.le_of_ble_eq_true rfl) (by decide) (by decide) dX11_levers_40 ?_
      rintro _ _ h4 ⟨rfl, rfl, hq⟩
      refine ck_aload_n 0 dX11_levers_43 rfl rfl ?_
      refine ck_getR clX11 7 rfl rfl (by decide) fl_X11_40 dX11_levers_44 ?_
      refine ck_aload_n 0 dX11_levers_47 rfl rfl ?_
      refine ck_getR clX11 4 rfl rfl (by decide) fl_X11_34 dX11_levers_48 ?_
      refine ck_callV (c_X6_agreeWith hq) rfl cal_X6_agreeWith rfl ml_X11_315 vir_X6_agreeWith rfl rfl (by decide) (Nat.le_of_ble_eq_true rfl) (Nat.le_of_ble_eq_true rfl) (by decide) (by decide) dX11_levers_51 ?_
      rintro _ _ h5 ⟨r6, rfl, rfl, hq⟩
      refine ck_if_eq (tgt := 63) dX11_levers_54 (by decide) (fun c7 => ?_) (fun c7 => ?_)
      · have hq := hq.1 c7
        exact cp_X11_levers_63 hKc _ _ _ hq
      · have hq := hq.2 c7
        refine ck_iload_n 1 dX11_levers_57 rfl rfl ?_
        refine ck_iconst (v := 1) dX11_levers_58 (by decide) ?_
        refine ck_iload_n 2 dX11_levers_59 rfl rfl ?_
        refine ck_ishl dX11_levers_60 ?_
        refine ck_ior dX11_levers_61 ?_
        refine ck_nmI (fun v9 ev9 => ?_)
        have hq := hq v9 ev9
        refine ck_istore_n (lv' := [(1, .int v9), (0, .ref 0), (2, .int x2)]) dX11_levers_62 rfl (by decide) rfl ?_
        refine ck_loc [1, 0, 2] rfl ?_
        exact cp_X11_levers_63 hKc _ _ _ hq
set_option maxHeartbeats 4000000 in
set_option maxRecDepth 100000 in
theorem c_X11_levers {gr : Bool} {h : ck_H} {Q : Int32 → ck_H → Prop} (hq : wp_X11_levers h Q) : ck_M yX11_levers cX11_levers 3 (some .int) 8 0 0 gr ck_shX h [.ref 0] (ck_Qi ck_shX Q) := by
  refine ck_entry (lv := [(0, .ref 0)]) false (own := RX11) rfl (fun q => by cases q) (by decide) (Nat.le_of_ble_eq_true rfl) rfl ?_
  refine ck_aload_n 0 dX11_levers_0 rfl rfl ?_
  refine ck_getR clX11 7 rfl rfl (by decide) fl_X11_40 dX11_levers_1 ?_
  refine ck_callV (c_X6_findStruck hq) rfl cal_X6_findStruck rfl ml_X11_309 vir_X6_findStruck rfl rfl (by decide) (Nat.le_of_ble_eq_true rfl) (Nat.le_of_ble_eq_true rfl) (by decide) (by decide) dX11_levers_4 ?_
  rintro _ _ h1 ⟨rfl, rfl, hq⟩
  refine ck_iconst (v := 0) dX11_levers_7 (by decide) ?_
  refine ck_istore_n (lv' := [(1, .int (0 : Int32)), (0, .ref 0)]) dX11_levers_8 rfl (by decide) rfl ?_
  refine ck_iconst (v := 0) dX11_levers_9 (by decide) ?_
  refine ck_istore_n (lv' := [(2, .int (0 : Int32)), (1, .int (0 : Int32)), (0, .ref 0)]) dX11_levers_10 rfl (by decide) rfl ?_
  refine ck_loc [2, 1, 0] rfl ?_
  refine cp_X11_levers_11 lpN _ _ _ hq
def wp_X11_chance_102 (Q : Int32 → ck_H → Prop) (Kc : Int32 → Int32 → Int32 → Int32 → ck_H → Prop) (x2 : Int32) (x3 : Int32) (x4 : Int32) (x5 : Int32) (h : ck_H) : Prop := (∀ v15, v15 = x5 + 1 → Kc x2 x3 x4 v15 h)
def wp_X11_chance_58 (Q : Int32 → ck_H → Prop) : Nat → Int32 → Int32 → Int32 → Int32 → ck_H → Prop
  | 0 => fun _ _ _ _ _ => False
  | n + 1 => fun x2 x3 x4 x5 h => (((10 : Int32) ≤ x5 → Q x4 h) ∧ (¬ (10 : Int32) ≤ x5 → (wp_X1_becomeLike 17 7 h (fun h10 => (wp_X10_pass 17 x2 h10 (fun h11 => (wp_X0_gainMore h11 (fun r13 h12 => ((r13 < x3 → wp_X11_chance_102 Q (wp_X11_chance_58 Q n) x2 x3 x4 x5 h12) ∧ (¬ r13 < x3 → (∀ v16, v16 = x4 + 1 → wp_X11_chance_102 Q (wp_X11_chance_58 Q n) x2 x3 v16 x5 h12)))))))))))
def wp_X11_chance (x1 : Int32) (x2 : Int32) (x3 : Int32) (h : ck_H) (Q : Int32 → ck_H → Prop) : Prop := ((x1 < 0 → Q (-1 : Int32) h) ∧ (¬ x1 < 0 → ((x2 < (1 : Int32) → Q (-1 : Int32) h) ∧ (¬ x2 < (1 : Int32) → (((99 : Int32) < x2 → Q (-1 : Int32) h) ∧ (¬ (99 : Int32) < x2 → ((x3 < 0 → Q (-1 : Int32) h) ∧ (¬ x3 < 0 → ((x3 ≤ (999 : Int32) → (wp_X0_think h (fun h6 => (∀ h7, h7 = ck_sI h6 74 10 (1 : Int32) → (∀ h8, h8 = ck_sL h7 74 11 x1.toInt64 → wp_X11_chance_58 Q lpN x2 x3 (0 : Int32) (0 : Int32) h8))))) ∧ (¬ x3 ≤ (999 : Int32) → Q (-1 : Int32) h))))))))))
set_option maxHeartbeats 4000000 in
set_option maxRecDepth 100000 in
theorem cp_X11_chance_102 {gr : Bool} {Q : Int32 → ck_H → Prop} {Kc : Int32 → Int32 → Int32 → Int32 → ck_H → Prop} (hKc : ∀ (x2 : Int32) (x3 : Int32) (x4 : Int32) (x5 : Int32) (h : ck_H), Kc x2 x3 x4 x5 h → ck_W cX11_chance 6 RX11 (some .int) 8 0 0 false gr (ck_Qi ck_shX Q) ck_shX h 0 0 58 [(0, .ref 0), (2, .int x2), (3, .int x3), (4, .int x4), (5, .int x5)] []) : ∀ (x2 : Int32) (x3 : Int32) (x4 : Int32) (x5 : Int32) (h : ck_H), wp_X11_chance_102 Q Kc x2 x3 x4 x5 h → ck_W cX11_chance 6 RX11 (some .int) 8 0 0 false gr (ck_Qi ck_shX Q) ck_shX h 0 0 102 [(0, .ref 0), (2, .int x2), (3, .int x3), (4, .int x4), (5, .int x5)] [] := by
  intro x2 x3 x4 x5 h hq
  obtain ⟨v15, ev15⟩ : ∃ z : Int32, z = x5 + 1 := ⟨_, rfl⟩
  have hq := hq v15 ev15
  refine ck_iinc (v := v15) (lv' := [(5, .int v15), (0, .ref 0), (2, .int x2), (3, .int x3), (4, .int x4)]) 4 dX11_chance_102 rfl (by rw [ev15]; rfl) (by decide) rfl ?_
  refine ck_goto (tgt := 58) dX11_chance_105 (by decide) ?_
  refine ck_loc [1, 2, 3, 4, 0] rfl ?_
  exact hKc _ _ _ _ _ hq
set_option maxHeartbeats 4000000 in
set_option maxRecDepth 100000 in
theorem cp_X11_chance_58 {gr : Bool} {Q : Int32 → ck_H → Prop} : ∀ (n : Nat) (x2 : Int32) (x3 : Int32) (x4 : Int32) (x5 : Int32) (h : ck_H), wp_X11_chance_58 Q n x2 x3 x4 x5 h → ck_W cX11_chance 6 RX11 (some .int) 8 0 0 false gr (ck_Qi ck_shX Q) ck_shX h 0 0 58 [(0, .ref 0), (2, .int x2), (3, .int x3), (4, .int x4), (5, .int x5)] [] := by
  intro n
  induction n with
  | zero => intro x2 x3 x4 x5 h hq; exact hq.elim
  | succ n hKc =>
    intro x2 x3 x4 x5 h hq
    refine ck_iload 4 dX11_chance_58 rfl ?_
    refine ck_bipush (v := 10) dX11_chance_60 (by decide) ?_
    refine ck_icmp_ge (tgt := 108) dX11_chance_62 (by decide) (fun c9 => ?_) (fun c9 => ?_)
    · have hq := hq.1 c9
      refine ck_iload 3 dX11_chance_108 rfl ?_
      exact ck_iret rfl rfl rfl rfl dX11_chance_110 ⟨_, rfl, rfl, hq⟩
    · have hq := hq.2 c9
      refine ck_aload_n 0 dX11_chance_65 rfl rfl ?_
      refine ck_getR clX11 4 rfl rfl (by decide) fl_X11_34 dX11_chance_66 ?_
      refine ck_aload_n 0 dX11_chance_69 rfl rfl ?_
      refine ck_getR clX11 2 rfl rfl (by decide) fl_X11_27 dX11_chance_70 ?_
      refine ck_callV (c_X1_becomeLike (by simp) hq) rfl cal_X1_becomeLike rfl ml_X11_326 vir_X1_becomeLike rfl rfl (by decide) (Nat.le_of_ble_eq_true rfl) (Nat.le_of_ble_eq_true rfl) (by decide) (by decide) dX11_chance_73 ?_
      rintro _ _ h10 ⟨rfl, rfl, hq⟩
      refine ck_aload_n 0 dX11_chance_76 rfl rfl ?_
      refine ck_getR clX11 5 rfl rfl (by decide) fl_X11_70 dX11_chance_77 ?_
      refine ck_aload_n 0 dX11_chance_80 rfl rfl ?_
      refine ck_getR clX11 4 rfl rfl (by decide) fl_X11_34 dX11_chance_81 ?_
      refine ck_iload_n 1 dX11_chance_84 rfl rfl ?_
      refine ck_callV (c_X10_pass (by simp) hq) rfl cal_X10_pass rfl ml_X11_240 vir_X10_pass rfl rfl (by decide) (Nat.le_of_ble_eq_true rfl) (Nat.le_of_ble_eq_true rfl) (by decide) (by decide) dX11_chance_85 ?_
      rintro _ _ h11 ⟨rfl, rfl, hq⟩
      refine ck_aload_n 0 dX11_chance_88 rfl rfl ?_
      refine ck_getR clX11 6 rfl rfl (by decide) fl_X11_79 dX11_chance_89 ?_
      refine ck_callV (c_X0_gainMore hq) rfl cal_X0_gainMore rfl ml_X11_250 vir_X0_gainMore rfl rfl (by decide) (Nat.le_of_ble_eq_true rfl) (Nat.le_of_ble_eq_true rfl) (by decide) (by decide) dX11_chance_92 ?_
      rintro _ _ h12 ⟨r13, rfl, rfl, hq⟩
      refine ck_iload_n 2 dX11_chance_95 rfl rfl ?_
      refine ck_icmp_lt (tgt := 102) dX11_chance_96 (by decide) (fun c14 => ?_) (fun c14 => ?_)
      · have hq := hq.1 c14
        exact cp_X11_chance_102 hKc _ _ _ _ _ hq
      · have hq := hq.2 c14
        obtain ⟨v16, ev16⟩ : ∃ z : Int32, z = x4 + 1 := ⟨_, rfl⟩
        have hq := hq v16 ev16
        refine ck_iinc (v := v16) (lv' := [(4, .int v16), (0, .ref 0), (2, .int x2), (3, .int x3), (5, .int x5)]) 3 dX11_chance_99 rfl (by rw [ev16]; rfl) (by decide) rfl ?_
        refine ck_loc [1, 2, 3, 0, 4] rfl ?_
        exact cp_X11_chance_102 hKc _ _ _ _ _ hq
set_option maxHeartbeats 4000000 in
set_option maxRecDepth 100000 in
theorem c_X11_chance {gr : Bool} {x1 : Int32} {x2 : Int32} {x3 : Int32} {h : ck_H} {Q : Int32 → ck_H → Prop} (hq : wp_X11_chance x1 x2 x3 h Q) : ck_M yX11_chance cX11_chance 6 (some .int) 8 0 0 gr ck_shX h [.ref 0, .int x1, .int x2, .int x3] (ck_Qi ck_shX Q) := by
  refine ck_entry (lv := [(0, .ref 0), (1, .int x1), (2, .int x2), (3, .int x3)]) false (own := RX11) rfl (fun q => by cases q) (by decide) (Nat.le_of_ble_eq_true rfl) rfl ?_
  refine ck_iload_n 1 dX11_chance_0 rfl rfl ?_
  refine ck_if_lt (tgt := 26) dX11_chance_1 (by decide) (fun c1 => ?_) (fun c1 => ?_)
  · have hq := hq.1 c1
    refine ck_iconst (v := -1) dX11_chance_26 (by decide) ?_
    exact ck_iret rfl rfl rfl rfl dX11_chance_27 ⟨_, rfl, rfl, hq⟩
  · have hq := hq.2 c1
    refine ck_iload_n 2 dX11_chance_4 rfl rfl ?_
    refine ck_iconst (v := 1) dX11_chance_5 (by decide) ?_
    refine ck_icmp_lt (tgt := 26) dX11_chance_6 (by decide) (fun c2 => ?_) (fun c2 => ?_)
    · have hq := hq.1 c2
      refine ck_iconst (v := -1) dX11_chance_26 (by decide) ?_
      exact ck_iret rfl rfl rfl rfl dX11_chance_27 ⟨_, rfl, rfl, hq⟩
    · have hq := hq.2 c2
      refine ck_iload_n 2 dX11_chance_9 rfl rfl ?_
      refine ck_bipush (v := 99) dX11_chance_10 (by decide) ?_
      refine ck_icmp_gt (tgt := 26) dX11_chance_12 (by decide) (fun c3 => ?_) (fun c3 => ?_)
      · have hq := hq.1 c3
        refine ck_iconst (v := -1) dX11_chance_26 (by decide) ?_
        exact ck_iret rfl rfl rfl rfl dX11_chance_27 ⟨_, rfl, rfl, hq⟩
      · have hq := hq.2 c3
        refine ck_iload_n 3 dX11_chance_15 rfl rfl ?_
        refine ck_if_lt (tgt := 26) dX11_chance_16 (by decide) (fun c4 => ?_) (fun c4 => ?_)
        · have hq := hq.1 c4
          refine ck_iconst (v := -1) dX11_chance_26 (by decide) ?_
          exact ck_iret rfl rfl rfl rfl dX11_chance_27 ⟨_, rfl, rfl, hq⟩
        · have hq := hq.2 c4
          refine ck_iload_n 3 dX11_chance_19 rfl rfl ?_
          refine ck_sipush (v := 999) dX11_chance_20 (by decide) ?_
          refine ck_icmp_le (tgt := 28) dX11_chance_23 (by decide) (fun c5 => ?_) (fun c5 => ?_)
          · have hq := hq.1 c5
            refine ck_aload_n 0 dX11_chance_28 rfl rfl ?_
            refine ck_getR clX11 6 rfl rfl (by decide) fl_X11_79 dX11_chance_29 ?_
            refine ck_callV (c_X0_think hq) rfl cal_X0_think rfl ml_X11_244 vir_X0_think rfl rfl (by decide) (Nat.le_of_ble_eq_true rfl) (Nat.le_of_ble_eq_true rfl) (by decide) (by decide) dX11_chance_32 ?_
            rintro _ _ h6 ⟨rfl, rfl, hq⟩
            refine ck_aload_n 0 dX11_chance_35 rfl rfl ?_
            refine ck_getR clX11 5 rfl rfl (by decide) fl_X11_70 dX11_chance_36 ?_
            refine ck_iconst (v := 1) dX11_chance_39 (by decide) ?_
            refine ck_putIN clX10 10 rfl rfl (by decide) fl_X11_319 rfl (by decide) (by decide) dX11_chance_40 ?_
            refine ck_nmH (fun h7 eh7 => ?_)
            have hq := hq h7 eh7
            refine ck_aload_n 0 dX11_chance_43 rfl rfl ?_
            refine ck_getR clX11 5 rfl rfl (by decide) fl_X11_70 dX11_chance_44 ?_
            refine ck_iload_n 1 dX11_chance_47 rfl rfl ?_
            refine ck_i2l dX11_chance_48 ?_
            refine ck_putLN clX10 11 rfl rfl (by decide) fl_X11_322 rfl rfl rfl dX11_chance_49 ?_
            refine ck_nmH (fun h8 eh8 => ?_)
            have hq := hq h8 eh8
            refine ck_iconst (v := 0) dX11_chance_52 (by decide) ?_
            refine ck_istore (lv' := [(4, .int (0 : Int32)), (0, .ref 0), (1, .int x1), (2, .int x2), (3, .int x3)]) dX11_chance_53 (by decide) rfl ?_
            refine ck_iconst (v := 0) dX11_chance_55 (by decide) ?_
            refine ck_istore (lv' := [(5, .int (0 : Int32)), (4, .int (0 : Int32)), (0, .ref 0), (1, .int x1), (2, .int x2), (3, .int x3)]) dX11_chance_56 (by decide) rfl ?_
            refine ck_loc [2, 4, 5, 1, 0] rfl ?_
            refine cp_X11_chance_58 lpN _ _ _ _ _ hq
          · have hq := hq.2 c5
            refine ck_iconst (v := -1) dX11_chance_26 (by decide) ?_
            exact ck_iret rfl rfl rfl rfl dX11_chance_27 ⟨_, rfl, rfl, hq⟩
def wp_X11_tried_132 (Q : Int32 → ck_H → Prop) (x3 : Int32) (h : ck_H) : Prop := (wp_X10_pass 17 x3 h (fun h20 => (wp_X0_gainMore h20 (fun r22 h21 => Q r22 h21))))
def wp_X11_tried_115 (Q : Int32 → ck_H → Prop) (x1 : Int32) (x3 : Int32) (y1 : Int32) (h : ck_H) : Prop := ((y1 = 0 ∨ y1 = 1) ∧ (∀ h18, h18 = ck_sI h 74 7 y1 → ((¬ x1 = (5 : Int32) → wp_X11_tried_132 Q x3 h18) ∧ (x1 = (5 : Int32) → (∀ h23, h23 = ck_sI h18 17 6 (99 : Int32) → wp_X11_tried_132 Q x3 h23)))))
def wp_X11_tried_98 (Q : Int32 → ck_H → Prop) (x1 : Int32) (x3 : Int32) (y1 : Int32) (h : ck_H) : Prop := ((y1 = 0 ∨ y1 = 1) ∧ (∀ h15, h15 = ck_sI h 74 8 y1 → ((¬ x1 = (4 : Int32) → wp_X11_tried_115 Q x1 x3 (0 : Int32) h15) ∧ (x1 = (4 : Int32) → wp_X11_tried_115 Q x1 x3 (1 : Int32) h15))))
def wp_X11_tried_81 (Q : Int32 → ck_H → Prop) (x1 : Int32) (x3 : Int32) (y1 : Int32) (h : ck_H) : Prop := (∀ h12, h12 = ck_sI h 74 9 y1 → ((¬ x1 = (3 : Int32) → wp_X11_tried_98 Q x1 x3 (0 : Int32) h12) ∧ (x1 = (3 : Int32) → wp_X11_tried_98 Q x1 x3 (1 : Int32) h12)))
def wp_X11_tried_64 (Q : Int32 → ck_H → Prop) (x1 : Int32) (x2 : Int32) (x3 : Int32) (y1 : Int32) (h : ck_H) : Prop := ((y1 = 0 ∨ y1 = 1) ∧ (∀ h10, h10 = ck_sI h 74 6 y1 → ((¬ x1 = (2 : Int32) → wp_X11_tried_81 Q x1 x3 (-1 : Int32) h10) ∧ (x1 = (2 : Int32) → wp_X11_tried_81 Q x1 x3 x2 h10))))
def wp_X11_tried_43 (Q : Int32 → ck_H → Prop) (x1 : Int32) (x2 : Int32) (x3 : Int32) (h : ck_H) : Prop := (wp_X0_think h (fun h7 => ((¬ x1 = (1 : Int32) → wp_X11_tried_64 Q x1 x2 x3 (0 : Int32) h7) ∧ (x1 = (1 : Int32) → wp_X11_tried_64 Q x1 x2 x3 (1 : Int32) h7))))
def wp_X11_tried (x1 : Int32) (x2 : Int32) (x3 : Int32) (h : ck_H) (Q : Int32 → ck_H → Prop) : Prop := ((x1 < 0 → Q (-1 : Int32) h) ∧ (¬ x1 < 0 → (((5 : Int32) < x1 → Q (-1 : Int32) h) ∧ (¬ (5 : Int32) < x1 → ((x3 < 0 → Q (-1 : Int32) h) ∧ (¬ x3 < 0 → ((x3 ≤ (99 : Int32) → ((¬ x1 = (2 : Int32) → ((x2 = 0 → wp_X11_tried_43 Q x1 x2 x3 h) ∧ (¬ x2 = 0 → Q (-1 : Int32) h))) ∧ (x1 = (2 : Int32) → (wp_X11_isJudge x2 h (fun r25 h24 => ((¬ r25 = 0 → wp_X11_tried_43 Q x1 x2 x3 h24) ∧ (r25 = 0 → Q (-1 : Int32) h24))))))) ∧ (¬ x3 ≤ (99 : Int32) → Q (-1 : Int32) h))))))))
set_option maxHeartbeats 4000000 in
set_option maxRecDepth 100000 in
theorem cp_X11_tried_132 {gr : Bool} {Q : Int32 → ck_H → Prop} : ∀ (x3 : Int32) (h : ck_H), wp_X11_tried_132 Q x3 h → ck_W cX11_tried 4 RX11 (some .int) 8 0 0 false gr (ck_Qi ck_shX Q) ck_shX h 0 0 132 [(0, .ref 0), (3, .int x3)] [] := by
  intro x3 h hq
  refine ck_aload_n 0 dX11_tried_132 rfl rfl ?_
  refine ck_getR clX11 5 rfl rfl (by decide) fl_X11_70 dX11_tried_133 ?_
  refine ck_aload_n 0 dX11_tried_136 rfl rfl ?_
  refine ck_getR clX11 4 rfl rfl (by decide) fl_X11_34 dX11_tried_137 ?_
  refine ck_iload_n 1 dX11_tried_140 rfl rfl ?_
  refine ck_callV (c_X10_pass (by simp) hq) rfl cal_X10_pass rfl ml_X11_240 vir_X10_pass rfl rfl (by decide) (Nat.le_of_ble_eq_true rfl) (Nat.le_of_ble_eq_true rfl) (by decide) (by decide) dX11_tried_141 ?_
  rintro _ _ h20 ⟨rfl, rfl, hq⟩
  refine ck_aload_n 0 dX11_tried_144 rfl rfl ?_
  refine ck_getR clX11 6 rfl rfl (by decide) fl_X11_79 dX11_tried_145 ?_
  refine ck_callV (c_X0_gainMore hq) rfl cal_X0_gainMore rfl ml_X11_250 vir_X0_gainMore rfl rfl (by decide) (Nat.le_of_ble_eq_true rfl) (Nat.le_of_ble_eq_true rfl) (by decide) (by decide) dX11_tried_148 ?_
  rintro _ _ h21 ⟨r22, rfl, rfl, hq⟩
  exact ck_iret rfl rfl rfl rfl dX11_tried_151 ⟨_, rfl, rfl, hq⟩
set_option maxHeartbeats 4000000 in
set_option maxRecDepth 100000 in
theorem cp_X11_tried_115 {gr : Bool} {Q : Int32 → ck_H → Prop} : ∀ (x1 : Int32) (x3 : Int32) (y1 : Int32) (h : ck_H), wp_X11_tried_115 Q x1 x3 y1 h → ck_W cX11_tried 4 RX11 (some .int) 8 0 0 false gr (ck_Qi ck_shX Q) ck_shX h 0 0 115 [(0, .ref 0), (1, .int x1), (3, .int x3)] [.int y1, .ref 74] := by
  intro x1 x3 y1 h hq
  obtain ⟨b17, hq⟩ := hq
  refine ck_putIN clX10 7 rfl rfl (by decide) fl_X11_339 rfl (ck_bo b17).1 (ck_bo b17).2 dX11_tried_115 ?_
  refine ck_nmH (fun h18 eh18 => ?_)
  have hq := hq h18 eh18
  refine ck_iload_n 1 dX11_tried_118 rfl rfl ?_
  refine ck_iconst (v := 5) dX11_tried_119 (by decide) ?_
  refine ck_icmp_ne (tgt := 132) dX11_tried_120 (by decide) (fun c19 => ?_) (fun c19 => ?_)
  · have hq := hq.1 c19
    refine ck_loc [0, 2] rfl ?_
    exact cp_X11_tried_132 _ _ hq
  · have hq := hq.2 c19
    refine ck_aload_n 0 dX11_tried_123 rfl rfl ?_
    refine ck_getR clX11 4 rfl rfl (by decide) fl_X11_34 dX11_tried_124 ?_
    refine ck_bipush (v := 99) dX11_tried_127 (by decide) ?_
    refine ck_putIN clX1 6 rfl rfl (by decide) fl_X11_234 rfl rfl rfl dX11_tried_129 ?_
    refine ck_nmH (fun h23 eh23 => ?_)
    have hq := hq h23 eh23
    refine ck_loc [0, 2] rfl ?_
    exact cp_X11_tried_132 _ _ hq
set_option maxHeartbeats 4000000 in
set_option maxRecDepth 100000 in
theorem cp_X11_tried_98 {gr : Bool} {Q : Int32 → ck_H → Prop} : ∀ (x1 : Int32) (x3 : Int32) (y1 : Int32) (h : ck_H), wp_X11_tried_98 Q x1 x3 y1 h → ck_W cX11_tried 4 RX11 (some .int) 8 0 0 false gr (ck_Qi ck_shX Q) ck_shX h 0 0 98 [(0, .ref 0), (1, .int x1), (3, .int x3)] [.int y1, .ref 74] := by
  intro x1 x3 y1 h hq
  obtain ⟨b14, hq⟩ := hq
  refine ck_putIN clX10 8 rfl rfl (by decide) fl_X11_336 rfl (ck_bo b14).1 (ck_bo b14).2 dX11_tried_98 ?_
  refine ck_nmH (fun h15 eh15 => ?_)
  have hq := hq h15 eh15
  refine ck_aload_n 0 dX11_tried_101 rfl rfl ?_
  refine ck_getR clX11 5 rfl rfl (by decide) fl_X11_70 dX11_tried_102 ?_
  refine ck_iload_n 1 dX11_tried_105 rfl rfl ?_
  refine ck_iconst (v := 4) dX11_tried_106 (by decide) ?_
  refine ck_icmp_ne (tgt := 114) dX11_tried_107 (by decide) (fun c16 => ?_) (fun c16 => ?_)
  · have hq := hq.1 c16
    refine ck_iconst (v := 0) dX11_tried_114 (by decide) ?_
    exact cp_X11_tried_115 _ _ _ _ hq
  · have hq := hq.2 c16
    refine ck_iconst (v := 1) dX11_tried_110 (by decide) ?_
    refine ck_goto (tgt := 115) dX11_tried_111 (by decide) ?_
    exact cp_X11_tried_115 _ _ _ _ hq
set_option maxHeartbeats 4000000 in
set_option maxRecDepth 100000 in
theorem cp_X11_tried_81 {gr : Bool} {Q : Int32 → ck_H → Prop} : ∀ (x1 : Int32) (x3 : Int32) (y1 : Int32) (h : ck_H), wp_X11_tried_81 Q x1 x3 y1 h → ck_W cX11_tried 4 RX11 (some .int) 8 0 0 false gr (ck_Qi ck_shX Q) ck_shX h 0 0 81 [(0, .ref 0), (1, .int x1), (3, .int x3)] [.int y1, .ref 74] := by
  intro x1 x3 y1 h hq
  refine ck_putIN clX10 9 rfl rfl (by decide) fl_X11_333 rfl rfl rfl dX11_tried_81 ?_
  refine ck_nmH (fun h12 eh12 => ?_)
  have hq := hq h12 eh12
  refine ck_aload_n 0 dX11_tried_84 rfl rfl ?_
  refine ck_getR clX11 5 rfl rfl (by decide) fl_X11_70 dX11_tried_85 ?_
  refine ck_iload_n 1 dX11_tried_88 rfl rfl ?_
  refine ck_iconst (v := 3) dX11_tried_89 (by decide) ?_
  refine ck_icmp_ne (tgt := 97) dX11_tried_90 (by decide) (fun c13 => ?_) (fun c13 => ?_)
  · have hq := hq.1 c13
    refine ck_iconst (v := 0) dX11_tried_97 (by decide) ?_
    exact cp_X11_tried_98 _ _ _ _ hq
  · have hq := hq.2 c13
    refine ck_iconst (v := 1) dX11_tried_93 (by decide) ?_
    refine ck_goto (tgt := 98) dX11_tried_94 (by decide) ?_
    exact cp_X11_tried_98 _ _ _ _ hq
set_option maxHeartbeats 4000000 in
set_option maxRecDepth 100000 in
theorem cp_X11_tried_64 {gr : Bool} {Q : Int32 → ck_H → Prop} : ∀ (x1 : Int32) (x2 : Int32) (x3 : Int32) (y1 : Int32) (h : ck_H), wp_X11_tried_64 Q x1 x2 x3 y1 h → ck_W cX11_tried 4 RX11 (some .int) 8 0 0 false gr (ck_Qi ck_shX Q) ck_shX h 0 0 64 [(0, .ref 0), (1, .int x1), (2, .int x2), (3, .int x3)] [.int y1, .ref 74] := by
  intro x1 x2 x3 y1 h hq
  obtain ⟨b9, hq⟩ := hq
  refine ck_putIN clX10 6 rfl rfl (by decide) fl_X11_330 rfl (ck_bo b9).1 (ck_bo b9).2 dX11_tried_64 ?_
  refine ck_nmH (fun h10 eh10 => ?_)
  have hq := hq h10 eh10
  refine ck_aload_n 0 dX11_tried_67 rfl rfl ?_
  refine ck_getR clX11 5 rfl rfl (by decide) fl_X11_70 dX11_tried_68 ?_
  refine ck_iload_n 1 dX11_tried_71 rfl rfl ?_
  refine ck_iconst (v := 2) dX11_tried_72 (by decide) ?_
  refine ck_icmp_ne (tgt := 80) dX11_tried_73 (by decide) (fun c11 => ?_) (fun c11 => ?_)
  · have hq := hq.1 c11
    refine ck_iconst (v := -1) dX11_tried_80 (by decide) ?_
    refine ck_loc [0, 1, 3] rfl ?_
    exact cp_X11_tried_81 _ _ _ _ hq
  · have hq := hq.2 c11
    refine ck_iload_n 2 dX11_tried_76 rfl rfl ?_
    refine ck_goto (tgt := 81) dX11_tried_77 (by decide) ?_
    refine ck_loc [0, 1, 3] rfl ?_
    exact cp_X11_tried_81 _ _ _ _ hq
set_option maxHeartbeats 4000000 in
set_option maxRecDepth 100000 in
theorem cp_X11_tried_43 {gr : Bool} {Q : Int32 → ck_H → Prop} : ∀ (x1 : Int32) (x2 : Int32) (x3 : Int32) (h : ck_H), wp_X11_tried_43 Q x1 x2 x3 h → ck_W cX11_tried 4 RX11 (some .int) 8 0 0 false gr (ck_Qi ck_shX Q) ck_shX h 0 0 43 [(0, .ref 0), (1, .int x1), (2, .int x2), (3, .int x3)] [] := by
  intro x1 x2 x3 h hq
  refine ck_aload_n 0 dX11_tried_43 rfl rfl ?_
  refine ck_getR clX11 6 rfl rfl (by decide) fl_X11_79 dX11_tried_44 ?_
  refine ck_callV (c_X0_think hq) rfl cal_X0_think rfl ml_X11_244 vir_X0_think rfl rfl (by decide) (Nat.le_of_ble_eq_true rfl) (Nat.le_of_ble_eq_true rfl) (by decide) (by decide) dX11_tried_47 ?_
  rintro _ _ h7 ⟨rfl, rfl, hq⟩
  refine ck_aload_n 0 dX11_tried_50 rfl rfl ?_
  refine ck_getR clX11 5 rfl rfl (by decide) fl_X11_70 dX11_tried_51 ?_
  refine ck_iload_n 1 dX11_tried_54 rfl rfl ?_
  refine ck_iconst (v := 1) dX11_tried_55 (by decide) ?_
  refine ck_icmp_ne (tgt := 63) dX11_tried_56 (by decide) (fun c8 => ?_) (fun c8 => ?_)
  · have hq := hq.1 c8
    refine ck_iconst (v := 0) dX11_tried_63 (by decide) ?_
    exact cp_X11_tried_64 _ _ _ _ _ hq
  · have hq := hq.2 c8
    refine ck_iconst (v := 1) dX11_tried_59 (by decide) ?_
    refine ck_goto (tgt := 64) dX11_tried_60 (by decide) ?_
    exact cp_X11_tried_64 _ _ _ _ _ hq
set_option maxHeartbeats 4000000 in
set_option maxRecDepth 100000 in
theorem c_X11_tried {gr : Bool} {x1 : Int32} {x2 : Int32} {x3 : Int32} {h : ck_H} {Q : Int32 → ck_H → Prop} (hq : wp_X11_tried x1 x2 x3 h Q) : ck_M yX11_tried cX11_tried 4 (some .int) 8 0 0 gr ck_shX h [.ref 0, .int x1, .int x2, .int x3] (ck_Qi ck_shX Q) := by
  refine ck_entry (lv := [(0, .ref 0), (1, .int x1), (2, .int x2), (3, .int x3)]) false (own := RX11) rfl (fun q => by cases q) (by decide) (Nat.le_of_ble_eq_true rfl) rfl ?_
  refine ck_iload_n 1 dX11_tried_0 rfl rfl ?_
  refine ck_if_lt (tgt := 19) dX11_tried_1 (by decide) (fun c1 => ?_) (fun c1 => ?_)
  · have hq := hq.1 c1
    refine ck_iconst (v := -1) dX11_tried_19 (by decide) ?_
    exact ck_iret rfl rfl rfl rfl dX11_tried_20 ⟨_, rfl, rfl, hq⟩
  · have hq := hq.2 c1
    refine ck_iload_n 1 dX11_tried_4 rfl rfl ?_
    refine ck_iconst (v := 5) dX11_tried_5 (by decide) ?_
    refine ck_icmp_gt (tgt := 19) dX11_tried_6 (by decide) (fun c2 => ?_) (fun c2 => ?_)
    · have hq := hq.1 c2
      refine ck_iconst (v := -1) dX11_tried_19 (by decide) ?_
      exact ck_iret rfl rfl rfl rfl dX11_tried_20 ⟨_, rfl, rfl, hq⟩
    · have hq := hq.2 c2
      refine ck_iload_n 3 dX11_tried_9 rfl rfl ?_
      refine ck_if_lt (tgt := 19) dX11_tried_10 (by decide) (fun c3 => ?_) (fun c3 => ?_)
      · have hq := hq.1 c3
        refine ck_iconst (v := -1) dX11_tried_19 (by decide) ?_
        exact ck_iret rfl rfl rfl rfl dX11_tried_20 ⟨_, rfl, rfl, hq⟩
      · have hq := hq.2 c3
        refine ck_iload_n 3 dX11_tried_13 rfl rfl ?_
        refine ck_bipush (v := 99) dX11_tried_14 (by decide) ?_
        refine ck_icmp_le (tgt := 21) dX11_tried_16 (by decide) (fun c4 => ?_) (fun c4 => ?_)
        · have hq := hq.1 c4
          refine ck_iload_n 1 dX11_tried_21 rfl rfl ?_
          refine ck_iconst (v := 2) dX11_tried_22 (by decide) ?_
          refine ck_icmp_ne (tgt := 37) dX11_tried_23 (by decide) (fun c5 => ?_) (fun c5 => ?_)
          · have hq := hq.1 c5
            refine ck_iload_n 2 dX11_tried_37 rfl rfl ?_
            refine ck_if_eq (tgt := 43) dX11_tried_38 (by decide) (fun c6 => ?_) (fun c6 => ?_)
            · have hq := hq.1 c6
              exact cp_X11_tried_43 _ _ _ _ hq
            · have hq := hq.2 c6
              refine ck_iconst (v := -1) dX11_tried_41 (by decide) ?_
              exact ck_iret rfl rfl rfl rfl dX11_tried_42 ⟨_, rfl, rfl, hq⟩
          · have hq := hq.2 c5
            refine ck_aload_n 0 dX11_tried_26 rfl rfl ?_
            refine ck_iload_n 2 dX11_tried_27 rfl rfl ?_
            refine ck_callV (c_X11_isJudge hq) rfl cal_X11_isJudge rfl ml_X11_168 vir_X11_isJudge rfl rfl (by decide) (Nat.le_of_ble_eq_true rfl) (Nat.le_of_ble_eq_true rfl) (by decide) (by decide) dX11_tried_28 ?_
            rintro _ _ h24 ⟨r25, rfl, rfl, hq⟩
            refine ck_if_ne (tgt := 43) dX11_tried_31 (by decide) (fun c26 => ?_) (fun c26 => ?_)
            · have hq := hq.1 c26
              exact cp_X11_tried_43 _ _ _ _ hq
            · have hq := hq.2 c26
              refine ck_goto (tgt := 41) dX11_tried_34 (by decide) ?_
              refine ck_iconst (v := -1) dX11_tried_41 (by decide) ?_
              exact ck_iret rfl rfl rfl rfl dX11_tried_42 ⟨_, rfl, rfl, hq⟩
        · have hq := hq.2 c4
          refine ck_iconst (v := -1) dX11_tried_19 (by decide) ?_
          exact ck_iret rfl rfl rfl rfl dX11_tried_20 ⟨_, rfl, rfl, hq⟩
def wp_X11_undo (h : ck_H) (Q : Int32 → ck_H → Prop) : Prop := ((¬ (h.1 28 3) = 0 → (wp_X2_takeBackLatest h (fun h2 => Q (h2.1 28 3) h2))) ∧ ((h.1 28 3) = 0 → Q (-1 : Int32) h))
set_option maxHeartbeats 4000000 in
set_option maxRecDepth 100000 in
theorem c_X11_undo {gr : Bool} {h : ck_H} {Q : Int32 → ck_H → Prop} (hq : wp_X11_undo h Q) : ck_M yX11_undo cX11_undo 1 (some .int) 3 0 0 gr ck_shX h [.ref 0] (ck_Qi ck_shX Q) := by
  refine ck_entry (lv := [(0, .ref 0)]) false (own := RX11) rfl (fun q => by cases q) (by decide) (Nat.le_of_ble_eq_true rfl) rfl ?_
  refine ck_aload_n 0 dX11_undo_0 rfl rfl ?_
  refine ck_getR clX11 8 rfl rfl (by decide) fl_X11_47 dX11_undo_1 ?_
  refine ck_getIN clX2 3 rfl rfl (by decide) fl_X11_342 dX11_undo_4 ?_
  refine ck_if_ne (tgt := 12) dX11_undo_7 (by decide) (fun c1 => ?_) (fun c1 => ?_)
  · have hq := hq.1 c1
    refine ck_aload_n 0 dX11_undo_12 rfl rfl ?_
    refine ck_getR clX11 8 rfl rfl (by decide) fl_X11_47 dX11_undo_13 ?_
    refine ck_aload_n 0 dX11_undo_16 rfl rfl ?_
    refine ck_getR clX11 2 rfl rfl (by decide) fl_X11_27 dX11_undo_17 ?_
    refine ck_callV (c_X2_takeBackLatest hq) rfl cal_X2_takeBackLatest rfl ml_X11_343 vir_X2_takeBackLatest rfl rfl (by decide) (Nat.le_of_ble_eq_true rfl) (Nat.le_of_ble_eq_true rfl) (by decide) (by decide) dX11_undo_20 ?_
    rintro _ _ h2 ⟨rfl, rfl, hq⟩
    refine ck_aload_n 0 dX11_undo_23 rfl rfl ?_
    refine ck_getR clX11 8 rfl rfl (by decide) fl_X11_47 dX11_undo_24 ?_
    refine ck_getIN clX2 3 rfl rfl (by decide) fl_X11_342 dX11_undo_27 ?_
    exact ck_iret rfl rfl rfl rfl dX11_undo_30 ⟨_, rfl, rfl, hq⟩
  · have hq := hq.2 c1
    refine ck_iconst (v := -1) dX11_undo_10 (by decide) ?_
    exact ck_iret rfl rfl rfl rfl dX11_undo_11 ⟨_, rfl, rfl, hq⟩
def wp_X11_keep (h : ck_H) (Q : Int32 → ck_H → Prop) : Prop := (wp_X1_becomeLike 12 7 h (fun h1 => (∀ h2, h2 = ck_sI h1 0 14 (1 : Int32) → Q (h2.1 7 5) h2)))
set_option maxHeartbeats 4000000 in
set_option maxRecDepth 100000 in
theorem c_X11_keep {gr : Bool} {h : ck_H} {Q : Int32 → ck_H → Prop} (hq : wp_X11_keep h Q) : ck_M yX11_keep cX11_keep 1 (some .int) 3 0 0 gr ck_shX h [.ref 0] (ck_Qi ck_shX Q) := by
  refine ck_entry (lv := [(0, .ref 0)]) false (own := RX11) rfl (fun q => by cases q) (by decide) (Nat.le_of_ble_eq_true rfl) rfl ?_
  refine ck_aload_n 0 dX11_keep_0 rfl rfl ?_
  refine ck_getR clX11 3 rfl rfl (by decide) fl_X11_31 dX11_keep_1 ?_
  refine ck_aload_n 0 dX11_keep_4 rfl rfl ?_
  refine ck_getR clX11 2 rfl rfl (by decide) fl_X11_27 dX11_keep_5 ?_
  refine ck_callV (c_X1_becomeLike (by simp) hq) rfl cal_X1_becomeLike rfl ml_X11_326 vir_X1_becomeLike rfl rfl (by decide) (Nat.le_of_ble_eq_true rfl) (Nat.le_of_ble_eq_true rfl) (by decide) (by decide) dX11_keep_8 ?_
  rintro _ _ h1 ⟨rfl, rfl, hq⟩
  refine ck_aload_n 0 dX11_keep_11 rfl rfl ?_
  refine ck_iconst (v := 1) dX11_keep_12 (by decide) ?_
  refine ck_putI clX11 14 rfl rfl (by decide) fl_X11_109 rfl (by decide) (by decide) dX11_keep_13 ?_
  refine ck_nmH (fun h2 eh2 => ?_)
  have hq := hq h2 eh2
  refine ck_aload_n 0 dX11_keep_16 rfl rfl ?_
  refine ck_getR clX11 2 rfl rfl (by decide) fl_X11_27 dX11_keep_17 ?_
  refine ck_getIN clX1 5 rfl rfl (by decide) fl_X11_231 dX11_keep_20 ?_
  exact ck_iret rfl rfl rfl rfl dX11_keep_23 ⟨_, rfl, rfl, hq⟩
def wp_X11_back (h : ck_H) (Q : Int32 → ck_H → Prop) : Prop := ((¬ (h.1 0 14) = 0 → (wp_X1_becomeLike 7 12 h (fun h2 => (wp_X2_clear h2 (fun h3 => Q (h3.1 7 5) h3))))) ∧ ((h.1 0 14) = 0 → Q (-1 : Int32) h))
set_option maxHeartbeats 4000000 in
set_option maxRecDepth 100000 in
theorem c_X11_back {gr : Bool} {h : ck_H} {Q : Int32 → ck_H → Prop} (hq : wp_X11_back h Q) : ck_M yX11_back cX11_back 1 (some .int) 3 0 0 gr ck_shX h [.ref 0] (ck_Qi ck_shX Q) := by
  refine ck_entry (lv := [(0, .ref 0)]) false (own := RX11) rfl (fun q => by cases q) (by decide) (Nat.le_of_ble_eq_true rfl) rfl ?_
  refine ck_aload_n 0 dX11_back_0 rfl rfl ?_
  refine ck_getI clX11 14 rfl rfl (by decide) fl_X11_109 dX11_back_1 ?_
  refine ck_if_ne (tgt := 9) dX11_back_4 (by decide) (fun c1 => ?_) (fun c1 => ?_)
  · have hq := hq.1 c1
    refine ck_aload_n 0 dX11_back_9 rfl rfl ?_
    refine ck_getR clX11 2 rfl rfl (by decide) fl_X11_27 dX11_back_10 ?_
    refine ck_aload_n 0 dX11_back_13 rfl rfl ?_
    refine ck_getR clX11 3 rfl rfl (by decide) fl_X11_31 dX11_back_14 ?_
    refine ck_callV (c_X1_becomeLike (by simp) hq) rfl cal_X1_becomeLike rfl ml_X11_326 vir_X1_becomeLike rfl rfl (by decide) (Nat.le_of_ble_eq_true rfl) (Nat.le_of_ble_eq_true rfl) (by decide) (by decide) dX11_back_17 ?_
    rintro _ _ h2 ⟨rfl, rfl, hq⟩
    refine ck_aload_n 0 dX11_back_20 rfl rfl ?_
    refine ck_getR clX11 8 rfl rfl (by decide) fl_X11_47 dX11_back_21 ?_
    refine ck_callV (c_X2_clear (by simp) hq) rfl cal_X2_clear rfl ml_X11_108 vir_X2_clear rfl rfl (by decide) (Nat.le_of_ble_eq_true rfl) (Nat.le_of_ble_eq_true rfl) (by decide) (by decide) dX11_back_24 ?_
    rintro _ _ h3 ⟨rfl, rfl, hq⟩
    refine ck_aload_n 0 dX11_back_27 rfl rfl ?_
    refine ck_getR clX11 2 rfl rfl (by decide) fl_X11_27 dX11_back_28 ?_
    refine ck_getIN clX1 5 rfl rfl (by decide) fl_X11_231 dX11_back_31 ?_
    exact ck_iret rfl rfl rfl rfl dX11_back_34 ⟨_, rfl, rfl, hq⟩
  · have hq := hq.2 c1
    refine ck_iconst (v := -1) dX11_back_7 (by decide) ?_
    exact ck_iret rfl rfl rfl rfl dX11_back_8 ⟨_, rfl, rfl, hq⟩
def wp_X11_worthOfCrumbs_51 (Q : Int32 → ck_H → Prop) (Kc : Int32 → Int32 → ck_H → Prop) (x1 : Int32) (x2 : Int32) (h : ck_H) : Prop := (∀ v4, v4 = x2 + 1 → Kc x1 v4 h)
def wp_X11_worthOfCrumbs_4 (Q : Int32 → ck_H → Prop) : Nat → Int32 → Int32 → ck_H → Prop
  | 0 => fun _ _ _ => False
  | n + 1 => fun x1 x2 h => (((h.1 42 1) ≤ x2 → Q x1 h) ∧ (¬ (h.1 42 1) ≤ x2 → (vp_in x2 10 ∧ ((¬ (h.1 11 x2.toNatClampNeg) = (3 : Int32) → wp_X11_worthOfCrumbs_51 Q (wp_X11_worthOfCrumbs_4 Q n) x1 x2 h) ∧ ((h.1 11 x2.toNatClampNeg) = (3 : Int32) → (vp_in x2 10 ∧ (vp_in (h.1 45 x2.toNatClampNeg) 6 ∧ (∀ v7, v7 = (x1 + (h.1 40 (h.1 45 x2.toNatClampNeg).toNatClampNeg)) → wp_X11_worthOfCrumbs_51 Q (wp_X11_worthOfCrumbs_4 Q n) v7 x2 h))))))))
def wp_X11_worthOfCrumbs (h : ck_H) (Q : Int32 → ck_H → Prop) : Prop := wp_X11_worthOfCrumbs_4 Q lpN (0 : Int32) (0 : Int32) h
set_option maxHeartbeats 4000000 in
set_option maxRecDepth 100000 in
theorem cp_X11_worthOfCrumbs_51 {gr : Bool} {Q : Int32 → ck_H → Prop} {Kc : Int32 → Int32 → ck_H → Prop} (hKc : ∀ (x1 : Int32) (x2 : Int32) (h : ck_H), Kc x1 x2 h → ck_W cX11_worthOfCrumbs 3 RX11 (some .int) 2 0 0 false gr (ck_Qi ck_shX Q) ck_shX h 0 0 4 [(0, .ref 0), (1, .int x1), (2, .int x2)] []) : ∀ (x1 : Int32) (x2 : Int32) (h : ck_H), wp_X11_worthOfCrumbs_51 Q Kc x1 x2 h → ck_W cX11_worthOfCrumbs 3 RX11 (some .int) 2 0 0 false gr (ck_Qi ck_shX Q) ck_shX h 0 0 51 [(0, .ref 0), (1, .int x1), (2, .int x2)] [] := by
  intro x1 x2 h hq
  obtain ⟨v4, ev4⟩ : ∃ z : Int32, z = x2 + 1 := ⟨_, rfl⟩
  have hq := hq v4 ev4
  refine ck_iinc (v := v4) (lv' := [(2, .int v4), (0, .ref 0), (1, .int x1)]) 2 dX11_worthOfCrumbs_51 rfl (by rw [ev4]; rfl) (by decide) rfl ?_
  refine ck_goto (tgt := 4) dX11_worthOfCrumbs_54 (by decide) ?_
  refine ck_loc [1, 2, 0] rfl ?_
  exact hKc _ _ _ hq
set_option maxHeartbeats 4000000 in
set_option maxRecDepth 100000 in
theorem cp_X11_worthOfCrumbs_4 {gr : Bool} {Q : Int32 → ck_H → Prop} : ∀ (n : Nat) (x1 : Int32) (x2 : Int32) (h : ck_H), wp_X11_worthOfCrumbs_4 Q n x1 x2 h → ck_W cX11_worthOfCrumbs 3 RX11 (some .int) 2 0 0 false gr (ck_Qi ck_shX Q) ck_shX h 0 0 4 [(0, .ref 0), (1, .int x1), (2, .int x2)] [] := by
  intro n
  induction n with
  | zero => intro x1 x2 h hq; exact hq.elim
  | succ n hKc =>
    intro x1 x2 h hq
    refine ck_iload_n 2 dX11_worthOfCrumbs_4 rfl rfl ?_
    refine ck_aload_n 0 dX11_worthOfCrumbs_5 rfl rfl ?_
    refine ck_getR clX11 9 rfl rfl (by decide) fl_X11_54 dX11_worthOfCrumbs_6 ?_
    refine ck_getRN clX7 7 rfl rfl (by decide) fl_X11_129 dX11_worthOfCrumbs_9 ?_
    refine ck_getIN clX5 1 rfl rfl (by decide) fl_X11_257 dX11_worthOfCrumbs_12 ?_
    refine ck_icmp_ge (tgt := 57) dX11_worthOfCrumbs_15 (by decide) (fun c1 => ?_) (fun c1 => ?_)
    · have hq := hq.1 c1
      refine ck_iload_n 1 dX11_worthOfCrumbs_57 rfl rfl ?_
      exact ck_iret rfl rfl rfl rfl dX11_worthOfCrumbs_58 ⟨_, rfl, rfl, hq⟩
    · have hq := hq.2 c1
      refine ck_aload_n 0 dX11_worthOfCrumbs_18 rfl rfl ?_
      refine ck_getR clX11 2 rfl rfl (by decide) fl_X11_27 dX11_worthOfCrumbs_19 ?_
      refine ck_getRN clX1 3 rfl rfl (by decide) fl_X11_156 dX11_worthOfCrumbs_22 ?_
      refine ck_iload_n 2 dX11_worthOfCrumbs_25 rfl rfl ?_
      obtain ⟨b2, hq⟩ := hq
      refine ck_iald rfl rfl b2 dX11_worthOfCrumbs_26 ?_
      refine ck_iconst (v := 3) dX11_worthOfCrumbs_27 (by decide) ?_
      refine ck_icmp_ne (tgt := 51) dX11_worthOfCrumbs_28 (by decide) (fun c3 => ?_) (fun c3 => ?_)
      · have hq := hq.1 c3
        exact cp_X11_worthOfCrumbs_51 hKc _ _ _ hq
      · have hq := hq.2 c3
        refine ck_iload_n 1 dX11_worthOfCrumbs_31 rfl rfl ?_
        refine ck_aload_n 0 dX11_worthOfCrumbs_32 rfl rfl ?_
        refine ck_getR clX11 9 rfl rfl (by decide) fl_X11_54 dX11_worthOfCrumbs_33 ?_
        refine ck_getRN clX7 5 rfl rfl (by decide) fl_X11_189 dX11_worthOfCrumbs_36 ?_
        refine ck_aload_n 0 dX11_worthOfCrumbs_39 rfl rfl ?_
        refine ck_getR clX11 9 rfl rfl (by decide) fl_X11_54 dX11_worthOfCrumbs_40 ?_
        refine ck_getRN clX7 9 rfl rfl (by decide) fl_X11_147 dX11_worthOfCrumbs_43 ?_
        refine ck_iload_n 2 dX11_worthOfCrumbs_46 rfl rfl ?_
        obtain ⟨b5, hq⟩ := hq
        refine ck_iald rfl rfl b5 dX11_worthOfCrumbs_47 ?_
        obtain ⟨b6, hq⟩ := hq
        refine ck_iald rfl rfl b6 dX11_worthOfCrumbs_48 ?_
        refine ck_iadd dX11_worthOfCrumbs_49 ?_
        refine ck_nmI (fun v7 ev7 => ?_)
        have hq := hq v7 ev7
        refine ck_istore_n (lv' := [(1, .int v7), (0, .ref 0), (2, .int x2)]) dX11_worthOfCrumbs_50 rfl (by decide) rfl ?_
        refine ck_loc [1, 0, 2] rfl ?_
        exact cp_X11_worthOfCrumbs_51 hKc _ _ _ hq
set_option maxHeartbeats 4000000 in
set_option maxRecDepth 100000 in
theorem c_X11_worthOfCrumbs {gr : Bool} {h : ck_H} {Q : Int32 → ck_H → Prop} (hq : wp_X11_worthOfCrumbs h Q) : ck_M yX11_worthOfCrumbs cX11_worthOfCrumbs 3 (some .int) 2 0 0 gr ck_shX h [.ref 0] (ck_Qi ck_shX Q) := by
  refine ck_entry (lv := [(0, .ref 0)]) false (own := RX11) rfl (fun q => by cases q) (by decide) (Nat.le_of_ble_eq_true rfl) rfl ?_
  refine ck_iconst (v := 0) dX11_worthOfCrumbs_0 (by decide) ?_
  refine ck_istore_n (lv' := [(1, .int (0 : Int32)), (0, .ref 0)]) dX11_worthOfCrumbs_1 rfl (by decide) rfl ?_
  refine ck_iconst (v := 0) dX11_worthOfCrumbs_2 (by decide) ?_
  refine ck_istore_n (lv' := [(2, .int (0 : Int32)), (1, .int (0 : Int32)), (0, .ref 0)]) dX11_worthOfCrumbs_3 rfl (by decide) rfl ?_
  refine ck_loc [2, 1, 0] rfl ?_
  refine cp_X11_worthOfCrumbs_4 lpN _ _ _ hq
def wp_X11_count (x1 : Int32) (h : ck_H) (Q : Int32 → ck_H → Prop) : Prop := ((x1 = 0 → Q (h.1 33 1) h) ∧ (¬ x1 = 0 → ((x1 = 1 → Q (h.1 37 1) h) ∧ (¬ x1 = 1 → ((x1 = 2 → Q (h.1 42 1) h) ∧ (¬ x1 = 2 → ((x1 = 3 → Q (h.1 47 5) h) ∧ (¬ x1 = 3 → ((x1 = 4 → Q (h.1 7 5) h) ∧ (¬ x1 = 4 → ((x1 = 5 → Q (h.1 7 6) h) ∧ (¬ x1 = 5 → ((x1 = 6 → (wp_X11_verdictsOf 7 (0 : Int32) h (fun r9 h8 => Q r9 h8))) ∧ (¬ x1 = 6 → ((x1 = 7 → (wp_X11_verdictsOf 7 (1 : Int32) h (fun r12 h11 => Q r12 h11))) ∧ (¬ x1 = 7 → ((x1 = 8 → (wp_X11_verdictsOf 7 (2 : Int32) h (fun r15 h14 => Q r15 h14))) ∧ (¬ x1 = 8 → ((x1 = 9 → (wp_X11_verdictsOf 7 (3 : Int32) h (fun r18 h17 => Q r18 h17))) ∧ (¬ x1 = 9 → ((x1 = 10 → (wp_X10_gained 7 h (fun r21 h20 => Q r21 h20))) ∧ (¬ x1 = 10 → ((x1 = 11 → (wp_X11_worthOfCrumbs h (fun r24 h23 => Q r24 h23))) ∧ (¬ x1 = 11 → ((x1 = 12 → Q (h.1 7 7) h) ∧ (¬ x1 = 12 → ((x1 = 13 → Q (h.1 22 5) h) ∧ (¬ x1 = 13 → ((x1 = 14 → (wp_X6_countConsidered h (fun r29 h28 => Q r29 h28))) ∧ (¬ x1 = 14 → ((x1 = 15 → Q (h.1 28 3) h) ∧ (¬ x1 = 15 → Q (-1 : Int32) h))))))))))))))))))))))))))))))))
set_option maxHeartbeats 4000000 in
set_option maxRecDepth 100000 in
theorem c_X11_count {gr : Bool} {x1 : Int32} {h : ck_H} {Q : Int32 → ck_H → Prop} (hq : wp_X11_count x1 h Q) : ck_M yX11_count cX11_count 2 (some .int) 4 0 0 gr ck_shX h [.ref 0, .int x1] (ck_Qi ck_shX Q) := by
  refine ck_entry (lv := [(0, .ref 0), (1, .int x1)]) false (own := RX11) rfl (fun q => by cases q) (by decide) (Nat.le_of_ble_eq_true rfl) rfl ?_
  refine ck_iload_n 1 dX11_count_0 rfl rfl ?_
  by_cases c1 : x1 = 0
  · have hq := hq.1 c1
    refine ck_tabIn (tgt := 80) dX11_count_1 (by rw [c1]; decide) (by rw [c1]; decide) (by rw [c1]; rfl) (by decide) ?_
    refine ck_aload_n 0 dX11_count_80 rfl rfl ?_
    refine ck_getR clX11 9 rfl rfl (by decide) fl_X11_54 dX11_count_81 ?_
    refine ck_getRN clX7 0 rfl rfl (by decide) fl_X11_116 dX11_count_84 ?_
    refine ck_getIN clX5 1 rfl rfl (by decide) fl_X11_257 dX11_count_87 ?_
    exact ck_iret rfl rfl rfl rfl dX11_count_90 ⟨_, rfl, rfl, hq⟩
  have hq := hq.2 c1
  by_cases c2 : x1 = 1
  · have hq := hq.1 c2
    refine ck_tabIn (tgt := 91) dX11_count_1 (by rw [c2]; decide) (by rw [c2]; decide) (by rw [c2]; rfl) (by decide) ?_
    refine ck_aload_n 0 dX11_count_91 rfl rfl ?_
    refine ck_getR clX11 9 rfl rfl (by decide) fl_X11_54 dX11_count_92 ?_
    refine ck_getRN clX7 3 rfl rfl (by decide) fl_X11_126 dX11_count_95 ?_
    refine ck_getIN clX5 1 rfl rfl (by decide) fl_X11_257 dX11_count_98 ?_
    exact ck_iret rfl rfl rfl rfl dX11_count_101 ⟨_, rfl, rfl, hq⟩
  have hq := hq.2 c2
  by_cases c3 : x1 = 2
  · have hq := hq.1 c3
    refine ck_tabIn (tgt := 102) dX11_count_1 (by rw [c3]; decide) (by rw [c3]; decide) (by rw [c3]; rfl) (by decide) ?_
    refine ck_aload_n 0 dX11_count_102 rfl rfl ?_
    refine ck_getR clX11 9 rfl rfl (by decide) fl_X11_54 dX11_count_103 ?_
    refine ck_getRN clX7 7 rfl rfl (by decide) fl_X11_129 dX11_count_106 ?_
    refine ck_getIN clX5 1 rfl rfl (by decide) fl_X11_257 dX11_count_109 ?_
    exact ck_iret rfl rfl rfl rfl dX11_count_112 ⟨_, rfl, rfl, hq⟩
  have hq := hq.2 c3
  by_cases c4 : x1 = 3
  · have hq := hq.1 c4
    refine ck_tabIn (tgt := 113) dX11_count_1 (by rw [c4]; decide) (by rw [c4]; decide) (by rw [c4]; rfl) (by decide) ?_
    refine ck_aload_n 0 dX11_count_113 rfl rfl ?_
    refine ck_getR clX11 9 rfl rfl (by decide) fl_X11_54 dX11_count_114 ?_
    refine ck_getRN clX7 11 rfl rfl (by decide) fl_X11_207 dX11_count_117 ?_
    refine ck_getIN clX4 5 rfl rfl (by decide) fl_X11_346 dX11_count_120 ?_
    exact ck_iret rfl rfl rfl rfl dX11_count_123 ⟨_, rfl, rfl, hq⟩
  have hq := hq.2 c4
  by_cases c5 : x1 = 4
  · have hq := hq.1 c5
    refine ck_tabIn (tgt := 124) dX11_count_1 (by rw [c5]; decide) (by rw [c5]; decide) (by rw [c5]; rfl) (by decide) ?_
    refine ck_aload_n 0 dX11_count_124 rfl rfl ?_
    refine ck_getR clX11 2 rfl rfl (by decide) fl_X11_27 dX11_count_125 ?_
    refine ck_getIN clX1 5 rfl rfl (by decide) fl_X11_231 dX11_count_128 ?_
    exact ck_iret rfl rfl rfl rfl dX11_count_131 ⟨_, rfl, rfl, hq⟩
  have hq := hq.2 c5
  by_cases c6 : x1 = 5
  · have hq := hq.1 c6
    refine ck_tabIn (tgt := 132) dX11_count_1 (by rw [c6]; decide) (by rw [c6]; decide) (by rw [c6]; rfl) (by decide) ?_
    refine ck_aload_n 0 dX11_count_132 rfl rfl ?_
    refine ck_getR clX11 2 rfl rfl (by decide) fl_X11_27 dX11_count_133 ?_
    refine ck_getIN clX1 6 rfl rfl (by decide) fl_X11_234 dX11_count_136 ?_
    exact ck_iret rfl rfl rfl rfl dX11_count_139 ⟨_, rfl, rfl, hq⟩
  have hq := hq.2 c6
  by_cases c7 : x1 = 6
  · have hq := hq.1 c7
    refine ck_tabIn (tgt := 140) dX11_count_1 (by rw [c7]; decide) (by rw [c7]; decide) (by rw [c7]; rfl) (by decide) ?_
    refine ck_aload_n 0 dX11_count_140 rfl rfl ?_
    refine ck_aload_n 0 dX11_count_141 rfl rfl ?_
    refine ck_getR clX11 2 rfl rfl (by decide) fl_X11_27 dX11_count_142 ?_
    refine ck_iconst (v := 0) dX11_count_145 (by decide) ?_
    refine ck_callV (c_X11_verdictsOf (by simp) hq) rfl cal_X11_verdictsOf rfl ml_X11_247 vir_X11_verdictsOf rfl rfl (by decide) (Nat.le_of_ble_eq_true rfl) (Nat.le_of_ble_eq_true rfl) (by decide) (by decide) dX11_count_146 ?_
    rintro _ _ h8 ⟨r9, rfl, rfl, hq⟩
    exact ck_iret rfl rfl rfl rfl dX11_count_149 ⟨_, rfl, rfl, hq⟩
  have hq := hq.2 c7
  by_cases c10 : x1 = 7
  · have hq := hq.1 c10
    refine ck_tabIn (tgt := 150) dX11_count_1 (by rw [c10]; decide) (by rw [c10]; decide) (by rw [c10]; rfl) (by decide) ?_
    refine ck_aload_n 0 dX11_count_150 rfl rfl ?_
    refine ck_aload_n 0 dX11_count_151 rfl rfl ?_
    refine ck_getR clX11 2 rfl rfl (by decide) fl_X11_27 dX11_count_152 ?_
    refine ck_iconst (v := 1) dX11_count_155 (by decide) ?_
    refine ck_callV (c_X11_verdictsOf (by simp) hq) rfl cal_X11_verdictsOf rfl ml_X11_247 vir_X11_verdictsOf rfl rfl (by decide) (Nat.le_of_ble_eq_true rfl) (Nat.le_of_ble_eq_true rfl) (by decide) (by decide) dX11_count_156 ?_
    rintro _ _ h11 ⟨r12, rfl, rfl, hq⟩
    exact ck_iret rfl rfl rfl rfl dX11_count_159 ⟨_, rfl, rfl, hq⟩
  have hq := hq.2 c10
  by_cases c13 : x1 = 8
  · have hq := hq.1 c13
    refine ck_tabIn (tgt := 160) dX11_count_1 (by rw [c13]; decide) (by rw [c13]; decide) (by rw [c13]; rfl) (by decide) ?_
    refine ck_aload_n 0 dX11_count_160 rfl rfl ?_
    refine ck_aload_n 0 dX11_count_161 rfl rfl ?_
    refine ck_getR clX11 2 rfl rfl (by decide) fl_X11_27 dX11_count_162 ?_
    refine ck_iconst (v := 2) dX11_count_165 (by decide) ?_
    refine ck_callV (c_X11_verdictsOf (by simp) hq) rfl cal_X11_verdictsOf rfl ml_X11_247 vir_X11_verdictsOf rfl rfl (by decide) (Nat.le_of_ble_eq_true rfl) (Nat.le_of_ble_eq_true rfl) (by decide) (by decide) dX11_count_166 ?_
    rintro _ _ h14 ⟨r15, rfl, rfl, hq⟩
    exact ck_iret rfl rfl rfl rfl dX11_count_169 ⟨_, rfl, rfl, hq⟩
  have hq := hq.2 c13
  by_cases c16 : x1 = 9
  · have hq := hq.1 c16
    refine ck_tabIn (tgt := 170) dX11_count_1 (by rw [c16]; decide) (by rw [c16]; decide) (by rw [c16]; rfl) (by decide) ?_
    refine ck_aload_n 0 dX11_count_170 rfl rfl ?_
    refine ck_aload_n 0 dX11_count_171 rfl rfl ?_
    refine ck_getR clX11 2 rfl rfl (by decide) fl_X11_27 dX11_count_172 ?_
    refine ck_iconst (v := 3) dX11_count_175 (by decide) ?_
    refine ck_callV (c_X11_verdictsOf (by simp) hq) rfl cal_X11_verdictsOf rfl ml_X11_247 vir_X11_verdictsOf rfl rfl (by decide) (Nat.le_of_ble_eq_true rfl) (Nat.le_of_ble_eq_true rfl) (by decide) (by decide) dX11_count_176 ?_
    rintro _ _ h17 ⟨r18, rfl, rfl, hq⟩
    exact ck_iret rfl rfl rfl rfl dX11_count_179 ⟨_, rfl, rfl, hq⟩
  have hq := hq.2 c16
  by_cases c19 : x1 = 10
  · have hq := hq.1 c19
    refine ck_tabIn (tgt := 180) dX11_count_1 (by rw [c19]; decide) (by rw [c19]; decide) (by rw [c19]; rfl) (by decide) ?_
    refine ck_aload_n 0 dX11_count_180 rfl rfl ?_
    refine ck_getR clX11 5 rfl rfl (by decide) fl_X11_70 dX11_count_181 ?_
    refine ck_aload_n 0 dX11_count_184 rfl rfl ?_
    refine ck_getR clX11 2 rfl rfl (by decide) fl_X11_27 dX11_count_185 ?_
    refine ck_callV (c_X10_gained (by simp) hq) rfl cal_X10_gained rfl ml_X11_349 vir_X10_gained rfl rfl (by decide) (Nat.le_of_ble_eq_true rfl) (Nat.le_of_ble_eq_true rfl) (by decide) (by decide) dX11_count_188 ?_
    rintro _ _ h20 ⟨r21, rfl, rfl, hq⟩
    exact ck_iret rfl rfl rfl rfl dX11_count_191 ⟨_, rfl, rfl, hq⟩
  have hq := hq.2 c19
  by_cases c22 : x1 = 11
  · have hq := hq.1 c22
    refine ck_tabIn (tgt := 192) dX11_count_1 (by rw [c22]; decide) (by rw [c22]; decide) (by rw [c22]; rfl) (by decide) ?_
    refine ck_aload_n 0 dX11_count_192 rfl rfl ?_
    refine ck_callV (c_X11_worthOfCrumbs hq) rfl cal_X11_worthOfCrumbs rfl ml_X11_352 vir_X11_worthOfCrumbs rfl rfl (by decide) (Nat.le_of_ble_eq_true rfl) (Nat.le_of_ble_eq_true rfl) (by decide) (by decide) dX11_count_193 ?_
    rintro _ _ h23 ⟨r24, rfl, rfl, hq⟩
    exact ck_iret rfl rfl rfl rfl dX11_count_196 ⟨_, rfl, rfl, hq⟩
  have hq := hq.2 c22
  by_cases c25 : x1 = 12
  · have hq := hq.1 c25
    refine ck_tabIn (tgt := 197) dX11_count_1 (by rw [c25]; decide) (by rw [c25]; decide) (by rw [c25]; rfl) (by decide) ?_
    refine ck_aload_n 0 dX11_count_197 rfl rfl ?_
    refine ck_getR clX11 2 rfl rfl (by decide) fl_X11_27 dX11_count_198 ?_
    refine ck_getIN clX1 7 rfl rfl (by decide) fl_X11_299 dX11_count_201 ?_
    exact ck_iret rfl rfl rfl rfl dX11_count_204 ⟨_, rfl, rfl, hq⟩
  have hq := hq.2 c25
  by_cases c26 : x1 = 13
  · have hq := hq.1 c26
    refine ck_tabIn (tgt := 205) dX11_count_1 (by rw [c26]; decide) (by rw [c26]; decide) (by rw [c26]; rfl) (by decide) ?_
    refine ck_aload_n 0 dX11_count_205 rfl rfl ?_
    refine ck_getR clX11 7 rfl rfl (by decide) fl_X11_40 dX11_count_206 ?_
    refine ck_getIN clX6 5 rfl rfl (by decide) fl_X11_305 dX11_count_209 ?_
    exact ck_iret rfl rfl rfl rfl dX11_count_212 ⟨_, rfl, rfl, hq⟩
  have hq := hq.2 c26
  by_cases c27 : x1 = 14
  · have hq := hq.1 c27
    refine ck_tabIn (tgt := 213) dX11_count_1 (by rw [c27]; decide) (by rw [c27]; decide) (by rw [c27]; rfl) (by decide) ?_
    refine ck_aload_n 0 dX11_count_213 rfl rfl ?_
    refine ck_getR clX11 7 rfl rfl (by decide) fl_X11_40 dX11_count_214 ?_
    refine ck_callV (c_X6_countConsidered hq) rfl cal_X6_countConsidered rfl ml_X11_355 vir_X6_countConsidered rfl rfl (by decide) (Nat.le_of_ble_eq_true rfl) (Nat.le_of_ble_eq_true rfl) (by decide) (by decide) dX11_count_217 ?_
    rintro _ _ h28 ⟨r29, rfl, rfl, hq⟩
    exact ck_iret rfl rfl rfl rfl dX11_count_220 ⟨_, rfl, rfl, hq⟩
  have hq := hq.2 c27
  by_cases c30 : x1 = 15
  · have hq := hq.1 c30
    refine ck_tabIn (tgt := 221) dX11_count_1 (by rw [c30]; decide) (by rw [c30]; decide) (by rw [c30]; rfl) (by decide) ?_
    refine ck_aload_n 0 dX11_count_221 rfl rfl ?_
    refine ck_getR clX11 8 rfl rfl (by decide) fl_X11_47 dX11_count_222 ?_
    refine ck_getIN clX2 3 rfl rfl (by decide) fl_X11_342 dX11_count_225 ?_
    exact ck_iret rfl rfl rfl rfl dX11_count_228 ⟨_, rfl, rfl, hq⟩
  have hq := hq.2 c30
  refine ck_tabOut (tgt := 229) dX11_count_1 (by have z0 := lv_neT c1 (a := 0) (by decide); have z1 := lv_neT c2 (a := 1) (by decide); have z2 := lv_neT c3 (a := 2) (by decide); have z3 := lv_neT c4 (a := 3) (by decide); have z4 := lv_neT c5 (a := 4) (by decide); have z5 := lv_neT c6 (a := 5) (by decide); have z6 := lv_neT c7 (a := 6) (by decide); have z7 := lv_neT c10 (a := 7) (by decide); have z8 := lv_neT c13 (a := 8) (by decide); have z9 := lv_neT c16 (a := 9) (by decide); have z10 := lv_neT c19 (a := 10) (by decide); have z11 := lv_neT c22 (a := 11) (by decide); have z12 := lv_neT c25 (a := 12) (by decide); have z13 := lv_neT c26 (a := 13) (by decide); have z14 := lv_neT c27 (a := 14) (by decide); have z15 := lv_neT c30 (a := 15) (by decide); omega) (by decide) ?_
  refine ck_iconst (v := -1) dX11_count_229 (by decide) ?_
  exact ck_iret rfl rfl rfl rfl dX11_count_230 ⟨_, rfl, rfl, hq⟩
