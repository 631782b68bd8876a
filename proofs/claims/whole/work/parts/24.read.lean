theorem dX9_init_0 : decode cX9_init 0 = .ok (.aload_n 0, 1) := by decide +kernel
theorem dX9_init_1 : decode cX9_init 1 = .ok (.invokespecial 3, 3) := by decide +kernel
theorem dX9_init_4 : decode cX9_init 4 = .ok (.aload_n 0, 1) := by decide +kernel
theorem dX9_init_5 : decode cX9_init 5 = .ok (.new 9, 3) := by decide +kernel
theorem dX9_init_8 : decode cX9_init 8 = .ok (.dup, 1) := by decide +kernel
theorem dX9_init_9 : decode cX9_init 9 = .ok (.aload_n 1, 1) := by decide +kernel
theorem dX9_init_10 : decode cX9_init 10 = .ok (.invokespecial 11, 3) := by decide +kernel
theorem dX9_init_13 : decode cX9_init 13 = .ok (.putfield 14, 3) := by decide +kernel
theorem dX9_init_16 : decode cX9_init 16 = .ok (.aload_n 0, 1) := by decide +kernel
theorem dX9_init_17 : decode cX9_init 17 = .ok (.new 20, 3) := by decide +kernel
theorem dX9_init_20 : decode cX9_init 20 = .ok (.dup, 1) := by decide +kernel
theorem dX9_init_21 : decode cX9_init 21 = .ok (.aload_n 0, 1) := by decide +kernel
theorem dX9_init_22 : decode cX9_init 22 = .ok (.getfield 14, 3) := by decide +kernel
theorem dX9_init_25 : decode cX9_init 25 = .ok (.invokespecial 22, 3) := by decide +kernel
theorem dX9_init_28 : decode cX9_init 28 = .ok (.putfield 25, 3) := by decide +kernel
theorem dX9_init_31 : decode cX9_init 31 = .ok (.return_, 1) := by decide +kernel
theorem dX9_place_0 : decode cX9_place 0 = .ok (.aload_n 0, 1) := by decide +kernel
theorem dX9_place_1 : decode cX9_place 1 = .ok (.getfield 14, 3) := by decide +kernel
theorem dX9_place_4 : decode cX9_place 4 = .ok (.getfield 29, 3) := by decide +kernel
theorem dX9_place_7 : decode cX9_place 7 = .ok (.ireturn, 1) := by decide +kernel
theorem dX9_readText_0 : decode cX9_readText 0 = .ok (.aload_n 1, 1) := by decide +kernel
theorem dX9_readText_1 : decode cX9_readText 1 = .ok (.invokevirtual 33, 3) := by decide +kernel
theorem dX9_readText_4 : decode cX9_readText 4 = .ok (.aload_n 0, 1) := by decide +kernel
theorem dX9_readText_5 : decode cX9_readText 5 = .ok (.iconst 0, 1) := by decide +kernel
theorem dX9_readText_6 : decode cX9_readText 6 = .ok (.putfield 38, 3) := by decide +kernel
theorem dX9_readText_9 : decode cX9_readText 9 = .ok (.aload_n 0, 1) := by decide +kernel
theorem dX9_readText_10 : decode cX9_readText 10 = .ok (.getfield 14, 3) := by decide +kernel
theorem dX9_readText_13 : decode cX9_readText 13 = .ok (.iload_n 2, 1) := by decide +kernel
theorem dX9_readText_14 : decode cX9_readText 14 = .ok (.invokevirtual 41, 3) := by decide +kernel
theorem dX9_readText_17 : decode cX9_readText 17 = .ok (.iconst 0, 1) := by decide +kernel
theorem dX9_readText_18 : decode cX9_readText 18 = .ok (.istore_n 3, 1) := by decide +kernel
theorem dX9_readText_19 : decode cX9_readText 19 = .ok (.iload_n 3, 1) := by decide +kernel
theorem dX9_readText_20 : decode cX9_readText 20 = .ok (.sipush 700, 3) := by decide +kernel
theorem dX9_readText_23 : decode cX9_readText 23 = .ok (.if_icmp .ge 78, 3) := by decide +kernel
theorem dX9_readText_26 : decode cX9_readText 26 = .ok (.aload_n 0, 1) := by decide +kernel
theorem dX9_readText_27 : decode cX9_readText 27 = .ok (.getfield 38, 3) := by decide +kernel
theorem dX9_readText_30 : decode cX9_readText 30 = .ok (.ifCond .ne 71, 3) := by decide +kernel
theorem dX9_readText_33 : decode cX9_readText 33 = .ok (.aload_n 0, 1) := by decide +kernel
theorem dX9_readText_34 : decode cX9_readText 34 = .ok (.getfield 14, 3) := by decide +kernel
theorem dX9_readText_37 : decode cX9_readText 37 = .ok (.getfield 45, 3) := by decide +kernel
theorem dX9_readText_40 : decode cX9_readText 40 = .ok (.ifCond .eq 61, 3) := by decide +kernel
theorem dX9_readText_43 : decode cX9_readText 43 = .ok (.aload_n 0, 1) := by decide +kernel
theorem dX9_readText_44 : decode cX9_readText 44 = .ok (.aload_n 1, 1) := by decide +kernel
theorem dX9_readText_45 : decode cX9_readText 45 = .ok (.invokevirtual 48, 3) := by decide +kernel
theorem dX9_readText_48 : decode cX9_readText 48 = .ok (.aload_n 0, 1) := by decide +kernel
theorem dX9_readText_49 : decode cX9_readText 49 = .ok (.getfield 38, 3) := by decide +kernel
theorem dX9_readText_52 : decode cX9_readText 52 = .ok (.ifCond .ne 19, 3) := by decide +kernel
theorem dX9_readText_55 : decode cX9_readText 55 = .ok (.aload_n 0, 1) := by decide +kernel
theorem dX9_readText_56 : decode cX9_readText 56 = .ok (.getfield 14, 3) := by decide +kernel
theorem dX9_readText_59 : decode cX9_readText 59 = .ok (.getfield 45, 3) := by decide +kernel
theorem dX9_readText_62 : decode cX9_readText 62 = .ok (.iconst 4, 1) := by decide +kernel
theorem dX9_readText_63 : decode cX9_readText 63 = .ok (.if_icmp .eq 8, 3) := by decide +kernel
theorem dX9_readText_66 : decode cX9_readText 66 = .ok (.aload_n 0, 1) := by decide +kernel
theorem dX9_readText_67 : decode cX9_readText 67 = .ok (.iconst 1, 1) := by decide +kernel
theorem dX9_readText_68 : decode cX9_readText 68 = .ok (.putfield 38, 3) := by decide +kernel
theorem dX9_readText_71 : decode cX9_readText 71 = .ok (.aload_n 0, 1) := by decide +kernel
theorem dX9_readText_72 : decode cX9_readText 72 = .ok (.getfield 38, 3) := by decide +kernel
theorem dX9_readText_75 : decode cX9_readText 75 = .ok (.ifCond .ne 20, 3) := by decide +kernel
theorem dX9_readText_78 : decode cX9_readText 78 = .ok (.aload_n 1, 1) := by decide +kernel
theorem dX9_readText_79 : decode cX9_readText 79 = .ok (.dup, 1) := by decide +kernel
theorem dX9_readText_80 : decode cX9_readText 80 = .ok (.getfield 52, 3) := by decide +kernel
theorem dX9_readText_83 : decode cX9_readText 83 = .ok (.iconst 1, 1) := by decide +kernel
theorem dX9_readText_84 : decode cX9_readText 84 = .ok (.iadd, 1) := by decide +kernel
theorem dX9_readText_85 : decode cX9_readText 85 = .ok (.putfield 52, 3) := by decide +kernel
theorem dX9_readText_88 : decode cX9_readText 88 = .ok (.aload_n 0, 1) := by decide +kernel
theorem dX9_readText_89 : decode cX9_readText 89 = .ok (.getfield 14, 3) := by decide +kernel
theorem dX9_readText_92 : decode cX9_readText 92 = .ok (.invokevirtual 55, 3) := by decide +kernel
theorem dX9_readText_95 : decode cX9_readText 95 = .ok (.iinc 3 1, 3) := by decide +kernel
theorem dX9_readText_98 : decode cX9_readText 98 = .ok (.goto (-79), 3) := by decide +kernel
theorem dX9_readText_101 : decode cX9_readText 101 = .ok (.aload_n 0, 1) := by decide +kernel
theorem dX9_readText_102 : decode cX9_readText 102 = .ok (.getfield 38, 3) := by decide +kernel
theorem dX9_readText_105 : decode cX9_readText 105 = .ok (.ireturn, 1) := by decide +kernel
theorem dX9_readLine_0 : decode cX9_readLine 0 = .ok (.aload_n 0, 1) := by decide +kernel
theorem dX9_readLine_1 : decode cX9_readLine 1 = .ok (.getfield 14, 3) := by decide +kernel
theorem dX9_readLine_4 : decode cX9_readLine 4 = .ok (.getfield 45, 3) := by decide +kernel
theorem dX9_readLine_7 : decode cX9_readLine 7 = .ok (.tableswitch 137 20 36 #[81, 89, 97, 113, 121, 129, 137, 137, 137, 137, 137, 137, 137, 137, 137, 137, 105], 81) := by decide +kernel
theorem dX9_readLine_88 : decode cX9_readLine 88 = .ok (.aload_n 0, 1) := by decide +kernel
theorem dX9_readLine_89 : decode cX9_readLine 89 = .ok (.aload_n 1, 1) := by decide +kernel
theorem dX9_readLine_90 : decode cX9_readLine 90 = .ok (.invokevirtual 58, 3) := by decide +kernel
theorem dX9_readLine_93 : decode cX9_readLine 93 = .ok (.goto 56, 3) := by decide +kernel
theorem dX9_readLine_96 : decode cX9_readLine 96 = .ok (.aload_n 0, 1) := by decide +kernel
theorem dX9_readLine_97 : decode cX9_readLine 97 = .ok (.aload_n 1, 1) := by decide +kernel
theorem dX9_readLine_98 : decode cX9_readLine 98 = .ok (.invokevirtual 61, 3) := by decide +kernel
theorem dX9_readLine_101 : decode cX9_readLine 101 = .ok (.goto 48, 3) := by decide +kernel
theorem dX9_readLine_104 : decode cX9_readLine 104 = .ok (.aload_n 0, 1) := by decide +kernel
theorem dX9_readLine_105 : decode cX9_readLine 105 = .ok (.aload_n 1, 1) := by decide +kernel
theorem dX9_readLine_106 : decode cX9_readLine 106 = .ok (.invokevirtual 64, 3) := by decide +kernel
theorem dX9_readLine_109 : decode cX9_readLine 109 = .ok (.goto 40, 3) := by decide +kernel
theorem dX9_readLine_112 : decode cX9_readLine 112 = .ok (.aload_n 0, 1) := by decide +kernel
theorem dX9_readLine_113 : decode cX9_readLine 113 = .ok (.aload_n 1, 1) := by decide +kernel
theorem dX9_readLine_114 : decode cX9_readLine 114 = .ok (.invokevirtual 67, 3) := by decide +kernel
theorem dX9_readLine_117 : decode cX9_readLine 117 = .ok (.goto 32, 3) := by decide +kernel
theorem dX9_readLine_120 : decode cX9_readLine 120 = .ok (.aload_n 0, 1) := by decide +kernel
theorem dX9_readLine_121 : decode cX9_readLine 121 = .ok (.aload_n 1, 1) := by decide +kernel
theorem dX9_readLine_122 : decode cX9_readLine 122 = .ok (.invokevirtual 70, 3) := by decide +kernel
theorem dX9_readLine_125 : decode cX9_readLine 125 = .ok (.goto 24, 3) := by decide +kernel
theorem dX9_readLine_128 : decode cX9_readLine 128 = .ok (.aload_n 0, 1) := by decide +kernel
theorem dX9_readLine_129 : decode cX9_readLine 129 = .ok (.aload_n 1, 1) := by decide +kernel
theorem dX9_readLine_130 : decode cX9_readLine 130 = .ok (.invokevirtual 73, 3) := by decide +kernel
theorem dX9_readLine_133 : decode cX9_readLine 133 = .ok (.goto 16, 3) := by decide +kernel
theorem dX9_readLine_136 : decode cX9_readLine 136 = .ok (.aload_n 0, 1) := by decide +kernel
theorem dX9_readLine_137 : decode cX9_readLine 137 = .ok (.aload_n 1, 1) := by decide +kernel
theorem dX9_readLine_138 : decode cX9_readLine 138 = .ok (.invokevirtual 76, 3) := by decide +kernel
theorem dX9_readLine_141 : decode cX9_readLine 141 = .ok (.goto 8, 3) := by decide +kernel
theorem dX9_readLine_144 : decode cX9_readLine 144 = .ok (.aload_n 0, 1) := by decide +kernel
theorem dX9_readLine_145 : decode cX9_readLine 145 = .ok (.iconst 1, 1) := by decide +kernel
theorem dX9_readLine_146 : decode cX9_readLine 146 = .ok (.putfield 38, 3) := by decide +kernel
theorem dX9_readLine_149 : decode cX9_readLine 149 = .ok (.return_, 1) := by decide +kernel
theorem dX9_readJudge_0 : decode cX9_readJudge 0 = .ok (.aload_n 1, 1) := by decide +kernel
theorem dX9_readJudge_1 : decode cX9_readJudge 1 = .ok (.getfield 79, 3) := by decide +kernel
theorem dX9_readJudge_4 : decode cX9_readJudge 4 = .ok (.getfield 83, 3) := by decide +kernel
theorem dX9_readJudge_7 : decode cX9_readJudge 7 = .ok (.istore_n 2, 1) := by decide +kernel
theorem dX9_readJudge_8 : decode cX9_readJudge 8 = .ok (.aload_n 0, 1) := by decide +kernel
theorem dX9_readJudge_9 : decode cX9_readJudge 9 = .ok (.aload_n 1, 1) := by decide +kernel
theorem dX9_readJudge_10 : decode cX9_readJudge 10 = .ok (.getfield 79, 3) := by decide +kernel
theorem dX9_readJudge_13 : decode cX9_readJudge 13 = .ok (.invokevirtual 88, 3) := by decide +kernel
theorem dX9_readJudge_16 : decode cX9_readJudge 16 = .ok (.ifCond .eq 7, 3) := by decide +kernel
theorem dX9_readJudge_19 : decode cX9_readJudge 19 = .ok (.iconst 2, 1) := by decide +kernel
theorem dX9_readJudge_20 : decode cX9_readJudge 20 = .ok (.goto 4, 3) := by decide +kernel
theorem dX9_readJudge_23 : decode cX9_readJudge 23 = .ok (.iconst 0, 1) := by decide +kernel
theorem dX9_readJudge_24 : decode cX9_readJudge 24 = .ok (.invokevirtual 92, 3) := by decide +kernel
theorem dX9_readJudge_27 : decode cX9_readJudge 27 = .ok (.aload_n 0, 1) := by decide +kernel
theorem dX9_readJudge_28 : decode cX9_readJudge 28 = .ok (.aload_n 1, 1) := by decide +kernel
theorem dX9_readJudge_29 : decode cX9_readJudge 29 = .ok (.getfield 79, 3) := by decide +kernel
theorem dX9_readJudge_32 : decode cX9_readJudge 32 = .ok (.invokevirtual 95, 3) := by decide +kernel
theorem dX9_readJudge_35 : decode cX9_readJudge 35 = .ok (.istore_n 3, 1) := by decide +kernel
theorem dX9_readJudge_36 : decode cX9_readJudge 36 = .ok (.aload_n 0, 1) := by decide +kernel
theorem dX9_readJudge_37 : decode cX9_readJudge 37 = .ok (.iconst 1, 1) := by decide +kernel
theorem dX9_readJudge_38 : decode cX9_readJudge 38 = .ok (.bipush 99, 2) := by decide +kernel
theorem dX9_readJudge_40 : decode cX9_readJudge 40 = .ok (.invokevirtual 99, 3) := by decide +kernel
theorem dX9_readJudge_43 : decode cX9_readJudge 43 = .ok (.istore 4, 2) := by decide +kernel
theorem dX9_readJudge_45 : decode cX9_readJudge 45 = .ok (.aload_n 0, 1) := by decide +kernel
theorem dX9_readJudge_46 : decode cX9_readJudge 46 = .ok (.iconst 0, 1) := by decide +kernel
theorem dX9_readJudge_47 : decode cX9_readJudge 47 = .ok (.bipush 9, 2) := by decide +kernel
theorem dX9_readJudge_49 : decode cX9_readJudge 49 = .ok (.invokevirtual 99, 3) := by decide +kernel
theorem dX9_readJudge_52 : decode cX9_readJudge 52 = .ok (.istore 5, 2) := by decide +kernel
theorem dX9_readJudge_54 : decode cX9_readJudge 54 = .ok (.aload_n 0, 1) := by decide +kernel
theorem dX9_readJudge_55 : decode cX9_readJudge 55 = .ok (.getfield 38, 3) := by decide +kernel
theorem dX9_readJudge_58 : decode cX9_readJudge 58 = .ok (.ifCond .ne 27, 3) := by decide +kernel
theorem dX9_readJudge_61 : decode cX9_readJudge 61 = .ok (.aload_n 1, 1) := by decide +kernel
theorem dX9_readJudge_62 : decode cX9_readJudge 62 = .ok (.getfield 79, 3) := by decide +kernel
theorem dX9_readJudge_65 : decode cX9_readJudge 65 = .ok (.iload_n 3, 1) := by decide +kernel
theorem dX9_readJudge_66 : decode cX9_readJudge 66 = .ok (.invokevirtual 103, 3) := by decide +kernel
theorem dX9_readJudge_69 : decode cX9_readJudge 69 = .ok (.aload_n 1, 1) := by decide +kernel
theorem dX9_readJudge_70 : decode cX9_readJudge 70 = .ok (.getfield 106, 3) := by decide +kernel
theorem dX9_readJudge_73 : decode cX9_readJudge 73 = .ok (.iload_n 2, 1) := by decide +kernel
theorem dX9_readJudge_74 : decode cX9_readJudge 74 = .ok (.iload 4, 2) := by decide +kernel
theorem dX9_readJudge_76 : decode cX9_readJudge 76 = .ok (.iastore, 1) := by decide +kernel
theorem dX9_readJudge_77 : decode cX9_readJudge 77 = .ok (.aload_n 1, 1) := by decide +kernel
theorem dX9_readJudge_78 : decode cX9_readJudge 78 = .ok (.getfield 110, 3) := by decide +kernel
theorem dX9_readJudge_81 : decode cX9_readJudge 81 = .ok (.iload_n 2, 1) := by decide +kernel
theorem dX9_readJudge_82 : decode cX9_readJudge 82 = .ok (.iload 5, 2) := by decide +kernel
theorem dX9_readJudge_84 : decode cX9_readJudge 84 = .ok (.iastore, 1) := by decide +kernel
theorem dX9_readJudge_85 : decode cX9_readJudge 85 = .ok (.return_, 1) := by decide +kernel
theorem dX9_readNut_0 : decode cX9_readNut 0 = .ok (.aload_n 1, 1) := by decide +kernel
theorem dX9_readNut_1 : decode cX9_readNut 1 = .ok (.getfield 113, 3) := by decide +kernel
theorem dX9_readNut_4 : decode cX9_readNut 4 = .ok (.getfield 83, 3) := by decide +kernel
theorem dX9_readNut_7 : decode cX9_readNut 7 = .ok (.istore_n 2, 1) := by decide +kernel
theorem dX9_readNut_8 : decode cX9_readNut 8 = .ok (.aload_n 0, 1) := by decide +kernel
theorem dX9_readNut_9 : decode cX9_readNut 9 = .ok (.aload_n 1, 1) := by decide +kernel
theorem dX9_readNut_10 : decode cX9_readNut 10 = .ok (.getfield 113, 3) := by decide +kernel
theorem dX9_readNut_13 : decode cX9_readNut 13 = .ok (.invokevirtual 88, 3) := by decide +kernel
theorem dX9_readNut_16 : decode cX9_readNut 16 = .ok (.ifCond .eq 7, 3) := by decide +kernel
theorem dX9_readNut_19 : decode cX9_readNut 19 = .ok (.iconst 2, 1) := by decide +kernel
theorem dX9_readNut_20 : decode cX9_readNut 20 = .ok (.goto 4, 3) := by decide +kernel
theorem dX9_readNut_23 : decode cX9_readNut 23 = .ok (.iconst 0, 1) := by decide +kernel
theorem dX9_readNut_24 : decode cX9_readNut 24 = .ok (.invokevirtual 92, 3) := by decide +kernel
theorem dX9_readNut_27 : decode cX9_readNut 27 = .ok (.aload_n 0, 1) := by decide +kernel
theorem dX9_readNut_28 : decode cX9_readNut 28 = .ok (.aload_n 1, 1) := by decide +kernel
theorem dX9_readNut_29 : decode cX9_readNut 29 = .ok (.getfield 113, 3) := by decide +kernel
theorem dX9_readNut_32 : decode cX9_readNut 32 = .ok (.invokevirtual 95, 3) := by decide +kernel
theorem dX9_readNut_35 : decode cX9_readNut 35 = .ok (.istore_n 3, 1) := by decide +kernel
theorem dX9_readNut_36 : decode cX9_readNut 36 = .ok (.aload_n 0, 1) := by decide +kernel
theorem dX9_readNut_37 : decode cX9_readNut 37 = .ok (.iconst 0, 1) := by decide +kernel
theorem dX9_readNut_38 : decode cX9_readNut 38 = .ok (.bipush 99, 2) := by decide +kernel
theorem dX9_readNut_40 : decode cX9_readNut 40 = .ok (.invokevirtual 99, 3) := by decide +kernel
theorem dX9_readNut_43 : decode cX9_readNut 43 = .ok (.istore 4, 2) := by decide +kernel
theorem dX9_readNut_45 : decode cX9_readNut 45 = .ok (.aload_n 0, 1) := by decide +kernel
theorem dX9_readNut_46 : decode cX9_readNut 46 = .ok (.iconst 0, 1) := by decide +kernel
theorem dX9_readNut_47 : decode cX9_readNut 47 = .ok (.bipush 99, 2) := by decide +kernel
theorem dX9_readNut_49 : decode cX9_readNut 49 = .ok (.invokevirtual 99, 3) := by decide +kernel
theorem dX9_readNut_52 : decode cX9_readNut 52 = .ok (.istore 5, 2) := by decide +kernel
theorem dX9_readNut_54 : decode cX9_readNut 54 = .ok (.aload_n 0, 1) := by decide +kernel
theorem dX9_readNut_55 : decode cX9_readNut 55 = .ok (.iconst 0, 1) := by decide +kernel
theorem dX9_readNut_56 : decode cX9_readNut 56 = .ok (.bipush 9, 2) := by decide +kernel
theorem dX9_readNut_58 : decode cX9_readNut 58 = .ok (.invokevirtual 99, 3) := by decide +kernel
theorem dX9_readNut_61 : decode cX9_readNut 61 = .ok (.istore 6, 2) := by decide +kernel
theorem dX9_readNut_63 : decode cX9_readNut 63 = .ok (.aload_n 0, 1) := by decide +kernel
theorem dX9_readNut_64 : decode cX9_readNut 64 = .ok (.getfield 38, 3) := by decide +kernel
theorem dX9_readNut_67 : decode cX9_readNut 67 = .ok (.ifCond .ne 35, 3) := by decide +kernel
theorem dX9_readNut_70 : decode cX9_readNut 70 = .ok (.aload_n 1, 1) := by decide +kernel
theorem dX9_readNut_71 : decode cX9_readNut 71 = .ok (.getfield 113, 3) := by decide +kernel
theorem dX9_readNut_74 : decode cX9_readNut 74 = .ok (.iload_n 3, 1) := by decide +kernel
theorem dX9_readNut_75 : decode cX9_readNut 75 = .ok (.invokevirtual 103, 3) := by decide +kernel
theorem dX9_readNut_78 : decode cX9_readNut 78 = .ok (.aload_n 1, 1) := by decide +kernel
theorem dX9_readNut_79 : decode cX9_readNut 79 = .ok (.getfield 116, 3) := by decide +kernel
theorem dX9_readNut_82 : decode cX9_readNut 82 = .ok (.iload_n 2, 1) := by decide +kernel
theorem dX9_readNut_83 : decode cX9_readNut 83 = .ok (.iload 4, 2) := by decide +kernel
theorem dX9_readNut_85 : decode cX9_readNut 85 = .ok (.iastore, 1) := by decide +kernel
theorem dX9_readNut_86 : decode cX9_readNut 86 = .ok (.aload_n 1, 1) := by decide +kernel
theorem dX9_readNut_87 : decode cX9_readNut 87 = .ok (.getfield 119, 3) := by decide +kernel
theorem dX9_readNut_90 : decode cX9_readNut 90 = .ok (.iload_n 2, 1) := by decide +kernel
theorem dX9_readNut_91 : decode cX9_readNut 91 = .ok (.iload 5, 2) := by decide +kernel
theorem dX9_readNut_93 : decode cX9_readNut 93 = .ok (.iastore, 1) := by decide +kernel
theorem dX9_readNut_94 : decode cX9_readNut 94 = .ok (.aload_n 1, 1) := by decide +kernel
theorem dX9_readNut_95 : decode cX9_readNut 95 = .ok (.getfield 122, 3) := by decide +kernel
theorem dX9_readNut_98 : decode cX9_readNut 98 = .ok (.iload_n 2, 1) := by decide +kernel
theorem dX9_readNut_99 : decode cX9_readNut 99 = .ok (.iload 6, 2) := by decide +kernel
theorem dX9_readNut_101 : decode cX9_readNut 101 = .ok (.iastore, 1) := by decide +kernel
theorem dX9_readNut_102 : decode cX9_readNut 102 = .ok (.return_, 1) := by decide +kernel
theorem dX9_readSuit_0 : decode cX9_readSuit 0 = .ok (.aload_n 1, 1) := by decide +kernel
theorem dX9_readSuit_1 : decode cX9_readSuit 1 = .ok (.getfield 125, 3) := by decide +kernel
theorem dX9_readSuit_4 : decode cX9_readSuit 4 = .ok (.getfield 83, 3) := by decide +kernel
theorem dX9_readSuit_7 : decode cX9_readSuit 7 = .ok (.istore_n 2, 1) := by decide +kernel
theorem dX9_readSuit_8 : decode cX9_readSuit 8 = .ok (.aload_n 0, 1) := by decide +kernel
theorem dX9_readSuit_9 : decode cX9_readSuit 9 = .ok (.aload_n 1, 1) := by decide +kernel
theorem dX9_readSuit_10 : decode cX9_readSuit 10 = .ok (.getfield 125, 3) := by decide +kernel
theorem dX9_readSuit_13 : decode cX9_readSuit 13 = .ok (.invokevirtual 88, 3) := by decide +kernel
theorem dX9_readSuit_16 : decode cX9_readSuit 16 = .ok (.ifCond .eq 7, 3) := by decide +kernel
theorem dX9_readSuit_19 : decode cX9_readSuit 19 = .ok (.iconst 2, 1) := by decide +kernel
theorem dX9_readSuit_20 : decode cX9_readSuit 20 = .ok (.goto 4, 3) := by decide +kernel
theorem dX9_readSuit_23 : decode cX9_readSuit 23 = .ok (.iconst 0, 1) := by decide +kernel
theorem dX9_readSuit_24 : decode cX9_readSuit 24 = .ok (.invokevirtual 92, 3) := by decide +kernel
theorem dX9_readSuit_27 : decode cX9_readSuit 27 = .ok (.aload_n 0, 1) := by decide +kernel
theorem dX9_readSuit_28 : decode cX9_readSuit 28 = .ok (.aload_n 1, 1) := by decide +kernel
theorem dX9_readSuit_29 : decode cX9_readSuit 29 = .ok (.getfield 125, 3) := by decide +kernel
theorem dX9_readSuit_32 : decode cX9_readSuit 32 = .ok (.invokevirtual 95, 3) := by decide +kernel
theorem dX9_readSuit_35 : decode cX9_readSuit 35 = .ok (.istore_n 3, 1) := by decide +kernel
theorem dX9_readSuit_36 : decode cX9_readSuit 36 = .ok (.aload_n 0, 1) := by decide +kernel
theorem dX9_readSuit_37 : decode cX9_readSuit 37 = .ok (.aload_n 1, 1) := by decide +kernel
theorem dX9_readSuit_38 : decode cX9_readSuit 38 = .ok (.getfield 79, 3) := by decide +kernel
theorem dX9_readSuit_41 : decode cX9_readSuit 41 = .ok (.invokevirtual 128, 3) := by decide +kernel
theorem dX9_readSuit_44 : decode cX9_readSuit 44 = .ok (.istore 4, 2) := by decide +kernel
theorem dX9_readSuit_46 : decode cX9_readSuit 46 = .ok (.aload_n 0, 1) := by decide +kernel
theorem dX9_readSuit_47 : decode cX9_readSuit 47 = .ok (.aload_n 1, 1) := by decide +kernel
theorem dX9_readSuit_48 : decode cX9_readSuit 48 = .ok (.getfield 113, 3) := by decide +kernel
theorem dX9_readSuit_51 : decode cX9_readSuit 51 = .ok (.invokevirtual 128, 3) := by decide +kernel
theorem dX9_readSuit_54 : decode cX9_readSuit 54 = .ok (.istore 5, 2) := by decide +kernel
theorem dX9_readSuit_56 : decode cX9_readSuit 56 = .ok (.aload_n 0, 1) := by decide +kernel
theorem dX9_readSuit_57 : decode cX9_readSuit 57 = .ok (.iconst 0, 1) := by decide +kernel
theorem dX9_readSuit_58 : decode cX9_readSuit 58 = .ok (.bipush 99, 2) := by decide +kernel
theorem dX9_readSuit_60 : decode cX9_readSuit 60 = .ok (.invokevirtual 99, 3) := by decide +kernel
theorem dX9_readSuit_63 : decode cX9_readSuit 63 = .ok (.istore 6, 2) := by decide +kernel
theorem dX9_readSuit_65 : decode cX9_readSuit 65 = .ok (.aload_n 0, 1) := by decide +kernel
theorem dX9_readSuit_66 : decode cX9_readSuit 66 = .ok (.getfield 38, 3) := by decide +kernel
theorem dX9_readSuit_69 : decode cX9_readSuit 69 = .ok (.ifCond .ne 35, 3) := by decide +kernel
theorem dX9_readSuit_72 : decode cX9_readSuit 72 = .ok (.aload_n 1, 1) := by decide +kernel
theorem dX9_readSuit_73 : decode cX9_readSuit 73 = .ok (.getfield 125, 3) := by decide +kernel
theorem dX9_readSuit_76 : decode cX9_readSuit 76 = .ok (.iload_n 3, 1) := by decide +kernel
theorem dX9_readSuit_77 : decode cX9_readSuit 77 = .ok (.invokevirtual 103, 3) := by decide +kernel
theorem dX9_readSuit_80 : decode cX9_readSuit 80 = .ok (.aload_n 1, 1) := by decide +kernel
theorem dX9_readSuit_81 : decode cX9_readSuit 81 = .ok (.getfield 131, 3) := by decide +kernel
theorem dX9_readSuit_84 : decode cX9_readSuit 84 = .ok (.iload_n 2, 1) := by decide +kernel
theorem dX9_readSuit_85 : decode cX9_readSuit 85 = .ok (.iload 4, 2) := by decide +kernel
theorem dX9_readSuit_87 : decode cX9_readSuit 87 = .ok (.iastore, 1) := by decide +kernel
theorem dX9_readSuit_88 : decode cX9_readSuit 88 = .ok (.aload_n 1, 1) := by decide +kernel
theorem dX9_readSuit_89 : decode cX9_readSuit 89 = .ok (.getfield 134, 3) := by decide +kernel
theorem dX9_readSuit_92 : decode cX9_readSuit 92 = .ok (.iload_n 2, 1) := by decide +kernel
theorem dX9_readSuit_93 : decode cX9_readSuit 93 = .ok (.iload 5, 2) := by decide +kernel
theorem dX9_readSuit_95 : decode cX9_readSuit 95 = .ok (.iastore, 1) := by decide +kernel
theorem dX9_readSuit_96 : decode cX9_readSuit 96 = .ok (.aload_n 1, 1) := by decide +kernel
theorem dX9_readSuit_97 : decode cX9_readSuit 97 = .ok (.getfield 137, 3) := by decide +kernel
theorem dX9_readSuit_100 : decode cX9_readSuit 100 = .ok (.iload_n 2, 1) := by decide +kernel
theorem dX9_readSuit_101 : decode cX9_readSuit 101 = .ok (.iload 6, 2) := by decide +kernel
theorem dX9_readSuit_103 : decode cX9_readSuit 103 = .ok (.iastore, 1) := by decide +kernel
theorem dX9_readSuit_104 : decode cX9_readSuit 104 = .ok (.return_, 1) := by decide +kernel
theorem dX9_readLever_0 : decode cX9_readLever 0 = .ok (.aload_n 0, 1) := by decide +kernel
theorem dX9_readLever_1 : decode cX9_readLever 1 = .ok (.aload_n 1, 1) := by decide +kernel
theorem dX9_readLever_2 : decode cX9_readLever 2 = .ok (.getfield 140, 3) := by decide +kernel
theorem dX9_readLever_5 : decode cX9_readLever 5 = .ok (.ifCond .eq 7, 3) := by decide +kernel
theorem dX9_readLever_8 : decode cX9_readLever 8 = .ok (.iconst 3, 1) := by decide +kernel
theorem dX9_readLever_9 : decode cX9_readLever 9 = .ok (.goto 4, 3) := by decide +kernel
theorem dX9_readLever_12 : decode cX9_readLever 12 = .ok (.iconst 0, 1) := by decide +kernel
theorem dX9_readLever_13 : decode cX9_readLever 13 = .ok (.invokevirtual 92, 3) := by decide +kernel
theorem dX9_readLever_16 : decode cX9_readLever 16 = .ok (.aload_n 1, 1) := by decide +kernel
theorem dX9_readLever_17 : decode cX9_readLever 17 = .ok (.aload_n 0, 1) := by decide +kernel
theorem dX9_readLever_18 : decode cX9_readLever 18 = .ok (.iconst 1, 1) := by decide +kernel
theorem dX9_readLever_19 : decode cX9_readLever 19 = .ok (.bipush 99, 2) := by decide +kernel
theorem dX9_readLever_21 : decode cX9_readLever 21 = .ok (.invokevirtual 99, 3) := by decide +kernel
theorem dX9_readLever_24 : decode cX9_readLever 24 = .ok (.putfield 144, 3) := by decide +kernel
theorem dX9_readLever_27 : decode cX9_readLever 27 = .ok (.aload_n 1, 1) := by decide +kernel
theorem dX9_readLever_28 : decode cX9_readLever 28 = .ok (.iconst 1, 1) := by decide +kernel
theorem dX9_readLever_29 : decode cX9_readLever 29 = .ok (.putfield 140, 3) := by decide +kernel
theorem dX9_readLever_32 : decode cX9_readLever 32 = .ok (.return_, 1) := by decide +kernel
theorem dX9_readVacation_0 : decode cX9_readVacation 0 = .ok (.aload_n 0, 1) := by decide +kernel
theorem dX9_readVacation_1 : decode cX9_readVacation 1 = .ok (.aload_n 1, 1) := by decide +kernel
theorem dX9_readVacation_2 : decode cX9_readVacation 2 = .ok (.getfield 147, 3) := by decide +kernel
theorem dX9_readVacation_5 : decode cX9_readVacation 5 = .ok (.ifCond .eq 7, 3) := by decide +kernel
theorem dX9_readVacation_8 : decode cX9_readVacation 8 = .ok (.iconst 3, 1) := by decide +kernel
theorem dX9_readVacation_9 : decode cX9_readVacation 9 = .ok (.goto 4, 3) := by decide +kernel
theorem dX9_readVacation_12 : decode cX9_readVacation 12 = .ok (.iconst 0, 1) := by decide +kernel
theorem dX9_readVacation_13 : decode cX9_readVacation 13 = .ok (.invokevirtual 92, 3) := by decide +kernel
theorem dX9_readVacation_16 : decode cX9_readVacation 16 = .ok (.aload_n 1, 1) := by decide +kernel
theorem dX9_readVacation_17 : decode cX9_readVacation 17 = .ok (.aload_n 0, 1) := by decide +kernel
theorem dX9_readVacation_18 : decode cX9_readVacation 18 = .ok (.iconst 0, 1) := by decide +kernel
theorem dX9_readVacation_19 : decode cX9_readVacation 19 = .ok (.bipush 30, 2) := by decide +kernel
theorem dX9_readVacation_21 : decode cX9_readVacation 21 = .ok (.invokevirtual 99, 3) := by decide +kernel
theorem dX9_readVacation_24 : decode cX9_readVacation 24 = .ok (.putfield 150, 3) := by decide +kernel
theorem dX9_readVacation_27 : decode cX9_readVacation 27 = .ok (.aload_n 1, 1) := by decide +kernel
theorem dX9_readVacation_28 : decode cX9_readVacation 28 = .ok (.iconst 1, 1) := by decide +kernel
theorem dX9_readVacation_29 : decode cX9_readVacation 29 = .ok (.putfield 147, 3) := by decide +kernel
theorem dX9_readVacation_32 : decode cX9_readVacation 32 = .ok (.return_, 1) := by decide +kernel
theorem dX9_readSeed_0 : decode cX9_readSeed 0 = .ok (.aload_n 0, 1) := by decide +kernel
theorem dX9_readSeed_1 : decode cX9_readSeed 1 = .ok (.aload_n 1, 1) := by decide +kernel
theorem dX9_readSeed_2 : decode cX9_readSeed 2 = .ok (.getfield 153, 3) := by decide +kernel
theorem dX9_readSeed_5 : decode cX9_readSeed 5 = .ok (.ifCond .eq 7, 3) := by decide +kernel
theorem dX9_readSeed_8 : decode cX9_readSeed 8 = .ok (.iconst 3, 1) := by decide +kernel
theorem dX9_readSeed_9 : decode cX9_readSeed 9 = .ok (.goto 4, 3) := by decide +kernel
theorem dX9_readSeed_12 : decode cX9_readSeed 12 = .ok (.iconst 0, 1) := by decide +kernel
theorem dX9_readSeed_13 : decode cX9_readSeed 13 = .ok (.invokevirtual 92, 3) := by decide +kernel
theorem dX9_readSeed_16 : decode cX9_readSeed 16 = .ok (.aload_n 0, 1) := by decide +kernel
theorem dX9_readSeed_17 : decode cX9_readSeed 17 = .ok (.iconst 0, 1) := by decide +kernel
theorem dX9_readSeed_18 : decode cX9_readSeed 18 = .ok (.ldc 156, 2) := by decide +kernel
theorem dX9_readSeed_20 : decode cX9_readSeed 20 = .ok (.invokevirtual 99, 3) := by decide +kernel
theorem dX9_readSeed_23 : decode cX9_readSeed 23 = .ok (.pop, 1) := by decide +kernel
theorem dX9_readSeed_24 : decode cX9_readSeed 24 = .ok (.aload_n 1, 1) := by decide +kernel
theorem dX9_readSeed_25 : decode cX9_readSeed 25 = .ok (.iconst 1, 1) := by decide +kernel
theorem dX9_readSeed_26 : decode cX9_readSeed 26 = .ok (.putfield 153, 3) := by decide +kernel
theorem dX9_readSeed_29 : decode cX9_readSeed 29 = .ok (.return_, 1) := by decide +kernel
theorem dX9_readLaw_0 : decode cX9_readLaw 0 = .ok (.aload_n 0, 1) := by decide +kernel
theorem dX9_readLaw_1 : decode cX9_readLaw 1 = .ok (.iconst 0, 1) := by decide +kernel
theorem dX9_readLaw_2 : decode cX9_readLaw 2 = .ok (.invokevirtual 92, 3) := by decide +kernel
theorem dX9_readLaw_5 : decode cX9_readLaw 5 = .ok (.aload_n 0, 1) := by decide +kernel
theorem dX9_readLaw_6 : decode cX9_readLaw 6 = .ok (.getfield 14, 3) := by decide +kernel
theorem dX9_readLaw_9 : decode cX9_readLaw 9 = .ok (.getfield 45, 3) := by decide +kernel
theorem dX9_readLaw_12 : decode cX9_readLaw 12 = .ok (.bipush 26, 2) := by decide +kernel
theorem dX9_readLaw_14 : decode cX9_readLaw 14 = .ok (.isub, 1) := by decide +kernel
theorem dX9_readLaw_15 : decode cX9_readLaw 15 = .ok (.istore_n 2, 1) := by decide +kernel
theorem dX9_readLaw_16 : decode cX9_readLaw 16 = .ok (.iload_n 2, 1) := by decide +kernel
theorem dX9_readLaw_17 : decode cX9_readLaw 17 = .ok (.ifCond .lt 8, 3) := by decide +kernel
theorem dX9_readLaw_20 : decode cX9_readLaw 20 = .ok (.iload_n 2, 1) := by decide +kernel
theorem dX9_readLaw_21 : decode cX9_readLaw 21 = .ok (.iconst 3, 1) := by decide +kernel
theorem dX9_readLaw_22 : decode cX9_readLaw 22 = .ok (.if_icmp .lt 9, 3) := by decide +kernel
theorem dX9_readLaw_25 : decode cX9_readLaw 25 = .ok (.aload_n 0, 1) := by decide +kernel
theorem dX9_readLaw_26 : decode cX9_readLaw 26 = .ok (.iconst 1, 1) := by decide +kernel
theorem dX9_readLaw_27 : decode cX9_readLaw 27 = .ok (.putfield 38, 3) := by decide +kernel
theorem dX9_readLaw_30 : decode cX9_readLaw 30 = .ok (.return_, 1) := by decide +kernel
theorem dX9_readLaw_31 : decode cX9_readLaw 31 = .ok (.aload_n 0, 1) := by decide +kernel
theorem dX9_readLaw_32 : decode cX9_readLaw 32 = .ok (.aload_n 1, 1) := by decide +kernel
theorem dX9_readLaw_33 : decode cX9_readLaw 33 = .ok (.getfield 157, 3) := by decide +kernel
theorem dX9_readLaw_36 : decode cX9_readLaw 36 = .ok (.iload_n 2, 1) := by decide +kernel
theorem dX9_readLaw_37 : decode cX9_readLaw 37 = .ok (.invokevirtual 161, 3) := by decide +kernel
theorem dX9_readLaw_40 : decode cX9_readLaw 40 = .ok (.ifCond .eq 7, 3) := by decide +kernel
theorem dX9_readLaw_43 : decode cX9_readLaw 43 = .ok (.iconst 3, 1) := by decide +kernel
theorem dX9_readLaw_44 : decode cX9_readLaw 44 = .ok (.goto 4, 3) := by decide +kernel
theorem dX9_readLaw_47 : decode cX9_readLaw 47 = .ok (.iconst 0, 1) := by decide +kernel
theorem dX9_readLaw_48 : decode cX9_readLaw 48 = .ok (.invokevirtual 92, 3) := by decide +kernel
theorem dX9_readLaw_51 : decode cX9_readLaw 51 = .ok (.aload_n 0, 1) := by decide +kernel
theorem dX9_readLaw_52 : decode cX9_readLaw 52 = .ok (.getfield 38, 3) := by decide +kernel
theorem dX9_readLaw_55 : decode cX9_readLaw 55 = .ok (.ifCond .ne 19, 3) := by decide +kernel
theorem dX9_readLaw_58 : decode cX9_readLaw 58 = .ok (.aload_n 0, 1) := by decide +kernel
theorem dX9_readLaw_59 : decode cX9_readLaw 59 = .ok (.aload_n 0, 1) := by decide +kernel
theorem dX9_readLaw_60 : decode cX9_readLaw 60 = .ok (.getfield 25, 3) := by decide +kernel
theorem dX9_readLaw_63 : decode cX9_readLaw 63 = .ok (.aload_n 1, 1) := by decide +kernel
theorem dX9_readLaw_64 : decode cX9_readLaw 64 = .ok (.getfield 157, 3) := by decide +kernel
theorem dX9_readLaw_67 : decode cX9_readLaw 67 = .ok (.iload_n 2, 1) := by decide +kernel
theorem dX9_readLaw_68 : decode cX9_readLaw 68 = .ok (.invokevirtual 167, 3) := by decide +kernel
theorem dX9_readLaw_71 : decode cX9_readLaw 71 = .ok (.putfield 38, 3) := by decide +kernel
theorem dX9_readLaw_74 : decode cX9_readLaw 74 = .ok (.return_, 1) := by decide +kernel
theorem dX9_takeWord_0 : decode cX9_takeWord 0 = .ok (.aload_n 0, 1) := by decide +kernel
theorem dX9_takeWord_1 : decode cX9_takeWord 1 = .ok (.iload_n 1, 1) := by decide +kernel
theorem dX9_takeWord_2 : decode cX9_takeWord 2 = .ok (.putfield 38, 3) := by decide +kernel
theorem dX9_takeWord_5 : decode cX9_takeWord 5 = .ok (.aload_n 0, 1) := by decide +kernel
theorem dX9_takeWord_6 : decode cX9_takeWord 6 = .ok (.getfield 38, 3) := by decide +kernel
theorem dX9_takeWord_9 : decode cX9_takeWord 9 = .ok (.ifCond .ne 10, 3) := by decide +kernel
theorem dX9_takeWord_12 : decode cX9_takeWord 12 = .ok (.aload_n 0, 1) := by decide +kernel
theorem dX9_takeWord_13 : decode cX9_takeWord 13 = .ok (.getfield 14, 3) := by decide +kernel
theorem dX9_takeWord_16 : decode cX9_takeWord 16 = .ok (.invokevirtual 55, 3) := by decide +kernel
theorem dX9_takeWord_19 : decode cX9_takeWord 19 = .ok (.return_, 1) := by decide +kernel
theorem dX9_takeNewName_0 : decode cX9_takeNewName 0 = .ok (.aload_n 0, 1) := by decide +kernel
theorem dX9_takeNewName_1 : decode cX9_takeNewName 1 = .ok (.getfield 14, 3) := by decide +kernel
theorem dX9_takeNewName_4 : decode cX9_takeNewName 4 = .ok (.getfield 171, 3) := by decide +kernel
theorem dX9_takeNewName_7 : decode cX9_takeNewName 7 = .ok (.istore_n 2, 1) := by decide +kernel
theorem dX9_takeNewName_8 : decode cX9_takeNewName 8 = .ok (.aload_n 0, 1) := by decide +kernel
theorem dX9_takeNewName_9 : decode cX9_takeNewName 9 = .ok (.getfield 38, 3) := by decide +kernel
theorem dX9_takeNewName_12 : decode cX9_takeNewName 12 = .ok (.ifCond .ne 19, 3) := by decide +kernel
theorem dX9_takeNewName_15 : decode cX9_takeNewName 15 = .ok (.aload_n 0, 1) := by decide +kernel
theorem dX9_takeNewName_16 : decode cX9_takeNewName 16 = .ok (.getfield 14, 3) := by decide +kernel
theorem dX9_takeNewName_19 : decode cX9_takeNewName 19 = .ok (.getfield 45, 3) := by decide +kernel
theorem dX9_takeNewName_22 : decode cX9_takeNewName 22 = .ok (.iconst 3, 1) := by decide +kernel
theorem dX9_takeNewName_23 : decode cX9_takeNewName 23 = .ok (.if_icmp .eq 8, 3) := by decide +kernel
theorem dX9_takeNewName_26 : decode cX9_takeNewName 26 = .ok (.aload_n 0, 1) := by decide +kernel
theorem dX9_takeNewName_27 : decode cX9_takeNewName 27 = .ok (.iconst 1, 1) := by decide +kernel
theorem dX9_takeNewName_28 : decode cX9_takeNewName 28 = .ok (.putfield 38, 3) := by decide +kernel
theorem dX9_takeNewName_31 : decode cX9_takeNewName 31 = .ok (.aload_n 0, 1) := by decide +kernel
theorem dX9_takeNewName_32 : decode cX9_takeNewName 32 = .ok (.getfield 38, 3) := by decide +kernel
theorem dX9_takeNewName_35 : decode cX9_takeNewName 35 = .ok (.ifCond .ne 17, 3) := by decide +kernel
theorem dX9_takeNewName_38 : decode cX9_takeNewName 38 = .ok (.aload_n 1, 1) := by decide +kernel
theorem dX9_takeNewName_39 : decode cX9_takeNewName 39 = .ok (.iload_n 2, 1) := by decide +kernel
theorem dX9_takeNewName_40 : decode cX9_takeNewName 40 = .ok (.invokevirtual 174, 3) := by decide +kernel
theorem dX9_takeNewName_43 : decode cX9_takeNewName 43 = .ok (.iconst (-1), 1) := by decide +kernel
theorem dX9_takeNewName_44 : decode cX9_takeNewName 44 = .ok (.if_icmp .eq 8, 3) := by decide +kernel
theorem dX9_takeNewName_47 : decode cX9_takeNewName 47 = .ok (.aload_n 0, 1) := by decide +kernel
theorem dX9_takeNewName_48 : decode cX9_takeNewName 48 = .ok (.iconst 3, 1) := by decide +kernel
theorem dX9_takeNewName_49 : decode cX9_takeNewName 49 = .ok (.putfield 38, 3) := by decide +kernel
theorem dX9_takeNewName_52 : decode cX9_takeNewName 52 = .ok (.aload_n 0, 1) := by decide +kernel
theorem dX9_takeNewName_53 : decode cX9_takeNewName 53 = .ok (.getfield 38, 3) := by decide +kernel
theorem dX9_takeNewName_56 : decode cX9_takeNewName 56 = .ok (.ifCond .ne 10, 3) := by decide +kernel
theorem dX9_takeNewName_59 : decode cX9_takeNewName 59 = .ok (.aload_n 0, 1) := by decide +kernel
theorem dX9_takeNewName_60 : decode cX9_takeNewName 60 = .ok (.getfield 14, 3) := by decide +kernel
theorem dX9_takeNewName_63 : decode cX9_takeNewName 63 = .ok (.invokevirtual 55, 3) := by decide +kernel
theorem dX9_takeNewName_66 : decode cX9_takeNewName 66 = .ok (.iload_n 2, 1) := by decide +kernel
theorem dX9_takeNewName_67 : decode cX9_takeNewName 67 = .ok (.ireturn, 1) := by decide +kernel
theorem dX9_takeToldName_0 : decode cX9_takeToldName 0 = .ok (.aload_n 1, 1) := by decide +kernel
theorem dX9_takeToldName_1 : decode cX9_takeToldName 1 = .ok (.aload_n 0, 1) := by decide +kernel
theorem dX9_takeToldName_2 : decode cX9_takeToldName 2 = .ok (.getfield 14, 3) := by decide +kernel
theorem dX9_takeToldName_5 : decode cX9_takeToldName 5 = .ok (.getfield 171, 3) := by decide +kernel
theorem dX9_takeToldName_8 : decode cX9_takeToldName 8 = .ok (.invokevirtual 174, 3) := by decide +kernel
theorem dX9_takeToldName_11 : decode cX9_takeToldName 11 = .ok (.istore_n 2, 1) := by decide +kernel
theorem dX9_takeToldName_12 : decode cX9_takeToldName 12 = .ok (.aload_n 0, 1) := by decide +kernel
theorem dX9_takeToldName_13 : decode cX9_takeToldName 13 = .ok (.getfield 38, 3) := by decide +kernel
theorem dX9_takeToldName_16 : decode cX9_takeToldName 16 = .ok (.ifCond .ne 19, 3) := by decide +kernel
theorem dX9_takeToldName_19 : decode cX9_takeToldName 19 = .ok (.aload_n 0, 1) := by decide +kernel
theorem dX9_takeToldName_20 : decode cX9_takeToldName 20 = .ok (.getfield 14, 3) := by decide +kernel
theorem dX9_takeToldName_23 : decode cX9_takeToldName 23 = .ok (.getfield 45, 3) := by decide +kernel
theorem dX9_takeToldName_26 : decode cX9_takeToldName 26 = .ok (.iconst 3, 1) := by decide +kernel
theorem dX9_takeToldName_27 : decode cX9_takeToldName 27 = .ok (.if_icmp .eq 8, 3) := by decide +kernel
theorem dX9_takeToldName_30 : decode cX9_takeToldName 30 = .ok (.aload_n 0, 1) := by decide +kernel
theorem dX9_takeToldName_31 : decode cX9_takeToldName 31 = .ok (.iconst 1, 1) := by decide +kernel
theorem dX9_takeToldName_32 : decode cX9_takeToldName 32 = .ok (.putfield 38, 3) := by decide +kernel
theorem dX9_takeToldName_35 : decode cX9_takeToldName 35 = .ok (.aload_n 0, 1) := by decide +kernel
theorem dX9_takeToldName_36 : decode cX9_takeToldName 36 = .ok (.getfield 38, 3) := by decide +kernel
theorem dX9_takeToldName_39 : decode cX9_takeToldName 39 = .ok (.ifCond .ne 13, 3) := by decide +kernel
theorem dX9_takeToldName_42 : decode cX9_takeToldName 42 = .ok (.iload_n 2, 1) := by decide +kernel
theorem dX9_takeToldName_43 : decode cX9_takeToldName 43 = .ok (.iconst (-1), 1) := by decide +kernel
theorem dX9_takeToldName_44 : decode cX9_takeToldName 44 = .ok (.if_icmp .ne 8, 3) := by decide +kernel
theorem dX9_takeToldName_47 : decode cX9_takeToldName 47 = .ok (.aload_n 0, 1) := by decide +kernel
theorem dX9_takeToldName_48 : decode cX9_takeToldName 48 = .ok (.iconst 4, 1) := by decide +kernel
theorem dX9_takeToldName_49 : decode cX9_takeToldName 49 = .ok (.putfield 38, 3) := by decide +kernel
theorem dX9_takeToldName_52 : decode cX9_takeToldName 52 = .ok (.aload_n 0, 1) := by decide +kernel
theorem dX9_takeToldName_53 : decode cX9_takeToldName 53 = .ok (.getfield 38, 3) := by decide +kernel
theorem dX9_takeToldName_56 : decode cX9_takeToldName 56 = .ok (.ifCond .ne 10, 3) := by decide +kernel
theorem dX9_takeToldName_59 : decode cX9_takeToldName 59 = .ok (.aload_n 0, 1) := by decide +kernel
theorem dX9_takeToldName_60 : decode cX9_takeToldName 60 = .ok (.getfield 14, 3) := by decide +kernel
theorem dX9_takeToldName_63 : decode cX9_takeToldName 63 = .ok (.invokevirtual 55, 3) := by decide +kernel
theorem dX9_takeToldName_66 : decode cX9_takeToldName 66 = .ok (.iload_n 2, 1) := by decide +kernel
theorem dX9_takeToldName_67 : decode cX9_takeToldName 67 = .ok (.ireturn, 1) := by decide +kernel
theorem dX9_takeNumber_0 : decode cX9_takeNumber 0 = .ok (.aload_n 0, 1) := by decide +kernel
theorem dX9_takeNumber_1 : decode cX9_takeNumber 1 = .ok (.getfield 14, 3) := by decide +kernel
theorem dX9_takeNumber_4 : decode cX9_takeNumber 4 = .ok (.getfield 178, 3) := by decide +kernel
theorem dX9_takeNumber_7 : decode cX9_takeNumber 7 = .ok (.istore_n 3, 1) := by decide +kernel
theorem dX9_takeNumber_8 : decode cX9_takeNumber 8 = .ok (.aload_n 0, 1) := by decide +kernel
theorem dX9_takeNumber_9 : decode cX9_takeNumber 9 = .ok (.getfield 38, 3) := by decide +kernel
theorem dX9_takeNumber_12 : decode cX9_takeNumber 12 = .ok (.ifCond .ne 19, 3) := by decide +kernel
theorem dX9_takeNumber_15 : decode cX9_takeNumber 15 = .ok (.aload_n 0, 1) := by decide +kernel
theorem dX9_takeNumber_16 : decode cX9_takeNumber 16 = .ok (.getfield 14, 3) := by decide +kernel
theorem dX9_takeNumber_19 : decode cX9_takeNumber 19 = .ok (.getfield 45, 3) := by decide +kernel
theorem dX9_takeNumber_22 : decode cX9_takeNumber 22 = .ok (.iconst 2, 1) := by decide +kernel
theorem dX9_takeNumber_23 : decode cX9_takeNumber 23 = .ok (.if_icmp .eq 8, 3) := by decide +kernel
theorem dX9_takeNumber_26 : decode cX9_takeNumber 26 = .ok (.aload_n 0, 1) := by decide +kernel
theorem dX9_takeNumber_27 : decode cX9_takeNumber 27 = .ok (.iconst 1, 1) := by decide +kernel
theorem dX9_takeNumber_28 : decode cX9_takeNumber 28 = .ok (.putfield 38, 3) := by decide +kernel
theorem dX9_takeNumber_31 : decode cX9_takeNumber 31 = .ok (.aload_n 0, 1) := by decide +kernel
theorem dX9_takeNumber_32 : decode cX9_takeNumber 32 = .ok (.getfield 38, 3) := by decide +kernel
theorem dX9_takeNumber_35 : decode cX9_takeNumber 35 = .ok (.ifCond .ne 18, 3) := by decide +kernel
theorem dX9_takeNumber_38 : decode cX9_takeNumber 38 = .ok (.iload_n 3, 1) := by decide +kernel
theorem dX9_takeNumber_39 : decode cX9_takeNumber 39 = .ok (.iload_n 1, 1) := by decide +kernel
theorem dX9_takeNumber_40 : decode cX9_takeNumber 40 = .ok (.if_icmp .lt 8, 3) := by decide +kernel
theorem dX9_takeNumber_43 : decode cX9_takeNumber 43 = .ok (.iload_n 3, 1) := by decide +kernel
theorem dX9_takeNumber_44 : decode cX9_takeNumber 44 = .ok (.iload_n 2, 1) := by decide +kernel
theorem dX9_takeNumber_45 : decode cX9_takeNumber 45 = .ok (.if_icmp .le 8, 3) := by decide +kernel
theorem dX9_takeNumber_48 : decode cX9_takeNumber 48 = .ok (.aload_n 0, 1) := by decide +kernel
theorem dX9_takeNumber_49 : decode cX9_takeNumber 49 = .ok (.iconst 2, 1) := by decide +kernel
theorem dX9_takeNumber_50 : decode cX9_takeNumber 50 = .ok (.putfield 38, 3) := by decide +kernel
theorem dX9_takeNumber_53 : decode cX9_takeNumber 53 = .ok (.aload_n 0, 1) := by decide +kernel
theorem dX9_takeNumber_54 : decode cX9_takeNumber 54 = .ok (.getfield 38, 3) := by decide +kernel
theorem dX9_takeNumber_57 : decode cX9_takeNumber 57 = .ok (.ifCond .ne 10, 3) := by decide +kernel
theorem dX9_takeNumber_60 : decode cX9_takeNumber 60 = .ok (.aload_n 0, 1) := by decide +kernel
theorem dX9_takeNumber_61 : decode cX9_takeNumber 61 = .ok (.getfield 14, 3) := by decide +kernel
theorem dX9_takeNumber_64 : decode cX9_takeNumber 64 = .ok (.invokevirtual 55, 3) := by decide +kernel
theorem dX9_takeNumber_67 : decode cX9_takeNumber 67 = .ok (.iload_n 3, 1) := by decide +kernel
theorem dX9_takeNumber_68 : decode cX9_takeNumber 68 = .ok (.ireturn, 1) := by decide +kernel
def wp_X9_takeWord (x1 : Int32) (h : ck_H) (Q : ck_H → Prop) : Prop := (∀ h1, h1 = ck_sI h 2 2 x1 → ((¬ (h1.1 2 2) = 0 → Q h1) ∧ ((h1.1 2 2) = 0 → (wp_X8_next h1 (fun h3 => Q h3)))))
set_option maxHeartbeats 4000000 in
set_option maxRecDepth 100000 in
theorem c_X9_takeWord {gr : Bool} {x1 : Int32} {h : ck_H} {Q : ck_H → Prop} (hq : wp_X9_takeWord x1 h Q) : ck_M yX9_takeWord cX9_takeWord 2 none 4 0 0 gr ck_shX h [.ref 2, .int x1] (ck_Qv ck_shX Q) := by
  refine ck_entry (lv := [(0, .ref 2), (1, .int x1)]) false (own := RX9) rfl (fun q => by cases q) (by decide) (Nat.le_of_ble_eq_true rfl) rfl ?_
  refine ck_aload_n 0 dX9_takeWord_0 rfl rfl ?_
  refine ck_iload_n 1 dX9_takeWord_1 rfl rfl ?_
  refine ck_putI clX9 2 rfl rfl (by decide) fl_X9_38 rfl rfl rfl dX9_takeWord_2 ?_
  refine ck_nmH (fun h1 eh1 => ?_)
  have hq := hq h1 eh1
  refine ck_aload_n 0 dX9_takeWord_5 rfl rfl ?_
  refine ck_getI clX9 2 rfl rfl (by decide) fl_X9_38 dX9_takeWord_6 ?_
  refine ck_if_ne (tgt := 19) dX9_takeWord_9 (by decide) (fun c2 => ?_) (fun c2 => ?_)
  · have hq := hq.1 c2
    exact ck_vret rfl rfl rfl dX9_takeWord_19 ⟨rfl, rfl, hq⟩
  · have hq := hq.2 c2
    refine ck_aload_n 0 dX9_takeWord_12 rfl rfl ?_
    refine ck_getR clX9 0 rfl rfl (by decide) fl_X9_14 dX9_takeWord_13 ?_
    refine ck_callV (c_X8_next hq) rfl cal_X8_next rfl ml_X9_55 vir_X8_next rfl rfl (by decide) (Nat.le_of_ble_eq_true rfl) (Nat.le_of_ble_eq_true rfl) (by decide) (by decide) dX9_takeWord_16 ?_
    rintro _ _ h3 ⟨rfl, rfl, hq⟩
    exact ck_vret rfl rfl rfl dX9_takeWord_19 ⟨rfl, rfl, hq⟩
def wp_X9_takeNewName_52 (Q : Int32 → ck_H → Prop) (o1 : Nat) (x2 : Int32) (h : ck_H) : Prop := ((¬ (h.1 2 2) = 0 → Q x2 h) ∧ ((h.1 2 2) = 0 → (wp_X8_next h (fun h5 => Q x2 h5))))
def wp_X9_takeNewName_31 (Q : Int32 → ck_H → Prop) (o1 : Nat) (x2 : Int32) (h : ck_H) : Prop := ((¬ (h.1 2 2) = 0 → wp_X9_takeNewName_52 Q o1 x2 h) ∧ ((h.1 2 2) = 0 → (wp_X5_find o1 x2 h (fun r13 h12 => ((r13 = (-1 : Int32) → wp_X9_takeNewName_52 Q o1 x2 h12) ∧ (¬ r13 = (-1 : Int32) → (∀ h15, h15 = ck_sI h12 2 2 (3 : Int32) → wp_X9_takeNewName_52 Q o1 x2 h15)))))))
def wp_X9_takeNewName (o1 : Nat) (h : ck_H) (Q : Int32 → ck_H → Prop) : Prop := (∀ v1, v1 = (h.1 3 7) → ((¬ (h.1 2 2) = 0 → wp_X9_takeNewName_31 Q o1 v1 h) ∧ ((h.1 2 2) = 0 → (((h.1 3 4) = (3 : Int32) → wp_X9_takeNewName_31 Q o1 v1 h) ∧ (¬ (h.1 3 4) = (3 : Int32) → (∀ h32, h32 = ck_sI h 2 2 (1 : Int32) → wp_X9_takeNewName_31 Q o1 v1 h32))))))
set_option maxHeartbeats 4000000 in
set_option maxRecDepth 100000 in
theorem cp_X9_takeNewName_52 {gr : Bool} {Q : Int32 → ck_H → Prop} {o1 : Nat} (hc : (o1 = 63) ∨ (o1 = 58) ∨ (o1 = 54)) : ∀ (x2 : Int32) (h : ck_H), wp_X9_takeNewName_52 Q o1 x2 h → ck_W cX9_takeNewName 3 RX9 (some .int) 4 0 0 false gr (ck_Qi ck_shX Q) ck_shX h 0 0 52 [(0, .ref 2), (2, .int x2)] [] := by
  rcases hc with rfl | rfl | rfl
  · intro x2 h hq
    refine ck_aload_n 0 dX9_takeNewName_52 rfl rfl ?_
    refine ck_getI clX9 2 rfl rfl (by decide) fl_X9_38 dX9_takeNewName_53 ?_
    refine ck_if_ne (tgt := 66) dX9_takeNewName_56 (by decide) (fun c6 => ?_) (fun c6 => ?_)
    · have hq := hq.1 c6
      refine ck_iload_n 1 dX9_takeNewName_66 rfl rfl ?_
      exact ck_iret rfl rfl rfl rfl dX9_takeNewName_67 ⟨_, rfl, rfl, hq⟩
    · have hq := hq.2 c6
      refine ck_aload_n 0 dX9_takeNewName_59 rfl rfl ?_
      refine ck_getR clX9 0 rfl rfl (by decide) fl_X9_14 dX9_takeNewName_60 ?_
      refine ck_callV (c_X8_next hq) rfl cal_X8_next rfl ml_X9_55 vir_X8_next rfl rfl (by decide) (Nat.le_of_ble_eq_true rfl) (Nat.le_of_ble_eq_true rfl) (by decide) (by decide) dX9_takeNewName_63 ?_
      rintro _ _ h7 ⟨rfl, rfl, hq⟩
      refine ck_iload_n 1 dX9_takeNewName_66 rfl rfl ?_
      exact ck_iret rfl rfl rfl rfl dX9_takeNewName_67 ⟨_, rfl, rfl, hq⟩
  · intro x2 h hq
    refine ck_aload_n 0 dX9_takeNewName_52 rfl rfl ?_
    refine ck_getI clX9 2 rfl rfl (by decide) fl_X9_38 dX9_takeNewName_53 ?_
    refine ck_if_ne (tgt := 66) dX9_takeNewName_56 (by decide) (fun c8 => ?_) (fun c8 => ?_)
    · have hq := hq.1 c8
      refine ck_iload_n 1 dX9_takeNewName_66 rfl rfl ?_
      exact ck_iret rfl rfl rfl rfl dX9_takeNewName_67 ⟨_, rfl, rfl, hq⟩
    · have hq := hq.2 c8
      refine ck_aload_n 0 dX9_takeNewName_59 rfl rfl ?_
      refine ck_getR clX9 0 rfl rfl (by decide) fl_X9_14 dX9_takeNewName_60 ?_
      refine ck_callV (c_X8_next hq) rfl cal_X8_next rfl ml_X9_55 vir_X8_next rfl rfl (by decide) (Nat.le_of_ble_eq_true rfl) (Nat.le_of_ble_eq_true rfl) (by decide) (by decide) dX9_takeNewName_63 ?_
      rintro _ _ h9 ⟨rfl, rfl, hq⟩
      refine ck_iload_n 1 dX9_takeNewName_66 rfl rfl ?_
      exact ck_iret rfl rfl rfl rfl dX9_takeNewName_67 ⟨_, rfl, rfl, hq⟩
  · intro x2 h hq
    refine ck_aload_n 0 dX9_takeNewName_52 rfl rfl ?_
    refine ck_getI clX9 2 rfl rfl (by decide) fl_X9_38 dX9_takeNewName_53 ?_
    refine ck_if_ne (tgt := 66) dX9_takeNewName_56 (by decide) (fun c10 => ?_) (fun c10 => ?_)
    · have hq := hq.1 c10
      refine ck_iload_n 1 dX9_takeNewName_66 rfl rfl ?_
      exact ck_iret rfl rfl rfl rfl dX9_takeNewName_67 ⟨_, rfl, rfl, hq⟩
    · have hq := hq.2 c10
      refine ck_aload_n 0 dX9_takeNewName_59 rfl rfl ?_
      refine ck_getR clX9 0 rfl rfl (by decide) fl_X9_14 dX9_takeNewName_60 ?_
      refine ck_callV (c_X8_next hq) rfl cal_X8_next rfl ml_X9_55 vir_X8_next rfl rfl (by decide) (Nat.le_of_ble_eq_true rfl) (Nat.le_of_ble_eq_true rfl) (by decide) (by decide) dX9_takeNewName_63 ?_
      rintro _ _ h11 ⟨rfl, rfl, hq⟩
      refine ck_iload_n 1 dX9_takeNewName_66 rfl rfl ?_
      exact ck_iret rfl rfl rfl rfl dX9_takeNewName_67 ⟨_, rfl, rfl, hq⟩
set_option maxHeartbeats 4000000 in
set_option maxRecDepth 100000 in
theorem cp_X9_takeNewName_31 {gr : Bool} {Q : Int32 → ck_H → Prop} {o1 : Nat} (hc : (o1 = 63) ∨ (o1 = 58) ∨ (o1 = 54)) : ∀ (x2 : Int32) (h : ck_H), wp_X9_takeNewName_31 Q o1 x2 h → ck_W cX9_takeNewName 3 RX9 (some .int) 4 0 0 false gr (ck_Qi ck_shX Q) ck_shX h 0 0 31 [(0, .ref 2), (1, .ref o1), (2, .int x2)] [] := by
  rcases hc with rfl | rfl | rfl
  · intro x2 h hq
    refine ck_aload_n 0 dX9_takeNewName_31 rfl rfl ?_
    refine ck_getI clX9 2 rfl rfl (by decide) fl_X9_38 dX9_takeNewName_32 ?_
    refine ck_if_ne (tgt := 52) dX9_takeNewName_35 (by decide) (fun c16 => ?_) (fun c16 => ?_)
    · have hq := hq.1 c16
      refine ck_loc [0, 2] rfl ?_
      exact cp_X9_takeNewName_52 (by simp) _ _ hq
    · have hq := hq.2 c16
      refine ck_aload_n 1 dX9_takeNewName_38 rfl rfl ?_
      refine ck_iload_n 2 dX9_takeNewName_39 rfl rfl ?_
      refine ck_callV (c_X5_find (by simp) hq) rfl cal_X5_find rfl ml_X9_174 vir_X5_find rfl rfl (by decide) (Nat.le_of_ble_eq_true rfl) (Nat.le_of_ble_eq_true rfl) (by decide) (by decide) dX9_takeNewName_40 ?_
      rintro _ _ h17 ⟨r18, rfl, rfl, hq⟩
      refine ck_iconst (v := -1) dX9_takeNewName_43 (by decide) ?_
      refine ck_icmp_eq (tgt := 52) dX9_takeNewName_44 (by decide) (fun c19 => ?_) (fun c19 => ?_)
      · have hq := hq.1 c19
        refine ck_loc [0, 2] rfl ?_
        exact cp_X9_takeNewName_52 (by simp) _ _ hq
      · have hq := hq.2 c19
        refine ck_aload_n 0 dX9_takeNewName_47 rfl rfl ?_
        refine ck_iconst (v := 3) dX9_takeNewName_48 (by decide) ?_
        refine ck_putI clX9 2 rfl rfl (by decide) fl_X9_38 rfl rfl rfl dX9_takeNewName_49 ?_
        refine ck_nmH (fun h20 eh20 => ?_)
        have hq := hq h20 eh20
        refine ck_loc [0, 2] rfl ?_
        exact cp_X9_takeNewName_52 (by simp) _ _ hq
  · intro x2 h hq
    refine ck_aload_n 0 dX9_takeNewName_31 rfl rfl ?_
    refine ck_getI clX9 2 rfl rfl (by decide) fl_X9_38 dX9_takeNewName_32 ?_
    refine ck_if_ne (tgt := 52) dX9_takeNewName_35 (by decide) (fun c21 => ?_) (fun c21 => ?_)
    · have hq := hq.1 c21
      refine ck_loc [0, 2] rfl ?_
      exact cp_X9_takeNewName_52 (by simp) _ _ hq
    · have hq := hq.2 c21
      refine ck_aload_n 1 dX9_takeNewName_38 rfl rfl ?_
      refine ck_iload_n 2 dX9_takeNewName_39 rfl rfl ?_
      refine ck_callV (c_X5_find (by simp) hq) rfl cal_X5_find rfl ml_X9_174 vir_X5_find rfl rfl (by decide) (Nat.le_of_ble_eq_true rfl) (Nat.le_of_ble_eq_true rfl) (by decide) (by decide) dX9_takeNewName_40 ?_
      rintro _ _ h22 ⟨r23, rfl, rfl, hq⟩
      refine ck_iconst (v := -1) dX9_takeNewName_43 (by decide) ?_
      refine ck_icmp_eq (tgt := 52) dX9_takeNewName_44 (by decide) (fun c24 => ?_) (fun c24 => ?_)
      · have hq := hq.1 c24
        refine ck_loc [0, 2] rfl ?_
        exact cp_X9_takeNewName_52 (by simp) _ _ hq
      · have hq := hq.2 c24
        refine ck_aload_n 0 dX9_takeNewName_47 rfl rfl ?_
        refine ck_iconst (v := 3) dX9_takeNewName_48 (by decide) ?_
        refine ck_putI clX9 2 rfl rfl (by decide) fl_X9_38 rfl rfl rfl dX9_takeNewName_49 ?_
        refine ck_nmH (fun h25 eh25 => ?_)
        have hq := hq h25 eh25
        refine ck_loc [0, 2] rfl ?_
        exact cp_X9_takeNewName_52 (by simp) _ _ hq
  · intro x2 h hq
    refine ck_aload_n 0 dX9_takeNewName_31 rfl rfl ?_
    refine ck_getI clX9 2 rfl rfl (by decide) fl_X9_38 dX9_takeNewName_32 ?_
    refine ck_if_ne (tgt := 52) dX9_takeNewName_35 (by decide) (fun c26 => ?_) (fun c26 => ?_)
    · have hq := hq.1 c26
      refine ck_loc [0, 2] rfl ?_
      exact cp_X9_takeNewName_52 (by simp) _ _ hq
    · have hq := hq.2 c26
      refine ck_aload_n 1 dX9_takeNewName_38 rfl rfl ?_
      refine ck_iload_n 2 dX9_takeNewName_39 rfl rfl ?_
      refine ck_callV (c_X5_find (by simp) hq) rfl cal_X5_find rfl ml_X9_174 vir_X5_find rfl rfl (by decide) (Nat.le_of_ble_eq_true rfl) (Nat.le_of_ble_eq_true rfl) (by decide) (by decide) dX9_takeNewName_40 ?_
      rintro _ _ h27 ⟨r28, rfl, rfl, hq⟩
      refine ck_iconst (v := -1) dX9_takeNewName_43 (by decide) ?_
      refine ck_icmp_eq (tgt := 52) dX9_takeNewName_44 (by decide) (fun c29 => ?_) (fun c29 => ?_)
      · have hq := hq.1 c29
        refine ck_loc [0, 2] rfl ?_
        exact cp_X9_takeNewName_52 (by simp) _ _ hq
      · have hq := hq.2 c29
        refine ck_aload_n 0 dX9_takeNewName_47 rfl rfl ?_
        refine ck_iconst (v := 3) dX9_takeNewName_48 (by decide) ?_
        refine ck_putI clX9 2 rfl rfl (by decide) fl_X9_38 rfl rfl rfl dX9_takeNewName_49 ?_
        refine ck_nmH (fun h30 eh30 => ?_)
        have hq := hq h30 eh30
        refine ck_loc [0, 2] rfl ?_
        exact cp_X9_takeNewName_52 (by simp) _ _ hq
set_option maxHeartbeats 4000000 in
set_option maxRecDepth 100000 in
theorem c_X9_takeNewName {gr : Bool} {h : ck_H} {Q : Int32 → ck_H → Prop} {o1 : Nat} (hc : (o1 = 63) ∨ (o1 = 58) ∨ (o1 = 54)) (hq : wp_X9_takeNewName o1 h Q) : ck_M yX9_takeNewName cX9_takeNewName 3 (some .int) 4 0 0 gr ck_shX h [.ref 2, .ref o1] (ck_Qi ck_shX Q) := by
  rcases hc with rfl | rfl | rfl
  · refine ck_entry (lv := [(0, .ref 2), (1, .ref 63)]) false (own := RX9) rfl (fun q => by cases q) (by decide) (Nat.le_of_ble_eq_true rfl) rfl ?_
    refine ck_aload_n 0 dX9_takeNewName_0 rfl rfl ?_
    refine ck_getR clX9 0 rfl rfl (by decide) fl_X9_14 dX9_takeNewName_1 ?_
    refine ck_getIN clX8 7 rfl rfl (by decide) fl_X9_171 dX9_takeNewName_4 ?_
    refine ck_nmI (fun v33 ev33 => ?_)
    have hq := hq v33 ev33
    refine ck_istore_n (lv' := [(2, .int v33), (0, .ref 2), (1, .ref 63)]) dX9_takeNewName_7 rfl (by decide) rfl ?_
    refine ck_aload_n 1 dX9_takeNewName_8 rfl rfl ?_
    refine ck_getI clX9 2 rfl rfl (by decide) fl_X9_38 dX9_takeNewName_9 ?_
    refine ck_if_ne (tgt := 31) dX9_takeNewName_12 (by decide) (fun c34 => ?_) (fun c34 => ?_)
    · have hq := hq.1 c34
      refine ck_loc [1, 2, 0] rfl ?_
      exact cp_X9_takeNewName_31 (by simp) _ _ hq
    · have hq := hq.2 c34
      refine ck_aload_n 1 dX9_takeNewName_15 rfl rfl ?_
      refine ck_getR clX9 0 rfl rfl (by decide) fl_X9_14 dX9_takeNewName_16 ?_
      refine ck_getIN clX8 4 rfl rfl (by decide) fl_X9_45 dX9_takeNewName_19 ?_
      refine ck_iconst (v := 3) dX9_takeNewName_22 (by decide) ?_
      refine ck_icmp_eq (tgt := 31) dX9_takeNewName_23 (by decide) (fun c35 => ?_) (fun c35 => ?_)
      · have hq := hq.1 c35
        refine ck_loc [1, 2, 0] rfl ?_
        exact cp_X9_takeNewName_31 (by simp) _ _ hq
      · have hq := hq.2 c35
        refine ck_aload_n 1 dX9_takeNewName_26 rfl rfl ?_
        refine ck_iconst (v := 1) dX9_takeNewName_27 (by decide) ?_
        refine ck_putI clX9 2 rfl rfl (by decide) fl_X9_38 rfl rfl rfl dX9_takeNewName_28 ?_
        refine ck_nmH (fun h36 eh36 => ?_)
        have hq := hq h36 eh36
        refine ck_loc [1, 2, 0] rfl ?_
        exact cp_X9_takeNewName_31 (by simp) _ _ hq
  · refine ck_entry (lv := [(0, .ref 2), (1, .ref 58)]) false (own := RX9) rfl (fun q => by cases q) (by decide) (Nat.le_of_ble_eq_true rfl) rfl ?_
    refine ck_aload_n 0 dX9_takeNewName_0 rfl rfl ?_
    refine ck_getR clX9 0 rfl rfl (by decide) fl_X9_14 dX9_takeNewName_1 ?_
    refine ck_getIN clX8 7 rfl rfl (by decide) fl_X9_171 dX9_takeNewName_4 ?_
    refine ck_nmI (fun v37 ev37 => ?_)
    have hq := hq v37 ev37
    refine ck_istore_n (lv' := [(2, .int v37), (0, .ref 2), (1, .ref 58)]) dX9_takeNewName_7 rfl (by decide) rfl ?_
    refine ck_aload_n 1 dX9_takeNewName_8 rfl rfl ?_
    refine ck_getI clX9 2 rfl rfl (by decide) fl_X9_38 dX9_takeNewName_9 ?_
    refine ck_if_ne (tgt := 31) dX9_takeNewName_12 (by decide) (fun c38 => ?_) (fun c38 => ?_)
    · have hq := hq.1 c38
      refine ck_loc [1, 2, 0] rfl ?_
      exact cp_X9_takeNewName_31 (by simp) _ _ hq
    · have hq := hq.2 c38
      refine ck_aload_n 1 dX9_takeNewName_15 rfl rfl ?_
      refine ck_getR clX9 0 rfl rfl (by decide) fl_X9_14 dX9_takeNewName_16 ?_
      refine ck_getIN clX8 4 rfl rfl (by decide) fl_X9_45 dX9_takeNewName_19 ?_
      refine ck_iconst (v := 3) dX9_takeNewName_22 (by decide) ?_
      refine ck_icmp_eq (tgt := 31) dX9_takeNewName_23 (by decide) (fun c39 => ?_) (fun c39 => ?_)
      · have hq := hq.1 c39
        refine ck_loc [1, 2, 0] rfl ?_
        exact cp_X9_takeNewName_31 (by simp) _ _ hq
      · have hq := hq.2 c39
        refine ck_aload_n 1 dX9_takeNewName_26 rfl rfl ?_
        refine ck_iconst (v := 1) dX9_takeNewName_27 (by decide) ?_
        refine ck_putI clX9 2 rfl rfl (by decide) fl_X9_38 rfl rfl rfl dX9_takeNewName_28 ?_
        refine ck_nmH (fun h40 eh40 => ?_)
        have hq := hq h40 eh40
        refine ck_loc [1, 2, 0] rfl ?_
        exact cp_X9_takeNewName_31 (by simp) _ _ hq
  · refine ck_entry (lv := [(0, .ref 2), (1, .ref 54)]) false (own := RX9) rfl (fun q => by cases q) (by decide) (Nat.le_of_ble_eq_true rfl) rfl ?_
    refine ck_aload_n 0 dX9_takeNewName_0 rfl rfl ?_
    refine ck_getR clX9 0 rfl rfl (by decide) fl_X9_14 dX9_takeNewName_1 ?_
    refine ck_getIN clX8 7 rfl rfl (by decide) fl_X9_171 dX9_takeNewName_4 ?_
    refine ck_nmI (fun v41 ev41 => ?_)
    have hq := hq v41 ev41
    refine ck_istore_n (lv' := [(2, .int v41), (0, .ref 2), (1, .ref 54)]) dX9_takeNewName_7 rfl (by decide) rfl ?_
    refine ck_aload_n 1 dX9_takeNewName_8 rfl rfl ?_
    refine ck_getI clX9 2 rfl rfl (by decide) fl_X9_38 dX9_takeNewName_9 ?_
    refine ck_if_ne (tgt := 31) dX9_takeNewName_12 (by decide) (fun c42 => ?_) (fun c42 => ?_)
    · have hq := hq.1 c42
      refine ck_loc [1, 2, 0] rfl ?_
      exact cp_X9_takeNewName_31 (by simp) _ _ hq
    · have hq := hq.2 c42
      refine ck_aload_n 1 dX9_takeNewName_15 rfl rfl ?_
      refine ck_getR clX9 0 rfl rfl (by decide) fl_X9_14 dX9_takeNewName_16 ?_
      refine ck_getIN clX8 4 rfl rfl (by decide) fl_X9_45 dX9_takeNewName_19 ?_
      refine ck_iconst (v := 3) dX9_takeNewName_22 (by decide) ?_
      refine ck_icmp_eq (tgt := 31) dX9_takeNewName_23 (by decide) (fun c43 => ?_) (fun c43 => ?_)
      · have hq := hq.1 c43
        refine ck_loc [1, 2, 0] rfl ?_
        exact cp_X9_takeNewName_31 (by simp) _ _ hq
      · have hq := hq.2 c43
        refine ck_aload_n 1 dX9_takeNewName_26 rfl rfl ?_
        refine ck_iconst (v := 1) dX9_takeNewName_27 (by decide) ?_
        refine ck_putI clX9 2 rfl rfl (by decide) fl_X9_38 rfl rfl rfl dX9_takeNewName_28 ?_
        refine ck_nmH (fun h44 eh44 => ?_)
        have hq := hq h44 eh44
        refine ck_loc [1, 2, 0] rfl ?_
        exact cp_X9_takeNewName_31 (by simp) _ _ hq
def wp_X9_takeNumber_53 (Q : Int32 → ck_H → Prop) (x3 : Int32) (h : ck_H) : Prop := ((¬ (h.1 2 2) = 0 → Q x3 h) ∧ ((h.1 2 2) = 0 → (wp_X8_next h (fun h5 => Q x3 h5))))
def wp_X9_takeNumber_48 (Q : Int32 → ck_H → Prop) (x3 : Int32) (h : ck_H) : Prop := (∀ h7, h7 = ck_sI h 2 2 (2 : Int32) → wp_X9_takeNumber_53 Q x3 h7)
def wp_X9_takeNumber_31 (Q : Int32 → ck_H → Prop) (x1 : Int32) (x2 : Int32) (x3 : Int32) (h : ck_H) : Prop := ((¬ (h.1 2 2) = 0 → wp_X9_takeNumber_53 Q x3 h) ∧ ((h.1 2 2) = 0 → ((x3 < x1 → wp_X9_takeNumber_48 Q x3 h) ∧ (¬ x3 < x1 → ((x3 ≤ x2 → wp_X9_takeNumber_53 Q x3 h) ∧ (¬ x3 ≤ x2 → wp_X9_takeNumber_48 Q x3 h))))))
def wp_X9_takeNumber (x1 : Int32) (x2 : Int32) (h : ck_H) (Q : Int32 → ck_H → Prop) : Prop := (∀ v1, v1 = (h.1 3 6) → ((¬ (h.1 2 2) = 0 → wp_X9_takeNumber_31 Q x1 x2 v1 h) ∧ ((h.1 2 2) = 0 → (((h.1 3 4) = (2 : Int32) → wp_X9_takeNumber_31 Q x1 x2 v1 h) ∧ (¬ (h.1 3 4) = (2 : Int32) → (∀ h10, h10 = ck_sI h 2 2 (1 : Int32) → wp_X9_takeNumber_31 Q x1 x2 v1 h10))))))
set_option maxHeartbeats 4000000 in
set_option maxRecDepth 100000 in
theorem cp_X9_takeNumber_53 {gr : Bool} {Q : Int32 → ck_H → Prop} : ∀ (x3 : Int32) (h : ck_H), wp_X9_takeNumber_53 Q x3 h → ck_W cX9_takeNumber 4 RX9 (some .int) 4 0 0 false gr (ck_Qi ck_shX Q) ck_shX h 0 0 53 [(0, .ref 2), (3, .int x3)] [] := by
  intro x3 h hq
  refine ck_aload_n 0 dX9_takeNumber_53 rfl rfl ?_
  refine ck_getI clX9 2 rfl rfl (by decide) fl_X9_38 dX9_takeNumber_54 ?_
  refine ck_if_ne (tgt := 67) dX9_takeNumber_57 (by decide) (fun c4 => ?_) (fun c4 => ?_)
  · have hq := hq.1 c4
    refine ck_iload_n 1 dX9_takeNumber_67 rfl rfl ?_
    exact ck_iret rfl rfl rfl rfl dX9_takeNumber_68 ⟨_, rfl, rfl, hq⟩
  · have hq := hq.2 c4
    refine ck_aload_n 0 dX9_takeNumber_60 rfl rfl ?_
    refine ck_getR clX9 0 rfl rfl (by decide) fl_X9_14 dX9_takeNumber_61 ?_
    refine ck_callV (c_X8_next hq) rfl cal_X8_next rfl ml_X9_55 vir_X8_next rfl rfl (by decide) (Nat.le_of_ble_eq_true rfl) (Nat.le_of_ble_eq_true rfl) (by decide) (by decide) dX9_takeNumber_64 ?_
    rintro _ _ h5 ⟨rfl, rfl, hq⟩
    refine ck_iload_n 1 dX9_takeNumber_67 rfl rfl ?_
    exact ck_iret rfl rfl rfl rfl dX9_takeNumber_68 ⟨_, rfl, rfl, hq⟩
set_option maxHeartbeats 4000000 in
set_option maxRecDepth 100000 in
theorem cp_X9_takeNumber_48 {gr : Bool} {Q : Int32 → ck_H → Prop} : ∀ (x3 : Int32) (h : ck_H), wp_X9_takeNumber_48 Q x3 h → ck_W cX9_takeNumber 4 RX9 (some .int) 4 0 0 false gr (ck_Qi ck_shX Q) ck_shX h 0 0 48 [(0, .ref 2), (3, .int x3)] [] := by
  intro x3 h hq
  refine ck_aload_n 0 dX9_takeNumber_48 rfl rfl ?_
  refine ck_iconst (v := 2) dX9_takeNumber_49 (by decide) ?_
  refine ck_putI clX9 2 rfl rfl (by decide) fl_X9_38 rfl rfl rfl dX9_takeNumber_50 ?_
  refine ck_nmH (fun h7 eh7 => ?_)
  have hq := hq h7 eh7
  exact cp_X9_takeNumber_53 _ _ hq
set_option maxHeartbeats 4000000 in
set_option maxRecDepth 100000 in
theorem cp_X9_takeNumber_31 {gr : Bool} {Q : Int32 → ck_H → Prop} : ∀ (x1 : Int32) (x2 : Int32) (x3 : Int32) (h : ck_H), wp_X9_takeNumber_31 Q x1 x2 x3 h → ck_W cX9_takeNumber 4 RX9 (some .int) 4 0 0 false gr (ck_Qi ck_shX Q) ck_shX h 0 0 31 [(0, .ref 2), (1, .int x1), (2, .int x2), (3, .int x3)] [] := by
  intro x1 x2 x3 h hq
  refine ck_aload_n 0 dX9_takeNumber_31 rfl rfl ?_
  refine ck_getI clX9 2 rfl rfl (by decide) fl_X9_38 dX9_takeNumber_32 ?_
  refine ck_if_ne (tgt := 53) dX9_takeNumber_35 (by decide) (fun c3 => ?_) (fun c3 => ?_)
  · have hq := hq.1 c3
    refine ck_loc [0, 3] rfl ?_
    exact cp_X9_takeNumber_53 _ _ hq
  · have hq := hq.2 c3
    refine ck_iload_n 3 dX9_takeNumber_38 rfl rfl ?_
    refine ck_iload_n 1 dX9_takeNumber_39 rfl rfl ?_
    refine ck_icmp_lt (tgt := 48) dX9_takeNumber_40 (by decide) (fun c6 => ?_) (fun c6 => ?_)
    · have hq := hq.1 c6
      refine ck_loc [0, 3] rfl ?_
      exact cp_X9_takeNumber_48 _ _ hq
    · have hq := hq.2 c6
      refine ck_iload_n 3 dX9_takeNumber_43 rfl rfl ?_
      refine ck_iload_n 2 dX9_takeNumber_44 rfl rfl ?_
      refine ck_icmp_le (tgt := 53) dX9_takeNumber_45 (by decide) (fun c8 => ?_) (fun c8 => ?_)
      · have hq := hq.1 c8
        refine ck_loc [0, 3] rfl ?_
        exact cp_X9_takeNumber_53 _ _ hq
      · have hq := hq.2 c8
        refine ck_loc [0, 3] rfl ?_
        exact cp_X9_takeNumber_48 _ _ hq
set_option maxHeartbeats 4000000 in
set_option maxRecDepth 100000 in
theorem c_X9_takeNumber {gr : Bool} {x1 : Int32} {x2 : Int32} {h : ck_H} {Q : Int32 → ck_H → Prop} (hq : wp_X9_takeNumber x1 x2 h Q) : ck_M yX9_takeNumber cX9_takeNumber 4 (some .int) 4 0 0 gr ck_shX h [.ref 2, .int x1, .int x2] (ck_Qi ck_shX Q) := by
  refine ck_entry (lv := [(0, .ref 2), (1, .int x1), (2, .int x2)]) false (own := RX9) rfl (fun q => by cases q) (by decide) (Nat.le_of_ble_eq_true rfl) rfl ?_
  refine ck_aload_n 0 dX9_takeNumber_0 rfl rfl ?_
  refine ck_getR clX9 0 rfl rfl (by decide) fl_X9_14 dX9_takeNumber_1 ?_
  refine ck_getIN clX8 6 rfl rfl (by decide) fl_X9_178 dX9_takeNumber_4 ?_
  refine ck_nmI (fun v1 ev1 => ?_)
  have hq := hq v1 ev1
  refine ck_istore_n (lv' := [(3, .int v1), (0, .ref 2), (1, .int x1), (2, .int x2)]) dX9_takeNumber_7 rfl (by decide) rfl ?_
  refine ck_aload_n 1 dX9_takeNumber_8 rfl rfl ?_
  refine ck_getI clX9 2 rfl rfl (by decide) fl_X9_38 dX9_takeNumber_9 ?_
  refine ck_if_ne (tgt := 31) dX9_takeNumber_12 (by decide) (fun c2 => ?_) (fun c2 => ?_)
  · have hq := hq.1 c2
    refine ck_loc [1, 2, 3, 0] rfl ?_
    exact cp_X9_takeNumber_31 _ _ _ _ hq
  · have hq := hq.2 c2
    refine ck_aload_n 1 dX9_takeNumber_15 rfl rfl ?_
    refine ck_getR clX9 0 rfl rfl (by decide) fl_X9_14 dX9_takeNumber_16 ?_
    refine ck_getIN clX8 4 rfl rfl (by decide) fl_X9_45 dX9_takeNumber_19 ?_
    refine ck_iconst (v := 2) dX9_takeNumber_22 (by decide) ?_
    refine ck_icmp_eq (tgt := 31) dX9_takeNumber_23 (by decide) (fun c9 => ?_) (fun c9 => ?_)
    · have hq := hq.1 c9
      refine ck_loc [1, 2, 3, 0] rfl ?_
      exact cp_X9_takeNumber_31 _ _ _ _ hq
    · have hq := hq.2 c9
      refine ck_aload_n 1 dX9_takeNumber_26 rfl rfl ?_
      refine ck_iconst (v := 1) dX9_takeNumber_27 (by decide) ?_
      refine ck_putI clX9 2 rfl rfl (by decide) fl_X9_38 rfl rfl rfl dX9_takeNumber_28 ?_
      refine ck_nmH (fun h10 eh10 => ?_)
      have hq := hq h10 eh10
      refine ck_loc [1, 2, 3, 0] rfl ?_
      exact cp_X9_takeNumber_31 _ _ _ _ hq
def wp_X9_readJudge_24 (Q : ck_H → Prop) (x2 : Int32) (y1 : Int32) (h : ck_H) : Prop := (wp_X9_takeWord y1 h (fun h5 => (wp_X9_takeNewName 54 h5 (fun r7 h6 => (wp_X9_takeNumber (1 : Int32) (99 : Int32) h6 (fun r9 h8 => (wp_X9_takeNumber (0 : Int32) (9 : Int32) h8 (fun r11 h10 => ((¬ (h10.1 2 2) = 0 → Q h10) ∧ ((h10.1 2 2) = 0 → (wp_X5_add 54 r7 h10 (fun h13 => (vp_in x2 4 ∧ (∀ h15, h15 = ck_sI h13 56 x2.toNatClampNeg r9 → (vp_in x2 4 ∧ (∀ h17, h17 = ck_sI h15 57 x2.toNatClampNeg r11 → Q h17))))))))))))))))
def wp_X9_readJudge (h : ck_H) (Q : ck_H → Prop) : Prop := (∀ v1, v1 = (h.1 54 1) → (wp_X5_isFull 54 h (fun r3 h2 => ((r3 = 0 → wp_X9_readJudge_24 Q v1 (0 : Int32) h2) ∧ (¬ r3 = 0 → wp_X9_readJudge_24 Q v1 (2 : Int32) h2)))))
set_option maxHeartbeats 4000000 in
set_option maxRecDepth 100000 in
theorem cp_X9_readJudge_24 {gr : Bool} {Q : ck_H → Prop} : ∀ (x2 : Int32) (y1 : Int32) (h : ck_H), wp_X9_readJudge_24 Q x2 y1 h → ck_W cX9_readJudge 6 RX9 none 5 0 0 false gr (ck_Qv ck_shX Q) ck_shX h 0 0 24 [(0, .ref 2), (1, .ref 53), (2, .int x2)] [.int y1, .ref 2] := by
  intro x2 y1 h hq
  refine ck_callV (c_X9_takeWord hq) rfl cal_X9_takeWord rfl ml_X9_92 vir_X9_takeWord rfl rfl (by decide) (Nat.le_of_ble_eq_true rfl) (Nat.le_of_ble_eq_true rfl) (by decide) (by decide) dX9_readJudge_24 ?_
  rintro _ _ h5 ⟨rfl, rfl, hq⟩
  refine ck_aload_n 0 dX9_readJudge_27 rfl rfl ?_
  refine ck_aload_n 1 dX9_readJudge_28 rfl rfl ?_
  refine ck_getRN clX7 0 rfl rfl (by decide) fl_X9_79 dX9_readJudge_29 ?_
  refine ck_callV (c_X9_takeNewName (by simp) hq) rfl cal_X9_takeNewName rfl ml_X9_95 vir_X9_takeNewName rfl rfl (by decide) (Nat.le_of_ble_eq_true rfl) (Nat.le_of_ble_eq_true rfl) (by decide) (by decide) dX9_readJudge_32 ?_
  rintro _ _ h6 ⟨r7, rfl, rfl, hq⟩
  refine ck_istore_n (lv' := [(3, .int r7), (0, .ref 2), (1, .ref 53), (2, .int x2)]) dX9_readJudge_35 rfl (by decide) rfl ?_
  refine ck_aload_n 1 dX9_readJudge_36 rfl rfl ?_
  refine ck_iconst (v := 1) dX9_readJudge_37 (by decide) ?_
  refine ck_bipush (v := 99) dX9_readJudge_38 (by decide) ?_
  refine ck_callV (c_X9_takeNumber hq) rfl cal_X9_takeNumber rfl ml_X9_99 vir_X9_takeNumber rfl rfl (by decide) (Nat.le_of_ble_eq_true rfl) (Nat.le_of_ble_eq_true rfl) (by decide) (by decide) dX9_readJudge_40 ?_
  rintro _ _ h8 ⟨r9, rfl, rfl, hq⟩
  refine ck_istore (lv' := [(4, .int r9), (3, .int r7), (0, .ref 2), (1, .ref 53), (2, .int x2)]) dX9_readJudge_43 (by decide) rfl ?_
  refine ck_aload_n 2 dX9_readJudge_45 rfl rfl ?_
  refine ck_iconst (v := 0) dX9_readJudge_46 (by decide) ?_
  refine ck_bipush (v := 9) dX9_readJudge_47 (by decide) ?_
  refine ck_callV (c_X9_takeNumber hq) rfl cal_X9_takeNumber rfl ml_X9_99 vir_X9_takeNumber rfl rfl (by decide) (Nat.le_of_ble_eq_true rfl) (Nat.le_of_ble_eq_true rfl) (by decide) (by decide) dX9_readJudge_49 ?_
  rintro _ _ h10 ⟨r11, rfl, rfl, hq⟩
  refine ck_istore (lv' := [(5, .int r11), (4, .int r9), (3, .int r7), (0, .ref 2), (1, .ref 53), (2, .int x2)]) dX9_readJudge_52 (by decide) rfl ?_
  refine ck_aload_n 3 dX9_readJudge_54 rfl rfl ?_
  refine ck_getI clX9 2 rfl rfl (by decide) fl_X9_38 dX9_readJudge_55 ?_
  refine ck_if_ne (tgt := 85) dX9_readJudge_58 (by decide) (fun c12 => ?_) (fun c12 => ?_)
  · have hq := hq.1 c12
    exact ck_vret rfl rfl rfl dX9_readJudge_85 ⟨rfl, rfl, hq⟩
  · have hq := hq.2 c12
    refine ck_aload_n 4 dX9_readJudge_61 rfl rfl ?_
    refine ck_getRN clX7 0 rfl rfl (by decide) fl_X9_79 dX9_readJudge_62 ?_
    refine ck_iload_n 2 dX9_readJudge_65 rfl rfl ?_
    refine ck_callV (c_X5_add (by simp) hq) rfl cal_X5_add rfl ml_X9_103 vir_X5_add rfl rfl (by decide) (Nat.le_of_ble_eq_true rfl) (Nat.le_of_ble_eq_true rfl) (by decide) (by decide) dX9_readJudge_66 ?_
    rintro _ _ h13 ⟨rfl, rfl, hq⟩
    refine ck_aload_n 4 dX9_readJudge_69 rfl rfl ?_
    refine ck_getRN clX7 1 rfl rfl (by decide) fl_X9_106 dX9_readJudge_70 ?_
    refine ck_iload_n 5 dX9_readJudge_73 rfl rfl ?_
    refine ck_iload 1 dX9_readJudge_74 rfl ?_
    obtain ⟨b14, hq⟩ := hq
    refine ck_iast rfl rfl b14 dX9_readJudge_76 ?_
    refine ck_nmH (fun h15 eh15 => ?_)
    have hq := hq h15 eh15
    refine ck_aload_n 4 dX9_readJudge_77 rfl rfl ?_
    refine ck_getRN clX7 2 rfl rfl (by decide) fl_X9_110 dX9_readJudge_78 ?_
    refine ck_iload_n 5 dX9_readJudge_81 rfl rfl ?_
    refine ck_iload 0 dX9_readJudge_82 rfl ?_
    obtain ⟨b16, hq⟩ := hq
    refine ck_iast rfl rfl b16 dX9_readJudge_84 ?_
    refine ck_nmH (fun h17 eh17 => ?_)
    have hq := hq h17 eh17
    exact ck_vret rfl rfl rfl dX9_readJudge_85 ⟨rfl, rfl, hq⟩
set_option maxHeartbeats 4000000 in
set_option maxRecDepth 100000 in
theorem c_X9_readJudge {gr : Bool} {h : ck_H} {Q : ck_H → Prop} (hq : wp_X9_readJudge h Q) : ck_M yX9_readJudge cX9_readJudge 6 none 5 0 0 gr ck_shX h [.ref 2, .ref 53] (ck_Qv ck_shX Q) := by
  refine ck_entry (lv := [(0, .ref 2), (1, .ref 53)]) false (own := RX9) rfl (fun q => by cases q) (by decide) (Nat.le_of_ble_eq_true rfl) rfl ?_
  refine ck_aload_n 1 dX9_readJudge_0 rfl rfl ?_
  refine ck_getRN clX7 0 rfl rfl (by decide) fl_X9_79 dX9_readJudge_1 ?_
  refine ck_getIN clX5 1 rfl rfl (by decide) fl_X9_83 dX9_readJudge_4 ?_
  refine ck_nmI (fun v1 ev1 => ?_)
  have hq := hq v1 ev1
  refine ck_istore_n (lv' := [(2, .int v1), (0, .ref 2), (1, .ref 53)]) dX9_readJudge_7 rfl (by decide) rfl ?_
  refine ck_aload_n 1 dX9_readJudge_8 rfl rfl ?_
  refine ck_aload_n 2 dX9_readJudge_9 rfl rfl ?_
  refine ck_getRN clX7 0 rfl rfl (by decide) fl_X9_79 dX9_readJudge_10 ?_
  refine ck_callV (c_X5_isFull (by simp) hq) rfl cal_X5_isFull rfl ml_X9_88 vir_X5_isFull rfl rfl (by decide) (Nat.le_of_ble_eq_true rfl) (Nat.le_of_ble_eq_true rfl) (by decide) (by decide) dX9_readJudge_13 ?_
  rintro _ _ h2 ⟨r3, rfl, rfl, hq⟩
  refine ck_if_eq (tgt := 23) dX9_readJudge_16 (by decide) (fun c4 => ?_) (fun c4 => ?_)
  · have hq := hq.1 c4
    refine ck_iconst (v := 0) dX9_readJudge_23 (by decide) ?_
    refine ck_loc [1, 2, 0] rfl ?_
    exact cp_X9_readJudge_24 _ _ _ hq
  · have hq := hq.2 c4
    refine ck_iconst (v := 2) dX9_readJudge_19 (by decide) ?_
    refine ck_goto (tgt := 24) dX9_readJudge_20 (by decide) ?_
    refine ck_loc [1, 2, 0] rfl ?_
    exact cp_X9_readJudge_24 _ _ _ hq
def wp_X9_readNut_24 (Q : ck_H → Prop) (x2 : Int32) (y1 : Int32) (h : ck_H) : Prop := (wp_X9_takeWord y1 h (fun h5 => (wp_X9_takeNewName 58 h5 (fun r7 h6 => (wp_X9_takeNumber (0 : Int32) (99 : Int32) h6 (fun r9 h8 => (wp_X9_takeNumber (0 : Int32) (99 : Int32) h8 (fun r11 h10 => (wp_X9_takeNumber (0 : Int32) (9 : Int32) h10 (fun r13 h12 => ((¬ (h12.1 2 2) = 0 → Q h12) ∧ ((h12.1 2 2) = 0 → (wp_X5_add 58 r7 h12 (fun h15 => (vp_in x2 6 ∧ (∀ h17, h17 = ck_sI h15 60 x2.toNatClampNeg r9 → (vp_in x2 6 ∧ (∀ h19, h19 = ck_sI h17 61 x2.toNatClampNeg r11 → (vp_in x2 6 ∧ (∀ h21, h21 = ck_sI h19 62 x2.toNatClampNeg r13 → Q h21))))))))))))))))))))
def wp_X9_readNut (h : ck_H) (Q : ck_H → Prop) : Prop := (∀ v1, v1 = (h.1 58 1) → (wp_X5_isFull 58 h (fun r3 h2 => ((r3 = 0 → wp_X9_readNut_24 Q v1 (0 : Int32) h2) ∧ (¬ r3 = 0 → wp_X9_readNut_24 Q v1 (2 : Int32) h2)))))
set_option maxHeartbeats 4000000 in
set_option maxRecDepth 100000 in
theorem cp_X9_readNut_24 {gr : Bool} {Q : ck_H → Prop} : ∀ (x2 : Int32) (y1 : Int32) (h : ck_H), wp_X9_readNut_24 Q x2 y1 h → ck_W cX9_readNut 7 RX9 none 5 0 0 false gr (ck_Qv ck_shX Q) ck_shX h 0 0 24 [(0, .ref 2), (1, .ref 53), (2, .int x2)] [.int y1, .ref 2] := by
  intro x2 y1 h hq
  refine ck_callV (c_X9_takeWord hq) rfl cal_X9_takeWord rfl ml_X9_92 vir_X9_takeWord rfl rfl (by decide) (Nat.le_of_ble_eq_true rfl) (Nat.le_of_ble_eq_true rfl) (by decide) (by decide) dX9_readNut_24 ?_
  rintro _ _ h5 ⟨rfl, rfl, hq⟩
  refine ck_aload_n 0 dX9_readNut_27 rfl rfl ?_
  refine ck_aload_n 1 dX9_readNut_28 rfl rfl ?_
  refine ck_getRN clX7 3 rfl rfl (by decide) fl_X9_113 dX9_readNut_29 ?_
  refine ck_callV (c_X9_takeNewName (by simp) hq) rfl cal_X9_takeNewName rfl ml_X9_95 vir_X9_takeNewName rfl rfl (by decide) (Nat.le_of_ble_eq_true rfl) (Nat.le_of_ble_eq_true rfl) (by decide) (by decide) dX9_readNut_32 ?_
  rintro _ _ h6 ⟨r7, rfl, rfl, hq⟩
  refine ck_istore_n (lv' := [(3, .int r7), (0, .ref 2), (1, .ref 53), (2, .int x2)]) dX9_readNut_35 rfl (by decide) rfl ?_
  refine ck_aload_n 1 dX9_readNut_36 rfl rfl ?_
  refine ck_iconst (v := 0) dX9_readNut_37 (by decide) ?_
  refine ck_bipush (v := 99) dX9_readNut_38 (by decide) ?_
  refine ck_callV (c_X9_takeNumber hq) rfl cal_X9_takeNumber rfl ml_X9_99 vir_X9_takeNumber rfl rfl (by decide) (Nat.le_of_ble_eq_true rfl) (Nat.le_of_ble_eq_true rfl) (by decide) (by decide) dX9_readNut_40 ?_
  rintro _ _ h8 ⟨r9, rfl, rfl, hq⟩
  refine ck_istore (lv' := [(4, .int r9), (3, .int r7), (0, .ref 2), (1, .ref 53), (2, .int x2)]) dX9_readNut_43 (by decide) rfl ?_
  refine ck_aload_n 2 dX9_readNut_45 rfl rfl ?_
  refine ck_iconst (v := 0) dX9_readNut_46 (by decide) ?_
  refine ck_bipush (v := 99) dX9_readNut_47 (by decide) ?_
  refine ck_callV (c_X9_takeNumber hq) rfl cal_X9_takeNumber rfl ml_X9_99 vir_X9_takeNumber rfl rfl (by decide) (Nat.le_of_ble_eq_true rfl) (Nat.le_of_ble_eq_true rfl) (by decide) (by decide) dX9_readNut_49 ?_
  rintro _ _ h10 ⟨r11, rfl, rfl, hq⟩
  refine ck_istore (lv' := [(5, .int r11), (4, .int r9), (3, .int r7), (0, .ref 2), (1, .ref 53), (2, .int x2)]) dX9_readNut_52 (by decide) rfl ?_
  refine ck_aload_n 3 dX9_readNut_54 rfl rfl ?_
  refine ck_iconst (v := 0) dX9_readNut_55 (by decide) ?_
  refine ck_bipush (v := 9) dX9_readNut_56 (by decide) ?_
  refine ck_callV (c_X9_takeNumber hq) rfl cal_X9_takeNumber rfl ml_X9_99 vir_X9_takeNumber rfl rfl (by decide) (Nat.le_of_ble_eq_true rfl) (Nat.le_of_ble_eq_true rfl) (by decide) (by decide) dX9_readNut_58 ?_
  rintro _ _ h12 ⟨r13, rfl, rfl, hq⟩
  refine ck_istore (lv' := [(6, .int r13), (5, .int r11), (4, .int r9), (3, .int r7), (0, .ref 2), (1, .ref 53), (2, .int x2)]) dX9_readNut_61 (by decide) rfl ?_
  refine ck_aload_n 4 dX9_readNut_63 rfl rfl ?_
  refine ck_getI clX9 2 rfl rfl (by decide) fl_X9_38 dX9_readNut_64 ?_
  refine ck_if_ne (tgt := 102) dX9_readNut_67 (by decide) (fun c14 => ?_) (fun c14 => ?_)
  · have hq := hq.1 c14
    exact ck_vret rfl rfl rfl dX9_readNut_102 ⟨rfl, rfl, hq⟩
  · have hq := hq.2 c14
    refine ck_aload_n 5 dX9_readNut_70 rfl rfl ?_
    refine ck_getRN clX7 3 rfl rfl (by decide) fl_X9_113 dX9_readNut_71 ?_
    refine ck_iload_n 3 dX9_readNut_74 rfl rfl ?_
    refine ck_callV (c_X5_add (by simp) hq) rfl cal_X5_add rfl ml_X9_103 vir_X5_add rfl rfl (by decide) (Nat.le_of_ble_eq_true rfl) (Nat.le_of_ble_eq_true rfl) (by decide) (by decide) dX9_readNut_75 ?_
    rintro _ _ h15 ⟨rfl, rfl, hq⟩
    refine ck_aload_n 5 dX9_readNut_78 rfl rfl ?_
    refine ck_getRN clX7 4 rfl rfl (by decide) fl_X9_116 dX9_readNut_79 ?_
    refine ck_iload_n 6 dX9_readNut_82 rfl rfl ?_
    refine ck_iload 2 dX9_readNut_83 rfl ?_
    obtain ⟨b16, hq⟩ := hq
    refine ck_iast rfl rfl b16 dX9_readNut_85 ?_
    refine ck_nmH (fun h17 eh17 => ?_)
    have hq := hq h17 eh17
    refine ck_aload_n 5 dX9_readNut_86 rfl rfl ?_
    refine ck_getRN clX7 5 rfl rfl (by decide) fl_X9_119 dX9_readNut_87 ?_
    refine ck_iload_n 6 dX9_readNut_90 rfl rfl ?_
    refine ck_iload 1 dX9_readNut_91 rfl ?_
    obtain ⟨b18, hq⟩ := hq
    refine ck_iast rfl rfl b18 dX9_readNut_93 ?_
    refine ck_nmH (fun h19 eh19 => ?_)
    have hq := hq h19 eh19
    refine ck_aload_n 5 dX9_readNut_94 rfl rfl ?_
    refine ck_getRN clX7 6 rfl rfl (by decide) fl_X9_122 dX9_readNut_95 ?_
    refine ck_iload_n 6 dX9_readNut_98 rfl rfl ?_
    refine ck_iload 0 dX9_readNut_99 rfl ?_
    obtain ⟨b20, hq⟩ := hq
    refine ck_iast rfl rfl b20 dX9_readNut_101 ?_
    refine ck_nmH (fun h21 eh21 => ?_)
    have hq := hq h21 eh21
    exact ck_vret rfl rfl rfl dX9_readNut_102 ⟨rfl, rfl, hq⟩
set_option maxHeartbeats 4000000 in
set_option maxRecDepth 100000 in
theorem c_X9_readNut {gr : Bool} {h : ck_H} {Q : ck_H → Prop} (hq : wp_X9_readNut h Q) : ck_M yX9_readNut cX9_readNut 7 none 5 0 0 gr ck_shX h [.ref 2, .ref 53] (ck_Qv ck_shX Q) := by
  refine ck_entry (lv := [(0, .ref 2), (1, .ref 53)]) false (own := RX9) rfl (fun q => by cases q) (by decide) (Nat.le_of_ble_eq_true rfl) rfl ?_
  refine ck_aload_n 1 dX9_readNut_0 rfl rfl ?_
  refine ck_getRN clX7 3 rfl rfl (by decide) fl_X9_113 dX9_readNut_1 ?_
  refine ck_getIN clX5 1 rfl rfl (by decide) fl_X9_83 dX9_readNut_4 ?_
  refine ck_nmI (fun v1 ev1 => ?_)
  have hq := hq v1 ev1
  refine ck_istore_n (lv' := [(2, .int v1), (0, .ref 2), (1, .ref 53)]) dX9_readNut_7 rfl (by decide) rfl ?_
  refine ck_aload_n 1 dX9_readNut_8 rfl rfl ?_
  refine ck_aload_n 2 dX9_readNut_9 rfl rfl ?_
  refine ck_getRN clX7 3 rfl rfl (by decide) fl_X9_113 dX9_readNut_10 ?_
  refine ck_callV (c_X5_isFull (by simp) hq) rfl cal_X5_isFull rfl ml_X9_88 vir_X5_isFull rfl rfl (by decide) (Nat.le_of_ble_eq_true rfl) (Nat.le_of_ble_eq_true rfl) (by decide) (by decide) dX9_readNut_13 ?_
  rintro _ _ h2 ⟨r3, rfl, rfl, hq⟩
  refine ck_if_eq (tgt := 23) dX9_readNut_16 (by decide) (fun c4 => ?_) (fun c4 => ?_)
  · have hq := hq.1 c4
    refine ck_iconst (v := 0) dX9_readNut_23 (by decide) ?_
    refine ck_loc [1, 2, 0] rfl ?_
    exact cp_X9_readNut_24 _ _ _ hq
  · have hq := hq.2 c4
    refine ck_iconst (v := 2) dX9_readNut_19 (by decide) ?_
    refine ck_goto (tgt := 24) dX9_readNut_20 (by decide) ?_
    refine ck_loc [1, 2, 0] rfl ?_
    exact cp_X9_readNut_24 _ _ _ hq
def wp_X9_takeToldName_52 (Q : Int32 → ck_H → Prop) (o1 : Nat) (x2 : Int32) (h : ck_H) : Prop := ((¬ (h.1 2 2) = 0 → Q x2 h) ∧ ((h.1 2 2) = 0 → (wp_X8_next h (fun h6 => Q x2 h6))))
def wp_X9_takeToldName_35 (Q : Int32 → ck_H → Prop) (o1 : Nat) (x2 : Int32) (h : ck_H) : Prop := ((¬ (h.1 2 2) = 0 → wp_X9_takeToldName_52 Q o1 x2 h) ∧ ((h.1 2 2) = 0 → ((¬ x2 = (-1 : Int32) → wp_X9_takeToldName_52 Q o1 x2 h) ∧ (x2 = (-1 : Int32) → (∀ h12, h12 = ck_sI h 2 2 (4 : Int32) → wp_X9_takeToldName_52 Q o1 x2 h12)))))
def wp_X9_takeToldName (o1 : Nat) (h : ck_H) (Q : Int32 → ck_H → Prop) : Prop := (wp_X5_find o1 (h.1 3 7) h (fun r2 h1 => ((¬ (h1.1 2 2) = 0 → wp_X9_takeToldName_35 Q o1 r2 h1) ∧ ((h1.1 2 2) = 0 → (((h1.1 3 4) = (3 : Int32) → wp_X9_takeToldName_35 Q o1 r2 h1) ∧ (¬ (h1.1 3 4) = (3 : Int32) → (∀ h20, h20 = ck_sI h1 2 2 (1 : Int32) → wp_X9_takeToldName_35 Q o1 r2 h20)))))))
set_option maxHeartbeats 4000000 in
set_option maxRecDepth 100000 in
theorem cp_X9_takeToldName_52 {gr : Bool} {Q : Int32 → ck_H → Prop} {o1 : Nat} (hc : (o1 = 54) ∨ (o1 = 58)) : ∀ (x2 : Int32) (h : ck_H), wp_X9_takeToldName_52 Q o1 x2 h → ck_W cX9_takeToldName 3 RX9 (some .int) 4 0 0 false gr (ck_Qi ck_shX Q) ck_shX h 0 0 52 [(0, .ref 2), (2, .int x2)] [] := by
  rcases hc with rfl | rfl
  · intro x2 h hq
    refine ck_aload_n 0 dX9_takeToldName_52 rfl rfl ?_
    refine ck_getI clX9 2 rfl rfl (by decide) fl_X9_38 dX9_takeToldName_53 ?_
    refine ck_if_ne (tgt := 66) dX9_takeToldName_56 (by decide) (fun c7 => ?_) (fun c7 => ?_)
    · have hq := hq.1 c7
      refine ck_iload_n 1 dX9_takeToldName_66 rfl rfl ?_
      exact ck_iret rfl rfl rfl rfl dX9_takeToldName_67 ⟨_, rfl, rfl, hq⟩
    · have hq := hq.2 c7
      refine ck_aload_n 0 dX9_takeToldName_59 rfl rfl ?_
      refine ck_getR clX9 0 rfl rfl (by decide) fl_X9_14 dX9_takeToldName_60 ?_
      refine ck_callV (c_X8_next hq) rfl cal_X8_next rfl ml_X9_55 vir_X8_next rfl rfl (by decide) (Nat.le_of_ble_eq_true rfl) (Nat.le_of_ble_eq_true rfl) (by decide) (by decide) dX9_takeToldName_63 ?_
      rintro _ _ h8 ⟨rfl, rfl, hq⟩
      refine ck_iload_n 1 dX9_takeToldName_66 rfl rfl ?_
      exact ck_iret rfl rfl rfl rfl dX9_takeToldName_67 ⟨_, rfl, rfl, hq⟩
  · intro x2 h hq
    refine ck_aload_n 0 dX9_takeToldName_52 rfl rfl ?_
    refine ck_getI clX9 2 rfl rfl (by decide) fl_X9_38 dX9_takeToldName_53 ?_
    refine ck_if_ne (tgt := 66) dX9_takeToldName_56 (by decide) (fun c9 => ?_) (fun c9 => ?_)
    · have hq := hq.1 c9
      refine ck_iload_n 1 dX9_takeToldName_66 rfl rfl ?_
      exact ck_iret rfl rfl rfl rfl dX9_takeToldName_67 ⟨_, rfl, rfl, hq⟩
    · have hq := hq.2 c9
      refine ck_aload_n 0 dX9_takeToldName_59 rfl rfl ?_
      refine ck_getR clX9 0 rfl rfl (by decide) fl_X9_14 dX9_takeToldName_60 ?_
      refine ck_callV (c_X8_next hq) rfl cal_X8_next rfl ml_X9_55 vir_X8_next rfl rfl (by decide) (Nat.le_of_ble_eq_true rfl) (Nat.le_of_ble_eq_true rfl) (by decide) (by decide) dX9_takeToldName_63 ?_
      rintro _ _ h10 ⟨rfl, rfl, hq⟩
      refine ck_iload_n 1 dX9_takeToldName_66 rfl rfl ?_
      exact ck_iret rfl rfl rfl rfl dX9_takeToldName_67 ⟨_, rfl, rfl, hq⟩
set_option maxHeartbeats 4000000 in
set_option maxRecDepth 100000 in
theorem cp_X9_takeToldName_35 {gr : Bool} {Q : Int32 → ck_H → Prop} {o1 : Nat} (hc : (o1 = 54) ∨ (o1 = 58)) : ∀ (x2 : Int32) (h : ck_H), wp_X9_takeToldName_35 Q o1 x2 h → ck_W cX9_takeToldName 3 RX9 (some .int) 4 0 0 false gr (ck_Qi ck_shX Q) ck_shX h 0 0 35 [(0, .ref 2), (2, .int x2)] [] := by
  rcases hc with rfl | rfl
  · intro x2 h hq
    refine ck_aload_n 0 dX9_takeToldName_35 rfl rfl ?_
    refine ck_getI clX9 2 rfl rfl (by decide) fl_X9_38 dX9_takeToldName_36 ?_
    refine ck_if_ne (tgt := 52) dX9_takeToldName_39 (by decide) (fun c13 => ?_) (fun c13 => ?_)
    · have hq := hq.1 c13
      exact cp_X9_takeToldName_52 (by simp) _ _ hq
    · have hq := hq.2 c13
      refine ck_iload_n 1 dX9_takeToldName_42 rfl rfl ?_
      refine ck_iconst (v := -1) dX9_takeToldName_43 (by decide) ?_
      refine ck_icmp_ne (tgt := 52) dX9_takeToldName_44 (by decide) (fun c14 => ?_) (fun c14 => ?_)
      · have hq := hq.1 c14
        exact cp_X9_takeToldName_52 (by simp) _ _ hq
      · have hq := hq.2 c14
        refine ck_aload_n 0 dX9_takeToldName_47 rfl rfl ?_
        refine ck_iconst (v := 4) dX9_takeToldName_48 (by decide) ?_
        refine ck_putI clX9 2 rfl rfl (by decide) fl_X9_38 rfl rfl rfl dX9_takeToldName_49 ?_
        refine ck_nmH (fun h15 eh15 => ?_)
        have hq := hq h15 eh15
        exact cp_X9_takeToldName_52 (by simp) _ _ hq
  · intro x2 h hq
    refine ck_aload_n 0 dX9_takeToldName_35 rfl rfl ?_
    refine ck_getI clX9 2 rfl rfl (by decide) fl_X9_38 dX9_takeToldName_36 ?_
    refine ck_if_ne (tgt := 52) dX9_takeToldName_39 (by decide) (fun c16 => ?_) (fun c16 => ?_)
    · have hq := hq.1 c16
      exact cp_X9_takeToldName_52 (by simp) _ _ hq
    · have hq := hq.2 c16
      refine ck_iload_n 1 dX9_takeToldName_42 rfl rfl ?_
      refine ck_iconst (v := -1) dX9_takeToldName_43 (by decide) ?_
      refine ck_icmp_ne (tgt := 52) dX9_takeToldName_44 (by decide) (fun c17 => ?_) (fun c17 => ?_)
      · have hq := hq.1 c17
        exact cp_X9_takeToldName_52 (by simp) _ _ hq
      · have hq := hq.2 c17
        refine ck_aload_n 0 dX9_takeToldName_47 rfl rfl ?_
        refine ck_iconst (v := 4) dX9_takeToldName_48 (by decide) ?_
        refine ck_putI clX9 2 rfl rfl (by decide) fl_X9_38 rfl rfl rfl dX9_takeToldName_49 ?_
        refine ck_nmH (fun h18 eh18 => ?_)
        have hq := hq h18 eh18
        exact cp_X9_takeToldName_52 (by simp) _ _ hq
set_option maxHeartbeats 4000000 in
set_option maxRecDepth 100000 in
theorem c_X9_takeToldName {gr : Bool} {h : ck_H} {Q : Int32 → ck_H → Prop} {o1 : Nat} (hc : (o1 = 54) ∨ (o1 = 58)) (hq : wp_X9_takeToldName o1 h Q) : ck_M yX9_takeToldName cX9_takeToldName 3 (some .int) 4 0 0 gr ck_shX h [.ref 2, .ref o1] (ck_Qi ck_shX Q) := by
  rcases hc with rfl | rfl
  · refine ck_entry (lv := [(0, .ref 2), (1, .ref 54)]) false (own := RX9) rfl (fun q => by cases q) (by decide) (Nat.le_of_ble_eq_true rfl) rfl ?_
    refine ck_aload_n 1 dX9_takeToldName_0 rfl rfl ?_
    refine ck_aload_n 0 dX9_takeToldName_1 rfl rfl ?_
    refine ck_getR clX9 0 rfl rfl (by decide) fl_X9_14 dX9_takeToldName_2 ?_
    refine ck_getIN clX8 7 rfl rfl (by decide) fl_X9_171 dX9_takeToldName_5 ?_
    refine ck_callV (c_X5_find (by simp) hq) rfl cal_X5_find rfl ml_X9_174 vir_X5_find rfl rfl (by decide) (Nat.le_of_ble_eq_true rfl) (Nat.le_of_ble_eq_true rfl) (by decide) (by decide) dX9_takeToldName_8 ?_
    rintro _ _ h21 ⟨r22, rfl, rfl, hq⟩
    refine ck_istore_n (lv' := [(2, .int r22), (0, .ref 2), (1, .ref 54)]) dX9_takeToldName_11 rfl (by decide) rfl ?_
    refine ck_aload_n 1 dX9_takeToldName_12 rfl rfl ?_
    refine ck_getI clX9 2 rfl rfl (by decide) fl_X9_38 dX9_takeToldName_13 ?_
    refine ck_if_ne (tgt := 35) dX9_takeToldName_16 (by decide) (fun c23 => ?_) (fun c23 => ?_)
    · have hq := hq.1 c23
      refine ck_loc [1, 0] rfl ?_
      exact cp_X9_takeToldName_35 (by simp) _ _ hq
    · have hq := hq.2 c23
      refine ck_aload_n 1 dX9_takeToldName_19 rfl rfl ?_
      refine ck_getR clX9 0 rfl rfl (by decide) fl_X9_14 dX9_takeToldName_20 ?_
      refine ck_getIN clX8 4 rfl rfl (by decide) fl_X9_45 dX9_takeToldName_23 ?_
      refine ck_iconst (v := 3) dX9_takeToldName_26 (by decide) ?_
      refine ck_icmp_eq (tgt := 35) dX9_takeToldName_27 (by decide) (fun c24 => ?_) (fun c24 => ?_)
      · have hq := hq.1 c24
        refine ck_loc [1, 0] rfl ?_
        exact cp_X9_takeToldName_35 (by simp) _ _ hq
      · have hq := hq.2 c24
        refine ck_aload_n 1 dX9_takeToldName_30 rfl rfl ?_
        refine ck_iconst (v := 1) dX9_takeToldName_31 (by decide) ?_
        refine ck_putI clX9 2 rfl rfl (by decide) fl_X9_38 rfl rfl rfl dX9_takeToldName_32 ?_
        refine ck_nmH (fun h25 eh25 => ?_)
        have hq := hq h25 eh25
        refine ck_loc [1, 0] rfl ?_
        exact cp_X9_takeToldName_35 (by simp) _ _ hq
  · refine ck_entry (lv := [(0, .ref 2), (1, .ref 58)]) false (own := RX9) rfl (fun q => by cases q) (by decide) (Nat.le_of_ble_eq_true rfl) rfl ?_
    refine ck_aload_n 1 dX9_takeToldName_0 rfl rfl ?_
    refine ck_aload_n 0 dX9_takeToldName_1 rfl rfl ?_
    refine ck_getR clX9 0 rfl rfl (by decide) fl_X9_14 dX9_takeToldName_2 ?_
    refine ck_getIN clX8 7 rfl rfl (by decide) fl_X9_171 dX9_takeToldName_5 ?_
    refine ck_callV (c_X5_find (by simp) hq) rfl cal_X5_find rfl ml_X9_174 vir_X5_find rfl rfl (by decide) (Nat.le_of_ble_eq_true rfl) (Nat.le_of_ble_eq_true rfl) (by decide) (by decide) dX9_takeToldName_8 ?_
    rintro _ _ h26 ⟨r27, rfl, rfl, hq⟩
    refine ck_istore_n (lv' := [(2, .int r27), (0, .ref 2), (1, .ref 58)]) dX9_takeToldName_11 rfl (by decide) rfl ?_
    refine ck_aload_n 1 dX9_takeToldName_12 rfl rfl ?_
    refine ck_getI clX9 2 rfl rfl (by decide) fl_X9_38 dX9_takeToldName_13 ?_
    refine ck_if_ne (tgt := 35) dX9_takeToldName_16 (by decide) (fun c28 => ?_) (fun c28 => ?_)
    · have hq := hq.1 c28
      refine ck_loc [1, 0] rfl ?_
      exact cp_X9_takeToldName_35 (by simp) _ _ hq
    · have hq := hq.2 c28
      refine ck_aload_n 1 dX9_takeToldName_19 rfl rfl ?_
      refine ck_getR clX9 0 rfl rfl (by decide) fl_X9_14 dX9_takeToldName_20 ?_
      refine ck_getIN clX8 4 rfl rfl (by decide) fl_X9_45 dX9_takeToldName_23 ?_
      refine ck_iconst (v := 3) dX9_takeToldName_26 (by decide) ?_
      refine ck_icmp_eq (tgt := 35) dX9_takeToldName_27 (by decide) (fun c29 => ?_) (fun c29 => ?_)
      · have hq := hq.1 c29
        refine ck_loc [1, 0] rfl ?_
        exact cp_X9_takeToldName_35 (by simp) _ _ hq
      · have hq := hq.2 c29
        refine ck_aload_n 1 dX9_takeToldName_30 rfl rfl ?_
        refine ck_iconst (v := 1) dX9_takeToldName_31 (by decide) ?_
        refine ck_putI clX9 2 rfl rfl (by decide) fl_X9_38 rfl rfl rfl dX9_takeToldName_32 ?_
        refine ck_nmH (fun h30 eh30 => ?_)
        have hq := hq h30 eh30
        refine ck_loc [1, 0] rfl ?_
        exact cp_X9_takeToldName_35 (by simp) _ _ hq
def wp_X9_readSuit_24 (Q : ck_H → Prop) (x2 : Int32) (y1 : Int32) (h : ck_H) : Prop := (wp_X9_takeWord y1 h (fun h5 => (wp_X9_takeNewName 63 h5 (fun r7 h6 => (wp_X9_takeToldName 54 h6 (fun r9 h8 => (wp_X9_takeToldName 58 h8 (fun r11 h10 => (wp_X9_takeNumber (0 : Int32) (99 : Int32) h10 (fun r13 h12 => ((¬ (h12.1 2 2) = 0 → Q h12) ∧ ((h12.1 2 2) = 0 → (wp_X5_add 63 r7 h12 (fun h15 => (vp_in x2 10 ∧ (∀ h17, h17 = ck_sI h15 65 x2.toNatClampNeg r9 → (vp_in x2 10 ∧ (∀ h19, h19 = ck_sI h17 66 x2.toNatClampNeg r11 → (vp_in x2 10 ∧ (∀ h21, h21 = ck_sI h19 67 x2.toNatClampNeg r13 → Q h21))))))))))))))))))))
def wp_X9_readSuit (h : ck_H) (Q : ck_H → Prop) : Prop := (∀ v1, v1 = (h.1 63 1) → (wp_X5_isFull 63 h (fun r3 h2 => ((r3 = 0 → wp_X9_readSuit_24 Q v1 (0 : Int32) h2) ∧ (¬ r3 = 0 → wp_X9_readSuit_24 Q v1 (2 : Int32) h2)))))
set_option maxHeartbeats 4000000 in
set_option maxRecDepth 100000 in
theorem cp_X9_readSuit_24 {gr : Bool} {Q : ck_H → Prop} : ∀ (x2 : Int32) (y1 : Int32) (h : ck_H), wp_X9_readSuit_24 Q x2 y1 h → ck_W cX9_readSuit 7 RX9 none 5 0 0 false gr (ck_Qv ck_shX Q) ck_shX h 0 0 24 [(0, .ref 2), (1, .ref 53), (2, .int x2)] [.int y1, .ref 2] := by
  intro x2 y1 h hq
  refine ck_callV (c_X9_takeWord hq) rfl cal_X9_takeWord rfl ml_X9_92 vir_X9_takeWord rfl rfl (by decide) (Nat.le_of_ble_eq_true rfl) (Nat.le_of_ble_eq_true rfl) (by decide) (by decide) dX9_readSuit_24 ?_
  rintro _ _ h5 ⟨rfl, rfl, hq⟩
  refine ck_aload_n 0 dX9_readSuit_27 rfl rfl ?_
  refine ck_aload_n 1 dX9_readSuit_28 rfl rfl ?_
  refine ck_getRN clX7 7 rfl rfl (by decide) fl_X9_125 dX9_readSuit_29 ?_
  refine ck_callV (c_X9_takeNewName (by simp) hq) rfl cal_X9_takeNewName rfl ml_X9_95 vir_X9_takeNewName rfl rfl (by decide) (Nat.le_of_ble_eq_true rfl) (Nat.le_of_ble_eq_true rfl) (by decide) (by decide) dX9_readSuit_32 ?_
  rintro _ _ h6 ⟨r7, rfl, rfl, hq⟩
  refine ck_istore_n (lv' := [(3, .int r7), (0, .ref 2), (1, .ref 53), (2, .int x2)]) dX9_readSuit_35 rfl (by decide) rfl ?_
  refine ck_aload_n 1 dX9_readSuit_36 rfl rfl ?_
  refine ck_aload_n 2 dX9_readSuit_37 rfl rfl ?_
  refine ck_getRN clX7 0 rfl rfl (by decide) fl_X9_79 dX9_readSuit_38 ?_
  refine ck_callV (c_X9_takeToldName (by simp) hq) rfl cal_X9_takeToldName rfl ml_X9_128 vir_X9_takeToldName rfl rfl (by decide) (Nat.le_of_ble_eq_true rfl) (Nat.le_of_ble_eq_true rfl) (by decide) (by decide) dX9_readSuit_41 ?_
  rintro _ _ h8 ⟨r9, rfl, rfl, hq⟩
  refine ck_istore (lv' := [(4, .int r9), (3, .int r7), (0, .ref 2), (1, .ref 53), (2, .int x2)]) dX9_readSuit_44 (by decide) rfl ?_
  refine ck_aload_n 2 dX9_readSuit_46 rfl rfl ?_
  refine ck_aload_n 3 dX9_readSuit_47 rfl rfl ?_
  refine ck_getRN clX7 3 rfl rfl (by decide) fl_X9_113 dX9_readSuit_48 ?_
  refine ck_callV (c_X9_takeToldName (by simp) hq) rfl cal_X9_takeToldName rfl ml_X9_128 vir_X9_takeToldName rfl rfl (by decide) (Nat.le_of_ble_eq_true rfl) (Nat.le_of_ble_eq_true rfl) (by decide) (by decide) dX9_readSuit_51 ?_
  rintro _ _ h10 ⟨r11, rfl, rfl, hq⟩
  refine ck_istore (lv' := [(5, .int r11), (4, .int r9), (3, .int r7), (0, .ref 2), (1, .ref 53), (2, .int x2)]) dX9_readSuit_54 (by decide) rfl ?_
  refine ck_aload_n 3 dX9_readSuit_56 rfl rfl ?_
  refine ck_iconst (v := 0) dX9_readSuit_57 (by decide) ?_
  refine ck_bipush (v := 99) dX9_readSuit_58 (by decide) ?_
  refine ck_callV (c_X9_takeNumber hq) rfl cal_X9_takeNumber rfl ml_X9_99 vir_X9_takeNumber rfl rfl (by decide) (Nat.le_of_ble_eq_true rfl) (Nat.le_of_ble_eq_true rfl) (by decide) (by decide) dX9_readSuit_60 ?_
  rintro _ _ h12 ⟨r13, rfl, rfl, hq⟩
  refine ck_istore (lv' := [(6, .int r13), (5, .int r11), (4, .int r9), (3, .int r7), (0, .ref 2), (1, .ref 53), (2, .int x2)]) dX9_readSuit_63 (by decide) rfl ?_
  refine ck_aload_n 4 dX9_readSuit_65 rfl rfl ?_
  refine ck_getI clX9 2 rfl rfl (by decide) fl_X9_38 dX9_readSuit_66 ?_
  refine ck_if_ne (tgt := 104) dX9_readSuit_69 (by decide) (fun c14 => ?_) (fun c14 => ?_)
  · have hq := hq.1 c14
    exact ck_vret rfl rfl rfl dX9_readSuit_104 ⟨rfl, rfl, hq⟩
  · have hq := hq.2 c14
    refine ck_aload_n 5 dX9_readSuit_72 rfl rfl ?_
    refine ck_getRN clX7 7 rfl rfl (by decide) fl_X9_125 dX9_readSuit_73 ?_
    refine ck_iload_n 3 dX9_readSuit_76 rfl rfl ?_
    refine ck_callV (c_X5_add (by simp) hq) rfl cal_X5_add rfl ml_X9_103 vir_X5_add rfl rfl (by decide) (Nat.le_of_ble_eq_true rfl) (Nat.le_of_ble_eq_true rfl) (by decide) (by decide) dX9_readSuit_77 ?_
    rintro _ _ h15 ⟨rfl, rfl, hq⟩
    refine ck_aload_n 5 dX9_readSuit_80 rfl rfl ?_
    refine ck_getRN clX7 8 rfl rfl (by decide) fl_X9_131 dX9_readSuit_81 ?_
    refine ck_iload_n 6 dX9_readSuit_84 rfl rfl ?_
    refine ck_iload 2 dX9_readSuit_85 rfl ?_
    obtain ⟨b16, hq⟩ := hq
    refine ck_iast rfl rfl b16 dX9_readSuit_87 ?_
    refine ck_nmH (fun h17 eh17 => ?_)
    have hq := hq h17 eh17
    refine ck_aload_n 5 dX9_readSuit_88 rfl rfl ?_
    refine ck_getRN clX7 9 rfl rfl (by decide) fl_X9_134 dX9_readSuit_89 ?_
    refine ck_iload_n 6 dX9_readSuit_92 rfl rfl ?_
    refine ck_iload 1 dX9_readSuit_93 rfl ?_
    obtain ⟨b18, hq⟩ := hq
    refine ck_iast rfl rfl b18 dX9_readSuit_95 ?_
    refine ck_nmH (fun h19 eh19 => ?_)
    have hq := hq h19 eh19
    refine ck_aload_n 5 dX9_readSuit_96 rfl rfl ?_
    refine ck_getRN clX7 10 rfl rfl (by decide) fl_X9_137 dX9_readSuit_97 ?_
    refine ck_iload_n 6 dX9_readSuit_100 rfl rfl ?_
    refine ck_iload 0 dX9_readSuit_101 rfl ?_
    obtain ⟨b20, hq⟩ := hq
    refine ck_iast rfl rfl b20 dX9_readSuit_103 ?_
    refine ck_nmH (fun h21 eh21 => ?_)
    have hq := hq h21 eh21
    exact ck_vret rfl rfl rfl dX9_readSuit_104 ⟨rfl, rfl, hq⟩
set_option maxHeartbeats 4000000 in
set_option maxRecDepth 100000 in
theorem c_X9_readSuit {gr : Bool} {h : ck_H} {Q : ck_H → Prop} (hq : wp_X9_readSuit h Q) : ck_M yX9_readSuit cX9_readSuit 7 none 5 0 0 gr ck_shX h [.ref 2, .ref 53] (ck_Qv ck_shX Q) := by
  refine ck_entry (lv := [(0, .ref 2), (1, .ref 53)]) false (own := RX9) rfl (fun q => by cases q) (by decide) (Nat.le_of_ble_eq_true rfl) rfl ?_
  refine ck_aload_n 1 dX9_readSuit_0 rfl rfl ?_
  refine ck_getRN clX7 7 rfl rfl (by decide) fl_X9_125 dX9_readSuit_1 ?_
  refine ck_getIN clX5 1 rfl rfl (by decide) fl_X9_83 dX9_readSuit_4 ?_
  refine ck_nmI (fun v1 ev1 => ?_)
  have hq := hq v1 ev1
  refine ck_istore_n (lv' := [(2, .int v1), (0, .ref 2), (1, .ref 53)]) dX9_readSuit_7 rfl (by decide) rfl ?_
  refine ck_aload_n 1 dX9_readSuit_8 rfl rfl ?_
  refine ck_aload_n 2 dX9_readSuit_9 rfl rfl ?_
  refine ck_getRN clX7 7 rfl rfl (by decide) fl_X9_125 dX9_readSuit_10 ?_
  refine ck_callV (c_X5_isFull (by simp) hq) rfl cal_X5_isFull rfl ml_X9_88 vir_X5_isFull rfl rfl (by decide) (Nat.le_of_ble_eq_true rfl) (Nat.le_of_ble_eq_true rfl) (by decide) (by decide) dX9_readSuit_13 ?_
  rintro _ _ h2 ⟨r3, rfl, rfl, hq⟩
  refine ck_if_eq (tgt := 23) dX9_readSuit_16 (by decide) (fun c4 => ?_) (fun c4 => ?_)
  · have hq := hq.1 c4
    refine ck_iconst (v := 0) dX9_readSuit_23 (by decide) ?_
    refine ck_loc [1, 2, 0] rfl ?_
    exact cp_X9_readSuit_24 _ _ _ hq
  · have hq := hq.2 c4
    refine ck_iconst (v := 2) dX9_readSuit_19 (by decide) ?_
    refine ck_goto (tgt := 24) dX9_readSuit_20 (by decide) ?_
    refine ck_loc [1, 2, 0] rfl ?_
    exact cp_X9_readSuit_24 _ _ _ hq
def wp_X9_readLever_13 (Q : ck_H → Prop) (y1 : Int32) (h : ck_H) : Prop := (wp_X9_takeWord y1 h (fun h2 => (wp_X9_takeNumber (1 : Int32) (99 : Int32) h2 (fun r4 h3 => (∀ h5, h5 = ck_sI h3 53 12 r4 → (∀ h6, h6 = ck_sI h5 53 14 (1 : Int32) → Q h6))))))
def wp_X9_readLever (h : ck_H) (Q : ck_H → Prop) : Prop := (((h.1 53 14) = 0 → wp_X9_readLever_13 Q (0 : Int32) h) ∧ (¬ (h.1 53 14) = 0 → wp_X9_readLever_13 Q (3 : Int32) h))
set_option maxHeartbeats 4000000 in
set_option maxRecDepth 100000 in
theorem cp_X9_readLever_13 {gr : Bool} {Q : ck_H → Prop} : ∀ (y1 : Int32) (h : ck_H), wp_X9_readLever_13 Q y1 h → ck_W cX9_readLever 2 RX9 none 5 0 0 false gr (ck_Qv ck_shX Q) ck_shX h 0 0 13 [(0, .ref 2), (1, .ref 53)] [.int y1, .ref 2] := by
  intro y1 h hq
  refine ck_callV (c_X9_takeWord hq) rfl cal_X9_takeWord rfl ml_X9_92 vir_X9_takeWord rfl rfl (by decide) (Nat.le_of_ble_eq_true rfl) (Nat.le_of_ble_eq_true rfl) (by decide) (by decide) dX9_readLever_13 ?_
  rintro _ _ h2 ⟨rfl, rfl, hq⟩
  refine ck_aload_n 1 dX9_readLever_16 rfl rfl ?_
  refine ck_aload_n 0 dX9_readLever_17 rfl rfl ?_
  refine ck_iconst (v := 1) dX9_readLever_18 (by decide) ?_
  refine ck_bipush (v := 99) dX9_readLever_19 (by decide) ?_
  refine ck_callV (c_X9_takeNumber hq) rfl cal_X9_takeNumber rfl ml_X9_99 vir_X9_takeNumber rfl rfl (by decide) (Nat.le_of_ble_eq_true rfl) (Nat.le_of_ble_eq_true rfl) (by decide) (by decide) dX9_readLever_21 ?_
  rintro _ _ h3 ⟨r4, rfl, rfl, hq⟩
  refine ck_putIN clX7 12 rfl rfl (by decide) fl_X9_144 rfl rfl rfl dX9_readLever_24 ?_
  refine ck_nmH (fun h5 eh5 => ?_)
  have hq := hq h5 eh5
  refine ck_aload_n 1 dX9_readLever_27 rfl rfl ?_
  refine ck_iconst (v := 1) dX9_readLever_28 (by decide) ?_
  refine ck_putIN clX7 14 rfl rfl (by decide) fl_X9_140 rfl (by decide) (by decide) dX9_readLever_29 ?_
  refine ck_nmH (fun h6 eh6 => ?_)
  have hq := hq h6 eh6
  exact ck_vret rfl rfl rfl dX9_readLever_32 ⟨rfl, rfl, hq⟩
set_option maxHeartbeats 4000000 in
set_option maxRecDepth 100000 in
theorem c_X9_readLever {gr : Bool} {h : ck_H} {Q : ck_H → Prop} (hq : wp_X9_readLever h Q) : ck_M yX9_readLever cX9_readLever 2 none 5 0 0 gr ck_shX h [.ref 2, .ref 53] (ck_Qv ck_shX Q) := by
  refine ck_entry (lv := [(0, .ref 2), (1, .ref 53)]) false (own := RX9) rfl (fun q => by cases q) (by decide) (Nat.le_of_ble_eq_true rfl) rfl ?_
  refine ck_aload_n 0 dX9_readLever_0 rfl rfl ?_
  refine ck_aload_n 1 dX9_readLever_1 rfl rfl ?_
  refine ck_getIN clX7 14 rfl rfl (by decide) fl_X9_140 dX9_readLever_2 ?_
  refine ck_if_eq (tgt := 12) dX9_readLever_5 (by decide) (fun c1 => ?_) (fun c1 => ?_)
  · have hq := hq.1 c1
    refine ck_iconst (v := 0) dX9_readLever_12 (by decide) ?_
    exact cp_X9_readLever_13 _ _ hq
  · have hq := hq.2 c1
    refine ck_iconst (v := 3) dX9_readLever_8 (by decide) ?_
    refine ck_goto (tgt := 13) dX9_readLever_9 (by decide) ?_
    exact cp_X9_readLever_13 _ _ hq
def wp_X9_readVacation_13 (Q : ck_H → Prop) (y1 : Int32) (h : ck_H) : Prop := (wp_X9_takeWord y1 h (fun h2 => (wp_X9_takeNumber (0 : Int32) (30 : Int32) h2 (fun r4 h3 => (∀ h5, h5 = ck_sI h3 53 13 r4 → (∀ h6, h6 = ck_sI h5 53 15 (1 : Int32) → Q h6))))))
def wp_X9_readVacation (h : ck_H) (Q : ck_H → Prop) : Prop := (((h.1 53 15) = 0 → wp_X9_readVacation_13 Q (0 : Int32) h) ∧ (¬ (h.1 53 15) = 0 → wp_X9_readVacation_13 Q (3 : Int32) h))
set_option maxHeartbeats 4000000 in
set_option maxRecDepth 100000 in
theorem cp_X9_readVacation_13 {gr : Bool} {Q : ck_H → Prop} : ∀ (y1 : Int32) (h : ck_H), wp_X9_readVacation_13 Q y1 h → ck_W cX9_readVacation 2 RX9 none 5 0 0 false gr (ck_Qv ck_shX Q) ck_shX h 0 0 13 [(0, .ref 2), (1, .ref 53)] [.int y1, .ref 2] := by
  intro y1 h hq
  refine ck_callV (c_X9_takeWord hq) rfl cal_X9_takeWord rfl ml_X9_92 vir_X9_takeWord rfl rfl (by decide) (Nat.le_of_ble_eq_true rfl) (Nat.le_of_ble_eq_true rfl) (by decide) (by decide) dX9_readVacation_13 ?_
  rintro _ _ h2 ⟨rfl, rfl, hq⟩
  refine ck_aload_n 1 dX9_readVacation_16 rfl rfl ?_
  refine ck_aload_n 0 dX9_readVacation_17 rfl rfl ?_
  refine ck_iconst (v := 0) dX9_readVacation_18 (by decide) ?_
  refine ck_bipush (v := 30) dX9_readVacation_19 (by decide) ?_
  refine ck_callV (c_X9_takeNumber hq) rfl cal_X9_takeNumber rfl ml_X9_99 vir_X9_takeNumber rfl rfl (by decide) (Nat.le_of_ble_eq_true rfl) (Nat.le_of_ble_eq_true rfl) (by decide) (by decide) dX9_readVacation_21 ?_
  rintro _ _ h3 ⟨r4, rfl, rfl, hq⟩
  refine ck_putIN clX7 13 rfl rfl (by decide) fl_X9_150 rfl rfl rfl dX9_readVacation_24 ?_
  refine ck_nmH (fun h5 eh5 => ?_)
  have hq := hq h5 eh5
  refine ck_aload_n 1 dX9_readVacation_27 rfl rfl ?_
  refine ck_iconst (v := 1) dX9_readVacation_28 (by decide) ?_
  refine ck_putIN clX7 15 rfl rfl (by decide) fl_X9_147 rfl (by decide) (by decide) dX9_readVacation_29 ?_
  refine ck_nmH (fun h6 eh6 => ?_)
  have hq := hq h6 eh6
  exact ck_vret rfl rfl rfl dX9_readVacation_32 ⟨rfl, rfl, hq⟩
set_option maxHeartbeats 4000000 in
set_option maxRecDepth 100000 in
theorem c_X9_readVacation {gr : Bool} {h : ck_H} {Q : ck_H → Prop} (hq : wp_X9_readVacation h Q) : ck_M yX9_readVacation cX9_readVacation 2 none 5 0 0 gr ck_shX h [.ref 2, .ref 53] (ck_Qv ck_shX Q) := by
  refine ck_entry (lv := [(0, .ref 2), (1, .ref 53)]) false (own := RX9) rfl (fun q => by cases q) (by decide) (Nat.le_of_ble_eq_true rfl) rfl ?_
  refine ck_aload_n 0 dX9_readVacation_0 rfl rfl ?_
  refine ck_aload_n 1 dX9_readVacation_1 rfl rfl ?_
  refine ck_getIN clX7 15 rfl rfl (by decide) fl_X9_147 dX9_readVacation_2 ?_
  refine ck_if_eq (tgt := 12) dX9_readVacation_5 (by decide) (fun c1 => ?_) (fun c1 => ?_)
  · have hq := hq.1 c1
    refine ck_iconst (v := 0) dX9_readVacation_12 (by decide) ?_
    exact cp_X9_readVacation_13 _ _ hq
  · have hq := hq.2 c1
    refine ck_iconst (v := 3) dX9_readVacation_8 (by decide) ?_
    refine ck_goto (tgt := 13) dX9_readVacation_9 (by decide) ?_
    exact cp_X9_readVacation_13 _ _ hq
def wp_X9_readSeed_13 (Q : ck_H → Prop) (y1 : Int32) (h : ck_H) : Prop := (wp_X9_takeWord y1 h (fun h2 => (wp_X9_takeNumber (0 : Int32) (99999 : Int32) h2 (fun r4 h3 => (∀ h5, h5 = ck_sI h3 53 16 (1 : Int32) → Q h5)))))
def wp_X9_readSeed (h : ck_H) (Q : ck_H → Prop) : Prop := (((h.1 53 16) = 0 → wp_X9_readSeed_13 Q (0 : Int32) h) ∧ (¬ (h.1 53 16) = 0 → wp_X9_readSeed_13 Q (3 : Int32) h))
set_option maxHeartbeats 4000000 in
set_option maxRecDepth 100000 in
theorem cp_X9_readSeed_13 {gr : Bool} {Q : ck_H → Prop} : ∀ (y1 : Int32) (h : ck_H), wp_X9_readSeed_13 Q y1 h → ck_W cX9_readSeed 2 RX9 none 5 0 0 false gr (ck_Qv ck_shX Q) ck_shX h 0 0 13 [(0, .ref 2), (1, .ref 53)] [.int y1, .ref 2] := by
  intro y1 h hq
  refine ck_callV (c_X9_takeWord hq) rfl cal_X9_takeWord rfl ml_X9_92 vir_X9_takeWord rfl rfl (by decide) (Nat.le_of_ble_eq_true rfl) (Nat.le_of_ble_eq_true rfl) (by decide) (by decide) dX9_readSeed_13 ?_
  rintro _ _ h2 ⟨rfl, rfl, hq⟩
  refine ck_aload_n 0 dX9_readSeed_16 rfl rfl ?_
  refine ck_iconst (v := 0) dX9_readSeed_17 (by decide) ?_
  refine ck_ldc con_X9_156 dX9_readSeed_18 ?_
  refine ck_callV (c_X9_takeNumber hq) rfl cal_X9_takeNumber rfl ml_X9_99 vir_X9_takeNumber rfl rfl (by decide) (Nat.le_of_ble_eq_true rfl) (Nat.le_of_ble_eq_true rfl) (by decide) (by decide) dX9_readSeed_20 ?_
  rintro _ _ h3 ⟨r4, rfl, rfl, hq⟩
  refine ck_pop dX9_readSeed_23 rfl ?_
  refine ck_aload_n 1 dX9_readSeed_24 rfl rfl ?_
  refine ck_iconst (v := 1) dX9_readSeed_25 (by decide) ?_
  refine ck_putIN clX7 16 rfl rfl (by decide) fl_X9_153 rfl (by decide) (by decide) dX9_readSeed_26 ?_
  refine ck_nmH (fun h5 eh5 => ?_)
  have hq := hq h5 eh5
  exact ck_vret rfl rfl rfl dX9_readSeed_29 ⟨rfl, rfl, hq⟩
set_option maxHeartbeats 4000000 in
set_option maxRecDepth 100000 in
theorem c_X9_readSeed {gr : Bool} {h : ck_H} {Q : ck_H → Prop} (hq : wp_X9_readSeed h Q) : ck_M yX9_readSeed cX9_readSeed 2 none 5 0 0 gr ck_shX h [.ref 2, .ref 53] (ck_Qv ck_shX Q) := by
  refine ck_entry (lv := [(0, .ref 2), (1, .ref 53)]) false (own := RX9) rfl (fun q => by cases q) (by decide) (Nat.le_of_ble_eq_true rfl) rfl ?_
  refine ck_aload_n 0 dX9_readSeed_0 rfl rfl ?_
  refine ck_aload_n 1 dX9_readSeed_1 rfl rfl ?_
  refine ck_getIN clX7 16 rfl rfl (by decide) fl_X9_153 dX9_readSeed_2 ?_
  refine ck_if_eq (tgt := 12) dX9_readSeed_5 (by decide) (fun c1 => ?_) (fun c1 => ?_)
  · have hq := hq.1 c1
    refine ck_iconst (v := 0) dX9_readSeed_12 (by decide) ?_
    exact cp_X9_readSeed_13 _ _ hq
  · have hq := hq.2 c1
    refine ck_iconst (v := 3) dX9_readSeed_8 (by decide) ?_
    refine ck_goto (tgt := 13) dX9_readSeed_9 (by decide) ?_
    exact cp_X9_readSeed_13 _ _ hq
def wp_X9_readLaw_25 (Q : ck_H → Prop) (h : ck_H) : Prop := (∀ h4, h4 = ck_sI h 2 2 (1 : Int32) → Q h4)
def wp_X9_readLaw_48 (Q : ck_H → Prop) (x2 : Int32) (y1 : Int32) (h : ck_H) : Prop := (wp_X9_takeWord y1 h (fun h9 => ((¬ (h9.1 2 2) = 0 → Q h9) ∧ ((h9.1 2 2) = 0 → (wp_X3_readInto x2 h9 (fun r12 h11 => (∀ h13, h13 = ck_sI h11 2 2 r12 → Q h13)))))))
def wp_X9_readLaw (h : ck_H) (Q : ck_H → Prop) : Prop := (wp_X9_takeWord (0 : Int32) h (fun h1 => (∀ v2, v2 = ((h1.1 3 4) - (26 : Int32)) → ((v2 < 0 → wp_X9_readLaw_25 Q h1) ∧ (¬ v2 < 0 → ((v2 < (3 : Int32) → (wp_X4_isTold v2 h1 (fun r7 h6 => ((r7 = 0 → wp_X9_readLaw_48 Q v2 (0 : Int32) h6) ∧ (¬ r7 = 0 → wp_X9_readLaw_48 Q v2 (3 : Int32) h6))))) ∧ (¬ v2 < (3 : Int32) → wp_X9_readLaw_25 Q h1)))))))
set_option maxHeartbeats 4000000 in
set_option maxRecDepth 100000 in
theorem cp_X9_readLaw_25 {gr : Bool} {Q : ck_H → Prop} : ∀ (h : ck_H), wp_X9_readLaw_25 Q h → ck_W cX9_readLaw 3 RX9 none 6 0 0 false gr (ck_Qv ck_shX Q) ck_shX h 0 0 25 [(0, .ref 2)] [] := by
  intro h hq
  refine ck_aload_n 0 dX9_readLaw_25 rfl rfl ?_
  refine ck_iconst (v := 1) dX9_readLaw_26 (by decide) ?_
  refine ck_putI clX9 2 rfl rfl (by decide) fl_X9_38 rfl rfl rfl dX9_readLaw_27 ?_
  refine ck_nmH (fun h4 eh4 => ?_)
  have hq := hq h4 eh4
  exact ck_vret rfl rfl rfl dX9_readLaw_30 ⟨rfl, rfl, hq⟩
set_option maxHeartbeats 4000000 in
set_option maxRecDepth 100000 in
theorem cp_X9_readLaw_48 {gr : Bool} {Q : ck_H → Prop} : ∀ (x2 : Int32) (y1 : Int32) (h : ck_H), wp_X9_readLaw_48 Q x2 y1 h → ck_W cX9_readLaw 3 RX9 none 6 0 0 false gr (ck_Qv ck_shX Q) ck_shX h 0 0 48 [(0, .ref 2), (1, .ref 53), (2, .int x2)] [.int y1, .ref 2] := by
  intro x2 y1 h hq
  refine ck_callV (c_X9_takeWord hq) rfl cal_X9_takeWord rfl ml_X9_92 vir_X9_takeWord rfl rfl (by decide) (Nat.le_of_ble_eq_true rfl) (Nat.le_of_ble_eq_true rfl) (by decide) (by decide) dX9_readLaw_48 ?_
  rintro _ _ h9 ⟨rfl, rfl, hq⟩
  refine ck_aload_n 0 dX9_readLaw_51 rfl rfl ?_
  refine ck_getI clX9 2 rfl rfl (by decide) fl_X9_38 dX9_readLaw_52 ?_
  refine ck_if_ne (tgt := 74) dX9_readLaw_55 (by decide) (fun c10 => ?_) (fun c10 => ?_)
  · have hq := hq.1 c10
    exact ck_vret rfl rfl rfl dX9_readLaw_74 ⟨rfl, rfl, hq⟩
  · have hq := hq.2 c10
    refine ck_aload_n 0 dX9_readLaw_58 rfl rfl ?_
    refine ck_aload_n 0 dX9_readLaw_59 rfl rfl ?_
    refine ck_getR clX9 1 rfl rfl (by decide) fl_X9_25 dX9_readLaw_60 ?_
    refine ck_aload_n 1 dX9_readLaw_63 rfl rfl ?_
    refine ck_getRN clX7 11 rfl rfl (by decide) fl_X9_157 dX9_readLaw_64 ?_
    refine ck_iload_n 2 dX9_readLaw_67 rfl rfl ?_
    refine ck_callV (c_X3_readInto hq) rfl cal_X3_readInto rfl ml_X9_167 vir_X3_readInto rfl rfl (by decide) (Nat.le_of_ble_eq_true rfl) (Nat.le_of_ble_eq_true rfl) (by decide) (by decide) dX9_readLaw_68 ?_
    rintro _ _ h11 ⟨r12, rfl, rfl, hq⟩
    refine ck_putI clX9 2 rfl rfl (by decide) fl_X9_38 rfl rfl rfl dX9_readLaw_71 ?_
    refine ck_nmH (fun h13 eh13 => ?_)
    have hq := hq h13 eh13
    exact ck_vret rfl rfl rfl dX9_readLaw_74 ⟨rfl, rfl, hq⟩
set_option maxHeartbeats 4000000 in
set_option maxRecDepth 100000 in
theorem c_X9_readLaw {gr : Bool} {h : ck_H} {Q : ck_H → Prop} (hq : wp_X9_readLaw h Q) : ck_M yX9_readLaw cX9_readLaw 3 none 6 0 0 gr ck_shX h [.ref 2, .ref 53] (ck_Qv ck_shX Q) := by
  refine ck_entry (lv := [(0, .ref 2), (1, .ref 53)]) false (own := RX9) rfl (fun q => by cases q) (by decide) (Nat.le_of_ble_eq_true rfl) rfl ?_
  refine ck_aload_n 0 dX9_readLaw_0 rfl rfl ?_
  refine ck_iconst (v := 0) dX9_readLaw_1 (by decide) ?_
  refine ck_callV (c_X9_takeWord hq) rfl cal_X9_takeWord rfl ml_X9_92 vir_X9_takeWord rfl rfl (by decide) (Nat.le_of_ble_eq_true rfl) (Nat.le_of_ble_eq_true rfl) (by decide) (by decide) dX9_readLaw_2 ?_
  rintro _ _ h1 ⟨rfl, rfl, hq⟩
  refine ck_aload_n 0 dX9_readLaw_5 rfl rfl ?_
  refine ck_getR clX9 0 rfl rfl (by decide) fl_X9_14 dX9_readLaw_6 ?_
  refine ck_getIN clX8 4 rfl rfl (by decide) fl_X9_45 dX9_readLaw_9 ?_
  refine ck_bipush (v := 26) dX9_readLaw_12 (by decide) ?_
  refine ck_isub dX9_readLaw_14 ?_
  refine ck_nmI (fun v2 ev2 => ?_)
  have hq := hq v2 ev2
  refine ck_istore_n (lv' := [(2, .int v2), (0, .ref 2), (1, .ref 53)]) dX9_readLaw_15 rfl (by decide) rfl ?_
  refine ck_iload_n 0 dX9_readLaw_16 rfl rfl ?_
  refine ck_if_lt (tgt := 25) dX9_readLaw_17 (by decide) (fun c3 => ?_) (fun c3 => ?_)
  · have hq := hq.1 c3
    refine ck_loc [1] rfl ?_
    exact cp_X9_readLaw_25  _ hq
  · have hq := hq.2 c3
    refine ck_iload_n 0 dX9_readLaw_20 rfl rfl ?_
    refine ck_iconst (v := 3) dX9_readLaw_21 (by decide) ?_
    refine ck_icmp_lt (tgt := 31) dX9_readLaw_22 (by decide) (fun c5 => ?_) (fun c5 => ?_)
    · have hq := hq.1 c5
      refine ck_aload_n 1 dX9_readLaw_31 rfl rfl ?_
      refine ck_aload_n 2 dX9_readLaw_32 rfl rfl ?_
      refine ck_getRN clX7 11 rfl rfl (by decide) fl_X9_157 dX9_readLaw_33 ?_
      refine ck_iload_n 0 dX9_readLaw_36 rfl rfl ?_
      refine ck_callV (c_X4_isTold hq) rfl cal_X4_isTold rfl ml_X9_161 vir_X4_isTold rfl rfl (by decide) (Nat.le_of_ble_eq_true rfl) (Nat.le_of_ble_eq_true rfl) (by decide) (by decide) dX9_readLaw_37 ?_
      rintro _ _ h6 ⟨r7, rfl, rfl, hq⟩
      refine ck_if_eq (tgt := 47) dX9_readLaw_40 (by decide) (fun c8 => ?_) (fun c8 => ?_)
      · have hq := hq.1 c8
        refine ck_iconst (v := 0) dX9_readLaw_47 (by decide) ?_
        refine ck_loc [1, 2, 0] rfl ?_
        exact cp_X9_readLaw_48 _ _ _ hq
      · have hq := hq.2 c8
        refine ck_iconst (v := 3) dX9_readLaw_43 (by decide) ?_
        refine ck_goto (tgt := 48) dX9_readLaw_44 (by decide) ?_
        refine ck_loc [1, 2, 0] rfl ?_
        exact cp_X9_readLaw_48 _ _ _ hq
    · have hq := hq.2 c5
      refine ck_loc [1] rfl ?_
      exact cp_X9_readLaw_25  _ hq
def wp_X9_readLine_144 (Q : ck_H → Prop) (h : ck_H) : Prop := (∀ h14, h14 = ck_sI h 2 2 (1 : Int32) → Q h14)
def wp_X9_readLine (h : ck_H) (Q : ck_H → Prop) : Prop := (((h.1 3 4) = 20 → (wp_X9_readJudge h (fun h2 => Q h2))) ∧ (¬ (h.1 3 4) = 20 → (((h.1 3 4) = 21 → (wp_X9_readNut h (fun h4 => Q h4))) ∧ (¬ (h.1 3 4) = 21 → (((h.1 3 4) = 22 → (wp_X9_readSuit h (fun h6 => Q h6))) ∧ (¬ (h.1 3 4) = 22 → (((h.1 3 4) = 23 → (wp_X9_readVacation h (fun h8 => Q h8))) ∧ (¬ (h.1 3 4) = 23 → (((h.1 3 4) = 24 → (wp_X9_readSeed h (fun h10 => Q h10))) ∧ (¬ (h.1 3 4) = 24 → (((h.1 3 4) = 25 → (wp_X9_readLaw h (fun h12 => Q h12))) ∧ (¬ (h.1 3 4) = 25 → (((h.1 3 4) = 26 → wp_X9_readLine_144 Q h) ∧ (¬ (h.1 3 4) = 26 → (((h.1 3 4) = 27 → wp_X9_readLine_144 Q h) ∧ (¬ (h.1 3 4) = 27 → (((h.1 3 4) = 28 → wp_X9_readLine_144 Q h) ∧ (¬ (h.1 3 4) = 28 → (((h.1 3 4) = 29 → wp_X9_readLine_144 Q h) ∧ (¬ (h.1 3 4) = 29 → (((h.1 3 4) = 30 → wp_X9_readLine_144 Q h) ∧ (¬ (h.1 3 4) = 30 → (((h.1 3 4) = 31 → wp_X9_readLine_144 Q h) ∧ (¬ (h.1 3 4) = 31 → (((h.1 3 4) = 32 → wp_X9_readLine_144 Q h) ∧ (¬ (h.1 3 4) = 32 → (((h.1 3 4) = 33 → wp_X9_readLine_144 Q h) ∧ (¬ (h.1 3 4) = 33 → (((h.1 3 4) = 34 → wp_X9_readLine_144 Q h) ∧ (¬ (h.1 3 4) = 34 → (((h.1 3 4) = 35 → wp_X9_readLine_144 Q h) ∧ (¬ (h.1 3 4) = 35 → (((h.1 3 4) = 36 → (wp_X9_readLever h (fun h25 => Q h25))) ∧ (¬ (h.1 3 4) = 36 → wp_X9_readLine_144 Q h))))))))))))))))))))))))))))))))))
set_option maxHeartbeats 4000000 in
set_option maxRecDepth 100000 in
theorem cp_X9_readLine_144 {gr : Bool} {Q : ck_H → Prop} : ∀ (h : ck_H), wp_X9_readLine_144 Q h → ck_W cX9_readLine 2 RX9 none 7 0 0 false gr (ck_Qv ck_shX Q) ck_shX h 0 0 144 [(0, .ref 2)] [] := by
  intro h hq
  refine ck_aload_n 0 dX9_readLine_144 rfl rfl ?_
  refine ck_iconst (v := 1) dX9_readLine_145 (by decide) ?_
  refine ck_putI clX9 2 rfl rfl (by decide) fl_X9_38 rfl rfl rfl dX9_readLine_146 ?_
  refine ck_nmH (fun h14 eh14 => ?_)
  have hq := hq h14 eh14
  exact ck_vret rfl rfl rfl dX9_readLine_149 ⟨rfl, rfl, hq⟩
set_option maxHeartbeats 4000000 in
set_option maxRecDepth 100000 in
theorem c_X9_readLine {gr : Bool} {h : ck_H} {Q : ck_H → Prop} (hq : wp_X9_readLine h Q) : ck_M yX9_readLine cX9_readLine 2 none 7 0 0 gr ck_shX h [.ref 2, .ref 53] (ck_Qv ck_shX Q) := by
  refine ck_entry (lv := [(0, .ref 2), (1, .ref 53)]) false (own := RX9) rfl (fun q => by cases q) (by decide) (Nat.le_of_ble_eq_true rfl) rfl ?_
  refine ck_aload_n 0 dX9_readLine_0 rfl rfl ?_
  refine ck_getR clX9 0 rfl rfl (by decide) fl_X9_14 dX9_readLine_1 ?_
  refine ck_getIN clX8 4 rfl rfl (by decide) fl_X9_45 dX9_readLine_4 ?_
  by_cases c1 : (h.1 3 4) = 20
  · have hq := hq.1 c1
    refine ck_tabIn (tgt := 88) dX9_readLine_7 (by rw [c1]; decide) (by rw [c1]; decide) (by rw [c1]; rfl) (by decide) ?_
    refine ck_aload_n 0 dX9_readLine_88 rfl rfl ?_
    refine ck_aload_n 1 dX9_readLine_89 rfl rfl ?_
    refine ck_callV (c_X9_readJudge hq) rfl cal_X9_readJudge rfl ml_X9_58 vir_X9_readJudge rfl rfl (by decide) (Nat.le_of_ble_eq_true rfl) (Nat.le_of_ble_eq_true rfl) (by decide) (by decide) dX9_readLine_90 ?_
    rintro _ _ h2 ⟨rfl, rfl, hq⟩
    refine ck_goto (tgt := 149) dX9_readLine_93 (by decide) ?_
    exact ck_vret rfl rfl rfl dX9_readLine_149 ⟨rfl, rfl, hq⟩
  have hq := hq.2 c1
  by_cases c3 : (h.1 3 4) = 21
  · have hq := hq.1 c3
    refine ck_tabIn (tgt := 96) dX9_readLine_7 (by rw [c3]; decide) (by rw [c3]; decide) (by rw [c3]; rfl) (by decide) ?_
    refine ck_aload_n 0 dX9_readLine_96 rfl rfl ?_
    refine ck_aload_n 1 dX9_readLine_97 rfl rfl ?_
    refine ck_callV (c_X9_readNut hq) rfl cal_X9_readNut rfl ml_X9_61 vir_X9_readNut rfl rfl (by decide) (Nat.le_of_ble_eq_true rfl) (Nat.le_of_ble_eq_true rfl) (by decide) (by decide) dX9_readLine_98 ?_
    rintro _ _ h4 ⟨rfl, rfl, hq⟩
    refine ck_goto (tgt := 149) dX9_readLine_101 (by decide) ?_
    exact ck_vret rfl rfl rfl dX9_readLine_149 ⟨rfl, rfl, hq⟩
  have hq := hq.2 c3
  by_cases c5 : (h.1 3 4) = 22
  · have hq := hq.1 c5
    refine ck_tabIn (tgt := 104) dX9_readLine_7 (by rw [c5]; decide) (by rw [c5]; decide) (by rw [c5]; rfl) (by decide) ?_
    refine ck_aload_n 0 dX9_readLine_104 rfl rfl ?_
    refine ck_aload_n 1 dX9_readLine_105 rfl rfl ?_
    refine ck_callV (c_X9_readSuit hq) rfl cal_X9_readSuit rfl ml_X9_64 vir_X9_readSuit rfl rfl (by decide) (Nat.le_of_ble_eq_true rfl) (Nat.le_of_ble_eq_true rfl) (by decide) (by decide) dX9_readLine_106 ?_
    rintro _ _ h6 ⟨rfl, rfl, hq⟩
    refine ck_goto (tgt := 149) dX9_readLine_109 (by decide) ?_
    exact ck_vret rfl rfl rfl dX9_readLine_149 ⟨rfl, rfl, hq⟩
  have hq := hq.2 c5
  by_cases c7 : (h.1 3 4) = 23
  · have hq := hq.1 c7
    refine ck_tabIn (tgt := 120) dX9_readLine_7 (by rw [c7]; decide) (by rw [c7]; decide) (by rw [c7]; rfl) (by decide) ?_
    refine ck_aload_n 0 dX9_readLine_120 rfl rfl ?_
    refine ck_aload_n 1 dX9_readLine_121 rfl rfl ?_
    refine ck_callV (c_X9_readVacation hq) rfl cal_X9_readVacation rfl ml_X9_70 vir_X9_readVacation rfl rfl (by decide) (Nat.le_of_ble_eq_true rfl) (Nat.le_of_ble_eq_true rfl) (by decide) (by decide) dX9_readLine_122 ?_
    rintro _ _ h8 ⟨rfl, rfl, hq⟩
    refine ck_goto (tgt := 149) dX9_readLine_125 (by decide) ?_
    exact ck_vret rfl rfl rfl dX9_readLine_149 ⟨rfl, rfl, hq⟩
  have hq := hq.2 c7
  by_cases c9 : (h.1 3 4) = 24
  · have hq := hq.1 c9
    refine ck_tabIn (tgt := 128) dX9_readLine_7 (by rw [c9]; decide) (by rw [c9]; decide) (by rw [c9]; rfl) (by decide) ?_
    refine ck_aload_n 0 dX9_readLine_128 rfl rfl ?_
    refine ck_aload_n 1 dX9_readLine_129 rfl rfl ?_
    refine ck_callV (c_X9_readSeed hq) rfl cal_X9_readSeed rfl ml_X9_73 vir_X9_readSeed rfl rfl (by decide) (Nat.le_of_ble_eq_true rfl) (Nat.le_of_ble_eq_true rfl) (by decide) (by decide) dX9_readLine_130 ?_
    rintro _ _ h10 ⟨rfl, rfl, hq⟩
    refine ck_goto (tgt := 149) dX9_readLine_133 (by decide) ?_
    exact ck_vret rfl rfl rfl dX9_readLine_149 ⟨rfl, rfl, hq⟩
  have hq := hq.2 c9
  by_cases c11 : (h.1 3 4) = 25
  · have hq := hq.1 c11
    refine ck_tabIn (tgt := 136) dX9_readLine_7 (by rw [c11]; decide) (by rw [c11]; decide) (by rw [c11]; rfl) (by decide) ?_
    refine ck_aload_n 0 dX9_readLine_136 rfl rfl ?_
    refine ck_aload_n 1 dX9_readLine_137 rfl rfl ?_
    refine ck_callV (c_X9_readLaw hq) rfl cal_X9_readLaw rfl ml_X9_76 vir_X9_readLaw rfl rfl (by decide) (Nat.le_of_ble_eq_true rfl) (Nat.le_of_ble_eq_true rfl) (by decide) (by decide) dX9_readLine_138 ?_
    rintro _ _ h12 ⟨rfl, rfl, hq⟩
    refine ck_goto (tgt := 149) dX9_readLine_141 (by decide) ?_
    exact ck_vret rfl rfl rfl dX9_readLine_149 ⟨rfl, rfl, hq⟩
  have hq := hq.2 c11
  by_cases c13 : (h.1 3 4) = 26
  · have hq := hq.1 c13
    refine ck_tabIn (tgt := 144) dX9_readLine_7 (by rw [c13]; decide) (by rw [c13]; decide) (by rw [c13]; rfl) (by decide) ?_
    refine ck_loc [0] rfl ?_
    exact cp_X9_readLine_144  _ hq
  have hq := hq.2 c13
  by_cases c15 : (h.1 3 4) = 27
  · have hq := hq.1 c15
    refine ck_tabIn (tgt := 144) dX9_readLine_7 (by rw [c15]; decide) (by rw [c15]; decide) (by rw [c15]; rfl) (by decide) ?_
    refine ck_loc [0] rfl ?_
    exact cp_X9_readLine_144  _ hq
  have hq := hq.2 c15
  by_cases c16 : (h.1 3 4) = 28
  · have hq := hq.1 c16
    refine ck_tabIn (tgt := 144) dX9_readLine_7 (by rw [c16]; decide) (by rw [c16]; decide) (by rw [c16]; rfl) (by decide) ?_
    refine ck_loc [0] rfl ?_
    exact cp_X9_readLine_144  _ hq
  have hq := hq.2 c16
  by_cases c17 : (h.1 3 4) = 29
  · have hq := hq.1 c17
    refine ck_tabIn (tgt := 144) dX9_readLine_7 (by rw [c17]; decide) (by rw [c17]; decide) (by rw [c17]; rfl) (by decide) ?_
    refine ck_loc [0] rfl ?_
    exact cp_X9_readLine_144  _ hq
  have hq := hq.2 c17
  by_cases c18 : (h.1 3 4) = 30
  · have hq := hq.1 c18
    refine ck_tabIn (tgt := 144) dX9_readLine_7 (by rw [c18]; decide) (by rw [c18]; decide) (by rw [c18]; rfl) (by decide) ?_
    refine ck_loc [0] rfl ?_
    exact cp_X9_readLine_144  _ hq
  have hq := hq.2 c18
  by_cases c19 : (h.1 3 4) = 31
  · have hq := hq.1 c19
    refine ck_tabIn (tgt := 144) dX9_readLine_7 (by rw [c19]; decide) (by rw [c19]; decide) (by rw [c19]; rfl) (by decide) ?_
    refine ck_loc [0] rfl ?_
    exact cp_X9_readLine_144  _ hq
  have hq := hq.2 c19
  by_cases c20 : (h.1 3 4) = 32
  · have hq := hq.1 c20
    refine ck_tabIn (tgt := 144) dX9_readLine_7 (by rw [c20]; decide) (by rw [c20]; decide) (by rw [c20]; rfl) (by decide) ?_
    refine ck_loc [0] rfl ?_
    exact cp_X9_readLine_144  _ hq
  have hq := hq.2 c20
  by_cases c21 : (h.1 3 4) = 33
  · have hq := hq.1 c21
    refine ck_tabIn (tgt := 144) dX9_readLine_7 (by rw [c21]; decide) (by rw [c21]; decide) (by rw [c21]; rfl) (by decide) ?_
    refine ck_loc [0] rfl ?_
    exact cp_X9_readLine_144  _ hq
  have hq := hq.2 c21
  by_cases c22 : (h.1 3 4) = 34
  · have hq := hq.1 c22
    refine ck_tabIn (tgt := 144) dX9_readLine_7 (by rw [c22]; decide) (by rw [c22]; decide) (by rw [c22]; rfl) (by decide) ?_
    refine ck_loc [0] rfl ?_
    exact cp_X9_readLine_144  _ hq
  have hq := hq.2 c22
  by_cases c23 : (h.1 3 4) = 35
  · have hq := hq.1 c23
    refine ck_tabIn (tgt := 144) dX9_readLine_7 (by rw [c23]; decide) (by rw [c23]; decide) (by rw [c23]; rfl) (by decide) ?_
    refine ck_loc [0] rfl ?_
    exact cp_X9_readLine_144  _ hq
  have hq := hq.2 c23
  by_cases c24 : (h.1 3 4) = 36
  · have hq := hq.1 c24
    refine ck_tabIn (tgt := 112) dX9_readLine_7 (by rw [c24]; decide) (by rw [c24]; decide) (by rw [c24]; rfl) (by decide) ?_
    refine ck_aload_n 0 dX9_readLine_112 rfl rfl ?_
    refine ck_aload_n 1 dX9_readLine_113 rfl rfl ?_
    refine ck_callV (c_X9_readLever hq) rfl cal_X9_readLever rfl ml_X9_67 vir_X9_readLever rfl rfl (by decide) (Nat.le_of_ble_eq_true rfl) (Nat.le_of_ble_eq_true rfl) (by decide) (by decide) dX9_readLine_114 ?_
    rintro _ _ h25 ⟨rfl, rfl, hq⟩
    refine ck_goto (tgt := 149) dX9_readLine_117 (by decide) ?_
    exact ck_vret rfl rfl rfl dX9_readLine_149 ⟨rfl, rfl, hq⟩
  have hq := hq.2 c24
  refine ck_tabOut (tgt := 144) dX9_readLine_7 (by have z0 := lv_neT c1 (a := 20) (by decide); have z1 := lv_neT c3 (a := 21) (by decide); have z2 := lv_neT c5 (a := 22) (by decide); have z3 := lv_neT c7 (a := 23) (by decide); have z4 := lv_neT c9 (a := 24) (by decide); have z5 := lv_neT c11 (a := 25) (by decide); have z6 := lv_neT c13 (a := 26) (by decide); have z7 := lv_neT c15 (a := 27) (by decide); have z8 := lv_neT c16 (a := 28) (by decide); have z9 := lv_neT c17 (a := 29) (by decide); have z10 := lv_neT c18 (a := 30) (by decide); have z11 := lv_neT c19 (a := 31) (by decide); have z12 := lv_neT c20 (a := 32) (by decide); have z13 := lv_neT c21 (a := 33) (by decide); have z14 := lv_neT c22 (a := 34) (by decide); have z15 := lv_neT c23 (a := 35) (by decide); have z16 := lv_neT c24 (a := 36) (by decide); omega) (by decide) ?_
  refine ck_loc [0] rfl ?_
  exact cp_X9_readLine_144  _ hq
def wp_X9_readText_95 (Q : Int32 → ck_H → Prop) (Kc : Int32 → ck_H → Prop) (x3 : Int32) (h : ck_H) : Prop := (∀ v10, v10 = x3 + 1 → Kc v10 h)
def wp_X9_readText_71 (Q : Int32 → ck_H → Prop) (Kc : Int32 → ck_H → Prop) (x3 : Int32) (h : ck_H) : Prop := ((¬ (h.1 2 2) = 0 → wp_X9_readText_95 Q Kc x3 h) ∧ ((h.1 2 2) = 0 → (∀ h11, h11 = ck_sI h 53 17 ((h.1 53 17) + (1 : Int32)) → (wp_X8_next h11 (fun h12 => wp_X9_readText_95 Q Kc x3 h12)))))
def wp_X9_readText_19 (Q : Int32 → ck_H → Prop) : Nat → Int32 → ck_H → Prop
  | 0 => fun _ _ => False
  | n + 1 => fun x3 h => (((700 : Int32) ≤ x3 → Q (h.1 2 2) h) ∧ (¬ (700 : Int32) ≤ x3 → ((¬ (h.1 2 2) = 0 → Q (h.1 2 2) h) ∧ ((h.1 2 2) = 0 → (((h.1 3 4) = 0 → Q (h.1 2 2) h) ∧ (¬ (h.1 3 4) = 0 → (wp_X9_readLine h (fun h7 => ((¬ (h7.1 2 2) = 0 → wp_X9_readText_71 Q (wp_X9_readText_19 Q n) x3 h7) ∧ ((h7.1 2 2) = 0 → (((h7.1 3 4) = (4 : Int32) → wp_X9_readText_71 Q (wp_X9_readText_19 Q n) x3 h7) ∧ (¬ (h7.1 3 4) = (4 : Int32) → (∀ h14, h14 = ck_sI h7 2 2 (1 : Int32) → wp_X9_readText_71 Q (wp_X9_readText_19 Q n) x3 h14)))))))))))))
def wp_X9_readText (x2 : Int32) (h : ck_H) (Q : Int32 → ck_H → Prop) : Prop := (wp_X7_clear h (fun h1 => (∀ h2, h2 = ck_sI h1 2 2 (0 : Int32) → (wp_X8_begin x2 h2 (fun h3 => wp_X9_readText_19 Q lpN (0 : Int32) h3)))))
set_option maxHeartbeats 4000000 in
set_option maxRecDepth 100000 in
theorem cp_X9_readText_95 {gr : Bool} {Q : Int32 → ck_H → Prop} {Kc : Int32 → ck_H → Prop} (hKc : ∀ (x3 : Int32) (h : ck_H), Kc x3 h → ck_W cX9_readText 4 RX9 (some .int) 8 0 0 false gr (ck_Qi ck_shX Q) ck_shX h 0 0 19 [(0, .ref 2), (1, .ref 53), (3, .int x3)] []) : ∀ (x3 : Int32) (h : ck_H), wp_X9_readText_95 Q Kc x3 h → ck_W cX9_readText 4 RX9 (some .int) 8 0 0 false gr (ck_Qi ck_shX Q) ck_shX h 0 0 95 [(0, .ref 2), (1, .ref 53), (3, .int x3)] [] := by
  intro x3 h hq
  obtain ⟨v10, ev10⟩ : ∃ z : Int32, z = x3 + 1 := ⟨_, rfl⟩
  have hq := hq v10 ev10
  refine ck_iinc (v := v10) (lv' := [(3, .int v10), (0, .ref 2), (1, .ref 53)]) 2 dX9_readText_95 rfl (by rw [ev10]; rfl) (by decide) rfl ?_
  refine ck_goto (tgt := 19) dX9_readText_98 (by decide) ?_
  refine ck_loc [1, 2, 0] rfl ?_
  exact hKc _ _ hq
set_option maxHeartbeats 4000000 in
set_option maxRecDepth 100000 in
theorem cp_X9_readText_71 {gr : Bool} {Q : Int32 → ck_H → Prop} {Kc : Int32 → ck_H → Prop} (hKc : ∀ (x3 : Int32) (h : ck_H), Kc x3 h → ck_W cX9_readText 4 RX9 (some .int) 8 0 0 false gr (ck_Qi ck_shX Q) ck_shX h 0 0 19 [(0, .ref 2), (1, .ref 53), (3, .int x3)] []) : ∀ (x3 : Int32) (h : ck_H), wp_X9_readText_71 Q Kc x3 h → ck_W cX9_readText 4 RX9 (some .int) 8 0 0 false gr (ck_Qi ck_shX Q) ck_shX h 0 0 71 [(0, .ref 2), (1, .ref 53), (3, .int x3)] [] := by
  intro x3 h hq
  refine ck_aload_n 0 dX9_readText_71 rfl rfl ?_
  refine ck_getI clX9 2 rfl rfl (by decide) fl_X9_38 dX9_readText_72 ?_
  refine ck_if_ne (tgt := 95) dX9_readText_75 (by decide) (fun c9 => ?_) (fun c9 => ?_)
  · have hq := hq.1 c9
    exact cp_X9_readText_95 hKc _ _ hq
  · have hq := hq.2 c9
    refine ck_aload_n 1 dX9_readText_78 rfl rfl ?_
    refine ck_dup dX9_readText_79 rfl ?_
    refine ck_getIN clX7 17 rfl rfl (by decide) fl_X9_52 dX9_readText_80 ?_
    refine ck_iconst (v := 1) dX9_readText_83 (by decide) ?_
    refine ck_iadd dX9_readText_84 ?_
    refine ck_putIN clX7 17 rfl rfl (by decide) fl_X9_52 rfl rfl rfl dX9_readText_85 ?_
    refine ck_nmH (fun h11 eh11 => ?_)
    have hq := hq h11 eh11
    refine ck_aload_n 0 dX9_readText_88 rfl rfl ?_
    refine ck_getR clX9 0 rfl rfl (by decide) fl_X9_14 dX9_readText_89 ?_
    refine ck_callV (c_X8_next hq) rfl cal_X8_next rfl ml_X9_55 vir_X8_next rfl rfl (by decide) (Nat.le_of_ble_eq_true rfl) (Nat.le_of_ble_eq_true rfl) (by decide) (by decide) dX9_readText_92 ?_
    rintro _ _ h12 ⟨rfl, rfl, hq⟩
    exact cp_X9_readText_95 hKc _ _ hq
set_option maxHeartbeats 4000000 in
set_option maxRecDepth 100000 in
theorem cp_X9_readText_19 {gr : Bool} {Q : Int32 → ck_H → Prop} : ∀ (n : Nat) (x3 : Int32) (h : ck_H), wp_X9_readText_19 Q n x3 h → ck_W cX9_readText 4 RX9 (some .int) 8 0 0 false gr (ck_Qi ck_shX Q) ck_shX h 0 0 19 [(0, .ref 2), (1, .ref 53), (3, .int x3)] [] := by
  intro n
  induction n with
  | zero => intro x3 h hq; exact hq.elim
  | succ n hKc =>
    intro x3 h hq
    refine ck_iload_n 2 dX9_readText_19 rfl rfl ?_
    refine ck_sipush (v := 700) dX9_readText_20 (by decide) ?_
    refine ck_icmp_ge (tgt := 101) dX9_readText_23 (by decide) (fun c4 => ?_) (fun c4 => ?_)
    · have hq := hq.1 c4
      refine ck_aload_n 0 dX9_readText_101 rfl rfl ?_
      refine ck_getI clX9 2 rfl rfl (by decide) fl_X9_38 dX9_readText_102 ?_
      exact ck_iret rfl rfl rfl rfl dX9_readText_105 ⟨_, rfl, rfl, hq⟩
    · have hq := hq.2 c4
      refine ck_aload_n 0 dX9_readText_26 rfl rfl ?_
      refine ck_getI clX9 2 rfl rfl (by decide) fl_X9_38 dX9_readText_27 ?_
      refine ck_if_ne (tgt := 101) dX9_readText_30 (by decide) (fun c5 => ?_) (fun c5 => ?_)
      · have hq := hq.1 c5
        refine ck_aload_n 0 dX9_readText_101 rfl rfl ?_
        refine ck_getI clX9 2 rfl rfl (by decide) fl_X9_38 dX9_readText_102 ?_
        exact ck_iret rfl rfl rfl rfl dX9_readText_105 ⟨_, rfl, rfl, hq⟩
      · have hq := hq.2 c5
        refine ck_aload_n 0 dX9_readText_33 rfl rfl ?_
        refine ck_getR clX9 0 rfl rfl (by decide) fl_X9_14 dX9_readText_34 ?_
        refine ck_getIN clX8 4 rfl rfl (by decide) fl_X9_45 dX9_readText_37 ?_
        refine ck_if_eq (tgt := 101) dX9_readText_40 (by decide) (fun c6 => ?_) (fun c6 => ?_)
        · have hq := hq.1 c6
          refine ck_aload_n 0 dX9_readText_101 rfl rfl ?_
          refine ck_getI clX9 2 rfl rfl (by decide) fl_X9_38 dX9_readText_102 ?_
          exact ck_iret rfl rfl rfl rfl dX9_readText_105 ⟨_, rfl, rfl, hq⟩
        · have hq := hq.2 c6
          refine ck_aload_n 0 dX9_readText_43 rfl rfl ?_
          refine ck_aload_n 1 dX9_readText_44 rfl rfl ?_
          refine ck_callV (c_X9_readLine hq) rfl cal_X9_readLine rfl ml_X9_48 vir_X9_readLine rfl rfl (by decide) (Nat.le_of_ble_eq_true rfl) (Nat.le_of_ble_eq_true rfl) (by decide) (by decide) dX9_readText_45 ?_
          rintro _ _ h7 ⟨rfl, rfl, hq⟩
          refine ck_aload_n 0 dX9_readText_48 rfl rfl ?_
          refine ck_getI clX9 2 rfl rfl (by decide) fl_X9_38 dX9_readText_49 ?_
          refine ck_if_ne (tgt := 71) dX9_readText_52 (by decide) (fun c8 => ?_) (fun c8 => ?_)
          · have hq := hq.1 c8
            exact cp_X9_readText_71 hKc _ _ hq
          · have hq := hq.2 c8
            refine ck_aload_n 0 dX9_readText_55 rfl rfl ?_
            refine ck_getR clX9 0 rfl rfl (by decide) fl_X9_14 dX9_readText_56 ?_
            refine ck_getIN clX8 4 rfl rfl (by decide) fl_X9_45 dX9_readText_59 ?_
            refine ck_iconst (v := 4) dX9_readText_62 (by decide) ?_
            refine ck_icmp_eq (tgt := 71) dX9_readText_63 (by decide) (fun c13 => ?_) (fun c13 => ?_)
            · have hq := hq.1 c13
              exact cp_X9_readText_71 hKc _ _ hq
            · have hq := hq.2 c13
              refine ck_aload_n 0 dX9_readText_66 rfl rfl ?_
              refine ck_iconst (v := 1) dX9_readText_67 (by decide) ?_
              refine ck_putI clX9 2 rfl rfl (by decide) fl_X9_38 rfl rfl rfl dX9_readText_68 ?_
              refine ck_nmH (fun h14 eh14 => ?_)
              have hq := hq h14 eh14
              exact cp_X9_readText_71 hKc _ _ hq
set_option maxHeartbeats 4000000 in
set_option maxRecDepth 100000 in
theorem c_X9_readText {gr : Bool} {x2 : Int32} {h : ck_H} {Q : Int32 → ck_H → Prop} (hq : wp_X9_readText x2 h Q) : ck_M yX9_readText cX9_readText 4 (some .int) 8 0 0 gr ck_shX h [.ref 2, .ref 53, .int x2] (ck_Qi ck_shX Q) := by
  refine ck_entry (lv := [(0, .ref 2), (1, .ref 53), (2, .int x2)]) false (own := RX9) rfl (fun q => by cases q) (by decide) (Nat.le_of_ble_eq_true rfl) rfl ?_
  refine ck_aload_n 1 dX9_readText_0 rfl rfl ?_
  refine ck_callV (c_X7_clear hq) rfl cal_X7_clear rfl ml_X9_33 vir_X7_clear rfl rfl (by decide) (Nat.le_of_ble_eq_true rfl) (Nat.le_of_ble_eq_true rfl) (by decide) (by decide) dX9_readText_1 ?_
  rintro _ _ h1 ⟨rfl, rfl, hq⟩
  refine ck_aload_n 0 dX9_readText_4 rfl rfl ?_
  refine ck_iconst (v := 0) dX9_readText_5 (by decide) ?_
  refine ck_putI clX9 2 rfl rfl (by decide) fl_X9_38 rfl rfl rfl dX9_readText_6 ?_
  refine ck_nmH (fun h2 eh2 => ?_)
  have hq := hq h2 eh2
  refine ck_aload_n 0 dX9_readText_9 rfl rfl ?_
  refine ck_getR clX9 0 rfl rfl (by decide) fl_X9_14 dX9_readText_10 ?_
  refine ck_iload_n 2 dX9_readText_13 rfl rfl ?_
  refine ck_callV (c_X8_begin hq) rfl cal_X8_begin rfl ml_X9_41 vir_X8_begin rfl rfl (by decide) (Nat.le_of_ble_eq_true rfl) (Nat.le_of_ble_eq_true rfl) (by decide) (by decide) dX9_readText_14 ?_
  rintro _ _ h3 ⟨rfl, rfl, hq⟩
  refine ck_iconst (v := 0) dX9_readText_17 (by decide) ?_
  refine ck_istore_n (lv' := [(3, .int (0 : Int32)), (0, .ref 2), (1, .ref 53), (2, .int x2)]) dX9_readText_18 rfl (by decide) rfl ?_
  refine ck_loc [1, 2, 0] rfl ?_
  refine cp_X9_readText_19 lpN _ _ hq
def wp_X9_place (h : ck_H) (Q : Int32 → ck_H → Prop) : Prop := Q (h.1 3 5) h
set_option maxHeartbeats 4000000 in
set_option maxRecDepth 100000 in
theorem c_X9_place {gr : Bool} {h : ck_H} {Q : Int32 → ck_H → Prop} (hq : wp_X9_place h Q) : ck_M yX9_place cX9_place 1 (some .int) 2 0 0 gr ck_shX h [.ref 2] (ck_Qi ck_shX Q) := by
  refine ck_entry (lv := [(0, .ref 2)]) false (own := RX9) rfl (fun q => by cases q) (by decide) (Nat.le_of_ble_eq_true rfl) rfl ?_
  refine ck_aload_n 0 dX9_place_0 rfl rfl ?_
  refine ck_getR clX9 0 rfl rfl (by decide) fl_X9_14 dX9_place_1 ?_
  refine ck_getIN clX8 5 rfl rfl (by decide) fl_X9_29 dX9_place_4 ?_
  exact ck_iret rfl rfl rfl rfl dX9_place_7 ⟨_, rfl, rfl, hq⟩
