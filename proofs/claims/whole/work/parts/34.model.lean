theorem dX12_ends_0 : decode cX12_ends 0 = .ok (.aload_n 0, 1) := by decide +kernel
theorem dX12_ends_1 : decode cX12_ends 1 = .ok (.getfield 72, 3) := by decide +kernel
theorem dX12_ends_4 : decode cX12_ends 4 = .ok (.iload_n 1, 1) := by decide +kernel
theorem dX12_ends_5 : decode cX12_ends 5 = .ok (.dup2, 1) := by decide +kernel
theorem dX12_ends_6 : decode cX12_ends 6 = .ok (.iaload, 1) := by decide +kernel
theorem dX12_ends_7 : decode cX12_ends 7 = .ok (.iconst 1, 1) := by decide +kernel
theorem dX12_ends_8 : decode cX12_ends 8 = .ok (.iadd, 1) := by decide +kernel
theorem dX12_ends_9 : decode cX12_ends 9 = .ok (.iastore, 1) := by decide +kernel
theorem dX12_ends_10 : decode cX12_ends 10 = .ok (.iconst 0, 1) := by decide +kernel
theorem dX12_ends_11 : decode cX12_ends 11 = .ok (.istore_n 2, 1) := by decide +kernel
theorem dX12_ends_12 : decode cX12_ends 12 = .ok (.iload_n 2, 1) := by decide +kernel
theorem dX12_ends_13 : decode cX12_ends 13 = .ok (.aload_n 0, 1) := by decide +kernel
theorem dX12_ends_14 : decode cX12_ends 14 = .ok (.getfield 13, 3) := by decide +kernel
theorem dX12_ends_17 : decode cX12_ends 17 = .ok (.iconst 0, 1) := by decide +kernel
theorem dX12_ends_18 : decode cX12_ends 18 = .ok (.iaload, 1) := by decide +kernel
theorem dX12_ends_19 : decode cX12_ends 19 = .ok (.if_icmp .ge 20, 3) := by decide +kernel
theorem dX12_ends_22 : decode cX12_ends 22 = .ok (.aload_n 0, 1) := by decide +kernel
theorem dX12_ends_23 : decode cX12_ends 23 = .ok (.getfield 87, 3) := by decide +kernel
theorem dX12_ends_26 : decode cX12_ends 26 = .ok (.iconst 4, 1) := by decide +kernel
theorem dX12_ends_27 : decode cX12_ends 27 = .ok (.iload_n 1, 1) := by decide +kernel
theorem dX12_ends_28 : decode cX12_ends 28 = .ok (.imul, 1) := by decide +kernel
theorem dX12_ends_29 : decode cX12_ends 29 = .ok (.iload_n 2, 1) := by decide +kernel
theorem dX12_ends_30 : decode cX12_ends 30 = .ok (.iadd, 1) := by decide +kernel
theorem dX12_ends_31 : decode cX12_ends 31 = .ok (.iconst 0, 1) := by decide +kernel
theorem dX12_ends_32 : decode cX12_ends 32 = .ok (.iastore, 1) := by decide +kernel
theorem dX12_ends_33 : decode cX12_ends 33 = .ok (.iinc 2 1, 3) := by decide +kernel
theorem dX12_ends_36 : decode cX12_ends 36 = .ok (.goto (-24), 3) := by decide +kernel
theorem dX12_ends_39 : decode cX12_ends 39 = .ok (.aload_n 0, 1) := by decide +kernel
theorem dX12_ends_40 : decode cX12_ends 40 = .ok (.getfield 13, 3) := by decide +kernel
theorem dX12_ends_43 : decode cX12_ends 43 = .ok (.iconst 4, 1) := by decide +kernel
theorem dX12_ends_44 : decode cX12_ends 44 = .ok (.iaload, 1) := by decide +kernel
theorem dX12_ends_45 : decode cX12_ends 45 = .ok (.ifCond .eq 19, 3) := by decide +kernel
theorem dX12_ends_48 : decode cX12_ends 48 = .ok (.aload_n 0, 1) := by decide +kernel
theorem dX12_ends_49 : decode cX12_ends 49 = .ok (.getfield 72, 3) := by decide +kernel
theorem dX12_ends_52 : decode cX12_ends 52 = .ok (.iload_n 1, 1) := by decide +kernel
theorem dX12_ends_53 : decode cX12_ends 53 = .ok (.iaload, 1) := by decide +kernel
theorem dX12_ends_54 : decode cX12_ends 54 = .ok (.aload_n 0, 1) := by decide +kernel
theorem dX12_ends_55 : decode cX12_ends 55 = .ok (.getfield 13, 3) := by decide +kernel
theorem dX12_ends_58 : decode cX12_ends 58 = .ok (.iconst 4, 1) := by decide +kernel
theorem dX12_ends_59 : decode cX12_ends 59 = .ok (.iaload, 1) := by decide +kernel
theorem dX12_ends_60 : decode cX12_ends 60 = .ok (.irem, 1) := by decide +kernel
theorem dX12_ends_61 : decode cX12_ends 61 = .ok (.ifCond .eq 4, 3) := by decide +kernel
theorem dX12_ends_64 : decode cX12_ends 64 = .ok (.return_, 1) := by decide +kernel
theorem dX12_ends_65 : decode cX12_ends 65 = .ok (.aload_n 0, 1) := by decide +kernel
theorem dX12_ends_66 : decode cX12_ends 66 = .ok (.getfield 75, 3) := by decide +kernel
theorem dX12_ends_69 : decode cX12_ends 69 = .ok (.iload_n 1, 1) := by decide +kernel
theorem dX12_ends_70 : decode cX12_ends 70 = .ok (.aload_n 0, 1) := by decide +kernel
theorem dX12_ends_71 : decode cX12_ends 71 = .ok (.invokevirtual 325, 3) := by decide +kernel
theorem dX12_ends_74 : decode cX12_ends 74 = .ok (.iastore, 1) := by decide +kernel
theorem dX12_ends_75 : decode cX12_ends 75 = .ok (.iconst 0, 1) := by decide +kernel
theorem dX12_ends_76 : decode cX12_ends 76 = .ok (.istore_n 2, 1) := by decide +kernel
theorem dX12_ends_77 : decode cX12_ends 77 = .ok (.iload_n 2, 1) := by decide +kernel
theorem dX12_ends_78 : decode cX12_ends 78 = .ok (.aload_n 0, 1) := by decide +kernel
theorem dX12_ends_79 : decode cX12_ends 79 = .ok (.getfield 13, 3) := by decide +kernel
theorem dX12_ends_82 : decode cX12_ends 82 = .ok (.iconst 0, 1) := by decide +kernel
theorem dX12_ends_83 : decode cX12_ends 83 = .ok (.iaload, 1) := by decide +kernel
theorem dX12_ends_84 : decode cX12_ends 84 = .ok (.if_icmp .ge 25, 3) := by decide +kernel
theorem dX12_ends_87 : decode cX12_ends 87 = .ok (.aload_n 0, 1) := by decide +kernel
theorem dX12_ends_88 : decode cX12_ends 88 = .ok (.getfield 84, 3) := by decide +kernel
theorem dX12_ends_91 : decode cX12_ends 91 = .ok (.iconst 4, 1) := by decide +kernel
theorem dX12_ends_92 : decode cX12_ends 92 = .ok (.iload_n 1, 1) := by decide +kernel
theorem dX12_ends_93 : decode cX12_ends 93 = .ok (.imul, 1) := by decide +kernel
theorem dX12_ends_94 : decode cX12_ends 94 = .ok (.iload_n 2, 1) := by decide +kernel
theorem dX12_ends_95 : decode cX12_ends 95 = .ok (.iadd, 1) := by decide +kernel
theorem dX12_ends_96 : decode cX12_ends 96 = .ok (.aload_n 0, 1) := by decide +kernel
theorem dX12_ends_97 : decode cX12_ends 97 = .ok (.getfield 22, 3) := by decide +kernel
theorem dX12_ends_100 : decode cX12_ends 100 = .ok (.iload_n 2, 1) := by decide +kernel
theorem dX12_ends_101 : decode cX12_ends 101 = .ok (.iaload, 1) := by decide +kernel
theorem dX12_ends_102 : decode cX12_ends 102 = .ok (.iastore, 1) := by decide +kernel
theorem dX12_ends_103 : decode cX12_ends 103 = .ok (.iinc 2 1, 3) := by decide +kernel
theorem dX12_ends_106 : decode cX12_ends 106 = .ok (.goto (-29), 3) := by decide +kernel
theorem dX12_ends_109 : decode cX12_ends 109 = .ok (.return_, 1) := by decide +kernel
theorem dX12_passes_0 : decode cX12_passes 0 = .ok (.aload_n 0, 1) := by decide +kernel
theorem dX12_passes_1 : decode cX12_passes 1 = .ok (.iload_n 1, 1) := by decide +kernel
theorem dX12_passes_2 : decode cX12_passes 2 = .ok (.invokevirtual 389, 3) := by decide +kernel
theorem dX12_passes_5 : decode cX12_passes 5 = .ok (.aload_n 0, 1) := by decide +kernel
theorem dX12_passes_6 : decode cX12_passes 6 = .ok (.iload_n 1, 1) := by decide +kernel
theorem dX12_passes_7 : decode cX12_passes 7 = .ok (.invokevirtual 392, 3) := by decide +kernel
theorem dX12_passes_10 : decode cX12_passes 10 = .ok (.return_, 1) := by decide +kernel
theorem dX12_goesOn_0 : decode cX12_goesOn 0 = .ok (.iconst 0, 1) := by decide +kernel
theorem dX12_goesOn_1 : decode cX12_goesOn 1 = .ok (.istore_n 2, 1) := by decide +kernel
theorem dX12_goesOn_2 : decode cX12_goesOn 2 = .ok (.iload_n 2, 1) := by decide +kernel
theorem dX12_goesOn_3 : decode cX12_goesOn 3 = .ok (.iload_n 1, 1) := by decide +kernel
theorem dX12_goesOn_4 : decode cX12_goesOn 4 = .ok (.if_icmp .ge 14, 3) := by decide +kernel
theorem dX12_goesOn_7 : decode cX12_goesOn 7 = .ok (.aload_n 0, 1) := by decide +kernel
theorem dX12_goesOn_8 : decode cX12_goesOn 8 = .ok (.iconst 1, 1) := by decide +kernel
theorem dX12_goesOn_9 : decode cX12_goesOn 9 = .ok (.invokevirtual 395, 3) := by decide +kernel
theorem dX12_goesOn_12 : decode cX12_goesOn 12 = .ok (.iinc 2 1, 3) := by decide +kernel
theorem dX12_goesOn_15 : decode cX12_goesOn 15 = .ok (.goto (-13), 3) := by decide +kernel
theorem dX12_goesOn_18 : decode cX12_goesOn 18 = .ok (.return_, 1) := by decide +kernel
theorem dX12_manyOf_0 : decode cX12_manyOf 0 = .ok (.iconst 0, 1) := by decide +kernel
theorem dX12_manyOf_1 : decode cX12_manyOf 1 = .ok (.istore_n 3, 1) := by decide +kernel
theorem dX12_manyOf_2 : decode cX12_manyOf 2 = .ok (.iconst 0, 1) := by decide +kernel
theorem dX12_manyOf_3 : decode cX12_manyOf 3 = .ok (.istore 4, 2) := by decide +kernel
theorem dX12_manyOf_5 : decode cX12_manyOf 5 = .ok (.iload 4, 2) := by decide +kernel
theorem dX12_manyOf_7 : decode cX12_manyOf 7 = .ok (.aload_n 0, 1) := by decide +kernel
theorem dX12_manyOf_8 : decode cX12_manyOf 8 = .ok (.getfield 13, 3) := by decide +kernel
theorem dX12_manyOf_11 : decode cX12_manyOf 11 = .ok (.iconst 2, 1) := by decide +kernel
theorem dX12_manyOf_12 : decode cX12_manyOf 12 = .ok (.iaload, 1) := by decide +kernel
theorem dX12_manyOf_13 : decode cX12_manyOf 13 = .ok (.if_icmp .ge 33, 3) := by decide +kernel
theorem dX12_manyOf_16 : decode cX12_manyOf 16 = .ok (.iload_n 3, 1) := by decide +kernel
theorem dX12_manyOf_17 : decode cX12_manyOf 17 = .ok (.aload_n 0, 1) := by decide +kernel
theorem dX12_manyOf_18 : decode cX12_manyOf 18 = .ok (.getfield 96, 3) := by decide +kernel
theorem dX12_manyOf_21 : decode cX12_manyOf 21 = .ok (.bipush 10, 2) := by decide +kernel
theorem dX12_manyOf_23 : decode cX12_manyOf 23 = .ok (.iload_n 1, 1) := by decide +kernel
theorem dX12_manyOf_24 : decode cX12_manyOf 24 = .ok (.imul, 1) := by decide +kernel
theorem dX12_manyOf_25 : decode cX12_manyOf 25 = .ok (.iload 4, 2) := by decide +kernel
theorem dX12_manyOf_27 : decode cX12_manyOf 27 = .ok (.iadd, 1) := by decide +kernel
theorem dX12_manyOf_28 : decode cX12_manyOf 28 = .ok (.iaload, 1) := by decide +kernel
theorem dX12_manyOf_29 : decode cX12_manyOf 29 = .ok (.iload_n 2, 1) := by decide +kernel
theorem dX12_manyOf_30 : decode cX12_manyOf 30 = .ok (.if_icmp .ne 7, 3) := by decide +kernel
theorem dX12_manyOf_33 : decode cX12_manyOf 33 = .ok (.iconst 1, 1) := by decide +kernel
theorem dX12_manyOf_34 : decode cX12_manyOf 34 = .ok (.goto 4, 3) := by decide +kernel
theorem dX12_manyOf_37 : decode cX12_manyOf 37 = .ok (.iconst 0, 1) := by decide +kernel
theorem dX12_manyOf_38 : decode cX12_manyOf 38 = .ok (.iadd, 1) := by decide +kernel
theorem dX12_manyOf_39 : decode cX12_manyOf 39 = .ok (.istore_n 3, 1) := by decide +kernel
theorem dX12_manyOf_40 : decode cX12_manyOf 40 = .ok (.iinc 4 1, 3) := by decide +kernel
theorem dX12_manyOf_43 : decode cX12_manyOf 43 = .ok (.goto (-38), 3) := by decide +kernel
theorem dX12_manyOf_46 : decode cX12_manyOf 46 = .ok (.iload_n 3, 1) := by decide +kernel
theorem dX12_manyOf_47 : decode cX12_manyOf 47 = .ok (.ireturn, 1) := by decide +kernel
theorem dX12_gainAll_0 : decode cX12_gainAll 0 = .ok (.iconst 0, 1) := by decide +kernel
theorem dX12_gainAll_1 : decode cX12_gainAll 1 = .ok (.istore_n 2, 1) := by decide +kernel
theorem dX12_gainAll_2 : decode cX12_gainAll 2 = .ok (.iconst 0, 1) := by decide +kernel
theorem dX12_gainAll_3 : decode cX12_gainAll 3 = .ok (.istore_n 3, 1) := by decide +kernel
theorem dX12_gainAll_4 : decode cX12_gainAll 4 = .ok (.iload_n 3, 1) := by decide +kernel
theorem dX12_gainAll_5 : decode cX12_gainAll 5 = .ok (.aload_n 0, 1) := by decide +kernel
theorem dX12_gainAll_6 : decode cX12_gainAll 6 = .ok (.getfield 13, 3) := by decide +kernel
theorem dX12_gainAll_9 : decode cX12_gainAll 9 = .ok (.iconst 2, 1) := by decide +kernel
theorem dX12_gainAll_10 : decode cX12_gainAll 10 = .ok (.iaload, 1) := by decide +kernel
theorem dX12_gainAll_11 : decode cX12_gainAll 11 = .ok (.if_icmp .ge 28, 3) := by decide +kernel
theorem dX12_gainAll_14 : decode cX12_gainAll 14 = .ok (.iload_n 2, 1) := by decide +kernel
theorem dX12_gainAll_15 : decode cX12_gainAll 15 = .ok (.aload_n 0, 1) := by decide +kernel
theorem dX12_gainAll_16 : decode cX12_gainAll 16 = .ok (.iload_n 3, 1) := by decide +kernel
theorem dX12_gainAll_17 : decode cX12_gainAll 17 = .ok (.aload_n 0, 1) := by decide +kernel
theorem dX12_gainAll_18 : decode cX12_gainAll 18 = .ok (.getfield 96, 3) := by decide +kernel
theorem dX12_gainAll_21 : decode cX12_gainAll 21 = .ok (.bipush 10, 2) := by decide +kernel
theorem dX12_gainAll_23 : decode cX12_gainAll 23 = .ok (.iload_n 1, 1) := by decide +kernel
theorem dX12_gainAll_24 : decode cX12_gainAll 24 = .ok (.imul, 1) := by decide +kernel
theorem dX12_gainAll_25 : decode cX12_gainAll 25 = .ok (.iload_n 3, 1) := by decide +kernel
theorem dX12_gainAll_26 : decode cX12_gainAll 26 = .ok (.iadd, 1) := by decide +kernel
theorem dX12_gainAll_27 : decode cX12_gainAll 27 = .ok (.iaload, 1) := by decide +kernel
theorem dX12_gainAll_28 : decode cX12_gainAll 28 = .ok (.invokevirtual 398, 3) := by decide +kernel
theorem dX12_gainAll_31 : decode cX12_gainAll 31 = .ok (.iadd, 1) := by decide +kernel
theorem dX12_gainAll_32 : decode cX12_gainAll 32 = .ok (.istore_n 2, 1) := by decide +kernel
theorem dX12_gainAll_33 : decode cX12_gainAll 33 = .ok (.iinc 3 1, 3) := by decide +kernel
theorem dX12_gainAll_36 : decode cX12_gainAll 36 = .ok (.goto (-32), 3) := by decide +kernel
theorem dX12_gainAll_39 : decode cX12_gainAll 39 = .ok (.iload_n 2, 1) := by decide +kernel
theorem dX12_gainAll_40 : decode cX12_gainAll 40 = .ok (.ireturn, 1) := by decide +kernel
theorem dX12_go_0 : decode cX12_go 0 = .ok (.aload_n 0, 1) := by decide +kernel
theorem dX12_go_1 : decode cX12_go 1 = .ok (.iconst 0, 1) := by decide +kernel
theorem dX12_go_2 : decode cX12_go 2 = .ok (.putfield 145, 3) := by decide +kernel
theorem dX12_go_5 : decode cX12_go 5 = .ok (.iload_n 1, 1) := by decide +kernel
theorem dX12_go_6 : decode cX12_go 6 = .ok (.ifCond .lt 23, 3) := by decide +kernel
theorem dX12_go_9 : decode cX12_go 9 = .ok (.iload_n 1, 1) := by decide +kernel
theorem dX12_go_10 : decode cX12_go 10 = .ok (.bipush 99, 2) := by decide +kernel
theorem dX12_go_12 : decode cX12_go 12 = .ok (.if_icmp .gt 17, 3) := by decide +kernel
theorem dX12_go_15 : decode cX12_go 15 = .ok (.aload_n 0, 1) := by decide +kernel
theorem dX12_go_16 : decode cX12_go 16 = .ok (.getfield 72, 3) := by decide +kernel
theorem dX12_go_19 : decode cX12_go 19 = .ok (.iconst 0, 1) := by decide +kernel
theorem dX12_go_20 : decode cX12_go 20 = .ok (.iaload, 1) := by decide +kernel
theorem dX12_go_21 : decode cX12_go 21 = .ok (.iload_n 1, 1) := by decide +kernel
theorem dX12_go_22 : decode cX12_go 22 = .ok (.iadd, 1) := by decide +kernel
theorem dX12_go_23 : decode cX12_go 23 = .ok (.sipush 9900, 3) := by decide +kernel
theorem dX12_go_26 : decode cX12_go 26 = .ok (.if_icmp .le 5, 3) := by decide +kernel
theorem dX12_go_29 : decode cX12_go 29 = .ok (.iconst (-1), 1) := by decide +kernel
theorem dX12_go_30 : decode cX12_go 30 = .ok (.ireturn, 1) := by decide +kernel
theorem dX12_go_31 : decode cX12_go 31 = .ok (.iload_n 1, 1) := by decide +kernel
theorem dX12_go_32 : decode cX12_go 32 = .ok (.ifCond .le 8, 3) := by decide +kernel
theorem dX12_go_35 : decode cX12_go 35 = .ok (.aload_n 0, 1) := by decide +kernel
theorem dX12_go_36 : decode cX12_go 36 = .ok (.iconst 0, 1) := by decide +kernel
theorem dX12_go_37 : decode cX12_go 37 = .ok (.putfield 302, 3) := by decide +kernel
theorem dX12_go_40 : decode cX12_go 40 = .ok (.iconst 0, 1) := by decide +kernel
theorem dX12_go_41 : decode cX12_go 41 = .ok (.istore_n 2, 1) := by decide +kernel
theorem dX12_go_42 : decode cX12_go 42 = .ok (.iload_n 2, 1) := by decide +kernel
theorem dX12_go_43 : decode cX12_go 43 = .ok (.iload_n 1, 1) := by decide +kernel
theorem dX12_go_44 : decode cX12_go 44 = .ok (.if_icmp .ge 14, 3) := by decide +kernel
theorem dX12_go_47 : decode cX12_go 47 = .ok (.aload_n 0, 1) := by decide +kernel
theorem dX12_go_48 : decode cX12_go 48 = .ok (.iconst 0, 1) := by decide +kernel
theorem dX12_go_49 : decode cX12_go 49 = .ok (.invokevirtual 395, 3) := by decide +kernel
theorem dX12_go_52 : decode cX12_go 52 = .ok (.iinc 2 1, 3) := by decide +kernel
theorem dX12_go_55 : decode cX12_go 55 = .ok (.goto (-13), 3) := by decide +kernel
theorem dX12_go_58 : decode cX12_go 58 = .ok (.aload_n 0, 1) := by decide +kernel
theorem dX12_go_59 : decode cX12_go 59 = .ok (.getfield 72, 3) := by decide +kernel
theorem dX12_go_62 : decode cX12_go 62 = .ok (.iconst 0, 1) := by decide +kernel
theorem dX12_go_63 : decode cX12_go 63 = .ok (.iaload, 1) := by decide +kernel
theorem dX12_go_64 : decode cX12_go 64 = .ok (.ireturn, 1) := by decide +kernel
theorem dX12_ahead_0 : decode cX12_ahead 0 = .ok (.aload_n 0, 1) := by decide +kernel
theorem dX12_ahead_1 : decode cX12_ahead 1 = .ok (.iconst 0, 1) := by decide +kernel
theorem dX12_ahead_2 : decode cX12_ahead 2 = .ok (.putfield 145, 3) := by decide +kernel
theorem dX12_ahead_5 : decode cX12_ahead 5 = .ok (.iload_n 1, 1) := by decide +kernel
theorem dX12_ahead_6 : decode cX12_ahead 6 = .ok (.ifCond .lt 19, 3) := by decide +kernel
theorem dX12_ahead_9 : decode cX12_ahead 9 = .ok (.iload_n 1, 1) := by decide +kernel
theorem dX12_ahead_10 : decode cX12_ahead 10 = .ok (.bipush 99, 2) := by decide +kernel
theorem dX12_ahead_12 : decode cX12_ahead 12 = .ok (.if_icmp .gt 13, 3) := by decide +kernel
theorem dX12_ahead_15 : decode cX12_ahead 15 = .ok (.iload_n 2, 1) := by decide +kernel
theorem dX12_ahead_16 : decode cX12_ahead 16 = .ok (.ifCond .lt 9, 3) := by decide +kernel
theorem dX12_ahead_19 : decode cX12_ahead 19 = .ok (.iload_n 2, 1) := by decide +kernel
theorem dX12_ahead_20 : decode cX12_ahead 20 = .ok (.bipush 6, 2) := by decide +kernel
theorem dX12_ahead_22 : decode cX12_ahead 22 = .ok (.if_icmp .le 5, 3) := by decide +kernel
theorem dX12_ahead_25 : decode cX12_ahead 25 = .ok (.iconst (-1), 1) := by decide +kernel
theorem dX12_ahead_26 : decode cX12_ahead 26 = .ok (.ireturn, 1) := by decide +kernel
theorem dX12_ahead_27 : decode cX12_ahead 27 = .ok (.aload_n 0, 1) := by decide +kernel
theorem dX12_ahead_28 : decode cX12_ahead 28 = .ok (.iconst 1, 1) := by decide +kernel
theorem dX12_ahead_29 : decode cX12_ahead 29 = .ok (.iconst 0, 1) := by decide +kernel
theorem dX12_ahead_30 : decode cX12_ahead 30 = .ok (.invokevirtual 417, 3) := by decide +kernel
theorem dX12_ahead_33 : decode cX12_ahead 33 = .ok (.aload_n 0, 1) := by decide +kernel
theorem dX12_ahead_34 : decode cX12_ahead 34 = .ok (.iload_n 1, 1) := by decide +kernel
theorem dX12_ahead_35 : decode cX12_ahead 35 = .ok (.invokevirtual 423, 3) := by decide +kernel
theorem dX12_ahead_38 : decode cX12_ahead 38 = .ok (.iload_n 2, 1) := by decide +kernel
theorem dX12_ahead_39 : decode cX12_ahead 39 = .ok (.iconst 4, 1) := by decide +kernel
theorem dX12_ahead_40 : decode cX12_ahead 40 = .ok (.if_icmp .ge 17, 3) := by decide +kernel
theorem dX12_ahead_43 : decode cX12_ahead 43 = .ok (.aload_n 0, 1) := by decide +kernel
theorem dX12_ahead_44 : decode cX12_ahead 44 = .ok (.iconst 1, 1) := by decide +kernel
theorem dX12_ahead_45 : decode cX12_ahead 45 = .ok (.iload_n 2, 1) := by decide +kernel
theorem dX12_ahead_46 : decode cX12_ahead 46 = .ok (.invokevirtual 426, 3) := by decide +kernel
theorem dX12_ahead_49 : decode cX12_ahead 49 = .ok (.aload_n 0, 1) := by decide +kernel
theorem dX12_ahead_50 : decode cX12_ahead 50 = .ok (.iconst 0, 1) := by decide +kernel
theorem dX12_ahead_51 : decode cX12_ahead 51 = .ok (.iload_n 2, 1) := by decide +kernel
theorem dX12_ahead_52 : decode cX12_ahead 52 = .ok (.invokevirtual 426, 3) := by decide +kernel
theorem dX12_ahead_55 : decode cX12_ahead 55 = .ok (.isub, 1) := by decide +kernel
theorem dX12_ahead_56 : decode cX12_ahead 56 = .ok (.ireturn, 1) := by decide +kernel
theorem dX12_ahead_57 : decode cX12_ahead 57 = .ok (.iload_n 2, 1) := by decide +kernel
theorem dX12_ahead_58 : decode cX12_ahead 58 = .ok (.iconst 4, 1) := by decide +kernel
theorem dX12_ahead_59 : decode cX12_ahead 59 = .ok (.if_icmp .ne 15, 3) := by decide +kernel
theorem dX12_ahead_62 : decode cX12_ahead 62 = .ok (.aload_n 0, 1) := by decide +kernel
theorem dX12_ahead_63 : decode cX12_ahead 63 = .ok (.iconst 1, 1) := by decide +kernel
theorem dX12_ahead_64 : decode cX12_ahead 64 = .ok (.invokevirtual 429, 3) := by decide +kernel
theorem dX12_ahead_67 : decode cX12_ahead 67 = .ok (.aload_n 0, 1) := by decide +kernel
theorem dX12_ahead_68 : decode cX12_ahead 68 = .ok (.iconst 0, 1) := by decide +kernel
theorem dX12_ahead_69 : decode cX12_ahead 69 = .ok (.invokevirtual 429, 3) := by decide +kernel
theorem dX12_ahead_72 : decode cX12_ahead 72 = .ok (.isub, 1) := by decide +kernel
theorem dX12_ahead_73 : decode cX12_ahead 73 = .ok (.ireturn, 1) := by decide +kernel
theorem dX12_ahead_74 : decode cX12_ahead 74 = .ok (.iload_n 2, 1) := by decide +kernel
theorem dX12_ahead_75 : decode cX12_ahead 75 = .ok (.iconst 5, 1) := by decide +kernel
theorem dX12_ahead_76 : decode cX12_ahead 76 = .ok (.if_icmp .ne 12, 3) := by decide +kernel
theorem dX12_ahead_79 : decode cX12_ahead 79 = .ok (.aload_n 0, 1) := by decide +kernel
theorem dX12_ahead_80 : decode cX12_ahead 80 = .ok (.getfield 75, 3) := by decide +kernel
theorem dX12_ahead_83 : decode cX12_ahead 83 = .ok (.iconst 1, 1) := by decide +kernel
theorem dX12_ahead_84 : decode cX12_ahead 84 = .ok (.iaload, 1) := by decide +kernel
theorem dX12_ahead_85 : decode cX12_ahead 85 = .ok (.goto 8, 3) := by decide +kernel
theorem dX12_ahead_88 : decode cX12_ahead 88 = .ok (.aload_n 0, 1) := by decide +kernel
theorem dX12_ahead_89 : decode cX12_ahead 89 = .ok (.iconst 1, 1) := by decide +kernel
theorem dX12_ahead_90 : decode cX12_ahead 90 = .ok (.invokevirtual 432, 3) := by decide +kernel
theorem dX12_ahead_93 : decode cX12_ahead 93 = .ok (.ireturn, 1) := by decide +kernel
theorem dX12_teethAll_0 : decode cX12_teethAll 0 = .ok (.iconst 0, 1) := by decide +kernel
theorem dX12_teethAll_1 : decode cX12_teethAll 1 = .ok (.istore_n 2, 1) := by decide +kernel
theorem dX12_teethAll_2 : decode cX12_teethAll 2 = .ok (.iconst 0, 1) := by decide +kernel
theorem dX12_teethAll_3 : decode cX12_teethAll 3 = .ok (.istore_n 3, 1) := by decide +kernel
theorem dX12_teethAll_4 : decode cX12_teethAll 4 = .ok (.iload_n 3, 1) := by decide +kernel
theorem dX12_teethAll_5 : decode cX12_teethAll 5 = .ok (.aload_n 0, 1) := by decide +kernel
theorem dX12_teethAll_6 : decode cX12_teethAll 6 = .ok (.getfield 13, 3) := by decide +kernel
theorem dX12_teethAll_9 : decode cX12_teethAll 9 = .ok (.iconst 0, 1) := by decide +kernel
theorem dX12_teethAll_10 : decode cX12_teethAll 10 = .ok (.iaload, 1) := by decide +kernel
theorem dX12_teethAll_11 : decode cX12_teethAll 11 = .ok (.if_icmp .ge 22, 3) := by decide +kernel
theorem dX12_teethAll_14 : decode cX12_teethAll 14 = .ok (.iload_n 2, 1) := by decide +kernel
theorem dX12_teethAll_15 : decode cX12_teethAll 15 = .ok (.aload_n 0, 1) := by decide +kernel
theorem dX12_teethAll_16 : decode cX12_teethAll 16 = .ok (.getfield 84, 3) := by decide +kernel
theorem dX12_teethAll_19 : decode cX12_teethAll 19 = .ok (.iconst 4, 1) := by decide +kernel
theorem dX12_teethAll_20 : decode cX12_teethAll 20 = .ok (.iload_n 1, 1) := by decide +kernel
theorem dX12_teethAll_21 : decode cX12_teethAll 21 = .ok (.imul, 1) := by decide +kernel
theorem dX12_teethAll_22 : decode cX12_teethAll 22 = .ok (.iload_n 3, 1) := by decide +kernel
theorem dX12_teethAll_23 : decode cX12_teethAll 23 = .ok (.iadd, 1) := by decide +kernel
theorem dX12_teethAll_24 : decode cX12_teethAll 24 = .ok (.iaload, 1) := by decide +kernel
theorem dX12_teethAll_25 : decode cX12_teethAll 25 = .ok (.iadd, 1) := by decide +kernel
theorem dX12_teethAll_26 : decode cX12_teethAll 26 = .ok (.istore_n 2, 1) := by decide +kernel
theorem dX12_teethAll_27 : decode cX12_teethAll 27 = .ok (.iinc 3 1, 3) := by decide +kernel
theorem dX12_teethAll_30 : decode cX12_teethAll 30 = .ok (.goto (-26), 3) := by decide +kernel
theorem dX12_teethAll_33 : decode cX12_teethAll 33 = .ok (.iload_n 2, 1) := by decide +kernel
theorem dX12_teethAll_34 : decode cX12_teethAll 34 = .ok (.ireturn, 1) := by decide +kernel
theorem dX12_power_0 : decode cX12_power 0 = .ok (.iconst 1, 1) := by decide +kernel
theorem dX12_power_1 : decode cX12_power 1 = .ok (.istore_n 2, 1) := by decide +kernel
theorem dX12_power_2 : decode cX12_power 2 = .ok (.iconst 0, 1) := by decide +kernel
theorem dX12_power_3 : decode cX12_power 3 = .ok (.istore_n 3, 1) := by decide +kernel
theorem dX12_power_4 : decode cX12_power 4 = .ok (.iload_n 3, 1) := by decide +kernel
theorem dX12_power_5 : decode cX12_power 5 = .ok (.iload_n 1, 1) := by decide +kernel
theorem dX12_power_6 : decode cX12_power 6 = .ok (.if_icmp .ge 13, 3) := by decide +kernel
theorem dX12_power_9 : decode cX12_power 9 = .ok (.iload_n 2, 1) := by decide +kernel
theorem dX12_power_10 : decode cX12_power 10 = .ok (.iload_n 0, 1) := by decide +kernel
theorem dX12_power_11 : decode cX12_power 11 = .ok (.imul, 1) := by decide +kernel
theorem dX12_power_12 : decode cX12_power 12 = .ok (.istore_n 2, 1) := by decide +kernel
theorem dX12_power_13 : decode cX12_power 13 = .ok (.iinc 3 1, 3) := by decide +kernel
theorem dX12_power_16 : decode cX12_power 16 = .ok (.goto (-12), 3) := by decide +kernel
theorem dX12_power_19 : decode cX12_power 19 = .ok (.iload_n 2, 1) := by decide +kernel
theorem dX12_power_20 : decode cX12_power 20 = .ok (.ireturn, 1) := by decide +kernel
theorem dX12_layDeal_0 : decode cX12_layDeal 0 = .ok (.aload_n 0, 1) := by decide +kernel
theorem dX12_layDeal_1 : decode cX12_layDeal 1 = .ok (.iconst 0, 1) := by decide +kernel
theorem dX12_layDeal_2 : decode cX12_layDeal 2 = .ok (.putfield 435, 3) := by decide +kernel
theorem dX12_layDeal_5 : decode cX12_layDeal 5 = .ok (.iconst 0, 1) := by decide +kernel
theorem dX12_layDeal_6 : decode cX12_layDeal 6 = .ok (.istore_n 2, 1) := by decide +kernel
theorem dX12_layDeal_7 : decode cX12_layDeal 7 = .ok (.iload_n 2, 1) := by decide +kernel
theorem dX12_layDeal_8 : decode cX12_layDeal 8 = .ok (.aload_n 0, 1) := by decide +kernel
theorem dX12_layDeal_9 : decode cX12_layDeal 9 = .ok (.getfield 13, 3) := by decide +kernel
theorem dX12_layDeal_12 : decode cX12_layDeal 12 = .ok (.iconst 2, 1) := by decide +kernel
theorem dX12_layDeal_13 : decode cX12_layDeal 13 = .ok (.iaload, 1) := by decide +kernel
theorem dX12_layDeal_14 : decode cX12_layDeal 14 = .ok (.if_icmp .ge 49, 3) := by decide +kernel
theorem dX12_layDeal_17 : decode cX12_layDeal 17 = .ok (.aload_n 0, 1) := by decide +kernel
theorem dX12_layDeal_18 : decode cX12_layDeal 18 = .ok (.getfield 435, 3) := by decide +kernel
theorem dX12_layDeal_21 : decode cX12_layDeal 21 = .ok (.iconst 4, 1) := by decide +kernel
theorem dX12_layDeal_22 : decode cX12_layDeal 22 = .ok (.if_icmp .ge 41, 3) := by decide +kernel
theorem dX12_layDeal_25 : decode cX12_layDeal 25 = .ok (.aload_n 0, 1) := by decide +kernel
theorem dX12_layDeal_26 : decode cX12_layDeal 26 = .ok (.iconst 0, 1) := by decide +kernel
theorem dX12_layDeal_27 : decode cX12_layDeal 27 = .ok (.iload_n 2, 1) := by decide +kernel
theorem dX12_layDeal_28 : decode cX12_layDeal 28 = .ok (.invokevirtual 379, 3) := by decide +kernel
theorem dX12_layDeal_31 : decode cX12_layDeal 31 = .ok (.ifCond .ne 6, 3) := by decide +kernel
theorem dX12_layDeal_34 : decode cX12_layDeal 34 = .ok (.goto 23, 3) := by decide +kernel
theorem dX12_layDeal_37 : decode cX12_layDeal 37 = .ok (.aload_n 0, 1) := by decide +kernel
theorem dX12_layDeal_38 : decode cX12_layDeal 38 = .ok (.getfield 105, 3) := by decide +kernel
theorem dX12_layDeal_41 : decode cX12_layDeal 41 = .ok (.aload_n 0, 1) := by decide +kernel
theorem dX12_layDeal_42 : decode cX12_layDeal 42 = .ok (.getfield 435, 3) := by decide +kernel
theorem dX12_layDeal_45 : decode cX12_layDeal 45 = .ok (.iload_n 2, 1) := by decide +kernel
theorem dX12_layDeal_46 : decode cX12_layDeal 46 = .ok (.iastore, 1) := by decide +kernel
theorem dX12_layDeal_47 : decode cX12_layDeal 47 = .ok (.aload_n 0, 1) := by decide +kernel
theorem dX12_layDeal_48 : decode cX12_layDeal 48 = .ok (.dup, 1) := by decide +kernel
theorem dX12_layDeal_49 : decode cX12_layDeal 49 = .ok (.getfield 435, 3) := by decide +kernel
theorem dX12_layDeal_52 : decode cX12_layDeal 52 = .ok (.iconst 1, 1) := by decide +kernel
theorem dX12_layDeal_53 : decode cX12_layDeal 53 = .ok (.iadd, 1) := by decide +kernel
theorem dX12_layDeal_54 : decode cX12_layDeal 54 = .ok (.putfield 435, 3) := by decide +kernel
theorem dX12_layDeal_57 : decode cX12_layDeal 57 = .ok (.iinc 2 1, 3) := by decide +kernel
theorem dX12_layDeal_60 : decode cX12_layDeal 60 = .ok (.goto (-53), 3) := by decide +kernel
theorem dX12_layDeal_63 : decode cX12_layDeal 63 = .ok (.aload_n 0, 1) := by decide +kernel
theorem dX12_layDeal_64 : decode cX12_layDeal 64 = .ok (.iconst (-1), 1) := by decide +kernel
theorem dX12_layDeal_65 : decode cX12_layDeal 65 = .ok (.putfield 438, 3) := by decide +kernel
theorem dX12_layDeal_68 : decode cX12_layDeal 68 = .ok (.iconst 0, 1) := by decide +kernel
theorem dX12_layDeal_69 : decode cX12_layDeal 69 = .ok (.istore_n 2, 1) := by decide +kernel
theorem dX12_layDeal_70 : decode cX12_layDeal 70 = .ok (.iload_n 2, 1) := by decide +kernel
theorem dX12_layDeal_71 : decode cX12_layDeal 71 = .ok (.aload_n 0, 1) := by decide +kernel
theorem dX12_layDeal_72 : decode cX12_layDeal 72 = .ok (.getfield 13, 3) := by decide +kernel
theorem dX12_layDeal_75 : decode cX12_layDeal 75 = .ok (.iconst 0, 1) := by decide +kernel
theorem dX12_layDeal_76 : decode cX12_layDeal 76 = .ok (.iaload, 1) := by decide +kernel
theorem dX12_layDeal_77 : decode cX12_layDeal 77 = .ok (.aload_n 0, 1) := by decide +kernel
theorem dX12_layDeal_78 : decode cX12_layDeal 78 = .ok (.getfield 435, 3) := by decide +kernel
theorem dX12_layDeal_81 : decode cX12_layDeal 81 = .ok (.invokestatic 441, 3) := by decide +kernel
theorem dX12_layDeal_84 : decode cX12_layDeal 84 = .ok (.if_icmp .ge 109, 3) := by decide +kernel
theorem dX12_layDeal_87 : decode cX12_layDeal 87 = .ok (.aload_n 0, 1) := by decide +kernel
theorem dX12_layDeal_88 : decode cX12_layDeal 88 = .ok (.iconst 1, 1) := by decide +kernel
theorem dX12_layDeal_89 : decode cX12_layDeal 89 = .ok (.iconst 0, 1) := by decide +kernel
theorem dX12_layDeal_90 : decode cX12_layDeal 90 = .ok (.invokevirtual 417, 3) := by decide +kernel
theorem dX12_layDeal_93 : decode cX12_layDeal 93 = .ok (.iconst 0, 1) := by decide +kernel
theorem dX12_layDeal_94 : decode cX12_layDeal 94 = .ok (.istore_n 3, 1) := by decide +kernel
theorem dX12_layDeal_95 : decode cX12_layDeal 95 = .ok (.iload_n 3, 1) := by decide +kernel
theorem dX12_layDeal_96 : decode cX12_layDeal 96 = .ok (.aload_n 0, 1) := by decide +kernel
theorem dX12_layDeal_97 : decode cX12_layDeal 97 = .ok (.getfield 435, 3) := by decide +kernel
theorem dX12_layDeal_100 : decode cX12_layDeal 100 = .ok (.if_icmp .ge 49, 3) := by decide +kernel
theorem dX12_layDeal_103 : decode cX12_layDeal 103 = .ok (.aload_n 0, 1) := by decide +kernel
theorem dX12_layDeal_104 : decode cX12_layDeal 104 = .ok (.getfield 90, 3) := by decide +kernel
theorem dX12_layDeal_107 : decode cX12_layDeal 107 = .ok (.bipush 10, 2) := by decide +kernel
theorem dX12_layDeal_109 : decode cX12_layDeal 109 = .ok (.aload_n 0, 1) := by decide +kernel
theorem dX12_layDeal_110 : decode cX12_layDeal 110 = .ok (.getfield 105, 3) := by decide +kernel
theorem dX12_layDeal_113 : decode cX12_layDeal 113 = .ok (.iload_n 3, 1) := by decide +kernel
theorem dX12_layDeal_114 : decode cX12_layDeal 114 = .ok (.iaload, 1) := by decide +kernel
theorem dX12_layDeal_115 : decode cX12_layDeal 115 = .ok (.iadd, 1) := by decide +kernel
theorem dX12_layDeal_116 : decode cX12_layDeal 116 = .ok (.iload_n 2, 1) := by decide +kernel
theorem dX12_layDeal_117 : decode cX12_layDeal 117 = .ok (.aload_n 0, 1) := by decide +kernel
theorem dX12_layDeal_118 : decode cX12_layDeal 118 = .ok (.getfield 13, 3) := by decide +kernel
theorem dX12_layDeal_121 : decode cX12_layDeal 121 = .ok (.iconst 0, 1) := by decide +kernel
theorem dX12_layDeal_122 : decode cX12_layDeal 122 = .ok (.iaload, 1) := by decide +kernel
theorem dX12_layDeal_123 : decode cX12_layDeal 123 = .ok (.aload_n 0, 1) := by decide +kernel
theorem dX12_layDeal_124 : decode cX12_layDeal 124 = .ok (.getfield 435, 3) := by decide +kernel
theorem dX12_layDeal_127 : decode cX12_layDeal 127 = .ok (.iconst 1, 1) := by decide +kernel
theorem dX12_layDeal_128 : decode cX12_layDeal 128 = .ok (.isub, 1) := by decide +kernel
theorem dX12_layDeal_129 : decode cX12_layDeal 129 = .ok (.iload_n 3, 1) := by decide +kernel
theorem dX12_layDeal_130 : decode cX12_layDeal 130 = .ok (.isub, 1) := by decide +kernel
theorem dX12_layDeal_131 : decode cX12_layDeal 131 = .ok (.invokestatic 441, 3) := by decide +kernel
theorem dX12_layDeal_134 : decode cX12_layDeal 134 = .ok (.idiv, 1) := by decide +kernel
theorem dX12_layDeal_135 : decode cX12_layDeal 135 = .ok (.aload_n 0, 1) := by decide +kernel
theorem dX12_layDeal_136 : decode cX12_layDeal 136 = .ok (.getfield 13, 3) := by decide +kernel
theorem dX12_layDeal_139 : decode cX12_layDeal 139 = .ok (.iconst 0, 1) := by decide +kernel
theorem dX12_layDeal_140 : decode cX12_layDeal 140 = .ok (.iaload, 1) := by decide +kernel
theorem dX12_layDeal_141 : decode cX12_layDeal 141 = .ok (.irem, 1) := by decide +kernel
theorem dX12_layDeal_142 : decode cX12_layDeal 142 = .ok (.iastore, 1) := by decide +kernel
theorem dX12_layDeal_143 : decode cX12_layDeal 143 = .ok (.iinc 3 1, 3) := by decide +kernel
theorem dX12_layDeal_146 : decode cX12_layDeal 146 = .ok (.goto (-51), 3) := by decide +kernel
theorem dX12_layDeal_149 : decode cX12_layDeal 149 = .ok (.aload_n 0, 1) := by decide +kernel
theorem dX12_layDeal_150 : decode cX12_layDeal 150 = .ok (.iload_n 1, 1) := by decide +kernel
theorem dX12_layDeal_151 : decode cX12_layDeal 151 = .ok (.invokevirtual 423, 3) := by decide +kernel
theorem dX12_layDeal_154 : decode cX12_layDeal 154 = .ok (.aload_n 0, 1) := by decide +kernel
theorem dX12_layDeal_155 : decode cX12_layDeal 155 = .ok (.iconst 1, 1) := by decide +kernel
theorem dX12_layDeal_156 : decode cX12_layDeal 156 = .ok (.invokevirtual 429, 3) := by decide +kernel
theorem dX12_layDeal_159 : decode cX12_layDeal 159 = .ok (.aload_n 0, 1) := by decide +kernel
theorem dX12_layDeal_160 : decode cX12_layDeal 160 = .ok (.iconst 0, 1) := by decide +kernel
theorem dX12_layDeal_161 : decode cX12_layDeal 161 = .ok (.invokevirtual 429, 3) := by decide +kernel
theorem dX12_layDeal_164 : decode cX12_layDeal 164 = .ok (.isub, 1) := by decide +kernel
theorem dX12_layDeal_165 : decode cX12_layDeal 165 = .ok (.istore_n 3, 1) := by decide +kernel
theorem dX12_layDeal_166 : decode cX12_layDeal 166 = .ok (.iload_n 3, 1) := by decide +kernel
theorem dX12_layDeal_167 : decode cX12_layDeal 167 = .ok (.aload_n 0, 1) := by decide +kernel
theorem dX12_layDeal_168 : decode cX12_layDeal 168 = .ok (.getfield 438, 3) := by decide +kernel
theorem dX12_layDeal_171 : decode cX12_layDeal 171 = .ok (.if_icmp .gt 6, 3) := by decide +kernel
theorem dX12_layDeal_174 : decode cX12_layDeal 174 = .ok (.goto 13, 3) := by decide +kernel
theorem dX12_layDeal_177 : decode cX12_layDeal 177 = .ok (.aload_n 0, 1) := by decide +kernel
theorem dX12_layDeal_178 : decode cX12_layDeal 178 = .ok (.iload_n 3, 1) := by decide +kernel
theorem dX12_layDeal_179 : decode cX12_layDeal 179 = .ok (.putfield 438, 3) := by decide +kernel
theorem dX12_layDeal_182 : decode cX12_layDeal 182 = .ok (.aload_n 0, 1) := by decide +kernel
theorem dX12_layDeal_183 : decode cX12_layDeal 183 = .ok (.iload_n 2, 1) := by decide +kernel
theorem dX12_layDeal_184 : decode cX12_layDeal 184 = .ok (.putfield 444, 3) := by decide +kernel
theorem dX12_layDeal_187 : decode cX12_layDeal 187 = .ok (.iinc 2 1, 3) := by decide +kernel
theorem dX12_layDeal_190 : decode cX12_layDeal 190 = .ok (.goto (-120), 3) := by decide +kernel
theorem dX12_layDeal_193 : decode cX12_layDeal 193 = .ok (.return_, 1) := by decide +kernel
theorem dX12_deal_0 : decode cX12_deal 0 = .ok (.aload_n 0, 1) := by decide +kernel
theorem dX12_deal_1 : decode cX12_deal 1 = .ok (.iconst 0, 1) := by decide +kernel
theorem dX12_deal_2 : decode cX12_deal 2 = .ok (.putfield 145, 3) := by decide +kernel
theorem dX12_deal_5 : decode cX12_deal 5 = .ok (.iload_n 1, 1) := by decide +kernel
theorem dX12_deal_6 : decode cX12_deal 6 = .ok (.iconst 1, 1) := by decide +kernel
theorem dX12_deal_7 : decode cX12_deal 7 = .ok (.if_icmp .lt 27, 3) := by decide +kernel
theorem dX12_deal_10 : decode cX12_deal 10 = .ok (.iload_n 1, 1) := by decide +kernel
theorem dX12_deal_11 : decode cX12_deal 11 = .ok (.bipush 60, 2) := by decide +kernel
theorem dX12_deal_13 : decode cX12_deal 13 = .ok (.if_icmp .gt 21, 3) := by decide +kernel
theorem dX12_deal_16 : decode cX12_deal 16 = .ok (.iload_n 2, 1) := by decide +kernel
theorem dX12_deal_17 : decode cX12_deal 17 = .ok (.ifCond .lt 17, 3) := by decide +kernel
theorem dX12_deal_20 : decode cX12_deal 20 = .ok (.iload_n 2, 1) := by decide +kernel
theorem dX12_deal_21 : decode cX12_deal 21 = .ok (.iconst 4, 1) := by decide +kernel
theorem dX12_deal_22 : decode cX12_deal 22 = .ok (.if_icmp .gt 12, 3) := by decide +kernel
theorem dX12_deal_25 : decode cX12_deal 25 = .ok (.aload_n 0, 1) := by decide +kernel
theorem dX12_deal_26 : decode cX12_deal 26 = .ok (.getfield 13, 3) := by decide +kernel
theorem dX12_deal_29 : decode cX12_deal 29 = .ok (.iconst 0, 1) := by decide +kernel
theorem dX12_deal_30 : decode cX12_deal 30 = .ok (.iaload, 1) := by decide +kernel
theorem dX12_deal_31 : decode cX12_deal 31 = .ok (.ifCond .ne 5, 3) := by decide +kernel
theorem dX12_deal_34 : decode cX12_deal 34 = .ok (.iconst (-1), 1) := by decide +kernel
theorem dX12_deal_35 : decode cX12_deal 35 = .ok (.ireturn, 1) := by decide +kernel
theorem dX12_deal_36 : decode cX12_deal 36 = .ok (.aload_n 0, 1) := by decide +kernel
theorem dX12_deal_37 : decode cX12_deal 37 = .ok (.iload_n 1, 1) := by decide +kernel
theorem dX12_deal_38 : decode cX12_deal 38 = .ok (.invokevirtual 447, 3) := by decide +kernel
theorem dX12_deal_41 : decode cX12_deal 41 = .ok (.iload_n 2, 1) := by decide +kernel
theorem dX12_deal_42 : decode cX12_deal 42 = .ok (.iconst 4, 1) := by decide +kernel
theorem dX12_deal_43 : decode cX12_deal 43 = .ok (.if_icmp .ne 8, 3) := by decide +kernel
theorem dX12_deal_46 : decode cX12_deal 46 = .ok (.aload_n 0, 1) := by decide +kernel
theorem dX12_deal_47 : decode cX12_deal 47 = .ok (.getfield 438, 3) := by decide +kernel
theorem dX12_deal_50 : decode cX12_deal 50 = .ok (.ireturn, 1) := by decide +kernel
theorem dX12_deal_51 : decode cX12_deal 51 = .ok (.iload_n 2, 1) := by decide +kernel
theorem dX12_deal_52 : decode cX12_deal 52 = .ok (.aload_n 0, 1) := by decide +kernel
theorem dX12_deal_53 : decode cX12_deal 53 = .ok (.getfield 435, 3) := by decide +kernel
theorem dX12_deal_56 : decode cX12_deal 56 = .ok (.if_icmp .ge 35, 3) := by decide +kernel
theorem dX12_deal_59 : decode cX12_deal 59 = .ok (.aload_n 0, 1) := by decide +kernel
theorem dX12_deal_60 : decode cX12_deal 60 = .ok (.getfield 444, 3) := by decide +kernel
theorem dX12_deal_63 : decode cX12_deal 63 = .ok (.aload_n 0, 1) := by decide +kernel
theorem dX12_deal_64 : decode cX12_deal 64 = .ok (.getfield 13, 3) := by decide +kernel
theorem dX12_deal_67 : decode cX12_deal 67 = .ok (.iconst 0, 1) := by decide +kernel
theorem dX12_deal_68 : decode cX12_deal 68 = .ok (.iaload, 1) := by decide +kernel
theorem dX12_deal_69 : decode cX12_deal 69 = .ok (.aload_n 0, 1) := by decide +kernel
theorem dX12_deal_70 : decode cX12_deal 70 = .ok (.getfield 435, 3) := by decide +kernel
theorem dX12_deal_73 : decode cX12_deal 73 = .ok (.iconst 1, 1) := by decide +kernel
theorem dX12_deal_74 : decode cX12_deal 74 = .ok (.isub, 1) := by decide +kernel
theorem dX12_deal_75 : decode cX12_deal 75 = .ok (.iload_n 2, 1) := by decide +kernel
theorem dX12_deal_76 : decode cX12_deal 76 = .ok (.isub, 1) := by decide +kernel
theorem dX12_deal_77 : decode cX12_deal 77 = .ok (.invokestatic 441, 3) := by decide +kernel
theorem dX12_deal_80 : decode cX12_deal 80 = .ok (.idiv, 1) := by decide +kernel
theorem dX12_deal_81 : decode cX12_deal 81 = .ok (.aload_n 0, 1) := by decide +kernel
theorem dX12_deal_82 : decode cX12_deal 82 = .ok (.getfield 13, 3) := by decide +kernel
theorem dX12_deal_85 : decode cX12_deal 85 = .ok (.iconst 0, 1) := by decide +kernel
theorem dX12_deal_86 : decode cX12_deal 86 = .ok (.iaload, 1) := by decide +kernel
theorem dX12_deal_87 : decode cX12_deal 87 = .ok (.irem, 1) := by decide +kernel
theorem dX12_deal_88 : decode cX12_deal 88 = .ok (.goto 5, 3) := by decide +kernel
theorem dX12_deal_91 : decode cX12_deal 91 = .ok (.bipush (-2), 2) := by decide +kernel
theorem dX12_deal_93 : decode cX12_deal 93 = .ok (.ireturn, 1) := by decide +kernel
theorem dX12_orders_0 : decode cX12_orders 0 = .ok (.iload_n 1, 1) := by decide +kernel
theorem dX12_orders_1 : decode cX12_orders 1 = .ok (.aload_n 0, 1) := by decide +kernel
theorem dX12_orders_2 : decode cX12_orders 2 = .ok (.getfield 450, 3) := by decide +kernel
theorem dX12_orders_5 : decode cX12_orders 5 = .ok (.if_icmp .ge 56, 3) := by decide +kernel
theorem dX12_orders_8 : decode cX12_orders 8 = .ok (.iconst 0, 1) := by decide +kernel
theorem dX12_orders_9 : decode cX12_orders 9 = .ok (.istore_n 3, 1) := by decide +kernel
theorem dX12_orders_10 : decode cX12_orders 10 = .ok (.iload_n 3, 1) := by decide +kernel
theorem dX12_orders_11 : decode cX12_orders 11 = .ok (.aload_n 0, 1) := by decide +kernel
theorem dX12_orders_12 : decode cX12_orders 12 = .ok (.getfield 450, 3) := by decide +kernel
theorem dX12_orders_15 : decode cX12_orders 15 = .ok (.if_icmp .ge 45, 3) := by decide +kernel
theorem dX12_orders_18 : decode cX12_orders 18 = .ok (.iload_n 2, 1) := by decide +kernel
theorem dX12_orders_19 : decode cX12_orders 19 = .ok (.iload_n 3, 1) := by decide +kernel
theorem dX12_orders_20 : decode cX12_orders 20 = .ok (.ishr, 1) := by decide +kernel
theorem dX12_orders_21 : decode cX12_orders 21 = .ok (.iconst 1, 1) := by decide +kernel
theorem dX12_orders_22 : decode cX12_orders 22 = .ok (.iand, 1) := by decide +kernel
theorem dX12_orders_23 : decode cX12_orders 23 = .ok (.iconst 1, 1) := by decide +kernel
theorem dX12_orders_24 : decode cX12_orders 24 = .ok (.if_icmp .ne 6, 3) := by decide +kernel
theorem dX12_orders_27 : decode cX12_orders 27 = .ok (.goto 27, 3) := by decide +kernel
theorem dX12_orders_30 : decode cX12_orders 30 = .ok (.aload_n 0, 1) := by decide +kernel
theorem dX12_orders_31 : decode cX12_orders 31 = .ok (.getfield 111, 3) := by decide +kernel
theorem dX12_orders_34 : decode cX12_orders 34 = .ok (.iload_n 1, 1) := by decide +kernel
theorem dX12_orders_35 : decode cX12_orders 35 = .ok (.aload_n 0, 1) := by decide +kernel
theorem dX12_orders_36 : decode cX12_orders 36 = .ok (.getfield 108, 3) := by decide +kernel
theorem dX12_orders_39 : decode cX12_orders 39 = .ok (.iload_n 3, 1) := by decide +kernel
theorem dX12_orders_40 : decode cX12_orders 40 = .ok (.iaload, 1) := by decide +kernel
theorem dX12_orders_41 : decode cX12_orders 41 = .ok (.iastore, 1) := by decide +kernel
theorem dX12_orders_42 : decode cX12_orders 42 = .ok (.aload_n 0, 1) := by decide +kernel
theorem dX12_orders_43 : decode cX12_orders 43 = .ok (.iload_n 1, 1) := by decide +kernel
theorem dX12_orders_44 : decode cX12_orders 44 = .ok (.iconst 1, 1) := by decide +kernel
theorem dX12_orders_45 : decode cX12_orders 45 = .ok (.iadd, 1) := by decide +kernel
theorem dX12_orders_46 : decode cX12_orders 46 = .ok (.iload_n 2, 1) := by decide +kernel
theorem dX12_orders_47 : decode cX12_orders 47 = .ok (.iconst 1, 1) := by decide +kernel
theorem dX12_orders_48 : decode cX12_orders 48 = .ok (.iload_n 3, 1) := by decide +kernel
theorem dX12_orders_49 : decode cX12_orders 49 = .ok (.ishl, 1) := by decide +kernel
theorem dX12_orders_50 : decode cX12_orders 50 = .ok (.ior, 1) := by decide +kernel
theorem dX12_orders_51 : decode cX12_orders 51 = .ok (.invokevirtual 453, 3) := by decide +kernel
theorem dX12_orders_54 : decode cX12_orders 54 = .ok (.iinc 3 1, 3) := by decide +kernel
theorem dX12_orders_57 : decode cX12_orders 57 = .ok (.goto (-47), 3) := by decide +kernel
theorem dX12_orders_60 : decode cX12_orders 60 = .ok (.return_, 1) := by decide +kernel
theorem dX12_orders_61 : decode cX12_orders 61 = .ok (.aload_n 0, 1) := by decide +kernel
theorem dX12_orders_62 : decode cX12_orders 62 = .ok (.iconst 1, 1) := by decide +kernel
theorem dX12_orders_63 : decode cX12_orders 63 = .ok (.iconst 0, 1) := by decide +kernel
theorem dX12_orders_64 : decode cX12_orders 64 = .ok (.invokevirtual 417, 3) := by decide +kernel
theorem dX12_orders_67 : decode cX12_orders 67 = .ok (.iconst 0, 1) := by decide +kernel
theorem dX12_orders_68 : decode cX12_orders 68 = .ok (.istore_n 3, 1) := by decide +kernel
theorem dX12_orders_69 : decode cX12_orders 69 = .ok (.iload_n 3, 1) := by decide +kernel
theorem dX12_orders_70 : decode cX12_orders 70 = .ok (.aload_n 0, 1) := by decide +kernel
theorem dX12_orders_71 : decode cX12_orders 71 = .ok (.getfield 450, 3) := by decide +kernel
theorem dX12_orders_74 : decode cX12_orders 74 = .ok (.if_icmp .ge 20, 3) := by decide +kernel
theorem dX12_orders_77 : decode cX12_orders 77 = .ok (.aload_n 0, 1) := by decide +kernel
theorem dX12_orders_78 : decode cX12_orders 78 = .ok (.iconst 1, 1) := by decide +kernel
theorem dX12_orders_79 : decode cX12_orders 79 = .ok (.aload_n 0, 1) := by decide +kernel
theorem dX12_orders_80 : decode cX12_orders 80 = .ok (.getfield 111, 3) := by decide +kernel
theorem dX12_orders_83 : decode cX12_orders 83 = .ok (.iload_n 3, 1) := by decide +kernel
theorem dX12_orders_84 : decode cX12_orders 84 = .ok (.iaload, 1) := by decide +kernel
theorem dX12_orders_85 : decode cX12_orders 85 = .ok (.invokevirtual 386, 3) := by decide +kernel
theorem dX12_orders_88 : decode cX12_orders 88 = .ok (.iinc 3 1, 3) := by decide +kernel
theorem dX12_orders_91 : decode cX12_orders 91 = .ok (.goto (-22), 3) := by decide +kernel
theorem dX12_orders_94 : decode cX12_orders 94 = .ok (.aload_n 0, 1) := by decide +kernel
theorem dX12_orders_95 : decode cX12_orders 95 = .ok (.iconst 1, 1) := by decide +kernel
theorem dX12_orders_96 : decode cX12_orders 96 = .ok (.invokevirtual 389, 3) := by decide +kernel
theorem dX12_orders_99 : decode cX12_orders 99 = .ok (.aload_n 0, 1) := by decide +kernel
theorem dX12_orders_100 : decode cX12_orders 100 = .ok (.iconst 1, 1) := by decide +kernel
theorem dX12_orders_101 : decode cX12_orders 101 = .ok (.invokevirtual 429, 3) := by decide +kernel
theorem dX12_orders_104 : decode cX12_orders 104 = .ok (.aload_n 0, 1) := by decide +kernel
theorem dX12_orders_105 : decode cX12_orders 105 = .ok (.iconst 0, 1) := by decide +kernel
theorem dX12_orders_106 : decode cX12_orders 106 = .ok (.invokevirtual 429, 3) := by decide +kernel
theorem dX12_orders_109 : decode cX12_orders 109 = .ok (.isub, 1) := by decide +kernel
theorem dX12_orders_110 : decode cX12_orders 110 = .ok (.istore_n 3, 1) := by decide +kernel
theorem dX12_orders_111 : decode cX12_orders 111 = .ok (.iload_n 3, 1) := by decide +kernel
theorem dX12_orders_112 : decode cX12_orders 112 = .ok (.aload_n 0, 1) := by decide +kernel
theorem dX12_orders_113 : decode cX12_orders 113 = .ok (.getfield 456, 3) := by decide +kernel
theorem dX12_orders_116 : decode cX12_orders 116 = .ok (.if_icmp .gt 4, 3) := by decide +kernel
theorem dX12_orders_119 : decode cX12_orders 119 = .ok (.return_, 1) := by decide +kernel
theorem dX12_orders_120 : decode cX12_orders 120 = .ok (.aload_n 0, 1) := by decide +kernel
theorem dX12_orders_121 : decode cX12_orders 121 = .ok (.iload_n 3, 1) := by decide +kernel
theorem dX12_orders_122 : decode cX12_orders 122 = .ok (.putfield 456, 3) := by decide +kernel
theorem dX12_orders_125 : decode cX12_orders 125 = .ok (.iconst 0, 1) := by decide +kernel
theorem dX12_orders_126 : decode cX12_orders 126 = .ok (.istore 4, 2) := by decide +kernel
theorem dX12_orders_128 : decode cX12_orders 128 = .ok (.iload 4, 2) := by decide +kernel
theorem dX12_orders_130 : decode cX12_orders 130 = .ok (.aload_n 0, 1) := by decide +kernel
theorem dX12_orders_131 : decode cX12_orders 131 = .ok (.getfield 450, 3) := by decide +kernel
theorem dX12_orders_134 : decode cX12_orders 134 = .ok (.if_icmp .ge 23, 3) := by decide +kernel
theorem dX12_orders_137 : decode cX12_orders 137 = .ok (.aload_n 0, 1) := by decide +kernel
theorem dX12_orders_138 : decode cX12_orders 138 = .ok (.getfield 114, 3) := by decide +kernel
theorem dX12_orders_141 : decode cX12_orders 141 = .ok (.iload 4, 2) := by decide +kernel
theorem dX12_orders_143 : decode cX12_orders 143 = .ok (.aload_n 0, 1) := by decide +kernel
theorem dX12_orders_144 : decode cX12_orders 144 = .ok (.getfield 111, 3) := by decide +kernel
theorem dX12_orders_147 : decode cX12_orders 147 = .ok (.iload 4, 2) := by decide +kernel
theorem dX12_orders_149 : decode cX12_orders 149 = .ok (.iaload, 1) := by decide +kernel
theorem dX12_orders_150 : decode cX12_orders 150 = .ok (.iastore, 1) := by decide +kernel
theorem dX12_orders_151 : decode cX12_orders 151 = .ok (.iinc 4 1, 3) := by decide +kernel
theorem dX12_orders_154 : decode cX12_orders 154 = .ok (.goto (-26), 3) := by decide +kernel
theorem dX12_orders_157 : decode cX12_orders 157 = .ok (.return_, 1) := by decide +kernel
theorem dX12_order_0 : decode cX12_order 0 = .ok (.aload_n 0, 1) := by decide +kernel
theorem dX12_order_1 : decode cX12_order 1 = .ok (.iconst 0, 1) := by decide +kernel
theorem dX12_order_2 : decode cX12_order 2 = .ok (.putfield 145, 3) := by decide +kernel
theorem dX12_order_5 : decode cX12_order 5 = .ok (.iload_n 1, 1) := by decide +kernel
theorem dX12_order_6 : decode cX12_order 6 = .ok (.ifCond .lt 8, 3) := by decide +kernel
theorem dX12_order_9 : decode cX12_order 9 = .ok (.iload_n 1, 1) := by decide +kernel
theorem dX12_order_10 : decode cX12_order 10 = .ok (.iconst 5, 1) := by decide +kernel
theorem dX12_order_11 : decode cX12_order 11 = .ok (.if_icmp .le 5, 3) := by decide +kernel
theorem dX12_order_14 : decode cX12_order 14 = .ok (.iconst (-1), 1) := by decide +kernel
theorem dX12_order_15 : decode cX12_order 15 = .ok (.ireturn, 1) := by decide +kernel
theorem dX12_order_16 : decode cX12_order 16 = .ok (.aload_n 0, 1) := by decide +kernel
theorem dX12_order_17 : decode cX12_order 17 = .ok (.iconst 0, 1) := by decide +kernel
theorem dX12_order_18 : decode cX12_order 18 = .ok (.putfield 450, 3) := by decide +kernel
theorem dX12_order_21 : decode cX12_order 21 = .ok (.iconst 0, 1) := by decide +kernel
theorem dX12_order_22 : decode cX12_order 22 = .ok (.istore_n 2, 1) := by decide +kernel
theorem dX12_order_23 : decode cX12_order 23 = .ok (.iload_n 2, 1) := by decide +kernel
theorem dX12_order_24 : decode cX12_order 24 = .ok (.aload_n 0, 1) := by decide +kernel
theorem dX12_order_25 : decode cX12_order 25 = .ok (.getfield 13, 3) := by decide +kernel
theorem dX12_order_28 : decode cX12_order 28 = .ok (.iconst 2, 1) := by decide +kernel
theorem dX12_order_29 : decode cX12_order 29 = .ok (.iaload, 1) := by decide +kernel
theorem dX12_order_30 : decode cX12_order 30 = .ok (.if_icmp .ge 49, 3) := by decide +kernel
theorem dX12_order_33 : decode cX12_order 33 = .ok (.aload_n 0, 1) := by decide +kernel
theorem dX12_order_34 : decode cX12_order 34 = .ok (.getfield 450, 3) := by decide +kernel
theorem dX12_order_37 : decode cX12_order 37 = .ok (.iconst 5, 1) := by decide +kernel
theorem dX12_order_38 : decode cX12_order 38 = .ok (.if_icmp .ge 41, 3) := by decide +kernel
theorem dX12_order_41 : decode cX12_order 41 = .ok (.aload_n 0, 1) := by decide +kernel
theorem dX12_order_42 : decode cX12_order 42 = .ok (.iconst 0, 1) := by decide +kernel
theorem dX12_order_43 : decode cX12_order 43 = .ok (.iload_n 2, 1) := by decide +kernel
theorem dX12_order_44 : decode cX12_order 44 = .ok (.invokevirtual 383, 3) := by decide +kernel
theorem dX12_order_47 : decode cX12_order 47 = .ok (.ifCond .ne 6, 3) := by decide +kernel
theorem dX12_order_50 : decode cX12_order 50 = .ok (.goto 23, 3) := by decide +kernel
theorem dX12_order_53 : decode cX12_order 53 = .ok (.aload_n 0, 1) := by decide +kernel
theorem dX12_order_54 : decode cX12_order 54 = .ok (.getfield 108, 3) := by decide +kernel
theorem dX12_order_57 : decode cX12_order 57 = .ok (.aload_n 0, 1) := by decide +kernel
theorem dX12_order_58 : decode cX12_order 58 = .ok (.getfield 450, 3) := by decide +kernel
theorem dX12_order_61 : decode cX12_order 61 = .ok (.iload_n 2, 1) := by decide +kernel
theorem dX12_order_62 : decode cX12_order 62 = .ok (.iastore, 1) := by decide +kernel
theorem dX12_order_63 : decode cX12_order 63 = .ok (.aload_n 0, 1) := by decide +kernel
theorem dX12_order_64 : decode cX12_order 64 = .ok (.dup, 1) := by decide +kernel
theorem dX12_order_65 : decode cX12_order 65 = .ok (.getfield 450, 3) := by decide +kernel
theorem dX12_order_68 : decode cX12_order 68 = .ok (.iconst 1, 1) := by decide +kernel
theorem dX12_order_69 : decode cX12_order 69 = .ok (.iadd, 1) := by decide +kernel
theorem dX12_order_70 : decode cX12_order 70 = .ok (.putfield 450, 3) := by decide +kernel
theorem dX12_order_73 : decode cX12_order 73 = .ok (.iinc 2 1, 3) := by decide +kernel
theorem dX12_order_76 : decode cX12_order 76 = .ok (.goto (-53), 3) := by decide +kernel
theorem dX12_order_79 : decode cX12_order 79 = .ok (.aload_n 0, 1) := by decide +kernel
theorem dX12_order_80 : decode cX12_order 80 = .ok (.iconst (-1), 1) := by decide +kernel
theorem dX12_order_81 : decode cX12_order 81 = .ok (.putfield 456, 3) := by decide +kernel
theorem dX12_order_84 : decode cX12_order 84 = .ok (.aload_n 0, 1) := by decide +kernel
theorem dX12_order_85 : decode cX12_order 85 = .ok (.iconst 0, 1) := by decide +kernel
theorem dX12_order_86 : decode cX12_order 86 = .ok (.iconst 0, 1) := by decide +kernel
theorem dX12_order_87 : decode cX12_order 87 = .ok (.invokevirtual 453, 3) := by decide +kernel
theorem dX12_order_90 : decode cX12_order 90 = .ok (.iload_n 1, 1) := by decide +kernel
theorem dX12_order_91 : decode cX12_order 91 = .ok (.iconst 5, 1) := by decide +kernel
theorem dX12_order_92 : decode cX12_order 92 = .ok (.if_icmp .ne 10, 3) := by decide +kernel
theorem dX12_order_95 : decode cX12_order 95 = .ok (.aload_n 0, 1) := by decide +kernel
theorem dX12_order_96 : decode cX12_order 96 = .ok (.getfield 456, 3) := by decide +kernel
theorem dX12_order_99 : decode cX12_order 99 = .ok (.goto 22, 3) := by decide +kernel
theorem dX12_order_102 : decode cX12_order 102 = .ok (.iload_n 1, 1) := by decide +kernel
theorem dX12_order_103 : decode cX12_order 103 = .ok (.aload_n 0, 1) := by decide +kernel
theorem dX12_order_104 : decode cX12_order 104 = .ok (.getfield 450, 3) := by decide +kernel
theorem dX12_order_107 : decode cX12_order 107 = .ok (.if_icmp .ge 12, 3) := by decide +kernel
theorem dX12_order_110 : decode cX12_order 110 = .ok (.aload_n 0, 1) := by decide +kernel
theorem dX12_order_111 : decode cX12_order 111 = .ok (.getfield 114, 3) := by decide +kernel
theorem dX12_order_114 : decode cX12_order 114 = .ok (.iload_n 1, 1) := by decide +kernel
theorem dX12_order_115 : decode cX12_order 115 = .ok (.iaload, 1) := by decide +kernel
theorem dX12_order_116 : decode cX12_order 116 = .ok (.goto 5, 3) := by decide +kernel
theorem dX12_order_119 : decode cX12_order 119 = .ok (.bipush (-2), 2) := by decide +kernel
theorem dX12_order_121 : decode cX12_order 121 = .ok (.ireturn, 1) := by decide +kernel
theorem dX12_enough_0 : decode cX12_enough 0 = .ok (.aload_n 0, 1) := by decide +kernel
theorem dX12_enough_1 : decode cX12_enough 1 = .ok (.iconst 0, 1) := by decide +kernel
theorem dX12_enough_2 : decode cX12_enough 2 = .ok (.putfield 145, 3) := by decide +kernel
theorem dX12_enough_5 : decode cX12_enough 5 = .ok (.aload_n 0, 1) := by decide +kernel
theorem dX12_enough_6 : decode cX12_enough 6 = .ok (.iload_n 1, 1) := by decide +kernel
theorem dX12_enough_7 : decode cX12_enough 7 = .ok (.invokevirtual 404, 3) := by decide +kernel
theorem dX12_enough_10 : decode cX12_enough 10 = .ok (.ifCond .eq 11, 3) := by decide +kernel
theorem dX12_enough_13 : decode cX12_enough 13 = .ok (.aload_n 0, 1) := by decide +kernel
theorem dX12_enough_14 : decode cX12_enough 14 = .ok (.iload_n 2, 1) := by decide +kernel
theorem dX12_enough_15 : decode cX12_enough 15 = .ok (.invokevirtual 410, 3) := by decide +kernel
theorem dX12_enough_18 : decode cX12_enough 18 = .ok (.ifCond .ne 5, 3) := by decide +kernel
theorem dX12_enough_21 : decode cX12_enough 21 = .ok (.iconst (-1), 1) := by decide +kernel
theorem dX12_enough_22 : decode cX12_enough 22 = .ok (.ireturn, 1) := by decide +kernel
theorem dX12_enough_23 : decode cX12_enough 23 = .ok (.aload_n 0, 1) := by decide +kernel
theorem dX12_enough_24 : decode cX12_enough 24 = .ok (.iconst 1, 1) := by decide +kernel
theorem dX12_enough_25 : decode cX12_enough 25 = .ok (.iconst 0, 1) := by decide +kernel
theorem dX12_enough_26 : decode cX12_enough 26 = .ok (.invokevirtual 417, 3) := by decide +kernel
theorem dX12_enough_29 : decode cX12_enough 29 = .ok (.iconst 1, 1) := by decide +kernel
theorem dX12_enough_30 : decode cX12_enough 30 = .ok (.istore_n 3, 1) := by decide +kernel
theorem dX12_enough_31 : decode cX12_enough 31 = .ok (.iload_n 3, 1) := by decide +kernel
theorem dX12_enough_32 : decode cX12_enough 32 = .ok (.bipush 99, 2) := by decide +kernel
theorem dX12_enough_34 : decode cX12_enough 34 = .ok (.if_icmp .gt 35, 3) := by decide +kernel
theorem dX12_enough_37 : decode cX12_enough 37 = .ok (.aload_n 0, 1) := by decide +kernel
theorem dX12_enough_38 : decode cX12_enough 38 = .ok (.getfield 75, 3) := by decide +kernel
theorem dX12_enough_41 : decode cX12_enough 41 = .ok (.iconst 1, 1) := by decide +kernel
theorem dX12_enough_42 : decode cX12_enough 42 = .ok (.iload_n 3, 1) := by decide +kernel
theorem dX12_enough_43 : decode cX12_enough 43 = .ok (.iastore, 1) := by decide +kernel
theorem dX12_enough_44 : decode cX12_enough 44 = .ok (.aload_n 0, 1) := by decide +kernel
theorem dX12_enough_45 : decode cX12_enough 45 = .ok (.iconst 1, 1) := by decide +kernel
theorem dX12_enough_46 : decode cX12_enough 46 = .ok (.iload_n 1, 1) := by decide +kernel
theorem dX12_enough_47 : decode cX12_enough 47 = .ok (.iload_n 2, 1) := by decide +kernel
theorem dX12_enough_48 : decode cX12_enough 48 = .ok (.aload_n 0, 1) := by decide +kernel
theorem dX12_enough_49 : decode cX12_enough 49 = .ok (.getfield 28, 3) := by decide +kernel
theorem dX12_enough_52 : decode cX12_enough 52 = .ok (.iload_n 2, 1) := by decide +kernel
theorem dX12_enough_53 : decode cX12_enough 53 = .ok (.iaload, 1) := by decide +kernel
theorem dX12_enough_54 : decode cX12_enough 54 = .ok (.invokevirtual 374, 3) := by decide +kernel
theorem dX12_enough_57 : decode cX12_enough 57 = .ok (.iconst 1, 1) := by decide +kernel
theorem dX12_enough_58 : decode cX12_enough 58 = .ok (.if_icmp .ne 5, 3) := by decide +kernel
theorem dX12_enough_61 : decode cX12_enough 61 = .ok (.iload_n 3, 1) := by decide +kernel
theorem dX12_enough_62 : decode cX12_enough 62 = .ok (.ireturn, 1) := by decide +kernel
theorem dX12_enough_63 : decode cX12_enough 63 = .ok (.iinc 3 1, 3) := by decide +kernel
theorem dX12_enough_66 : decode cX12_enough 66 = .ok (.goto (-35), 3) := by decide +kernel
theorem dX12_enough_69 : decode cX12_enough 69 = .ok (.bipush (-2), 2) := by decide +kernel
theorem dX12_enough_71 : decode cX12_enough 71 = .ok (.ireturn, 1) := by decide +kernel
theorem dX12_bitsOf_0 : decode cX12_bitsOf 0 = .ok (.iconst 0, 1) := by decide +kernel
theorem dX12_bitsOf_1 : decode cX12_bitsOf 1 = .ok (.istore_n 1, 1) := by decide +kernel
theorem dX12_bitsOf_2 : decode cX12_bitsOf 2 = .ok (.iconst 0, 1) := by decide +kernel
theorem dX12_bitsOf_3 : decode cX12_bitsOf 3 = .ok (.istore_n 2, 1) := by decide +kernel
theorem dX12_bitsOf_4 : decode cX12_bitsOf 4 = .ok (.iload_n 2, 1) := by decide +kernel
theorem dX12_bitsOf_5 : decode cX12_bitsOf 5 = .ok (.bipush 10, 2) := by decide +kernel
theorem dX12_bitsOf_7 : decode cX12_bitsOf 7 = .ok (.if_icmp .ge 17, 3) := by decide +kernel
theorem dX12_bitsOf_10 : decode cX12_bitsOf 10 = .ok (.iload_n 1, 1) := by decide +kernel
theorem dX12_bitsOf_11 : decode cX12_bitsOf 11 = .ok (.iload_n 0, 1) := by decide +kernel
theorem dX12_bitsOf_12 : decode cX12_bitsOf 12 = .ok (.iload_n 2, 1) := by decide +kernel
theorem dX12_bitsOf_13 : decode cX12_bitsOf 13 = .ok (.ishr, 1) := by decide +kernel
theorem dX12_bitsOf_14 : decode cX12_bitsOf 14 = .ok (.iconst 1, 1) := by decide +kernel
theorem dX12_bitsOf_15 : decode cX12_bitsOf 15 = .ok (.iand, 1) := by decide +kernel
theorem dX12_bitsOf_16 : decode cX12_bitsOf 16 = .ok (.iadd, 1) := by decide +kernel
theorem dX12_bitsOf_17 : decode cX12_bitsOf 17 = .ok (.istore_n 1, 1) := by decide +kernel
theorem dX12_bitsOf_18 : decode cX12_bitsOf 18 = .ok (.iinc 2 1, 3) := by decide +kernel
theorem dX12_bitsOf_21 : decode cX12_bitsOf 21 = .ok (.goto (-17), 3) := by decide +kernel
theorem dX12_bitsOf_24 : decode cX12_bitsOf 24 = .ok (.iload_n 1, 1) := by decide +kernel
theorem dX12_bitsOf_25 : decode cX12_bitsOf 25 = .ok (.ireturn, 1) := by decide +kernel
def wp_X12_ends_12 (Q : ck_H → Prop) (K39 : Int32 → ck_H → Prop) : Nat → Int32 → Int32 → ck_H → Prop
  | 0 => fun _ _ _ => False
  | n + 1 => fun x1 x2 h => (((h.1 2 0) ≤ x2 → K39 x1 h) ∧ (¬ (h.1 2 0) ≤ x2 → (vp_in (((4 : Int32) * x1) + x2) 92 ∧ (∀ h6, h6 = ck_sI h 25 (((4 : Int32) * x1) + x2).toNatClampNeg (0 : Int32) → (∀ v7, v7 = x2 + 1 → (wp_X12_ends_12 Q K39 n) x1 v7 h6)))))
def wp_X12_ends_77 (Q : ck_H → Prop) : Nat → Int32 → Int32 → ck_H → Prop
  | 0 => fun _ _ _ => False
  | n + 1 => fun x1 x2 h => (((h.1 2 0) ≤ x2 → Q h) ∧ (¬ (h.1 2 0) ≤ x2 → (vp_in x2 8 ∧ (vp_in (((4 : Int32) * x1) + x2) 92 ∧ (∀ h21, h21 = ck_sI h 24 (((4 : Int32) * x1) + x2).toNatClampNeg (h.1 5 x2.toNatClampNeg) → (∀ v22, v22 = x2 + 1 → (wp_X12_ends_77 Q n) x1 v22 h21))))))
def wp_X12_ends (x1 : Int32) (h : ck_H) (Q : ck_H → Prop) : Prop := (vp_in x1 23 ∧ (vp_in x1 23 ∧ (∀ h3, h3 = ck_sI h 20 x1.toNatClampNeg ((h.1 20 x1.toNatClampNeg) + (1 : Int32)) → wp_X12_ends_12 Q (fun x9 h8 => (((h8.1 2 4) = 0 → Q h8) ∧ (¬ (h8.1 2 4) = 0 → (vp_in x9 23 ∧ (¬ (h8.1 2 4) = 0 ∧ (((ck_rem (h8.1 20 x9.toNatClampNeg) (h8.1 2 4)) = 0 → (wp_X12_leverAs h8 (fun r15 h14 => (vp_in x9 23 ∧ (∀ h17, h17 = ck_sI h14 21 x9.toNatClampNeg r15 → wp_X12_ends_77 Q lpN x9 (0 : Int32) h17))))) ∧ (¬ (ck_rem (h8.1 20 x9.toNatClampNeg) (h8.1 2 4)) = 0 → Q h8))))))) lpN x1 (0 : Int32) h3)))
set_option maxHeartbeats 4000000 in
set_option maxRecDepth 100000 in
theorem cp_X12_ends_12 {gr : Bool} {Q : ck_H → Prop} {K39 : Int32 → ck_H → Prop} (hK39 : ∀ (x1 : Int32) (h : ck_H), K39 x1 h → ck_W cX12_ends 3 RX12 none 3 0 0 false gr (ck_Qv ck_shM Q) ck_shM h 0 0 39 [(0, .ref 0), (1, .int x1)] []) : ∀ (n : Nat) (x1 : Int32) (x2 : Int32) (h : ck_H), wp_X12_ends_12 Q K39 n x1 x2 h → ck_W cX12_ends 3 RX12 none 3 0 0 false gr (ck_Qv ck_shM Q) ck_shM h 0 0 12 [(0, .ref 0), (1, .int x1), (2, .int x2)] [] := by
  intro n
  induction n with
  | zero => intro x1 x2 h hq; exact hq.elim
  | succ n hKc =>
    intro x1 x2 h hq
    refine ck_iload_n 2 dX12_ends_12 rfl rfl ?_
    refine ck_aload_n 0 dX12_ends_13 rfl rfl ?_
    refine ck_getR clX12 3 rfl rfl (by decide) fl_X12_13 dX12_ends_14 ?_
    refine ck_iconst (v := 0) dX12_ends_17 (by decide) ?_
    refine ck_iald (j := 0) (by decide) rfl (ck_inL (by decide)) dX12_ends_18 ?_
    refine ck_icmp_ge (tgt := 39) dX12_ends_19 (by decide) (fun c4 => ?_) (fun c4 => ?_)
    · have hq := hq.1 c4
      refine ck_loc [0, 1] rfl ?_
      exact hK39 _ _ hq
    · have hq := hq.2 c4
      refine ck_aload_n 0 dX12_ends_22 rfl rfl ?_
      refine ck_getR clX12 40 rfl rfl (by decide) fl_X12_87 dX12_ends_23 ?_
      refine ck_iconst (v := 4) dX12_ends_26 (by decide) ?_
      refine ck_iload_n 1 dX12_ends_27 rfl rfl ?_
      refine ck_imul dX12_ends_28 ?_
      refine ck_iload_n 2 dX12_ends_29 rfl rfl ?_
      refine ck_iadd dX12_ends_30 ?_
      refine ck_iconst (v := 0) dX12_ends_31 (by decide) ?_
      obtain ⟨b5, hq⟩ := hq
      refine ck_iast rfl rfl b5 dX12_ends_32 ?_
      refine ck_nmH (fun h6 eh6 => ?_)
      have hq := hq h6 eh6
      obtain ⟨v7, ev7⟩ : ∃ z : Int32, z = x2 + 1 := ⟨_, rfl⟩
      have hq := hq v7 ev7
      refine ck_iinc (v := v7) (lv' := [(2, .int v7), (0, .ref 0), (1, .int x1)]) 2 dX12_ends_33 rfl (by rw [ev7]; rfl) (by decide) rfl ?_
      refine ck_goto (tgt := 12) dX12_ends_36 (by decide) ?_
      refine ck_loc [1, 2, 0] rfl ?_
      exact hKc _ _ _ hq
set_option maxHeartbeats 4000000 in
set_option maxRecDepth 100000 in
theorem cp_X12_ends_77 {gr : Bool} {Q : ck_H → Prop} : ∀ (n : Nat) (x1 : Int32) (x2 : Int32) (h : ck_H), wp_X12_ends_77 Q n x1 x2 h → ck_W cX12_ends 3 RX12 none 3 0 0 false gr (ck_Qv ck_shM Q) ck_shM h 0 0 77 [(0, .ref 0), (1, .int x1), (2, .int x2)] [] := by
  intro n
  induction n with
  | zero => intro x1 x2 h hq; exact hq.elim
  | succ n hKc =>
    intro x1 x2 h hq
    refine ck_iload_n 2 dX12_ends_77 rfl rfl ?_
    refine ck_aload_n 0 dX12_ends_78 rfl rfl ?_
    refine ck_getR clX12 3 rfl rfl (by decide) fl_X12_13 dX12_ends_79 ?_
    refine ck_iconst (v := 0) dX12_ends_82 (by decide) ?_
    refine ck_iald (j := 0) (by decide) rfl (ck_inL (by decide)) dX12_ends_83 ?_
    refine ck_icmp_ge (tgt := 109) dX12_ends_84 (by decide) (fun c18 => ?_) (fun c18 => ?_)
    · have hq := hq.1 c18
      exact ck_vret rfl rfl rfl dX12_ends_109 ⟨rfl, rfl, hq⟩
    · have hq := hq.2 c18
      refine ck_aload_n 0 dX12_ends_87 rfl rfl ?_
      refine ck_getR clX12 39 rfl rfl (by decide) fl_X12_84 dX12_ends_88 ?_
      refine ck_iconst (v := 4) dX12_ends_91 (by decide) ?_
      refine ck_iload_n 1 dX12_ends_92 rfl rfl ?_
      refine ck_imul dX12_ends_93 ?_
      refine ck_iload_n 2 dX12_ends_94 rfl rfl ?_
      refine ck_iadd dX12_ends_95 ?_
      refine ck_aload_n 0 dX12_ends_96 rfl rfl ?_
      refine ck_getR clX12 6 rfl rfl (by decide) fl_X12_22 dX12_ends_97 ?_
      refine ck_iload_n 2 dX12_ends_100 rfl rfl ?_
      obtain ⟨b19, hq⟩ := hq
      refine ck_iald rfl rfl b19 dX12_ends_101 ?_
      obtain ⟨b20, hq⟩ := hq
      refine ck_iast rfl rfl b20 dX12_ends_102 ?_
      refine ck_nmH (fun h21 eh21 => ?_)
      have hq := hq h21 eh21
      obtain ⟨v22, ev22⟩ : ∃ z : Int32, z = x2 + 1 := ⟨_, rfl⟩
      have hq := hq v22 ev22
      refine ck_iinc (v := v22) (lv' := [(2, .int v22), (0, .ref 0), (1, .int x1)]) 2 dX12_ends_103 rfl (by rw [ev22]; rfl) (by decide) rfl ?_
      refine ck_goto (tgt := 77) dX12_ends_106 (by decide) ?_
      refine ck_loc [1, 2, 0] rfl ?_
      exact hKc _ _ _ hq
set_option maxHeartbeats 4000000 in
set_option maxRecDepth 100000 in
theorem c_X12_ends {gr : Bool} {x1 : Int32} {h : ck_H} {Q : ck_H → Prop} (hq : wp_X12_ends x1 h Q) : ck_M yX12_ends cX12_ends 3 none 3 0 0 gr ck_shM h [.ref 0, .int x1] (ck_Qv ck_shM Q) := by
  refine ck_entry (lv := [(0, .ref 0), (1, .int x1)]) false (own := RX12) rfl (fun q => by cases q) (by decide) (Nat.le_of_ble_eq_true rfl) rfl ?_
  refine ck_aload_n 0 dX12_ends_0 rfl rfl ?_
  refine ck_getR clX12 35 rfl rfl (by decide) fl_X12_72 dX12_ends_1 ?_
  refine ck_iload_n 1 dX12_ends_4 rfl rfl ?_
  refine ck_dup2 dX12_ends_5 rfl rfl ?_
  obtain ⟨b1, hq⟩ := hq
  refine ck_iald rfl rfl b1 dX12_ends_6 ?_
  refine ck_iconst (v := 1) dX12_ends_7 (by decide) ?_
  refine ck_iadd dX12_ends_8 ?_
  obtain ⟨b2, hq⟩ := hq
  refine ck_iast rfl rfl b2 dX12_ends_9 ?_
  refine ck_nmH (fun h3 eh3 => ?_)
  have hq := hq h3 eh3
  refine ck_iconst (v := 0) dX12_ends_10 (by decide) ?_
  refine ck_istore_n (lv' := [(2, .int (0 : Int32)), (0, .ref 0), (1, .int x1)]) dX12_ends_11 rfl (by decide) rfl ?_
  refine ck_loc [1, 2, 0] rfl ?_
  refine cp_X12_ends_12 (fun x9 h8 hq => ?_) lpN _ _ _ hq
  · refine ck_aload_n 0 dX12_ends_39 rfl rfl ?_
    refine ck_getR clX12 3 rfl rfl (by decide) fl_X12_13 dX12_ends_40 ?_
    refine ck_iconst (v := 4) dX12_ends_43 (by decide) ?_
    refine ck_iald (j := 4) (by decide) rfl (ck_inL (by decide)) dX12_ends_44 ?_
    refine ck_if_eq (tgt := 64) dX12_ends_45 (by decide) (fun c10 => ?_) (fun c10 => ?_)
    · have hq := hq.1 c10
      exact ck_vret rfl rfl rfl dX12_ends_64 ⟨rfl, rfl, hq⟩
    · have hq := hq.2 c10
      refine ck_aload_n 0 dX12_ends_48 rfl rfl ?_
      refine ck_getR clX12 35 rfl rfl (by decide) fl_X12_72 dX12_ends_49 ?_
      refine ck_iload_n 1 dX12_ends_52 rfl rfl ?_
      obtain ⟨b11, hq⟩ := hq
      refine ck_iald rfl rfl b11 dX12_ends_53 ?_
      refine ck_aload_n 0 dX12_ends_54 rfl rfl ?_
      refine ck_getR clX12 3 rfl rfl (by decide) fl_X12_13 dX12_ends_55 ?_
      refine ck_iconst (v := 4) dX12_ends_58 (by decide) ?_
      refine ck_iald (j := 4) (by decide) rfl (ck_inL (by decide)) dX12_ends_59 ?_
      obtain ⟨b12, hq⟩ := hq
      refine ck_irem dX12_ends_60 b12 ?_
      refine ck_if_eq (tgt := 65) dX12_ends_61 (by decide) (fun c13 => ?_) (fun c13 => ?_)
      · have hq := hq.1 c13
        refine ck_aload_n 0 dX12_ends_65 rfl rfl ?_
        refine ck_getR clX12 36 rfl rfl (by decide) fl_X12_75 dX12_ends_66 ?_
        refine ck_iload_n 1 dX12_ends_69 rfl rfl ?_
        refine ck_aload_n 0 dX12_ends_70 rfl rfl ?_
        refine ck_callV (c_X12_leverAs hq) rfl cal_X12_leverAs rfl ml_X12_325 vir_X12_leverAs rfl rfl (by decide) (Nat.le_of_ble_eq_true rfl) (Nat.le_of_ble_eq_true rfl) (by decide) (by decide) dX12_ends_71 ?_
        rintro _ _ h14 ⟨r15, rfl, rfl, hq⟩
        obtain ⟨b16, hq⟩ := hq
        refine ck_iast rfl rfl b16 dX12_ends_74 ?_
        refine ck_nmH (fun h17 eh17 => ?_)
        have hq := hq h17 eh17
        refine ck_iconst (v := 0) dX12_ends_75 (by decide) ?_
        refine ck_istore_n (lv' := [(2, .int (0 : Int32)), (0, .ref 0), (1, .int x9)]) dX12_ends_76 rfl (by decide) rfl ?_
        refine ck_loc [1, 2, 0] rfl ?_
        refine cp_X12_ends_77 lpN _ _ _ hq
      · have hq := hq.2 c13
        exact ck_vret rfl rfl rfl dX12_ends_64 ⟨rfl, rfl, hq⟩
def wp_X12_passes (x1 : Int32) (h : ck_H) (Q : ck_H → Prop) : Prop := (wp_X12_triesAll x1 h (fun h1 => (wp_X12_ends x1 h1 (fun h2 => Q h2))))
set_option maxHeartbeats 4000000 in
set_option maxRecDepth 100000 in
theorem c_X12_passes {gr : Bool} {x1 : Int32} {h : ck_H} {Q : ck_H → Prop} (hq : wp_X12_passes x1 h Q) : ck_M yX12_passes cX12_passes 2 none 10 0 0 gr ck_shM h [.ref 0, .int x1] (ck_Qv ck_shM Q) := by
  refine ck_entry (lv := [(0, .ref 0), (1, .int x1)]) false (own := RX12) rfl (fun q => by cases q) (by decide) (Nat.le_of_ble_eq_true rfl) rfl ?_
  refine ck_aload_n 0 dX12_passes_0 rfl rfl ?_
  refine ck_iload_n 1 dX12_passes_1 rfl rfl ?_
  refine ck_callV (c_X12_triesAll hq) rfl cal_X12_triesAll rfl ml_X12_389 vir_X12_triesAll rfl rfl (by decide) (Nat.le_of_ble_eq_true rfl) (Nat.le_of_ble_eq_true rfl) (by decide) (by decide) dX12_passes_2 ?_
  rintro _ _ h1 ⟨rfl, rfl, hq⟩
  refine ck_aload_n 0 dX12_passes_5 rfl rfl ?_
  refine ck_iload_n 1 dX12_passes_6 rfl rfl ?_
  refine ck_callV (c_X12_ends hq) rfl cal_X12_ends rfl ml_X12_392 vir_X12_ends rfl rfl (by decide) (Nat.le_of_ble_eq_true rfl) (Nat.le_of_ble_eq_true rfl) (by decide) (by decide) dX12_passes_7 ?_
  rintro _ _ h2 ⟨rfl, rfl, hq⟩
  exact ck_vret rfl rfl rfl dX12_passes_10 ⟨rfl, rfl, hq⟩
def wp_X12_go_42 (Q : Int32 → ck_H → Prop) : Nat → Int32 → Int32 → ck_H → Prop
  | 0 => fun _ _ _ => False
  | n + 1 => fun x1 x2 h => ((x1 ≤ x2 → Q (h.1 20 0) h) ∧ (¬ x1 ≤ x2 → (wp_X12_passes (0 : Int32) h (fun h7 => (∀ v8, v8 = x2 + 1 → (wp_X12_go_42 Q n) x1 v8 h7)))))
def wp_X12_go_40 (Q : Int32 → ck_H → Prop) (x1 : Int32) (h : ck_H) : Prop := wp_X12_go_42 Q lpN x1 (0 : Int32) h
def wp_X12_go (x1 : Int32) (h : ck_H) (Q : Int32 → ck_H → Prop) : Prop := (∀ h1, h1 = ck_sI h 0 0 (0 : Int32) → ((x1 < 0 → Q (-1 : Int32) h1) ∧ (¬ x1 < 0 → (((99 : Int32) < x1 → Q (-1 : Int32) h1) ∧ (¬ (99 : Int32) < x1 → ((((h1.1 20 0) + x1) ≤ (9900 : Int32) → ((x1 ≤ 0 → wp_X12_go_40 Q x1 h1) ∧ (¬ x1 ≤ 0 → (∀ h9, h9 = ck_sI h1 0 45 (0 : Int32) → wp_X12_go_40 Q x1 h9)))) ∧ (¬ ((h1.1 20 0) + x1) ≤ (9900 : Int32) → Q (-1 : Int32) h1)))))))
set_option maxHeartbeats 4000000 in
set_option maxRecDepth 100000 in
theorem cp_X12_go_42 {gr : Bool} {Q : Int32 → ck_H → Prop} : ∀ (n : Nat) (x1 : Int32) (x2 : Int32) (h : ck_H), wp_X12_go_42 Q n x1 x2 h → ck_W cX12_go 3 RX12 (some .int) 11 0 0 false gr (ck_Qi ck_shM Q) ck_shM h 0 0 42 [(0, .ref 0), (1, .int x1), (2, .int x2)] [] := by
  intro n
  induction n with
  | zero => intro x1 x2 h hq; exact hq.elim
  | succ n hKc =>
    intro x1 x2 h hq
    refine ck_iload_n 2 dX12_go_42 rfl rfl ?_
    refine ck_iload_n 1 dX12_go_43 rfl rfl ?_
    refine ck_icmp_ge (tgt := 58) dX12_go_44 (by decide) (fun c6 => ?_) (fun c6 => ?_)
    · have hq := hq.1 c6
      refine ck_aload_n 0 dX12_go_58 rfl rfl ?_
      refine ck_getR clX12 35 rfl rfl (by decide) fl_X12_72 dX12_go_59 ?_
      refine ck_iconst (v := 0) dX12_go_62 (by decide) ?_
      refine ck_iald (j := 0) (by decide) rfl (ck_inL (by decide)) dX12_go_63 ?_
      exact ck_iret rfl rfl rfl rfl dX12_go_64 ⟨_, rfl, rfl, hq⟩
    · have hq := hq.2 c6
      refine ck_aload_n 0 dX12_go_47 rfl rfl ?_
      refine ck_iconst (v := 0) dX12_go_48 (by decide) ?_
      refine ck_callV (c_X12_passes hq) rfl cal_X12_passes rfl ml_X12_395 vir_X12_passes rfl rfl (by decide) (Nat.le_of_ble_eq_true rfl) (Nat.le_of_ble_eq_true rfl) (by decide) (by decide) dX12_go_49 ?_
      rintro _ _ h7 ⟨rfl, rfl, hq⟩
      obtain ⟨v8, ev8⟩ : ∃ z : Int32, z = x2 + 1 := ⟨_, rfl⟩
      have hq := hq v8 ev8
      refine ck_iinc (v := v8) (lv' := [(2, .int v8), (0, .ref 0), (1, .int x1)]) 2 dX12_go_52 rfl (by rw [ev8]; rfl) (by decide) rfl ?_
      refine ck_goto (tgt := 42) dX12_go_55 (by decide) ?_
      refine ck_loc [1, 2, 0] rfl ?_
      exact hKc _ _ _ hq
set_option maxHeartbeats 4000000 in
set_option maxRecDepth 100000 in
theorem cp_X12_go_40 {gr : Bool} {Q : Int32 → ck_H → Prop} : ∀ (x1 : Int32) (h : ck_H), wp_X12_go_40 Q x1 h → ck_W cX12_go 3 RX12 (some .int) 11 0 0 false gr (ck_Qi ck_shM Q) ck_shM h 0 0 40 [(0, .ref 0), (1, .int x1)] [] := by
  intro x1 h hq
  refine ck_iconst (v := 0) dX12_go_40 (by decide) ?_
  refine ck_istore_n (lv' := [(2, .int (0 : Int32)), (0, .ref 0), (1, .int x1)]) dX12_go_41 rfl (by decide) rfl ?_
  refine ck_loc [1, 2, 0] rfl ?_
  refine cp_X12_go_42 lpN _ _ _ hq
set_option maxHeartbeats 4000000 in
set_option maxRecDepth 100000 in
theorem c_X12_go {gr : Bool} {x1 : Int32} {h : ck_H} {Q : Int32 → ck_H → Prop} (hq : wp_X12_go x1 h Q) : ck_M yX12_go cX12_go 3 (some .int) 11 0 0 gr ck_shM h [.ref 0, .int x1] (ck_Qi ck_shM Q) := by
  refine ck_entry (lv := [(0, .ref 0), (1, .int x1)]) false (own := RX12) rfl (fun q => by cases q) (by decide) (Nat.le_of_ble_eq_true rfl) rfl ?_
  refine ck_aload_n 0 dX12_go_0 rfl rfl ?_
  refine ck_iconst (v := 0) dX12_go_1 (by decide) ?_
  refine ck_putI clX12 0 rfl rfl (by decide) fl_X12_145 rfl rfl rfl dX12_go_2 ?_
  refine ck_nmH (fun h1 eh1 => ?_)
  have hq := hq h1 eh1
  refine ck_iload_n 1 dX12_go_5 rfl rfl ?_
  refine ck_if_lt (tgt := 29) dX12_go_6 (by decide) (fun c2 => ?_) (fun c2 => ?_)
  · have hq := hq.1 c2
    refine ck_iconst (v := -1) dX12_go_29 (by decide) ?_
    exact ck_iret rfl rfl rfl rfl dX12_go_30 ⟨_, rfl, rfl, hq⟩
  · have hq := hq.2 c2
    refine ck_iload_n 1 dX12_go_9 rfl rfl ?_
    refine ck_bipush (v := 99) dX12_go_10 (by decide) ?_
    refine ck_icmp_gt (tgt := 29) dX12_go_12 (by decide) (fun c3 => ?_) (fun c3 => ?_)
    · have hq := hq.1 c3
      refine ck_iconst (v := -1) dX12_go_29 (by decide) ?_
      exact ck_iret rfl rfl rfl rfl dX12_go_30 ⟨_, rfl, rfl, hq⟩
    · have hq := hq.2 c3
      refine ck_aload_n 0 dX12_go_15 rfl rfl ?_
      refine ck_getR clX12 35 rfl rfl (by decide) fl_X12_72 dX12_go_16 ?_
      refine ck_iconst (v := 0) dX12_go_19 (by decide) ?_
      refine ck_iald (j := 0) (by decide) rfl (ck_inL (by decide)) dX12_go_20 ?_
      refine ck_iload_n 1 dX12_go_21 rfl rfl ?_
      refine ck_iadd dX12_go_22 ?_
      refine ck_sipush (v := 9900) dX12_go_23 (by decide) ?_
      refine ck_icmp_le (tgt := 31) dX12_go_26 (by decide) (fun c4 => ?_) (fun c4 => ?_)
      · have hq := hq.1 c4
        refine ck_iload_n 1 dX12_go_31 rfl rfl ?_
        refine ck_if_le (tgt := 40) dX12_go_32 (by decide) (fun c5 => ?_) (fun c5 => ?_)
        · have hq := hq.1 c5
          exact cp_X12_go_40 _ _ hq
        · have hq := hq.2 c5
          refine ck_aload_n 0 dX12_go_35 rfl rfl ?_
          refine ck_iconst (v := 0) dX12_go_36 (by decide) ?_
          refine ck_putI clX12 45 rfl rfl (by decide) fl_X12_302 rfl rfl rfl dX12_go_37 ?_
          refine ck_nmH (fun h9 eh9 => ?_)
          have hq := hq h9 eh9
          exact cp_X12_go_40 _ _ hq
      · have hq := hq.2 c4
        refine ck_iconst (v := -1) dX12_go_29 (by decide) ?_
        exact ck_iret rfl rfl rfl rfl dX12_go_30 ⟨_, rfl, rfl, hq⟩
def wp_X12_goesOn_2 (Q : ck_H → Prop) : Nat → Int32 → Int32 → ck_H → Prop
  | 0 => fun _ _ _ => False
  | n + 1 => fun x1 x2 h => ((x1 ≤ x2 → Q h) ∧ (¬ x1 ≤ x2 → (wp_X12_passes (1 : Int32) h (fun h2 => (∀ v3, v3 = x2 + 1 → (wp_X12_goesOn_2 Q n) x1 v3 h2)))))
def wp_X12_goesOn (x1 : Int32) (h : ck_H) (Q : ck_H → Prop) : Prop := wp_X12_goesOn_2 Q lpN x1 (0 : Int32) h
set_option maxHeartbeats 4000000 in
set_option maxRecDepth 100000 in
theorem cp_X12_goesOn_2 {gr : Bool} {Q : ck_H → Prop} : ∀ (n : Nat) (x1 : Int32) (x2 : Int32) (h : ck_H), wp_X12_goesOn_2 Q n x1 x2 h → ck_W cX12_goesOn 3 RX12 none 11 0 0 false gr (ck_Qv ck_shM Q) ck_shM h 0 0 2 [(0, .ref 0), (1, .int x1), (2, .int x2)] [] := by
  intro n
  induction n with
  | zero => intro x1 x2 h hq; exact hq.elim
  | succ n hKc =>
    intro x1 x2 h hq
    refine ck_iload_n 2 dX12_goesOn_2 rfl rfl ?_
    refine ck_iload_n 1 dX12_goesOn_3 rfl rfl ?_
    refine ck_icmp_ge (tgt := 18) dX12_goesOn_4 (by decide) (fun c1 => ?_) (fun c1 => ?_)
    · have hq := hq.1 c1
      exact ck_vret rfl rfl rfl dX12_goesOn_18 ⟨rfl, rfl, hq⟩
    · have hq := hq.2 c1
      refine ck_aload_n 0 dX12_goesOn_7 rfl rfl ?_
      refine ck_iconst (v := 1) dX12_goesOn_8 (by decide) ?_
      refine ck_callV (c_X12_passes hq) rfl cal_X12_passes rfl ml_X12_395 vir_X12_passes rfl rfl (by decide) (Nat.le_of_ble_eq_true rfl) (Nat.le_of_ble_eq_true rfl) (by decide) (by decide) dX12_goesOn_9 ?_
      rintro _ _ h2 ⟨rfl, rfl, hq⟩
      obtain ⟨v3, ev3⟩ : ∃ z : Int32, z = x2 + 1 := ⟨_, rfl⟩
      have hq := hq v3 ev3
      refine ck_iinc (v := v3) (lv' := [(2, .int v3), (0, .ref 0), (1, .int x1)]) 2 dX12_goesOn_12 rfl (by rw [ev3]; rfl) (by decide) rfl ?_
      refine ck_goto (tgt := 2) dX12_goesOn_15 (by decide) ?_
      refine ck_loc [1, 2, 0] rfl ?_
      exact hKc _ _ _ hq
set_option maxHeartbeats 4000000 in
set_option maxRecDepth 100000 in
theorem c_X12_goesOn {gr : Bool} {x1 : Int32} {h : ck_H} {Q : ck_H → Prop} (hq : wp_X12_goesOn x1 h Q) : ck_M yX12_goesOn cX12_goesOn 3 none 11 0 0 gr ck_shM h [.ref 0, .int x1] (ck_Qv ck_shM Q) := by
  refine ck_entry (lv := [(0, .ref 0), (1, .int x1)]) false (own := RX12) rfl (fun q => by cases q) (by decide) (Nat.le_of_ble_eq_true rfl) rfl ?_
  refine ck_iconst (v := 0) dX12_goesOn_0 (by decide) ?_
  refine ck_istore_n (lv' := [(2, .int (0 : Int32)), (0, .ref 0), (1, .int x1)]) dX12_goesOn_1 rfl (by decide) rfl ?_
  refine ck_loc [1, 2, 0] rfl ?_
  refine cp_X12_goesOn_2 lpN _ _ _ hq
def wp_X12_manyOf_38 (Q : Int32 → ck_H → Prop) (Kc : Int32 → Int32 → Int32 → Int32 → ck_H → Prop) (x1 : Int32) (x2 : Int32) (x4 : Int32) (y0 : Int32) (y1 : Int32) (h : ck_H) : Prop := (∀ v4, v4 = (y0 + y1) → (∀ v5, v5 = x4 + 1 → Kc x1 x2 v4 v5 h))
def wp_X12_manyOf_5 (Q : Int32 → ck_H → Prop) : Nat → Int32 → Int32 → Int32 → Int32 → ck_H → Prop
  | 0 => fun _ _ _ _ _ => False
  | n + 1 => fun x1 x2 x3 x4 h => (((h.1 2 2) ≤ x4 → Q x3 h) ∧ (¬ (h.1 2 2) ≤ x4 → (vp_in (((10 : Int32) * x1) + x4) 230 ∧ ((¬ (h.1 28 (((10 : Int32) * x1) + x4).toNatClampNeg) = x2 → wp_X12_manyOf_38 Q (wp_X12_manyOf_5 Q n) x1 x2 x4 x3 (0 : Int32) h) ∧ ((h.1 28 (((10 : Int32) * x1) + x4).toNatClampNeg) = x2 → wp_X12_manyOf_38 Q (wp_X12_manyOf_5 Q n) x1 x2 x4 x3 (1 : Int32) h)))))
def wp_X12_manyOf (x1 : Int32) (x2 : Int32) (h : ck_H) (Q : Int32 → ck_H → Prop) : Prop := wp_X12_manyOf_5 Q lpN x1 x2 (0 : Int32) (0 : Int32) h
set_option maxHeartbeats 4000000 in
set_option maxRecDepth 100000 in
theorem cp_X12_manyOf_38 {gr : Bool} {Q : Int32 → ck_H → Prop} {Kc : Int32 → Int32 → Int32 → Int32 → ck_H → Prop} (hKc : ∀ (x1 : Int32) (x2 : Int32) (x3 : Int32) (x4 : Int32) (h : ck_H), Kc x1 x2 x3 x4 h → ck_W cX12_manyOf 5 RX12 (some .int) 2 0 0 false gr (ck_Qi ck_shM Q) ck_shM h 0 0 5 [(0, .ref 0), (1, .int x1), (2, .int x2), (3, .int x3), (4, .int x4)] []) : ∀ (x1 : Int32) (x2 : Int32) (x4 : Int32) (y0 : Int32) (y1 : Int32) (h : ck_H), wp_X12_manyOf_38 Q Kc x1 x2 x4 y0 y1 h → ck_W cX12_manyOf 5 RX12 (some .int) 2 0 0 false gr (ck_Qi ck_shM Q) ck_shM h 0 0 38 [(0, .ref 0), (1, .int x1), (2, .int x2), (4, .int x4)] [.int y1, .int y0] := by
  intro x1 x2 x4 y0 y1 h hq
  refine ck_iadd dX12_manyOf_38 ?_
  refine ck_nmI (fun v4 ev4 => ?_)
  have hq := hq v4 ev4
  refine ck_istore_n (lv' := [(3, .int v4), (0, .ref 0), (1, .int x1), (2, .int x2), (4, .int x4)]) dX12_manyOf_39 rfl (by decide) rfl ?_
  obtain ⟨v5, ev5⟩ : ∃ z : Int32, z = x4 + 1 := ⟨_, rfl⟩
  have hq := hq v5 ev5
  refine ck_iinc (v := v5) (lv' := [(4, .int v5), (3, .int v4), (0, .ref 0), (1, .int x1), (2, .int x2)]) 4 dX12_manyOf_40 rfl (by rw [ev5]; rfl) (by decide) rfl ?_
  refine ck_goto (tgt := 5) dX12_manyOf_43 (by decide) ?_
  refine ck_loc [2, 3, 4, 1, 0] rfl ?_
  exact hKc _ _ _ _ _ hq
set_option maxHeartbeats 4000000 in
set_option maxRecDepth 100000 in
theorem cp_X12_manyOf_5 {gr : Bool} {Q : Int32 → ck_H → Prop} : ∀ (n : Nat) (x1 : Int32) (x2 : Int32) (x3 : Int32) (x4 : Int32) (h : ck_H), wp_X12_manyOf_5 Q n x1 x2 x3 x4 h → ck_W cX12_manyOf 5 RX12 (some .int) 2 0 0 false gr (ck_Qi ck_shM Q) ck_shM h 0 0 5 [(0, .ref 0), (1, .int x1), (2, .int x2), (3, .int x3), (4, .int x4)] [] := by
  intro n
  induction n with
  | zero => intro x1 x2 x3 x4 h hq; exact hq.elim
  | succ n hKc =>
    intro x1 x2 x3 x4 h hq
    refine ck_iload 4 dX12_manyOf_5 rfl ?_
    refine ck_aload_n 0 dX12_manyOf_7 rfl rfl ?_
    refine ck_getR clX12 3 rfl rfl (by decide) fl_X12_13 dX12_manyOf_8 ?_
    refine ck_iconst (v := 2) dX12_manyOf_11 (by decide) ?_
    refine ck_iald (j := 2) (by decide) rfl (ck_inL (by decide)) dX12_manyOf_12 ?_
    refine ck_icmp_ge (tgt := 46) dX12_manyOf_13 (by decide) (fun c1 => ?_) (fun c1 => ?_)
    · have hq := hq.1 c1
      refine ck_iload_n 3 dX12_manyOf_46 rfl rfl ?_
      exact ck_iret rfl rfl rfl rfl dX12_manyOf_47 ⟨_, rfl, rfl, hq⟩
    · have hq := hq.2 c1
      refine ck_iload_n 3 dX12_manyOf_16 rfl rfl ?_
      refine ck_aload_n 0 dX12_manyOf_17 rfl rfl ?_
      refine ck_getR clX12 43 rfl rfl (by decide) fl_X12_96 dX12_manyOf_18 ?_
      refine ck_bipush (v := 10) dX12_manyOf_21 (by decide) ?_
      refine ck_iload_n 1 dX12_manyOf_23 rfl rfl ?_
      refine ck_imul dX12_manyOf_24 ?_
      refine ck_iload 4 dX12_manyOf_25 rfl ?_
      refine ck_iadd dX12_manyOf_27 ?_
      obtain ⟨b2, hq⟩ := hq
      refine ck_iald rfl rfl b2 dX12_manyOf_28 ?_
      refine ck_iload_n 2 dX12_manyOf_29 rfl rfl ?_
      refine ck_icmp_ne (tgt := 37) dX12_manyOf_30 (by decide) (fun c3 => ?_) (fun c3 => ?_)
      · have hq := hq.1 c3
        refine ck_iconst (v := 0) dX12_manyOf_37 (by decide) ?_
        refine ck_loc [0, 1, 2, 4] rfl ?_
        exact cp_X12_manyOf_38 hKc _ _ _ _ _ _ hq
      · have hq := hq.2 c3
        refine ck_iconst (v := 1) dX12_manyOf_33 (by decide) ?_
        refine ck_goto (tgt := 38) dX12_manyOf_34 (by decide) ?_
        refine ck_loc [0, 1, 2, 4] rfl ?_
        exact cp_X12_manyOf_38 hKc _ _ _ _ _ _ hq
set_option maxHeartbeats 4000000 in
set_option maxRecDepth 100000 in
theorem c_X12_manyOf {gr : Bool} {x1 : Int32} {x2 : Int32} {h : ck_H} {Q : Int32 → ck_H → Prop} (hq : wp_X12_manyOf x1 x2 h Q) : ck_M yX12_manyOf cX12_manyOf 5 (some .int) 2 0 0 gr ck_shM h [.ref 0, .int x1, .int x2] (ck_Qi ck_shM Q) := by
  refine ck_entry (lv := [(0, .ref 0), (1, .int x1), (2, .int x2)]) false (own := RX12) rfl (fun q => by cases q) (by decide) (Nat.le_of_ble_eq_true rfl) rfl ?_
  refine ck_iconst (v := 0) dX12_manyOf_0 (by decide) ?_
  refine ck_istore_n (lv' := [(3, .int (0 : Int32)), (0, .ref 0), (1, .int x1), (2, .int x2)]) dX12_manyOf_1 rfl (by decide) rfl ?_
  refine ck_iconst (v := 0) dX12_manyOf_2 (by decide) ?_
  refine ck_istore (lv' := [(4, .int (0 : Int32)), (3, .int (0 : Int32)), (0, .ref 0), (1, .int x1), (2, .int x2)]) dX12_manyOf_3 (by decide) rfl ?_
  refine ck_loc [2, 3, 4, 1, 0] rfl ?_
  refine cp_X12_manyOf_5 lpN _ _ _ _ _ hq
def wp_X12_gainAll_4 (Q : Int32 → ck_H → Prop) : Nat → Int32 → Int32 → Int32 → ck_H → Prop
  | 0 => fun _ _ _ _ => False
  | n + 1 => fun x1 x2 x3 h => (((h.1 2 2) ≤ x3 → Q x2 h) ∧ (¬ (h.1 2 2) ≤ x3 → (vp_in (((10 : Int32) * x1) + x3) 230 ∧ (wp_X12_gainOf x3 (h.1 28 (((10 : Int32) * x1) + x3).toNatClampNeg) h (fun r4 h3 => (∀ v5, v5 = (x2 + r4) → (∀ v6, v6 = x3 + 1 → (wp_X12_gainAll_4 Q n) x1 v5 v6 h3)))))))
def wp_X12_gainAll (x1 : Int32) (h : ck_H) (Q : Int32 → ck_H → Prop) : Prop := wp_X12_gainAll_4 Q lpN x1 (0 : Int32) (0 : Int32) h
set_option maxHeartbeats 4000000 in
set_option maxRecDepth 100000 in
theorem cp_X12_gainAll_4 {gr : Bool} {Q : Int32 → ck_H → Prop} : ∀ (n : Nat) (x1 : Int32) (x2 : Int32) (x3 : Int32) (h : ck_H), wp_X12_gainAll_4 Q n x1 x2 x3 h → ck_W cX12_gainAll 4 RX12 (some .int) 3 0 0 false gr (ck_Qi ck_shM Q) ck_shM h 0 0 4 [(0, .ref 0), (1, .int x1), (2, .int x2), (3, .int x3)] [] := by
  intro n
  induction n with
  | zero => intro x1 x2 x3 h hq; exact hq.elim
  | succ n hKc =>
    intro x1 x2 x3 h hq
    refine ck_iload_n 3 dX12_gainAll_4 rfl rfl ?_
    refine ck_aload_n 0 dX12_gainAll_5 rfl rfl ?_
    refine ck_getR clX12 3 rfl rfl (by decide) fl_X12_13 dX12_gainAll_6 ?_
    refine ck_iconst (v := 2) dX12_gainAll_9 (by decide) ?_
    refine ck_iald (j := 2) (by decide) rfl (ck_inL (by decide)) dX12_gainAll_10 ?_
    refine ck_icmp_ge (tgt := 39) dX12_gainAll_11 (by decide) (fun c1 => ?_) (fun c1 => ?_)
    · have hq := hq.1 c1
      refine ck_iload_n 2 dX12_gainAll_39 rfl rfl ?_
      exact ck_iret rfl rfl rfl rfl dX12_gainAll_40 ⟨_, rfl, rfl, hq⟩
    · have hq := hq.2 c1
      refine ck_iload_n 2 dX12_gainAll_14 rfl rfl ?_
      refine ck_aload_n 0 dX12_gainAll_15 rfl rfl ?_
      refine ck_iload_n 3 dX12_gainAll_16 rfl rfl ?_
      refine ck_aload_n 0 dX12_gainAll_17 rfl rfl ?_
      refine ck_getR clX12 43 rfl rfl (by decide) fl_X12_96 dX12_gainAll_18 ?_
      refine ck_bipush (v := 10) dX12_gainAll_21 (by decide) ?_
      refine ck_iload_n 1 dX12_gainAll_23 rfl rfl ?_
      refine ck_imul dX12_gainAll_24 ?_
      refine ck_iload_n 3 dX12_gainAll_25 rfl rfl ?_
      refine ck_iadd dX12_gainAll_26 ?_
      obtain ⟨b2, hq⟩ := hq
      refine ck_iald rfl rfl b2 dX12_gainAll_27 ?_
      refine ck_callV (c_X12_gainOf hq) rfl cal_X12_gainOf rfl ml_X12_398 vir_X12_gainOf rfl rfl (by decide) (Nat.le_of_ble_eq_true rfl) (Nat.le_of_ble_eq_true rfl) (by decide) (by decide) dX12_gainAll_28 ?_
      rintro _ _ h3 ⟨r4, rfl, rfl, hq⟩
      refine ck_iadd dX12_gainAll_31 ?_
      refine ck_nmI (fun v5 ev5 => ?_)
      have hq := hq v5 ev5
      refine ck_istore_n (lv' := [(2, .int v5), (0, .ref 0), (1, .int x1), (3, .int x3)]) dX12_gainAll_32 rfl (by decide) rfl ?_
      obtain ⟨v6, ev6⟩ : ∃ z : Int32, z = x3 + 1 := ⟨_, rfl⟩
      have hq := hq v6 ev6
      refine ck_iinc (v := v6) (lv' := [(3, .int v6), (2, .int v5), (0, .ref 0), (1, .int x1)]) 3 dX12_gainAll_33 rfl (by rw [ev6]; rfl) (by decide) rfl ?_
      refine ck_goto (tgt := 4) dX12_gainAll_36 (by decide) ?_
      refine ck_loc [2, 3, 1, 0] rfl ?_
      exact hKc _ _ _ _ hq
set_option maxHeartbeats 4000000 in
set_option maxRecDepth 100000 in
theorem c_X12_gainAll {gr : Bool} {x1 : Int32} {h : ck_H} {Q : Int32 → ck_H → Prop} (hq : wp_X12_gainAll x1 h Q) : ck_M yX12_gainAll cX12_gainAll 4 (some .int) 3 0 0 gr ck_shM h [.ref 0, .int x1] (ck_Qi ck_shM Q) := by
  refine ck_entry (lv := [(0, .ref 0), (1, .int x1)]) false (own := RX12) rfl (fun q => by cases q) (by decide) (Nat.le_of_ble_eq_true rfl) rfl ?_
  refine ck_iconst (v := 0) dX12_gainAll_0 (by decide) ?_
  refine ck_istore_n (lv' := [(2, .int (0 : Int32)), (0, .ref 0), (1, .int x1)]) dX12_gainAll_1 rfl (by decide) rfl ?_
  refine ck_iconst (v := 0) dX12_gainAll_2 (by decide) ?_
  refine ck_istore_n (lv' := [(3, .int (0 : Int32)), (2, .int (0 : Int32)), (0, .ref 0), (1, .int x1)]) dX12_gainAll_3 rfl (by decide) rfl ?_
  refine ck_loc [2, 3, 1, 0] rfl ?_
  refine cp_X12_gainAll_4 lpN _ _ _ _ hq
def wp_X12_teethAll_4 (Q : Int32 → ck_H → Prop) : Nat → Int32 → Int32 → Int32 → ck_H → Prop
  | 0 => fun _ _ _ _ => False
  | n + 1 => fun x1 x2 x3 h => (((h.1 2 0) ≤ x3 → Q x2 h) ∧ (¬ (h.1 2 0) ≤ x3 → (vp_in (((4 : Int32) * x1) + x3) 92 ∧ (∀ v3, v3 = (x2 + (h.1 24 (((4 : Int32) * x1) + x3).toNatClampNeg)) → (∀ v4, v4 = x3 + 1 → (wp_X12_teethAll_4 Q n) x1 v3 v4 h)))))
def wp_X12_teethAll (x1 : Int32) (h : ck_H) (Q : Int32 → ck_H → Prop) : Prop := wp_X12_teethAll_4 Q lpN x1 (0 : Int32) (0 : Int32) h
set_option maxHeartbeats 4000000 in
set_option maxRecDepth 100000 in
theorem cp_X12_teethAll_4 {gr : Bool} {Q : Int32 → ck_H → Prop} : ∀ (n : Nat) (x1 : Int32) (x2 : Int32) (x3 : Int32) (h : ck_H), wp_X12_teethAll_4 Q n x1 x2 x3 h → ck_W cX12_teethAll 4 RX12 (some .int) 2 0 0 false gr (ck_Qi ck_shM Q) ck_shM h 0 0 4 [(0, .ref 0), (1, .int x1), (2, .int x2), (3, .int x3)] [] := by
  intro n
  induction n with
  | zero => intro x1 x2 x3 h hq; exact hq.elim
  | succ n hKc =>
    intro x1 x2 x3 h hq
    refine ck_iload_n 3 dX12_teethAll_4 rfl rfl ?_
    refine ck_aload_n 0 dX12_teethAll_5 rfl rfl ?_
    refine ck_getR clX12 3 rfl rfl (by decide) fl_X12_13 dX12_teethAll_6 ?_
    refine ck_iconst (v := 0) dX12_teethAll_9 (by decide) ?_
    refine ck_iald (j := 0) (by decide) rfl (ck_inL (by decide)) dX12_teethAll_10 ?_
    refine ck_icmp_ge (tgt := 33) dX12_teethAll_11 (by decide) (fun c1 => ?_) (fun c1 => ?_)
    · have hq := hq.1 c1
      refine ck_iload_n 2 dX12_teethAll_33 rfl rfl ?_
      exact ck_iret rfl rfl rfl rfl dX12_teethAll_34 ⟨_, rfl, rfl, hq⟩
    · have hq := hq.2 c1
      refine ck_iload_n 2 dX12_teethAll_14 rfl rfl ?_
      refine ck_aload_n 0 dX12_teethAll_15 rfl rfl ?_
      refine ck_getR clX12 39 rfl rfl (by decide) fl_X12_84 dX12_teethAll_16 ?_
      refine ck_iconst (v := 4) dX12_teethAll_19 (by decide) ?_
      refine ck_iload_n 1 dX12_teethAll_20 rfl rfl ?_
      refine ck_imul dX12_teethAll_21 ?_
      refine ck_iload_n 3 dX12_teethAll_22 rfl rfl ?_
      refine ck_iadd dX12_teethAll_23 ?_
      obtain ⟨b2, hq⟩ := hq
      refine ck_iald rfl rfl b2 dX12_teethAll_24 ?_
      refine ck_iadd dX12_teethAll_25 ?_
      refine ck_nmI (fun v3 ev3 => ?_)
      have hq := hq v3 ev3
      refine ck_istore_n (lv' := [(2, .int v3), (0, .ref 0), (1, .int x1), (3, .int x3)]) dX12_teethAll_26 rfl (by decide) rfl ?_
      obtain ⟨v4, ev4⟩ : ∃ z : Int32, z = x3 + 1 := ⟨_, rfl⟩
      have hq := hq v4 ev4
      refine ck_iinc (v := v4) (lv' := [(3, .int v4), (2, .int v3), (0, .ref 0), (1, .int x1)]) 3 dX12_teethAll_27 rfl (by rw [ev4]; rfl) (by decide) rfl ?_
      refine ck_goto (tgt := 4) dX12_teethAll_30 (by decide) ?_
      refine ck_loc [2, 3, 1, 0] rfl ?_
      exact hKc _ _ _ _ hq
set_option maxHeartbeats 4000000 in
set_option maxRecDepth 100000 in
theorem c_X12_teethAll {gr : Bool} {x1 : Int32} {h : ck_H} {Q : Int32 → ck_H → Prop} (hq : wp_X12_teethAll x1 h Q) : ck_M yX12_teethAll cX12_teethAll 4 (some .int) 2 0 0 gr ck_shM h [.ref 0, .int x1] (ck_Qi ck_shM Q) := by
  refine ck_entry (lv := [(0, .ref 0), (1, .int x1)]) false (own := RX12) rfl (fun q => by cases q) (by decide) (Nat.le_of_ble_eq_true rfl) rfl ?_
  refine ck_iconst (v := 0) dX12_teethAll_0 (by decide) ?_
  refine ck_istore_n (lv' := [(2, .int (0 : Int32)), (0, .ref 0), (1, .int x1)]) dX12_teethAll_1 rfl (by decide) rfl ?_
  refine ck_iconst (v := 0) dX12_teethAll_2 (by decide) ?_
  refine ck_istore_n (lv' := [(3, .int (0 : Int32)), (2, .int (0 : Int32)), (0, .ref 0), (1, .int x1)]) dX12_teethAll_3 rfl (by decide) rfl ?_
  refine ck_loc [2, 3, 1, 0] rfl ?_
  refine cp_X12_teethAll_4 lpN _ _ _ _ hq
def wp_X12_ahead (x1 : Int32) (x2 : Int32) (h : ck_H) (Q : Int32 → ck_H → Prop) : Prop := (∀ h1, h1 = ck_sI h 0 0 (0 : Int32) → ((x1 < 0 → Q (-1 : Int32) h1) ∧ (¬ x1 < 0 → (((99 : Int32) < x1 → Q (-1 : Int32) h1) ∧ (¬ (99 : Int32) < x1 → ((x2 < 0 → Q (-1 : Int32) h1) ∧ (¬ x2 < 0 → ((x2 ≤ (6 : Int32) → (wp_X12_copies (1 : Int32) (0 : Int32) h1 (fun h6 => (wp_X12_goesOn x1 h6 (fun h7 => (((4 : Int32) ≤ x2 → ((¬ x2 = (4 : Int32) → ((¬ x2 = (5 : Int32) → (wp_X12_teethAll (1 : Int32) h7 (fun r12 h11 => Q r12 h11))) ∧ (x2 = (5 : Int32) → Q (h7.1 21 1) h7))) ∧ (x2 = (4 : Int32) → (wp_X12_gainAll (1 : Int32) h7 (fun r14 h13 => (wp_X12_gainAll (0 : Int32) h13 (fun r16 h15 => Q (r14 - r16) h15))))))) ∧ (¬ (4 : Int32) ≤ x2 → (wp_X12_manyOf (1 : Int32) x2 h7 (fun r18 h17 => (wp_X12_manyOf (0 : Int32) x2 h17 (fun r20 h19 => Q (r18 - r20) h19))))))))))) ∧ (¬ x2 ≤ (6 : Int32) → Q (-1 : Int32) h1)))))))))
set_option maxHeartbeats 4000000 in
set_option maxRecDepth 100000 in
theorem c_X12_ahead {gr : Bool} {x1 : Int32} {x2 : Int32} {h : ck_H} {Q : Int32 → ck_H → Prop} (hq : wp_X12_ahead x1 x2 h Q) : ck_M yX12_ahead cX12_ahead 3 (some .int) 12 0 0 gr ck_shM h [.ref 0, .int x1, .int x2] (ck_Qi ck_shM Q) := by
  refine ck_entry (lv := [(0, .ref 0), (1, .int x1), (2, .int x2)]) false (own := RX12) rfl (fun q => by cases q) (by decide) (Nat.le_of_ble_eq_true rfl) rfl ?_
  refine ck_aload_n 0 dX12_ahead_0 rfl rfl ?_
  refine ck_iconst (v := 0) dX12_ahead_1 (by decide) ?_
  refine ck_putI clX12 0 rfl rfl (by decide) fl_X12_145 rfl rfl rfl dX12_ahead_2 ?_
  refine ck_nmH (fun h1 eh1 => ?_)
  have hq := hq h1 eh1
  refine ck_iload_n 1 dX12_ahead_5 rfl rfl ?_
  refine ck_if_lt (tgt := 25) dX12_ahead_6 (by decide) (fun c2 => ?_) (fun c2 => ?_)
  · have hq := hq.1 c2
    refine ck_iconst (v := -1) dX12_ahead_25 (by decide) ?_
    exact ck_iret rfl rfl rfl rfl dX12_ahead_26 ⟨_, rfl, rfl, hq⟩
  · have hq := hq.2 c2
    refine ck_iload_n 1 dX12_ahead_9 rfl rfl ?_
    refine ck_bipush (v := 99) dX12_ahead_10 (by decide) ?_
    refine ck_icmp_gt (tgt := 25) dX12_ahead_12 (by decide) (fun c3 => ?_) (fun c3 => ?_)
    · have hq := hq.1 c3
      refine ck_iconst (v := -1) dX12_ahead_25 (by decide) ?_
      exact ck_iret rfl rfl rfl rfl dX12_ahead_26 ⟨_, rfl, rfl, hq⟩
    · have hq := hq.2 c3
      refine ck_iload_n 2 dX12_ahead_15 rfl rfl ?_
      refine ck_if_lt (tgt := 25) dX12_ahead_16 (by decide) (fun c4 => ?_) (fun c4 => ?_)
      · have hq := hq.1 c4
        refine ck_iconst (v := -1) dX12_ahead_25 (by decide) ?_
        exact ck_iret rfl rfl rfl rfl dX12_ahead_26 ⟨_, rfl, rfl, hq⟩
      · have hq := hq.2 c4
        refine ck_iload_n 2 dX12_ahead_19 rfl rfl ?_
        refine ck_bipush (v := 6) dX12_ahead_20 (by decide) ?_
        refine ck_icmp_le (tgt := 27) dX12_ahead_22 (by decide) (fun c5 => ?_) (fun c5 => ?_)
        · have hq := hq.1 c5
          refine ck_aload_n 0 dX12_ahead_27 rfl rfl ?_
          refine ck_iconst (v := 1) dX12_ahead_28 (by decide) ?_
          refine ck_iconst (v := 0) dX12_ahead_29 (by decide) ?_
          refine ck_callV (c_X12_copies hq) rfl cal_X12_copies rfl ml_X12_417 vir_X12_copies rfl rfl (by decide) (Nat.le_of_ble_eq_true rfl) (Nat.le_of_ble_eq_true rfl) (by decide) (by decide) dX12_ahead_30 ?_
          rintro _ _ h6 ⟨rfl, rfl, hq⟩
          refine ck_aload_n 0 dX12_ahead_33 rfl rfl ?_
          refine ck_iload_n 1 dX12_ahead_34 rfl rfl ?_
          refine ck_callV (c_X12_goesOn hq) rfl cal_X12_goesOn rfl ml_X12_423 vir_X12_goesOn rfl rfl (by decide) (Nat.le_of_ble_eq_true rfl) (Nat.le_of_ble_eq_true rfl) (by decide) (by decide) dX12_ahead_35 ?_
          rintro _ _ h7 ⟨rfl, rfl, hq⟩
          refine ck_iload_n 2 dX12_ahead_38 rfl rfl ?_
          refine ck_iconst (v := 4) dX12_ahead_39 (by decide) ?_
          refine ck_icmp_ge (tgt := 57) dX12_ahead_40 (by decide) (fun c8 => ?_) (fun c8 => ?_)
          · have hq := hq.1 c8
            refine ck_iload_n 2 dX12_ahead_57 rfl rfl ?_
            refine ck_iconst (v := 4) dX12_ahead_58 (by decide) ?_
            refine ck_icmp_ne (tgt := 74) dX12_ahead_59 (by decide) (fun c9 => ?_) (fun c9 => ?_)
            · have hq := hq.1 c9
              refine ck_iload_n 2 dX12_ahead_74 rfl rfl ?_
              refine ck_iconst (v := 5) dX12_ahead_75 (by decide) ?_
              refine ck_icmp_ne (tgt := 88) dX12_ahead_76 (by decide) (fun c10 => ?_) (fun c10 => ?_)
              · have hq := hq.1 c10
                refine ck_aload_n 0 dX12_ahead_88 rfl rfl ?_
                refine ck_iconst (v := 1) dX12_ahead_89 (by decide) ?_
                refine ck_callV (c_X12_teethAll hq) rfl cal_X12_teethAll rfl ml_X12_432 vir_X12_teethAll rfl rfl (by decide) (Nat.le_of_ble_eq_true rfl) (Nat.le_of_ble_eq_true rfl) (by decide) (by decide) dX12_ahead_90 ?_
                rintro _ _ h11 ⟨r12, rfl, rfl, hq⟩
                exact ck_iret rfl rfl rfl rfl dX12_ahead_93 ⟨_, rfl, rfl, hq⟩
              · have hq := hq.2 c10
                refine ck_aload_n 0 dX12_ahead_79 rfl rfl ?_
                refine ck_getR clX12 36 rfl rfl (by decide) fl_X12_75 dX12_ahead_80 ?_
                refine ck_iconst (v := 1) dX12_ahead_83 (by decide) ?_
                refine ck_iald (j := 1) (by decide) rfl (ck_inL (by decide)) dX12_ahead_84 ?_
                refine ck_goto (tgt := 93) dX12_ahead_85 (by decide) ?_
                exact ck_iret rfl rfl rfl rfl dX12_ahead_93 ⟨_, rfl, rfl, hq⟩
            · have hq := hq.2 c9
              refine ck_aload_n 0 dX12_ahead_62 rfl rfl ?_
              refine ck_iconst (v := 1) dX12_ahead_63 (by decide) ?_
              refine ck_callV (c_X12_gainAll hq) rfl cal_X12_gainAll rfl ml_X12_429 vir_X12_gainAll rfl rfl (by decide) (Nat.le_of_ble_eq_true rfl) (Nat.le_of_ble_eq_true rfl) (by decide) (by decide) dX12_ahead_64 ?_
              rintro _ _ h13 ⟨r14, rfl, rfl, hq⟩
              refine ck_aload_n 0 dX12_ahead_67 rfl rfl ?_
              refine ck_iconst (v := 0) dX12_ahead_68 (by decide) ?_
              refine ck_callV (c_X12_gainAll hq) rfl cal_X12_gainAll rfl ml_X12_429 vir_X12_gainAll rfl rfl (by decide) (Nat.le_of_ble_eq_true rfl) (Nat.le_of_ble_eq_true rfl) (by decide) (by decide) dX12_ahead_69 ?_
              rintro _ _ h15 ⟨r16, rfl, rfl, hq⟩
              refine ck_isub dX12_ahead_72 ?_
              exact ck_iret rfl rfl rfl rfl dX12_ahead_73 ⟨_, rfl, rfl, hq⟩
          · have hq := hq.2 c8
            refine ck_aload_n 0 dX12_ahead_43 rfl rfl ?_
            refine ck_iconst (v := 1) dX12_ahead_44 (by decide) ?_
            refine ck_iload_n 2 dX12_ahead_45 rfl rfl ?_
            refine ck_callV (c_X12_manyOf hq) rfl cal_X12_manyOf rfl ml_X12_426 vir_X12_manyOf rfl rfl (by decide) (Nat.le_of_ble_eq_true rfl) (Nat.le_of_ble_eq_true rfl) (by decide) (by decide) dX12_ahead_46 ?_
            rintro _ _ h17 ⟨r18, rfl, rfl, hq⟩
            refine ck_aload_n 0 dX12_ahead_49 rfl rfl ?_
            refine ck_iconst (v := 0) dX12_ahead_50 (by decide) ?_
            refine ck_iload_n 2 dX12_ahead_51 rfl rfl ?_
            refine ck_callV (c_X12_manyOf hq) rfl cal_X12_manyOf rfl ml_X12_426 vir_X12_manyOf rfl rfl (by decide) (Nat.le_of_ble_eq_true rfl) (Nat.le_of_ble_eq_true rfl) (by decide) (by decide) dX12_ahead_52 ?_
            rintro _ _ h19 ⟨r20, rfl, rfl, hq⟩
            refine ck_isub dX12_ahead_55 ?_
            exact ck_iret rfl rfl rfl rfl dX12_ahead_56 ⟨_, rfl, rfl, hq⟩
        · have hq := hq.2 c5
          refine ck_iconst (v := -1) dX12_ahead_25 (by decide) ?_
          exact ck_iret rfl rfl rfl rfl dX12_ahead_26 ⟨_, rfl, rfl, hq⟩
def wp_X12_power_4 (Q : Int32 → ck_H → Prop) : Nat → Int32 → Int32 → Int32 → Int32 → ck_H → Prop
  | 0 => fun _ _ _ _ _ => False
  | n + 1 => fun x0 x1 x2 x3 h => ((x1 ≤ x3 → Q x2 h) ∧ (¬ x1 ≤ x3 → (∀ v2, v2 = (x2 * x0) → (∀ v3, v3 = x3 + 1 → (wp_X12_power_4 Q n) x0 x1 v2 v3 h))))
def wp_X12_power (x0 : Int32) (x1 : Int32) (h : ck_H) (Q : Int32 → ck_H → Prop) : Prop := wp_X12_power_4 Q lpN x0 x1 (1 : Int32) (0 : Int32) h
set_option maxHeartbeats 4000000 in
set_option maxRecDepth 100000 in
theorem cp_X12_power_4 {gr : Bool} {Q : Int32 → ck_H → Prop} : ∀ (n : Nat) (x0 : Int32) (x1 : Int32) (x2 : Int32) (x3 : Int32) (h : ck_H), wp_X12_power_4 Q n x0 x1 x2 x3 h → ck_W cX12_power 4 RX12 (some .int) 2 0 0 false gr (ck_Qi ck_shM Q) ck_shM h 0 0 4 [(0, .int x0), (1, .int x1), (2, .int x2), (3, .int x3)] [] := by
  intro n
  induction n with
  | zero => intro x0 x1 x2 x3 h hq; exact hq.elim
  | succ n hKc =>
    intro x0 x1 x2 x3 h hq
    refine ck_iload_n 3 dX12_power_4 rfl rfl ?_
    refine ck_iload_n 1 dX12_power_5 rfl rfl ?_
    refine ck_icmp_ge (tgt := 19) dX12_power_6 (by decide) (fun c1 => ?_) (fun c1 => ?_)
    · have hq := hq.1 c1
      refine ck_iload_n 2 dX12_power_19 rfl rfl ?_
      exact ck_iret rfl rfl rfl rfl dX12_power_20 ⟨_, rfl, rfl, hq⟩
    · have hq := hq.2 c1
      refine ck_iload_n 2 dX12_power_9 rfl rfl ?_
      refine ck_iload_n 0 dX12_power_10 rfl rfl ?_
      refine ck_imul dX12_power_11 ?_
      refine ck_nmI (fun v2 ev2 => ?_)
      have hq := hq v2 ev2
      refine ck_istore_n (lv' := [(2, .int v2), (0, .int x0), (1, .int x1), (3, .int x3)]) dX12_power_12 rfl (by decide) rfl ?_
      obtain ⟨v3, ev3⟩ : ∃ z : Int32, z = x3 + 1 := ⟨_, rfl⟩
      have hq := hq v3 ev3
      refine ck_iinc (v := v3) (lv' := [(3, .int v3), (2, .int v2), (0, .int x0), (1, .int x1)]) 3 dX12_power_13 rfl (by rw [ev3]; rfl) (by decide) rfl ?_
      refine ck_goto (tgt := 4) dX12_power_16 (by decide) ?_
      refine ck_loc [2, 3, 1, 0] rfl ?_
      exact hKc _ _ _ _ _ hq
set_option maxHeartbeats 4000000 in
set_option maxRecDepth 100000 in
theorem c_X12_power {gr : Bool} {x0 : Int32} {x1 : Int32} {h : ck_H} {Q : Int32 → ck_H → Prop} (hq : wp_X12_power x0 x1 h Q) : ck_M yX12_power cX12_power 4 (some .int) 2 0 0 gr ck_shM h [.int x0, .int x1] (ck_Qi ck_shM Q) := by
  refine ck_entry (lv := [(0, .int x0), (1, .int x1)]) false (own := RX12) rfl (fun q => by cases q) (by decide) (Nat.le_of_ble_eq_true rfl) rfl ?_
  refine ck_iconst (v := 1) dX12_power_0 (by decide) ?_
  refine ck_istore_n (lv' := [(2, .int (1 : Int32)), (0, .int x0), (1, .int x1)]) dX12_power_1 rfl (by decide) rfl ?_
  refine ck_iconst (v := 0) dX12_power_2 (by decide) ?_
  refine ck_istore_n (lv' := [(3, .int (0 : Int32)), (2, .int (1 : Int32)), (0, .int x0), (1, .int x1)]) dX12_power_3 rfl (by decide) rfl ?_
  refine ck_loc [2, 3, 1, 0] rfl ?_
  refine cp_X12_power_4 lpN _ _ _ _ _ hq
def wp_X12_layDeal_57 (Q : ck_H → Prop) (K63 : Int32 → ck_H → Prop) (Kc : Int32 → Int32 → ck_H → Prop) (x1 : Int32) (x2 : Int32) (h : ck_H) : Prop := (∀ v10, v10 = x2 + 1 → Kc x1 v10 h)
def wp_X12_layDeal_7 (Q : ck_H → Prop) (K63 : Int32 → ck_H → Prop) : Nat → Int32 → Int32 → ck_H → Prop
  | 0 => fun _ _ _ => False
  | n + 1 => fun x1 x2 h => (((h.1 2 2) ≤ x2 → K63 x1 h) ∧ (¬ (h.1 2 2) ≤ x2 → (((4 : Int32) ≤ (h.1 0 52) → K63 x1 h) ∧ (¬ (4 : Int32) ≤ (h.1 0 52) → (wp_X12_isOpen (0 : Int32) x2 h (fun r5 h4 => ((¬ r5 = 0 → (vp_in (h4.1 0 52) 4 ∧ (∀ h8, h8 = ck_sI h4 29 (h4.1 0 52).toNatClampNeg x2 → (∀ h9, h9 = ck_sI h8 0 52 ((h8.1 0 52) + (1 : Int32)) → wp_X12_layDeal_57 Q K63 (wp_X12_layDeal_7 Q K63 n) x1 x2 h9)))) ∧ (r5 = 0 → wp_X12_layDeal_57 Q K63 (wp_X12_layDeal_7 Q K63 n) x1 x2 h4))))))))
def wp_X12_layDeal_95 (Q : ck_H → Prop) (K149 : Int32 → Int32 → ck_H → Prop) : Nat → Int32 → Int32 → Int32 → ck_H → Prop
  | 0 => fun _ _ _ _ => False
  | n + 1 => fun x1 x2 x3 h => (((h.1 0 52) ≤ x3 → K149 x1 x2 h) ∧ (¬ (h.1 0 52) ≤ x3 → (vp_in x3 4 ∧ (wp_X12_power (h.1 2 0) (((h.1 0 52) - (1 : Int32)) - x3) h (fun r21 h20 => (¬ r21 = 0 ∧ (¬ (h20.1 2 0) = 0 ∧ (vp_in ((10 : Int32) + (h.1 29 x3.toNatClampNeg)) 230 ∧ (∀ h25, h25 = ck_sI h20 26 ((10 : Int32) + (h.1 29 x3.toNatClampNeg)).toNatClampNeg (ck_rem (x2 / r21) (h20.1 2 0)) → (∀ v26, v26 = x3 + 1 → (wp_X12_layDeal_95 Q K149 n) x1 x2 v26 h25))))))))))
def wp_X12_layDeal_187 (Q : ck_H → Prop) (Kc : Int32 → Int32 → ck_H → Prop) (x1 : Int32) (x2 : Int32) (h : ck_H) : Prop := (∀ v39, v39 = x2 + 1 → Kc x1 v39 h)
def wp_X12_layDeal_70 (Q : ck_H → Prop) : Nat → Int32 → Int32 → ck_H → Prop
  | 0 => fun _ _ _ => False
  | n + 1 => fun x1 x2 h => (wp_X12_power (h.1 2 0) (h.1 0 52) h (fun r15 h14 => ((r15 ≤ x2 → Q h14) ∧ (¬ r15 ≤ x2 → (wp_X12_copies (1 : Int32) (0 : Int32) h14 (fun h17 => wp_X12_layDeal_95 Q (fun x28 x29 h27 => (wp_X12_goesOn x28 h27 (fun h30 => (wp_X12_gainAll (1 : Int32) h30 (fun r32 h31 => (wp_X12_gainAll (0 : Int32) h31 (fun r34 h33 => (∀ v35, v35 = (r32 - r34) → (((h33.1 0 53) < v35 → (∀ h37, h37 = ck_sI h33 0 53 v35 → (∀ h38, h38 = ck_sI h37 0 54 x29 → wp_X12_layDeal_187 Q (wp_X12_layDeal_70 Q n) x28 x29 h38))) ∧ (¬ (h33.1 0 53) < v35 → wp_X12_layDeal_187 Q (wp_X12_layDeal_70 Q n) x28 x29 h33)))))))))) lpN x1 x2 (0 : Int32) h17))))))
def wp_X12_layDeal_63 (Q : ck_H → Prop) (x1 : Int32) (h : ck_H) : Prop := (∀ h13, h13 = ck_sI h 0 53 (-1 : Int32) → wp_X12_layDeal_70 Q lpN x1 (0 : Int32) h13)
def wp_X12_layDeal (x1 : Int32) (h : ck_H) (Q : ck_H → Prop) : Prop := (∀ h1, h1 = ck_sI h 0 52 (0 : Int32) → wp_X12_layDeal_7 Q (fun x12 h11 => wp_X12_layDeal_63 Q x12 h11) lpN x1 (0 : Int32) h1)
set_option maxHeartbeats 4000000 in
set_option maxRecDepth 100000 in
theorem cp_X12_layDeal_57 {gr : Bool} {Q : ck_H → Prop} {K63 : Int32 → ck_H → Prop} {Kc : Int32 → Int32 → ck_H → Prop} (hK63 : ∀ (x1 : Int32) (h : ck_H), K63 x1 h → ck_W cX12_layDeal 4 RX12 none 12 0 0 false gr (ck_Qv ck_shM Q) ck_shM h 0 0 63 [(0, .ref 0), (1, .int x1)] []) (hKc : ∀ (x1 : Int32) (x2 : Int32) (h : ck_H), Kc x1 x2 h → ck_W cX12_layDeal 4 RX12 none 12 0 0 false gr (ck_Qv ck_shM Q) ck_shM h 0 0 7 [(0, .ref 0), (1, .int x1), (2, .int x2)] []) : ∀ (x1 : Int32) (x2 : Int32) (h : ck_H), wp_X12_layDeal_57 Q K63 Kc x1 x2 h → ck_W cX12_layDeal 4 RX12 none 12 0 0 false gr (ck_Qv ck_shM Q) ck_shM h 0 0 57 [(0, .ref 0), (1, .int x1), (2, .int x2)] [] := by
  intro x1 x2 h hq
  obtain ⟨v10, ev10⟩ : ∃ z : Int32, z = x2 + 1 := ⟨_, rfl⟩
  have hq := hq v10 ev10
  refine ck_iinc (v := v10) (lv' := [(2, .int v10), (0, .ref 0), (1, .int x1)]) 2 dX12_layDeal_57 rfl (by rw [ev10]; rfl) (by decide) rfl ?_
  refine ck_goto (tgt := 7) dX12_layDeal_60 (by decide) ?_
  refine ck_loc [1, 2, 0] rfl ?_
  exact hKc _ _ _ hq
set_option maxHeartbeats 4000000 in
set_option maxRecDepth 100000 in
theorem cp_X12_layDeal_7 {gr : Bool} {Q : ck_H → Prop} {K63 : Int32 → ck_H → Prop} (hK63 : ∀ (x1 : Int32) (h : ck_H), K63 x1 h → ck_W cX12_layDeal 4 RX12 none 12 0 0 false gr (ck_Qv ck_shM Q) ck_shM h 0 0 63 [(0, .ref 0), (1, .int x1)] []) : ∀ (n : Nat) (x1 : Int32) (x2 : Int32) (h : ck_H), wp_X12_layDeal_7 Q K63 n x1 x2 h → ck_W cX12_layDeal 4 RX12 none 12 0 0 false gr (ck_Qv ck_shM Q) ck_shM h 0 0 7 [(0, .ref 0), (1, .int x1), (2, .int x2)] [] := by
  intro n
  induction n with
  | zero => intro x1 x2 h hq; exact hq.elim
  | succ n hKc =>
    intro x1 x2 h hq
    refine ck_iload_n 2 dX12_layDeal_7 rfl rfl ?_
    refine ck_aload_n 0 dX12_layDeal_8 rfl rfl ?_
    refine ck_getR clX12 3 rfl rfl (by decide) fl_X12_13 dX12_layDeal_9 ?_
    refine ck_iconst (v := 2) dX12_layDeal_12 (by decide) ?_
    refine ck_iald (j := 2) (by decide) rfl (ck_inL (by decide)) dX12_layDeal_13 ?_
    refine ck_icmp_ge (tgt := 63) dX12_layDeal_14 (by decide) (fun c2 => ?_) (fun c2 => ?_)
    · have hq := hq.1 c2
      refine ck_loc [0, 1] rfl ?_
      exact hK63 _ _ hq
    · have hq := hq.2 c2
      refine ck_aload_n 0 dX12_layDeal_17 rfl rfl ?_
      refine ck_getI clX12 52 rfl rfl (by decide) fl_X12_435 dX12_layDeal_18 ?_
      refine ck_iconst (v := 4) dX12_layDeal_21 (by decide) ?_
      refine ck_icmp_ge (tgt := 63) dX12_layDeal_22 (by decide) (fun c3 => ?_) (fun c3 => ?_)
      · have hq := hq.1 c3
        refine ck_loc [0, 1] rfl ?_
        exact hK63 _ _ hq
      · have hq := hq.2 c3
        refine ck_aload_n 0 dX12_layDeal_25 rfl rfl ?_
        refine ck_iconst (v := 0) dX12_layDeal_26 (by decide) ?_
        refine ck_iload_n 2 dX12_layDeal_27 rfl rfl ?_
        refine ck_callV (c_X12_isOpen hq) rfl cal_X12_isOpen rfl ml_X12_379 vir_X12_isOpen rfl rfl (by decide) (Nat.le_of_ble_eq_true rfl) (Nat.le_of_ble_eq_true rfl) (by decide) (by decide) dX12_layDeal_28 ?_
        rintro _ _ h4 ⟨r5, rfl, rfl, hq⟩
        refine ck_if_ne (tgt := 37) dX12_layDeal_31 (by decide) (fun c6 => ?_) (fun c6 => ?_)
        · have hq := hq.1 c6
          refine ck_aload_n 0 dX12_layDeal_37 rfl rfl ?_
          refine ck_getR clX12 51 rfl rfl (by decide) fl_X12_105 dX12_layDeal_38 ?_
          refine ck_aload_n 0 dX12_layDeal_41 rfl rfl ?_
          refine ck_getI clX12 52 rfl rfl (by decide) fl_X12_435 dX12_layDeal_42 ?_
          refine ck_iload_n 2 dX12_layDeal_45 rfl rfl ?_
          obtain ⟨b7, hq⟩ := hq
          refine ck_iast rfl rfl b7 dX12_layDeal_46 ?_
          refine ck_nmH (fun h8 eh8 => ?_)
          have hq := hq h8 eh8
          refine ck_aload_n 0 dX12_layDeal_47 rfl rfl ?_
          refine ck_dup dX12_layDeal_48 rfl ?_
          refine ck_getI clX12 52 rfl rfl (by decide) fl_X12_435 dX12_layDeal_49 ?_
          refine ck_iconst (v := 1) dX12_layDeal_52 (by decide) ?_
          refine ck_iadd dX12_layDeal_53 ?_
          refine ck_putI clX12 52 rfl rfl (by decide) fl_X12_435 rfl rfl rfl dX12_layDeal_54 ?_
          refine ck_nmH (fun h9 eh9 => ?_)
          have hq := hq h9 eh9
          exact cp_X12_layDeal_57 hK63 hKc _ _ _ hq
        · have hq := hq.2 c6
          refine ck_goto (tgt := 57) dX12_layDeal_34 (by decide) ?_
          exact cp_X12_layDeal_57 hK63 hKc _ _ _ hq
set_option maxHeartbeats 4000000 in
set_option maxRecDepth 100000 in
theorem cp_X12_layDeal_95 {gr : Bool} {Q : ck_H → Prop} {K149 : Int32 → Int32 → ck_H → Prop} (hK149 : ∀ (x1 : Int32) (x2 : Int32) (h : ck_H), K149 x1 x2 h → ck_W cX12_layDeal 4 RX12 none 12 0 0 false gr (ck_Qv ck_shM Q) ck_shM h 0 0 149 [(0, .ref 0), (1, .int x1), (2, .int x2)] []) : ∀ (n : Nat) (x1 : Int32) (x2 : Int32) (x3 : Int32) (h : ck_H), wp_X12_layDeal_95 Q K149 n x1 x2 x3 h → ck_W cX12_layDeal 4 RX12 none 12 0 0 false gr (ck_Qv ck_shM Q) ck_shM h 0 0 95 [(0, .ref 0), (1, .int x1), (2, .int x2), (3, .int x3)] [] := by
  intro n
  induction n with
  | zero => intro x1 x2 x3 h hq; exact hq.elim
  | succ n hKc =>
    intro x1 x2 x3 h hq
    refine ck_iload_n 3 dX12_layDeal_95 rfl rfl ?_
    refine ck_aload_n 0 dX12_layDeal_96 rfl rfl ?_
    refine ck_getI clX12 52 rfl rfl (by decide) fl_X12_435 dX12_layDeal_97 ?_
    refine ck_icmp_ge (tgt := 149) dX12_layDeal_100 (by decide) (fun c18 => ?_) (fun c18 => ?_)
    · have hq := hq.1 c18
      refine ck_loc [0, 1, 2] rfl ?_
      exact hK149 _ _ _ hq
    · have hq := hq.2 c18
      refine ck_aload_n 0 dX12_layDeal_103 rfl rfl ?_
      refine ck_getR clX12 41 rfl rfl (by decide) fl_X12_90 dX12_layDeal_104 ?_
      refine ck_bipush (v := 10) dX12_layDeal_107 (by decide) ?_
      refine ck_aload_n 0 dX12_layDeal_109 rfl rfl ?_
      refine ck_getR clX12 51 rfl rfl (by decide) fl_X12_105 dX12_layDeal_110 ?_
      refine ck_iload_n 3 dX12_layDeal_113 rfl rfl ?_
      obtain ⟨b19, hq⟩ := hq
      refine ck_iald rfl rfl b19 dX12_layDeal_114 ?_
      refine ck_iadd dX12_layDeal_115 ?_
      refine ck_iload_n 2 dX12_layDeal_116 rfl rfl ?_
      refine ck_aload_n 0 dX12_layDeal_117 rfl rfl ?_
      refine ck_getR clX12 3 rfl rfl (by decide) fl_X12_13 dX12_layDeal_118 ?_
      refine ck_iconst (v := 0) dX12_layDeal_121 (by decide) ?_
      refine ck_iald (j := 0) (by decide) rfl (ck_inL (by decide)) dX12_layDeal_122 ?_
      refine ck_aload_n 0 dX12_layDeal_123 rfl rfl ?_
      refine ck_getI clX12 52 rfl rfl (by decide) fl_X12_435 dX12_layDeal_124 ?_
      refine ck_iconst (v := 1) dX12_layDeal_127 (by decide) ?_
      refine ck_isub dX12_layDeal_128 ?_
      refine ck_iload_n 3 dX12_layDeal_129 rfl rfl ?_
      refine ck_isub dX12_layDeal_130 ?_
      refine ck_callS (c_X12_power hq) rfl cal_X12_power rfl ml_X12_441 sta_X12_power (by decide) (Nat.le_of_ble_eq_true rfl) (Nat.le_of_ble_eq_true rfl) (by decide) (by decide) dX12_layDeal_131 ?_
      rintro _ _ h20 ⟨r21, rfl, rfl, hq⟩
      obtain ⟨b22, hq⟩ := hq
      refine ck_idiv dX12_layDeal_134 b22 ?_
      refine ck_aload_n 0 dX12_layDeal_135 rfl rfl ?_
      refine ck_getR clX12 3 rfl rfl (by decide) fl_X12_13 dX12_layDeal_136 ?_
      refine ck_iconst (v := 0) dX12_layDeal_139 (by decide) ?_
      refine ck_iald (j := 0) (by decide) rfl (ck_inL (by decide)) dX12_layDeal_140 ?_
      obtain ⟨b23, hq⟩ := hq
      refine ck_irem dX12_layDeal_141 b23 ?_
      obtain ⟨b24, hq⟩ := hq
      refine ck_iast rfl rfl b24 dX12_layDeal_142 ?_
      refine ck_nmH (fun h25 eh25 => ?_)
      have hq := hq h25 eh25
      obtain ⟨v26, ev26⟩ : ∃ z : Int32, z = x3 + 1 := ⟨_, rfl⟩
      have hq := hq v26 ev26
      refine ck_iinc (v := v26) (lv' := [(3, .int v26), (0, .ref 0), (1, .int x1), (2, .int x2)]) 3 dX12_layDeal_143 rfl (by rw [ev26]; rfl) (by decide) rfl ?_
      refine ck_goto (tgt := 95) dX12_layDeal_146 (by decide) ?_
      refine ck_loc [1, 2, 3, 0] rfl ?_
      exact hKc _ _ _ _ hq
set_option maxHeartbeats 4000000 in
set_option maxRecDepth 100000 in
theorem cp_X12_layDeal_187 {gr : Bool} {Q : ck_H → Prop} {Kc : Int32 → Int32 → ck_H → Prop} (hKc : ∀ (x1 : Int32) (x2 : Int32) (h : ck_H), Kc x1 x2 h → ck_W cX12_layDeal 4 RX12 none 12 0 0 false gr (ck_Qv ck_shM Q) ck_shM h 0 0 70 [(0, .ref 0), (1, .int x1), (2, .int x2)] []) : ∀ (x1 : Int32) (x2 : Int32) (h : ck_H), wp_X12_layDeal_187 Q Kc x1 x2 h → ck_W cX12_layDeal 4 RX12 none 12 0 0 false gr (ck_Qv ck_shM Q) ck_shM h 0 0 187 [(0, .ref 0), (1, .int x1), (2, .int x2)] [] := by
  intro x1 x2 h hq
  obtain ⟨v39, ev39⟩ : ∃ z : Int32, z = x2 + 1 := ⟨_, rfl⟩
  have hq := hq v39 ev39
  refine ck_iinc (v := v39) (lv' := [(2, .int v39), (0, .ref 0), (1, .int x1)]) 2 dX12_layDeal_187 rfl (by rw [ev39]; rfl) (by decide) rfl ?_
  refine ck_goto (tgt := 70) dX12_layDeal_190 (by decide) ?_
  refine ck_loc [1, 2, 0] rfl ?_
  exact hKc _ _ _ hq
set_option maxHeartbeats 4000000 in
set_option maxRecDepth 100000 in
theorem cp_X12_layDeal_70 {gr : Bool} {Q : ck_H → Prop} : ∀ (n : Nat) (x1 : Int32) (x2 : Int32) (h : ck_H), wp_X12_layDeal_70 Q n x1 x2 h → ck_W cX12_layDeal 4 RX12 none 12 0 0 false gr (ck_Qv ck_shM Q) ck_shM h 0 0 70 [(0, .ref 0), (1, .int x1), (2, .int x2)] [] := by
  intro n
  induction n with
  | zero => intro x1 x2 h hq; exact hq.elim
  | succ n hKc =>
    intro x1 x2 h hq
    unfold wp_X12_layDeal_70 at hq
    refine ck_iload_n 2 dX12_layDeal_70 rfl rfl ?_
    refine ck_aload_n 0 dX12_layDeal_71 rfl rfl ?_
    refine ck_getR clX12 3 rfl rfl (by decide) fl_X12_13 dX12_layDeal_72 ?_
    refine ck_iconst (v := 0) dX12_layDeal_75 (by decide) ?_
    refine ck_iald (j := 0) (by decide) rfl (ck_inL (by decide)) dX12_layDeal_76 ?_
    refine ck_aload_n 0 dX12_layDeal_77 rfl rfl ?_
    refine ck_getI clX12 52 rfl rfl (by decide) fl_X12_435 dX12_layDeal_78 ?_
    refine ck_callS (c_X12_power hq) rfl cal_X12_power rfl ml_X12_441 sta_X12_power (by decide) (Nat.le_of_ble_eq_true rfl) (Nat.le_of_ble_eq_true rfl) (by decide) (by decide) dX12_layDeal_81 ?_
    rintro _ _ h14 ⟨r15, rfl, rfl, hq⟩
    refine ck_icmp_ge (tgt := 193) dX12_layDeal_84 (by decide) (fun c16 => ?_) (fun c16 => ?_)
    · have hq := hq.1 c16
      exact ck_vret rfl rfl rfl dX12_layDeal_193 ⟨rfl, rfl, hq⟩
    · have hq := hq.2 c16
      refine ck_aload_n 0 dX12_layDeal_87 rfl rfl ?_
      refine ck_iconst (v := 1) dX12_layDeal_88 (by decide) ?_
      refine ck_iconst (v := 0) dX12_layDeal_89 (by decide) ?_
      refine ck_callV (c_X12_copies hq) rfl cal_X12_copies rfl ml_X12_417 vir_X12_copies rfl rfl (by decide) (Nat.le_of_ble_eq_true rfl) (Nat.le_of_ble_eq_true rfl) (by decide) (by decide) dX12_layDeal_90 ?_
      rintro _ _ h17 ⟨rfl, rfl, hq⟩
      refine ck_iconst (v := 0) dX12_layDeal_93 (by decide) ?_
      refine ck_istore_n (lv' := [(3, .int (0 : Int32)), (0, .ref 0), (1, .int x1), (2, .int x2)]) dX12_layDeal_94 rfl (by decide) rfl ?_
      refine ck_loc [1, 2, 3, 0] rfl ?_
      refine cp_X12_layDeal_95 (fun x28 x29 h27 hq => ?_) lpN _ _ _ _ hq
      · refine ck_aload_n 0 dX12_layDeal_149 rfl rfl ?_
        refine ck_iload_n 1 dX12_layDeal_150 rfl rfl ?_
        refine ck_callV (c_X12_goesOn hq) rfl cal_X12_goesOn rfl ml_X12_423 vir_X12_goesOn rfl rfl (by decide) (Nat.le_of_ble_eq_true rfl) (Nat.le_of_ble_eq_true rfl) (by decide) (by decide) dX12_layDeal_151 ?_
        rintro _ _ h30 ⟨rfl, rfl, hq⟩
        refine ck_aload_n 0 dX12_layDeal_154 rfl rfl ?_
        refine ck_iconst (v := 1) dX12_layDeal_155 (by decide) ?_
        refine ck_callV (c_X12_gainAll hq) rfl cal_X12_gainAll rfl ml_X12_429 vir_X12_gainAll rfl rfl (by decide) (Nat.le_of_ble_eq_true rfl) (Nat.le_of_ble_eq_true rfl) (by decide) (by decide) dX12_layDeal_156 ?_
        rintro _ _ h31 ⟨r32, rfl, rfl, hq⟩
        refine ck_aload_n 0 dX12_layDeal_159 rfl rfl ?_
        refine ck_iconst (v := 0) dX12_layDeal_160 (by decide) ?_
        refine ck_callV (c_X12_gainAll hq) rfl cal_X12_gainAll rfl ml_X12_429 vir_X12_gainAll rfl rfl (by decide) (Nat.le_of_ble_eq_true rfl) (Nat.le_of_ble_eq_true rfl) (by decide) (by decide) dX12_layDeal_161 ?_
        rintro _ _ h33 ⟨r34, rfl, rfl, hq⟩
        refine ck_isub dX12_layDeal_164 ?_
        refine ck_nmI (fun v35 ev35 => ?_)
        have hq := hq v35 ev35
        refine ck_istore_n (lv' := [(3, .int v35), (0, .ref 0), (1, .int x28), (2, .int x29)]) dX12_layDeal_165 rfl (by decide) rfl ?_
        refine ck_iload_n 0 dX12_layDeal_166 rfl rfl ?_
        refine ck_aload_n 1 dX12_layDeal_167 rfl rfl ?_
        refine ck_getI clX12 53 rfl rfl (by decide) fl_X12_438 dX12_layDeal_168 ?_
        refine ck_icmp_gt (tgt := 177) dX12_layDeal_171 (by decide) (fun c36 => ?_) (fun c36 => ?_)
        · have hq := hq.1 c36
          refine ck_aload_n 1 dX12_layDeal_177 rfl rfl ?_
          refine ck_iload_n 0 dX12_layDeal_178 rfl rfl ?_
          refine ck_putI clX12 53 rfl rfl (by decide) fl_X12_438 rfl rfl rfl dX12_layDeal_179 ?_
          refine ck_nmH (fun h37 eh37 => ?_)
          have hq := hq h37 eh37
          refine ck_aload_n 1 dX12_layDeal_182 rfl rfl ?_
          refine ck_iload_n 3 dX12_layDeal_183 rfl rfl ?_
          refine ck_putI clX12 54 rfl rfl (by decide) fl_X12_444 rfl rfl rfl dX12_layDeal_184 ?_
          refine ck_nmH (fun h38 eh38 => ?_)
          have hq := hq h38 eh38
          refine ck_loc [1, 2, 3] rfl ?_
          exact cp_X12_layDeal_187 hKc _ _ _ hq
        · have hq := hq.2 c36
          refine ck_goto (tgt := 187) dX12_layDeal_174 (by decide) ?_
          refine ck_loc [1, 2, 3] rfl ?_
          exact cp_X12_layDeal_187 hKc _ _ _ hq
set_option maxHeartbeats 4000000 in
set_option maxRecDepth 100000 in
theorem cp_X12_layDeal_63 {gr : Bool} {Q : ck_H → Prop} : ∀ (x1 : Int32) (h : ck_H), wp_X12_layDeal_63 Q x1 h → ck_W cX12_layDeal 4 RX12 none 12 0 0 false gr (ck_Qv ck_shM Q) ck_shM h 0 0 63 [(0, .ref 0), (1, .int x1)] [] := by
  intro x1 h hq
  refine ck_aload_n 0 dX12_layDeal_63 rfl rfl ?_
  refine ck_iconst (v := -1) dX12_layDeal_64 (by decide) ?_
  refine ck_putI clX12 53 rfl rfl (by decide) fl_X12_438 rfl rfl rfl dX12_layDeal_65 ?_
  refine ck_nmH (fun h13 eh13 => ?_)
  have hq := hq h13 eh13
  refine ck_iconst (v := 0) dX12_layDeal_68 (by decide) ?_
  refine ck_istore_n (lv' := [(2, .int (0 : Int32)), (0, .ref 0), (1, .int x1)]) dX12_layDeal_69 rfl (by decide) rfl ?_
  refine ck_loc [1, 2, 0] rfl ?_
  refine cp_X12_layDeal_70 lpN _ _ _ hq
set_option maxHeartbeats 4000000 in
set_option maxRecDepth 100000 in
theorem c_X12_layDeal {gr : Bool} {x1 : Int32} {h : ck_H} {Q : ck_H → Prop} (hq : wp_X12_layDeal x1 h Q) : ck_M yX12_layDeal cX12_layDeal 4 none 12 0 0 gr ck_shM h [.ref 0, .int x1] (ck_Qv ck_shM Q) := by
  refine ck_entry (lv := [(0, .ref 0), (1, .int x1)]) false (own := RX12) rfl (fun q => by cases q) (by decide) (Nat.le_of_ble_eq_true rfl) rfl ?_
  refine ck_aload_n 0 dX12_layDeal_0 rfl rfl ?_
  refine ck_iconst (v := 0) dX12_layDeal_1 (by decide) ?_
  refine ck_putI clX12 52 rfl rfl (by decide) fl_X12_435 rfl rfl rfl dX12_layDeal_2 ?_
  refine ck_nmH (fun h1 eh1 => ?_)
  have hq := hq h1 eh1
  refine ck_iconst (v := 0) dX12_layDeal_5 (by decide) ?_
  refine ck_istore_n (lv' := [(2, .int (0 : Int32)), (0, .ref 0), (1, .int x1)]) dX12_layDeal_6 rfl (by decide) rfl ?_
  refine ck_loc [1, 2, 0] rfl ?_
  refine cp_X12_layDeal_7 (fun x12 h11 hq => ?_) lpN _ _ _ hq
  · exact cp_X12_layDeal_63 _ _ hq
def wp_X12_deal (x1 : Int32) (x2 : Int32) (h : ck_H) (Q : Int32 → ck_H → Prop) : Prop := (∀ h1, h1 = ck_sI h 0 0 (0 : Int32) → ((x1 < (1 : Int32) → Q (-1 : Int32) h1) ∧ (¬ x1 < (1 : Int32) → (((60 : Int32) < x1 → Q (-1 : Int32) h1) ∧ (¬ (60 : Int32) < x1 → ((x2 < 0 → Q (-1 : Int32) h1) ∧ (¬ x2 < 0 → (((4 : Int32) < x2 → Q (-1 : Int32) h1) ∧ (¬ (4 : Int32) < x2 → ((¬ (h1.1 2 0) = 0 → (wp_X12_layDeal x1 h1 (fun h7 => ((¬ x2 = (4 : Int32) → (((h7.1 0 52) ≤ x2 → Q (-2 : Int32) h7) ∧ (¬ (h7.1 0 52) ≤ x2 → (wp_X12_power (h7.1 2 0) (((h7.1 0 52) - (1 : Int32)) - x2) h7 (fun r11 h10 => (¬ r11 = 0 ∧ (¬ (h10.1 2 0) = 0 ∧ Q (ck_rem ((h7.1 0 54) / r11) (h10.1 2 0)) h10))))))) ∧ (x2 = (4 : Int32) → Q (h7.1 0 53) h7))))) ∧ ((h1.1 2 0) = 0 → Q (-1 : Int32) h1)))))))))))
set_option maxHeartbeats 4000000 in
set_option maxRecDepth 100000 in
theorem c_X12_deal {gr : Bool} {x1 : Int32} {x2 : Int32} {h : ck_H} {Q : Int32 → ck_H → Prop} (hq : wp_X12_deal x1 x2 h Q) : ck_M yX12_deal cX12_deal 3 (some .int) 13 0 0 gr ck_shM h [.ref 0, .int x1, .int x2] (ck_Qi ck_shM Q) := by
  refine ck_entry (lv := [(0, .ref 0), (1, .int x1), (2, .int x2)]) false (own := RX12) rfl (fun q => by cases q) (by decide) (Nat.le_of_ble_eq_true rfl) rfl ?_
  refine ck_aload_n 0 dX12_deal_0 rfl rfl ?_
  refine ck_iconst (v := 0) dX12_deal_1 (by decide) ?_
  refine ck_putI clX12 0 rfl rfl (by decide) fl_X12_145 rfl rfl rfl dX12_deal_2 ?_
  refine ck_nmH (fun h1 eh1 => ?_)
  have hq := hq h1 eh1
  refine ck_iload_n 1 dX12_deal_5 rfl rfl ?_
  refine ck_iconst (v := 1) dX12_deal_6 (by decide) ?_
  refine ck_icmp_lt (tgt := 34) dX12_deal_7 (by decide) (fun c2 => ?_) (fun c2 => ?_)
  · have hq := hq.1 c2
    refine ck_iconst (v := -1) dX12_deal_34 (by decide) ?_
    exact ck_iret rfl rfl rfl rfl dX12_deal_35 ⟨_, rfl, rfl, hq⟩
  · have hq := hq.2 c2
    refine ck_iload_n 1 dX12_deal_10 rfl rfl ?_
    refine ck_bipush (v := 60) dX12_deal_11 (by decide) ?_
    refine ck_icmp_gt (tgt := 34) dX12_deal_13 (by decide) (fun c3 => ?_) (fun c3 => ?_)
    · have hq := hq.1 c3
      refine ck_iconst (v := -1) dX12_deal_34 (by decide) ?_
      exact ck_iret rfl rfl rfl rfl dX12_deal_35 ⟨_, rfl, rfl, hq⟩
    · have hq := hq.2 c3
      refine ck_iload_n 2 dX12_deal_16 rfl rfl ?_
      refine ck_if_lt (tgt := 34) dX12_deal_17 (by decide) (fun c4 => ?_) (fun c4 => ?_)
      · have hq := hq.1 c4
        refine ck_iconst (v := -1) dX12_deal_34 (by decide) ?_
        exact ck_iret rfl rfl rfl rfl dX12_deal_35 ⟨_, rfl, rfl, hq⟩
      · have hq := hq.2 c4
        refine ck_iload_n 2 dX12_deal_20 rfl rfl ?_
        refine ck_iconst (v := 4) dX12_deal_21 (by decide) ?_
        refine ck_icmp_gt (tgt := 34) dX12_deal_22 (by decide) (fun c5 => ?_) (fun c5 => ?_)
        · have hq := hq.1 c5
          refine ck_iconst (v := -1) dX12_deal_34 (by decide) ?_
          exact ck_iret rfl rfl rfl rfl dX12_deal_35 ⟨_, rfl, rfl, hq⟩
        · have hq := hq.2 c5
          refine ck_aload_n 0 dX12_deal_25 rfl rfl ?_
          refine ck_getR clX12 3 rfl rfl (by decide) fl_X12_13 dX12_deal_26 ?_
          refine ck_iconst (v := 0) dX12_deal_29 (by decide) ?_
          refine ck_iald (j := 0) (by decide) rfl (ck_inL (by decide)) dX12_deal_30 ?_
          refine ck_if_ne (tgt := 36) dX12_deal_31 (by decide) (fun c6 => ?_) (fun c6 => ?_)
          · have hq := hq.1 c6
            refine ck_aload_n 0 dX12_deal_36 rfl rfl ?_
            refine ck_iload_n 1 dX12_deal_37 rfl rfl ?_
            refine ck_callV (c_X12_layDeal hq) rfl cal_X12_layDeal rfl ml_X12_447 vir_X12_layDeal rfl rfl (by decide) (Nat.le_of_ble_eq_true rfl) (Nat.le_of_ble_eq_true rfl) (by decide) (by decide) dX12_deal_38 ?_
            rintro _ _ h7 ⟨rfl, rfl, hq⟩
            refine ck_iload_n 2 dX12_deal_41 rfl rfl ?_
            refine ck_iconst (v := 4) dX12_deal_42 (by decide) ?_
            refine ck_icmp_ne (tgt := 51) dX12_deal_43 (by decide) (fun c8 => ?_) (fun c8 => ?_)
            · have hq := hq.1 c8
              refine ck_iload_n 2 dX12_deal_51 rfl rfl ?_
              refine ck_aload_n 0 dX12_deal_52 rfl rfl ?_
              refine ck_getI clX12 52 rfl rfl (by decide) fl_X12_435 dX12_deal_53 ?_
              refine ck_icmp_ge (tgt := 91) dX12_deal_56 (by decide) (fun c9 => ?_) (fun c9 => ?_)
              · have hq := hq.1 c9
                refine ck_bipush (v := -2) dX12_deal_91 (by decide) ?_
                exact ck_iret rfl rfl rfl rfl dX12_deal_93 ⟨_, rfl, rfl, hq⟩
              · have hq := hq.2 c9
                refine ck_aload_n 0 dX12_deal_59 rfl rfl ?_
                refine ck_getI clX12 54 rfl rfl (by decide) fl_X12_444 dX12_deal_60 ?_
                refine ck_aload_n 0 dX12_deal_63 rfl rfl ?_
                refine ck_getR clX12 3 rfl rfl (by decide) fl_X12_13 dX12_deal_64 ?_
                refine ck_iconst (v := 0) dX12_deal_67 (by decide) ?_
                refine ck_iald (j := 0) (by decide) rfl (ck_inL (by decide)) dX12_deal_68 ?_
                refine ck_aload_n 0 dX12_deal_69 rfl rfl ?_
                refine ck_getI clX12 52 rfl rfl (by decide) fl_X12_435 dX12_deal_70 ?_
                refine ck_iconst (v := 1) dX12_deal_73 (by decide) ?_
                refine ck_isub dX12_deal_74 ?_
                refine ck_iload_n 2 dX12_deal_75 rfl rfl ?_
                refine ck_isub dX12_deal_76 ?_
                refine ck_callS (c_X12_power hq) rfl cal_X12_power rfl ml_X12_441 sta_X12_power (by decide) (Nat.le_of_ble_eq_true rfl) (Nat.le_of_ble_eq_true rfl) (by decide) (by decide) dX12_deal_77 ?_
                rintro _ _ h10 ⟨r11, rfl, rfl, hq⟩
                obtain ⟨b12, hq⟩ := hq
                refine ck_idiv dX12_deal_80 b12 ?_
                refine ck_aload_n 0 dX12_deal_81 rfl rfl ?_
                refine ck_getR clX12 3 rfl rfl (by decide) fl_X12_13 dX12_deal_82 ?_
                refine ck_iconst (v := 0) dX12_deal_85 (by decide) ?_
                refine ck_iald (j := 0) (by decide) rfl (ck_inL (by decide)) dX12_deal_86 ?_
                obtain ⟨b13, hq⟩ := hq
                refine ck_irem dX12_deal_87 b13 ?_
                refine ck_goto (tgt := 93) dX12_deal_88 (by decide) ?_
                exact ck_iret rfl rfl rfl rfl dX12_deal_93 ⟨_, rfl, rfl, hq⟩
            · have hq := hq.2 c8
              refine ck_aload_n 0 dX12_deal_46 rfl rfl ?_
              refine ck_getI clX12 53 rfl rfl (by decide) fl_X12_438 dX12_deal_47 ?_
              exact ck_iret rfl rfl rfl rfl dX12_deal_50 ⟨_, rfl, rfl, hq⟩
          · have hq := hq.2 c6
            refine ck_iconst (v := -1) dX12_deal_34 (by decide) ?_
            exact ck_iret rfl rfl rfl rfl dX12_deal_35 ⟨_, rfl, rfl, hq⟩
def wp_X12_orders_69 (Q : ck_H → Prop) (O : Int32 → Int32 → ck_H → (ck_H → Prop) → Prop) (K94 : ck_H → Prop) : Nat → Int32 → ck_H → Prop
  | 0 => fun _ _ => False
  | n + 1 => fun x3 h => (((h.1 0 58) ≤ x3 → K94 h) ∧ (¬ (h.1 0 58) ≤ x3 → (vp_in x3 5 ∧ (wp_X12_tries (1 : Int32) (h.1 31 x3.toNatClampNeg) h (fun h5 => (∀ v6, v6 = x3 + 1 → (wp_X12_orders_69 Q O K94 n) v6 h5))))))
def wp_X12_orders_128 (Q : ck_H → Prop) (O : Int32 → Int32 → ck_H → (ck_H → Prop) → Prop) : Nat → Int32 → ck_H → Prop
  | 0 => fun _ _ => False
  | n + 1 => fun x4 h => (((h.1 0 58) ≤ x4 → Q h) ∧ (¬ (h.1 0 58) ≤ x4 → (vp_in x4 5 ∧ (vp_in x4 5 ∧ (∀ h19, h19 = ck_sI h 32 x4.toNatClampNeg (h.1 31 x4.toNatClampNeg) → (∀ v20, v20 = x4 + 1 → (wp_X12_orders_128 Q O n) v20 h19))))))
def wp_X12_orders_54 (Q : ck_H → Prop) (O : Int32 → Int32 → ck_H → (ck_H → Prop) → Prop) (Kc : Int32 → Int32 → Int32 → ck_H → Prop) (x1 : Int32) (x2 : Int32) (x3 : Int32) (h : ck_H) : Prop := (∀ v27, v27 = x3 + 1 → Kc x1 x2 v27 h)
def wp_X12_orders_10 (Q : ck_H → Prop) (O : Int32 → Int32 → ck_H → (ck_H → Prop) → Prop) : Nat → Int32 → Int32 → Int32 → ck_H → Prop
  | 0 => fun _ _ _ _ => False
  | n + 1 => fun x1 x2 x3 h => (((h.1 0 58) ≤ x3 → Q h) ∧ (¬ (h.1 0 58) ≤ x3 → ((¬ ((x2 >>> (x3 &&& 31)) &&& (1 : Int32)) = (1 : Int32) → (vp_in x3 5 ∧ (vp_in x1 5 ∧ (∀ h25, h25 = ck_sI h 31 x1.toNatClampNeg (h.1 30 x3.toNatClampNeg) → (O (x1 + (1 : Int32)) (x2 ||| ((1 : Int32) <<< (x3 &&& 31))) h25 (fun h26 => wp_X12_orders_54 Q O (wp_X12_orders_10 Q O n) x1 x2 x3 h26)))))) ∧ (((x2 >>> (x3 &&& 31)) &&& (1 : Int32)) = (1 : Int32) → wp_X12_orders_54 Q O (wp_X12_orders_10 Q O n) x1 x2 x3 h))))
def wp_X12_ordersB (O : Int32 → Int32 → ck_H → (ck_H → Prop) → Prop) (x1 : Int32) (x2 : Int32) (h : ck_H) (Q : ck_H → Prop) : Prop := (((h.1 0 58) ≤ x1 → (wp_X12_copies (1 : Int32) (0 : Int32) h (fun h2 => wp_X12_orders_69 Q O (fun h7 => (wp_X12_triesAll (1 : Int32) h7 (fun h8 => (wp_X12_gainAll (1 : Int32) h8 (fun r10 h9 => (wp_X12_gainAll (0 : Int32) h9 (fun r12 h11 => (∀ v13, v13 = (r10 - r12) → (((h11.1 0 59) < v13 → (∀ h15, h15 = ck_sI h11 0 59 v13 → wp_X12_orders_128 Q O lpN (0 : Int32) h15)) ∧ (¬ (h11.1 0 59) < v13 → Q h11)))))))))) lpN (0 : Int32) h2))) ∧ (¬ (h.1 0 58) ≤ x1 → wp_X12_orders_10 Q O lpN x1 x2 (0 : Int32) h))
def wp_X12_orders : Nat → Int32 → Int32 → ck_H → (ck_H → Prop) → Prop
  | 0 => fun _ _ _ _ => False
  | k + 1 => fun x1 x2 h Q => wp_X12_ordersB (wp_X12_orders k) x1 x2 h Q
set_option maxHeartbeats 4000000 in
set_option maxRecDepth 100000 in
theorem cp_X12_orders_69 {gr : Bool} {Q : ck_H → Prop} {K94 : ck_H → Prop} {O : Int32 → Int32 → ck_H → (ck_H → Prop) → Prop} {dO : Nat} (hdO : 9 ≤ dO) (hO : ∀ {gr : Bool} {x1 x2 : Int32} {h : ck_H} {Q : ck_H → Prop}, O x1 x2 h Q → ck_M yX12_orders cX12_orders 5 none dO 0 0 gr ck_shM h [.ref 0, .int x1, .int x2] (ck_Qv ck_shM Q)) (hK94 : ∀ (h : ck_H), K94 h → ck_W cX12_orders 5 RX12 none (dO + 1) 0 0 false gr (ck_Qv ck_shM Q) ck_shM h 0 0 94 [(0, .ref 0)] []) : ∀ (n : Nat) (x3 : Int32) (h : ck_H), wp_X12_orders_69 Q O K94 n x3 h → ck_W cX12_orders 5 RX12 none (dO + 1) 0 0 false gr (ck_Qv ck_shM Q) ck_shM h 0 0 69 [(0, .ref 0), (3, .int x3)] [] := by
  intro n
  induction n with
  | zero => intro x3 h hq; exact hq.elim
  | succ n hKc =>
    intro x3 h hq
    refine ck_iload_n 1 dX12_orders_69 rfl rfl ?_
    refine ck_aload_n 0 dX12_orders_70 rfl rfl ?_
    refine ck_getI clX12 58 rfl rfl (by decide) fl_X12_450 dX12_orders_71 ?_
    refine ck_icmp_ge (tgt := 94) dX12_orders_74 (by decide) (fun c3 => ?_) (fun c3 => ?_)
    · have hq := hq.1 c3
      refine ck_loc [0] rfl ?_
      exact hK94  _ hq
    · have hq := hq.2 c3
      refine ck_aload_n 0 dX12_orders_77 rfl rfl ?_
      refine ck_iconst (v := 1) dX12_orders_78 (by decide) ?_
      refine ck_aload_n 0 dX12_orders_79 rfl rfl ?_
      refine ck_getR clX12 56 rfl rfl (by decide) fl_X12_111 dX12_orders_80 ?_
      refine ck_iload_n 1 dX12_orders_83 rfl rfl ?_
      obtain ⟨b4, hq⟩ := hq
      refine ck_iald rfl rfl b4 dX12_orders_84 ?_
      refine ck_callV (c_X12_tries hq) rfl cal_X12_tries rfl ml_X12_386 vir_X12_tries rfl rfl (by omega) (by omega) (Nat.le_of_ble_eq_true rfl) (by decide) (by decide) dX12_orders_85 ?_
      rintro _ _ h5 ⟨rfl, rfl, hq⟩
      obtain ⟨v6, ev6⟩ : ∃ z : Int32, z = x3 + 1 := ⟨_, rfl⟩
      have hq := hq v6 ev6
      refine ck_iinc (v := v6) (lv' := [(3, .int v6), (0, .ref 0)]) 1 dX12_orders_88 rfl (by rw [ev6]; rfl) (by decide) rfl ?_
      refine ck_goto (tgt := 69) dX12_orders_91 (by decide) ?_
      refine ck_loc [1, 0] rfl ?_
      exact hKc _ _ hq
set_option maxHeartbeats 4000000 in
set_option maxRecDepth 100000 in
theorem cp_X12_orders_128 {gr : Bool} {Q : ck_H → Prop} {O : Int32 → Int32 → ck_H → (ck_H → Prop) → Prop} {dO : Nat} (hdO : 9 ≤ dO) (hO : ∀ {gr : Bool} {x1 x2 : Int32} {h : ck_H} {Q : ck_H → Prop}, O x1 x2 h Q → ck_M yX12_orders cX12_orders 5 none dO 0 0 gr ck_shM h [.ref 0, .int x1, .int x2] (ck_Qv ck_shM Q)) : ∀ (n : Nat) (x4 : Int32) (h : ck_H), wp_X12_orders_128 Q O n x4 h → ck_W cX12_orders 5 RX12 none (dO + 1) 0 0 false gr (ck_Qv ck_shM Q) ck_shM h 0 0 128 [(0, .ref 0), (4, .int x4)] [] := by
  intro n
  induction n with
  | zero => intro x4 h hq; exact hq.elim
  | succ n hKc =>
    intro x4 h hq
    refine ck_iload 1 dX12_orders_128 rfl ?_
    refine ck_aload_n 0 dX12_orders_130 rfl rfl ?_
    refine ck_getI clX12 58 rfl rfl (by decide) fl_X12_450 dX12_orders_131 ?_
    refine ck_icmp_ge (tgt := 157) dX12_orders_134 (by decide) (fun c16 => ?_) (fun c16 => ?_)
    · have hq := hq.1 c16
      exact ck_vret rfl rfl rfl dX12_orders_157 ⟨rfl, rfl, hq⟩
    · have hq := hq.2 c16
      refine ck_aload_n 0 dX12_orders_137 rfl rfl ?_
      refine ck_getR clX12 57 rfl rfl (by decide) fl_X12_114 dX12_orders_138 ?_
      refine ck_iload 1 dX12_orders_141 rfl ?_
      refine ck_aload_n 0 dX12_orders_143 rfl rfl ?_
      refine ck_getR clX12 56 rfl rfl (by decide) fl_X12_111 dX12_orders_144 ?_
      refine ck_iload 1 dX12_orders_147 rfl ?_
      obtain ⟨b17, hq⟩ := hq
      refine ck_iald rfl rfl b17 dX12_orders_149 ?_
      obtain ⟨b18, hq⟩ := hq
      refine ck_iast rfl rfl b18 dX12_orders_150 ?_
      refine ck_nmH (fun h19 eh19 => ?_)
      have hq := hq h19 eh19
      obtain ⟨v20, ev20⟩ : ∃ z : Int32, z = x4 + 1 := ⟨_, rfl⟩
      have hq := hq v20 ev20
      refine ck_iinc (v := v20) (lv' := [(4, .int v20), (0, .ref 0)]) 1 dX12_orders_151 rfl (by rw [ev20]; rfl) (by decide) rfl ?_
      refine ck_goto (tgt := 128) dX12_orders_154 (by decide) ?_
      refine ck_loc [1, 0] rfl ?_
      exact hKc _ _ hq
set_option maxHeartbeats 4000000 in
set_option maxRecDepth 100000 in
theorem cp_X12_orders_54 {gr : Bool} {Q : ck_H → Prop} {Kc : Int32 → Int32 → Int32 → ck_H → Prop} {O : Int32 → Int32 → ck_H → (ck_H → Prop) → Prop} {dO : Nat} (hdO : 9 ≤ dO) (hO : ∀ {gr : Bool} {x1 x2 : Int32} {h : ck_H} {Q : ck_H → Prop}, O x1 x2 h Q → ck_M yX12_orders cX12_orders 5 none dO 0 0 gr ck_shM h [.ref 0, .int x1, .int x2] (ck_Qv ck_shM Q)) (hKc : ∀ (x1 : Int32) (x2 : Int32) (x3 : Int32) (h : ck_H), Kc x1 x2 x3 h → ck_W cX12_orders 5 RX12 none (dO + 1) 0 0 false gr (ck_Qv ck_shM Q) ck_shM h 0 0 10 [(0, .ref 0), (1, .int x1), (2, .int x2), (3, .int x3)] []) : ∀ (x1 : Int32) (x2 : Int32) (x3 : Int32) (h : ck_H), wp_X12_orders_54 Q O Kc x1 x2 x3 h → ck_W cX12_orders 5 RX12 none (dO + 1) 0 0 false gr (ck_Qv ck_shM Q) ck_shM h 0 0 54 [(0, .ref 0), (1, .int x1), (2, .int x2), (3, .int x3)] [] := by
  intro x1 x2 x3 h hq
  obtain ⟨v27, ev27⟩ : ∃ z : Int32, z = x3 + 1 := ⟨_, rfl⟩
  have hq := hq v27 ev27
  refine ck_iinc (v := v27) (lv' := [(3, .int v27), (0, .ref 0), (1, .int x1), (2, .int x2)]) 3 dX12_orders_54 rfl (by rw [ev27]; rfl) (by decide) rfl ?_
  refine ck_goto (tgt := 10) dX12_orders_57 (by decide) ?_
  refine ck_loc [1, 2, 3, 0] rfl ?_
  exact hKc _ _ _ _ hq
set_option maxHeartbeats 4000000 in
set_option maxRecDepth 100000 in
theorem cp_X12_orders_10 {gr : Bool} {Q : ck_H → Prop} {O : Int32 → Int32 → ck_H → (ck_H → Prop) → Prop} {dO : Nat} (hdO : 9 ≤ dO) (hO : ∀ {gr : Bool} {x1 x2 : Int32} {h : ck_H} {Q : ck_H → Prop}, O x1 x2 h Q → ck_M yX12_orders cX12_orders 5 none dO 0 0 gr ck_shM h [.ref 0, .int x1, .int x2] (ck_Qv ck_shM Q)) : ∀ (n : Nat) (x1 : Int32) (x2 : Int32) (x3 : Int32) (h : ck_H), wp_X12_orders_10 Q O n x1 x2 x3 h → ck_W cX12_orders 5 RX12 none (dO + 1) 0 0 false gr (ck_Qv ck_shM Q) ck_shM h 0 0 10 [(0, .ref 0), (1, .int x1), (2, .int x2), (3, .int x3)] [] := by
  intro n
  induction n with
  | zero => intro x1 x2 x3 h hq; exact hq.elim
  | succ n hKc =>
    intro x1 x2 x3 h hq
    refine ck_iload_n 3 dX12_orders_10 rfl rfl ?_
    refine ck_aload_n 0 dX12_orders_11 rfl rfl ?_
    refine ck_getI clX12 58 rfl rfl (by decide) fl_X12_450 dX12_orders_12 ?_
    refine ck_icmp_ge (tgt := 60) dX12_orders_15 (by decide) (fun c21 => ?_) (fun c21 => ?_)
    · have hq := hq.1 c21
      exact ck_vret rfl rfl rfl dX12_orders_60 ⟨rfl, rfl, hq⟩
    · have hq := hq.2 c21
      refine ck_iload_n 2 dX12_orders_18 rfl rfl ?_
      refine ck_iload_n 3 dX12_orders_19 rfl rfl ?_
      refine ck_ishr dX12_orders_20 ?_
      refine ck_iconst (v := 1) dX12_orders_21 (by decide) ?_
      refine ck_iand dX12_orders_22 ?_
      refine ck_iconst (v := 1) dX12_orders_23 (by decide) ?_
      refine ck_icmp_ne (tgt := 30) dX12_orders_24 (by decide) (fun c22 => ?_) (fun c22 => ?_)
      · have hq := hq.1 c22
        refine ck_aload_n 0 dX12_orders_30 rfl rfl ?_
        refine ck_getR clX12 56 rfl rfl (by decide) fl_X12_111 dX12_orders_31 ?_
        refine ck_iload_n 1 dX12_orders_34 rfl rfl ?_
        refine ck_aload_n 0 dX12_orders_35 rfl rfl ?_
        refine ck_getR clX12 55 rfl rfl (by decide) fl_X12_108 dX12_orders_36 ?_
        refine ck_iload_n 3 dX12_orders_39 rfl rfl ?_
        obtain ⟨b23, hq⟩ := hq
        refine ck_iald rfl rfl b23 dX12_orders_40 ?_
        obtain ⟨b24, hq⟩ := hq
        refine ck_iast rfl rfl b24 dX12_orders_41 ?_
        refine ck_nmH (fun h25 eh25 => ?_)
        have hq := hq h25 eh25
        refine ck_aload_n 0 dX12_orders_42 rfl rfl ?_
        refine ck_iload_n 1 dX12_orders_43 rfl rfl ?_
        refine ck_iconst (v := 1) dX12_orders_44 (by decide) ?_
        refine ck_iadd dX12_orders_45 ?_
        refine ck_iload_n 2 dX12_orders_46 rfl rfl ?_
        refine ck_iconst (v := 1) dX12_orders_47 (by decide) ?_
        refine ck_iload_n 3 dX12_orders_48 rfl rfl ?_
        refine ck_ishl dX12_orders_49 ?_
        refine ck_ior dX12_orders_50 ?_
        refine ck_callV (hO hq) rfl cal_X12_orders rfl ml_X12_453 vir_X12_orders rfl rfl (by omega) (by omega) (Nat.le_of_ble_eq_true rfl) (by decide) (by decide) dX12_orders_51 ?_
        rintro _ _ h26 ⟨rfl, rfl, hq⟩
        exact cp_X12_orders_54 hdO hO hKc _ _ _ _ hq
      · have hq := hq.2 c22
        refine ck_goto (tgt := 54) dX12_orders_27 (by decide) ?_
        exact cp_X12_orders_54 hdO hO hKc _ _ _ _ hq
set_option maxHeartbeats 4000000 in
set_option maxRecDepth 100000 in
theorem c_X12_ordersB {gr : Bool} {x1 : Int32} {x2 : Int32} {h : ck_H} {Q : ck_H → Prop} {O : Int32 → Int32 → ck_H → (ck_H → Prop) → Prop} {dO : Nat} (hdO : 9 ≤ dO) (hO : ∀ {gr : Bool} {x1 x2 : Int32} {h : ck_H} {Q : ck_H → Prop}, O x1 x2 h Q → ck_M yX12_orders cX12_orders 5 none dO 0 0 gr ck_shM h [.ref 0, .int x1, .int x2] (ck_Qv ck_shM Q)) (hq : wp_X12_ordersB O x1 x2 h Q) : ck_M yX12_orders cX12_orders 5 none (dO + 1) 0 0 gr ck_shM h [.ref 0, .int x1, .int x2] (ck_Qv ck_shM Q) := by
  refine ck_entry (lv := [(0, .ref 0), (1, .int x1), (2, .int x2)]) false (own := RX12) rfl (fun q => by cases q) (by decide) (Nat.le_of_ble_eq_true rfl) rfl ?_
  refine ck_iload_n 1 dX12_orders_0 rfl rfl ?_
  refine ck_aload_n 0 dX12_orders_1 rfl rfl ?_
  refine ck_getI clX12 58 rfl rfl (by decide) fl_X12_450 dX12_orders_2 ?_
  refine ck_icmp_ge (tgt := 61) dX12_orders_5 (by decide) (fun c1 => ?_) (fun c1 => ?_)
  · have hq := hq.1 c1
    refine ck_aload_n 0 dX12_orders_61 rfl rfl ?_
    refine ck_iconst (v := 1) dX12_orders_62 (by decide) ?_
    refine ck_iconst (v := 0) dX12_orders_63 (by decide) ?_
    refine ck_callV (c_X12_copies hq) rfl cal_X12_copies rfl ml_X12_417 vir_X12_copies rfl rfl (by omega) (by omega) (Nat.le_of_ble_eq_true rfl) (by decide) (by decide) dX12_orders_64 ?_
    rintro _ _ h2 ⟨rfl, rfl, hq⟩
    refine ck_iconst (v := 0) dX12_orders_67 (by decide) ?_
    refine ck_istore_n (lv' := [(3, .int (0 : Int32)), (0, .ref 0), (1, .int x1), (2, .int x2)]) dX12_orders_68 rfl (by decide) rfl ?_
    refine ck_loc [1, 0] rfl ?_
    refine cp_X12_orders_69 hdO hO (fun h7 hq => ?_) lpN _ _ hq
    · refine ck_aload_n 0 dX12_orders_94 rfl rfl ?_
      refine ck_iconst (v := 1) dX12_orders_95 (by decide) ?_
      refine ck_callV (c_X12_triesAll hq) rfl cal_X12_triesAll rfl ml_X12_389 vir_X12_triesAll rfl rfl (by omega) (by omega) (Nat.le_of_ble_eq_true rfl) (by decide) (by decide) dX12_orders_96 ?_
      rintro _ _ h8 ⟨rfl, rfl, hq⟩
      refine ck_aload_n 0 dX12_orders_99 rfl rfl ?_
      refine ck_iconst (v := 1) dX12_orders_100 (by decide) ?_
      refine ck_callV (c_X12_gainAll hq) rfl cal_X12_gainAll rfl ml_X12_429 vir_X12_gainAll rfl rfl (by omega) (by omega) (Nat.le_of_ble_eq_true rfl) (by decide) (by decide) dX12_orders_101 ?_
      rintro _ _ h9 ⟨r10, rfl, rfl, hq⟩
      refine ck_aload_n 0 dX12_orders_104 rfl rfl ?_
      refine ck_iconst (v := 0) dX12_orders_105 (by decide) ?_
      refine ck_callV (c_X12_gainAll hq) rfl cal_X12_gainAll rfl ml_X12_429 vir_X12_gainAll rfl rfl (by omega) (by omega) (Nat.le_of_ble_eq_true rfl) (by decide) (by decide) dX12_orders_106 ?_
      rintro _ _ h11 ⟨r12, rfl, rfl, hq⟩
      refine ck_isub dX12_orders_109 ?_
      refine ck_nmI (fun v13 ev13 => ?_)
      have hq := hq v13 ev13
      refine ck_istore_n (lv' := [(3, .int v13), (0, .ref 0)]) dX12_orders_110 rfl (by decide) rfl ?_
      refine ck_iload_n 0 dX12_orders_111 rfl rfl ?_
      refine ck_aload_n 1 dX12_orders_112 rfl rfl ?_
      refine ck_getI clX12 59 rfl rfl (by decide) fl_X12_456 dX12_orders_113 ?_
      refine ck_icmp_gt (tgt := 120) dX12_orders_116 (by decide) (fun c14 => ?_) (fun c14 => ?_)
      · have hq := hq.1 c14
        refine ck_aload_n 1 dX12_orders_120 rfl rfl ?_
        refine ck_iload_n 0 dX12_orders_121 rfl rfl ?_
        refine ck_putI clX12 59 rfl rfl (by decide) fl_X12_456 rfl rfl rfl dX12_orders_122 ?_
        refine ck_nmH (fun h15 eh15 => ?_)
        have hq := hq h15 eh15
        refine ck_iconst (v := 0) dX12_orders_125 (by decide) ?_
        refine ck_istore (lv' := [(4, .int (0 : Int32)), (3, .int v13), (0, .ref 0)]) dX12_orders_126 (by decide) rfl ?_
        refine ck_loc [2, 0] rfl ?_
        refine cp_X12_orders_128 hdO hO lpN _ _ hq
      · have hq := hq.2 c14
        exact ck_vret rfl rfl rfl dX12_orders_119 ⟨rfl, rfl, hq⟩
  · have hq := hq.2 c1
    refine ck_iconst (v := 0) dX12_orders_8 (by decide) ?_
    refine ck_istore_n (lv' := [(3, .int (0 : Int32)), (0, .ref 0), (1, .int x1), (2, .int x2)]) dX12_orders_9 rfl (by decide) rfl ?_
    refine ck_loc [1, 2, 3, 0] rfl ?_
    refine cp_X12_orders_10 hdO hO lpN _ _ _ _ hq
set_option maxHeartbeats 4000000 in
set_option maxRecDepth 100000 in
theorem c_X12_orders : ∀ (k : Nat) {gr : Bool} {x1 x2 : Int32} {h : ck_H} {Q : ck_H → Prop}, wp_X12_orders k x1 x2 h Q → ck_M yX12_orders cX12_orders 5 none (9 + k) 0 0 gr ck_shM h [.ref 0, .int x1, .int x2] (ck_Qv ck_shM Q) := by
  intro k
  induction k with
  | zero => intro gr x1 x2 h Q hq; exact hq.elim
  | succ k ih => intro gr x1 x2 h Q hq; exact c_X12_ordersB (dO := 9 + k) (by omega) (fun q => ih q) hq
def wp_X12_order_73 (Q : Int32 → ck_H → Prop) (K79 : Int32 → ck_H → Prop) (Kc : Int32 → Int32 → ck_H → Prop) (x1 : Int32) (x2 : Int32) (h : ck_H) : Prop := (∀ v13, v13 = x2 + 1 → Kc x1 v13 h)
def wp_X12_order_23 (Q : Int32 → ck_H → Prop) (K79 : Int32 → ck_H → Prop) : Nat → Int32 → Int32 → ck_H → Prop
  | 0 => fun _ _ _ => False
  | n + 1 => fun x1 x2 h => (((h.1 2 2) ≤ x2 → K79 x1 h) ∧ (¬ (h.1 2 2) ≤ x2 → (((5 : Int32) ≤ (h.1 0 58) → K79 x1 h) ∧ (¬ (5 : Int32) ≤ (h.1 0 58) → (wp_X12_isDue (0 : Int32) x2 h (fun r8 h7 => ((¬ r8 = 0 → (vp_in (h7.1 0 58) 5 ∧ (∀ h11, h11 = ck_sI h7 30 (h7.1 0 58).toNatClampNeg x2 → (∀ h12, h12 = ck_sI h11 0 58 ((h11.1 0 58) + (1 : Int32)) → wp_X12_order_73 Q K79 (wp_X12_order_23 Q K79 n) x1 x2 h12)))) ∧ (r8 = 0 → wp_X12_order_73 Q K79 (wp_X12_order_23 Q K79 n) x1 x2 h7))))))))
def wp_X12_order_79 (Q : Int32 → ck_H → Prop) (x1 : Int32) (h : ck_H) : Prop := (∀ h16, h16 = ck_sI h 0 59 (-1 : Int32) → (wp_X12_orders 7 (0 : Int32) (0 : Int32) h16 (fun h17 => ((¬ x1 = (5 : Int32) → (((h17.1 0 58) ≤ x1 → Q (-2 : Int32) h17) ∧ (¬ (h17.1 0 58) ≤ x1 → (vp_in x1 5 ∧ Q (h17.1 32 x1.toNatClampNeg) h17)))) ∧ (x1 = (5 : Int32) → Q (h17.1 0 59) h17)))))
def wp_X12_order (x1 : Int32) (h : ck_H) (Q : Int32 → ck_H → Prop) : Prop := (∀ h1, h1 = ck_sI h 0 0 (0 : Int32) → ((x1 < 0 → Q (-1 : Int32) h1) ∧ (¬ x1 < 0 → ((x1 ≤ (5 : Int32) → (∀ h4, h4 = ck_sI h1 0 58 (0 : Int32) → wp_X12_order_23 Q (fun x15 h14 => wp_X12_order_79 Q x15 h14) lpN x1 (0 : Int32) h4)) ∧ (¬ x1 ≤ (5 : Int32) → Q (-1 : Int32) h1)))))
set_option maxHeartbeats 4000000 in
set_option maxRecDepth 100000 in
theorem cp_X12_order_73 {gr : Bool} {Q : Int32 → ck_H → Prop} {K79 : Int32 → ck_H → Prop} {Kc : Int32 → Int32 → ck_H → Prop} (hK79 : ∀ (x1 : Int32) (h : ck_H), K79 x1 h → ck_W cX12_order 3 RX12 (some .int) 17 0 0 false gr (ck_Qi ck_shM Q) ck_shM h 0 0 79 [(0, .ref 0), (1, .int x1)] []) (hKc : ∀ (x1 : Int32) (x2 : Int32) (h : ck_H), Kc x1 x2 h → ck_W cX12_order 3 RX12 (some .int) 17 0 0 false gr (ck_Qi ck_shM Q) ck_shM h 0 0 23 [(0, .ref 0), (1, .int x1), (2, .int x2)] []) : ∀ (x1 : Int32) (x2 : Int32) (h : ck_H), wp_X12_order_73 Q K79 Kc x1 x2 h → ck_W cX12_order 3 RX12 (some .int) 17 0 0 false gr (ck_Qi ck_shM Q) ck_shM h 0 0 73 [(0, .ref 0), (1, .int x1), (2, .int x2)] [] := by
  intro x1 x2 h hq
  obtain ⟨v13, ev13⟩ : ∃ z : Int32, z = x2 + 1 := ⟨_, rfl⟩
  have hq := hq v13 ev13
  refine ck_iinc (v := v13) (lv' := [(2, .int v13), (0, .ref 0), (1, .int x1)]) 2 dX12_order_73 rfl (by rw [ev13]; rfl) (by decide) rfl ?_
  refine ck_goto (tgt := 23) dX12_order_76 (by decide) ?_
  refine ck_loc [1, 2, 0] rfl ?_
  exact hKc _ _ _ hq
set_option maxHeartbeats 4000000 in
set_option maxRecDepth 100000 in
theorem cp_X12_order_23 {gr : Bool} {Q : Int32 → ck_H → Prop} {K79 : Int32 → ck_H → Prop} (hK79 : ∀ (x1 : Int32) (h : ck_H), K79 x1 h → ck_W cX12_order 3 RX12 (some .int) 17 0 0 false gr (ck_Qi ck_shM Q) ck_shM h 0 0 79 [(0, .ref 0), (1, .int x1)] []) : ∀ (n : Nat) (x1 : Int32) (x2 : Int32) (h : ck_H), wp_X12_order_23 Q K79 n x1 x2 h → ck_W cX12_order 3 RX12 (some .int) 17 0 0 false gr (ck_Qi ck_shM Q) ck_shM h 0 0 23 [(0, .ref 0), (1, .int x1), (2, .int x2)] [] := by
  intro n
  induction n with
  | zero => intro x1 x2 h hq; exact hq.elim
  | succ n hKc =>
    intro x1 x2 h hq
    refine ck_iload_n 2 dX12_order_23 rfl rfl ?_
    refine ck_aload_n 0 dX12_order_24 rfl rfl ?_
    refine ck_getR clX12 3 rfl rfl (by decide) fl_X12_13 dX12_order_25 ?_
    refine ck_iconst (v := 2) dX12_order_28 (by decide) ?_
    refine ck_iald (j := 2) (by decide) rfl (ck_inL (by decide)) dX12_order_29 ?_
    refine ck_icmp_ge (tgt := 79) dX12_order_30 (by decide) (fun c5 => ?_) (fun c5 => ?_)
    · have hq := hq.1 c5
      refine ck_loc [0, 1] rfl ?_
      exact hK79 _ _ hq
    · have hq := hq.2 c5
      refine ck_aload_n 0 dX12_order_33 rfl rfl ?_
      refine ck_getI clX12 58 rfl rfl (by decide) fl_X12_450 dX12_order_34 ?_
      refine ck_iconst (v := 5) dX12_order_37 (by decide) ?_
      refine ck_icmp_ge (tgt := 79) dX12_order_38 (by decide) (fun c6 => ?_) (fun c6 => ?_)
      · have hq := hq.1 c6
        refine ck_loc [0, 1] rfl ?_
        exact hK79 _ _ hq
      · have hq := hq.2 c6
        refine ck_aload_n 0 dX12_order_41 rfl rfl ?_
        refine ck_iconst (v := 0) dX12_order_42 (by decide) ?_
        refine ck_iload_n 2 dX12_order_43 rfl rfl ?_
        refine ck_callV (c_X12_isDue hq) rfl cal_X12_isDue rfl ml_X12_383 vir_X12_isDue rfl rfl (by decide) (Nat.le_of_ble_eq_true rfl) (Nat.le_of_ble_eq_true rfl) (by decide) (by decide) dX12_order_44 ?_
        rintro _ _ h7 ⟨r8, rfl, rfl, hq⟩
        refine ck_if_ne (tgt := 53) dX12_order_47 (by decide) (fun c9 => ?_) (fun c9 => ?_)
        · have hq := hq.1 c9
          refine ck_aload_n 0 dX12_order_53 rfl rfl ?_
          refine ck_getR clX12 55 rfl rfl (by decide) fl_X12_108 dX12_order_54 ?_
          refine ck_aload_n 0 dX12_order_57 rfl rfl ?_
          refine ck_getI clX12 58 rfl rfl (by decide) fl_X12_450 dX12_order_58 ?_
          refine ck_iload_n 2 dX12_order_61 rfl rfl ?_
          obtain ⟨b10, hq⟩ := hq
          refine ck_iast rfl rfl b10 dX12_order_62 ?_
          refine ck_nmH (fun h11 eh11 => ?_)
          have hq := hq h11 eh11
          refine ck_aload_n 0 dX12_order_63 rfl rfl ?_
          refine ck_dup dX12_order_64 rfl ?_
          refine ck_getI clX12 58 rfl rfl (by decide) fl_X12_450 dX12_order_65 ?_
          refine ck_iconst (v := 1) dX12_order_68 (by decide) ?_
          refine ck_iadd dX12_order_69 ?_
          refine ck_putI clX12 58 rfl rfl (by decide) fl_X12_450 rfl rfl rfl dX12_order_70 ?_
          refine ck_nmH (fun h12 eh12 => ?_)
          have hq := hq h12 eh12
          exact cp_X12_order_73 hK79 hKc _ _ _ hq
        · have hq := hq.2 c9
          refine ck_goto (tgt := 73) dX12_order_50 (by decide) ?_
          exact cp_X12_order_73 hK79 hKc _ _ _ hq
set_option maxHeartbeats 4000000 in
set_option maxRecDepth 100000 in
theorem cp_X12_order_79 {gr : Bool} {Q : Int32 → ck_H → Prop} : ∀ (x1 : Int32) (h : ck_H), wp_X12_order_79 Q x1 h → ck_W cX12_order 3 RX12 (some .int) 17 0 0 false gr (ck_Qi ck_shM Q) ck_shM h 0 0 79 [(0, .ref 0), (1, .int x1)] [] := by
  intro x1 h hq
  refine ck_aload_n 0 dX12_order_79 rfl rfl ?_
  refine ck_iconst (v := -1) dX12_order_80 (by decide) ?_
  refine ck_putI clX12 59 rfl rfl (by decide) fl_X12_456 rfl rfl rfl dX12_order_81 ?_
  refine ck_nmH (fun h16 eh16 => ?_)
  have hq := hq h16 eh16
  refine ck_aload_n 0 dX12_order_84 rfl rfl ?_
  refine ck_iconst (v := 0) dX12_order_85 (by decide) ?_
  refine ck_iconst (v := 0) dX12_order_86 (by decide) ?_
  refine ck_callV (c_X12_orders 7 hq) rfl cal_X12_orders rfl ml_X12_453 vir_X12_orders rfl rfl (by decide) (Nat.le_of_ble_eq_true rfl) (Nat.le_of_ble_eq_true rfl) (by decide) (by decide) dX12_order_87 ?_
  rintro _ _ h17 ⟨rfl, rfl, hq⟩
  refine ck_iload_n 1 dX12_order_90 rfl rfl ?_
  refine ck_iconst (v := 5) dX12_order_91 (by decide) ?_
  refine ck_icmp_ne (tgt := 102) dX12_order_92 (by decide) (fun c18 => ?_) (fun c18 => ?_)
  · have hq := hq.1 c18
    refine ck_iload_n 1 dX12_order_102 rfl rfl ?_
    refine ck_aload_n 0 dX12_order_103 rfl rfl ?_
    refine ck_getI clX12 58 rfl rfl (by decide) fl_X12_450 dX12_order_104 ?_
    refine ck_icmp_ge (tgt := 119) dX12_order_107 (by decide) (fun c19 => ?_) (fun c19 => ?_)
    · have hq := hq.1 c19
      refine ck_bipush (v := -2) dX12_order_119 (by decide) ?_
      exact ck_iret rfl rfl rfl rfl dX12_order_121 ⟨_, rfl, rfl, hq⟩
    · have hq := hq.2 c19
      refine ck_aload_n 0 dX12_order_110 rfl rfl ?_
      refine ck_getR clX12 57 rfl rfl (by decide) fl_X12_114 dX12_order_111 ?_
      refine ck_iload_n 1 dX12_order_114 rfl rfl ?_
      obtain ⟨b20, hq⟩ := hq
      refine ck_iald rfl rfl b20 dX12_order_115 ?_
      refine ck_goto (tgt := 121) dX12_order_116 (by decide) ?_
      exact ck_iret rfl rfl rfl rfl dX12_order_121 ⟨_, rfl, rfl, hq⟩
  · have hq := hq.2 c18
    refine ck_aload_n 0 dX12_order_95 rfl rfl ?_
    refine ck_getI clX12 59 rfl rfl (by decide) fl_X12_456 dX12_order_96 ?_
    refine ck_goto (tgt := 121) dX12_order_99 (by decide) ?_
    exact ck_iret rfl rfl rfl rfl dX12_order_121 ⟨_, rfl, rfl, hq⟩
set_option maxHeartbeats 4000000 in
set_option maxRecDepth 100000 in
theorem c_X12_order {gr : Bool} {x1 : Int32} {h : ck_H} {Q : Int32 → ck_H → Prop} (hq : wp_X12_order x1 h Q) : ck_M yX12_order cX12_order 3 (some .int) 17 0 0 gr ck_shM h [.ref 0, .int x1] (ck_Qi ck_shM Q) := by
  refine ck_entry (lv := [(0, .ref 0), (1, .int x1)]) false (own := RX12) rfl (fun q => by cases q) (by decide) (Nat.le_of_ble_eq_true rfl) rfl ?_
  refine ck_aload_n 0 dX12_order_0 rfl rfl ?_
  refine ck_iconst (v := 0) dX12_order_1 (by decide) ?_
  refine ck_putI clX12 0 rfl rfl (by decide) fl_X12_145 rfl rfl rfl dX12_order_2 ?_
  refine ck_nmH (fun h1 eh1 => ?_)
  have hq := hq h1 eh1
  refine ck_iload_n 1 dX12_order_5 rfl rfl ?_
  refine ck_if_lt (tgt := 14) dX12_order_6 (by decide) (fun c2 => ?_) (fun c2 => ?_)
  · have hq := hq.1 c2
    refine ck_iconst (v := -1) dX12_order_14 (by decide) ?_
    exact ck_iret rfl rfl rfl rfl dX12_order_15 ⟨_, rfl, rfl, hq⟩
  · have hq := hq.2 c2
    refine ck_iload_n 1 dX12_order_9 rfl rfl ?_
    refine ck_iconst (v := 5) dX12_order_10 (by decide) ?_
    refine ck_icmp_le (tgt := 16) dX12_order_11 (by decide) (fun c3 => ?_) (fun c3 => ?_)
    · have hq := hq.1 c3
      refine ck_aload_n 0 dX12_order_16 rfl rfl ?_
      refine ck_iconst (v := 0) dX12_order_17 (by decide) ?_
      refine ck_putI clX12 58 rfl rfl (by decide) fl_X12_450 rfl rfl rfl dX12_order_18 ?_
      refine ck_nmH (fun h4 eh4 => ?_)
      have hq := hq h4 eh4
      refine ck_iconst (v := 0) dX12_order_21 (by decide) ?_
      refine ck_istore_n (lv' := [(2, .int (0 : Int32)), (0, .ref 0), (1, .int x1)]) dX12_order_22 rfl (by decide) rfl ?_
      refine ck_loc [1, 2, 0] rfl ?_
      refine cp_X12_order_23 (fun x15 h14 hq => ?_) lpN _ _ _ hq
      · exact cp_X12_order_79 _ _ hq
    · have hq := hq.2 c3
      refine ck_iconst (v := -1) dX12_order_14 (by decide) ?_
      exact ck_iret rfl rfl rfl rfl dX12_order_15 ⟨_, rfl, rfl, hq⟩
def wp_X12_enough_31 (Q : Int32 → ck_H → Prop) : Nat → Int32 → Int32 → Int32 → ck_H → Prop
  | 0 => fun _ _ _ _ => False
  | n + 1 => fun x1 x2 x3 h => (((99 : Int32) < x3 → Q (-2 : Int32) h) ∧ (¬ (99 : Int32) < x3 → (∀ h10, h10 = ck_sI h 21 1 x3 → (vp_in x2 12 ∧ (wp_X12_verdictAt (1 : Int32) x1 x2 (h10.1 7 x2.toNatClampNeg) h10 (fun r13 h12 => ((¬ r13 = (1 : Int32) → (∀ v15, v15 = x3 + 1 → (wp_X12_enough_31 Q n) x1 x2 v15 h12)) ∧ (r13 = (1 : Int32) → Q x3 h12))))))))
def wp_X12_enough (x1 : Int32) (x2 : Int32) (h : ck_H) (Q : Int32 → ck_H → Prop) : Prop := (∀ h1, h1 = ck_sI h 0 0 (0 : Int32) → (wp_X12_isJudge x1 h1 (fun r3 h2 => ((r3 = 0 → Q (-1 : Int32) h2) ∧ (¬ r3 = 0 → (wp_X12_isNut x2 h2 (fun r6 h5 => ((¬ r6 = 0 → (wp_X12_copies (1 : Int32) (0 : Int32) h5 (fun h8 => wp_X12_enough_31 Q lpN x1 x2 (1 : Int32) h8))) ∧ (r6 = 0 → Q (-1 : Int32) h5)))))))))
set_option maxHeartbeats 4000000 in
set_option maxRecDepth 100000 in
theorem cp_X12_enough_31 {gr : Bool} {Q : Int32 → ck_H → Prop} : ∀ (n : Nat) (x1 : Int32) (x2 : Int32) (x3 : Int32) (h : ck_H), wp_X12_enough_31 Q n x1 x2 x3 h → ck_W cX12_enough 4 RX12 (some .int) 8 0 0 false gr (ck_Qi ck_shM Q) ck_shM h 0 0 31 [(0, .ref 0), (1, .int x1), (2, .int x2), (3, .int x3)] [] := by
  intro n
  induction n with
  | zero => intro x1 x2 x3 h hq; exact hq.elim
  | succ n hKc =>
    intro x1 x2 x3 h hq
    refine ck_iload_n 3 dX12_enough_31 rfl rfl ?_
    refine ck_bipush (v := 99) dX12_enough_32 (by decide) ?_
    refine ck_icmp_gt (tgt := 69) dX12_enough_34 (by decide) (fun c9 => ?_) (fun c9 => ?_)
    · have hq := hq.1 c9
      refine ck_bipush (v := -2) dX12_enough_69 (by decide) ?_
      exact ck_iret rfl rfl rfl rfl dX12_enough_71 ⟨_, rfl, rfl, hq⟩
    · have hq := hq.2 c9
      refine ck_aload_n 0 dX12_enough_37 rfl rfl ?_
      refine ck_getR clX12 36 rfl rfl (by decide) fl_X12_75 dX12_enough_38 ?_
      refine ck_iconst (v := 1) dX12_enough_41 (by decide) ?_
      refine ck_iload_n 3 dX12_enough_42 rfl rfl ?_
      refine ck_iast (j := 1) (by decide) rfl (ck_inL (by decide)) dX12_enough_43 ?_
      refine ck_nmH (fun h10 eh10 => ?_)
      have hq := hq h10 eh10
      refine ck_aload_n 0 dX12_enough_44 rfl rfl ?_
      refine ck_iconst (v := 1) dX12_enough_45 (by decide) ?_
      refine ck_iload_n 1 dX12_enough_46 rfl rfl ?_
      refine ck_iload_n 2 dX12_enough_47 rfl rfl ?_
      refine ck_aload_n 0 dX12_enough_48 rfl rfl ?_
      refine ck_getR clX12 8 rfl rfl (by decide) fl_X12_28 dX12_enough_49 ?_
      refine ck_iload_n 2 dX12_enough_52 rfl rfl ?_
      obtain ⟨b11, hq⟩ := hq
      refine ck_iald rfl rfl b11 dX12_enough_53 ?_
      refine ck_callV (c_X12_verdictAt hq) rfl cal_X12_verdictAt rfl ml_X12_374 vir_X12_verdictAt rfl rfl (by decide) (Nat.le_of_ble_eq_true rfl) (Nat.le_of_ble_eq_true rfl) (by decide) (by decide) dX12_enough_54 ?_
      rintro _ _ h12 ⟨r13, rfl, rfl, hq⟩
      refine ck_iconst (v := 1) dX12_enough_57 (by decide) ?_
      refine ck_icmp_ne (tgt := 63) dX12_enough_58 (by decide) (fun c14 => ?_) (fun c14 => ?_)
      · have hq := hq.1 c14
        obtain ⟨v15, ev15⟩ : ∃ z : Int32, z = x3 + 1 := ⟨_, rfl⟩
        have hq := hq v15 ev15
        refine ck_iinc (v := v15) (lv' := [(3, .int v15), (0, .ref 0), (1, .int x1), (2, .int x2)]) 3 dX12_enough_63 rfl (by rw [ev15]; rfl) (by decide) rfl ?_
        refine ck_goto (tgt := 31) dX12_enough_66 (by decide) ?_
        refine ck_loc [1, 2, 3, 0] rfl ?_
        exact hKc _ _ _ _ hq
      · have hq := hq.2 c14
        refine ck_iload_n 3 dX12_enough_61 rfl rfl ?_
        exact ck_iret rfl rfl rfl rfl dX12_enough_62 ⟨_, rfl, rfl, hq⟩
set_option maxHeartbeats 4000000 in
set_option maxRecDepth 100000 in
theorem c_X12_enough {gr : Bool} {x1 : Int32} {x2 : Int32} {h : ck_H} {Q : Int32 → ck_H → Prop} (hq : wp_X12_enough x1 x2 h Q) : ck_M yX12_enough cX12_enough 4 (some .int) 8 0 0 gr ck_shM h [.ref 0, .int x1, .int x2] (ck_Qi ck_shM Q) := by
  refine ck_entry (lv := [(0, .ref 0), (1, .int x1), (2, .int x2)]) false (own := RX12) rfl (fun q => by cases q) (by decide) (Nat.le_of_ble_eq_true rfl) rfl ?_
  refine ck_aload_n 0 dX12_enough_0 rfl rfl ?_
  refine ck_iconst (v := 0) dX12_enough_1 (by decide) ?_
  refine ck_putI clX12 0 rfl rfl (by decide) fl_X12_145 rfl rfl rfl dX12_enough_2 ?_
  refine ck_nmH (fun h1 eh1 => ?_)
  have hq := hq h1 eh1
  refine ck_aload_n 0 dX12_enough_5 rfl rfl ?_
  refine ck_iload_n 1 dX12_enough_6 rfl rfl ?_
  refine ck_callV (c_X12_isJudge hq) rfl cal_X12_isJudge rfl ml_X12_404 vir_X12_isJudge rfl rfl (by decide) (Nat.le_of_ble_eq_true rfl) (Nat.le_of_ble_eq_true rfl) (by decide) (by decide) dX12_enough_7 ?_
  rintro _ _ h2 ⟨r3, rfl, rfl, hq⟩
  refine ck_if_eq (tgt := 21) dX12_enough_10 (by decide) (fun c4 => ?_) (fun c4 => ?_)
  · have hq := hq.1 c4
    refine ck_iconst (v := -1) dX12_enough_21 (by decide) ?_
    exact ck_iret rfl rfl rfl rfl dX12_enough_22 ⟨_, rfl, rfl, hq⟩
  · have hq := hq.2 c4
    refine ck_aload_n 0 dX12_enough_13 rfl rfl ?_
    refine ck_iload_n 2 dX12_enough_14 rfl rfl ?_
    refine ck_callV (c_X12_isNut hq) rfl cal_X12_isNut rfl ml_X12_410 vir_X12_isNut rfl rfl (by decide) (Nat.le_of_ble_eq_true rfl) (Nat.le_of_ble_eq_true rfl) (by decide) (by decide) dX12_enough_15 ?_
    rintro _ _ h5 ⟨r6, rfl, rfl, hq⟩
    refine ck_if_ne (tgt := 23) dX12_enough_18 (by decide) (fun c7 => ?_) (fun c7 => ?_)
    · have hq := hq.1 c7
      refine ck_aload_n 0 dX12_enough_23 rfl rfl ?_
      refine ck_iconst (v := 1) dX12_enough_24 (by decide) ?_
      refine ck_iconst (v := 0) dX12_enough_25 (by decide) ?_
      refine ck_callV (c_X12_copies hq) rfl cal_X12_copies rfl ml_X12_417 vir_X12_copies rfl rfl (by decide) (Nat.le_of_ble_eq_true rfl) (Nat.le_of_ble_eq_true rfl) (by decide) (by decide) dX12_enough_26 ?_
      rintro _ _ h8 ⟨rfl, rfl, hq⟩
      refine ck_iconst (v := 1) dX12_enough_29 (by decide) ?_
      refine ck_istore_n (lv' := [(3, .int (1 : Int32)), (0, .ref 0), (1, .int x1), (2, .int x2)]) dX12_enough_30 rfl (by decide) rfl ?_
      refine ck_loc [1, 2, 3, 0] rfl ?_
      refine cp_X12_enough_31 lpN _ _ _ _ hq
    · have hq := hq.2 c7
      refine ck_iconst (v := -1) dX12_enough_21 (by decide) ?_
      exact ck_iret rfl rfl rfl rfl dX12_enough_22 ⟨_, rfl, rfl, hq⟩
def wp_X12_bitsOf_4 (Q : Int32 → ck_H → Prop) : Nat → Int32 → Int32 → Int32 → ck_H → Prop
  | 0 => fun _ _ _ _ => False
  | n + 1 => fun x0 x1 x2 h => (((10 : Int32) ≤ x2 → Q x1 h) ∧ (¬ (10 : Int32) ≤ x2 → (∀ v2, v2 = (x1 + ((x0 >>> (x2 &&& 31)) &&& (1 : Int32))) → (∀ v3, v3 = x2 + 1 → (wp_X12_bitsOf_4 Q n) x0 v2 v3 h))))
def wp_X12_bitsOf (x0 : Int32) (h : ck_H) (Q : Int32 → ck_H → Prop) : Prop := wp_X12_bitsOf_4 Q lpN x0 (0 : Int32) (0 : Int32) h
set_option maxHeartbeats 4000000 in
set_option maxRecDepth 100000 in
theorem cp_X12_bitsOf_4 {gr : Bool} {Q : Int32 → ck_H → Prop} : ∀ (n : Nat) (x0 : Int32) (x1 : Int32) (x2 : Int32) (h : ck_H), wp_X12_bitsOf_4 Q n x0 x1 x2 h → ck_W cX12_bitsOf 3 RX12 (some .int) 2 0 0 false gr (ck_Qi ck_shM Q) ck_shM h 0 0 4 [(0, .int x0), (1, .int x1), (2, .int x2)] [] := by
  intro n
  induction n with
  | zero => intro x0 x1 x2 h hq; exact hq.elim
  | succ n hKc =>
    intro x0 x1 x2 h hq
    refine ck_iload_n 2 dX12_bitsOf_4 rfl rfl ?_
    refine ck_bipush (v := 10) dX12_bitsOf_5 (by decide) ?_
    refine ck_icmp_ge (tgt := 24) dX12_bitsOf_7 (by decide) (fun c1 => ?_) (fun c1 => ?_)
    · have hq := hq.1 c1
      refine ck_iload_n 1 dX12_bitsOf_24 rfl rfl ?_
      exact ck_iret rfl rfl rfl rfl dX12_bitsOf_25 ⟨_, rfl, rfl, hq⟩
    · have hq := hq.2 c1
      refine ck_iload_n 1 dX12_bitsOf_10 rfl rfl ?_
      refine ck_iload_n 0 dX12_bitsOf_11 rfl rfl ?_
      refine ck_iload_n 2 dX12_bitsOf_12 rfl rfl ?_
      refine ck_ishr dX12_bitsOf_13 ?_
      refine ck_iconst (v := 1) dX12_bitsOf_14 (by decide) ?_
      refine ck_iand dX12_bitsOf_15 ?_
      refine ck_iadd dX12_bitsOf_16 ?_
      refine ck_nmI (fun v2 ev2 => ?_)
      have hq := hq v2 ev2
      refine ck_istore_n (lv' := [(1, .int v2), (0, .int x0), (2, .int x2)]) dX12_bitsOf_17 rfl (by decide) rfl ?_
      obtain ⟨v3, ev3⟩ : ∃ z : Int32, z = x2 + 1 := ⟨_, rfl⟩
      have hq := hq v3 ev3
      refine ck_iinc (v := v3) (lv' := [(2, .int v3), (1, .int v2), (0, .int x0)]) 2 dX12_bitsOf_18 rfl (by rw [ev3]; rfl) (by decide) rfl ?_
      refine ck_goto (tgt := 4) dX12_bitsOf_21 (by decide) ?_
      refine ck_loc [2, 1, 0] rfl ?_
      exact hKc _ _ _ _ hq
set_option maxHeartbeats 4000000 in
set_option maxRecDepth 100000 in
theorem c_X12_bitsOf {gr : Bool} {x0 : Int32} {h : ck_H} {Q : Int32 → ck_H → Prop} (hq : wp_X12_bitsOf x0 h Q) : ck_M yX12_bitsOf cX12_bitsOf 3 (some .int) 2 0 0 gr ck_shM h [.int x0] (ck_Qi ck_shM Q) := by
  refine ck_entry (lv := [(0, .int x0)]) false (own := RX12) rfl (fun q => by cases q) (by decide) (Nat.le_of_ble_eq_true rfl) rfl ?_
  refine ck_iconst (v := 0) dX12_bitsOf_0 (by decide) ?_
  refine ck_istore_n (lv' := [(1, .int (0 : Int32)), (0, .int x0)]) dX12_bitsOf_1 rfl (by decide) rfl ?_
  refine ck_iconst (v := 0) dX12_bitsOf_2 (by decide) ?_
  refine ck_istore_n (lv' := [(2, .int (0 : Int32)), (1, .int (0 : Int32)), (0, .int x0)]) dX12_bitsOf_3 rfl (by decide) rfl ?_
  refine ck_loc [2, 1, 0] rfl ?_
  refine cp_X12_bitsOf_4 lpN _ _ _ _ hq
