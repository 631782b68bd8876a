theorem dX10_init_0 : decode cX10_init 0 = .ok (.aload_n 0, 1) := by decide +kernel
theorem dX10_init_1 : decode cX10_init 1 = .ok (.invokespecial 3, 3) := by decide +kernel
theorem dX10_init_4 : decode cX10_init 4 = .ok (.aload_n 0, 1) := by decide +kernel
theorem dX10_init_5 : decode cX10_init 5 = .ok (.bipush 7, 2) := by decide +kernel
theorem dX10_init_7 : decode cX10_init 7 = .ok (.newarray .long, 2) := by decide +kernel
theorem dX10_init_9 : decode cX10_init 9 = .ok (.putfield 9, 3) := by decide +kernel
theorem dX10_init_12 : decode cX10_init 12 = .ok (.aload_n 0, 1) := by decide +kernel
theorem dX10_init_13 : decode cX10_init 13 = .ok (.iconst 4, 1) := by decide +kernel
theorem dX10_init_14 : decode cX10_init 14 = .ok (.newarray .int, 2) := by decide +kernel
theorem dX10_init_16 : decode cX10_init 16 = .ok (.putfield 15, 3) := by decide +kernel
theorem dX10_init_19 : decode cX10_init 19 = .ok (.aload_n 0, 1) := by decide +kernel
theorem dX10_init_20 : decode cX10_init 20 = .ok (.aload_n 1, 1) := by decide +kernel
theorem dX10_init_21 : decode cX10_init 21 = .ok (.putfield 19, 3) := by decide +kernel
theorem dX10_init_24 : decode cX10_init 24 = .ok (.return_, 1) := by decide +kernel
theorem dX10_asTheyAre_0 : decode cX10_asTheyAre 0 = .ok (.aload_n 0, 1) := by decide +kernel
theorem dX10_asTheyAre_1 : decode cX10_asTheyAre 1 = .ok (.aload_n 0, 1) := by decide +kernel
theorem dX10_asTheyAre_2 : decode cX10_asTheyAre 2 = .ok (.getfield 19, 3) := by decide +kernel
theorem dX10_asTheyAre_5 : decode cX10_asTheyAre 5 = .ok (.getfield 23, 3) := by decide +kernel
theorem dX10_asTheyAre_8 : decode cX10_asTheyAre 8 = .ok (.putfield 29, 3) := by decide +kernel
theorem dX10_asTheyAre_11 : decode cX10_asTheyAre 11 = .ok (.aload_n 0, 1) := by decide +kernel
theorem dX10_asTheyAre_12 : decode cX10_asTheyAre 12 = .ok (.iconst 0, 1) := by decide +kernel
theorem dX10_asTheyAre_13 : decode cX10_asTheyAre 13 = .ok (.putfield 32, 3) := by decide +kernel
theorem dX10_asTheyAre_16 : decode cX10_asTheyAre 16 = .ok (.aload_n 0, 1) := by decide +kernel
theorem dX10_asTheyAre_17 : decode cX10_asTheyAre 17 = .ok (.iconst 0, 1) := by decide +kernel
theorem dX10_asTheyAre_18 : decode cX10_asTheyAre 18 = .ok (.putfield 36, 3) := by decide +kernel
theorem dX10_asTheyAre_21 : decode cX10_asTheyAre 21 = .ok (.aload_n 0, 1) := by decide +kernel
theorem dX10_asTheyAre_22 : decode cX10_asTheyAre 22 = .ok (.iconst 0, 1) := by decide +kernel
theorem dX10_asTheyAre_23 : decode cX10_asTheyAre 23 = .ok (.putfield 39, 3) := by decide +kernel
theorem dX10_asTheyAre_26 : decode cX10_asTheyAre 26 = .ok (.aload_n 0, 1) := by decide +kernel
theorem dX10_asTheyAre_27 : decode cX10_asTheyAre 27 = .ok (.iconst (-1), 1) := by decide +kernel
theorem dX10_asTheyAre_28 : decode cX10_asTheyAre 28 = .ok (.putfield 42, 3) := by decide +kernel
theorem dX10_asTheyAre_31 : decode cX10_asTheyAre 31 = .ok (.aload_n 0, 1) := by decide +kernel
theorem dX10_asTheyAre_32 : decode cX10_asTheyAre 32 = .ok (.iconst 0, 1) := by decide +kernel
theorem dX10_asTheyAre_33 : decode cX10_asTheyAre 33 = .ok (.putfield 45, 3) := by decide +kernel
theorem dX10_asTheyAre_36 : decode cX10_asTheyAre 36 = .ok (.aload_n 0, 1) := by decide +kernel
theorem dX10_asTheyAre_37 : decode cX10_asTheyAre 37 = .ok (.invokevirtual 48, 3) := by decide +kernel
theorem dX10_asTheyAre_40 : decode cX10_asTheyAre 40 = .ok (.return_, 1) := by decide +kernel
theorem dX10_clearLoad_0 : decode cX10_clearLoad 0 = .ok (.iconst 0, 1) := by decide +kernel
theorem dX10_clearLoad_1 : decode cX10_clearLoad 1 = .ok (.istore_n 1, 1) := by decide +kernel
theorem dX10_clearLoad_2 : decode cX10_clearLoad 2 = .ok (.iload_n 1, 1) := by decide +kernel
theorem dX10_clearLoad_3 : decode cX10_clearLoad 3 = .ok (.iconst 4, 1) := by decide +kernel
theorem dX10_clearLoad_4 : decode cX10_clearLoad 4 = .ok (.if_icmp .ge 16, 3) := by decide +kernel
theorem dX10_clearLoad_7 : decode cX10_clearLoad 7 = .ok (.aload_n 0, 1) := by decide +kernel
theorem dX10_clearLoad_8 : decode cX10_clearLoad 8 = .ok (.getfield 15, 3) := by decide +kernel
theorem dX10_clearLoad_11 : decode cX10_clearLoad 11 = .ok (.iload_n 1, 1) := by decide +kernel
theorem dX10_clearLoad_12 : decode cX10_clearLoad 12 = .ok (.iconst 0, 1) := by decide +kernel
theorem dX10_clearLoad_13 : decode cX10_clearLoad 13 = .ok (.iastore, 1) := by decide +kernel
theorem dX10_clearLoad_14 : decode cX10_clearLoad 14 = .ok (.iinc 1 1, 3) := by decide +kernel
theorem dX10_clearLoad_17 : decode cX10_clearLoad 17 = .ok (.goto (-15), 3) := by decide +kernel
theorem dX10_clearLoad_20 : decode cX10_clearLoad 20 = .ok (.return_, 1) := by decide +kernel
theorem dX10_pass_0 : decode cX10_pass 0 = .ok (.aload_n 1, 1) := by decide +kernel
theorem dX10_pass_1 : decode cX10_pass 1 = .ok (.getfield 51, 3) := by decide +kernel
theorem dX10_pass_4 : decode cX10_pass 4 = .ok (.iload_n 2, 1) := by decide +kernel
theorem dX10_pass_5 : decode cX10_pass 5 = .ok (.iadd, 1) := by decide +kernel
theorem dX10_pass_6 : decode cX10_pass 6 = .ok (.istore_n 3, 1) := by decide +kernel
theorem dX10_pass_7 : decode cX10_pass 7 = .ok (.iconst 0, 1) := by decide +kernel
theorem dX10_pass_8 : decode cX10_pass 8 = .ok (.istore 4, 2) := by decide +kernel
theorem dX10_pass_10 : decode cX10_pass 10 = .ok (.iload 4, 2) := by decide +kernel
theorem dX10_pass_12 : decode cX10_pass 12 = .ok (.bipush 10, 2) := by decide +kernel
theorem dX10_pass_14 : decode cX10_pass 14 = .ok (.if_icmp .gt 106, 3) := by decide +kernel
theorem dX10_pass_17 : decode cX10_pass 17 = .ok (.aload_n 1, 1) := by decide +kernel
theorem dX10_pass_18 : decode cX10_pass 18 = .ok (.getfield 51, 3) := by decide +kernel
theorem dX10_pass_21 : decode cX10_pass 21 = .ok (.iload_n 3, 1) := by decide +kernel
theorem dX10_pass_22 : decode cX10_pass 22 = .ok (.if_icmp .ge 98, 3) := by decide +kernel
theorem dX10_pass_25 : decode cX10_pass 25 = .ok (.aload_n 0, 1) := by decide +kernel
theorem dX10_pass_26 : decode cX10_pass 26 = .ok (.aload_n 1, 1) := by decide +kernel
theorem dX10_pass_27 : decode cX10_pass 27 = .ok (.aload_n 0, 1) := by decide +kernel
theorem dX10_pass_28 : decode cX10_pass 28 = .ok (.aload_n 1, 1) := by decide +kernel
theorem dX10_pass_29 : decode cX10_pass 29 = .ok (.iload_n 3, 1) := by decide +kernel
theorem dX10_pass_30 : decode cX10_pass 30 = .ok (.invokevirtual 56, 3) := by decide +kernel
theorem dX10_pass_33 : decode cX10_pass 33 = .ok (.invokevirtual 60, 3) := by decide +kernel
theorem dX10_pass_36 : decode cX10_pass 36 = .ok (.aload_n 1, 1) := by decide +kernel
theorem dX10_pass_37 : decode cX10_pass 37 = .ok (.getfield 51, 3) := by decide +kernel
theorem dX10_pass_40 : decode cX10_pass 40 = .ok (.iload_n 3, 1) := by decide +kernel
theorem dX10_pass_41 : decode cX10_pass 41 = .ok (.if_icmp .ge 73, 3) := by decide +kernel
theorem dX10_pass_44 : decode cX10_pass 44 = .ok (.aload_n 0, 1) := by decide +kernel
theorem dX10_pass_45 : decode cX10_pass 45 = .ok (.invokevirtual 48, 3) := by decide +kernel
theorem dX10_pass_48 : decode cX10_pass 48 = .ok (.iconst 0, 1) := by decide +kernel
theorem dX10_pass_49 : decode cX10_pass 49 = .ok (.istore 5, 2) := by decide +kernel
theorem dX10_pass_51 : decode cX10_pass 51 = .ok (.iload 5, 2) := by decide +kernel
theorem dX10_pass_53 : decode cX10_pass 53 = .ok (.aload_n 0, 1) := by decide +kernel
theorem dX10_pass_54 : decode cX10_pass 54 = .ok (.getfield 19, 3) := by decide +kernel
theorem dX10_pass_57 : decode cX10_pass 57 = .ok (.getfield 64, 3) := by decide +kernel
theorem dX10_pass_60 : decode cX10_pass 60 = .ok (.getfield 68, 3) := by decide +kernel
theorem dX10_pass_63 : decode cX10_pass 63 = .ok (.if_icmp .ge 40, 3) := by decide +kernel
theorem dX10_pass_66 : decode cX10_pass 66 = .ok (.aload_n 1, 1) := by decide +kernel
theorem dX10_pass_67 : decode cX10_pass 67 = .ok (.getfield 73, 3) := by decide +kernel
theorem dX10_pass_70 : decode cX10_pass 70 = .ok (.iload 5, 2) := by decide +kernel
theorem dX10_pass_72 : decode cX10_pass 72 = .ok (.iaload, 1) := by decide +kernel
theorem dX10_pass_73 : decode cX10_pass 73 = .ok (.aload_n 1, 1) := by decide +kernel
theorem dX10_pass_74 : decode cX10_pass 74 = .ok (.getfield 51, 3) := by decide +kernel
theorem dX10_pass_77 : decode cX10_pass 77 = .ok (.if_icmp .ne 20, 3) := by decide +kernel
theorem dX10_pass_80 : decode cX10_pass 80 = .ok (.aload_n 0, 1) := by decide +kernel
theorem dX10_pass_81 : decode cX10_pass 81 = .ok (.aload_n 1, 1) := by decide +kernel
theorem dX10_pass_82 : decode cX10_pass 82 = .ok (.iload 5, 2) := by decide +kernel
theorem dX10_pass_84 : decode cX10_pass 84 = .ok (.invokevirtual 76, 3) := by decide +kernel
theorem dX10_pass_87 : decode cX10_pass 87 = .ok (.ifCond .eq 10, 3) := by decide +kernel
theorem dX10_pass_90 : decode cX10_pass 90 = .ok (.aload_n 0, 1) := by decide +kernel
theorem dX10_pass_91 : decode cX10_pass 91 = .ok (.aload_n 1, 1) := by decide +kernel
theorem dX10_pass_92 : decode cX10_pass 92 = .ok (.iload 5, 2) := by decide +kernel
theorem dX10_pass_94 : decode cX10_pass 94 = .ok (.invokevirtual 80, 3) := by decide +kernel
theorem dX10_pass_97 : decode cX10_pass 97 = .ok (.iinc 5 1, 3) := by decide +kernel
theorem dX10_pass_100 : decode cX10_pass 100 = .ok (.goto (-49), 3) := by decide +kernel
theorem dX10_pass_103 : decode cX10_pass 103 = .ok (.aload_n 0, 1) := by decide +kernel
theorem dX10_pass_104 : decode cX10_pass 104 = .ok (.aload_n 1, 1) := by decide +kernel
theorem dX10_pass_105 : decode cX10_pass 105 = .ok (.aload_n 1, 1) := by decide +kernel
theorem dX10_pass_106 : decode cX10_pass 106 = .ok (.getfield 51, 3) := by decide +kernel
theorem dX10_pass_109 : decode cX10_pass 109 = .ok (.iconst 1, 1) := by decide +kernel
theorem dX10_pass_110 : decode cX10_pass 110 = .ok (.iadd, 1) := by decide +kernel
theorem dX10_pass_111 : decode cX10_pass 111 = .ok (.invokevirtual 60, 3) := by decide +kernel
theorem dX10_pass_114 : decode cX10_pass 114 = .ok (.iinc 4 1, 3) := by decide +kernel
theorem dX10_pass_117 : decode cX10_pass 117 = .ok (.goto (-107), 3) := by decide +kernel
theorem dX10_pass_120 : decode cX10_pass 120 = .ok (.return_, 1) := by decide +kernel
theorem dX10_isOpen_0 : decode cX10_isOpen 0 = .ok (.aload_n 1, 1) := by decide +kernel
theorem dX10_isOpen_1 : decode cX10_isOpen 1 = .ok (.getfield 83, 3) := by decide +kernel
theorem dX10_isOpen_4 : decode cX10_isOpen 4 = .ok (.iload_n 2, 1) := by decide +kernel
theorem dX10_isOpen_5 : decode cX10_isOpen 5 = .ok (.iaload, 1) := by decide +kernel
theorem dX10_isOpen_6 : decode cX10_isOpen 6 = .ok (.iconst (-1), 1) := by decide +kernel
theorem dX10_isOpen_7 : decode cX10_isOpen 7 = .ok (.if_icmp .ne 20, 3) := by decide +kernel
theorem dX10_isOpen_10 : decode cX10_isOpen 10 = .ok (.aload_n 1, 1) := by decide +kernel
theorem dX10_isOpen_11 : decode cX10_isOpen 11 = .ok (.getfield 86, 3) := by decide +kernel
theorem dX10_isOpen_14 : decode cX10_isOpen 14 = .ok (.iload_n 2, 1) := by decide +kernel
theorem dX10_isOpen_15 : decode cX10_isOpen 15 = .ok (.iaload, 1) := by decide +kernel
theorem dX10_isOpen_16 : decode cX10_isOpen 16 = .ok (.aload_n 0, 1) := by decide +kernel
theorem dX10_isOpen_17 : decode cX10_isOpen 17 = .ok (.getfield 42, 3) := by decide +kernel
theorem dX10_isOpen_20 : decode cX10_isOpen 20 = .ok (.if_icmp .eq 7, 3) := by decide +kernel
theorem dX10_isOpen_23 : decode cX10_isOpen 23 = .ok (.iconst 1, 1) := by decide +kernel
theorem dX10_isOpen_24 : decode cX10_isOpen 24 = .ok (.goto 4, 3) := by decide +kernel
theorem dX10_isOpen_27 : decode cX10_isOpen 27 = .ok (.iconst 0, 1) := by decide +kernel
theorem dX10_isOpen_28 : decode cX10_isOpen 28 = .ok (.ireturn, 1) := by decide +kernel
theorem dX10_nextDayWithSuits_0 : decode cX10_nextDayWithSuits 0 = .ok (.iload_n 2, 1) := by decide +kernel
theorem dX10_nextDayWithSuits_1 : decode cX10_nextDayWithSuits 1 = .ok (.istore_n 3, 1) := by decide +kernel
theorem dX10_nextDayWithSuits_2 : decode cX10_nextDayWithSuits 2 = .ok (.iconst 0, 1) := by decide +kernel
theorem dX10_nextDayWithSuits_3 : decode cX10_nextDayWithSuits 3 = .ok (.istore 4, 2) := by decide +kernel
theorem dX10_nextDayWithSuits_5 : decode cX10_nextDayWithSuits 5 = .ok (.iload 4, 2) := by decide +kernel
theorem dX10_nextDayWithSuits_7 : decode cX10_nextDayWithSuits 7 = .ok (.aload_n 0, 1) := by decide +kernel
theorem dX10_nextDayWithSuits_8 : decode cX10_nextDayWithSuits 8 = .ok (.getfield 19, 3) := by decide +kernel
theorem dX10_nextDayWithSuits_11 : decode cX10_nextDayWithSuits 11 = .ok (.getfield 64, 3) := by decide +kernel
theorem dX10_nextDayWithSuits_14 : decode cX10_nextDayWithSuits 14 = .ok (.getfield 68, 3) := by decide +kernel
theorem dX10_nextDayWithSuits_17 : decode cX10_nextDayWithSuits 17 = .ok (.if_icmp .ge 46, 3) := by decide +kernel
theorem dX10_nextDayWithSuits_20 : decode cX10_nextDayWithSuits 20 = .ok (.aload_n 1, 1) := by decide +kernel
theorem dX10_nextDayWithSuits_21 : decode cX10_nextDayWithSuits 21 = .ok (.getfield 73, 3) := by decide +kernel
theorem dX10_nextDayWithSuits_24 : decode cX10_nextDayWithSuits 24 = .ok (.iload 4, 2) := by decide +kernel
theorem dX10_nextDayWithSuits_26 : decode cX10_nextDayWithSuits 26 = .ok (.iaload, 1) := by decide +kernel
theorem dX10_nextDayWithSuits_27 : decode cX10_nextDayWithSuits 27 = .ok (.istore 5, 2) := by decide +kernel
theorem dX10_nextDayWithSuits_29 : decode cX10_nextDayWithSuits 29 = .ok (.iload 5, 2) := by decide +kernel
theorem dX10_nextDayWithSuits_31 : decode cX10_nextDayWithSuits 31 = .ok (.aload_n 1, 1) := by decide +kernel
theorem dX10_nextDayWithSuits_32 : decode cX10_nextDayWithSuits 32 = .ok (.getfield 51, 3) := by decide +kernel
theorem dX10_nextDayWithSuits_35 : decode cX10_nextDayWithSuits 35 = .ok (.if_icmp .lt 22, 3) := by decide +kernel
theorem dX10_nextDayWithSuits_38 : decode cX10_nextDayWithSuits 38 = .ok (.iload 5, 2) := by decide +kernel
theorem dX10_nextDayWithSuits_40 : decode cX10_nextDayWithSuits 40 = .ok (.iload_n 3, 1) := by decide +kernel
theorem dX10_nextDayWithSuits_41 : decode cX10_nextDayWithSuits 41 = .ok (.if_icmp .ge 16, 3) := by decide +kernel
theorem dX10_nextDayWithSuits_44 : decode cX10_nextDayWithSuits 44 = .ok (.aload_n 0, 1) := by decide +kernel
theorem dX10_nextDayWithSuits_45 : decode cX10_nextDayWithSuits 45 = .ok (.aload_n 1, 1) := by decide +kernel
theorem dX10_nextDayWithSuits_46 : decode cX10_nextDayWithSuits 46 = .ok (.iload 4, 2) := by decide +kernel
theorem dX10_nextDayWithSuits_48 : decode cX10_nextDayWithSuits 48 = .ok (.invokevirtual 76, 3) := by decide +kernel
theorem dX10_nextDayWithSuits_51 : decode cX10_nextDayWithSuits 51 = .ok (.ifCond .eq 6, 3) := by decide +kernel
theorem dX10_nextDayWithSuits_54 : decode cX10_nextDayWithSuits 54 = .ok (.iload 5, 2) := by decide +kernel
theorem dX10_nextDayWithSuits_56 : decode cX10_nextDayWithSuits 56 = .ok (.istore_n 3, 1) := by decide +kernel
theorem dX10_nextDayWithSuits_57 : decode cX10_nextDayWithSuits 57 = .ok (.iinc 4 1, 3) := by decide +kernel
theorem dX10_nextDayWithSuits_60 : decode cX10_nextDayWithSuits 60 = .ok (.goto (-55), 3) := by decide +kernel
theorem dX10_nextDayWithSuits_63 : decode cX10_nextDayWithSuits 63 = .ok (.iload_n 3, 1) := by decide +kernel
theorem dX10_nextDayWithSuits_64 : decode cX10_nextDayWithSuits 64 = .ok (.ireturn, 1) := by decide +kernel
theorem dX10_moveTo_0 : decode cX10_moveTo 0 = .ok (.aload_n 0, 1) := by decide +kernel
theorem dX10_moveTo_1 : decode cX10_moveTo 1 = .ok (.getfield 19, 3) := by decide +kernel
theorem dX10_moveTo_4 : decode cX10_moveTo 4 = .ok (.getfield 89, 3) := by decide +kernel
theorem dX10_moveTo_7 : decode cX10_moveTo 7 = .ok (.ifCond .le 52, 3) := by decide +kernel
theorem dX10_moveTo_10 : decode cX10_moveTo 10 = .ok (.iload_n 2, 1) := by decide +kernel
theorem dX10_moveTo_11 : decode cX10_moveTo 11 = .ok (.aload_n 0, 1) := by decide +kernel
theorem dX10_moveTo_12 : decode cX10_moveTo 12 = .ok (.getfield 19, 3) := by decide +kernel
theorem dX10_moveTo_15 : decode cX10_moveTo 15 = .ok (.getfield 89, 3) := by decide +kernel
theorem dX10_moveTo_18 : decode cX10_moveTo 18 = .ok (.idiv, 1) := by decide +kernel
theorem dX10_moveTo_19 : decode cX10_moveTo 19 = .ok (.aload_n 1, 1) := by decide +kernel
theorem dX10_moveTo_20 : decode cX10_moveTo 20 = .ok (.getfield 51, 3) := by decide +kernel
theorem dX10_moveTo_23 : decode cX10_moveTo 23 = .ok (.aload_n 0, 1) := by decide +kernel
theorem dX10_moveTo_24 : decode cX10_moveTo 24 = .ok (.getfield 19, 3) := by decide +kernel
theorem dX10_moveTo_27 : decode cX10_moveTo 27 = .ok (.getfield 89, 3) := by decide +kernel
theorem dX10_moveTo_30 : decode cX10_moveTo 30 = .ok (.idiv, 1) := by decide +kernel
theorem dX10_moveTo_31 : decode cX10_moveTo 31 = .ok (.if_icmp .le 28, 3) := by decide +kernel
theorem dX10_moveTo_34 : decode cX10_moveTo 34 = .ok (.aload_n 1, 1) := by decide +kernel
theorem dX10_moveTo_35 : decode cX10_moveTo 35 = .ok (.aload_n 0, 1) := by decide +kernel
theorem dX10_moveTo_36 : decode cX10_moveTo 36 = .ok (.getfield 29, 3) := by decide +kernel
theorem dX10_moveTo_39 : decode cX10_moveTo 39 = .ok (.putfield 92, 3) := by decide +kernel
theorem dX10_moveTo_42 : decode cX10_moveTo 42 = .ok (.aload_n 0, 1) := by decide +kernel
theorem dX10_moveTo_43 : decode cX10_moveTo 43 = .ok (.getfield 19, 3) := by decide +kernel
theorem dX10_moveTo_46 : decode cX10_moveTo 46 = .ok (.getfield 93, 3) := by decide +kernel
theorem dX10_moveTo_49 : decode cX10_moveTo 49 = .ok (.iconst 0, 1) := by decide +kernel
theorem dX10_moveTo_50 : decode cX10_moveTo 50 = .ok (.aload_n 1, 1) := by decide +kernel
theorem dX10_moveTo_51 : decode cX10_moveTo 51 = .ok (.getfield 96, 3) := by decide +kernel
theorem dX10_moveTo_54 : decode cX10_moveTo 54 = .ok (.iconst 0, 1) := by decide +kernel
theorem dX10_moveTo_55 : decode cX10_moveTo 55 = .ok (.iconst 4, 1) := by decide +kernel
theorem dX10_moveTo_56 : decode cX10_moveTo 56 = .ok (.invokestatic 97, 3) := by decide +kernel
theorem dX10_moveTo_59 : decode cX10_moveTo 59 = .ok (.aload_n 1, 1) := by decide +kernel
theorem dX10_moveTo_60 : decode cX10_moveTo 60 = .ok (.iload_n 2, 1) := by decide +kernel
theorem dX10_moveTo_61 : decode cX10_moveTo 61 = .ok (.putfield 51, 3) := by decide +kernel
theorem dX10_moveTo_64 : decode cX10_moveTo 64 = .ok (.return_, 1) := by decide +kernel
theorem dX10_tryOne_0 : decode cX10_tryOne 0 = .ok (.aload_n 1, 1) := by decide +kernel
theorem dX10_tryOne_1 : decode cX10_tryOne 1 = .ok (.getfield 86, 3) := by decide +kernel
theorem dX10_tryOne_4 : decode cX10_tryOne 4 = .ok (.iload_n 2, 1) := by decide +kernel
theorem dX10_tryOne_5 : decode cX10_tryOne 5 = .ok (.iaload, 1) := by decide +kernel
theorem dX10_tryOne_6 : decode cX10_tryOne 6 = .ok (.istore_n 3, 1) := by decide +kernel
theorem dX10_tryOne_7 : decode cX10_tryOne 7 = .ok (.aload_n 0, 1) := by decide +kernel
theorem dX10_tryOne_8 : decode cX10_tryOne 8 = .ok (.aload_n 1, 1) := by decide +kernel
theorem dX10_tryOne_9 : decode cX10_tryOne 9 = .ok (.iload_n 2, 1) := by decide +kernel
theorem dX10_tryOne_10 : decode cX10_tryOne 10 = .ok (.invokevirtual 103, 3) := by decide +kernel
theorem dX10_tryOne_13 : decode cX10_tryOne 13 = .ok (.aload_n 0, 1) := by decide +kernel
theorem dX10_tryOne_14 : decode cX10_tryOne 14 = .ok (.getfield 45, 3) := by decide +kernel
theorem dX10_tryOne_17 : decode cX10_tryOne 17 = .ok (.ifCond .eq 13, 3) := by decide +kernel
theorem dX10_tryOne_20 : decode cX10_tryOne 20 = .ok (.aload_n 0, 1) := by decide +kernel
theorem dX10_tryOne_21 : decode cX10_tryOne 21 = .ok (.invokevirtual 106, 3) := by decide +kernel
theorem dX10_tryOne_24 : decode cX10_tryOne 24 = .ok (.bipush 10, 2) := by decide +kernel
theorem dX10_tryOne_26 : decode cX10_tryOne 26 = .ok (.irem, 1) := by decide +kernel
theorem dX10_tryOne_27 : decode cX10_tryOne 27 = .ok (.goto 4, 3) := by decide +kernel
theorem dX10_tryOne_30 : decode cX10_tryOne 30 = .ok (.iconst 0, 1) := by decide +kernel
theorem dX10_tryOne_31 : decode cX10_tryOne 31 = .ok (.iadd, 1) := by decide +kernel
theorem dX10_tryOne_32 : decode cX10_tryOne 32 = .ok (.istore 4, 2) := by decide +kernel
theorem dX10_tryOne_34 : decode cX10_tryOne 34 = .ok (.aload_n 0, 1) := by decide +kernel
theorem dX10_tryOne_35 : decode cX10_tryOne 35 = .ok (.aload_n 1, 1) := by decide +kernel
theorem dX10_tryOne_36 : decode cX10_tryOne 36 = .ok (.iload_n 3, 1) := by decide +kernel
theorem dX10_tryOne_37 : decode cX10_tryOne 37 = .ok (.aload_n 0, 1) := by decide +kernel
theorem dX10_tryOne_38 : decode cX10_tryOne 38 = .ok (.getfield 19, 3) := by decide +kernel
theorem dX10_tryOne_41 : decode cX10_tryOne 41 = .ok (.getfield 110, 3) := by decide +kernel
theorem dX10_tryOne_44 : decode cX10_tryOne 44 = .ok (.iload_n 2, 1) := by decide +kernel
theorem dX10_tryOne_45 : decode cX10_tryOne 45 = .ok (.iaload, 1) := by decide +kernel
theorem dX10_tryOne_46 : decode cX10_tryOne 46 = .ok (.iload 4, 2) := by decide +kernel
theorem dX10_tryOne_48 : decode cX10_tryOne 48 = .ok (.invokevirtual 113, 3) := by decide +kernel
theorem dX10_tryOne_51 : decode cX10_tryOne 51 = .ok (.istore 5, 2) := by decide +kernel
theorem dX10_tryOne_53 : decode cX10_tryOne 53 = .ok (.aload_n 1, 1) := by decide +kernel
theorem dX10_tryOne_54 : decode cX10_tryOne 54 = .ok (.getfield 83, 3) := by decide +kernel
theorem dX10_tryOne_57 : decode cX10_tryOne 57 = .ok (.iload_n 2, 1) := by decide +kernel
theorem dX10_tryOne_58 : decode cX10_tryOne 58 = .ok (.iload 5, 2) := by decide +kernel
theorem dX10_tryOne_60 : decode cX10_tryOne 60 = .ok (.iastore, 1) := by decide +kernel
theorem dX10_tryOne_61 : decode cX10_tryOne 61 = .ok (.aload_n 0, 1) := by decide +kernel
theorem dX10_tryOne_62 : decode cX10_tryOne 62 = .ok (.getfield 15, 3) := by decide +kernel
theorem dX10_tryOne_65 : decode cX10_tryOne 65 = .ok (.iload_n 3, 1) := by decide +kernel
theorem dX10_tryOne_66 : decode cX10_tryOne 66 = .ok (.dup2, 1) := by decide +kernel
theorem dX10_tryOne_67 : decode cX10_tryOne 67 = .ok (.iaload, 1) := by decide +kernel
theorem dX10_tryOne_68 : decode cX10_tryOne 68 = .ok (.iconst 1, 1) := by decide +kernel
theorem dX10_tryOne_69 : decode cX10_tryOne 69 = .ok (.iadd, 1) := by decide +kernel
theorem dX10_tryOne_70 : decode cX10_tryOne 70 = .ok (.iastore, 1) := by decide +kernel
theorem dX10_tryOne_71 : decode cX10_tryOne 71 = .ok (.iload 5, 2) := by decide +kernel
theorem dX10_tryOne_73 : decode cX10_tryOne 73 = .ok (.ifCond .eq 12, 3) := by decide +kernel
theorem dX10_tryOne_76 : decode cX10_tryOne 76 = .ok (.aload_n 0, 1) := by decide +kernel
theorem dX10_tryOne_77 : decode cX10_tryOne 77 = .ok (.aload_n 1, 1) := by decide +kernel
theorem dX10_tryOne_78 : decode cX10_tryOne 78 = .ok (.iload_n 3, 1) := by decide +kernel
theorem dX10_tryOne_79 : decode cX10_tryOne 79 = .ok (.invokevirtual 117, 3) := by decide +kernel
theorem dX10_tryOne_82 : decode cX10_tryOne 82 = .ok (.goto 48, 3) := by decide +kernel
theorem dX10_tryOne_85 : decode cX10_tryOne 85 = .ok (.iload 4, 2) := by decide +kernel
theorem dX10_tryOne_87 : decode cX10_tryOne 87 = .ok (.aload_n 0, 1) := by decide +kernel
theorem dX10_tryOne_88 : decode cX10_tryOne 88 = .ok (.getfield 120, 3) := by decide +kernel
theorem dX10_tryOne_91 : decode cX10_tryOne 91 = .ok (.isub, 1) := by decide +kernel
theorem dX10_tryOne_92 : decode cX10_tryOne 92 = .ok (.iconst 2, 1) := by decide +kernel
theorem dX10_tryOne_93 : decode cX10_tryOne 93 = .ok (.aload_n 0, 1) := by decide +kernel
theorem dX10_tryOne_94 : decode cX10_tryOne 94 = .ok (.getfield 123, 3) := by decide +kernel
theorem dX10_tryOne_97 : decode cX10_tryOne 97 = .ok (.imul, 1) := by decide +kernel
theorem dX10_tryOne_98 : decode cX10_tryOne 98 = .ok (.if_icmp .lt 32, 3) := by decide +kernel
theorem dX10_tryOne_101 : decode cX10_tryOne 101 = .ok (.aload_n 1, 1) := by decide +kernel
theorem dX10_tryOne_102 : decode cX10_tryOne 102 = .ok (.getfield 96, 3) := by decide +kernel
theorem dX10_tryOne_105 : decode cX10_tryOne 105 = .ok (.iload_n 3, 1) := by decide +kernel
theorem dX10_tryOne_106 : decode cX10_tryOne 106 = .ok (.iaload, 1) := by decide +kernel
theorem dX10_tryOne_107 : decode cX10_tryOne 107 = .ok (.ifCond .le 23, 3) := by decide +kernel
theorem dX10_tryOne_110 : decode cX10_tryOne 110 = .ok (.aload_n 1, 1) := by decide +kernel
theorem dX10_tryOne_111 : decode cX10_tryOne 111 = .ok (.getfield 96, 3) := by decide +kernel
theorem dX10_tryOne_114 : decode cX10_tryOne 114 = .ok (.iload_n 3, 1) := by decide +kernel
theorem dX10_tryOne_115 : decode cX10_tryOne 115 = .ok (.dup2, 1) := by decide +kernel
theorem dX10_tryOne_116 : decode cX10_tryOne 116 = .ok (.iaload, 1) := by decide +kernel
theorem dX10_tryOne_117 : decode cX10_tryOne 117 = .ok (.iconst 1, 1) := by decide +kernel
theorem dX10_tryOne_118 : decode cX10_tryOne 118 = .ok (.isub, 1) := by decide +kernel
theorem dX10_tryOne_119 : decode cX10_tryOne 119 = .ok (.iastore, 1) := by decide +kernel
theorem dX10_tryOne_120 : decode cX10_tryOne 120 = .ok (.aload_n 1, 1) := by decide +kernel
theorem dX10_tryOne_121 : decode cX10_tryOne 121 = .ok (.dup, 1) := by decide +kernel
theorem dX10_tryOne_122 : decode cX10_tryOne 122 = .ok (.getfield 126, 3) := by decide +kernel
theorem dX10_tryOne_125 : decode cX10_tryOne 125 = .ok (.iconst 1, 1) := by decide +kernel
theorem dX10_tryOne_126 : decode cX10_tryOne 126 = .ok (.iadd, 1) := by decide +kernel
theorem dX10_tryOne_127 : decode cX10_tryOne 127 = .ok (.putfield 126, 3) := by decide +kernel
theorem dX10_tryOne_130 : decode cX10_tryOne 130 = .ok (.return_, 1) := by decide +kernel
theorem dX10_hardnessOf_0 : decode cX10_hardnessOf 0 = .ok (.aload_n 0, 1) := by decide +kernel
theorem dX10_hardnessOf_1 : decode cX10_hardnessOf 1 = .ok (.getfield 19, 3) := by decide +kernel
theorem dX10_hardnessOf_4 : decode cX10_hardnessOf 4 = .ok (.getfield 129, 3) := by decide +kernel
theorem dX10_hardnessOf_7 : decode cX10_hardnessOf 7 = .ok (.aload_n 0, 1) := by decide +kernel
theorem dX10_hardnessOf_8 : decode cX10_hardnessOf 8 = .ok (.getfield 19, 3) := by decide +kernel
theorem dX10_hardnessOf_11 : decode cX10_hardnessOf 11 = .ok (.getfield 110, 3) := by decide +kernel
theorem dX10_hardnessOf_14 : decode cX10_hardnessOf 14 = .ok (.iload_n 2, 1) := by decide +kernel
theorem dX10_hardnessOf_15 : decode cX10_hardnessOf 15 = .ok (.iaload, 1) := by decide +kernel
theorem dX10_hardnessOf_16 : decode cX10_hardnessOf 16 = .ok (.iaload, 1) := by decide +kernel
theorem dX10_hardnessOf_17 : decode cX10_hardnessOf 17 = .ok (.istore_n 3, 1) := by decide +kernel
theorem dX10_hardnessOf_18 : decode cX10_hardnessOf 18 = .ok (.aload_n 1, 1) := by decide +kernel
theorem dX10_hardnessOf_19 : decode cX10_hardnessOf 19 = .ok (.iload_n 2, 1) := by decide +kernel
theorem dX10_hardnessOf_20 : decode cX10_hardnessOf 20 = .ok (.invokevirtual 132, 3) := by decide +kernel
theorem dX10_hardnessOf_23 : decode cX10_hardnessOf 23 = .ok (.ifCond .eq 17, 3) := by decide +kernel
theorem dX10_hardnessOf_26 : decode cX10_hardnessOf 26 = .ok (.aload_n 0, 1) := by decide +kernel
theorem dX10_hardnessOf_27 : decode cX10_hardnessOf 27 = .ok (.getfield 39, 3) := by decide +kernel
theorem dX10_hardnessOf_30 : decode cX10_hardnessOf 30 = .ok (.ifCond .ne 10, 3) := by decide +kernel
theorem dX10_hardnessOf_33 : decode cX10_hardnessOf 33 = .ok (.iload_n 3, 1) := by decide +kernel
theorem dX10_hardnessOf_34 : decode cX10_hardnessOf 34 = .ok (.bipush 30, 2) := by decide +kernel
theorem dX10_hardnessOf_36 : decode cX10_hardnessOf 36 = .ok (.iadd, 1) := by decide +kernel
theorem dX10_hardnessOf_37 : decode cX10_hardnessOf 37 = .ok (.goto 4, 3) := by decide +kernel
theorem dX10_hardnessOf_40 : decode cX10_hardnessOf 40 = .ok (.iload_n 3, 1) := by decide +kernel
theorem dX10_hardnessOf_41 : decode cX10_hardnessOf 41 = .ok (.ireturn, 1) := by decide +kernel
theorem dX10_drawn_0 : decode cX10_drawn 0 = .ok (.aload_n 0, 1) := by decide +kernel
theorem dX10_drawn_1 : decode cX10_drawn 1 = .ok (.aload_n 0, 1) := by decide +kernel
theorem dX10_drawn_2 : decode cX10_drawn 2 = .ok (.getfield 136, 3) := by decide +kernel
theorem dX10_drawn_5 : decode cX10_drawn 5 = .ok (.ldc2_w 140, 3) := by decide +kernel
theorem dX10_drawn_8 : decode cX10_drawn 8 = .ok (.lmul, 1) := by decide +kernel
theorem dX10_drawn_9 : decode cX10_drawn 9 = .ok (.ldc2_w 142, 3) := by decide +kernel
theorem dX10_drawn_12 : decode cX10_drawn 12 = .ok (.ladd, 1) := by decide +kernel
theorem dX10_drawn_13 : decode cX10_drawn 13 = .ok (.ldc2_w 144, 3) := by decide +kernel
theorem dX10_drawn_16 : decode cX10_drawn 16 = .ok (.land, 1) := by decide +kernel
theorem dX10_drawn_17 : decode cX10_drawn 17 = .ok (.putfield 136, 3) := by decide +kernel
theorem dX10_drawn_20 : decode cX10_drawn 20 = .ok (.aload_n 0, 1) := by decide +kernel
theorem dX10_drawn_21 : decode cX10_drawn 21 = .ok (.getfield 136, 3) := by decide +kernel
theorem dX10_drawn_24 : decode cX10_drawn 24 = .ok (.ldc2_w 146, 3) := by decide +kernel
theorem dX10_drawn_27 : decode cX10_drawn 27 = .ok (.ldiv, 1) := by decide +kernel
theorem dX10_drawn_28 : decode cX10_drawn 28 = .ok (.l2i, 1) := by decide +kernel
theorem dX10_drawn_29 : decode cX10_drawn 29 = .ok (.ireturn, 1) := by decide +kernel
theorem dX10_measured_0 : decode cX10_measured 0 = .ok (.aload_n 0, 1) := by decide +kernel
theorem dX10_measured_1 : decode cX10_measured 1 = .ok (.getfield 9, 3) := by decide +kernel
theorem dX10_measured_4 : decode cX10_measured 4 = .ok (.iconst 0, 1) := by decide +kernel
theorem dX10_measured_5 : decode cX10_measured 5 = .ok (.aload_n 0, 1) := by decide +kernel
theorem dX10_measured_6 : decode cX10_measured 6 = .ok (.getfield 19, 3) := by decide +kernel
theorem dX10_measured_9 : decode cX10_measured 9 = .ok (.getfield 148, 3) := by decide +kernel
theorem dX10_measured_12 : decode cX10_measured 12 = .ok (.iload_n 2, 1) := by decide +kernel
theorem dX10_measured_13 : decode cX10_measured 13 = .ok (.iaload, 1) := by decide +kernel
theorem dX10_measured_14 : decode cX10_measured 14 = .ok (.i2l, 1) := by decide +kernel
theorem dX10_measured_15 : decode cX10_measured 15 = .ok (.lastore, 1) := by decide +kernel
theorem dX10_measured_16 : decode cX10_measured 16 = .ok (.aload_n 0, 1) := by decide +kernel
theorem dX10_measured_17 : decode cX10_measured 17 = .ok (.getfield 9, 3) := by decide +kernel
theorem dX10_measured_20 : decode cX10_measured 20 = .ok (.iconst 1, 1) := by decide +kernel
theorem dX10_measured_21 : decode cX10_measured 21 = .ok (.aload_n 1, 1) := by decide +kernel
theorem dX10_measured_22 : decode cX10_measured 22 = .ok (.getfield 96, 3) := by decide +kernel
theorem dX10_measured_25 : decode cX10_measured 25 = .ok (.iload_n 2, 1) := by decide +kernel
theorem dX10_measured_26 : decode cX10_measured 26 = .ok (.iaload, 1) := by decide +kernel
theorem dX10_measured_27 : decode cX10_measured 27 = .ok (.i2l, 1) := by decide +kernel
theorem dX10_measured_28 : decode cX10_measured 28 = .ok (.lastore, 1) := by decide +kernel
theorem dX10_measured_29 : decode cX10_measured 29 = .ok (.aload_n 0, 1) := by decide +kernel
theorem dX10_measured_30 : decode cX10_measured 30 = .ok (.getfield 9, 3) := by decide +kernel
theorem dX10_measured_33 : decode cX10_measured 33 = .ok (.iconst 2, 1) := by decide +kernel
theorem dX10_measured_34 : decode cX10_measured 34 = .ok (.iload 4, 2) := by decide +kernel
theorem dX10_measured_36 : decode cX10_measured 36 = .ok (.i2l, 1) := by decide +kernel
theorem dX10_measured_37 : decode cX10_measured 37 = .ok (.lastore, 1) := by decide +kernel
theorem dX10_measured_38 : decode cX10_measured 38 = .ok (.aload_n 0, 1) := by decide +kernel
theorem dX10_measured_39 : decode cX10_measured 39 = .ok (.getfield 9, 3) := by decide +kernel
theorem dX10_measured_42 : decode cX10_measured 42 = .ok (.iconst 3, 1) := by decide +kernel
theorem dX10_measured_43 : decode cX10_measured 43 = .ok (.aload_n 0, 1) := by decide +kernel
theorem dX10_measured_44 : decode cX10_measured 44 = .ok (.getfield 19, 3) := by decide +kernel
theorem dX10_measured_47 : decode cX10_measured 47 = .ok (.getfield 151, 3) := by decide +kernel
theorem dX10_measured_50 : decode cX10_measured 50 = .ok (.iload_n 3, 1) := by decide +kernel
theorem dX10_measured_51 : decode cX10_measured 51 = .ok (.iaload, 1) := by decide +kernel
theorem dX10_measured_52 : decode cX10_measured 52 = .ok (.i2l, 1) := by decide +kernel
theorem dX10_measured_53 : decode cX10_measured 53 = .ok (.lastore, 1) := by decide +kernel
theorem dX10_measured_54 : decode cX10_measured 54 = .ok (.aload_n 0, 1) := by decide +kernel
theorem dX10_measured_55 : decode cX10_measured 55 = .ok (.getfield 9, 3) := by decide +kernel
theorem dX10_measured_58 : decode cX10_measured 58 = .ok (.iconst 4, 1) := by decide +kernel
theorem dX10_measured_59 : decode cX10_measured 59 = .ok (.aload_n 1, 1) := by decide +kernel
theorem dX10_measured_60 : decode cX10_measured 60 = .ok (.getfield 92, 3) := by decide +kernel
theorem dX10_measured_63 : decode cX10_measured 63 = .ok (.i2l, 1) := by decide +kernel
theorem dX10_measured_64 : decode cX10_measured 64 = .ok (.lastore, 1) := by decide +kernel
theorem dX10_measured_65 : decode cX10_measured 65 = .ok (.aload_n 0, 1) := by decide +kernel
theorem dX10_measured_66 : decode cX10_measured 66 = .ok (.getfield 9, 3) := by decide +kernel
theorem dX10_measured_69 : decode cX10_measured 69 = .ok (.iconst 5, 1) := by decide +kernel
theorem dX10_measured_70 : decode cX10_measured 70 = .ok (.aload_n 0, 1) := by decide +kernel
theorem dX10_measured_71 : decode cX10_measured 71 = .ok (.getfield 15, 3) := by decide +kernel
theorem dX10_measured_74 : decode cX10_measured 74 = .ok (.iload_n 2, 1) := by decide +kernel
theorem dX10_measured_75 : decode cX10_measured 75 = .ok (.iaload, 1) := by decide +kernel
theorem dX10_measured_76 : decode cX10_measured 76 = .ok (.i2l, 1) := by decide +kernel
theorem dX10_measured_77 : decode cX10_measured 77 = .ok (.lastore, 1) := by decide +kernel
theorem dX10_measured_78 : decode cX10_measured 78 = .ok (.aload_n 0, 1) := by decide +kernel
theorem dX10_measured_79 : decode cX10_measured 79 = .ok (.getfield 9, 3) := by decide +kernel
theorem dX10_measured_82 : decode cX10_measured 82 = .ok (.bipush 6, 2) := by decide +kernel
theorem dX10_measured_84 : decode cX10_measured 84 = .ok (.aload_n 1, 1) := by decide +kernel
theorem dX10_measured_85 : decode cX10_measured 85 = .ok (.getfield 51, 3) := by decide +kernel
theorem dX10_measured_88 : decode cX10_measured 88 = .ok (.i2l, 1) := by decide +kernel
theorem dX10_measured_89 : decode cX10_measured 89 = .ok (.lastore, 1) := by decide +kernel
theorem dX10_measured_90 : decode cX10_measured 90 = .ok (.aload_n 0, 1) := by decide +kernel
theorem dX10_measured_91 : decode cX10_measured 91 = .ok (.getfield 19, 3) := by decide +kernel
theorem dX10_measured_94 : decode cX10_measured 94 = .ok (.getfield 154, 3) := by decide +kernel
theorem dX10_measured_97 : decode cX10_measured 97 = .ok (.iconst 0, 1) := by decide +kernel
theorem dX10_measured_98 : decode cX10_measured 98 = .ok (.aload_n 0, 1) := by decide +kernel
theorem dX10_measured_99 : decode cX10_measured 99 = .ok (.getfield 9, 3) := by decide +kernel
theorem dX10_measured_102 : decode cX10_measured 102 = .ok (.invokevirtual 158, 3) := by decide +kernel
theorem dX10_measured_105 : decode cX10_measured 105 = .ok (.lstore 5, 2) := by decide +kernel
theorem dX10_measured_107 : decode cX10_measured 107 = .ok (.aload_n 0, 1) := by decide +kernel
theorem dX10_measured_108 : decode cX10_measured 108 = .ok (.lload 5, 2) := by decide +kernel
theorem dX10_measured_110 : decode cX10_measured 110 = .ok (.ldc2_w 164, 3) := by decide +kernel
theorem dX10_measured_113 : decode cX10_measured 113 = .ok (.lcmp, 1) := by decide +kernel
theorem dX10_measured_114 : decode cX10_measured 114 = .ok (.ifCond .ne 23, 3) := by decide +kernel
theorem dX10_measured_117 : decode cX10_measured 117 = .ok (.aload_n 0, 1) := by decide +kernel
theorem dX10_measured_118 : decode cX10_measured 118 = .ok (.getfield 19, 3) := by decide +kernel
theorem dX10_measured_121 : decode cX10_measured 121 = .ok (.getfield 148, 3) := by decide +kernel
theorem dX10_measured_124 : decode cX10_measured 124 = .ok (.iload_n 2, 1) := by decide +kernel
theorem dX10_measured_125 : decode cX10_measured 125 = .ok (.iaload, 1) := by decide +kernel
theorem dX10_measured_126 : decode cX10_measured 126 = .ok (.aload_n 1, 1) := by decide +kernel
theorem dX10_measured_127 : decode cX10_measured 127 = .ok (.getfield 92, 3) := by decide +kernel
theorem dX10_measured_130 : decode cX10_measured 130 = .ok (.imul, 1) := by decide +kernel
theorem dX10_measured_131 : decode cX10_measured 131 = .ok (.bipush 50, 2) := by decide +kernel
theorem dX10_measured_133 : decode cX10_measured 133 = .ok (.idiv, 1) := by decide +kernel
theorem dX10_measured_134 : decode cX10_measured 134 = .ok (.goto 12, 3) := by decide +kernel
theorem dX10_measured_137 : decode cX10_measured 137 = .ok (.lload 5, 2) := by decide +kernel
theorem dX10_measured_139 : decode cX10_measured 139 = .ok (.iconst 0, 1) := by decide +kernel
theorem dX10_measured_140 : decode cX10_measured 140 = .ok (.sipush 999, 3) := by decide +kernel
theorem dX10_measured_143 : decode cX10_measured 143 = .ok (.invokestatic 166, 3) := by decide +kernel
theorem dX10_measured_146 : decode cX10_measured 146 = .ok (.putfield 120, 3) := by decide +kernel
theorem dX10_measured_149 : decode cX10_measured 149 = .ok (.aload_n 1, 1) := by decide +kernel
theorem dX10_measured_150 : decode cX10_measured 150 = .ok (.getfield 96, 3) := by decide +kernel
theorem dX10_measured_153 : decode cX10_measured 153 = .ok (.iload_n 2, 1) := by decide +kernel
theorem dX10_measured_154 : decode cX10_measured 154 = .ok (.iaload, 1) := by decide +kernel
theorem dX10_measured_155 : decode cX10_measured 155 = .ok (.ifCond .ne 20, 3) := by decide +kernel
theorem dX10_measured_158 : decode cX10_measured 158 = .ok (.aload_n 0, 1) := by decide +kernel
theorem dX10_measured_159 : decode cX10_measured 159 = .ok (.getfield 36, 3) := by decide +kernel
theorem dX10_measured_162 : decode cX10_measured 162 = .ok (.ifCond .ne 13, 3) := by decide +kernel
theorem dX10_measured_165 : decode cX10_measured 165 = .ok (.aload_n 0, 1) := by decide +kernel
theorem dX10_measured_166 : decode cX10_measured 166 = .ok (.dup, 1) := by decide +kernel
theorem dX10_measured_167 : decode cX10_measured 167 = .ok (.getfield 120, 3) := by decide +kernel
theorem dX10_measured_170 : decode cX10_measured 170 = .ok (.iconst 2, 1) := by decide +kernel
theorem dX10_measured_171 : decode cX10_measured 171 = .ok (.idiv, 1) := by decide +kernel
theorem dX10_measured_172 : decode cX10_measured 172 = .ok (.putfield 120, 3) := by decide +kernel
theorem dX10_measured_175 : decode cX10_measured 175 = .ok (.aload_n 0, 1) := by decide +kernel
theorem dX10_measured_176 : decode cX10_measured 176 = .ok (.getfield 19, 3) := by decide +kernel
theorem dX10_measured_179 : decode cX10_measured 179 = .ok (.getfield 154, 3) := by decide +kernel
theorem dX10_measured_182 : decode cX10_measured 182 = .ok (.iconst 1, 1) := by decide +kernel
theorem dX10_measured_183 : decode cX10_measured 183 = .ok (.aload_n 0, 1) := by decide +kernel
theorem dX10_measured_184 : decode cX10_measured 184 = .ok (.getfield 9, 3) := by decide +kernel
theorem dX10_measured_187 : decode cX10_measured 187 = .ok (.invokevirtual 158, 3) := by decide +kernel
theorem dX10_measured_190 : decode cX10_measured 190 = .ok (.lstore 5, 2) := by decide +kernel
theorem dX10_measured_192 : decode cX10_measured 192 = .ok (.aload_n 0, 1) := by decide +kernel
theorem dX10_measured_193 : decode cX10_measured 193 = .ok (.lload 5, 2) := by decide +kernel
theorem dX10_measured_195 : decode cX10_measured 195 = .ok (.ldc2_w 164, 3) := by decide +kernel
theorem dX10_measured_198 : decode cX10_measured 198 = .ok (.lcmp, 1) := by decide +kernel
theorem dX10_measured_199 : decode cX10_measured 199 = .ok (.ifCond .ne 8, 3) := by decide +kernel
theorem dX10_measured_202 : decode cX10_measured 202 = .ok (.bipush 10, 2) := by decide +kernel
theorem dX10_measured_204 : decode cX10_measured 204 = .ok (.goto 11, 3) := by decide +kernel
theorem dX10_measured_207 : decode cX10_measured 207 = .ok (.lload 5, 2) := by decide +kernel
theorem dX10_measured_209 : decode cX10_measured 209 = .ok (.iconst 1, 1) := by decide +kernel
theorem dX10_measured_210 : decode cX10_measured 210 = .ok (.bipush 99, 2) := by decide +kernel
theorem dX10_measured_212 : decode cX10_measured 212 = .ok (.invokestatic 166, 3) := by decide +kernel
theorem dX10_measured_215 : decode cX10_measured 215 = .ok (.putfield 123, 3) := by decide +kernel
theorem dX10_measured_218 : decode cX10_measured 218 = .ok (.aload_n 0, 1) := by decide +kernel
theorem dX10_measured_219 : decode cX10_measured 219 = .ok (.getfield 120, 3) := by decide +kernel
theorem dX10_measured_222 : decode cX10_measured 222 = .ok (.iload 4, 2) := by decide +kernel
theorem dX10_measured_224 : decode cX10_measured 224 = .ok (.if_icmp .ge 5, 3) := by decide +kernel
theorem dX10_measured_227 : decode cX10_measured 227 = .ok (.iconst 0, 1) := by decide +kernel
theorem dX10_measured_228 : decode cX10_measured 228 = .ok (.ireturn, 1) := by decide +kernel
theorem dX10_measured_229 : decode cX10_measured 229 = .ok (.aload_n 0, 1) := by decide +kernel
theorem dX10_measured_230 : decode cX10_measured 230 = .ok (.getfield 120, 3) := by decide +kernel
theorem dX10_measured_233 : decode cX10_measured 233 = .ok (.iload 4, 2) := by decide +kernel
theorem dX10_measured_235 : decode cX10_measured 235 = .ok (.isub, 1) := by decide +kernel
theorem dX10_measured_236 : decode cX10_measured 236 = .ok (.istore 7, 2) := by decide +kernel
theorem dX10_measured_238 : decode cX10_measured 238 = .ok (.iload 7, 2) := by decide +kernel
theorem dX10_measured_240 : decode cX10_measured 240 = .ok (.aload_n 0, 1) := by decide +kernel
theorem dX10_measured_241 : decode cX10_measured 241 = .ok (.getfield 123, 3) := by decide +kernel
theorem dX10_measured_244 : decode cX10_measured 244 = .ok (.if_icmp .ge 7, 3) := by decide +kernel
theorem dX10_measured_247 : decode cX10_measured 247 = .ok (.iconst 1, 1) := by decide +kernel
theorem dX10_measured_248 : decode cX10_measured 248 = .ok (.goto 19, 3) := by decide +kernel
theorem dX10_measured_251 : decode cX10_measured 251 = .ok (.iload 7, 2) := by decide +kernel
theorem dX10_measured_253 : decode cX10_measured 253 = .ok (.iconst 2, 1) := by decide +kernel
theorem dX10_measured_254 : decode cX10_measured 254 = .ok (.aload_n 0, 1) := by decide +kernel
theorem dX10_measured_255 : decode cX10_measured 255 = .ok (.getfield 123, 3) := by decide +kernel
theorem dX10_measured_258 : decode cX10_measured 258 = .ok (.imul, 1) := by decide +kernel
theorem dX10_measured_259 : decode cX10_measured 259 = .ok (.if_icmp .ge 7, 3) := by decide +kernel
theorem dX10_measured_262 : decode cX10_measured 262 = .ok (.iconst 2, 1) := by decide +kernel
theorem dX10_measured_263 : decode cX10_measured 263 = .ok (.goto 4, 3) := by decide +kernel
theorem dX10_measured_266 : decode cX10_measured 266 = .ok (.iconst 3, 1) := by decide +kernel
theorem dX10_measured_267 : decode cX10_measured 267 = .ok (.ireturn, 1) := by decide +kernel
theorem dX10_wear_0 : decode cX10_wear 0 = .ok (.aload_n 0, 1) := by decide +kernel
theorem dX10_wear_1 : decode cX10_wear 1 = .ok (.getfield 32, 3) := by decide +kernel
theorem dX10_wear_4 : decode cX10_wear 4 = .ok (.ifCond .eq 4, 3) := by decide +kernel
theorem dX10_wear_7 : decode cX10_wear 7 = .ok (.return_, 1) := by decide +kernel
theorem dX10_wear_8 : decode cX10_wear 8 = .ok (.aload_n 0, 1) := by decide +kernel
theorem dX10_wear_9 : decode cX10_wear 9 = .ok (.getfield 9, 3) := by decide +kernel
theorem dX10_wear_12 : decode cX10_wear 12 = .ok (.iconst 5, 1) := by decide +kernel
theorem dX10_wear_13 : decode cX10_wear 13 = .ok (.aload_n 0, 1) := by decide +kernel
theorem dX10_wear_14 : decode cX10_wear 14 = .ok (.getfield 15, 3) := by decide +kernel
theorem dX10_wear_17 : decode cX10_wear 17 = .ok (.iload_n 2, 1) := by decide +kernel
theorem dX10_wear_18 : decode cX10_wear 18 = .ok (.iaload, 1) := by decide +kernel
theorem dX10_wear_19 : decode cX10_wear 19 = .ok (.i2l, 1) := by decide +kernel
theorem dX10_wear_20 : decode cX10_wear 20 = .ok (.lastore, 1) := by decide +kernel
theorem dX10_wear_21 : decode cX10_wear 21 = .ok (.aload_n 0, 1) := by decide +kernel
theorem dX10_wear_22 : decode cX10_wear 22 = .ok (.getfield 19, 3) := by decide +kernel
theorem dX10_wear_25 : decode cX10_wear 25 = .ok (.getfield 154, 3) := by decide +kernel
theorem dX10_wear_28 : decode cX10_wear 28 = .ok (.iconst 2, 1) := by decide +kernel
theorem dX10_wear_29 : decode cX10_wear 29 = .ok (.aload_n 0, 1) := by decide +kernel
theorem dX10_wear_30 : decode cX10_wear 30 = .ok (.getfield 9, 3) := by decide +kernel
theorem dX10_wear_33 : decode cX10_wear 33 = .ok (.invokevirtual 158, 3) := by decide +kernel
theorem dX10_wear_36 : decode cX10_wear 36 = .ok (.lstore_n 3, 1) := by decide +kernel
theorem dX10_wear_37 : decode cX10_wear 37 = .ok (.aload_n 1, 1) := by decide +kernel
theorem dX10_wear_38 : decode cX10_wear 38 = .ok (.dup, 1) := by decide +kernel
theorem dX10_wear_39 : decode cX10_wear 39 = .ok (.getfield 92, 3) := by decide +kernel
theorem dX10_wear_42 : decode cX10_wear 42 = .ok (.lload_n 3, 1) := by decide +kernel
theorem dX10_wear_43 : decode cX10_wear 43 = .ok (.ldc2_w 164, 3) := by decide +kernel
theorem dX10_wear_46 : decode cX10_wear 46 = .ok (.lcmp, 1) := by decide +kernel
theorem dX10_wear_47 : decode cX10_wear 47 = .ok (.ifCond .ne 7, 3) := by decide +kernel
theorem dX10_wear_50 : decode cX10_wear 50 = .ok (.iconst 1, 1) := by decide +kernel
theorem dX10_wear_51 : decode cX10_wear 51 = .ok (.goto 10, 3) := by decide +kernel
theorem dX10_wear_54 : decode cX10_wear 54 = .ok (.lload_n 3, 1) := by decide +kernel
theorem dX10_wear_55 : decode cX10_wear 55 = .ok (.iconst 0, 1) := by decide +kernel
theorem dX10_wear_56 : decode cX10_wear 56 = .ok (.bipush 9, 2) := by decide +kernel
theorem dX10_wear_58 : decode cX10_wear 58 = .ok (.invokestatic 166, 3) := by decide +kernel
theorem dX10_wear_61 : decode cX10_wear 61 = .ok (.isub, 1) := by decide +kernel
theorem dX10_wear_62 : decode cX10_wear 62 = .ok (.putfield 92, 3) := by decide +kernel
theorem dX10_wear_65 : decode cX10_wear 65 = .ok (.aload_n 1, 1) := by decide +kernel
theorem dX10_wear_66 : decode cX10_wear 66 = .ok (.getfield 92, 3) := by decide +kernel
theorem dX10_wear_69 : decode cX10_wear 69 = .ok (.iconst 1, 1) := by decide +kernel
theorem dX10_wear_70 : decode cX10_wear 70 = .ok (.if_icmp .ge 8, 3) := by decide +kernel
theorem dX10_wear_73 : decode cX10_wear 73 = .ok (.aload_n 1, 1) := by decide +kernel
theorem dX10_wear_74 : decode cX10_wear 74 = .ok (.iconst 1, 1) := by decide +kernel
theorem dX10_wear_75 : decode cX10_wear 75 = .ok (.putfield 92, 3) := by decide +kernel
theorem dX10_wear_78 : decode cX10_wear 78 = .ok (.return_, 1) := by decide +kernel
theorem dX10_within_0 : decode cX10_within 0 = .ok (.lload_n 0, 1) := by decide +kernel
theorem dX10_within_1 : decode cX10_within 1 = .ok (.iload_n 2, 1) := by decide +kernel
theorem dX10_within_2 : decode cX10_within 2 = .ok (.i2l, 1) := by decide +kernel
theorem dX10_within_3 : decode cX10_within 3 = .ok (.lcmp, 1) := by decide +kernel
theorem dX10_within_4 : decode cX10_within 4 = .ok (.ifCond .ge 7, 3) := by decide +kernel
theorem dX10_within_7 : decode cX10_within 7 = .ok (.iload_n 2, 1) := by decide +kernel
theorem dX10_within_8 : decode cX10_within 8 = .ok (.goto 16, 3) := by decide +kernel
theorem dX10_within_11 : decode cX10_within 11 = .ok (.lload_n 0, 1) := by decide +kernel
theorem dX10_within_12 : decode cX10_within 12 = .ok (.iload_n 3, 1) := by decide +kernel
theorem dX10_within_13 : decode cX10_within 13 = .ok (.i2l, 1) := by decide +kernel
theorem dX10_within_14 : decode cX10_within 14 = .ok (.lcmp, 1) := by decide +kernel
theorem dX10_within_15 : decode cX10_within 15 = .ok (.ifCond .le 7, 3) := by decide +kernel
theorem dX10_within_18 : decode cX10_within 18 = .ok (.iload_n 3, 1) := by decide +kernel
theorem dX10_within_19 : decode cX10_within 19 = .ok (.goto 5, 3) := by decide +kernel
theorem dX10_within_22 : decode cX10_within 22 = .ok (.lload_n 0, 1) := by decide +kernel
theorem dX10_within_23 : decode cX10_within 23 = .ok (.l2i, 1) := by decide +kernel
theorem dX10_within_24 : decode cX10_within 24 = .ok (.ireturn, 1) := by decide +kernel
theorem dX10_gainOf_0 : decode cX10_gainOf 0 = .ok (.aload_n 0, 1) := by decide +kernel
theorem dX10_gainOf_1 : decode cX10_gainOf 1 = .ok (.getfield 19, 3) := by decide +kernel
theorem dX10_gainOf_4 : decode cX10_gainOf 4 = .ok (.getfield 170, 3) := by decide +kernel
theorem dX10_gainOf_7 : decode cX10_gainOf 7 = .ok (.aload_n 0, 1) := by decide +kernel
theorem dX10_gainOf_8 : decode cX10_gainOf 8 = .ok (.getfield 19, 3) := by decide +kernel
theorem dX10_gainOf_11 : decode cX10_gainOf 11 = .ok (.getfield 110, 3) := by decide +kernel
theorem dX10_gainOf_14 : decode cX10_gainOf 14 = .ok (.iload_n 2, 1) := by decide +kernel
theorem dX10_gainOf_15 : decode cX10_gainOf 15 = .ok (.iaload, 1) := by decide +kernel
theorem dX10_gainOf_16 : decode cX10_gainOf 16 = .ok (.iaload, 1) := by decide +kernel
theorem dX10_gainOf_17 : decode cX10_gainOf 17 = .ok (.istore_n 3, 1) := by decide +kernel
theorem dX10_gainOf_18 : decode cX10_gainOf 18 = .ok (.aload_n 1, 1) := by decide +kernel
theorem dX10_gainOf_19 : decode cX10_gainOf 19 = .ok (.getfield 83, 3) := by decide +kernel
theorem dX10_gainOf_22 : decode cX10_gainOf 22 = .ok (.iload_n 2, 1) := by decide +kernel
theorem dX10_gainOf_23 : decode cX10_gainOf 23 = .ok (.iaload, 1) := by decide +kernel
theorem dX10_gainOf_24 : decode cX10_gainOf 24 = .ok (.istore 4, 2) := by decide +kernel
theorem dX10_gainOf_26 : decode cX10_gainOf 26 = .ok (.iload 4, 2) := by decide +kernel
theorem dX10_gainOf_28 : decode cX10_gainOf 28 = .ok (.iconst 1, 1) := by decide +kernel
theorem dX10_gainOf_29 : decode cX10_gainOf 29 = .ok (.if_icmp .ne 7, 3) := by decide +kernel
theorem dX10_gainOf_32 : decode cX10_gainOf 32 = .ok (.iload_n 3, 1) := by decide +kernel
theorem dX10_gainOf_33 : decode cX10_gainOf 33 = .ok (.goto 16, 3) := by decide +kernel
theorem dX10_gainOf_36 : decode cX10_gainOf 36 = .ok (.iload 4, 2) := by decide +kernel
theorem dX10_gainOf_38 : decode cX10_gainOf 38 = .ok (.iconst 2, 1) := by decide +kernel
theorem dX10_gainOf_39 : decode cX10_gainOf 39 = .ok (.if_icmp .ne 9, 3) := by decide +kernel
theorem dX10_gainOf_42 : decode cX10_gainOf 42 = .ok (.iload_n 3, 1) := by decide +kernel
theorem dX10_gainOf_43 : decode cX10_gainOf 43 = .ok (.iconst 2, 1) := by decide +kernel
theorem dX10_gainOf_44 : decode cX10_gainOf 44 = .ok (.idiv, 1) := by decide +kernel
theorem dX10_gainOf_45 : decode cX10_gainOf 45 = .ok (.goto 4, 3) := by decide +kernel
theorem dX10_gainOf_48 : decode cX10_gainOf 48 = .ok (.iconst 0, 1) := by decide +kernel
theorem dX10_gainOf_49 : decode cX10_gainOf 49 = .ok (.ireturn, 1) := by decide +kernel
theorem dX10_gained_0 : decode cX10_gained 0 = .ok (.iconst 0, 1) := by decide +kernel
theorem dX10_gained_1 : decode cX10_gained 1 = .ok (.istore_n 2, 1) := by decide +kernel
theorem dX10_gained_2 : decode cX10_gained 2 = .ok (.iconst 0, 1) := by decide +kernel
theorem dX10_gained_3 : decode cX10_gained 3 = .ok (.istore_n 3, 1) := by decide +kernel
theorem dX10_gained_4 : decode cX10_gained 4 = .ok (.iload_n 3, 1) := by decide +kernel
theorem dX10_gained_5 : decode cX10_gained 5 = .ok (.aload_n 0, 1) := by decide +kernel
theorem dX10_gained_6 : decode cX10_gained 6 = .ok (.getfield 19, 3) := by decide +kernel
theorem dX10_gained_9 : decode cX10_gained 9 = .ok (.getfield 64, 3) := by decide +kernel
theorem dX10_gained_12 : decode cX10_gained 12 = .ok (.getfield 68, 3) := by decide +kernel
theorem dX10_gained_15 : decode cX10_gained 15 = .ok (.if_icmp .ge 18, 3) := by decide +kernel
theorem dX10_gained_18 : decode cX10_gained 18 = .ok (.iload_n 2, 1) := by decide +kernel
theorem dX10_gained_19 : decode cX10_gained 19 = .ok (.aload_n 0, 1) := by decide +kernel
theorem dX10_gained_20 : decode cX10_gained 20 = .ok (.aload_n 1, 1) := by decide +kernel
theorem dX10_gained_21 : decode cX10_gained 21 = .ok (.iload_n 3, 1) := by decide +kernel
theorem dX10_gained_22 : decode cX10_gained 22 = .ok (.invokevirtual 173, 3) := by decide +kernel
theorem dX10_gained_25 : decode cX10_gained 25 = .ok (.iadd, 1) := by decide +kernel
theorem dX10_gained_26 : decode cX10_gained 26 = .ok (.istore_n 2, 1) := by decide +kernel
theorem dX10_gained_27 : decode cX10_gained 27 = .ok (.iinc 3 1, 3) := by decide +kernel
theorem dX10_gained_30 : decode cX10_gained 30 = .ok (.goto (-26), 3) := by decide +kernel
theorem dX10_gained_33 : decode cX10_gained 33 = .ok (.iload_n 2, 1) := by decide +kernel
theorem dX10_gained_34 : decode cX10_gained 34 = .ok (.ireturn, 1) := by decide +kernel
def wp_X10_gainOf (o1 : Nat) (x2 : Int32) (h : ck_H) (Q : Int32 → ck_H → Prop) : Prop := (vp_in x2 10 ∧ (vp_in (h.1 45 x2.toNatClampNeg) 6 ∧ (∀ v3, v3 = (h.1 40 (h.1 45 x2.toNatClampNeg).toNatClampNeg) → (vp_in x2 10 ∧ (∀ v5, v5 = (h.1 (o1 + 4) x2.toNatClampNeg) → ((¬ v5 = (1 : Int32) → ((¬ v5 = (2 : Int32) → Q (0 : Int32) h) ∧ (v5 = (2 : Int32) → Q (v3 / (2 : Int32)) h))) ∧ (v5 = (1 : Int32) → Q v3 h)))))))
set_option maxHeartbeats 4000000 in
set_option maxRecDepth 100000 in
theorem c_X10_gainOf {gr : Bool} {x2 : Int32} {h : ck_H} {Q : Int32 → ck_H → Prop} {o1 : Nat} (hc : (o1 = 7) ∨ (o1 = 17)) (hq : wp_X10_gainOf o1 x2 h Q) : ck_M yX10_gainOf cX10_gainOf 5 (some .int) 2 0 0 gr ck_shX h [.ref 74, .ref o1, .int x2] (ck_Qi ck_shX Q) := by
  rcases hc with rfl | rfl
  · refine ck_entry (lv := [(0, .ref 74), (1, .ref 7), (2, .int x2)]) false (own := RX10) rfl (fun q => by cases q) (by decide) (Nat.le_of_ble_eq_true rfl) rfl ?_
    refine ck_aload_n 0 dX10_gainOf_0 rfl rfl ?_
    refine ck_getR clX10 2 rfl rfl (by decide) fl_X10_19 dX10_gainOf_1 ?_
    refine ck_getRN clX7 5 rfl rfl (by decide) fl_X10_170 dX10_gainOf_4 ?_
    refine ck_aload_n 0 dX10_gainOf_7 rfl rfl ?_
    refine ck_getR clX10 2 rfl rfl (by decide) fl_X10_19 dX10_gainOf_8 ?_
    refine ck_getRN clX7 9 rfl rfl (by decide) fl_X10_110 dX10_gainOf_11 ?_
    refine ck_iload_n 2 dX10_gainOf_14 rfl rfl ?_
    obtain ⟨b8, hq⟩ := hq
    refine ck_iald rfl rfl b8 dX10_gainOf_15 ?_
    obtain ⟨b9, hq⟩ := hq
    refine ck_iald rfl rfl b9 dX10_gainOf_16 ?_
    refine ck_nmI (fun v10 ev10 => ?_)
    have hq := hq v10 ev10
    refine ck_istore_n (lv' := [(3, .int v10), (0, .ref 74), (1, .ref 7), (2, .int x2)]) dX10_gainOf_17 rfl (by decide) rfl ?_
    refine ck_aload_n 2 dX10_gainOf_18 rfl rfl ?_
    refine ck_getRN clX1 3 rfl rfl (by decide) fl_X10_83 dX10_gainOf_19 ?_
    refine ck_iload_n 3 dX10_gainOf_22 rfl rfl ?_
    obtain ⟨b11, hq⟩ := hq
    refine ck_iald rfl rfl b11 dX10_gainOf_23 ?_
    refine ck_nmI (fun v12 ev12 => ?_)
    have hq := hq v12 ev12
    refine ck_istore (lv' := [(4, .int v12), (3, .int v10), (0, .ref 74), (1, .ref 7), (2, .int x2)]) dX10_gainOf_24 (by decide) rfl ?_
    refine ck_iload 0 dX10_gainOf_26 rfl ?_
    refine ck_iconst (v := 1) dX10_gainOf_28 (by decide) ?_
    refine ck_icmp_ne (tgt := 36) dX10_gainOf_29 (by decide) (fun c13 => ?_) (fun c13 => ?_)
    · have hq := hq.1 c13
      refine ck_iload 0 dX10_gainOf_36 rfl ?_
      refine ck_iconst (v := 2) dX10_gainOf_38 (by decide) ?_
      refine ck_icmp_ne (tgt := 48) dX10_gainOf_39 (by decide) (fun c14 => ?_) (fun c14 => ?_)
      · have hq := hq.1 c14
        refine ck_iconst (v := 0) dX10_gainOf_48 (by decide) ?_
        exact ck_iret rfl rfl rfl rfl dX10_gainOf_49 ⟨_, rfl, rfl, hq⟩
      · have hq := hq.2 c14
        refine ck_iload_n 1 dX10_gainOf_42 rfl rfl ?_
        refine ck_iconst (v := 2) dX10_gainOf_43 (by decide) ?_
        refine ck_idiv dX10_gainOf_44 (by decide) ?_
        refine ck_goto (tgt := 49) dX10_gainOf_45 (by decide) ?_
        exact ck_iret rfl rfl rfl rfl dX10_gainOf_49 ⟨_, rfl, rfl, hq⟩
    · have hq := hq.2 c13
      refine ck_iload_n 1 dX10_gainOf_32 rfl rfl ?_
      refine ck_goto (tgt := 49) dX10_gainOf_33 (by decide) ?_
      exact ck_iret rfl rfl rfl rfl dX10_gainOf_49 ⟨_, rfl, rfl, hq⟩
  · refine ck_entry (lv := [(0, .ref 74), (1, .ref 17), (2, .int x2)]) false (own := RX10) rfl (fun q => by cases q) (by decide) (Nat.le_of_ble_eq_true rfl) rfl ?_
    refine ck_aload_n 0 dX10_gainOf_0 rfl rfl ?_
    refine ck_getR clX10 2 rfl rfl (by decide) fl_X10_19 dX10_gainOf_1 ?_
    refine ck_getRN clX7 5 rfl rfl (by decide) fl_X10_170 dX10_gainOf_4 ?_
    refine ck_aload_n 0 dX10_gainOf_7 rfl rfl ?_
    refine ck_getR clX10 2 rfl rfl (by decide) fl_X10_19 dX10_gainOf_8 ?_
    refine ck_getRN clX7 9 rfl rfl (by decide) fl_X10_110 dX10_gainOf_11 ?_
    refine ck_iload_n 2 dX10_gainOf_14 rfl rfl ?_
    obtain ⟨b15, hq⟩ := hq
    refine ck_iald rfl rfl b15 dX10_gainOf_15 ?_
    obtain ⟨b16, hq⟩ := hq
    refine ck_iald rfl rfl b16 dX10_gainOf_16 ?_
    refine ck_nmI (fun v17 ev17 => ?_)
    have hq := hq v17 ev17
    refine ck_istore_n (lv' := [(3, .int v17), (0, .ref 74), (1, .ref 17), (2, .int x2)]) dX10_gainOf_17 rfl (by decide) rfl ?_
    refine ck_aload_n 2 dX10_gainOf_18 rfl rfl ?_
    refine ck_getRN clX1 3 rfl rfl (by decide) fl_X10_83 dX10_gainOf_19 ?_
    refine ck_iload_n 3 dX10_gainOf_22 rfl rfl ?_
    obtain ⟨b18, hq⟩ := hq
    refine ck_iald rfl rfl b18 dX10_gainOf_23 ?_
    refine ck_nmI (fun v19 ev19 => ?_)
    have hq := hq v19 ev19
    refine ck_istore (lv' := [(4, .int v19), (3, .int v17), (0, .ref 74), (1, .ref 17), (2, .int x2)]) dX10_gainOf_24 (by decide) rfl ?_
    refine ck_iload 0 dX10_gainOf_26 rfl ?_
    refine ck_iconst (v := 1) dX10_gainOf_28 (by decide) ?_
    refine ck_icmp_ne (tgt := 36) dX10_gainOf_29 (by decide) (fun c20 => ?_) (fun c20 => ?_)
    · have hq := hq.1 c20
      refine ck_iload 0 dX10_gainOf_36 rfl ?_
      refine ck_iconst (v := 2) dX10_gainOf_38 (by decide) ?_
      refine ck_icmp_ne (tgt := 48) dX10_gainOf_39 (by decide) (fun c21 => ?_) (fun c21 => ?_)
      · have hq := hq.1 c21
        refine ck_iconst (v := 0) dX10_gainOf_48 (by decide) ?_
        exact ck_iret rfl rfl rfl rfl dX10_gainOf_49 ⟨_, rfl, rfl, hq⟩
      · have hq := hq.2 c21
        refine ck_iload_n 1 dX10_gainOf_42 rfl rfl ?_
        refine ck_iconst (v := 2) dX10_gainOf_43 (by decide) ?_
        refine ck_idiv dX10_gainOf_44 (by decide) ?_
        refine ck_goto (tgt := 49) dX10_gainOf_45 (by decide) ?_
        exact ck_iret rfl rfl rfl rfl dX10_gainOf_49 ⟨_, rfl, rfl, hq⟩
    · have hq := hq.2 c20
      refine ck_iload_n 1 dX10_gainOf_32 rfl rfl ?_
      refine ck_goto (tgt := 49) dX10_gainOf_33 (by decide) ?_
      exact ck_iret rfl rfl rfl rfl dX10_gainOf_49 ⟨_, rfl, rfl, hq⟩
def wp_X10_clearLoad_2 (Q : ck_H → Prop) : Nat → Int32 → ck_H → Prop
  | 0 => fun _ _ => False
  | n + 1 => fun x1 h => (((4 : Int32) ≤ x1 → Q h) ∧ (¬ (4 : Int32) ≤ x1 → (vp_in x1 4 ∧ (∀ h3, h3 = ck_sI h 76 x1.toNatClampNeg (0 : Int32) → (∀ v4, v4 = x1 + 1 → (wp_X10_clearLoad_2 Q n) v4 h3)))))
def wp_X10_clearLoad (h : ck_H) (Q : ck_H → Prop) : Prop := wp_X10_clearLoad_2 Q lpN (0 : Int32) h
set_option maxHeartbeats 4000000 in
set_option maxRecDepth 100000 in
theorem cp_X10_clearLoad_2 {gr : Bool} {Q : ck_H → Prop} : ∀ (n : Nat) (x1 : Int32) (h : ck_H), wp_X10_clearLoad_2 Q n x1 h → ck_W cX10_clearLoad 2 RX10 none 2 0 0 false gr (ck_Qv ck_shX Q) ck_shX h 0 0 2 [(0, .ref 74), (1, .int x1)] [] := by
  intro n
  induction n with
  | zero => intro x1 h hq; exact hq.elim
  | succ n hKc =>
    intro x1 h hq
    refine ck_iload_n 1 dX10_clearLoad_2 rfl rfl ?_
    refine ck_iconst (v := 4) dX10_clearLoad_3 (by decide) ?_
    refine ck_icmp_ge (tgt := 20) dX10_clearLoad_4 (by decide) (fun c1 => ?_) (fun c1 => ?_)
    · have hq := hq.1 c1
      exact ck_vret rfl rfl rfl dX10_clearLoad_20 ⟨rfl, rfl, hq⟩
    · have hq := hq.2 c1
      refine ck_aload_n 0 dX10_clearLoad_7 rfl rfl ?_
      refine ck_getR clX10 1 rfl rfl (by decide) fl_X10_15 dX10_clearLoad_8 ?_
      refine ck_iload_n 1 dX10_clearLoad_11 rfl rfl ?_
      refine ck_iconst (v := 0) dX10_clearLoad_12 (by decide) ?_
      obtain ⟨b2, hq⟩ := hq
      refine ck_iast rfl rfl b2 dX10_clearLoad_13 ?_
      refine ck_nmH (fun h3 eh3 => ?_)
      have hq := hq h3 eh3
      obtain ⟨v4, ev4⟩ : ∃ z : Int32, z = x1 + 1 := ⟨_, rfl⟩
      have hq := hq v4 ev4
      refine ck_iinc (v := v4) (lv' := [(1, .int v4), (0, .ref 74)]) 1 dX10_clearLoad_14 rfl (by rw [ev4]; rfl) (by decide) rfl ?_
      refine ck_goto (tgt := 2) dX10_clearLoad_17 (by decide) ?_
      refine ck_loc [1, 0] rfl ?_
      exact hKc _ _ hq
set_option maxHeartbeats 4000000 in
set_option maxRecDepth 100000 in
theorem c_X10_clearLoad {gr : Bool} {h : ck_H} {Q : ck_H → Prop} (hq : wp_X10_clearLoad h Q) : ck_M yX10_clearLoad cX10_clearLoad 2 none 2 0 0 gr ck_shX h [.ref 74] (ck_Qv ck_shX Q) := by
  refine ck_entry (lv := [(0, .ref 74)]) false (own := RX10) rfl (fun q => by cases q) (by decide) (Nat.le_of_ble_eq_true rfl) rfl ?_
  refine ck_iconst (v := 0) dX10_clearLoad_0 (by decide) ?_
  refine ck_istore_n (lv' := [(1, .int (0 : Int32)), (0, .ref 74)]) dX10_clearLoad_1 rfl (by decide) rfl ?_
  refine ck_loc [1, 0] rfl ?_
  refine cp_X10_clearLoad_2 lpN _ _ hq
def wp_X10_asTheyAre (h : ck_H) (Q : ck_H → Prop) : Prop := (∀ h1, h1 = ck_sI h 74 5 (h.1 32 12) → (∀ h2, h2 = ck_sI h1 74 6 (0 : Int32) → (∀ h3, h3 = ck_sI h2 74 7 (0 : Int32) → (∀ h4, h4 = ck_sI h3 74 8 (0 : Int32) → (∀ h5, h5 = ck_sI h4 74 9 (-1 : Int32) → (∀ h6, h6 = ck_sI h5 74 10 (0 : Int32) → (wp_X10_clearLoad h6 (fun h7 => Q h7))))))))
set_option maxHeartbeats 4000000 in
set_option maxRecDepth 100000 in
theorem c_X10_asTheyAre {gr : Bool} {h : ck_H} {Q : ck_H → Prop} (hq : wp_X10_asTheyAre h Q) : ck_M yX10_asTheyAre cX10_asTheyAre 1 none 3 0 0 gr ck_shX h [.ref 74] (ck_Qv ck_shX Q) := by
  refine ck_entry (lv := [(0, .ref 74)]) false (own := RX10) rfl (fun q => by cases q) (by decide) (Nat.le_of_ble_eq_true rfl) rfl ?_
  refine ck_aload_n 0 dX10_asTheyAre_0 rfl rfl ?_
  refine ck_aload_n 0 dX10_asTheyAre_1 rfl rfl ?_
  refine ck_getR clX10 2 rfl rfl (by decide) fl_X10_19 dX10_asTheyAre_2 ?_
  refine ck_getIN clX7 12 rfl rfl (by decide) fl_X10_23 dX10_asTheyAre_5 ?_
  refine ck_putI clX10 5 rfl rfl (by decide) fl_X10_29 rfl rfl rfl dX10_asTheyAre_8 ?_
  refine ck_nmH (fun h1 eh1 => ?_)
  have hq := hq h1 eh1
  refine ck_aload_n 0 dX10_asTheyAre_11 rfl rfl ?_
  refine ck_iconst (v := 0) dX10_asTheyAre_12 (by decide) ?_
  refine ck_putI clX10 6 rfl rfl (by decide) fl_X10_32 rfl (by decide) (by decide) dX10_asTheyAre_13 ?_
  refine ck_nmH (fun h2 eh2 => ?_)
  have hq := hq h2 eh2
  refine ck_aload_n 0 dX10_asTheyAre_16 rfl rfl ?_
  refine ck_iconst (v := 0) dX10_asTheyAre_17 (by decide) ?_
  refine ck_putI clX10 7 rfl rfl (by decide) fl_X10_36 rfl (by decide) (by decide) dX10_asTheyAre_18 ?_
  refine ck_nmH (fun h3 eh3 => ?_)
  have hq := hq h3 eh3
  refine ck_aload_n 0 dX10_asTheyAre_21 rfl rfl ?_
  refine ck_iconst (v := 0) dX10_asTheyAre_22 (by decide) ?_
  refine ck_putI clX10 8 rfl rfl (by decide) fl_X10_39 rfl (by decide) (by decide) dX10_asTheyAre_23 ?_
  refine ck_nmH (fun h4 eh4 => ?_)
  have hq := hq h4 eh4
  refine ck_aload_n 0 dX10_asTheyAre_26 rfl rfl ?_
  refine ck_iconst (v := -1) dX10_asTheyAre_27 (by decide) ?_
  refine ck_putI clX10 9 rfl rfl (by decide) fl_X10_42 rfl rfl rfl dX10_asTheyAre_28 ?_
  refine ck_nmH (fun h5 eh5 => ?_)
  have hq := hq h5 eh5
  refine ck_aload_n 0 dX10_asTheyAre_31 rfl rfl ?_
  refine ck_iconst (v := 0) dX10_asTheyAre_32 (by decide) ?_
  refine ck_putI clX10 10 rfl rfl (by decide) fl_X10_45 rfl (by decide) (by decide) dX10_asTheyAre_33 ?_
  refine ck_nmH (fun h6 eh6 => ?_)
  have hq := hq h6 eh6
  refine ck_aload_n 0 dX10_asTheyAre_36 rfl rfl ?_
  refine ck_callV (c_X10_clearLoad hq) rfl cal_X10_clearLoad rfl ml_X10_48 vir_X10_clearLoad rfl rfl (by decide) (Nat.le_of_ble_eq_true rfl) (Nat.le_of_ble_eq_true rfl) (by decide) (by decide) dX10_asTheyAre_37 ?_
  rintro _ _ h7 ⟨rfl, rfl, hq⟩
  exact ck_vret rfl rfl rfl dX10_asTheyAre_40 ⟨rfl, rfl, hq⟩
def wp_X10_within (x0 : Int64) (x2 : Int32) (x3 : Int32) (h : ck_H) (Q : Int32 → ck_H → Prop) : Prop := ((0 ≤ (lg_cmp x0 x2.toInt64) → (((lg_cmp x0 x3.toInt64) ≤ 0 → Q x0.toInt32 h) ∧ (¬ (lg_cmp x0 x3.toInt64) ≤ 0 → Q x3 h))) ∧ (¬ 0 ≤ (lg_cmp x0 x2.toInt64) → Q x2 h))
set_option maxHeartbeats 4000000 in
set_option maxRecDepth 100000 in
theorem c_X10_within {gr : Bool} {x0 : Int64} {x2 : Int32} {x3 : Int32} {h : ck_H} {Q : Int32 → ck_H → Prop} (hq : wp_X10_within x0 x2 x3 h Q) : ck_M yX10_within cX10_within 4 (some .int) 2 0 0 gr ck_shX h [.long x0, .int x2, .int x3] (ck_Qi ck_shX Q) := by
  refine ck_entry (lv := [(0, .long x0), (2, .int x2), (3, .int x3)]) false (own := RX10) rfl (fun q => by cases q) (by decide) (Nat.le_of_ble_eq_true rfl) rfl ?_
  refine ck_lload_n 0 dX10_within_0 rfl rfl ?_
  refine ck_iload_n 1 dX10_within_1 rfl rfl ?_
  refine ck_i2l dX10_within_2 ?_
  refine ck_lcmp dX10_within_3 ?_
  refine ck_if_ge (tgt := 11) dX10_within_4 (by decide) (fun c1 => ?_) (fun c1 => ?_)
  · have hq := hq.1 c1
    refine ck_lload_n 0 dX10_within_11 rfl rfl ?_
    refine ck_iload_n 2 dX10_within_12 rfl rfl ?_
    refine ck_i2l dX10_within_13 ?_
    refine ck_lcmp dX10_within_14 ?_
    refine ck_if_le (tgt := 22) dX10_within_15 (by decide) (fun c2 => ?_) (fun c2 => ?_)
    · have hq := hq.1 c2
      refine ck_lload_n 0 dX10_within_22 rfl rfl ?_
      refine ck_l2i dX10_within_23 ?_
      exact ck_iret rfl rfl rfl rfl dX10_within_24 ⟨_, rfl, rfl, hq⟩
    · have hq := hq.2 c2
      refine ck_iload_n 2 dX10_within_18 rfl rfl ?_
      refine ck_goto (tgt := 24) dX10_within_19 (by decide) ?_
      exact ck_iret rfl rfl rfl rfl dX10_within_24 ⟨_, rfl, rfl, hq⟩
  · have hq := hq.2 c1
    refine ck_iload_n 1 dX10_within_7 rfl rfl ?_
    refine ck_goto (tgt := 24) dX10_within_8 (by decide) ?_
    exact ck_iret rfl rfl rfl rfl dX10_within_24 ⟨_, rfl, rfl, hq⟩
def wp_X10_measured_215 (Q : Int32 → ck_H → Prop) (o1 : Nat) (x4 : Int32) (y1 : Int32) (h : ck_H) : Prop := (∀ h25, h25 = ck_sI h 74 4 y1 → ((x4 ≤ (h25.1 74 3) → (∀ v27, v27 = ((h25.1 74 3) - x4) → (((h25.1 74 4) ≤ v27 → ((((2 : Int32) * (h25.1 74 4)) ≤ v27 → Q (3 : Int32) h25) ∧ (¬ ((2 : Int32) * (h25.1 74 4)) ≤ v27 → Q (2 : Int32) h25))) ∧ (¬ (h25.1 74 4) ≤ v27 → Q (1 : Int32) h25)))) ∧ (¬ x4 ≤ (h25.1 74 3) → Q (0 : Int32) h25)))
def wp_X10_measured_175 (Q : Int32 → ck_H → Prop) (o1 : Nat) (x4 : Int32) (h : ck_H) : Prop := (wp_X4_worked (1 : Int32) h (fun r21 h20 => ((¬ (lg_cmp r21 (-9223372036854775808 : Int64)) = 0 → (wp_X10_within r21 (1 : Int32) (99 : Int32) h20 (fun r24 h23 => wp_X10_measured_215 Q o1 x4 r24 h23))) ∧ ((lg_cmp r21 (-9223372036854775808 : Int64)) = 0 → wp_X10_measured_215 Q o1 x4 (10 : Int32) h20))))
def wp_X10_measured_146 (Q : Int32 → ck_H → Prop) (o1 : Nat) (x2 : Int32) (x4 : Int32) (y1 : Int32) (h : ck_H) : Prop := (∀ h17, h17 = ck_sI h 74 3 y1 → (vp_in x2 4 ∧ ((¬ (h17.1 (o1 + 1) x2.toNatClampNeg) = 0 → wp_X10_measured_175 Q o1 x4 h17) ∧ ((h17.1 (o1 + 1) x2.toNatClampNeg) = 0 → ((¬ (h17.1 74 7) = 0 → wp_X10_measured_175 Q o1 x4 h17) ∧ ((h17.1 74 7) = 0 → (∀ h51, h51 = ck_sI h17 74 3 ((h17.1 74 3) / (2 : Int32)) → wp_X10_measured_175 Q o1 x4 h51)))))))
def wp_X10_measured (o1 : Nat) (x2 : Int32) (x3 : Int32) (x4 : Int32) (h : ck_H) (Q : Int32 → ck_H → Prop) : Prop := (vp_in x2 4 ∧ (∀ h2, h2 = ck_sL h 75 0 (h.1 35 x2.toNatClampNeg).toInt64 → (vp_in x2 4 ∧ (∀ h4, h4 = ck_sL h2 75 1 (h2.1 (o1 + 1) x2.toNatClampNeg).toInt64 → (∀ h5, h5 = ck_sL h4 75 2 x4.toInt64 → (vp_in x3 6 ∧ (∀ h7, h7 = ck_sL h5 75 3 (h5.1 41 x3.toNatClampNeg).toInt64 → (∀ h8, h8 = ck_sL h7 75 4 (h7.1 o1 6).toInt64 → (vp_in x2 4 ∧ (∀ h10, h10 = ck_sL h8 75 5 (h8.1 76 x2.toNatClampNeg).toInt64 → (∀ h11, h11 = ck_sL h10 75 6 (h10.1 o1 5).toInt64 → (wp_X4_worked (0 : Int32) h11 (fun r13 h12 => ((¬ (lg_cmp r13 (-9223372036854775808 : Int64)) = 0 → (wp_X10_within r13 (0 : Int32) (999 : Int32) h12 (fun r16 h15 => wp_X10_measured_146 Q o1 x2 x4 r16 h15))) ∧ ((lg_cmp r13 (-9223372036854775808 : Int64)) = 0 → (vp_in x2 4 ∧ wp_X10_measured_146 Q o1 x2 x4 (((h12.1 35 x2.toNatClampNeg) * (h12.1 o1 6)) / (50 : Int32)) h12))))))))))))))))
set_option maxHeartbeats 4000000 in
set_option maxRecDepth 100000 in
theorem cp_X10_measured_215 {gr : Bool} {Q : Int32 → ck_H → Prop} {o1 : Nat} (hc : (o1 = 7) ∨ (o1 = 17)) : ∀ (x4 : Int32) (y1 : Int32) (h : ck_H), wp_X10_measured_215 Q o1 x4 y1 h → ck_W cX10_measured 8 RX10 (some .int) 5 0 0 false gr (ck_Qi ck_shX Q) ck_shX h 0 0 215 [(0, .ref 74), (4, .int x4)] [.int y1, .ref 74] := by
  rcases hc with rfl | rfl
  · intro x4 y1 h hq
    refine ck_putI clX10 4 rfl rfl (by decide) fl_X10_123 rfl rfl rfl dX10_measured_215 ?_
    refine ck_nmH (fun h30 eh30 => ?_)
    have hq := hq h30 eh30
    refine ck_aload_n 0 dX10_measured_218 rfl rfl ?_
    refine ck_getI clX10 3 rfl rfl (by decide) fl_X10_120 dX10_measured_219 ?_
    refine ck_iload 1 dX10_measured_222 rfl ?_
    refine ck_icmp_ge (tgt := 229) dX10_measured_224 (by decide) (fun c31 => ?_) (fun c31 => ?_)
    · have hq := hq.1 c31
      refine ck_aload_n 0 dX10_measured_229 rfl rfl ?_
      refine ck_getI clX10 3 rfl rfl (by decide) fl_X10_120 dX10_measured_230 ?_
      refine ck_iload 1 dX10_measured_233 rfl ?_
      refine ck_isub dX10_measured_235 ?_
      refine ck_nmI (fun v32 ev32 => ?_)
      have hq := hq v32 ev32
      refine ck_istore (lv' := [(7, .int v32), (0, .ref 74), (4, .int x4)]) dX10_measured_236 (by decide) rfl ?_
      refine ck_iload 0 dX10_measured_238 rfl ?_
      refine ck_aload_n 1 dX10_measured_240 rfl rfl ?_
      refine ck_getI clX10 4 rfl rfl (by decide) fl_X10_123 dX10_measured_241 ?_
      refine ck_icmp_ge (tgt := 251) dX10_measured_244 (by decide) (fun c33 => ?_) (fun c33 => ?_)
      · have hq := hq.1 c33
        refine ck_iload 0 dX10_measured_251 rfl ?_
        refine ck_iconst (v := 2) dX10_measured_253 (by decide) ?_
        refine ck_aload_n 1 dX10_measured_254 rfl rfl ?_
        refine ck_getI clX10 4 rfl rfl (by decide) fl_X10_123 dX10_measured_255 ?_
        refine ck_imul dX10_measured_258 ?_
        refine ck_icmp_ge (tgt := 266) dX10_measured_259 (by decide) (fun c34 => ?_) (fun c34 => ?_)
        · have hq := hq.1 c34
          refine ck_iconst (v := 3) dX10_measured_266 (by decide) ?_
          exact ck_iret rfl rfl rfl rfl dX10_measured_267 ⟨_, rfl, rfl, hq⟩
        · have hq := hq.2 c34
          refine ck_iconst (v := 2) dX10_measured_262 (by decide) ?_
          refine ck_goto (tgt := 267) dX10_measured_263 (by decide) ?_
          exact ck_iret rfl rfl rfl rfl dX10_measured_267 ⟨_, rfl, rfl, hq⟩
      · have hq := hq.2 c33
        refine ck_iconst (v := 1) dX10_measured_247 (by decide) ?_
        refine ck_goto (tgt := 267) dX10_measured_248 (by decide) ?_
        exact ck_iret rfl rfl rfl rfl dX10_measured_267 ⟨_, rfl, rfl, hq⟩
    · have hq := hq.2 c31
      refine ck_iconst (v := 0) dX10_measured_227 (by decide) ?_
      exact ck_iret rfl rfl rfl rfl dX10_measured_228 ⟨_, rfl, rfl, hq⟩
  · intro x4 y1 h hq
    refine ck_putI clX10 4 rfl rfl (by decide) fl_X10_123 rfl rfl rfl dX10_measured_215 ?_
    refine ck_nmH (fun h35 eh35 => ?_)
    have hq := hq h35 eh35
    refine ck_aload_n 0 dX10_measured_218 rfl rfl ?_
    refine ck_getI clX10 3 rfl rfl (by decide) fl_X10_120 dX10_measured_219 ?_
    refine ck_iload 1 dX10_measured_222 rfl ?_
    refine ck_icmp_ge (tgt := 229) dX10_measured_224 (by decide) (fun c36 => ?_) (fun c36 => ?_)
    · have hq := hq.1 c36
      refine ck_aload_n 0 dX10_measured_229 rfl rfl ?_
      refine ck_getI clX10 3 rfl rfl (by decide) fl_X10_120 dX10_measured_230 ?_
      refine ck_iload 1 dX10_measured_233 rfl ?_
      refine ck_isub dX10_measured_235 ?_
      refine ck_nmI (fun v37 ev37 => ?_)
      have hq := hq v37 ev37
      refine ck_istore (lv' := [(7, .int v37), (0, .ref 74), (4, .int x4)]) dX10_measured_236 (by decide) rfl ?_
      refine ck_iload 0 dX10_measured_238 rfl ?_
      refine ck_aload_n 1 dX10_measured_240 rfl rfl ?_
      refine ck_getI clX10 4 rfl rfl (by decide) fl_X10_123 dX10_measured_241 ?_
      refine ck_icmp_ge (tgt := 251) dX10_measured_244 (by decide) (fun c38 => ?_) (fun c38 => ?_)
      · have hq := hq.1 c38
        refine ck_iload 0 dX10_measured_251 rfl ?_
        refine ck_iconst (v := 2) dX10_measured_253 (by decide) ?_
        refine ck_aload_n 1 dX10_measured_254 rfl rfl ?_
        refine ck_getI clX10 4 rfl rfl (by decide) fl_X10_123 dX10_measured_255 ?_
        refine ck_imul dX10_measured_258 ?_
        refine ck_icmp_ge (tgt := 266) dX10_measured_259 (by decide) (fun c39 => ?_) (fun c39 => ?_)
        · have hq := hq.1 c39
          refine ck_iconst (v := 3) dX10_measured_266 (by decide) ?_
          exact ck_iret rfl rfl rfl rfl dX10_measured_267 ⟨_, rfl, rfl, hq⟩
        · have hq := hq.2 c39
          refine ck_iconst (v := 2) dX10_measured_262 (by decide) ?_
          refine ck_goto (tgt := 267) dX10_measured_263 (by decide) ?_
          exact ck_iret rfl rfl rfl rfl dX10_measured_267 ⟨_, rfl, rfl, hq⟩
      · have hq := hq.2 c38
        refine ck_iconst (v := 1) dX10_measured_247 (by decide) ?_
        refine ck_goto (tgt := 267) dX10_measured_248 (by decide) ?_
        exact ck_iret rfl rfl rfl rfl dX10_measured_267 ⟨_, rfl, rfl, hq⟩
    · have hq := hq.2 c36
      refine ck_iconst (v := 0) dX10_measured_227 (by decide) ?_
      exact ck_iret rfl rfl rfl rfl dX10_measured_228 ⟨_, rfl, rfl, hq⟩
set_option maxHeartbeats 4000000 in
set_option maxRecDepth 100000 in
theorem cp_X10_measured_175 {gr : Bool} {Q : Int32 → ck_H → Prop} {o1 : Nat} (hc : (o1 = 7) ∨ (o1 = 17)) : ∀ (x4 : Int32) (h : ck_H), wp_X10_measured_175 Q o1 x4 h → ck_W cX10_measured 8 RX10 (some .int) 5 0 0 false gr (ck_Qi ck_shX Q) ck_shX h 0 0 175 [(0, .ref 74), (4, .int x4)] [] := by
  rcases hc with rfl | rfl
  · intro x4 h hq
    refine ck_aload_n 0 dX10_measured_175 rfl rfl ?_
    refine ck_getR clX10 2 rfl rfl (by decide) fl_X10_19 dX10_measured_176 ?_
    refine ck_getRN clX7 11 rfl rfl (by decide) fl_X10_154 dX10_measured_179 ?_
    refine ck_iconst (v := 1) dX10_measured_182 (by decide) ?_
    refine ck_aload_n 0 dX10_measured_183 rfl rfl ?_
    refine ck_getR clX10 0 rfl rfl (by decide) fl_X10_9 dX10_measured_184 ?_
    refine ck_callV (c_X4_worked hq) rfl cal_X4_worked rfl ml_X10_158 vir_X4_worked rfl rfl (by decide) (Nat.le_of_ble_eq_true rfl) (Nat.le_of_ble_eq_true rfl) (by decide) (by decide) dX10_measured_187 ?_
    rintro _ _ h40 ⟨r41, rfl, rfl, hq⟩
    refine ck_lstore (lv' := [(5, .long r41), (0, .ref 74), (4, .int x4)]) dX10_measured_190 (by decide) rfl ?_
    refine ck_aload_n 1 dX10_measured_192 rfl rfl ?_
    refine ck_lload 0 dX10_measured_193 rfl ?_
    refine ck_ldc2 con_X10_164 dX10_measured_195 ?_
    refine ck_lcmp dX10_measured_198 ?_
    refine ck_if_ne (tgt := 207) dX10_measured_199 (by decide) (fun c42 => ?_) (fun c42 => ?_)
    · have hq := hq.1 c42
      refine ck_lload 0 dX10_measured_207 rfl ?_
      refine ck_iconst (v := 1) dX10_measured_209 (by decide) ?_
      refine ck_bipush (v := 99) dX10_measured_210 (by decide) ?_
      refine ck_callS (c_X10_within hq) rfl cal_X10_within rfl ml_X10_166 sta_X10_within (by decide) (Nat.le_of_ble_eq_true rfl) (Nat.le_of_ble_eq_true rfl) (by decide) (by decide) dX10_measured_212 ?_
      rintro _ _ h43 ⟨r44, rfl, rfl, hq⟩
      refine ck_loc [1, 2] rfl ?_
      exact cp_X10_measured_215 (by simp) _ _ _ hq
    · have hq := hq.2 c42
      refine ck_bipush (v := 10) dX10_measured_202 (by decide) ?_
      refine ck_goto (tgt := 215) dX10_measured_204 (by decide) ?_
      refine ck_loc [1, 2] rfl ?_
      exact cp_X10_measured_215 (by simp) _ _ _ hq
  · intro x4 h hq
    refine ck_aload_n 0 dX10_measured_175 rfl rfl ?_
    refine ck_getR clX10 2 rfl rfl (by decide) fl_X10_19 dX10_measured_176 ?_
    refine ck_getRN clX7 11 rfl rfl (by decide) fl_X10_154 dX10_measured_179 ?_
    refine ck_iconst (v := 1) dX10_measured_182 (by decide) ?_
    refine ck_aload_n 0 dX10_measured_183 rfl rfl ?_
    refine ck_getR clX10 0 rfl rfl (by decide) fl_X10_9 dX10_measured_184 ?_
    refine ck_callV (c_X4_worked hq) rfl cal_X4_worked rfl ml_X10_158 vir_X4_worked rfl rfl (by decide) (Nat.le_of_ble_eq_true rfl) (Nat.le_of_ble_eq_true rfl) (by decide) (by decide) dX10_measured_187 ?_
    rintro _ _ h45 ⟨r46, rfl, rfl, hq⟩
    refine ck_lstore (lv' := [(5, .long r46), (0, .ref 74), (4, .int x4)]) dX10_measured_190 (by decide) rfl ?_
    refine ck_aload_n 1 dX10_measured_192 rfl rfl ?_
    refine ck_lload 0 dX10_measured_193 rfl ?_
    refine ck_ldc2 con_X10_164 dX10_measured_195 ?_
    refine ck_lcmp dX10_measured_198 ?_
    refine ck_if_ne (tgt := 207) dX10_measured_199 (by decide) (fun c47 => ?_) (fun c47 => ?_)
    · have hq := hq.1 c47
      refine ck_lload 0 dX10_measured_207 rfl ?_
      refine ck_iconst (v := 1) dX10_measured_209 (by decide) ?_
      refine ck_bipush (v := 99) dX10_measured_210 (by decide) ?_
      refine ck_callS (c_X10_within hq) rfl cal_X10_within rfl ml_X10_166 sta_X10_within (by decide) (Nat.le_of_ble_eq_true rfl) (Nat.le_of_ble_eq_true rfl) (by decide) (by decide) dX10_measured_212 ?_
      rintro _ _ h48 ⟨r49, rfl, rfl, hq⟩
      refine ck_loc [1, 2] rfl ?_
      exact cp_X10_measured_215 (by simp) _ _ _ hq
    · have hq := hq.2 c47
      refine ck_bipush (v := 10) dX10_measured_202 (by decide) ?_
      refine ck_goto (tgt := 215) dX10_measured_204 (by decide) ?_
      refine ck_loc [1, 2] rfl ?_
      exact cp_X10_measured_215 (by simp) _ _ _ hq
set_option maxHeartbeats 4000000 in
set_option maxRecDepth 100000 in
theorem cp_X10_measured_146 {gr : Bool} {Q : Int32 → ck_H → Prop} {o1 : Nat} (hc : (o1 = 7) ∨ (o1 = 17)) : ∀ (x2 : Int32) (x4 : Int32) (y1 : Int32) (h : ck_H), wp_X10_measured_146 Q o1 x2 x4 y1 h → ck_W cX10_measured 8 RX10 (some .int) 5 0 0 false gr (ck_Qi ck_shX Q) ck_shX h 0 0 146 [(0, .ref 74), (1, .ref o1), (2, .int x2), (4, .int x4)] [.int y1, .ref 74] := by
  rcases hc with rfl | rfl
  · intro x2 x4 y1 h hq
    refine ck_putI clX10 3 rfl rfl (by decide) fl_X10_120 rfl rfl rfl dX10_measured_146 ?_
    refine ck_nmH (fun h52 eh52 => ?_)
    have hq := hq h52 eh52
    refine ck_aload_n 1 dX10_measured_149 rfl rfl ?_
    refine ck_getRN clX1 0 rfl rfl (by decide) fl_X10_96 dX10_measured_150 ?_
    refine ck_iload_n 2 dX10_measured_153 rfl rfl ?_
    obtain ⟨b53, hq⟩ := hq
    refine ck_iald rfl rfl b53 dX10_measured_154 ?_
    refine ck_if_ne (tgt := 175) dX10_measured_155 (by decide) (fun c54 => ?_) (fun c54 => ?_)
    · have hq := hq.1 c54
      refine ck_loc [0, 3] rfl ?_
      exact cp_X10_measured_175 (by simp) _ _ hq
    · have hq := hq.2 c54
      refine ck_aload_n 0 dX10_measured_158 rfl rfl ?_
      refine ck_getI clX10 7 rfl rfl (by decide) fl_X10_36 dX10_measured_159 ?_
      refine ck_if_ne (tgt := 175) dX10_measured_162 (by decide) (fun c55 => ?_) (fun c55 => ?_)
      · have hq := hq.1 c55
        refine ck_loc [0, 3] rfl ?_
        exact cp_X10_measured_175 (by simp) _ _ hq
      · have hq := hq.2 c55
        refine ck_aload_n 0 dX10_measured_165 rfl rfl ?_
        refine ck_dup dX10_measured_166 rfl ?_
        refine ck_getI clX10 3 rfl rfl (by decide) fl_X10_120 dX10_measured_167 ?_
        refine ck_iconst (v := 2) dX10_measured_170 (by decide) ?_
        refine ck_idiv dX10_measured_171 (by decide) ?_
        refine ck_putI clX10 3 rfl rfl (by decide) fl_X10_120 rfl rfl rfl dX10_measured_172 ?_
        refine ck_nmH (fun h56 eh56 => ?_)
        have hq := hq h56 eh56
        refine ck_loc [0, 3] rfl ?_
        exact cp_X10_measured_175 (by simp) _ _ hq
  · intro x2 x4 y1 h hq
    refine ck_putI clX10 3 rfl rfl (by decide) fl_X10_120 rfl rfl rfl dX10_measured_146 ?_
    refine ck_nmH (fun h57 eh57 => ?_)
    have hq := hq h57 eh57
    refine ck_aload_n 1 dX10_measured_149 rfl rfl ?_
    refine ck_getRN clX1 0 rfl rfl (by decide) fl_X10_96 dX10_measured_150 ?_
    refine ck_iload_n 2 dX10_measured_153 rfl rfl ?_
    obtain ⟨b58, hq⟩ := hq
    refine ck_iald rfl rfl b58 dX10_measured_154 ?_
    refine ck_if_ne (tgt := 175) dX10_measured_155 (by decide) (fun c59 => ?_) (fun c59 => ?_)
    · have hq := hq.1 c59
      refine ck_loc [0, 3] rfl ?_
      exact cp_X10_measured_175 (by simp) _ _ hq
    · have hq := hq.2 c59
      refine ck_aload_n 0 dX10_measured_158 rfl rfl ?_
      refine ck_getI clX10 7 rfl rfl (by decide) fl_X10_36 dX10_measured_159 ?_
      refine ck_if_ne (tgt := 175) dX10_measured_162 (by decide) (fun c60 => ?_) (fun c60 => ?_)
      · have hq := hq.1 c60
        refine ck_loc [0, 3] rfl ?_
        exact cp_X10_measured_175 (by simp) _ _ hq
      · have hq := hq.2 c60
        refine ck_aload_n 0 dX10_measured_165 rfl rfl ?_
        refine ck_dup dX10_measured_166 rfl ?_
        refine ck_getI clX10 3 rfl rfl (by decide) fl_X10_120 dX10_measured_167 ?_
        refine ck_iconst (v := 2) dX10_measured_170 (by decide) ?_
        refine ck_idiv dX10_measured_171 (by decide) ?_
        refine ck_putI clX10 3 rfl rfl (by decide) fl_X10_120 rfl rfl rfl dX10_measured_172 ?_
        refine ck_nmH (fun h61 eh61 => ?_)
        have hq := hq h61 eh61
        refine ck_loc [0, 3] rfl ?_
        exact cp_X10_measured_175 (by simp) _ _ hq
set_option maxHeartbeats 4000000 in
set_option maxRecDepth 100000 in
theorem c_X10_measured {gr : Bool} {x2 : Int32} {x3 : Int32} {x4 : Int32} {h : ck_H} {Q : Int32 → ck_H → Prop} {o1 : Nat} (hc : (o1 = 7) ∨ (o1 = 17)) (hq : wp_X10_measured o1 x2 x3 x4 h Q) : ck_M yX10_measured cX10_measured 8 (some .int) 5 0 0 gr ck_shX h [.ref 74, .ref o1, .int x2, .int x3, .int x4] (ck_Qi ck_shX Q) := by
  rcases hc with rfl | rfl
  · refine ck_entry (lv := [(0, .ref 74), (1, .ref 7), (2, .int x2), (3, .int x3), (4, .int x4)]) false (own := RX10) rfl (fun q => by cases q) (by decide) (Nat.le_of_ble_eq_true rfl) rfl ?_
    refine ck_aload_n 0 dX10_measured_0 rfl rfl ?_
    refine ck_getR clX10 0 rfl rfl (by decide) fl_X10_9 dX10_measured_1 ?_
    refine ck_iconst (v := 0) dX10_measured_4 (by decide) ?_
    refine ck_aload_n 0 dX10_measured_5 rfl rfl ?_
    refine ck_getR clX10 2 rfl rfl (by decide) fl_X10_19 dX10_measured_6 ?_
    refine ck_getRN clX7 1 rfl rfl (by decide) fl_X10_148 dX10_measured_9 ?_
    refine ck_iload_n 2 dX10_measured_12 rfl rfl ?_
    obtain ⟨b63, hq⟩ := hq
    refine ck_iald rfl rfl b63 dX10_measured_13 ?_
    refine ck_i2l dX10_measured_14 ?_
    refine ck_last (j := 0) (by decide) rfl (ck_inL (by decide)) dX10_measured_15 ?_
    refine ck_nmH (fun h64 eh64 => ?_)
    have hq := hq h64 eh64
    refine ck_aload_n 0 dX10_measured_16 rfl rfl ?_
    refine ck_getR clX10 0 rfl rfl (by decide) fl_X10_9 dX10_measured_17 ?_
    refine ck_iconst (v := 1) dX10_measured_20 (by decide) ?_
    refine ck_aload_n 1 dX10_measured_21 rfl rfl ?_
    refine ck_getRN clX1 0 rfl rfl (by decide) fl_X10_96 dX10_measured_22 ?_
    refine ck_iload_n 2 dX10_measured_25 rfl rfl ?_
    obtain ⟨b65, hq⟩ := hq
    refine ck_iald rfl rfl b65 dX10_measured_26 ?_
    refine ck_i2l dX10_measured_27 ?_
    refine ck_last (j := 1) (by decide) rfl (ck_inL (by decide)) dX10_measured_28 ?_
    refine ck_nmH (fun h66 eh66 => ?_)
    have hq := hq h66 eh66
    refine ck_aload_n 0 dX10_measured_29 rfl rfl ?_
    refine ck_getR clX10 0 rfl rfl (by decide) fl_X10_9 dX10_measured_30 ?_
    refine ck_iconst (v := 2) dX10_measured_33 (by decide) ?_
    refine ck_iload 4 dX10_measured_34 rfl ?_
    refine ck_i2l dX10_measured_36 ?_
    refine ck_last (j := 2) (by decide) rfl (ck_inL (by decide)) dX10_measured_37 ?_
    refine ck_nmH (fun h67 eh67 => ?_)
    have hq := hq h67 eh67
    refine ck_aload_n 0 dX10_measured_38 rfl rfl ?_
    refine ck_getR clX10 0 rfl rfl (by decide) fl_X10_9 dX10_measured_39 ?_
    refine ck_iconst (v := 3) dX10_measured_42 (by decide) ?_
    refine ck_aload_n 0 dX10_measured_43 rfl rfl ?_
    refine ck_getR clX10 2 rfl rfl (by decide) fl_X10_19 dX10_measured_44 ?_
    refine ck_getRN clX7 6 rfl rfl (by decide) fl_X10_151 dX10_measured_47 ?_
    refine ck_iload_n 3 dX10_measured_50 rfl rfl ?_
    obtain ⟨b68, hq⟩ := hq
    refine ck_iald rfl rfl b68 dX10_measured_51 ?_
    refine ck_i2l dX10_measured_52 ?_
    refine ck_last (j := 3) (by decide) rfl (ck_inL (by decide)) dX10_measured_53 ?_
    refine ck_nmH (fun h69 eh69 => ?_)
    have hq := hq h69 eh69
    refine ck_aload_n 0 dX10_measured_54 rfl rfl ?_
    refine ck_getR clX10 0 rfl rfl (by decide) fl_X10_9 dX10_measured_55 ?_
    refine ck_iconst (v := 4) dX10_measured_58 (by decide) ?_
    refine ck_aload_n 1 dX10_measured_59 rfl rfl ?_
    refine ck_getIN clX1 6 rfl rfl (by decide) fl_X10_92 dX10_measured_60 ?_
    refine ck_i2l dX10_measured_63 ?_
    refine ck_last (j := 4) (by decide) rfl (ck_inL (by decide)) dX10_measured_64 ?_
    refine ck_nmH (fun h70 eh70 => ?_)
    have hq := hq h70 eh70
    refine ck_aload_n 0 dX10_measured_65 rfl rfl ?_
    refine ck_getR clX10 0 rfl rfl (by decide) fl_X10_9 dX10_measured_66 ?_
    refine ck_iconst (v := 5) dX10_measured_69 (by decide) ?_
    refine ck_aload_n 0 dX10_measured_70 rfl rfl ?_
    refine ck_getR clX10 1 rfl rfl (by decide) fl_X10_15 dX10_measured_71 ?_
    refine ck_iload_n 2 dX10_measured_74 rfl rfl ?_
    obtain ⟨b71, hq⟩ := hq
    refine ck_iald rfl rfl b71 dX10_measured_75 ?_
    refine ck_i2l dX10_measured_76 ?_
    refine ck_last (j := 5) (by decide) rfl (ck_inL (by decide)) dX10_measured_77 ?_
    refine ck_nmH (fun h72 eh72 => ?_)
    have hq := hq h72 eh72
    refine ck_aload_n 0 dX10_measured_78 rfl rfl ?_
    refine ck_getR clX10 0 rfl rfl (by decide) fl_X10_9 dX10_measured_79 ?_
    refine ck_bipush (v := 6) dX10_measured_82 (by decide) ?_
    refine ck_aload_n 1 dX10_measured_84 rfl rfl ?_
    refine ck_getIN clX1 5 rfl rfl (by decide) fl_X10_51 dX10_measured_85 ?_
    refine ck_i2l dX10_measured_88 ?_
    refine ck_last (j := 6) (by decide) rfl (ck_inL (by decide)) dX10_measured_89 ?_
    refine ck_nmH (fun h73 eh73 => ?_)
    have hq := hq h73 eh73
    refine ck_aload_n 0 dX10_measured_90 rfl rfl ?_
    refine ck_getR clX10 2 rfl rfl (by decide) fl_X10_19 dX10_measured_91 ?_
    refine ck_getRN clX7 11 rfl rfl (by decide) fl_X10_154 dX10_measured_94 ?_
    refine ck_iconst (v := 0) dX10_measured_97 (by decide) ?_
    refine ck_aload_n 0 dX10_measured_98 rfl rfl ?_
    refine ck_getR clX10 0 rfl rfl (by decide) fl_X10_9 dX10_measured_99 ?_
    refine ck_callV (c_X4_worked hq) rfl cal_X4_worked rfl ml_X10_158 vir_X4_worked rfl rfl (by decide) (Nat.le_of_ble_eq_true rfl) (Nat.le_of_ble_eq_true rfl) (by decide) (by decide) dX10_measured_102 ?_
    rintro _ _ h74 ⟨r75, rfl, rfl, hq⟩
    refine ck_lstore (lv' := [(5, .long r75), (0, .ref 74), (1, .ref 7), (2, .int x2), (3, .int x3), (4, .int x4)]) dX10_measured_105 (by decide) rfl ?_
    refine ck_aload_n 1 dX10_measured_107 rfl rfl ?_
    refine ck_lload 0 dX10_measured_108 rfl ?_
    refine ck_ldc2 con_X10_164 dX10_measured_110 ?_
    refine ck_lcmp dX10_measured_113 ?_
    refine ck_if_ne (tgt := 137) dX10_measured_114 (by decide) (fun c76 => ?_) (fun c76 => ?_)
    · have hq := hq.1 c76
      refine ck_lload 0 dX10_measured_137 rfl ?_
      refine ck_iconst (v := 0) dX10_measured_139 (by decide) ?_
      refine ck_sipush (v := 999) dX10_measured_140 (by decide) ?_
      refine ck_callS (c_X10_within hq) rfl cal_X10_within rfl ml_X10_166 sta_X10_within (by decide) (Nat.le_of_ble_eq_true rfl) (Nat.le_of_ble_eq_true rfl) (by decide) (by decide) dX10_measured_143 ?_
      rintro _ _ h77 ⟨r78, rfl, rfl, hq⟩
      refine ck_loc [1, 2, 3, 5] rfl ?_
      exact cp_X10_measured_146 (by simp) _ _ _ _ hq
    · have hq := hq.2 c76
      refine ck_aload_n 1 dX10_measured_117 rfl rfl ?_
      refine ck_getR clX10 2 rfl rfl (by decide) fl_X10_19 dX10_measured_118 ?_
      refine ck_getRN clX7 1 rfl rfl (by decide) fl_X10_148 dX10_measured_121 ?_
      refine ck_iload_n 3 dX10_measured_124 rfl rfl ?_
      obtain ⟨b79, hq⟩ := hq
      refine ck_iald rfl rfl b79 dX10_measured_125 ?_
      refine ck_aload_n 2 dX10_measured_126 rfl rfl ?_
      refine ck_getIN clX1 6 rfl rfl (by decide) fl_X10_92 dX10_measured_127 ?_
      refine ck_imul dX10_measured_130 ?_
      refine ck_bipush (v := 50) dX10_measured_131 (by decide) ?_
      refine ck_idiv dX10_measured_133 (by decide) ?_
      refine ck_goto (tgt := 146) dX10_measured_134 (by decide) ?_
      refine ck_loc [1, 2, 3, 5] rfl ?_
      exact cp_X10_measured_146 (by simp) _ _ _ _ hq
  · refine ck_entry (lv := [(0, .ref 74), (1, .ref 17), (2, .int x2), (3, .int x3), (4, .int x4)]) false (own := RX10) rfl (fun q => by cases q) (by decide) (Nat.le_of_ble_eq_true rfl) rfl ?_
    refine ck_aload_n 0 dX10_measured_0 rfl rfl ?_
    refine ck_getR clX10 0 rfl rfl (by decide) fl_X10_9 dX10_measured_1 ?_
    refine ck_iconst (v := 0) dX10_measured_4 (by decide) ?_
    refine ck_aload_n 0 dX10_measured_5 rfl rfl ?_
    refine ck_getR clX10 2 rfl rfl (by decide) fl_X10_19 dX10_measured_6 ?_
    refine ck_getRN clX7 1 rfl rfl (by decide) fl_X10_148 dX10_measured_9 ?_
    refine ck_iload_n 2 dX10_measured_12 rfl rfl ?_
    obtain ⟨b80, hq⟩ := hq
    refine ck_iald rfl rfl b80 dX10_measured_13 ?_
    refine ck_i2l dX10_measured_14 ?_
    refine ck_last (j := 0) (by decide) rfl (ck_inL (by decide)) dX10_measured_15 ?_
    refine ck_nmH (fun h81 eh81 => ?_)
    have hq := hq h81 eh81
    refine ck_aload_n 0 dX10_measured_16 rfl rfl ?_
    refine ck_getR clX10 0 rfl rfl (by decide) fl_X10_9 dX10_measured_17 ?_
    refine ck_iconst (v := 1) dX10_measured_20 (by decide) ?_
    refine ck_aload_n 1 dX10_measured_21 rfl rfl ?_
    refine ck_getRN clX1 0 rfl rfl (by decide) fl_X10_96 dX10_measured_22 ?_
    refine ck_iload_n 2 dX10_measured_25 rfl rfl ?_
    obtain ⟨b82, hq⟩ := hq
    refine ck_iald rfl rfl b82 dX10_measured_26 ?_
    refine ck_i2l dX10_measured_27 ?_
    refine ck_last (j := 1) (by decide) rfl (ck_inL (by decide)) dX10_measured_28 ?_
    refine ck_nmH (fun h83 eh83 => ?_)
    have hq := hq h83 eh83
    refine ck_aload_n 0 dX10_measured_29 rfl rfl ?_
    refine ck_getR clX10 0 rfl rfl (by decide) fl_X10_9 dX10_measured_30 ?_
    refine ck_iconst (v := 2) dX10_measured_33 (by decide) ?_
    refine ck_iload 4 dX10_measured_34 rfl ?_
    refine ck_i2l dX10_measured_36 ?_
    refine ck_last (j := 2) (by decide) rfl (ck_inL (by decide)) dX10_measured_37 ?_
    refine ck_nmH (fun h84 eh84 => ?_)
    have hq := hq h84 eh84
    refine ck_aload_n 0 dX10_measured_38 rfl rfl ?_
    refine ck_getR clX10 0 rfl rfl (by decide) fl_X10_9 dX10_measured_39 ?_
    refine ck_iconst (v := 3) dX10_measured_42 (by decide) ?_
    refine ck_aload_n 0 dX10_measured_43 rfl rfl ?_
    refine ck_getR clX10 2 rfl rfl (by decide) fl_X10_19 dX10_measured_44 ?_
    refine ck_getRN clX7 6 rfl rfl (by decide) fl_X10_151 dX10_measured_47 ?_
    refine ck_iload_n 3 dX10_measured_50 rfl rfl ?_
    obtain ⟨b85, hq⟩ := hq
    refine ck_iald rfl rfl b85 dX10_measured_51 ?_
    refine ck_i2l dX10_measured_52 ?_
    refine ck_last (j := 3) (by decide) rfl (ck_inL (by decide)) dX10_measured_53 ?_
    refine ck_nmH (fun h86 eh86 => ?_)
    have hq := hq h86 eh86
    refine ck_aload_n 0 dX10_measured_54 rfl rfl ?_
    refine ck_getR clX10 0 rfl rfl (by decide) fl_X10_9 dX10_measured_55 ?_
    refine ck_iconst (v := 4) dX10_measured_58 (by decide) ?_
    refine ck_aload_n 1 dX10_measured_59 rfl rfl ?_
    refine ck_getIN clX1 6 rfl rfl (by decide) fl_X10_92 dX10_measured_60 ?_
    refine ck_i2l dX10_measured_63 ?_
    refine ck_last (j := 4) (by decide) rfl (ck_inL (by decide)) dX10_measured_64 ?_
    refine ck_nmH (fun h87 eh87 => ?_)
    have hq := hq h87 eh87
    refine ck_aload_n 0 dX10_measured_65 rfl rfl ?_
    refine ck_getR clX10 0 rfl rfl (by decide) fl_X10_9 dX10_measured_66 ?_
    refine ck_iconst (v := 5) dX10_measured_69 (by decide) ?_
    refine ck_aload_n 0 dX10_measured_70 rfl rfl ?_
    refine ck_getR clX10 1 rfl rfl (by decide) fl_X10_15 dX10_measured_71 ?_
    refine ck_iload_n 2 dX10_measured_74 rfl rfl ?_
    obtain ⟨b88, hq⟩ := hq
    refine ck_iald rfl rfl b88 dX10_measured_75 ?_
    refine ck_i2l dX10_measured_76 ?_
    refine ck_last (j := 5) (by decide) rfl (ck_inL (by decide)) dX10_measured_77 ?_
    refine ck_nmH (fun h89 eh89 => ?_)
    have hq := hq h89 eh89
    refine ck_aload_n 0 dX10_measured_78 rfl rfl ?_
    refine ck_getR clX10 0 rfl rfl (by decide) fl_X10_9 dX10_measured_79 ?_
    refine ck_bipush (v := 6) dX10_measured_82 (by decide) ?_
    refine ck_aload_n 1 dX10_measured_84 rfl rfl ?_
    refine ck_getIN clX1 5 rfl rfl (by decide) fl_X10_51 dX10_measured_85 ?_
    refine ck_i2l dX10_measured_88 ?_
    refine ck_last (j := 6) (by decide) rfl (ck_inL (by decide)) dX10_measured_89 ?_
    refine ck_nmH (fun h90 eh90 => ?_)
    have hq := hq h90 eh90
    refine ck_aload_n 0 dX10_measured_90 rfl rfl ?_
    refine ck_getR clX10 2 rfl rfl (by decide) fl_X10_19 dX10_measured_91 ?_
    refine ck_getRN clX7 11 rfl rfl (by decide) fl_X10_154 dX10_measured_94 ?_
    refine ck_iconst (v := 0) dX10_measured_97 (by decide) ?_
    refine ck_aload_n 0 dX10_measured_98 rfl rfl ?_
    refine ck_getR clX10 0 rfl rfl (by decide) fl_X10_9 dX10_measured_99 ?_
    refine ck_callV (c_X4_worked hq) rfl cal_X4_worked rfl ml_X10_158 vir_X4_worked rfl rfl (by decide) (Nat.le_of_ble_eq_true rfl) (Nat.le_of_ble_eq_true rfl) (by decide) (by decide) dX10_measured_102 ?_
    rintro _ _ h91 ⟨r92, rfl, rfl, hq⟩
    refine ck_lstore (lv' := [(5, .long r92), (0, .ref 74), (1, .ref 17), (2, .int x2), (3, .int x3), (4, .int x4)]) dX10_measured_105 (by decide) rfl ?_
    refine ck_aload_n 1 dX10_measured_107 rfl rfl ?_
    refine ck_lload 0 dX10_measured_108 rfl ?_
    refine ck_ldc2 con_X10_164 dX10_measured_110 ?_
    refine ck_lcmp dX10_measured_113 ?_
    refine ck_if_ne (tgt := 137) dX10_measured_114 (by decide) (fun c93 => ?_) (fun c93 => ?_)
    · have hq := hq.1 c93
      refine ck_lload 0 dX10_measured_137 rfl ?_
      refine ck_iconst (v := 0) dX10_measured_139 (by decide) ?_
      refine ck_sipush (v := 999) dX10_measured_140 (by decide) ?_
      refine ck_callS (c_X10_within hq) rfl cal_X10_within rfl ml_X10_166 sta_X10_within (by decide) (Nat.le_of_ble_eq_true rfl) (Nat.le_of_ble_eq_true rfl) (by decide) (by decide) dX10_measured_143 ?_
      rintro _ _ h94 ⟨r95, rfl, rfl, hq⟩
      refine ck_loc [1, 2, 3, 5] rfl ?_
      exact cp_X10_measured_146 (by simp) _ _ _ _ hq
    · have hq := hq.2 c93
      refine ck_aload_n 1 dX10_measured_117 rfl rfl ?_
      refine ck_getR clX10 2 rfl rfl (by decide) fl_X10_19 dX10_measured_118 ?_
      refine ck_getRN clX7 1 rfl rfl (by decide) fl_X10_148 dX10_measured_121 ?_
      refine ck_iload_n 3 dX10_measured_124 rfl rfl ?_
      obtain ⟨b96, hq⟩ := hq
      refine ck_iald rfl rfl b96 dX10_measured_125 ?_
      refine ck_aload_n 2 dX10_measured_126 rfl rfl ?_
      refine ck_getIN clX1 6 rfl rfl (by decide) fl_X10_92 dX10_measured_127 ?_
      refine ck_imul dX10_measured_130 ?_
      refine ck_bipush (v := 50) dX10_measured_131 (by decide) ?_
      refine ck_idiv dX10_measured_133 (by decide) ?_
      refine ck_goto (tgt := 146) dX10_measured_134 (by decide) ?_
      refine ck_loc [1, 2, 3, 5] rfl ?_
      exact cp_X10_measured_146 (by simp) _ _ _ _ hq
def wp_X10_isOpen (o1 : Nat) (x2 : Int32) (h : ck_H) (Q : Int32 → ck_H → Prop) : Prop := (vp_in x2 10 ∧ ((¬ (h.1 (o1 + 4) x2.toNatClampNeg) = (-1 : Int32) → Q (0 : Int32) h) ∧ ((h.1 (o1 + 4) x2.toNatClampNeg) = (-1 : Int32) → (vp_in x2 10 ∧ (((h.1 (o1 + 2) x2.toNatClampNeg) = (h.1 74 9) → Q (0 : Int32) h) ∧ (¬ (h.1 (o1 + 2) x2.toNatClampNeg) = (h.1 74 9) → Q (1 : Int32) h))))))
set_option maxHeartbeats 4000000 in
set_option maxRecDepth 100000 in
theorem c_X10_isOpen {gr : Bool} {x2 : Int32} {h : ck_H} {Q : Int32 → ck_H → Prop} {o1 : Nat} (hc : (o1 = 7) ∨ (o1 = 17)) (hq : wp_X10_isOpen o1 x2 h Q) : ck_M yX10_isOpen cX10_isOpen 3 (some .boolean) 2 0 0 gr ck_shX h [.ref 74, .ref o1, .int x2] (ck_Qi ck_shX Q) := by
  rcases hc with rfl | rfl
  · refine ck_entry (lv := [(0, .ref 74), (1, .ref 7), (2, .int x2)]) false (own := RX10) rfl (fun q => by cases q) (by decide) (Nat.le_of_ble_eq_true rfl) rfl ?_
    refine ck_aload_n 1 dX10_isOpen_0 rfl rfl ?_
    refine ck_getRN clX1 3 rfl rfl (by decide) fl_X10_83 dX10_isOpen_1 ?_
    refine ck_iload_n 2 dX10_isOpen_4 rfl rfl ?_
    obtain ⟨b5, hq⟩ := hq
    refine ck_iald rfl rfl b5 dX10_isOpen_5 ?_
    refine ck_iconst (v := -1) dX10_isOpen_6 (by decide) ?_
    refine ck_icmp_ne (tgt := 27) dX10_isOpen_7 (by decide) (fun c6 => ?_) (fun c6 => ?_)
    · have hq := hq.1 c6
      refine ck_iconst (v := 0) dX10_isOpen_27 (by decide) ?_
      exact ck_iret rfl (by decide) rfl rfl dX10_isOpen_28 ⟨_, rfl, rfl, hq⟩
    · have hq := hq.2 c6
      refine ck_aload_n 1 dX10_isOpen_10 rfl rfl ?_
      refine ck_getRN clX1 1 rfl rfl (by decide) fl_X10_86 dX10_isOpen_11 ?_
      refine ck_iload_n 2 dX10_isOpen_14 rfl rfl ?_
      obtain ⟨b7, hq⟩ := hq
      refine ck_iald rfl rfl b7 dX10_isOpen_15 ?_
      refine ck_aload_n 0 dX10_isOpen_16 rfl rfl ?_
      refine ck_getI clX10 9 rfl rfl (by decide) fl_X10_42 dX10_isOpen_17 ?_
      refine ck_icmp_eq (tgt := 27) dX10_isOpen_20 (by decide) (fun c8 => ?_) (fun c8 => ?_)
      · have hq := hq.1 c8
        refine ck_iconst (v := 0) dX10_isOpen_27 (by decide) ?_
        exact ck_iret rfl (by decide) rfl rfl dX10_isOpen_28 ⟨_, rfl, rfl, hq⟩
      · have hq := hq.2 c8
        refine ck_iconst (v := 1) dX10_isOpen_23 (by decide) ?_
        refine ck_goto (tgt := 28) dX10_isOpen_24 (by decide) ?_
        exact ck_iret rfl (by decide) rfl rfl dX10_isOpen_28 ⟨_, rfl, rfl, hq⟩
  · refine ck_entry (lv := [(0, .ref 74), (1, .ref 17), (2, .int x2)]) false (own := RX10) rfl (fun q => by cases q) (by decide) (Nat.le_of_ble_eq_true rfl) rfl ?_
    refine ck_aload_n 1 dX10_isOpen_0 rfl rfl ?_
    refine ck_getRN clX1 3 rfl rfl (by decide) fl_X10_83 dX10_isOpen_1 ?_
    refine ck_iload_n 2 dX10_isOpen_4 rfl rfl ?_
    obtain ⟨b9, hq⟩ := hq
    refine ck_iald rfl rfl b9 dX10_isOpen_5 ?_
    refine ck_iconst (v := -1) dX10_isOpen_6 (by decide) ?_
    refine ck_icmp_ne (tgt := 27) dX10_isOpen_7 (by decide) (fun c10 => ?_) (fun c10 => ?_)
    · have hq := hq.1 c10
      refine ck_iconst (v := 0) dX10_isOpen_27 (by decide) ?_
      exact ck_iret rfl (by decide) rfl rfl dX10_isOpen_28 ⟨_, rfl, rfl, hq⟩
    · have hq := hq.2 c10
      refine ck_aload_n 1 dX10_isOpen_10 rfl rfl ?_
      refine ck_getRN clX1 1 rfl rfl (by decide) fl_X10_86 dX10_isOpen_11 ?_
      refine ck_iload_n 2 dX10_isOpen_14 rfl rfl ?_
      obtain ⟨b11, hq⟩ := hq
      refine ck_iald rfl rfl b11 dX10_isOpen_15 ?_
      refine ck_aload_n 0 dX10_isOpen_16 rfl rfl ?_
      refine ck_getI clX10 9 rfl rfl (by decide) fl_X10_42 dX10_isOpen_17 ?_
      refine ck_icmp_eq (tgt := 27) dX10_isOpen_20 (by decide) (fun c12 => ?_) (fun c12 => ?_)
      · have hq := hq.1 c12
        refine ck_iconst (v := 0) dX10_isOpen_27 (by decide) ?_
        exact ck_iret rfl (by decide) rfl rfl dX10_isOpen_28 ⟨_, rfl, rfl, hq⟩
      · have hq := hq.2 c12
        refine ck_iconst (v := 1) dX10_isOpen_23 (by decide) ?_
        refine ck_goto (tgt := 28) dX10_isOpen_24 (by decide) ?_
        exact ck_iret rfl (by decide) rfl rfl dX10_isOpen_28 ⟨_, rfl, rfl, hq⟩
def wp_X10_nextDayWithSuits_57 (Q : Int32 → ck_H → Prop) (o1 : Nat) (Kc : Int32 → Int32 → ck_H → Prop) (x3 : Int32) (x4 : Int32) (h : ck_H) : Prop := (∀ v5, v5 = x4 + 1 → Kc x3 v5 h)
def wp_X10_nextDayWithSuits_5 (Q : Int32 → ck_H → Prop) (o1 : Nat) : Nat → Int32 → Int32 → ck_H → Prop
  | 0 => fun _ _ _ => False
  | n + 1 => fun x3 x4 h => (((h.1 42 1) ≤ x4 → Q x3 h) ∧ (¬ (h.1 42 1) ≤ x4 → (vp_in x4 10 ∧ (∀ v3, v3 = (h.1 (o1 + 3) x4.toNatClampNeg) → ((v3 < (h.1 o1 5) → wp_X10_nextDayWithSuits_57 Q o1 (wp_X10_nextDayWithSuits_5 Q o1 n) x3 x4 h) ∧ (¬ v3 < (h.1 o1 5) → ((x3 ≤ v3 → wp_X10_nextDayWithSuits_57 Q o1 (wp_X10_nextDayWithSuits_5 Q o1 n) x3 x4 h) ∧ (¬ x3 ≤ v3 → (wp_X10_isOpen o1 x4 h (fun r10 h9 => ((r10 = 0 → wp_X10_nextDayWithSuits_57 Q o1 (wp_X10_nextDayWithSuits_5 Q o1 n) x3 x4 h9) ∧ (¬ r10 = 0 → wp_X10_nextDayWithSuits_57 Q o1 (wp_X10_nextDayWithSuits_5 Q o1 n) v3 x4 h9))))))))))))
def wp_X10_nextDayWithSuits (o1 : Nat) (x2 : Int32) (h : ck_H) (Q : Int32 → ck_H → Prop) : Prop := wp_X10_nextDayWithSuits_5 Q o1 lpN x2 (0 : Int32) h
set_option maxHeartbeats 4000000 in
set_option maxRecDepth 100000 in
theorem cp_X10_nextDayWithSuits_57 {gr : Bool} {Q : Int32 → ck_H → Prop} {Kc : Int32 → Int32 → ck_H → Prop} {o1 : Nat} (hc : (o1 = 7) ∨ (o1 = 17)) (hKc : ∀ (x3 : Int32) (x4 : Int32) (h : ck_H), Kc x3 x4 h → ck_W cX10_nextDayWithSuits 6 RX10 (some .int) 3 0 0 false gr (ck_Qi ck_shX Q) ck_shX h 0 0 5 [(0, .ref 74), (1, .ref o1), (3, .int x3), (4, .int x4)] []) : ∀ (x3 : Int32) (x4 : Int32) (h : ck_H), wp_X10_nextDayWithSuits_57 Q o1 Kc x3 x4 h → ck_W cX10_nextDayWithSuits 6 RX10 (some .int) 3 0 0 false gr (ck_Qi ck_shX Q) ck_shX h 0 0 57 [(0, .ref 74), (1, .ref o1), (3, .int x3), (4, .int x4)] [] := by
  rcases hc with rfl | rfl
  · intro x3 x4 h hq
    obtain ⟨v6, ev6⟩ : ∃ z : Int32, z = x4 + 1 := ⟨_, rfl⟩
    have hq := hq v6 ev6
    refine ck_iinc (v := v6) (lv' := [(4, .int v6), (0, .ref 74), (1, .ref 7), (3, .int x3)]) 3 dX10_nextDayWithSuits_57 rfl (by rw [ev6]; rfl) (by decide) rfl ?_
    refine ck_goto (tgt := 5) dX10_nextDayWithSuits_60 (by decide) ?_
    refine ck_loc [1, 2, 3, 0] rfl ?_
    exact hKc _ _ _ hq
  · intro x3 x4 h hq
    obtain ⟨v7, ev7⟩ : ∃ z : Int32, z = x4 + 1 := ⟨_, rfl⟩
    have hq := hq v7 ev7
    refine ck_iinc (v := v7) (lv' := [(4, .int v7), (0, .ref 74), (1, .ref 17), (3, .int x3)]) 3 dX10_nextDayWithSuits_57 rfl (by rw [ev7]; rfl) (by decide) rfl ?_
    refine ck_goto (tgt := 5) dX10_nextDayWithSuits_60 (by decide) ?_
    refine ck_loc [1, 2, 3, 0] rfl ?_
    exact hKc _ _ _ hq
set_option maxHeartbeats 4000000 in
set_option maxRecDepth 100000 in
theorem cp_X10_nextDayWithSuits_5 {gr : Bool} {Q : Int32 → ck_H → Prop} {o1 : Nat} (hc : (o1 = 7) ∨ (o1 = 17)) : ∀ (n : Nat) (x3 : Int32) (x4 : Int32) (h : ck_H), wp_X10_nextDayWithSuits_5 Q o1 n x3 x4 h → ck_W cX10_nextDayWithSuits 6 RX10 (some .int) 3 0 0 false gr (ck_Qi ck_shX Q) ck_shX h 0 0 5 [(0, .ref 74), (1, .ref o1), (3, .int x3), (4, .int x4)] [] := by
  rcases hc with rfl | rfl
  · intro n
    induction n with
    | zero => intro x3 x4 h hq; exact hq.elim
    | succ n hKc =>
      intro x3 x4 h hq
      refine ck_iload 3 dX10_nextDayWithSuits_5 rfl ?_
      refine ck_aload_n 0 dX10_nextDayWithSuits_7 rfl rfl ?_
      refine ck_getR clX10 2 rfl rfl (by decide) fl_X10_19 dX10_nextDayWithSuits_8 ?_
      refine ck_getRN clX7 7 rfl rfl (by decide) fl_X10_64 dX10_nextDayWithSuits_11 ?_
      refine ck_getIN clX5 1 rfl rfl (by decide) fl_X10_68 dX10_nextDayWithSuits_14 ?_
      refine ck_icmp_ge (tgt := 63) dX10_nextDayWithSuits_17 (by decide) (fun c12 => ?_) (fun c12 => ?_)
      · have hq := hq.1 c12
        refine ck_iload_n 2 dX10_nextDayWithSuits_63 rfl rfl ?_
        exact ck_iret rfl rfl rfl rfl dX10_nextDayWithSuits_64 ⟨_, rfl, rfl, hq⟩
      · have hq := hq.2 c12
        refine ck_aload_n 1 dX10_nextDayWithSuits_20 rfl rfl ?_
        refine ck_getRN clX1 2 rfl rfl (by decide) fl_X10_73 dX10_nextDayWithSuits_21 ?_
        refine ck_iload 3 dX10_nextDayWithSuits_24 rfl ?_
        obtain ⟨b13, hq⟩ := hq
        refine ck_iald rfl rfl b13 dX10_nextDayWithSuits_26 ?_
        refine ck_nmI (fun v14 ev14 => ?_)
        have hq := hq v14 ev14
        refine ck_istore (lv' := [(5, .int v14), (0, .ref 74), (1, .ref 7), (3, .int x3), (4, .int x4)]) dX10_nextDayWithSuits_27 (by decide) rfl ?_
        refine ck_iload 0 dX10_nextDayWithSuits_29 rfl ?_
        refine ck_aload_n 2 dX10_nextDayWithSuits_31 rfl rfl ?_
        refine ck_getIN clX1 5 rfl rfl (by decide) fl_X10_51 dX10_nextDayWithSuits_32 ?_
        refine ck_icmp_lt (tgt := 57) dX10_nextDayWithSuits_35 (by decide) (fun c15 => ?_) (fun c15 => ?_)
        · have hq := hq.1 c15
          refine ck_loc [1, 2, 3, 4] rfl ?_
          exact cp_X10_nextDayWithSuits_57 (by simp) hKc _ _ _ hq
        · have hq := hq.2 c15
          refine ck_iload 0 dX10_nextDayWithSuits_38 rfl ?_
          refine ck_iload_n 3 dX10_nextDayWithSuits_40 rfl rfl ?_
          refine ck_icmp_ge (tgt := 57) dX10_nextDayWithSuits_41 (by decide) (fun c16 => ?_) (fun c16 => ?_)
          · have hq := hq.1 c16
            refine ck_loc [1, 2, 3, 4] rfl ?_
            exact cp_X10_nextDayWithSuits_57 (by simp) hKc _ _ _ hq
          · have hq := hq.2 c16
            refine ck_aload_n 1 dX10_nextDayWithSuits_44 rfl rfl ?_
            refine ck_aload_n 2 dX10_nextDayWithSuits_45 rfl rfl ?_
            refine ck_iload 4 dX10_nextDayWithSuits_46 rfl ?_
            refine ck_callV (c_X10_isOpen (by simp) hq) rfl cal_X10_isOpen rfl ml_X10_76 vir_X10_isOpen rfl rfl (by decide) (Nat.le_of_ble_eq_true rfl) (Nat.le_of_ble_eq_true rfl) (by decide) (by decide) dX10_nextDayWithSuits_48 ?_
            rintro _ _ h17 ⟨r18, rfl, rfl, hq⟩
            refine ck_if_eq (tgt := 57) dX10_nextDayWithSuits_51 (by decide) (fun c19 => ?_) (fun c19 => ?_)
            · have hq := hq.1 c19
              refine ck_loc [1, 2, 3, 4] rfl ?_
              exact cp_X10_nextDayWithSuits_57 (by simp) hKc _ _ _ hq
            · have hq := hq.2 c19
              refine ck_iload 0 dX10_nextDayWithSuits_54 rfl ?_
              refine ck_istore_n (lv' := [(3, .int v14), (5, .int v14), (0, .ref 74), (1, .ref 7), (4, .int x4)]) dX10_nextDayWithSuits_56 rfl (by decide) rfl ?_
              refine ck_loc [2, 3, 0, 4] rfl ?_
              exact cp_X10_nextDayWithSuits_57 (by simp) hKc _ _ _ hq
  · intro n
    induction n with
    | zero => intro x3 x4 h hq; exact hq.elim
    | succ n hKc =>
      intro x3 x4 h hq
      refine ck_iload 3 dX10_nextDayWithSuits_5 rfl ?_
      refine ck_aload_n 0 dX10_nextDayWithSuits_7 rfl rfl ?_
      refine ck_getR clX10 2 rfl rfl (by decide) fl_X10_19 dX10_nextDayWithSuits_8 ?_
      refine ck_getRN clX7 7 rfl rfl (by decide) fl_X10_64 dX10_nextDayWithSuits_11 ?_
      refine ck_getIN clX5 1 rfl rfl (by decide) fl_X10_68 dX10_nextDayWithSuits_14 ?_
      refine ck_icmp_ge (tgt := 63) dX10_nextDayWithSuits_17 (by decide) (fun c20 => ?_) (fun c20 => ?_)
      · have hq := hq.1 c20
        refine ck_iload_n 2 dX10_nextDayWithSuits_63 rfl rfl ?_
        exact ck_iret rfl rfl rfl rfl dX10_nextDayWithSuits_64 ⟨_, rfl, rfl, hq⟩
      · have hq := hq.2 c20
        refine ck_aload_n 1 dX10_nextDayWithSuits_20 rfl rfl ?_
        refine ck_getRN clX1 2 rfl rfl (by decide) fl_X10_73 dX10_nextDayWithSuits_21 ?_
        refine ck_iload 3 dX10_nextDayWithSuits_24 rfl ?_
        obtain ⟨b21, hq⟩ := hq
        refine ck_iald rfl rfl b21 dX10_nextDayWithSuits_26 ?_
        refine ck_nmI (fun v22 ev22 => ?_)
        have hq := hq v22 ev22
        refine ck_istore (lv' := [(5, .int v22), (0, .ref 74), (1, .ref 17), (3, .int x3), (4, .int x4)]) dX10_nextDayWithSuits_27 (by decide) rfl ?_
        refine ck_iload 0 dX10_nextDayWithSuits_29 rfl ?_
        refine ck_aload_n 2 dX10_nextDayWithSuits_31 rfl rfl ?_
        refine ck_getIN clX1 5 rfl rfl (by decide) fl_X10_51 dX10_nextDayWithSuits_32 ?_
        refine ck_icmp_lt (tgt := 57) dX10_nextDayWithSuits_35 (by decide) (fun c23 => ?_) (fun c23 => ?_)
        · have hq := hq.1 c23
          refine ck_loc [1, 2, 3, 4] rfl ?_
          exact cp_X10_nextDayWithSuits_57 (by simp) hKc _ _ _ hq
        · have hq := hq.2 c23
          refine ck_iload 0 dX10_nextDayWithSuits_38 rfl ?_
          refine ck_iload_n 3 dX10_nextDayWithSuits_40 rfl rfl ?_
          refine ck_icmp_ge (tgt := 57) dX10_nextDayWithSuits_41 (by decide) (fun c24 => ?_) (fun c24 => ?_)
          · have hq := hq.1 c24
            refine ck_loc [1, 2, 3, 4] rfl ?_
            exact cp_X10_nextDayWithSuits_57 (by simp) hKc _ _ _ hq
          · have hq := hq.2 c24
            refine ck_aload_n 1 dX10_nextDayWithSuits_44 rfl rfl ?_
            refine ck_aload_n 2 dX10_nextDayWithSuits_45 rfl rfl ?_
            refine ck_iload 4 dX10_nextDayWithSuits_46 rfl ?_
            refine ck_callV (c_X10_isOpen (by simp) hq) rfl cal_X10_isOpen rfl ml_X10_76 vir_X10_isOpen rfl rfl (by decide) (Nat.le_of_ble_eq_true rfl) (Nat.le_of_ble_eq_true rfl) (by decide) (by decide) dX10_nextDayWithSuits_48 ?_
            rintro _ _ h25 ⟨r26, rfl, rfl, hq⟩
            refine ck_if_eq (tgt := 57) dX10_nextDayWithSuits_51 (by decide) (fun c27 => ?_) (fun c27 => ?_)
            · have hq := hq.1 c27
              refine ck_loc [1, 2, 3, 4] rfl ?_
              exact cp_X10_nextDayWithSuits_57 (by simp) hKc _ _ _ hq
            · have hq := hq.2 c27
              refine ck_iload 0 dX10_nextDayWithSuits_54 rfl ?_
              refine ck_istore_n (lv' := [(3, .int v22), (5, .int v22), (0, .ref 74), (1, .ref 17), (4, .int x4)]) dX10_nextDayWithSuits_56 rfl (by decide) rfl ?_
              refine ck_loc [2, 3, 0, 4] rfl ?_
              exact cp_X10_nextDayWithSuits_57 (by simp) hKc _ _ _ hq
set_option maxHeartbeats 4000000 in
set_option maxRecDepth 100000 in
theorem c_X10_nextDayWithSuits {gr : Bool} {x2 : Int32} {h : ck_H} {Q : Int32 → ck_H → Prop} {o1 : Nat} (hc : (o1 = 7) ∨ (o1 = 17)) (hq : wp_X10_nextDayWithSuits o1 x2 h Q) : ck_M yX10_nextDayWithSuits cX10_nextDayWithSuits 6 (some .int) 3 0 0 gr ck_shX h [.ref 74, .ref o1, .int x2] (ck_Qi ck_shX Q) := by
  rcases hc with rfl | rfl
  · refine ck_entry (lv := [(0, .ref 74), (1, .ref 7), (2, .int x2)]) false (own := RX10) rfl (fun q => by cases q) (by decide) (Nat.le_of_ble_eq_true rfl) rfl ?_
    refine ck_iload_n 2 dX10_nextDayWithSuits_0 rfl rfl ?_
    refine ck_istore_n (lv' := [(3, .int x2), (0, .ref 74), (1, .ref 7), (2, .int x2)]) dX10_nextDayWithSuits_1 rfl (by decide) rfl ?_
    refine ck_iconst (v := 0) dX10_nextDayWithSuits_2 (by decide) ?_
    refine ck_istore (lv' := [(4, .int (0 : Int32)), (3, .int x2), (0, .ref 74), (1, .ref 7), (2, .int x2)]) dX10_nextDayWithSuits_3 (by decide) rfl ?_
    refine ck_loc [2, 3, 1, 0] rfl ?_
    refine cp_X10_nextDayWithSuits_5 (by simp) lpN _ _ _ hq
  · refine ck_entry (lv := [(0, .ref 74), (1, .ref 17), (2, .int x2)]) false (own := RX10) rfl (fun q => by cases q) (by decide) (Nat.le_of_ble_eq_true rfl) rfl ?_
    refine ck_iload_n 2 dX10_nextDayWithSuits_0 rfl rfl ?_
    refine ck_istore_n (lv' := [(3, .int x2), (0, .ref 74), (1, .ref 17), (2, .int x2)]) dX10_nextDayWithSuits_1 rfl (by decide) rfl ?_
    refine ck_iconst (v := 0) dX10_nextDayWithSuits_2 (by decide) ?_
    refine ck_istore (lv' := [(4, .int (0 : Int32)), (3, .int x2), (0, .ref 74), (1, .ref 17), (2, .int x2)]) dX10_nextDayWithSuits_3 (by decide) rfl ?_
    refine ck_loc [2, 3, 1, 0] rfl ?_
    refine cp_X10_nextDayWithSuits_5 (by simp) lpN _ _ _ hq
def wp_X10_moveTo_59 (Q : ck_H → Prop) (o1 : Nat) (x2 : Int32) (h : ck_H) : Prop := (∀ h2, h2 = ck_sI h o1 5 x2 → Q h2)
def wp_X10_moveTo (o1 : Nat) (x2 : Int32) (h : ck_H) (Q : ck_H → Prop) : Prop := (((h.1 32 13) ≤ 0 → wp_X10_moveTo_59 Q o1 x2 h) ∧ (¬ (h.1 32 13) ≤ 0 → (¬ (h.1 32 13) = 0 ∧ (¬ (h.1 32 13) = 0 ∧ (((x2 / (h.1 32 13)) ≤ ((h.1 o1 5) / (h.1 32 13)) → wp_X10_moveTo_59 Q o1 x2 h) ∧ (¬ (x2 / (h.1 32 13)) ≤ ((h.1 o1 5) / (h.1 32 13)) → (∀ h8, h8 = ck_sI h o1 6 (h.1 74 5) → (∀ h9, h9 = ck_sR h8 (o1 + 1) (va_cpy (h8.1 36) (h8.1 (o1 + 1)) (0 : Int32).toNatClampNeg (0 : Int32).toNatClampNeg (4 : Int32).toNatClampNeg) → wp_X10_moveTo_59 Q o1 x2 h9))))))))
set_option maxHeartbeats 4000000 in
set_option maxRecDepth 100000 in
theorem cp_X10_moveTo_59 {gr : Bool} {Q : ck_H → Prop} {o1 : Nat} (hc : (o1 = 7) ∨ (o1 = 17)) : ∀ (x2 : Int32) (h : ck_H), wp_X10_moveTo_59 Q o1 x2 h → ck_W cX10_moveTo 3 RX10 none 2 0 0 false gr (ck_Qv ck_shX Q) ck_shX h 0 0 59 [(1, .ref o1), (2, .int x2)] [] := by
  rcases hc with rfl | rfl
  · intro x2 h hq
    refine ck_aload_n 0 dX10_moveTo_59 rfl rfl ?_
    refine ck_iload_n 1 dX10_moveTo_60 rfl rfl ?_
    refine ck_putIN clX1 5 rfl rfl (by decide) fl_X10_51 rfl rfl rfl dX10_moveTo_61 ?_
    refine ck_nmH (fun h3 eh3 => ?_)
    have hq := hq h3 eh3
    exact ck_vret rfl rfl rfl dX10_moveTo_64 ⟨rfl, rfl, hq⟩
  · intro x2 h hq
    refine ck_aload_n 0 dX10_moveTo_59 rfl rfl ?_
    refine ck_iload_n 1 dX10_moveTo_60 rfl rfl ?_
    refine ck_putIN clX1 5 rfl rfl (by decide) fl_X10_51 rfl rfl rfl dX10_moveTo_61 ?_
    refine ck_nmH (fun h4 eh4 => ?_)
    have hq := hq h4 eh4
    exact ck_vret rfl rfl rfl dX10_moveTo_64 ⟨rfl, rfl, hq⟩
set_option maxHeartbeats 4000000 in
set_option maxRecDepth 100000 in
theorem c_X10_moveTo {gr : Bool} {x2 : Int32} {h : ck_H} {Q : ck_H → Prop} {o1 : Nat} (hc : (o1 = 7) ∨ (o1 = 17)) (hq : wp_X10_moveTo o1 x2 h Q) : ck_M yX10_moveTo cX10_moveTo 3 none 2 0 0 gr ck_shX h [.ref 74, .ref o1, .int x2] (ck_Qv ck_shX Q) := by
  rcases hc with rfl | rfl
  · refine ck_entry (lv := [(0, .ref 74), (1, .ref 7), (2, .int x2)]) false (own := RX10) rfl (fun q => by cases q) (by decide) (Nat.le_of_ble_eq_true rfl) rfl ?_
    refine ck_aload_n 0 dX10_moveTo_0 rfl rfl ?_
    refine ck_getR clX10 2 rfl rfl (by decide) fl_X10_19 dX10_moveTo_1 ?_
    refine ck_getIN clX7 13 rfl rfl (by decide) fl_X10_89 dX10_moveTo_4 ?_
    refine ck_if_le (tgt := 59) dX10_moveTo_7 (by decide) (fun c10 => ?_) (fun c10 => ?_)
    · have hq := hq.1 c10
      refine ck_loc [1, 2] rfl ?_
      exact cp_X10_moveTo_59 (by simp) _ _ hq
    · have hq := hq.2 c10
      refine ck_iload_n 2 dX10_moveTo_10 rfl rfl ?_
      refine ck_aload_n 0 dX10_moveTo_11 rfl rfl ?_
      refine ck_getR clX10 2 rfl rfl (by decide) fl_X10_19 dX10_moveTo_12 ?_
      refine ck_getIN clX7 13 rfl rfl (by decide) fl_X10_89 dX10_moveTo_15 ?_
      obtain ⟨b11, hq⟩ := hq
      refine ck_idiv dX10_moveTo_18 b11 ?_
      refine ck_aload_n 1 dX10_moveTo_19 rfl rfl ?_
      refine ck_getIN clX1 5 rfl rfl (by decide) fl_X10_51 dX10_moveTo_20 ?_
      refine ck_aload_n 0 dX10_moveTo_23 rfl rfl ?_
      refine ck_getR clX10 2 rfl rfl (by decide) fl_X10_19 dX10_moveTo_24 ?_
      refine ck_getIN clX7 13 rfl rfl (by decide) fl_X10_89 dX10_moveTo_27 ?_
      obtain ⟨b12, hq⟩ := hq
      refine ck_idiv dX10_moveTo_30 b12 ?_
      refine ck_icmp_le (tgt := 59) dX10_moveTo_31 (by decide) (fun c13 => ?_) (fun c13 => ?_)
      · have hq := hq.1 c13
        refine ck_loc [1, 2] rfl ?_
        exact cp_X10_moveTo_59 (by simp) _ _ hq
      · have hq := hq.2 c13
        refine ck_aload_n 1 dX10_moveTo_34 rfl rfl ?_
        refine ck_aload_n 0 dX10_moveTo_35 rfl rfl ?_
        refine ck_getI clX10 5 rfl rfl (by decide) fl_X10_29 dX10_moveTo_36 ?_
        refine ck_putIN clX1 6 rfl rfl (by decide) fl_X10_92 rfl rfl rfl dX10_moveTo_39 ?_
        refine ck_nmH (fun h14 eh14 => ?_)
        have hq := hq h14 eh14
        refine ck_aload_n 0 dX10_moveTo_42 rfl rfl ?_
        refine ck_getR clX10 2 rfl rfl (by decide) fl_X10_19 dX10_moveTo_43 ?_
        refine ck_getRN clX7 2 rfl rfl (by decide) fl_X10_93 dX10_moveTo_46 ?_
        refine ck_iconst (v := 0) dX10_moveTo_49 (by decide) ?_
        refine ck_aload_n 1 dX10_moveTo_50 rfl rfl ?_
        refine ck_getRN clX1 0 rfl rfl (by decide) fl_X10_96 dX10_moveTo_51 ?_
        refine ck_iconst (v := 0) dX10_moveTo_54 (by decide) ?_
        refine ck_iconst (v := 4) dX10_moveTo_55 (by decide) ?_
        refine ck_acopy rfl rfl ml_X10_97 w_acopy (by decide) (by decide) (by decide) (by decide) (by decide) (by decide) (Nat.le_of_ble_eq_true rfl) dX10_moveTo_56 ?_
        refine ck_nmH (fun h15 eh15 => ?_)
        have hq := hq h15 eh15
        refine ck_loc [1, 2] rfl ?_
        exact cp_X10_moveTo_59 (by simp) _ _ hq
  · refine ck_entry (lv := [(0, .ref 74), (1, .ref 17), (2, .int x2)]) false (own := RX10) rfl (fun q => by cases q) (by decide) (Nat.le_of_ble_eq_true rfl) rfl ?_
    refine ck_aload_n 0 dX10_moveTo_0 rfl rfl ?_
    refine ck_getR clX10 2 rfl rfl (by decide) fl_X10_19 dX10_moveTo_1 ?_
    refine ck_getIN clX7 13 rfl rfl (by decide) fl_X10_89 dX10_moveTo_4 ?_
    refine ck_if_le (tgt := 59) dX10_moveTo_7 (by decide) (fun c16 => ?_) (fun c16 => ?_)
    · have hq := hq.1 c16
      refine ck_loc [1, 2] rfl ?_
      exact cp_X10_moveTo_59 (by simp) _ _ hq
    · have hq := hq.2 c16
      refine ck_iload_n 2 dX10_moveTo_10 rfl rfl ?_
      refine ck_aload_n 0 dX10_moveTo_11 rfl rfl ?_
      refine ck_getR clX10 2 rfl rfl (by decide) fl_X10_19 dX10_moveTo_12 ?_
      refine ck_getIN clX7 13 rfl rfl (by decide) fl_X10_89 dX10_moveTo_15 ?_
      obtain ⟨b17, hq⟩ := hq
      refine ck_idiv dX10_moveTo_18 b17 ?_
      refine ck_aload_n 1 dX10_moveTo_19 rfl rfl ?_
      refine ck_getIN clX1 5 rfl rfl (by decide) fl_X10_51 dX10_moveTo_20 ?_
      refine ck_aload_n 0 dX10_moveTo_23 rfl rfl ?_
      refine ck_getR clX10 2 rfl rfl (by decide) fl_X10_19 dX10_moveTo_24 ?_
      refine ck_getIN clX7 13 rfl rfl (by decide) fl_X10_89 dX10_moveTo_27 ?_
      obtain ⟨b18, hq⟩ := hq
      refine ck_idiv dX10_moveTo_30 b18 ?_
      refine ck_icmp_le (tgt := 59) dX10_moveTo_31 (by decide) (fun c19 => ?_) (fun c19 => ?_)
      · have hq := hq.1 c19
        refine ck_loc [1, 2] rfl ?_
        exact cp_X10_moveTo_59 (by simp) _ _ hq
      · have hq := hq.2 c19
        refine ck_aload_n 1 dX10_moveTo_34 rfl rfl ?_
        refine ck_aload_n 0 dX10_moveTo_35 rfl rfl ?_
        refine ck_getI clX10 5 rfl rfl (by decide) fl_X10_29 dX10_moveTo_36 ?_
        refine ck_putIN clX1 6 rfl rfl (by decide) fl_X10_92 rfl rfl rfl dX10_moveTo_39 ?_
        refine ck_nmH (fun h20 eh20 => ?_)
        have hq := hq h20 eh20
        refine ck_aload_n 0 dX10_moveTo_42 rfl rfl ?_
        refine ck_getR clX10 2 rfl rfl (by decide) fl_X10_19 dX10_moveTo_43 ?_
        refine ck_getRN clX7 2 rfl rfl (by decide) fl_X10_93 dX10_moveTo_46 ?_
        refine ck_iconst (v := 0) dX10_moveTo_49 (by decide) ?_
        refine ck_aload_n 1 dX10_moveTo_50 rfl rfl ?_
        refine ck_getRN clX1 0 rfl rfl (by decide) fl_X10_96 dX10_moveTo_51 ?_
        refine ck_iconst (v := 0) dX10_moveTo_54 (by decide) ?_
        refine ck_iconst (v := 4) dX10_moveTo_55 (by decide) ?_
        refine ck_acopy rfl rfl ml_X10_97 w_acopy (by decide) (by decide) (by decide) (by decide) (by decide) (by decide) (Nat.le_of_ble_eq_true rfl) dX10_moveTo_56 ?_
        refine ck_nmH (fun h21 eh21 => ?_)
        have hq := hq h21 eh21
        refine ck_loc [1, 2] rfl ?_
        exact cp_X10_moveTo_59 (by simp) _ _ hq
def wp_X10_hardnessOf (o1 : Nat) (x2 : Int32) (h : ck_H) (Q : Int32 → ck_H → Prop) : Prop := (vp_in x2 10 ∧ (vp_in (h.1 45 x2.toNatClampNeg) 6 ∧ (∀ v3, v3 = (h.1 39 (h.1 45 x2.toNatClampNeg).toNatClampNeg) → (wp_X1_hasStone o1 x2 h (fun r5 h4 => ((r5 = 0 → Q v3 h4) ∧ (¬ r5 = 0 → ((¬ (h4.1 74 8) = 0 → Q v3 h4) ∧ ((h4.1 74 8) = 0 → Q (v3 + (30 : Int32)) h4)))))))))
set_option maxHeartbeats 4000000 in
set_option maxRecDepth 100000 in
theorem c_X10_hardnessOf {gr : Bool} {x2 : Int32} {h : ck_H} {Q : Int32 → ck_H → Prop} {o1 : Nat} (hc : (o1 = 7) ∨ (o1 = 17)) (hq : wp_X10_hardnessOf o1 x2 h Q) : ck_M yX10_hardnessOf cX10_hardnessOf 4 (some .int) 3 0 0 gr ck_shX h [.ref 74, .ref o1, .int x2] (ck_Qi ck_shX Q) := by
  rcases hc with rfl | rfl
  · refine ck_entry (lv := [(0, .ref 74), (1, .ref 7), (2, .int x2)]) false (own := RX10) rfl (fun q => by cases q) (by decide) (Nat.le_of_ble_eq_true rfl) rfl ?_
    refine ck_aload_n 0 dX10_hardnessOf_0 rfl rfl ?_
    refine ck_getR clX10 2 rfl rfl (by decide) fl_X10_19 dX10_hardnessOf_1 ?_
    refine ck_getRN clX7 4 rfl rfl (by decide) fl_X10_129 dX10_hardnessOf_4 ?_
    refine ck_aload_n 0 dX10_hardnessOf_7 rfl rfl ?_
    refine ck_getR clX10 2 rfl rfl (by decide) fl_X10_19 dX10_hardnessOf_8 ?_
    refine ck_getRN clX7 9 rfl rfl (by decide) fl_X10_110 dX10_hardnessOf_11 ?_
    refine ck_iload_n 2 dX10_hardnessOf_14 rfl rfl ?_
    obtain ⟨b8, hq⟩ := hq
    refine ck_iald rfl rfl b8 dX10_hardnessOf_15 ?_
    obtain ⟨b9, hq⟩ := hq
    refine ck_iald rfl rfl b9 dX10_hardnessOf_16 ?_
    refine ck_nmI (fun v10 ev10 => ?_)
    have hq := hq v10 ev10
    refine ck_istore_n (lv' := [(3, .int v10), (0, .ref 74), (1, .ref 7), (2, .int x2)]) dX10_hardnessOf_17 rfl (by decide) rfl ?_
    refine ck_aload_n 2 dX10_hardnessOf_18 rfl rfl ?_
    refine ck_iload_n 3 dX10_hardnessOf_19 rfl rfl ?_
    refine ck_callV (c_X1_hasStone (by simp) hq) rfl cal_X1_hasStone rfl ml_X10_132 vir_X1_hasStone rfl rfl (by decide) (Nat.le_of_ble_eq_true rfl) (Nat.le_of_ble_eq_true rfl) (by decide) (by decide) dX10_hardnessOf_20 ?_
    rintro _ _ h11 ⟨r12, rfl, rfl, hq⟩
    refine ck_if_eq (tgt := 40) dX10_hardnessOf_23 (by decide) (fun c13 => ?_) (fun c13 => ?_)
    · have hq := hq.1 c13
      refine ck_iload_n 0 dX10_hardnessOf_40 rfl rfl ?_
      exact ck_iret rfl rfl rfl rfl dX10_hardnessOf_41 ⟨_, rfl, rfl, hq⟩
    · have hq := hq.2 c13
      refine ck_aload_n 1 dX10_hardnessOf_26 rfl rfl ?_
      refine ck_getI clX10 8 rfl rfl (by decide) fl_X10_39 dX10_hardnessOf_27 ?_
      refine ck_if_ne (tgt := 40) dX10_hardnessOf_30 (by decide) (fun c14 => ?_) (fun c14 => ?_)
      · have hq := hq.1 c14
        refine ck_iload_n 0 dX10_hardnessOf_40 rfl rfl ?_
        exact ck_iret rfl rfl rfl rfl dX10_hardnessOf_41 ⟨_, rfl, rfl, hq⟩
      · have hq := hq.2 c14
        refine ck_iload_n 0 dX10_hardnessOf_33 rfl rfl ?_
        refine ck_bipush (v := 30) dX10_hardnessOf_34 (by decide) ?_
        refine ck_iadd dX10_hardnessOf_36 ?_
        refine ck_goto (tgt := 41) dX10_hardnessOf_37 (by decide) ?_
        exact ck_iret rfl rfl rfl rfl dX10_hardnessOf_41 ⟨_, rfl, rfl, hq⟩
  · refine ck_entry (lv := [(0, .ref 74), (1, .ref 17), (2, .int x2)]) false (own := RX10) rfl (fun q => by cases q) (by decide) (Nat.le_of_ble_eq_true rfl) rfl ?_
    refine ck_aload_n 0 dX10_hardnessOf_0 rfl rfl ?_
    refine ck_getR clX10 2 rfl rfl (by decide) fl_X10_19 dX10_hardnessOf_1 ?_
    refine ck_getRN clX7 4 rfl rfl (by decide) fl_X10_129 dX10_hardnessOf_4 ?_
    refine ck_aload_n 0 dX10_hardnessOf_7 rfl rfl ?_
    refine ck_getR clX10 2 rfl rfl (by decide) fl_X10_19 dX10_hardnessOf_8 ?_
    refine ck_getRN clX7 9 rfl rfl (by decide) fl_X10_110 dX10_hardnessOf_11 ?_
    refine ck_iload_n 2 dX10_hardnessOf_14 rfl rfl ?_
    obtain ⟨b15, hq⟩ := hq
    refine ck_iald rfl rfl b15 dX10_hardnessOf_15 ?_
    obtain ⟨b16, hq⟩ := hq
    refine ck_iald rfl rfl b16 dX10_hardnessOf_16 ?_
    refine ck_nmI (fun v17 ev17 => ?_)
    have hq := hq v17 ev17
    refine ck_istore_n (lv' := [(3, .int v17), (0, .ref 74), (1, .ref 17), (2, .int x2)]) dX10_hardnessOf_17 rfl (by decide) rfl ?_
    refine ck_aload_n 2 dX10_hardnessOf_18 rfl rfl ?_
    refine ck_iload_n 3 dX10_hardnessOf_19 rfl rfl ?_
    refine ck_callV (c_X1_hasStone (by simp) hq) rfl cal_X1_hasStone rfl ml_X10_132 vir_X1_hasStone rfl rfl (by decide) (Nat.le_of_ble_eq_true rfl) (Nat.le_of_ble_eq_true rfl) (by decide) (by decide) dX10_hardnessOf_20 ?_
    rintro _ _ h18 ⟨r19, rfl, rfl, hq⟩
    refine ck_if_eq (tgt := 40) dX10_hardnessOf_23 (by decide) (fun c20 => ?_) (fun c20 => ?_)
    · have hq := hq.1 c20
      refine ck_iload_n 0 dX10_hardnessOf_40 rfl rfl ?_
      exact ck_iret rfl rfl rfl rfl dX10_hardnessOf_41 ⟨_, rfl, rfl, hq⟩
    · have hq := hq.2 c20
      refine ck_aload_n 1 dX10_hardnessOf_26 rfl rfl ?_
      refine ck_getI clX10 8 rfl rfl (by decide) fl_X10_39 dX10_hardnessOf_27 ?_
      refine ck_if_ne (tgt := 40) dX10_hardnessOf_30 (by decide) (fun c21 => ?_) (fun c21 => ?_)
      · have hq := hq.1 c21
        refine ck_iload_n 0 dX10_hardnessOf_40 rfl rfl ?_
        exact ck_iret rfl rfl rfl rfl dX10_hardnessOf_41 ⟨_, rfl, rfl, hq⟩
      · have hq := hq.2 c21
        refine ck_iload_n 0 dX10_hardnessOf_33 rfl rfl ?_
        refine ck_bipush (v := 30) dX10_hardnessOf_34 (by decide) ?_
        refine ck_iadd dX10_hardnessOf_36 ?_
        refine ck_goto (tgt := 41) dX10_hardnessOf_37 (by decide) ?_
        exact ck_iret rfl rfl rfl rfl dX10_hardnessOf_41 ⟨_, rfl, rfl, hq⟩
def wp_X10_drawn (h : ck_H) (Q : Int32 → ck_H → Prop) : Prop := (∀ h1, h1 = ck_sL h 74 11 ((((h.2 74 11) * (1103515245 : Int64)) + (12345 : Int64)) &&& (2147483647 : Int64)) → Q ((h1.2 74 11) / (65536 : Int64)).toInt32 h1)
set_option maxHeartbeats 4000000 in
set_option maxRecDepth 100000 in
theorem c_X10_drawn {gr : Bool} {h : ck_H} {Q : Int32 → ck_H → Prop} (hq : wp_X10_drawn h Q) : ck_M yX10_drawn cX10_drawn 1 (some .int) 2 0 0 gr ck_shX h [.ref 74] (ck_Qi ck_shX Q) := by
  refine ck_entry (lv := [(0, .ref 74)]) false (own := RX10) rfl (fun q => by cases q) (by decide) (Nat.le_of_ble_eq_true rfl) rfl ?_
  refine ck_aload_n 0 dX10_drawn_0 rfl rfl ?_
  refine ck_aload_n 0 dX10_drawn_1 rfl rfl ?_
  refine ck_getL clX10 11 rfl rfl (by decide) fl_X10_136 dX10_drawn_2 ?_
  refine ck_ldc2 con_X10_140 dX10_drawn_5 ?_
  refine ck_lmul dX10_drawn_8 ?_
  refine ck_ldc2 con_X10_142 dX10_drawn_9 ?_
  refine ck_ladd dX10_drawn_12 ?_
  refine ck_ldc2 con_X10_144 dX10_drawn_13 ?_
  refine ck_land dX10_drawn_16 ?_
  refine ck_putL clX10 11 rfl rfl (by decide) fl_X10_136 rfl rfl rfl dX10_drawn_17 ?_
  refine ck_nmH (fun h1 eh1 => ?_)
  have hq := hq h1 eh1
  refine ck_aload_n 0 dX10_drawn_20 rfl rfl ?_
  refine ck_getL clX10 11 rfl rfl (by decide) fl_X10_136 dX10_drawn_21 ?_
  refine ck_ldc2 con_X10_146 dX10_drawn_24 ?_
  refine ck_ldiv dX10_drawn_27 (by decide) ?_
  refine ck_l2i dX10_drawn_28 ?_
  exact ck_iret rfl rfl rfl rfl dX10_drawn_29 ⟨_, rfl, rfl, hq⟩
def wp_X10_wear_61 (Q : ck_H → Prop) (o1 : Nat) (y1 : Int32) (y2 : Int32) (h : ck_H) : Prop := (∀ h9, h9 = ck_sI h o1 6 (y1 - y2) → (((1 : Int32) ≤ (h9.1 o1 6) → Q h9) ∧ (¬ (1 : Int32) ≤ (h9.1 o1 6) → (∀ h11, h11 = ck_sI h9 o1 6 (1 : Int32) → Q h11))))
def wp_X10_wear (o1 : Nat) (x2 : Int32) (h : ck_H) (Q : ck_H → Prop) : Prop := (((h.1 74 6) = 0 → (vp_in x2 4 ∧ (∀ h3, h3 = ck_sL h 75 5 (h.1 76 x2.toNatClampNeg).toInt64 → (wp_X4_worked (2 : Int32) h3 (fun r5 h4 => ((¬ (lg_cmp r5 (-9223372036854775808 : Int64)) = 0 → (wp_X10_within r5 (0 : Int32) (9 : Int32) h4 (fun r8 h7 => wp_X10_wear_61 Q o1 (h4.1 o1 6) r8 h7))) ∧ ((lg_cmp r5 (-9223372036854775808 : Int64)) = 0 → wp_X10_wear_61 Q o1 (h4.1 o1 6) (1 : Int32) h4))))))) ∧ (¬ (h.1 74 6) = 0 → Q h))
set_option maxHeartbeats 4000000 in
set_option maxRecDepth 100000 in
theorem cp_X10_wear_61 {gr : Bool} {Q : ck_H → Prop} {o1 : Nat} (hc : (o1 = 7) ∨ (o1 = 17)) : ∀ (y1 : Int32) (y2 : Int32) (h : ck_H), wp_X10_wear_61 Q o1 y1 y2 h → ck_W cX10_wear 5 RX10 none 5 0 0 false gr (ck_Qv ck_shX Q) ck_shX h 0 0 61 [(1, .ref o1)] [.int y2, .int y1, .ref o1] := by
  rcases hc with rfl | rfl
  · intro y1 y2 h hq
    refine ck_isub dX10_wear_61 ?_
    refine ck_putIN clX1 6 rfl rfl (by decide) fl_X10_92 rfl rfl rfl dX10_wear_62 ?_
    refine ck_nmH (fun h12 eh12 => ?_)
    have hq := hq h12 eh12
    refine ck_aload_n 0 dX10_wear_65 rfl rfl ?_
    refine ck_getIN clX1 6 rfl rfl (by decide) fl_X10_92 dX10_wear_66 ?_
    refine ck_iconst (v := 1) dX10_wear_69 (by decide) ?_
    refine ck_icmp_ge (tgt := 78) dX10_wear_70 (by decide) (fun c13 => ?_) (fun c13 => ?_)
    · have hq := hq.1 c13
      exact ck_vret rfl rfl rfl dX10_wear_78 ⟨rfl, rfl, hq⟩
    · have hq := hq.2 c13
      refine ck_aload_n 0 dX10_wear_73 rfl rfl ?_
      refine ck_iconst (v := 1) dX10_wear_74 (by decide) ?_
      refine ck_putIN clX1 6 rfl rfl (by decide) fl_X10_92 rfl rfl rfl dX10_wear_75 ?_
      refine ck_nmH (fun h14 eh14 => ?_)
      have hq := hq h14 eh14
      exact ck_vret rfl rfl rfl dX10_wear_78 ⟨rfl, rfl, hq⟩
  · intro y1 y2 h hq
    refine ck_isub dX10_wear_61 ?_
    refine ck_putIN clX1 6 rfl rfl (by decide) fl_X10_92 rfl rfl rfl dX10_wear_62 ?_
    refine ck_nmH (fun h15 eh15 => ?_)
    have hq := hq h15 eh15
    refine ck_aload_n 0 dX10_wear_65 rfl rfl ?_
    refine ck_getIN clX1 6 rfl rfl (by decide) fl_X10_92 dX10_wear_66 ?_
    refine ck_iconst (v := 1) dX10_wear_69 (by decide) ?_
    refine ck_icmp_ge (tgt := 78) dX10_wear_70 (by decide) (fun c16 => ?_) (fun c16 => ?_)
    · have hq := hq.1 c16
      exact ck_vret rfl rfl rfl dX10_wear_78 ⟨rfl, rfl, hq⟩
    · have hq := hq.2 c16
      refine ck_aload_n 0 dX10_wear_73 rfl rfl ?_
      refine ck_iconst (v := 1) dX10_wear_74 (by decide) ?_
      refine ck_putIN clX1 6 rfl rfl (by decide) fl_X10_92 rfl rfl rfl dX10_wear_75 ?_
      refine ck_nmH (fun h17 eh17 => ?_)
      have hq := hq h17 eh17
      exact ck_vret rfl rfl rfl dX10_wear_78 ⟨rfl, rfl, hq⟩
set_option maxHeartbeats 4000000 in
set_option maxRecDepth 100000 in
theorem c_X10_wear {gr : Bool} {x2 : Int32} {h : ck_H} {Q : ck_H → Prop} {o1 : Nat} (hc : (o1 = 7) ∨ (o1 = 17)) (hq : wp_X10_wear o1 x2 h Q) : ck_M yX10_wear cX10_wear 5 none 5 0 0 gr ck_shX h [.ref 74, .ref o1, .int x2] (ck_Qv ck_shX Q) := by
  rcases hc with rfl | rfl
  · refine ck_entry (lv := [(0, .ref 74), (1, .ref 7), (2, .int x2)]) false (own := RX10) rfl (fun q => by cases q) (by decide) (Nat.le_of_ble_eq_true rfl) rfl ?_
    refine ck_aload_n 0 dX10_wear_0 rfl rfl ?_
    refine ck_getI clX10 6 rfl rfl (by decide) fl_X10_32 dX10_wear_1 ?_
    refine ck_if_eq (tgt := 8) dX10_wear_4 (by decide) (fun c18 => ?_) (fun c18 => ?_)
    · have hq := hq.1 c18
      refine ck_aload_n 0 dX10_wear_8 rfl rfl ?_
      refine ck_getR clX10 0 rfl rfl (by decide) fl_X10_9 dX10_wear_9 ?_
      refine ck_iconst (v := 5) dX10_wear_12 (by decide) ?_
      refine ck_aload_n 0 dX10_wear_13 rfl rfl ?_
      refine ck_getR clX10 1 rfl rfl (by decide) fl_X10_15 dX10_wear_14 ?_
      refine ck_iload_n 2 dX10_wear_17 rfl rfl ?_
      obtain ⟨b19, hq⟩ := hq
      refine ck_iald rfl rfl b19 dX10_wear_18 ?_
      refine ck_i2l dX10_wear_19 ?_
      refine ck_last (j := 5) (by decide) rfl (ck_inL (by decide)) dX10_wear_20 ?_
      refine ck_nmH (fun h20 eh20 => ?_)
      have hq := hq h20 eh20
      refine ck_aload_n 0 dX10_wear_21 rfl rfl ?_
      refine ck_getR clX10 2 rfl rfl (by decide) fl_X10_19 dX10_wear_22 ?_
      refine ck_getRN clX7 11 rfl rfl (by decide) fl_X10_154 dX10_wear_25 ?_
      refine ck_iconst (v := 2) dX10_wear_28 (by decide) ?_
      refine ck_aload_n 0 dX10_wear_29 rfl rfl ?_
      refine ck_getR clX10 0 rfl rfl (by decide) fl_X10_9 dX10_wear_30 ?_
      refine ck_callV (c_X4_worked hq) rfl cal_X4_worked rfl ml_X10_158 vir_X4_worked rfl rfl (by decide) (Nat.le_of_ble_eq_true rfl) (Nat.le_of_ble_eq_true rfl) (by decide) (by decide) dX10_wear_33 ?_
      rintro _ _ h21 ⟨r22, rfl, rfl, hq⟩
      refine ck_lstore_n (lv' := [(3, .long r22), (0, .ref 74), (1, .ref 7), (2, .int x2)]) dX10_wear_36 rfl (by decide) rfl ?_
      refine ck_aload_n 2 dX10_wear_37 rfl rfl ?_
      refine ck_dup dX10_wear_38 rfl ?_
      refine ck_getIN clX1 6 rfl rfl (by decide) fl_X10_92 dX10_wear_39 ?_
      refine ck_lload_n 0 dX10_wear_42 rfl rfl ?_
      refine ck_ldc2 con_X10_164 dX10_wear_43 ?_
      refine ck_lcmp dX10_wear_46 ?_
      refine ck_if_ne (tgt := 54) dX10_wear_47 (by decide) (fun c23 => ?_) (fun c23 => ?_)
      · have hq := hq.1 c23
        refine ck_lload_n 0 dX10_wear_54 rfl rfl ?_
        refine ck_iconst (v := 0) dX10_wear_55 (by decide) ?_
        refine ck_bipush (v := 9) dX10_wear_56 (by decide) ?_
        refine ck_callS (c_X10_within hq) rfl cal_X10_within rfl ml_X10_166 sta_X10_within (by decide) (Nat.le_of_ble_eq_true rfl) (Nat.le_of_ble_eq_true rfl) (by decide) (by decide) dX10_wear_58 ?_
        rintro _ _ h24 ⟨r25, rfl, rfl, hq⟩
        refine ck_loc [2] rfl ?_
        exact cp_X10_wear_61 (by simp) _ _ _ hq
      · have hq := hq.2 c23
        refine ck_iconst (v := 1) dX10_wear_50 (by decide) ?_
        refine ck_goto (tgt := 61) dX10_wear_51 (by decide) ?_
        refine ck_loc [2] rfl ?_
        exact cp_X10_wear_61 (by simp) _ _ _ hq
    · have hq := hq.2 c18
      exact ck_vret rfl rfl rfl dX10_wear_7 ⟨rfl, rfl, hq⟩
  · refine ck_entry (lv := [(0, .ref 74), (1, .ref 17), (2, .int x2)]) false (own := RX10) rfl (fun q => by cases q) (by decide) (Nat.le_of_ble_eq_true rfl) rfl ?_
    refine ck_aload_n 0 dX10_wear_0 rfl rfl ?_
    refine ck_getI clX10 6 rfl rfl (by decide) fl_X10_32 dX10_wear_1 ?_
    refine ck_if_eq (tgt := 8) dX10_wear_4 (by decide) (fun c26 => ?_) (fun c26 => ?_)
    · have hq := hq.1 c26
      refine ck_aload_n 0 dX10_wear_8 rfl rfl ?_
      refine ck_getR clX10 0 rfl rfl (by decide) fl_X10_9 dX10_wear_9 ?_
      refine ck_iconst (v := 5) dX10_wear_12 (by decide) ?_
      refine ck_aload_n 0 dX10_wear_13 rfl rfl ?_
      refine ck_getR clX10 1 rfl rfl (by decide) fl_X10_15 dX10_wear_14 ?_
      refine ck_iload_n 2 dX10_wear_17 rfl rfl ?_
      obtain ⟨b27, hq⟩ := hq
      refine ck_iald rfl rfl b27 dX10_wear_18 ?_
      refine ck_i2l dX10_wear_19 ?_
      refine ck_last (j := 5) (by decide) rfl (ck_inL (by decide)) dX10_wear_20 ?_
      refine ck_nmH (fun h28 eh28 => ?_)
      have hq := hq h28 eh28
      refine ck_aload_n 0 dX10_wear_21 rfl rfl ?_
      refine ck_getR clX10 2 rfl rfl (by decide) fl_X10_19 dX10_wear_22 ?_
      refine ck_getRN clX7 11 rfl rfl (by decide) fl_X10_154 dX10_wear_25 ?_
      refine ck_iconst (v := 2) dX10_wear_28 (by decide) ?_
      refine ck_aload_n 0 dX10_wear_29 rfl rfl ?_
      refine ck_getR clX10 0 rfl rfl (by decide) fl_X10_9 dX10_wear_30 ?_
      refine ck_callV (c_X4_worked hq) rfl cal_X4_worked rfl ml_X10_158 vir_X4_worked rfl rfl (by decide) (Nat.le_of_ble_eq_true rfl) (Nat.le_of_ble_eq_true rfl) (by decide) (by decide) dX10_wear_33 ?_
      rintro _ _ h29 ⟨r30, rfl, rfl, hq⟩
      refine ck_lstore_n (lv' := [(3, .long r30), (0, .ref 74), (1, .ref 17), (2, .int x2)]) dX10_wear_36 rfl (by decide) rfl ?_
      refine ck_aload_n 2 dX10_wear_37 rfl rfl ?_
      refine ck_dup dX10_wear_38 rfl ?_
      refine ck_getIN clX1 6 rfl rfl (by decide) fl_X10_92 dX10_wear_39 ?_
      refine ck_lload_n 0 dX10_wear_42 rfl rfl ?_
      refine ck_ldc2 con_X10_164 dX10_wear_43 ?_
      refine ck_lcmp dX10_wear_46 ?_
      refine ck_if_ne (tgt := 54) dX10_wear_47 (by decide) (fun c31 => ?_) (fun c31 => ?_)
      · have hq := hq.1 c31
        refine ck_lload_n 0 dX10_wear_54 rfl rfl ?_
        refine ck_iconst (v := 0) dX10_wear_55 (by decide) ?_
        refine ck_bipush (v := 9) dX10_wear_56 (by decide) ?_
        refine ck_callS (c_X10_within hq) rfl cal_X10_within rfl ml_X10_166 sta_X10_within (by decide) (Nat.le_of_ble_eq_true rfl) (Nat.le_of_ble_eq_true rfl) (by decide) (by decide) dX10_wear_58 ?_
        rintro _ _ h32 ⟨r33, rfl, rfl, hq⟩
        refine ck_loc [2] rfl ?_
        exact cp_X10_wear_61 (by simp) _ _ _ hq
      · have hq := hq.2 c31
        refine ck_iconst (v := 1) dX10_wear_50 (by decide) ?_
        refine ck_goto (tgt := 61) dX10_wear_51 (by decide) ?_
        refine ck_loc [2] rfl ?_
        exact cp_X10_wear_61 (by simp) _ _ _ hq
    · have hq := hq.2 c26
      exact ck_vret rfl rfl rfl dX10_wear_7 ⟨rfl, rfl, hq⟩
def wp_X10_tryOne_31 (Q : ck_H → Prop) (o1 : Nat) (x2 : Int32) (x3 : Int32) (y0 : Int32) (y1 : Int32) (h : ck_H) : Prop := (∀ v6, v6 = (y0 + y1) → (vp_in x2 10 ∧ (wp_X10_measured o1 x3 (h.1 45 x2.toNatClampNeg) v6 h (fun r9 h8 => (vp_in x2 10 ∧ (∀ h11, h11 = ck_sI h8 (o1 + 4) x2.toNatClampNeg r9 → (vp_in x3 4 ∧ (vp_in x3 4 ∧ (∀ h14, h14 = ck_sI h11 76 x3.toNatClampNeg ((h11.1 76 x3.toNatClampNeg) + (1 : Int32)) → ((r9 = 0 → (((v6 - (h14.1 74 3)) < ((2 : Int32) * (h14.1 74 4)) → Q h14) ∧ (¬ (v6 - (h14.1 74 3)) < ((2 : Int32) * (h14.1 74 4)) → (vp_in x3 4 ∧ (((h14.1 (o1 + 1) x3.toNatClampNeg) ≤ 0 → Q h14) ∧ (¬ (h14.1 (o1 + 1) x3.toNatClampNeg) ≤ 0 → (vp_in x3 4 ∧ (vp_in x3 4 ∧ (∀ h21, h21 = ck_sI h14 (o1 + 1) x3.toNatClampNeg ((h14.1 (o1 + 1) x3.toNatClampNeg) - (1 : Int32)) → (∀ h22, h22 = ck_sI h21 o1 7 ((h21.1 o1 7) + (1 : Int32)) → Q h22)))))))))) ∧ (¬ r9 = 0 → (wp_X10_wear o1 x3 h14 (fun h23 => Q h23)))))))))))))
def wp_X10_tryOne (o1 : Nat) (x2 : Int32) (h : ck_H) (Q : ck_H → Prop) : Prop := (vp_in x2 10 ∧ (∀ v2, v2 = (h.1 (o1 + 2) x2.toNatClampNeg) → (wp_X10_hardnessOf o1 x2 h (fun r4 h3 => (((h3.1 74 10) = 0 → wp_X10_tryOne_31 Q o1 x2 v2 r4 (0 : Int32) h3) ∧ (¬ (h3.1 74 10) = 0 → (wp_X10_drawn h3 (fun r61 h60 => wp_X10_tryOne_31 Q o1 x2 v2 r4 (ck_rem r61 (10 : Int32)) h60))))))))
set_option maxHeartbeats 4000000 in
set_option maxRecDepth 100000 in
theorem cp_X10_tryOne_31 {gr : Bool} {Q : ck_H → Prop} {o1 : Nat} (hc : (o1 = 7) ∨ (o1 = 17)) : ∀ (x2 : Int32) (x3 : Int32) (y0 : Int32) (y1 : Int32) (h : ck_H), wp_X10_tryOne_31 Q o1 x2 x3 y0 y1 h → ck_W cX10_tryOne 6 RX10 none 6 0 0 false gr (ck_Qv ck_shX Q) ck_shX h 0 0 31 [(0, .ref 74), (1, .ref o1), (2, .int x2), (3, .int x3)] [.int y1, .int y0] := by
  rcases hc with rfl | rfl
  · intro x2 x3 y0 y1 h hq
    refine ck_iadd dX10_tryOne_31 ?_
    refine ck_nmI (fun v24 ev24 => ?_)
    have hq := hq v24 ev24
    refine ck_istore (lv' := [(4, .int v24), (0, .ref 74), (1, .ref 7), (2, .int x2), (3, .int x3)]) dX10_tryOne_32 (by decide) rfl ?_
    refine ck_aload_n 1 dX10_tryOne_34 rfl rfl ?_
    refine ck_aload_n 2 dX10_tryOne_35 rfl rfl ?_
    refine ck_iload_n 4 dX10_tryOne_36 rfl rfl ?_
    refine ck_aload_n 1 dX10_tryOne_37 rfl rfl ?_
    refine ck_getR clX10 2 rfl rfl (by decide) fl_X10_19 dX10_tryOne_38 ?_
    refine ck_getRN clX7 9 rfl rfl (by decide) fl_X10_110 dX10_tryOne_41 ?_
    refine ck_iload_n 3 dX10_tryOne_44 rfl rfl ?_
    obtain ⟨b25, hq⟩ := hq
    refine ck_iald rfl rfl b25 dX10_tryOne_45 ?_
    refine ck_iload 0 dX10_tryOne_46 rfl ?_
    refine ck_callV (c_X10_measured (by simp) hq) rfl cal_X10_measured rfl ml_X10_113 vir_X10_measured rfl rfl (by decide) (Nat.le_of_ble_eq_true rfl) (Nat.le_of_ble_eq_true rfl) (by decide) (by decide) dX10_tryOne_48 ?_
    rintro _ _ h26 ⟨r27, rfl, rfl, hq⟩
    refine ck_istore (lv' := [(5, .int r27), (4, .int v24), (0, .ref 74), (1, .ref 7), (2, .int x2), (3, .int x3)]) dX10_tryOne_51 (by decide) rfl ?_
    refine ck_aload_n 3 dX10_tryOne_53 rfl rfl ?_
    refine ck_getRN clX1 3 rfl rfl (by decide) fl_X10_83 dX10_tryOne_54 ?_
    refine ck_iload_n 4 dX10_tryOne_57 rfl rfl ?_
    refine ck_iload 0 dX10_tryOne_58 rfl ?_
    obtain ⟨b28, hq⟩ := hq
    refine ck_iast rfl rfl b28 dX10_tryOne_60 ?_
    refine ck_nmH (fun h29 eh29 => ?_)
    have hq := hq h29 eh29
    refine ck_aload_n 2 dX10_tryOne_61 rfl rfl ?_
    refine ck_getR clX10 1 rfl rfl (by decide) fl_X10_15 dX10_tryOne_62 ?_
    refine ck_iload_n 5 dX10_tryOne_65 rfl rfl ?_
    refine ck_dup2 dX10_tryOne_66 rfl rfl ?_
    obtain ⟨b30, hq⟩ := hq
    refine ck_iald rfl rfl b30 dX10_tryOne_67 ?_
    refine ck_iconst (v := 1) dX10_tryOne_68 (by decide) ?_
    refine ck_iadd dX10_tryOne_69 ?_
    obtain ⟨b31, hq⟩ := hq
    refine ck_iast rfl rfl b31 dX10_tryOne_70 ?_
    refine ck_nmH (fun h32 eh32 => ?_)
    have hq := hq h32 eh32
    refine ck_iload 0 dX10_tryOne_71 rfl ?_
    refine ck_if_eq (tgt := 85) dX10_tryOne_73 (by decide) (fun c33 => ?_) (fun c33 => ?_)
    · have hq := hq.1 c33
      refine ck_iload 1 dX10_tryOne_85 rfl ?_
      refine ck_aload_n 2 dX10_tryOne_87 rfl rfl ?_
      refine ck_getI clX10 3 rfl rfl (by decide) fl_X10_120 dX10_tryOne_88 ?_
      refine ck_isub dX10_tryOne_91 ?_
      refine ck_iconst (v := 2) dX10_tryOne_92 (by decide) ?_
      refine ck_aload_n 2 dX10_tryOne_93 rfl rfl ?_
      refine ck_getI clX10 4 rfl rfl (by decide) fl_X10_123 dX10_tryOne_94 ?_
      refine ck_imul dX10_tryOne_97 ?_
      refine ck_icmp_lt (tgt := 130) dX10_tryOne_98 (by decide) (fun c34 => ?_) (fun c34 => ?_)
      · have hq := hq.1 c34
        exact ck_vret rfl rfl rfl dX10_tryOne_130 ⟨rfl, rfl, hq⟩
      · have hq := hq.2 c34
        refine ck_aload_n 3 dX10_tryOne_101 rfl rfl ?_
        refine ck_getRN clX1 0 rfl rfl (by decide) fl_X10_96 dX10_tryOne_102 ?_
        refine ck_iload_n 5 dX10_tryOne_105 rfl rfl ?_
        obtain ⟨b35, hq⟩ := hq
        refine ck_iald rfl rfl b35 dX10_tryOne_106 ?_
        refine ck_if_le (tgt := 130) dX10_tryOne_107 (by decide) (fun c36 => ?_) (fun c36 => ?_)
        · have hq := hq.1 c36
          exact ck_vret rfl rfl rfl dX10_tryOne_130 ⟨rfl, rfl, hq⟩
        · have hq := hq.2 c36
          refine ck_aload_n 3 dX10_tryOne_110 rfl rfl ?_
          refine ck_getRN clX1 0 rfl rfl (by decide) fl_X10_96 dX10_tryOne_111 ?_
          refine ck_iload_n 5 dX10_tryOne_114 rfl rfl ?_
          refine ck_dup2 dX10_tryOne_115 rfl rfl ?_
          obtain ⟨b37, hq⟩ := hq
          refine ck_iald rfl rfl b37 dX10_tryOne_116 ?_
          refine ck_iconst (v := 1) dX10_tryOne_117 (by decide) ?_
          refine ck_isub dX10_tryOne_118 ?_
          obtain ⟨b38, hq⟩ := hq
          refine ck_iast rfl rfl b38 dX10_tryOne_119 ?_
          refine ck_nmH (fun h39 eh39 => ?_)
          have hq := hq h39 eh39
          refine ck_aload_n 3 dX10_tryOne_120 rfl rfl ?_
          refine ck_dup dX10_tryOne_121 rfl ?_
          refine ck_getIN clX1 7 rfl rfl (by decide) fl_X10_126 dX10_tryOne_122 ?_
          refine ck_iconst (v := 1) dX10_tryOne_125 (by decide) ?_
          refine ck_iadd dX10_tryOne_126 ?_
          refine ck_putIN clX1 7 rfl rfl (by decide) fl_X10_126 rfl rfl rfl dX10_tryOne_127 ?_
          refine ck_nmH (fun h40 eh40 => ?_)
          have hq := hq h40 eh40
          exact ck_vret rfl rfl rfl dX10_tryOne_130 ⟨rfl, rfl, hq⟩
    · have hq := hq.2 c33
      refine ck_aload_n 2 dX10_tryOne_76 rfl rfl ?_
      refine ck_aload_n 3 dX10_tryOne_77 rfl rfl ?_
      refine ck_iload_n 5 dX10_tryOne_78 rfl rfl ?_
      refine ck_callV (c_X10_wear (by simp) hq) rfl cal_X10_wear rfl ml_X10_117 vir_X10_wear rfl rfl (by decide) (Nat.le_of_ble_eq_true rfl) (Nat.le_of_ble_eq_true rfl) (by decide) (by decide) dX10_tryOne_79 ?_
      rintro _ _ h41 ⟨rfl, rfl, hq⟩
      refine ck_goto (tgt := 130) dX10_tryOne_82 (by decide) ?_
      exact ck_vret rfl rfl rfl dX10_tryOne_130 ⟨rfl, rfl, hq⟩
  · intro x2 x3 y0 y1 h hq
    refine ck_iadd dX10_tryOne_31 ?_
    refine ck_nmI (fun v42 ev42 => ?_)
    have hq := hq v42 ev42
    refine ck_istore (lv' := [(4, .int v42), (0, .ref 74), (1, .ref 17), (2, .int x2), (3, .int x3)]) dX10_tryOne_32 (by decide) rfl ?_
    refine ck_aload_n 1 dX10_tryOne_34 rfl rfl ?_
    refine ck_aload_n 2 dX10_tryOne_35 rfl rfl ?_
    refine ck_iload_n 4 dX10_tryOne_36 rfl rfl ?_
    refine ck_aload_n 1 dX10_tryOne_37 rfl rfl ?_
    refine ck_getR clX10 2 rfl rfl (by decide) fl_X10_19 dX10_tryOne_38 ?_
    refine ck_getRN clX7 9 rfl rfl (by decide) fl_X10_110 dX10_tryOne_41 ?_
    refine ck_iload_n 3 dX10_tryOne_44 rfl rfl ?_
    obtain ⟨b43, hq⟩ := hq
    refine ck_iald rfl rfl b43 dX10_tryOne_45 ?_
    refine ck_iload 0 dX10_tryOne_46 rfl ?_
    refine ck_callV (c_X10_measured (by simp) hq) rfl cal_X10_measured rfl ml_X10_113 vir_X10_measured rfl rfl (by decide) (Nat.le_of_ble_eq_true rfl) (Nat.le_of_ble_eq_true rfl) (by decide) (by decide) dX10_tryOne_48 ?_
    rintro _ _ h44 ⟨r45, rfl, rfl, hq⟩
    refine ck_istore (lv' := [(5, .int r45), (4, .int v42), (0, .ref 74), (1, .ref 17), (2, .int x2), (3, .int x3)]) dX10_tryOne_51 (by decide) rfl ?_
    refine ck_aload_n 3 dX10_tryOne_53 rfl rfl ?_
    refine ck_getRN clX1 3 rfl rfl (by decide) fl_X10_83 dX10_tryOne_54 ?_
    refine ck_iload_n 4 dX10_tryOne_57 rfl rfl ?_
    refine ck_iload 0 dX10_tryOne_58 rfl ?_
    obtain ⟨b46, hq⟩ := hq
    refine ck_iast rfl rfl b46 dX10_tryOne_60 ?_
    refine ck_nmH (fun h47 eh47 => ?_)
    have hq := hq h47 eh47
    refine ck_aload_n 2 dX10_tryOne_61 rfl rfl ?_
    refine ck_getR clX10 1 rfl rfl (by decide) fl_X10_15 dX10_tryOne_62 ?_
    refine ck_iload_n 5 dX10_tryOne_65 rfl rfl ?_
    refine ck_dup2 dX10_tryOne_66 rfl rfl ?_
    obtain ⟨b48, hq⟩ := hq
    refine ck_iald rfl rfl b48 dX10_tryOne_67 ?_
    refine ck_iconst (v := 1) dX10_tryOne_68 (by decide) ?_
    refine ck_iadd dX10_tryOne_69 ?_
    obtain ⟨b49, hq⟩ := hq
    refine ck_iast rfl rfl b49 dX10_tryOne_70 ?_
    refine ck_nmH (fun h50 eh50 => ?_)
    have hq := hq h50 eh50
    refine ck_iload 0 dX10_tryOne_71 rfl ?_
    refine ck_if_eq (tgt := 85) dX10_tryOne_73 (by decide) (fun c51 => ?_) (fun c51 => ?_)
    · have hq := hq.1 c51
      refine ck_iload 1 dX10_tryOne_85 rfl ?_
      refine ck_aload_n 2 dX10_tryOne_87 rfl rfl ?_
      refine ck_getI clX10 3 rfl rfl (by decide) fl_X10_120 dX10_tryOne_88 ?_
      refine ck_isub dX10_tryOne_91 ?_
      refine ck_iconst (v := 2) dX10_tryOne_92 (by decide) ?_
      refine ck_aload_n 2 dX10_tryOne_93 rfl rfl ?_
      refine ck_getI clX10 4 rfl rfl (by decide) fl_X10_123 dX10_tryOne_94 ?_
      refine ck_imul dX10_tryOne_97 ?_
      refine ck_icmp_lt (tgt := 130) dX10_tryOne_98 (by decide) (fun c52 => ?_) (fun c52 => ?_)
      · have hq := hq.1 c52
        exact ck_vret rfl rfl rfl dX10_tryOne_130 ⟨rfl, rfl, hq⟩
      · have hq := hq.2 c52
        refine ck_aload_n 3 dX10_tryOne_101 rfl rfl ?_
        refine ck_getRN clX1 0 rfl rfl (by decide) fl_X10_96 dX10_tryOne_102 ?_
        refine ck_iload_n 5 dX10_tryOne_105 rfl rfl ?_
        obtain ⟨b53, hq⟩ := hq
        refine ck_iald rfl rfl b53 dX10_tryOne_106 ?_
        refine ck_if_le (tgt := 130) dX10_tryOne_107 (by decide) (fun c54 => ?_) (fun c54 => ?_)
        · have hq := hq.1 c54
          exact ck_vret rfl rfl rfl dX10_tryOne_130 ⟨rfl, rfl, hq⟩
        · have hq := hq.2 c54
          refine ck_aload_n 3 dX10_tryOne_110 rfl rfl ?_
          refine ck_getRN clX1 0 rfl rfl (by decide) fl_X10_96 dX10_tryOne_111 ?_
          refine ck_iload_n 5 dX10_tryOne_114 rfl rfl ?_
          refine ck_dup2 dX10_tryOne_115 rfl rfl ?_
          obtain ⟨b55, hq⟩ := hq
          refine ck_iald rfl rfl b55 dX10_tryOne_116 ?_
          refine ck_iconst (v := 1) dX10_tryOne_117 (by decide) ?_
          refine ck_isub dX10_tryOne_118 ?_
          obtain ⟨b56, hq⟩ := hq
          refine ck_iast rfl rfl b56 dX10_tryOne_119 ?_
          refine ck_nmH (fun h57 eh57 => ?_)
          have hq := hq h57 eh57
          refine ck_aload_n 3 dX10_tryOne_120 rfl rfl ?_
          refine ck_dup dX10_tryOne_121 rfl ?_
          refine ck_getIN clX1 7 rfl rfl (by decide) fl_X10_126 dX10_tryOne_122 ?_
          refine ck_iconst (v := 1) dX10_tryOne_125 (by decide) ?_
          refine ck_iadd dX10_tryOne_126 ?_
          refine ck_putIN clX1 7 rfl rfl (by decide) fl_X10_126 rfl rfl rfl dX10_tryOne_127 ?_
          refine ck_nmH (fun h58 eh58 => ?_)
          have hq := hq h58 eh58
          exact ck_vret rfl rfl rfl dX10_tryOne_130 ⟨rfl, rfl, hq⟩
    · have hq := hq.2 c51
      refine ck_aload_n 2 dX10_tryOne_76 rfl rfl ?_
      refine ck_aload_n 3 dX10_tryOne_77 rfl rfl ?_
      refine ck_iload_n 5 dX10_tryOne_78 rfl rfl ?_
      refine ck_callV (c_X10_wear (by simp) hq) rfl cal_X10_wear rfl ml_X10_117 vir_X10_wear rfl rfl (by decide) (Nat.le_of_ble_eq_true rfl) (Nat.le_of_ble_eq_true rfl) (by decide) (by decide) dX10_tryOne_79 ?_
      rintro _ _ h59 ⟨rfl, rfl, hq⟩
      refine ck_goto (tgt := 130) dX10_tryOne_82 (by decide) ?_
      exact ck_vret rfl rfl rfl dX10_tryOne_130 ⟨rfl, rfl, hq⟩
set_option maxHeartbeats 4000000 in
set_option maxRecDepth 100000 in
theorem c_X10_tryOne {gr : Bool} {x2 : Int32} {h : ck_H} {Q : ck_H → Prop} {o1 : Nat} (hc : (o1 = 7) ∨ (o1 = 17)) (hq : wp_X10_tryOne o1 x2 h Q) : ck_M yX10_tryOne cX10_tryOne 6 none 6 0 0 gr ck_shX h [.ref 74, .ref o1, .int x2] (ck_Qv ck_shX Q) := by
  rcases hc with rfl | rfl
  · refine ck_entry (lv := [(0, .ref 74), (1, .ref 7), (2, .int x2)]) false (own := RX10) rfl (fun q => by cases q) (by decide) (Nat.le_of_ble_eq_true rfl) rfl ?_
    refine ck_aload_n 1 dX10_tryOne_0 rfl rfl ?_
    refine ck_getRN clX1 1 rfl rfl (by decide) fl_X10_86 dX10_tryOne_1 ?_
    refine ck_iload_n 2 dX10_tryOne_4 rfl rfl ?_
    obtain ⟨b62, hq⟩ := hq
    refine ck_iald rfl rfl b62 dX10_tryOne_5 ?_
    refine ck_nmI (fun v63 ev63 => ?_)
    have hq := hq v63 ev63
    refine ck_istore_n (lv' := [(3, .int v63), (0, .ref 74), (1, .ref 7), (2, .int x2)]) dX10_tryOne_6 rfl (by decide) rfl ?_
    refine ck_aload_n 1 dX10_tryOne_7 rfl rfl ?_
    refine ck_aload_n 2 dX10_tryOne_8 rfl rfl ?_
    refine ck_iload_n 3 dX10_tryOne_9 rfl rfl ?_
    refine ck_callV (c_X10_hardnessOf (by simp) hq) rfl cal_X10_hardnessOf rfl ml_X10_103 vir_X10_hardnessOf rfl rfl (by decide) (Nat.le_of_ble_eq_true rfl) (Nat.le_of_ble_eq_true rfl) (by decide) (by decide) dX10_tryOne_10 ?_
    rintro _ _ h64 ⟨r65, rfl, rfl, hq⟩
    refine ck_aload_n 1 dX10_tryOne_13 rfl rfl ?_
    refine ck_getI clX10 10 rfl rfl (by decide) fl_X10_45 dX10_tryOne_14 ?_
    refine ck_if_eq (tgt := 30) dX10_tryOne_17 (by decide) (fun c66 => ?_) (fun c66 => ?_)
    · have hq := hq.1 c66
      refine ck_iconst (v := 0) dX10_tryOne_30 (by decide) ?_
      refine ck_loc [1, 2, 3, 0] rfl ?_
      exact cp_X10_tryOne_31 (by simp) _ _ _ _ _ hq
    · have hq := hq.2 c66
      refine ck_aload_n 1 dX10_tryOne_20 rfl rfl ?_
      refine ck_callV (c_X10_drawn hq) rfl cal_X10_drawn rfl ml_X10_106 vir_X10_drawn rfl rfl (by decide) (Nat.le_of_ble_eq_true rfl) (Nat.le_of_ble_eq_true rfl) (by decide) (by decide) dX10_tryOne_21 ?_
      rintro _ _ h67 ⟨r68, rfl, rfl, hq⟩
      refine ck_bipush (v := 10) dX10_tryOne_24 (by decide) ?_
      refine ck_irem dX10_tryOne_26 (by decide) ?_
      refine ck_goto (tgt := 31) dX10_tryOne_27 (by decide) ?_
      refine ck_loc [1, 2, 3, 0] rfl ?_
      exact cp_X10_tryOne_31 (by simp) _ _ _ _ _ hq
  · refine ck_entry (lv := [(0, .ref 74), (1, .ref 17), (2, .int x2)]) false (own := RX10) rfl (fun q => by cases q) (by decide) (Nat.le_of_ble_eq_true rfl) rfl ?_
    refine ck_aload_n 1 dX10_tryOne_0 rfl rfl ?_
    refine ck_getRN clX1 1 rfl rfl (by decide) fl_X10_86 dX10_tryOne_1 ?_
    refine ck_iload_n 2 dX10_tryOne_4 rfl rfl ?_
    obtain ⟨b69, hq⟩ := hq
    refine ck_iald rfl rfl b69 dX10_tryOne_5 ?_
    refine ck_nmI (fun v70 ev70 => ?_)
    have hq := hq v70 ev70
    refine ck_istore_n (lv' := [(3, .int v70), (0, .ref 74), (1, .ref 17), (2, .int x2)]) dX10_tryOne_6 rfl (by decide) rfl ?_
    refine ck_aload_n 1 dX10_tryOne_7 rfl rfl ?_
    refine ck_aload_n 2 dX10_tryOne_8 rfl rfl ?_
    refine ck_iload_n 3 dX10_tryOne_9 rfl rfl ?_
    refine ck_callV (c_X10_hardnessOf (by simp) hq) rfl cal_X10_hardnessOf rfl ml_X10_103 vir_X10_hardnessOf rfl rfl (by decide) (Nat.le_of_ble_eq_true rfl) (Nat.le_of_ble_eq_true rfl) (by decide) (by decide) dX10_tryOne_10 ?_
    rintro _ _ h71 ⟨r72, rfl, rfl, hq⟩
    refine ck_aload_n 1 dX10_tryOne_13 rfl rfl ?_
    refine ck_getI clX10 10 rfl rfl (by decide) fl_X10_45 dX10_tryOne_14 ?_
    refine ck_if_eq (tgt := 30) dX10_tryOne_17 (by decide) (fun c73 => ?_) (fun c73 => ?_)
    · have hq := hq.1 c73
      refine ck_iconst (v := 0) dX10_tryOne_30 (by decide) ?_
      refine ck_loc [1, 2, 3, 0] rfl ?_
      exact cp_X10_tryOne_31 (by simp) _ _ _ _ _ hq
    · have hq := hq.2 c73
      refine ck_aload_n 1 dX10_tryOne_20 rfl rfl ?_
      refine ck_callV (c_X10_drawn hq) rfl cal_X10_drawn rfl ml_X10_106 vir_X10_drawn rfl rfl (by decide) (Nat.le_of_ble_eq_true rfl) (Nat.le_of_ble_eq_true rfl) (by decide) (by decide) dX10_tryOne_21 ?_
      rintro _ _ h74 ⟨r75, rfl, rfl, hq⟩
      refine ck_bipush (v := 10) dX10_tryOne_24 (by decide) ?_
      refine ck_irem dX10_tryOne_26 (by decide) ?_
      refine ck_goto (tgt := 31) dX10_tryOne_27 (by decide) ?_
      refine ck_loc [1, 2, 3, 0] rfl ?_
      exact cp_X10_tryOne_31 (by simp) _ _ _ _ _ hq
def wp_X10_pass_114 (Q : ck_H → Prop) (o1 : Nat) (Kc : Int32 → Int32 → ck_H → Prop) (x3 : Int32) (x4 : Int32) (h : ck_H) : Prop := (∀ v8, v8 = x4 + 1 → Kc x3 v8 h)
def wp_X10_pass_97 (Q : ck_H → Prop) (o1 : Nat) (K103 : Int32 → Int32 → ck_H → Prop) (Kc : Int32 → Int32 → Int32 → ck_H → Prop) (x3 : Int32) (x4 : Int32) (x5 : Int32) (h : ck_H) : Prop := (∀ v15, v15 = x5 + 1 → Kc x3 x4 v15 h)
def wp_X10_pass_51 (Q : ck_H → Prop) (o1 : Nat) (K103 : Int32 → Int32 → ck_H → Prop) : Nat → Int32 → Int32 → Int32 → ck_H → Prop
  | 0 => fun _ _ _ _ => False
  | n + 1 => fun x3 x4 x5 h => (((h.1 42 1) ≤ x5 → K103 x3 x4 h) ∧ (¬ (h.1 42 1) ≤ x5 → (vp_in x5 10 ∧ ((¬ (h.1 (o1 + 3) x5.toNatClampNeg) = (h.1 o1 5) → wp_X10_pass_97 Q o1 K103 (wp_X10_pass_51 Q o1 K103 n) x3 x4 x5 h) ∧ ((h.1 (o1 + 3) x5.toNatClampNeg) = (h.1 o1 5) → (wp_X10_isOpen o1 x5 h (fun r19 h18 => ((r19 = 0 → wp_X10_pass_97 Q o1 K103 (wp_X10_pass_51 Q o1 K103 n) x3 x4 x5 h18) ∧ (¬ r19 = 0 → (wp_X10_tryOne o1 x5 h18 (fun h21 => wp_X10_pass_97 Q o1 K103 (wp_X10_pass_51 Q o1 K103 n) x3 x4 x5 h21)))))))))))
def wp_X10_pass_10 (Q : ck_H → Prop) (o1 : Nat) : Nat → Int32 → Int32 → ck_H → Prop
  | 0 => fun _ _ _ => False
  | n + 1 => fun x3 x4 h => (((10 : Int32) < x4 → Q h) ∧ (¬ (10 : Int32) < x4 → ((x3 ≤ (h.1 o1 5) → Q h) ∧ (¬ x3 ≤ (h.1 o1 5) → (wp_X10_nextDayWithSuits o1 x3 h (fun r5 h4 => (wp_X10_moveTo o1 r5 h4 (fun h6 => ((x3 ≤ (h6.1 o1 5) → wp_X10_pass_114 Q o1 (wp_X10_pass_10 Q o1 n) x3 x4 h6) ∧ (¬ x3 ≤ (h6.1 o1 5) → (wp_X10_clearLoad h6 (fun h11 => wp_X10_pass_51 Q o1 (fun x37 x38 h36 => (wp_X10_moveTo o1 ((h36.1 o1 5) + (1 : Int32)) h36 (fun h39 => wp_X10_pass_114 Q o1 (wp_X10_pass_10 Q o1 n) x37 x38 h39))) lpN x3 x4 (0 : Int32) h11))))))))))))
def wp_X10_pass (o1 : Nat) (x2 : Int32) (h : ck_H) (Q : ck_H → Prop) : Prop := (∀ v1, v1 = ((h.1 o1 5) + x2) → wp_X10_pass_10 Q o1 lpN v1 (0 : Int32) h)
set_option maxHeartbeats 4000000 in
set_option maxRecDepth 100000 in
theorem cp_X10_pass_114 {gr : Bool} {Q : ck_H → Prop} {Kc : Int32 → Int32 → ck_H → Prop} {o1 : Nat} (hc : (o1 = 7) ∨ (o1 = 17)) (hKc : ∀ (x3 : Int32) (x4 : Int32) (h : ck_H), Kc x3 x4 h → ck_W cX10_pass 6 RX10 none 7 0 0 false gr (ck_Qv ck_shX Q) ck_shX h 0 0 10 [(0, .ref 74), (1, .ref o1), (3, .int x3), (4, .int x4)] []) : ∀ (x3 : Int32) (x4 : Int32) (h : ck_H), wp_X10_pass_114 Q o1 Kc x3 x4 h → ck_W cX10_pass 6 RX10 none 7 0 0 false gr (ck_Qv ck_shX Q) ck_shX h 0 0 114 [(0, .ref 74), (1, .ref o1), (3, .int x3), (4, .int x4)] [] := by
  rcases hc with rfl | rfl
  · intro x3 x4 h hq
    obtain ⟨v9, ev9⟩ : ∃ z : Int32, z = x4 + 1 := ⟨_, rfl⟩
    have hq := hq v9 ev9
    refine ck_iinc (v := v9) (lv' := [(4, .int v9), (0, .ref 74), (1, .ref 7), (3, .int x3)]) 3 dX10_pass_114 rfl (by rw [ev9]; rfl) (by decide) rfl ?_
    refine ck_goto (tgt := 10) dX10_pass_117 (by decide) ?_
    refine ck_loc [1, 2, 3, 0] rfl ?_
    exact hKc _ _ _ hq
  · intro x3 x4 h hq
    obtain ⟨v10, ev10⟩ : ∃ z : Int32, z = x4 + 1 := ⟨_, rfl⟩
    have hq := hq v10 ev10
    refine ck_iinc (v := v10) (lv' := [(4, .int v10), (0, .ref 74), (1, .ref 17), (3, .int x3)]) 3 dX10_pass_114 rfl (by rw [ev10]; rfl) (by decide) rfl ?_
    refine ck_goto (tgt := 10) dX10_pass_117 (by decide) ?_
    refine ck_loc [1, 2, 3, 0] rfl ?_
    exact hKc _ _ _ hq
set_option maxHeartbeats 4000000 in
set_option maxRecDepth 100000 in
theorem cp_X10_pass_97 {gr : Bool} {Q : ck_H → Prop} {K103 : Int32 → Int32 → ck_H → Prop} {Kc : Int32 → Int32 → Int32 → ck_H → Prop} {o1 : Nat} (hc : (o1 = 7) ∨ (o1 = 17)) (hK103 : ∀ (x3 : Int32) (x4 : Int32) (h : ck_H), K103 x3 x4 h → ck_W cX10_pass 6 RX10 none 7 0 0 false gr (ck_Qv ck_shX Q) ck_shX h 0 0 103 [(0, .ref 74), (1, .ref o1), (3, .int x3), (4, .int x4)] []) (hKc : ∀ (x3 : Int32) (x4 : Int32) (x5 : Int32) (h : ck_H), Kc x3 x4 x5 h → ck_W cX10_pass 6 RX10 none 7 0 0 false gr (ck_Qv ck_shX Q) ck_shX h 0 0 51 [(0, .ref 74), (1, .ref o1), (3, .int x3), (4, .int x4), (5, .int x5)] []) : ∀ (x3 : Int32) (x4 : Int32) (x5 : Int32) (h : ck_H), wp_X10_pass_97 Q o1 K103 Kc x3 x4 x5 h → ck_W cX10_pass 6 RX10 none 7 0 0 false gr (ck_Qv ck_shX Q) ck_shX h 0 0 97 [(0, .ref 74), (1, .ref o1), (3, .int x3), (4, .int x4), (5, .int x5)] [] := by
  rcases hc with rfl | rfl
  · intro x3 x4 x5 h hq
    obtain ⟨v16, ev16⟩ : ∃ z : Int32, z = x5 + 1 := ⟨_, rfl⟩
    have hq := hq v16 ev16
    refine ck_iinc (v := v16) (lv' := [(5, .int v16), (0, .ref 74), (1, .ref 7), (3, .int x3), (4, .int x4)]) 4 dX10_pass_97 rfl (by rw [ev16]; rfl) (by decide) rfl ?_
    refine ck_goto (tgt := 51) dX10_pass_100 (by decide) ?_
    refine ck_loc [1, 2, 3, 4, 0] rfl ?_
    exact hKc _ _ _ _ hq
  · intro x3 x4 x5 h hq
    obtain ⟨v17, ev17⟩ : ∃ z : Int32, z = x5 + 1 := ⟨_, rfl⟩
    have hq := hq v17 ev17
    refine ck_iinc (v := v17) (lv' := [(5, .int v17), (0, .ref 74), (1, .ref 17), (3, .int x3), (4, .int x4)]) 4 dX10_pass_97 rfl (by rw [ev17]; rfl) (by decide) rfl ?_
    refine ck_goto (tgt := 51) dX10_pass_100 (by decide) ?_
    refine ck_loc [1, 2, 3, 4, 0] rfl ?_
    exact hKc _ _ _ _ hq
set_option maxHeartbeats 4000000 in
set_option maxRecDepth 100000 in
theorem cp_X10_pass_51 {gr : Bool} {Q : ck_H → Prop} {K103 : Int32 → Int32 → ck_H → Prop} {o1 : Nat} (hc : (o1 = 7) ∨ (o1 = 17)) (hK103 : ∀ (x3 : Int32) (x4 : Int32) (h : ck_H), K103 x3 x4 h → ck_W cX10_pass 6 RX10 none 7 0 0 false gr (ck_Qv ck_shX Q) ck_shX h 0 0 103 [(0, .ref 74), (1, .ref o1), (3, .int x3), (4, .int x4)] []) : ∀ (n : Nat) (x3 : Int32) (x4 : Int32) (x5 : Int32) (h : ck_H), wp_X10_pass_51 Q o1 K103 n x3 x4 x5 h → ck_W cX10_pass 6 RX10 none 7 0 0 false gr (ck_Qv ck_shX Q) ck_shX h 0 0 51 [(0, .ref 74), (1, .ref o1), (3, .int x3), (4, .int x4), (5, .int x5)] [] := by
  rcases hc with rfl | rfl
  · intro n
    induction n with
    | zero => intro x3 x4 x5 h hq; exact hq.elim
    | succ n hKc =>
      intro x3 x4 x5 h hq
      refine ck_iload 4 dX10_pass_51 rfl ?_
      refine ck_aload_n 0 dX10_pass_53 rfl rfl ?_
      refine ck_getR clX10 2 rfl rfl (by decide) fl_X10_19 dX10_pass_54 ?_
      refine ck_getRN clX7 7 rfl rfl (by decide) fl_X10_64 dX10_pass_57 ?_
      refine ck_getIN clX5 1 rfl rfl (by decide) fl_X10_68 dX10_pass_60 ?_
      refine ck_icmp_ge (tgt := 103) dX10_pass_63 (by decide) (fun c22 => ?_) (fun c22 => ?_)
      · have hq := hq.1 c22
        refine ck_loc [0, 1, 2, 3] rfl ?_
        exact hK103 _ _ _ hq
      · have hq := hq.2 c22
        refine ck_aload_n 1 dX10_pass_66 rfl rfl ?_
        refine ck_getRN clX1 2 rfl rfl (by decide) fl_X10_73 dX10_pass_67 ?_
        refine ck_iload 4 dX10_pass_70 rfl ?_
        obtain ⟨b23, hq⟩ := hq
        refine ck_iald rfl rfl b23 dX10_pass_72 ?_
        refine ck_aload_n 1 dX10_pass_73 rfl rfl ?_
        refine ck_getIN clX1 5 rfl rfl (by decide) fl_X10_51 dX10_pass_74 ?_
        refine ck_icmp_ne (tgt := 97) dX10_pass_77 (by decide) (fun c24 => ?_) (fun c24 => ?_)
        · have hq := hq.1 c24
          exact cp_X10_pass_97 (by simp) hK103 hKc _ _ _ _ hq
        · have hq := hq.2 c24
          refine ck_aload_n 0 dX10_pass_80 rfl rfl ?_
          refine ck_aload_n 1 dX10_pass_81 rfl rfl ?_
          refine ck_iload 4 dX10_pass_82 rfl ?_
          refine ck_callV (c_X10_isOpen (by simp) hq) rfl cal_X10_isOpen rfl ml_X10_76 vir_X10_isOpen rfl rfl (by decide) (Nat.le_of_ble_eq_true rfl) (Nat.le_of_ble_eq_true rfl) (by decide) (by decide) dX10_pass_84 ?_
          rintro _ _ h25 ⟨r26, rfl, rfl, hq⟩
          refine ck_if_eq (tgt := 97) dX10_pass_87 (by decide) (fun c27 => ?_) (fun c27 => ?_)
          · have hq := hq.1 c27
            exact cp_X10_pass_97 (by simp) hK103 hKc _ _ _ _ hq
          · have hq := hq.2 c27
            refine ck_aload_n 0 dX10_pass_90 rfl rfl ?_
            refine ck_aload_n 1 dX10_pass_91 rfl rfl ?_
            refine ck_iload 4 dX10_pass_92 rfl ?_
            refine ck_callV (c_X10_tryOne (by simp) hq) rfl cal_X10_tryOne rfl ml_X10_80 vir_X10_tryOne rfl rfl (by decide) (Nat.le_of_ble_eq_true rfl) (Nat.le_of_ble_eq_true rfl) (by decide) (by decide) dX10_pass_94 ?_
            rintro _ _ h28 ⟨rfl, rfl, hq⟩
            exact cp_X10_pass_97 (by simp) hK103 hKc _ _ _ _ hq
  · intro n
    induction n with
    | zero => intro x3 x4 x5 h hq; exact hq.elim
    | succ n hKc =>
      intro x3 x4 x5 h hq
      refine ck_iload 4 dX10_pass_51 rfl ?_
      refine ck_aload_n 0 dX10_pass_53 rfl rfl ?_
      refine ck_getR clX10 2 rfl rfl (by decide) fl_X10_19 dX10_pass_54 ?_
      refine ck_getRN clX7 7 rfl rfl (by decide) fl_X10_64 dX10_pass_57 ?_
      refine ck_getIN clX5 1 rfl rfl (by decide) fl_X10_68 dX10_pass_60 ?_
      refine ck_icmp_ge (tgt := 103) dX10_pass_63 (by decide) (fun c29 => ?_) (fun c29 => ?_)
      · have hq := hq.1 c29
        refine ck_loc [0, 1, 2, 3] rfl ?_
        exact hK103 _ _ _ hq
      · have hq := hq.2 c29
        refine ck_aload_n 1 dX10_pass_66 rfl rfl ?_
        refine ck_getRN clX1 2 rfl rfl (by decide) fl_X10_73 dX10_pass_67 ?_
        refine ck_iload 4 dX10_pass_70 rfl ?_
        obtain ⟨b30, hq⟩ := hq
        refine ck_iald rfl rfl b30 dX10_pass_72 ?_
        refine ck_aload_n 1 dX10_pass_73 rfl rfl ?_
        refine ck_getIN clX1 5 rfl rfl (by decide) fl_X10_51 dX10_pass_74 ?_
        refine ck_icmp_ne (tgt := 97) dX10_pass_77 (by decide) (fun c31 => ?_) (fun c31 => ?_)
        · have hq := hq.1 c31
          exact cp_X10_pass_97 (by simp) hK103 hKc _ _ _ _ hq
        · have hq := hq.2 c31
          refine ck_aload_n 0 dX10_pass_80 rfl rfl ?_
          refine ck_aload_n 1 dX10_pass_81 rfl rfl ?_
          refine ck_iload 4 dX10_pass_82 rfl ?_
          refine ck_callV (c_X10_isOpen (by simp) hq) rfl cal_X10_isOpen rfl ml_X10_76 vir_X10_isOpen rfl rfl (by decide) (Nat.le_of_ble_eq_true rfl) (Nat.le_of_ble_eq_true rfl) (by decide) (by decide) dX10_pass_84 ?_
          rintro _ _ h32 ⟨r33, rfl, rfl, hq⟩
          refine ck_if_eq (tgt := 97) dX10_pass_87 (by decide) (fun c34 => ?_) (fun c34 => ?_)
          · have hq := hq.1 c34
            exact cp_X10_pass_97 (by simp) hK103 hKc _ _ _ _ hq
          · have hq := hq.2 c34
            refine ck_aload_n 0 dX10_pass_90 rfl rfl ?_
            refine ck_aload_n 1 dX10_pass_91 rfl rfl ?_
            refine ck_iload 4 dX10_pass_92 rfl ?_
            refine ck_callV (c_X10_tryOne (by simp) hq) rfl cal_X10_tryOne rfl ml_X10_80 vir_X10_tryOne rfl rfl (by decide) (Nat.le_of_ble_eq_true rfl) (Nat.le_of_ble_eq_true rfl) (by decide) (by decide) dX10_pass_94 ?_
            rintro _ _ h35 ⟨rfl, rfl, hq⟩
            exact cp_X10_pass_97 (by simp) hK103 hKc _ _ _ _ hq
set_option maxHeartbeats 4000000 in
set_option maxRecDepth 100000 in
theorem cp_X10_pass_10 {gr : Bool} {Q : ck_H → Prop} {o1 : Nat} (hc : (o1 = 7) ∨ (o1 = 17)) : ∀ (n : Nat) (x3 : Int32) (x4 : Int32) (h : ck_H), wp_X10_pass_10 Q o1 n x3 x4 h → ck_W cX10_pass 6 RX10 none 7 0 0 false gr (ck_Qv ck_shX Q) ck_shX h 0 0 10 [(0, .ref 74), (1, .ref o1), (3, .int x3), (4, .int x4)] [] := by
  rcases hc with rfl | rfl
  · intro n
    induction n with
    | zero => intro x3 x4 h hq; exact hq.elim
    | succ n hKc =>
      intro x3 x4 h hq
      refine ck_iload 3 dX10_pass_10 rfl ?_
      refine ck_bipush (v := 10) dX10_pass_12 (by decide) ?_
      refine ck_icmp_gt (tgt := 120) dX10_pass_14 (by decide) (fun c40 => ?_) (fun c40 => ?_)
      · have hq := hq.1 c40
        exact ck_vret rfl rfl rfl dX10_pass_120 ⟨rfl, rfl, hq⟩
      · have hq := hq.2 c40
        refine ck_aload_n 1 dX10_pass_17 rfl rfl ?_
        refine ck_getIN clX1 5 rfl rfl (by decide) fl_X10_51 dX10_pass_18 ?_
        refine ck_iload_n 2 dX10_pass_21 rfl rfl ?_
        refine ck_icmp_ge (tgt := 120) dX10_pass_22 (by decide) (fun c41 => ?_) (fun c41 => ?_)
        · have hq := hq.1 c41
          exact ck_vret rfl rfl rfl dX10_pass_120 ⟨rfl, rfl, hq⟩
        · have hq := hq.2 c41
          refine ck_aload_n 0 dX10_pass_25 rfl rfl ?_
          refine ck_aload_n 1 dX10_pass_26 rfl rfl ?_
          refine ck_aload_n 0 dX10_pass_27 rfl rfl ?_
          refine ck_aload_n 1 dX10_pass_28 rfl rfl ?_
          refine ck_iload_n 2 dX10_pass_29 rfl rfl ?_
          refine ck_callV (c_X10_nextDayWithSuits (by simp) hq) rfl cal_X10_nextDayWithSuits rfl ml_X10_56 vir_X10_nextDayWithSuits rfl rfl (by decide) (Nat.le_of_ble_eq_true rfl) (Nat.le_of_ble_eq_true rfl) (by decide) (by decide) dX10_pass_30 ?_
          rintro _ _ h42 ⟨r43, rfl, rfl, hq⟩
          refine ck_callV (c_X10_moveTo (by simp) hq) rfl cal_X10_moveTo rfl ml_X10_60 vir_X10_moveTo rfl rfl (by decide) (Nat.le_of_ble_eq_true rfl) (Nat.le_of_ble_eq_true rfl) (by decide) (by decide) dX10_pass_33 ?_
          rintro _ _ h44 ⟨rfl, rfl, hq⟩
          refine ck_aload_n 1 dX10_pass_36 rfl rfl ?_
          refine ck_getIN clX1 5 rfl rfl (by decide) fl_X10_51 dX10_pass_37 ?_
          refine ck_iload_n 2 dX10_pass_40 rfl rfl ?_
          refine ck_icmp_ge (tgt := 114) dX10_pass_41 (by decide) (fun c45 => ?_) (fun c45 => ?_)
          · have hq := hq.1 c45
            exact cp_X10_pass_114 (by simp) hKc _ _ _ hq
          · have hq := hq.2 c45
            refine ck_aload_n 0 dX10_pass_44 rfl rfl ?_
            refine ck_callV (c_X10_clearLoad hq) rfl cal_X10_clearLoad rfl ml_X10_48 vir_X10_clearLoad rfl rfl (by decide) (Nat.le_of_ble_eq_true rfl) (Nat.le_of_ble_eq_true rfl) (by decide) (by decide) dX10_pass_45 ?_
            rintro _ _ h46 ⟨rfl, rfl, hq⟩
            refine ck_iconst (v := 0) dX10_pass_48 (by decide) ?_
            refine ck_istore (lv' := [(5, .int (0 : Int32)), (0, .ref 74), (1, .ref 7), (3, .int x3), (4, .int x4)]) dX10_pass_49 (by decide) rfl ?_
            refine ck_loc [1, 2, 3, 4, 0] rfl ?_
            refine cp_X10_pass_51 (by simp) (fun x48 x49 h47 hq => ?_) lpN _ _ _ _ hq
            · refine ck_aload_n 0 dX10_pass_103 rfl rfl ?_
              refine ck_aload_n 1 dX10_pass_104 rfl rfl ?_
              refine ck_aload_n 1 dX10_pass_105 rfl rfl ?_
              refine ck_getIN clX1 5 rfl rfl (by decide) fl_X10_51 dX10_pass_106 ?_
              refine ck_iconst (v := 1) dX10_pass_109 (by decide) ?_
              refine ck_iadd dX10_pass_110 ?_
              refine ck_callV (c_X10_moveTo (by simp) hq) rfl cal_X10_moveTo rfl ml_X10_60 vir_X10_moveTo rfl rfl (by decide) (Nat.le_of_ble_eq_true rfl) (Nat.le_of_ble_eq_true rfl) (by decide) (by decide) dX10_pass_111 ?_
              rintro _ _ h50 ⟨rfl, rfl, hq⟩
              exact cp_X10_pass_114 (by simp) hKc _ _ _ hq
  · intro n
    induction n with
    | zero => intro x3 x4 h hq; exact hq.elim
    | succ n hKc =>
      intro x3 x4 h hq
      refine ck_iload 3 dX10_pass_10 rfl ?_
      refine ck_bipush (v := 10) dX10_pass_12 (by decide) ?_
      refine ck_icmp_gt (tgt := 120) dX10_pass_14 (by decide) (fun c51 => ?_) (fun c51 => ?_)
      · have hq := hq.1 c51
        exact ck_vret rfl rfl rfl dX10_pass_120 ⟨rfl, rfl, hq⟩
      · have hq := hq.2 c51
        refine ck_aload_n 1 dX10_pass_17 rfl rfl ?_
        refine ck_getIN clX1 5 rfl rfl (by decide) fl_X10_51 dX10_pass_18 ?_
        refine ck_iload_n 2 dX10_pass_21 rfl rfl ?_
        refine ck_icmp_ge (tgt := 120) dX10_pass_22 (by decide) (fun c52 => ?_) (fun c52 => ?_)
        · have hq := hq.1 c52
          exact ck_vret rfl rfl rfl dX10_pass_120 ⟨rfl, rfl, hq⟩
        · have hq := hq.2 c52
          refine ck_aload_n 0 dX10_pass_25 rfl rfl ?_
          refine ck_aload_n 1 dX10_pass_26 rfl rfl ?_
          refine ck_aload_n 0 dX10_pass_27 rfl rfl ?_
          refine ck_aload_n 1 dX10_pass_28 rfl rfl ?_
          refine ck_iload_n 2 dX10_pass_29 rfl rfl ?_
          refine ck_callV (c_X10_nextDayWithSuits (by simp) hq) rfl cal_X10_nextDayWithSuits rfl ml_X10_56 vir_X10_nextDayWithSuits rfl rfl (by decide) (Nat.le_of_ble_eq_true rfl) (Nat.le_of_ble_eq_true rfl) (by decide) (by decide) dX10_pass_30 ?_
          rintro _ _ h53 ⟨r54, rfl, rfl, hq⟩
          refine ck_callV (c_X10_moveTo (by simp) hq) rfl cal_X10_moveTo rfl ml_X10_60 vir_X10_moveTo rfl rfl (by decide) (Nat.le_of_ble_eq_true rfl) (Nat.le_of_ble_eq_true rfl) (by decide) (by decide) dX10_pass_33 ?_
          rintro _ _ h55 ⟨rfl, rfl, hq⟩
          refine ck_aload_n 1 dX10_pass_36 rfl rfl ?_
          refine ck_getIN clX1 5 rfl rfl (by decide) fl_X10_51 dX10_pass_37 ?_
          refine ck_iload_n 2 dX10_pass_40 rfl rfl ?_
          refine ck_icmp_ge (tgt := 114) dX10_pass_41 (by decide) (fun c56 => ?_) (fun c56 => ?_)
          · have hq := hq.1 c56
            exact cp_X10_pass_114 (by simp) hKc _ _ _ hq
          · have hq := hq.2 c56
            refine ck_aload_n 0 dX10_pass_44 rfl rfl ?_
            refine ck_callV (c_X10_clearLoad hq) rfl cal_X10_clearLoad rfl ml_X10_48 vir_X10_clearLoad rfl rfl (by decide) (Nat.le_of_ble_eq_true rfl) (Nat.le_of_ble_eq_true rfl) (by decide) (by decide) dX10_pass_45 ?_
            rintro _ _ h57 ⟨rfl, rfl, hq⟩
            refine ck_iconst (v := 0) dX10_pass_48 (by decide) ?_
            refine ck_istore (lv' := [(5, .int (0 : Int32)), (0, .ref 74), (1, .ref 17), (3, .int x3), (4, .int x4)]) dX10_pass_49 (by decide) rfl ?_
            refine ck_loc [1, 2, 3, 4, 0] rfl ?_
            refine cp_X10_pass_51 (by simp) (fun x59 x60 h58 hq => ?_) lpN _ _ _ _ hq
            · refine ck_aload_n 0 dX10_pass_103 rfl rfl ?_
              refine ck_aload_n 1 dX10_pass_104 rfl rfl ?_
              refine ck_aload_n 1 dX10_pass_105 rfl rfl ?_
              refine ck_getIN clX1 5 rfl rfl (by decide) fl_X10_51 dX10_pass_106 ?_
              refine ck_iconst (v := 1) dX10_pass_109 (by decide) ?_
              refine ck_iadd dX10_pass_110 ?_
              refine ck_callV (c_X10_moveTo (by simp) hq) rfl cal_X10_moveTo rfl ml_X10_60 vir_X10_moveTo rfl rfl (by decide) (Nat.le_of_ble_eq_true rfl) (Nat.le_of_ble_eq_true rfl) (by decide) (by decide) dX10_pass_111 ?_
              rintro _ _ h61 ⟨rfl, rfl, hq⟩
              exact cp_X10_pass_114 (by simp) hKc _ _ _ hq
set_option maxHeartbeats 4000000 in
set_option maxRecDepth 100000 in
theorem c_X10_pass {gr : Bool} {x2 : Int32} {h : ck_H} {Q : ck_H → Prop} {o1 : Nat} (hc : (o1 = 7) ∨ (o1 = 17)) (hq : wp_X10_pass o1 x2 h Q) : ck_M yX10_pass cX10_pass 6 none 7 0 0 gr ck_shX h [.ref 74, .ref o1, .int x2] (ck_Qv ck_shX Q) := by
  rcases hc with rfl | rfl
  · refine ck_entry (lv := [(0, .ref 74), (1, .ref 7), (2, .int x2)]) false (own := RX10) rfl (fun q => by cases q) (by decide) (Nat.le_of_ble_eq_true rfl) rfl ?_
    refine ck_aload_n 1 dX10_pass_0 rfl rfl ?_
    refine ck_getIN clX1 5 rfl rfl (by decide) fl_X10_51 dX10_pass_1 ?_
    refine ck_iload_n 2 dX10_pass_4 rfl rfl ?_
    refine ck_iadd dX10_pass_5 ?_
    refine ck_nmI (fun v62 ev62 => ?_)
    have hq := hq v62 ev62
    refine ck_istore_n (lv' := [(3, .int v62), (0, .ref 74), (1, .ref 7), (2, .int x2)]) dX10_pass_6 rfl (by decide) rfl ?_
    refine ck_iconst (v := 0) dX10_pass_7 (by decide) ?_
    refine ck_istore (lv' := [(4, .int (0 : Int32)), (3, .int v62), (0, .ref 74), (1, .ref 7), (2, .int x2)]) dX10_pass_8 (by decide) rfl ?_
    refine ck_loc [2, 3, 1, 0] rfl ?_
    refine cp_X10_pass_10 (by simp) lpN _ _ _ hq
  · refine ck_entry (lv := [(0, .ref 74), (1, .ref 17), (2, .int x2)]) false (own := RX10) rfl (fun q => by cases q) (by decide) (Nat.le_of_ble_eq_true rfl) rfl ?_
    refine ck_aload_n 1 dX10_pass_0 rfl rfl ?_
    refine ck_getIN clX1 5 rfl rfl (by decide) fl_X10_51 dX10_pass_1 ?_
    refine ck_iload_n 2 dX10_pass_4 rfl rfl ?_
    refine ck_iadd dX10_pass_5 ?_
    refine ck_nmI (fun v63 ev63 => ?_)
    have hq := hq v63 ev63
    refine ck_istore_n (lv' := [(3, .int v63), (0, .ref 74), (1, .ref 17), (2, .int x2)]) dX10_pass_6 rfl (by decide) rfl ?_
    refine ck_iconst (v := 0) dX10_pass_7 (by decide) ?_
    refine ck_istore (lv' := [(4, .int (0 : Int32)), (3, .int v63), (0, .ref 74), (1, .ref 17), (2, .int x2)]) dX10_pass_8 (by decide) rfl ?_
    refine ck_loc [2, 3, 1, 0] rfl ?_
    refine cp_X10_pass_10 (by simp) lpN _ _ _ hq
def wp_X10_gained_4 (Q : Int32 → ck_H → Prop) (o1 : Nat) : Nat → Int32 → Int32 → ck_H → Prop
  | 0 => fun _ _ _ => False
  | n + 1 => fun x2 x3 h => (((h.1 42 1) ≤ x3 → Q x2 h) ∧ (¬ (h.1 42 1) ≤ x3 → (wp_X10_gainOf o1 x3 h (fun r3 h2 => (∀ v4, v4 = (x2 + r3) → (∀ v5, v5 = x3 + 1 → (wp_X10_gained_4 Q o1 n) v4 v5 h2))))))
def wp_X10_gained (o1 : Nat) (h : ck_H) (Q : Int32 → ck_H → Prop) : Prop := wp_X10_gained_4 Q o1 lpN (0 : Int32) (0 : Int32) h
set_option maxHeartbeats 4000000 in
set_option maxRecDepth 100000 in
theorem cp_X10_gained_4 {gr : Bool} {Q : Int32 → ck_H → Prop} {o1 : Nat} (hc : (o1 = 17) ∨ (o1 = 7)) : ∀ (n : Nat) (x2 : Int32) (x3 : Int32) (h : ck_H), wp_X10_gained_4 Q o1 n x2 x3 h → ck_W cX10_gained 4 RX10 (some .int) 3 0 0 false gr (ck_Qi ck_shX Q) ck_shX h 0 0 4 [(0, .ref 74), (1, .ref o1), (2, .int x2), (3, .int x3)] [] := by
  rcases hc with rfl | rfl
  · intro n
    induction n with
    | zero => intro x2 x3 h hq; exact hq.elim
    | succ n hKc =>
      intro x2 x3 h hq
      refine ck_iload_n 3 dX10_gained_4 rfl rfl ?_
      refine ck_aload_n 0 dX10_gained_5 rfl rfl ?_
      refine ck_getR clX10 2 rfl rfl (by decide) fl_X10_19 dX10_gained_6 ?_
      refine ck_getRN clX7 7 rfl rfl (by decide) fl_X10_64 dX10_gained_9 ?_
      refine ck_getIN clX5 1 rfl rfl (by decide) fl_X10_68 dX10_gained_12 ?_
      refine ck_icmp_ge (tgt := 33) dX10_gained_15 (by decide) (fun c6 => ?_) (fun c6 => ?_)
      · have hq := hq.1 c6
        refine ck_iload_n 2 dX10_gained_33 rfl rfl ?_
        exact ck_iret rfl rfl rfl rfl dX10_gained_34 ⟨_, rfl, rfl, hq⟩
      · have hq := hq.2 c6
        refine ck_iload_n 2 dX10_gained_18 rfl rfl ?_
        refine ck_aload_n 0 dX10_gained_19 rfl rfl ?_
        refine ck_aload_n 1 dX10_gained_20 rfl rfl ?_
        refine ck_iload_n 3 dX10_gained_21 rfl rfl ?_
        refine ck_callV (c_X10_gainOf (by simp) hq) rfl cal_X10_gainOf rfl ml_X10_173 vir_X10_gainOf rfl rfl (by decide) (Nat.le_of_ble_eq_true rfl) (Nat.le_of_ble_eq_true rfl) (by decide) (by decide) dX10_gained_22 ?_
        rintro _ _ h7 ⟨r8, rfl, rfl, hq⟩
        refine ck_iadd dX10_gained_25 ?_
        refine ck_nmI (fun v9 ev9 => ?_)
        have hq := hq v9 ev9
        refine ck_istore_n (lv' := [(2, .int v9), (0, .ref 74), (1, .ref 17), (3, .int x3)]) dX10_gained_26 rfl (by decide) rfl ?_
        obtain ⟨v10, ev10⟩ : ∃ z : Int32, z = x3 + 1 := ⟨_, rfl⟩
        have hq := hq v10 ev10
        refine ck_iinc (v := v10) (lv' := [(3, .int v10), (2, .int v9), (0, .ref 74), (1, .ref 17)]) 3 dX10_gained_27 rfl (by rw [ev10]; rfl) (by decide) rfl ?_
        refine ck_goto (tgt := 4) dX10_gained_30 (by decide) ?_
        refine ck_loc [2, 3, 1, 0] rfl ?_
        exact hKc _ _ _ hq
  · intro n
    induction n with
    | zero => intro x2 x3 h hq; exact hq.elim
    | succ n hKc =>
      intro x2 x3 h hq
      refine ck_iload_n 3 dX10_gained_4 rfl rfl ?_
      refine ck_aload_n 0 dX10_gained_5 rfl rfl ?_
      refine ck_getR clX10 2 rfl rfl (by decide) fl_X10_19 dX10_gained_6 ?_
      refine ck_getRN clX7 7 rfl rfl (by decide) fl_X10_64 dX10_gained_9 ?_
      refine ck_getIN clX5 1 rfl rfl (by decide) fl_X10_68 dX10_gained_12 ?_
      refine ck_icmp_ge (tgt := 33) dX10_gained_15 (by decide) (fun c11 => ?_) (fun c11 => ?_)
      · have hq := hq.1 c11
        refine ck_iload_n 2 dX10_gained_33 rfl rfl ?_
        exact ck_iret rfl rfl rfl rfl dX10_gained_34 ⟨_, rfl, rfl, hq⟩
      · have hq := hq.2 c11
        refine ck_iload_n 2 dX10_gained_18 rfl rfl ?_
        refine ck_aload_n 0 dX10_gained_19 rfl rfl ?_
        refine ck_aload_n 1 dX10_gained_20 rfl rfl ?_
        refine ck_iload_n 3 dX10_gained_21 rfl rfl ?_
        refine ck_callV (c_X10_gainOf (by simp) hq) rfl cal_X10_gainOf rfl ml_X10_173 vir_X10_gainOf rfl rfl (by decide) (Nat.le_of_ble_eq_true rfl) (Nat.le_of_ble_eq_true rfl) (by decide) (by decide) dX10_gained_22 ?_
        rintro _ _ h12 ⟨r13, rfl, rfl, hq⟩
        refine ck_iadd dX10_gained_25 ?_
        refine ck_nmI (fun v14 ev14 => ?_)
        have hq := hq v14 ev14
        refine ck_istore_n (lv' := [(2, .int v14), (0, .ref 74), (1, .ref 7), (3, .int x3)]) dX10_gained_26 rfl (by decide) rfl ?_
        obtain ⟨v15, ev15⟩ : ∃ z : Int32, z = x3 + 1 := ⟨_, rfl⟩
        have hq := hq v15 ev15
        refine ck_iinc (v := v15) (lv' := [(3, .int v15), (2, .int v14), (0, .ref 74), (1, .ref 7)]) 3 dX10_gained_27 rfl (by rw [ev15]; rfl) (by decide) rfl ?_
        refine ck_goto (tgt := 4) dX10_gained_30 (by decide) ?_
        refine ck_loc [2, 3, 1, 0] rfl ?_
        exact hKc _ _ _ hq
set_option maxHeartbeats 4000000 in
set_option maxRecDepth 100000 in
theorem c_X10_gained {gr : Bool} {h : ck_H} {Q : Int32 → ck_H → Prop} {o1 : Nat} (hc : (o1 = 17) ∨ (o1 = 7)) (hq : wp_X10_gained o1 h Q) : ck_M yX10_gained cX10_gained 4 (some .int) 3 0 0 gr ck_shX h [.ref 74, .ref o1] (ck_Qi ck_shX Q) := by
  rcases hc with rfl | rfl
  · refine ck_entry (lv := [(0, .ref 74), (1, .ref 17)]) false (own := RX10) rfl (fun q => by cases q) (by decide) (Nat.le_of_ble_eq_true rfl) rfl ?_
    refine ck_iconst (v := 0) dX10_gained_0 (by decide) ?_
    refine ck_istore_n (lv' := [(2, .int (0 : Int32)), (0, .ref 74), (1, .ref 17)]) dX10_gained_1 rfl (by decide) rfl ?_
    refine ck_iconst (v := 0) dX10_gained_2 (by decide) ?_
    refine ck_istore_n (lv' := [(3, .int (0 : Int32)), (2, .int (0 : Int32)), (0, .ref 74), (1, .ref 17)]) dX10_gained_3 rfl (by decide) rfl ?_
    refine ck_loc [2, 3, 1, 0] rfl ?_
    refine cp_X10_gained_4 (by simp) lpN _ _ _ hq
  · refine ck_entry (lv := [(0, .ref 74), (1, .ref 7)]) false (own := RX10) rfl (fun q => by cases q) (by decide) (Nat.le_of_ble_eq_true rfl) rfl ?_
    refine ck_iconst (v := 0) dX10_gained_0 (by decide) ?_
    refine ck_istore_n (lv' := [(2, .int (0 : Int32)), (0, .ref 74), (1, .ref 7)]) dX10_gained_1 rfl (by decide) rfl ?_
    refine ck_iconst (v := 0) dX10_gained_2 (by decide) ?_
    refine ck_istore_n (lv' := [(3, .int (0 : Int32)), (2, .int (0 : Int32)), (0, .ref 74), (1, .ref 7)]) dX10_gained_3 rfl (by decide) rfl ?_
    refine ck_loc [2, 3, 1, 0] rfl ?_
    refine cp_X10_gained_4 (by simp) lpN _ _ _ hq
