theorem dX13_turn0_10 : decode cX13_turn0 10 = .ok (.aload_n 0, 1) := by decide +kernel
theorem dX13_turn0_11 : decode cX13_turn0 11 = .ok (.getfield 150, 3) := by decide +kernel
theorem dX13_turn0_14 : decode cX13_turn0 14 = .ok (.istore 5, 2) := by decide +kernel
theorem dX13_turn0_16 : decode cX13_turn0 16 = .ok (.aload_n 0, 1) := by decide +kernel
theorem dX13_turn0_17 : decode cX13_turn0 17 = .ok (.getfield 153, 3) := by decide +kernel
theorem dX13_turn0_20 : decode cX13_turn0 20 = .ok (.istore 6, 2) := by decide +kernel
theorem dX13_turn0_22 : decode cX13_turn0 22 = .ok (.aload_n 0, 1) := by decide +kernel
theorem dX13_turn0_23 : decode cX13_turn0 23 = .ok (.lload_n 3, 1) := by decide +kernel
theorem dX13_turn0_24 : decode cX13_turn0 24 = .ok (.invokevirtual 226, 3) := by decide +kernel
theorem dX13_turn0_27 : decode cX13_turn0 27 = .ok (.ifCond .eq 23, 3) := by decide +kernel
theorem dX13_turn0_30 : decode cX13_turn0 30 = .ok (.aload_n 0, 1) := by decide +kernel
theorem dX13_turn0_31 : decode cX13_turn0 31 = .ok (.getfield 150, 3) := by decide +kernel
theorem dX13_turn0_34 : decode cX13_turn0 34 = .ok (.iload 5, 2) := by decide +kernel
theorem dX13_turn0_36 : decode cX13_turn0 36 = .ok (.if_icmp .ne 12, 3) := by decide +kernel
theorem dX13_turn0_39 : decode cX13_turn0 39 = .ok (.aload_n 0, 1) := by decide +kernel
theorem dX13_turn0_40 : decode cX13_turn0 40 = .ok (.getfield 153, 3) := by decide +kernel
theorem dX13_turn0_43 : decode cX13_turn0 43 = .ok (.iload 6, 2) := by decide +kernel
theorem dX13_turn0_45 : decode cX13_turn0 45 = .ok (.if_icmp .eq 5, 3) := by decide +kernel
theorem dX13_turn0_48 : decode cX13_turn0 48 = .ok (.iconst 1, 1) := by decide +kernel
theorem dX13_turn0_49 : decode cX13_turn0 49 = .ok (.ireturn, 1) := by decide +kernel
theorem dX13_turn0_50 : decode cX13_turn0 50 = .ok (.aload_n 0, 1) := by decide +kernel
theorem dX13_turn0_51 : decode cX13_turn0 51 = .ok (.getfield 7, 3) := by decide +kernel
theorem dX13_turn0_54 : decode cX13_turn0 54 = .ok (.sipush 840, 3) := by decide +kernel
theorem dX13_turn0_57 : decode cX13_turn0 57 = .ok (.iload 5, 2) := by decide +kernel
theorem dX13_turn0_59 : decode cX13_turn0 59 = .ok (.iload 6, 2) := by decide +kernel
theorem dX13_turn0_61 : decode cX13_turn0 61 = .ok (.invokestatic 82, 3) := by decide +kernel
theorem dX13_turn0_64 : decode cX13_turn0 64 = .ok (.iadd, 1) := by decide +kernel
theorem dX13_turn0_65 : decode cX13_turn0 65 = .ok (.iaload, 1) := by decide +kernel
theorem dX13_turn0_66 : decode cX13_turn0 66 = .ok (.istore 7, 2) := by decide +kernel
theorem dX13_turn0_68 : decode cX13_turn0 68 = .ok (.aload_n 0, 1) := by decide +kernel
theorem dX13_turn0_69 : decode cX13_turn0 69 = .ok (.getfield 13, 3) := by decide +kernel
theorem dX13_turn0_72 : decode cX13_turn0 72 = .ok (.iload 5, 2) := by decide +kernel
theorem dX13_turn0_74 : decode cX13_turn0 74 = .ok (.iload 6, 2) := by decide +kernel
theorem dX13_turn0_76 : decode cX13_turn0 76 = .ok (.invokestatic 82, 3) := by decide +kernel
theorem dX13_turn0_79 : decode cX13_turn0 79 = .ok (.laload, 1) := by decide +kernel
theorem dX13_turn0_80 : decode cX13_turn0 80 = .ok (.lstore 8, 2) := by decide +kernel
theorem dX13_turn0_82 : decode cX13_turn0 82 = .ok (.aload_n 0, 1) := by decide +kernel
theorem dX13_turn0_83 : decode cX13_turn0 83 = .ok (.iload 5, 2) := by decide +kernel
theorem dX13_turn0_85 : decode cX13_turn0 85 = .ok (.iload 6, 2) := by decide +kernel
theorem dX13_turn0_87 : decode cX13_turn0 87 = .ok (.lconst 0, 1) := by decide +kernel
theorem dX13_turn0_88 : decode cX13_turn0 88 = .ok (.iconst (-1), 1) := by decide +kernel
theorem dX13_turn0_89 : decode cX13_turn0 89 = .ok (.invokevirtual 180, 3) := by decide +kernel
theorem dX13_turn0_92 : decode cX13_turn0 92 = .ok (.aload_n 0, 1) := by decide +kernel
theorem dX13_turn0_93 : decode cX13_turn0 93 = .ok (.lload_n 3, 1) := by decide +kernel
theorem dX13_turn0_94 : decode cX13_turn0 94 = .ok (.iload 7, 2) := by decide +kernel
theorem dX13_turn0_96 : decode cX13_turn0 96 = .ok (.invokevirtual 230, 3) := by decide +kernel
theorem dX13_turn0_99 : decode cX13_turn0 99 = .ok (.istore 10, 2) := by decide +kernel
theorem dX13_turn0_101 : decode cX13_turn0 101 = .ok (.iload 10, 2) := by decide +kernel
theorem dX13_turn0_103 : decode cX13_turn0 103 = .ok (.ifCond .le 15, 3) := by decide +kernel
theorem dX13_turn0_106 : decode cX13_turn0 106 = .ok (.aload_n 0, 1) := by decide +kernel
theorem dX13_turn0_107 : decode cX13_turn0 107 = .ok (.iload 5, 2) := by decide +kernel
theorem dX13_turn0_109 : decode cX13_turn0 109 = .ok (.iload 6, 2) := by decide +kernel
theorem dX13_turn0_111 : decode cX13_turn0 111 = .ok (.lload 8, 2) := by decide +kernel
theorem dX13_turn0_113 : decode cX13_turn0 113 = .ok (.iload 7, 2) := by decide +kernel
theorem dX13_turn0_115 : decode cX13_turn0 115 = .ok (.invokevirtual 180, 3) := by decide +kernel
theorem dX13_turn0_118 : decode cX13_turn0 118 = .ok (.iload 10, 2) := by decide +kernel
theorem dX13_turn0_120 : decode cX13_turn0 120 = .ok (.ireturn, 1) := by decide +kernel
theorem dX13_leavesFor_0 : decode cX13_leavesFor 0 = .ok (.iload_n 0, 1) := by decide +kernel
theorem dX13_leavesFor_1 : decode cX13_leavesFor 1 = .ok (.iconst 5, 1) := by decide +kernel
theorem dX13_leavesFor_2 : decode cX13_leavesFor 2 = .ok (.if_icmp .ge 7, 3) := by decide +kernel
theorem dX13_leavesFor_5 : decode cX13_leavesFor 5 = .ok (.iconst 1, 1) := by decide +kernel
theorem dX13_leavesFor_6 : decode cX13_leavesFor 6 = .ok (.goto 8, 3) := by decide +kernel
theorem dX13_leavesFor_9 : decode cX13_leavesFor 9 = .ok (.iload_n 0, 1) := by decide +kernel
theorem dX13_leavesFor_10 : decode cX13_leavesFor 10 = .ok (.iconst 3, 1) := by decide +kernel
theorem dX13_leavesFor_11 : decode cX13_leavesFor 11 = .ok (.iadd, 1) := by decide +kernel
theorem dX13_leavesFor_12 : decode cX13_leavesFor 12 = .ok (.iconst 4, 1) := by decide +kernel
theorem dX13_leavesFor_13 : decode cX13_leavesFor 13 = .ok (.idiv, 1) := by decide +kernel
theorem dX13_leavesFor_14 : decode cX13_leavesFor 14 = .ok (.ireturn, 1) := by decide +kernel
theorem dX13_sortsAll_0 : decode cX13_sortsAll 0 = .ok (.aload_n 0, 1) := by decide +kernel
theorem dX13_sortsAll_1 : decode cX13_sortsAll 1 = .ok (.iconst 0, 1) := by decide +kernel
theorem dX13_sortsAll_2 : decode cX13_sortsAll 2 = .ok (.putfield 188, 3) := by decide +kernel
theorem dX13_sortsAll_5 : decode cX13_sortsAll 5 = .ok (.iconst 0, 1) := by decide +kernel
theorem dX13_sortsAll_6 : decode cX13_sortsAll 6 = .ok (.istore 4, 2) := by decide +kernel
theorem dX13_sortsAll_8 : decode cX13_sortsAll 8 = .ok (.iload 4, 2) := by decide +kernel
theorem dX13_sortsAll_10 : decode cX13_sortsAll 10 = .ok (.sipush 240, 3) := by decide +kernel
theorem dX13_sortsAll_13 : decode cX13_sortsAll 13 = .ok (.if_icmp .ge 59, 3) := by decide +kernel
theorem dX13_sortsAll_16 : decode cX13_sortsAll 16 = .ok (.aload_n 0, 1) := by decide +kernel
theorem dX13_sortsAll_17 : decode cX13_sortsAll 17 = .ok (.getfield 7, 3) := by decide +kernel
theorem dX13_sortsAll_20 : decode cX13_sortsAll 20 = .ok (.sipush 840, 3) := by decide +kernel
theorem dX13_sortsAll_23 : decode cX13_sortsAll 23 = .ok (.iload 4, 2) := by decide +kernel
theorem dX13_sortsAll_25 : decode cX13_sortsAll 25 = .ok (.iadd, 1) := by decide +kernel
theorem dX13_sortsAll_26 : decode cX13_sortsAll 26 = .ok (.iaload, 1) := by decide +kernel
theorem dX13_sortsAll_27 : decode cX13_sortsAll 27 = .ok (.iconst (-1), 1) := by decide +kernel
theorem dX13_sortsAll_28 : decode cX13_sortsAll 28 = .ok (.if_icmp .eq 38, 3) := by decide +kernel
theorem dX13_sortsAll_31 : decode cX13_sortsAll 31 = .ok (.aload_n 0, 1) := by decide +kernel
theorem dX13_sortsAll_32 : decode cX13_sortsAll 32 = .ok (.aload_n 0, 1) := by decide +kernel
theorem dX13_sortsAll_33 : decode cX13_sortsAll 33 = .ok (.getfield 13, 3) := by decide +kernel
theorem dX13_sortsAll_36 : decode cX13_sortsAll 36 = .ok (.iload 4, 2) := by decide +kernel
theorem dX13_sortsAll_38 : decode cX13_sortsAll 38 = .ok (.laload, 1) := by decide +kernel
theorem dX13_sortsAll_39 : decode cX13_sortsAll 39 = .ok (.aload_n 0, 1) := by decide +kernel
theorem dX13_sortsAll_40 : decode cX13_sortsAll 40 = .ok (.getfield 7, 3) := by decide +kernel
theorem dX13_sortsAll_43 : decode cX13_sortsAll 43 = .ok (.sipush 840, 3) := by decide +kernel
theorem dX13_sortsAll_46 : decode cX13_sortsAll 46 = .ok (.iload 4, 2) := by decide +kernel
theorem dX13_sortsAll_48 : decode cX13_sortsAll 48 = .ok (.iadd, 1) := by decide +kernel
theorem dX13_sortsAll_49 : decode cX13_sortsAll 49 = .ok (.iaload, 1) := by decide +kernel
theorem dX13_sortsAll_50 : decode cX13_sortsAll 50 = .ok (.aload_n 0, 1) := by decide +kernel
theorem dX13_sortsAll_51 : decode cX13_sortsAll 51 = .ok (.getfield 13, 3) := by decide +kernel
theorem dX13_sortsAll_54 : decode cX13_sortsAll 54 = .ok (.iload 4, 2) := by decide +kernel
theorem dX13_sortsAll_56 : decode cX13_sortsAll 56 = .ok (.laload, 1) := by decide +kernel
theorem dX13_sortsAll_57 : decode cX13_sortsAll 57 = .ok (.iload_n 1, 1) := by decide +kernel
theorem dX13_sortsAll_58 : decode cX13_sortsAll 58 = .ok (.iload_n 2, 1) := by decide +kernel
theorem dX13_sortsAll_59 : decode cX13_sortsAll 59 = .ok (.iload_n 3, 1) := by decide +kernel
theorem dX13_sortsAll_60 : decode cX13_sortsAll 60 = .ok (.invokestatic 110, 3) := by decide +kernel
theorem dX13_sortsAll_63 : decode cX13_sortsAll 63 = .ok (.invokevirtual 210, 3) := by decide +kernel
theorem dX13_sortsAll_66 : decode cX13_sortsAll 66 = .ok (.iinc 4 1, 3) := by decide +kernel
theorem dX13_sortsAll_69 : decode cX13_sortsAll 69 = .ok (.goto (-61), 3) := by decide +kernel
theorem dX13_sortsAll_72 : decode cX13_sortsAll 72 = .ok (.return_, 1) := by decide +kernel
theorem dX13_areTwoOne_0 : decode cX13_areTwoOne 0 = .ok (.iconst 0, 1) := by decide +kernel
theorem dX13_areTwoOne_1 : decode cX13_areTwoOne 1 = .ok (.istore_n 1, 1) := by decide +kernel
theorem dX13_areTwoOne_2 : decode cX13_areTwoOne 2 = .ok (.iload_n 1, 1) := by decide +kernel
theorem dX13_areTwoOne_3 : decode cX13_areTwoOne 3 = .ok (.aload_n 0, 1) := by decide +kernel
theorem dX13_areTwoOne_4 : decode cX13_areTwoOne 4 = .ok (.getfield 188, 3) := by decide +kernel
theorem dX13_areTwoOne_7 : decode cX13_areTwoOne 7 = .ok (.if_icmp .ge 46, 3) := by decide +kernel
theorem dX13_areTwoOne_10 : decode cX13_areTwoOne 10 = .ok (.iconst 0, 1) := by decide +kernel
theorem dX13_areTwoOne_11 : decode cX13_areTwoOne 11 = .ok (.istore_n 2, 1) := by decide +kernel
theorem dX13_areTwoOne_12 : decode cX13_areTwoOne 12 = .ok (.iload_n 2, 1) := by decide +kernel
theorem dX13_areTwoOne_13 : decode cX13_areTwoOne 13 = .ok (.iload_n 1, 1) := by decide +kernel
theorem dX13_areTwoOne_14 : decode cX13_areTwoOne 14 = .ok (.if_icmp .ge 33, 3) := by decide +kernel
theorem dX13_areTwoOne_17 : decode cX13_areTwoOne 17 = .ok (.aload_n 0, 1) := by decide +kernel
theorem dX13_areTwoOne_18 : decode cX13_areTwoOne 18 = .ok (.getfield 67, 3) := by decide +kernel
theorem dX13_areTwoOne_21 : decode cX13_areTwoOne 21 = .ok (.iload_n 1, 1) := by decide +kernel
theorem dX13_areTwoOne_22 : decode cX13_areTwoOne 22 = .ok (.laload, 1) := by decide +kernel
theorem dX13_areTwoOne_23 : decode cX13_areTwoOne 23 = .ok (.invokestatic 101, 3) := by decide +kernel
theorem dX13_areTwoOne_26 : decode cX13_areTwoOne 26 = .ok (.aload_n 0, 1) := by decide +kernel
theorem dX13_areTwoOne_27 : decode cX13_areTwoOne 27 = .ok (.getfield 67, 3) := by decide +kernel
theorem dX13_areTwoOne_30 : decode cX13_areTwoOne 30 = .ok (.iload_n 2, 1) := by decide +kernel
theorem dX13_areTwoOne_31 : decode cX13_areTwoOne 31 = .ok (.laload, 1) := by decide +kernel
theorem dX13_areTwoOne_32 : decode cX13_areTwoOne 32 = .ok (.invokestatic 101, 3) := by decide +kernel
theorem dX13_areTwoOne_35 : decode cX13_areTwoOne 35 = .ok (.lcmp, 1) := by decide +kernel
theorem dX13_areTwoOne_36 : decode cX13_areTwoOne 36 = .ok (.ifCond .ne 5, 3) := by decide +kernel
theorem dX13_areTwoOne_39 : decode cX13_areTwoOne 39 = .ok (.iconst 1, 1) := by decide +kernel
theorem dX13_areTwoOne_40 : decode cX13_areTwoOne 40 = .ok (.ireturn, 1) := by decide +kernel
theorem dX13_areTwoOne_41 : decode cX13_areTwoOne 41 = .ok (.iinc 2 1, 3) := by decide +kernel
theorem dX13_areTwoOne_44 : decode cX13_areTwoOne 44 = .ok (.goto (-32), 3) := by decide +kernel
theorem dX13_areTwoOne_47 : decode cX13_areTwoOne 47 = .ok (.iinc 1 1, 3) := by decide +kernel
theorem dX13_areTwoOne_50 : decode cX13_areTwoOne 50 = .ok (.goto (-48), 3) := by decide +kernel
theorem dX13_areTwoOne_53 : decode cX13_areTwoOne 53 = .ok (.iconst 0, 1) := by decide +kernel
theorem dX13_areTwoOne_54 : decode cX13_areTwoOne 54 = .ok (.ireturn, 1) := by decide +kernel
theorem dX13_limitOf_0 : decode cX13_limitOf 0 = .ok (.iload_n 1, 1) := by decide +kernel
theorem dX13_limitOf_1 : decode cX13_limitOf 1 = .ok (.ifCond .ne 7, 3) := by decide +kernel
theorem dX13_limitOf_4 : decode cX13_limitOf 4 = .ok (.iconst 0, 1) := by decide +kernel
theorem dX13_limitOf_5 : decode cX13_limitOf 5 = .ok (.goto 11, 3) := by decide +kernel
theorem dX13_limitOf_8 : decode cX13_limitOf 8 = .ok (.aload_n 0, 1) := by decide +kernel
theorem dX13_limitOf_9 : decode cX13_limitOf 9 = .ok (.getfield 73, 3) := by decide +kernel
theorem dX13_limitOf_12 : decode cX13_limitOf 12 = .ok (.iconst 4, 1) := by decide +kernel
theorem dX13_limitOf_13 : decode cX13_limitOf 13 = .ok (.iload_n 1, 1) := by decide +kernel
theorem dX13_limitOf_14 : decode cX13_limitOf 14 = .ok (.imul, 1) := by decide +kernel
theorem dX13_limitOf_15 : decode cX13_limitOf 15 = .ok (.iaload, 1) := by decide +kernel
theorem dX13_limitOf_16 : decode cX13_limitOf 16 = .ok (.ireturn, 1) := by decide +kernel
theorem dX13_markOf_0 : decode cX13_markOf 0 = .ok (.iload_n 1, 1) := by decide +kernel
theorem dX13_markOf_1 : decode cX13_markOf 1 = .ok (.ifCond .le 28, 3) := by decide +kernel
theorem dX13_markOf_4 : decode cX13_markOf 4 = .ok (.aload_n 0, 1) := by decide +kernel
theorem dX13_markOf_5 : decode cX13_markOf 5 = .ok (.getfield 73, 3) := by decide +kernel
theorem dX13_markOf_8 : decode cX13_markOf 8 = .ok (.iconst 4, 1) := by decide +kernel
theorem dX13_markOf_9 : decode cX13_markOf 9 = .ok (.iload_n 1, 1) := by decide +kernel
theorem dX13_markOf_10 : decode cX13_markOf 10 = .ok (.imul, 1) := by decide +kernel
theorem dX13_markOf_11 : decode cX13_markOf 11 = .ok (.iaload, 1) := by decide +kernel
theorem dX13_markOf_12 : decode cX13_markOf 12 = .ok (.aload_n 0, 1) := by decide +kernel
theorem dX13_markOf_13 : decode cX13_markOf 13 = .ok (.getfield 73, 3) := by decide +kernel
theorem dX13_markOf_16 : decode cX13_markOf 16 = .ok (.iconst 4, 1) := by decide +kernel
theorem dX13_markOf_17 : decode cX13_markOf 17 = .ok (.iload_n 1, 1) := by decide +kernel
theorem dX13_markOf_18 : decode cX13_markOf 18 = .ok (.imul, 1) := by decide +kernel
theorem dX13_markOf_19 : decode cX13_markOf 19 = .ok (.iconst 1, 1) := by decide +kernel
theorem dX13_markOf_20 : decode cX13_markOf 20 = .ok (.isub, 1) := by decide +kernel
theorem dX13_markOf_21 : decode cX13_markOf 21 = .ok (.iaload, 1) := by decide +kernel
theorem dX13_markOf_22 : decode cX13_markOf 22 = .ok (.if_icmp .ne 7, 3) := by decide +kernel
theorem dX13_markOf_25 : decode cX13_markOf 25 = .ok (.iconst 1, 1) := by decide +kernel
theorem dX13_markOf_26 : decode cX13_markOf 26 = .ok (.goto 4, 3) := by decide +kernel
theorem dX13_markOf_29 : decode cX13_markOf 29 = .ok (.iconst 0, 1) := by decide +kernel
theorem dX13_markOf_30 : decode cX13_markOf 30 = .ok (.ireturn, 1) := by decide +kernel
theorem dX13_build0_0 : decode cX13_build0 0 = .ok (.aload_n 0, 1) := by decide +kernel
theorem dX13_build0_1 : decode cX13_build0 1 = .ok (.iload_n 1, 1) := by decide +kernel
theorem dX13_build0_2 : decode cX13_build0 2 = .ok (.iload_n 2, 1) := by decide +kernel
theorem dX13_build0_3 : decode cX13_build0 3 = .ok (.iload_n 3, 1) := by decide +kernel
theorem dX13_build0_4 : decode cX13_build0 4 = .ok (.invokevirtual 233, 3) := by decide +kernel
theorem dX13_build0_7 : decode cX13_build0 7 = .ok (.aload_n 0, 1) := by decide +kernel
theorem dX13_build0_8 : decode cX13_build0 8 = .ok (.getfield 188, 3) := by decide +kernel
theorem dX13_build0_11 : decode cX13_build0 11 = .ok (.invokestatic 236, 3) := by decide +kernel
theorem dX13_build0_14 : decode cX13_build0 14 = .ok (.istore 4, 2) := by decide +kernel
theorem dX13_build0_16 : decode cX13_build0 16 = .ok (.iload 4, 2) := by decide +kernel
theorem dX13_build0_18 : decode cX13_build0 18 = .ok (.bipush 20, 2) := by decide +kernel
theorem dX13_build0_20 : decode cX13_build0 20 = .ok (.if_icmp .le 5, 3) := by decide +kernel
theorem dX13_build0_23 : decode cX13_build0 23 = .ok (.iconst 3, 1) := by decide +kernel
theorem dX13_build0_24 : decode cX13_build0 24 = .ok (.ireturn, 1) := by decide +kernel
theorem dX13_build0_25 : decode cX13_build0 25 = .ok (.iload_n 3, 1) := by decide +kernel
theorem dX13_build0_26 : decode cX13_build0 26 = .ok (.iconst 1, 1) := by decide +kernel
theorem dX13_build0_27 : decode cX13_build0 27 = .ok (.if_icmp .ne 23, 3) := by decide +kernel
theorem dX13_build0_30 : decode cX13_build0 30 = .ok (.aload_n 0, 1) := by decide +kernel
theorem dX13_build0_31 : decode cX13_build0 31 = .ok (.getfield 7, 3) := by decide +kernel
theorem dX13_build0_34 : decode cX13_build0 34 = .ok (.sipush 1083, 3) := by decide +kernel
theorem dX13_build0_37 : decode cX13_build0 37 = .ok (.iaload, 1) := by decide +kernel
theorem dX13_build0_38 : decode cX13_build0 38 = .ok (.ifCond .ne 12, 3) := by decide +kernel
theorem dX13_build0_41 : decode cX13_build0 41 = .ok (.aload_n 0, 1) := by decide +kernel
theorem dX13_build0_42 : decode cX13_build0 42 = .ok (.invokevirtual 239, 3) := by decide +kernel
theorem dX13_build0_45 : decode cX13_build0 45 = .ok (.ifCond .eq 5, 3) := by decide +kernel
theorem dX13_build0_48 : decode cX13_build0 48 = .ok (.iconst 1, 1) := by decide +kernel
theorem dX13_build0_49 : decode cX13_build0 49 = .ok (.ireturn, 1) := by decide +kernel
theorem dX13_build0_50 : decode cX13_build0 50 = .ok (.aload_n 0, 1) := by decide +kernel
theorem dX13_build0_51 : decode cX13_build0 51 = .ok (.getfield 7, 3) := by decide +kernel
theorem dX13_build0_54 : decode cX13_build0 54 = .ok (.sipush 1081, 3) := by decide +kernel
theorem dX13_build0_57 : decode cX13_build0 57 = .ok (.iload_n 1, 1) := by decide +kernel
theorem dX13_build0_58 : decode cX13_build0 58 = .ok (.iastore, 1) := by decide +kernel
theorem dX13_build0_59 : decode cX13_build0 59 = .ok (.aload_n 0, 1) := by decide +kernel
theorem dX13_build0_60 : decode cX13_build0 60 = .ok (.getfield 7, 3) := by decide +kernel
theorem dX13_build0_63 : decode cX13_build0 63 = .ok (.sipush 1082, 3) := by decide +kernel
theorem dX13_build0_66 : decode cX13_build0 66 = .ok (.iload_n 2, 1) := by decide +kernel
theorem dX13_build0_67 : decode cX13_build0 67 = .ok (.iastore, 1) := by decide +kernel
theorem dX13_build0_68 : decode cX13_build0 68 = .ok (.aload_n 0, 1) := by decide +kernel
theorem dX13_build0_69 : decode cX13_build0 69 = .ok (.getfield 7, 3) := by decide +kernel
theorem dX13_build0_72 : decode cX13_build0 72 = .ok (.sipush 1083, 3) := by decide +kernel
theorem dX13_build0_75 : decode cX13_build0 75 = .ok (.iload_n 3, 1) := by decide +kernel
theorem dX13_build0_76 : decode cX13_build0 76 = .ok (.iastore, 1) := by decide +kernel
theorem dX13_build0_77 : decode cX13_build0 77 = .ok (.iconst 0, 1) := by decide +kernel
theorem dX13_build0_78 : decode cX13_build0 78 = .ok (.istore 5, 2) := by decide +kernel
theorem dX13_build0_80 : decode cX13_build0 80 = .ok (.iload 5, 2) := by decide +kernel
theorem dX13_build0_82 : decode cX13_build0 82 = .ok (.bipush 40, 2) := by decide +kernel
theorem dX13_build0_84 : decode cX13_build0 84 = .ok (.if_icmp .ge 47, 3) := by decide +kernel
theorem dX13_build0_87 : decode cX13_build0 87 = .ok (.aload_n 0, 1) := by decide +kernel
theorem dX13_build0_88 : decode cX13_build0 88 = .ok (.getfield 7, 3) := by decide +kernel
theorem dX13_build0_91 : decode cX13_build0 91 = .ok (.iconst 0, 1) := by decide +kernel
theorem dX13_build0_92 : decode cX13_build0 92 = .ok (.iload 5, 2) := by decide +kernel
theorem dX13_build0_94 : decode cX13_build0 94 = .ok (.iadd, 1) := by decide +kernel
theorem dX13_build0_95 : decode cX13_build0 95 = .ok (.iconst 0, 1) := by decide +kernel
theorem dX13_build0_96 : decode cX13_build0 96 = .ok (.iastore, 1) := by decide +kernel
theorem dX13_build0_97 : decode cX13_build0 97 = .ok (.aload_n 0, 1) := by decide +kernel
theorem dX13_build0_98 : decode cX13_build0 98 = .ok (.getfield 7, 3) := by decide +kernel
theorem dX13_build0_101 : decode cX13_build0 101 = .ok (.bipush 40, 2) := by decide +kernel
theorem dX13_build0_103 : decode cX13_build0 103 = .ok (.iload 5, 2) := by decide +kernel
theorem dX13_build0_105 : decode cX13_build0 105 = .ok (.iadd, 1) := by decide +kernel
theorem dX13_build0_106 : decode cX13_build0 106 = .ok (.iconst 0, 1) := by decide +kernel
theorem dX13_build0_107 : decode cX13_build0 107 = .ok (.iastore, 1) := by decide +kernel
theorem dX13_build0_108 : decode cX13_build0 108 = .ok (.aload_n 0, 1) := by decide +kernel
theorem dX13_build0_109 : decode cX13_build0 109 = .ok (.getfield 7, 3) := by decide +kernel
theorem dX13_build0_112 : decode cX13_build0 112 = .ok (.bipush 80, 2) := by decide +kernel
theorem dX13_build0_114 : decode cX13_build0 114 = .ok (.iload 5, 2) := by decide +kernel
theorem dX13_build0_116 : decode cX13_build0 116 = .ok (.iadd, 1) := by decide +kernel
theorem dX13_build0_117 : decode cX13_build0 117 = .ok (.iconst 0, 1) := by decide +kernel
theorem dX13_build0_118 : decode cX13_build0 118 = .ok (.iastore, 1) := by decide +kernel
theorem dX13_build0_119 : decode cX13_build0 119 = .ok (.aload_n 0, 1) := by decide +kernel
theorem dX13_build0_120 : decode cX13_build0 120 = .ok (.iload 5, 2) := by decide +kernel
theorem dX13_build0_122 : decode cX13_build0 122 = .ok (.invokevirtual 191, 3) := by decide +kernel
theorem dX13_build0_125 : decode cX13_build0 125 = .ok (.iinc 5 1, 3) := by decide +kernel
theorem dX13_build0_128 : decode cX13_build0 128 = .ok (.goto (-48), 3) := by decide +kernel
theorem dX13_build0_131 : decode cX13_build0 131 = .ok (.iload 4, 2) := by decide +kernel
theorem dX13_build0_133 : decode cX13_build0 133 = .ok (.iconst 1, 1) := by decide +kernel
theorem dX13_build0_134 : decode cX13_build0 134 = .ok (.if_icmp .ne 31, 3) := by decide +kernel
theorem dX13_build0_137 : decode cX13_build0 137 = .ok (.aload_n 0, 1) := by decide +kernel
theorem dX13_build0_138 : decode cX13_build0 138 = .ok (.getfield 7, 3) := by decide +kernel
theorem dX13_build0_141 : decode cX13_build0 141 = .ok (.iconst 0, 1) := by decide +kernel
theorem dX13_build0_142 : decode cX13_build0 142 = .ok (.iconst 1, 1) := by decide +kernel
theorem dX13_build0_143 : decode cX13_build0 143 = .ok (.iastore, 1) := by decide +kernel
theorem dX13_build0_144 : decode cX13_build0 144 = .ok (.aload_n 0, 1) := by decide +kernel
theorem dX13_build0_145 : decode cX13_build0 145 = .ok (.getfield 7, 3) := by decide +kernel
theorem dX13_build0_148 : decode cX13_build0 148 = .ok (.sipush 1080, 3) := by decide +kernel
theorem dX13_build0_151 : decode cX13_build0 151 = .ok (.iconst 0, 1) := by decide +kernel
theorem dX13_build0_152 : decode cX13_build0 152 = .ok (.iastore, 1) := by decide +kernel
theorem dX13_build0_153 : decode cX13_build0 153 = .ok (.aload_n 0, 1) := by decide +kernel
theorem dX13_build0_154 : decode cX13_build0 154 = .ok (.iconst 0, 1) := by decide +kernel
theorem dX13_build0_155 : decode cX13_build0 155 = .ok (.iconst 0, 1) := by decide +kernel
theorem dX13_build0_156 : decode cX13_build0 156 = .ok (.aload_n 0, 1) := by decide +kernel
theorem dX13_build0_157 : decode cX13_build0 157 = .ok (.getfield 188, 3) := by decide +kernel
theorem dX13_build0_160 : decode cX13_build0 160 = .ok (.invokevirtual 214, 3) := by decide +kernel
theorem dX13_build0_163 : decode cX13_build0 163 = .ok (.iconst 0, 1) := by decide +kernel
theorem dX13_build0_164 : decode cX13_build0 164 = .ok (.ireturn, 1) := by decide +kernel
theorem dX13_build0_165 : decode cX13_build0 165 = .ok (.aload_n 0, 1) := by decide +kernel
theorem dX13_build0_166 : decode cX13_build0 166 = .ok (.getfield 7, 3) := by decide +kernel
theorem dX13_build0_169 : decode cX13_build0 169 = .ok (.iconst 0, 1) := by decide +kernel
theorem dX13_build0_170 : decode cX13_build0 170 = .ok (.iconst 2, 1) := by decide +kernel
theorem dX13_build0_171 : decode cX13_build0 171 = .ok (.iastore, 1) := by decide +kernel
theorem dX13_build0_172 : decode cX13_build0 172 = .ok (.iconst 0, 1) := by decide +kernel
theorem dX13_build0_173 : decode cX13_build0 173 = .ok (.istore 5, 2) := by decide +kernel
theorem dX13_build0_175 : decode cX13_build0 175 = .ok (.iload 5, 2) := by decide +kernel
theorem dX13_build0_177 : decode cX13_build0 177 = .ok (.iload 4, 2) := by decide +kernel
theorem dX13_build0_179 : decode cX13_build0 179 = .ok (.if_icmp .ge 53, 3) := by decide +kernel
theorem dX13_build0_182 : decode cX13_build0 182 = .ok (.aload_n 0, 1) := by decide +kernel
theorem dX13_build0_183 : decode cX13_build0 183 = .ok (.getfield 7, 3) := by decide +kernel
theorem dX13_build0_186 : decode cX13_build0 186 = .ok (.iconst 1, 1) := by decide +kernel
theorem dX13_build0_187 : decode cX13_build0 187 = .ok (.iload 5, 2) := by decide +kernel
theorem dX13_build0_189 : decode cX13_build0 189 = .ok (.iadd, 1) := by decide +kernel
theorem dX13_build0_190 : decode cX13_build0 190 = .ok (.iconst 1, 1) := by decide +kernel
theorem dX13_build0_191 : decode cX13_build0 191 = .ok (.iastore, 1) := by decide +kernel
theorem dX13_build0_192 : decode cX13_build0 192 = .ok (.aload_n 0, 1) := by decide +kernel
theorem dX13_build0_193 : decode cX13_build0 193 = .ok (.iconst 1, 1) := by decide +kernel
theorem dX13_build0_194 : decode cX13_build0 194 = .ok (.iload 5, 2) := by decide +kernel
theorem dX13_build0_196 : decode cX13_build0 196 = .ok (.iadd, 1) := by decide +kernel
theorem dX13_build0_197 : decode cX13_build0 197 = .ok (.iconst 4, 1) := by decide +kernel
theorem dX13_build0_198 : decode cX13_build0 198 = .ok (.iload 5, 2) := by decide +kernel
theorem dX13_build0_200 : decode cX13_build0 200 = .ok (.imul, 1) := by decide +kernel
theorem dX13_build0_201 : decode cX13_build0 201 = .ok (.iload 5, 2) := by decide +kernel
theorem dX13_build0_203 : decode cX13_build0 203 = .ok (.iload 4, 2) := by decide +kernel
theorem dX13_build0_205 : decode cX13_build0 205 = .ok (.iconst 1, 1) := by decide +kernel
theorem dX13_build0_206 : decode cX13_build0 206 = .ok (.isub, 1) := by decide +kernel
theorem dX13_build0_207 : decode cX13_build0 207 = .ok (.if_icmp .ne 15, 3) := by decide +kernel
theorem dX13_build0_210 : decode cX13_build0 210 = .ok (.aload_n 0, 1) := by decide +kernel
theorem dX13_build0_211 : decode cX13_build0 211 = .ok (.getfield 188, 3) := by decide +kernel
theorem dX13_build0_214 : decode cX13_build0 214 = .ok (.iconst 4, 1) := by decide +kernel
theorem dX13_build0_215 : decode cX13_build0 215 = .ok (.iload 5, 2) := by decide +kernel
theorem dX13_build0_217 : decode cX13_build0 217 = .ok (.imul, 1) := by decide +kernel
theorem dX13_build0_218 : decode cX13_build0 218 = .ok (.isub, 1) := by decide +kernel
theorem dX13_build0_219 : decode cX13_build0 219 = .ok (.goto 4, 3) := by decide +kernel
theorem dX13_build0_222 : decode cX13_build0 222 = .ok (.iconst 4, 1) := by decide +kernel
theorem dX13_build0_223 : decode cX13_build0 223 = .ok (.invokevirtual 214, 3) := by decide +kernel
theorem dX13_build0_226 : decode cX13_build0 226 = .ok (.iinc 5 1, 3) := by decide +kernel
theorem dX13_build0_229 : decode cX13_build0 229 = .ok (.goto (-54), 3) := by decide +kernel
theorem dX13_build0_232 : decode cX13_build0 232 = .ok (.iload 4, 2) := by decide +kernel
theorem dX13_build0_234 : decode cX13_build0 234 = .ok (.bipush 6, 2) := by decide +kernel
theorem dX13_build0_236 : decode cX13_build0 236 = .ok (.if_icmp .ge 62, 3) := by decide +kernel
theorem dX13_build0_239 : decode cX13_build0 239 = .ok (.aload_n 0, 1) := by decide +kernel
theorem dX13_build0_240 : decode cX13_build0 240 = .ok (.getfield 7, 3) := by decide +kernel
theorem dX13_build0_243 : decode cX13_build0 243 = .ok (.sipush 1080, 3) := by decide +kernel
theorem dX13_build0_246 : decode cX13_build0 246 = .ok (.iconst 1, 1) := by decide +kernel
theorem dX13_build0_247 : decode cX13_build0 247 = .ok (.iastore, 1) := by decide +kernel
theorem dX13_build0_248 : decode cX13_build0 248 = .ok (.aload_n 0, 1) := by decide +kernel
theorem dX13_build0_249 : decode cX13_build0 249 = .ok (.getfield 7, 3) := by decide +kernel
theorem dX13_build0_252 : decode cX13_build0 252 = .ok (.bipush 80, 2) := by decide +kernel
theorem dX13_build0_254 : decode cX13_build0 254 = .ok (.iload 4, 2) := by decide +kernel
theorem dX13_build0_256 : decode cX13_build0 256 = .ok (.iastore, 1) := by decide +kernel
theorem dX13_build0_257 : decode cX13_build0 257 = .ok (.iconst 0, 1) := by decide +kernel
theorem dX13_build0_258 : decode cX13_build0 258 = .ok (.istore 5, 2) := by decide +kernel
theorem dX13_build0_260 : decode cX13_build0 260 = .ok (.iload 5, 2) := by decide +kernel
theorem dX13_build0_262 : decode cX13_build0 262 = .ok (.iload 4, 2) := by decide +kernel
theorem dX13_build0_264 : decode cX13_build0 264 = .ok (.if_icmp .ge 32, 3) := by decide +kernel
theorem dX13_build0_267 : decode cX13_build0 267 = .ok (.aload_n 0, 1) := by decide +kernel
theorem dX13_build0_268 : decode cX13_build0 268 = .ok (.iconst 0, 1) := by decide +kernel
theorem dX13_build0_269 : decode cX13_build0 269 = .ok (.iload 5, 2) := by decide +kernel
theorem dX13_build0_271 : decode cX13_build0 271 = .ok (.aload_n 0, 1) := by decide +kernel
theorem dX13_build0_272 : decode cX13_build0 272 = .ok (.iload 5, 2) := by decide +kernel
theorem dX13_build0_274 : decode cX13_build0 274 = .ok (.invokevirtual 242, 3) := by decide +kernel
theorem dX13_build0_277 : decode cX13_build0 277 = .ok (.aload_n 0, 1) := by decide +kernel
theorem dX13_build0_278 : decode cX13_build0 278 = .ok (.iload 5, 2) := by decide +kernel
theorem dX13_build0_280 : decode cX13_build0 280 = .ok (.invokevirtual 245, 3) := by decide +kernel
theorem dX13_build0_283 : decode cX13_build0 283 = .ok (.iconst 1, 1) := by decide +kernel
theorem dX13_build0_284 : decode cX13_build0 284 = .ok (.iload 5, 2) := by decide +kernel
theorem dX13_build0_286 : decode cX13_build0 286 = .ok (.iadd, 1) := by decide +kernel
theorem dX13_build0_287 : decode cX13_build0 287 = .ok (.invokevirtual 184, 3) := by decide +kernel
theorem dX13_build0_290 : decode cX13_build0 290 = .ok (.iinc 5 1, 3) := by decide +kernel
theorem dX13_build0_293 : decode cX13_build0 293 = .ok (.goto (-33), 3) := by decide +kernel
theorem dX13_build0_296 : decode cX13_build0 296 = .ok (.iconst 0, 1) := by decide +kernel
theorem dX13_build0_297 : decode cX13_build0 297 = .ok (.ireturn, 1) := by decide +kernel
theorem dX13_build0_298 : decode cX13_build0 298 = .ok (.aload_n 0, 1) := by decide +kernel
theorem dX13_build0_299 : decode cX13_build0 299 = .ok (.getfield 7, 3) := by decide +kernel
theorem dX13_build0_302 : decode cX13_build0 302 = .ok (.sipush 1080, 3) := by decide +kernel
theorem dX13_build0_305 : decode cX13_build0 305 = .ok (.iconst 2, 1) := by decide +kernel
theorem dX13_build0_306 : decode cX13_build0 306 = .ok (.iastore, 1) := by decide +kernel
theorem dX13_build0_307 : decode cX13_build0 307 = .ok (.iconst 0, 1) := by decide +kernel
theorem dX13_build0_308 : decode cX13_build0 308 = .ok (.istore 5, 2) := by decide +kernel
theorem dX13_build0_310 : decode cX13_build0 310 = .ok (.iload 5, 2) := by decide +kernel
theorem dX13_build0_312 : decode cX13_build0 312 = .ok (.iload 4, 2) := by decide +kernel
theorem dX13_build0_314 : decode cX13_build0 314 = .ok (.if_icmp .ge 111, 3) := by decide +kernel
theorem dX13_build0_317 : decode cX13_build0 317 = .ok (.iconst 1, 1) := by decide +kernel
theorem dX13_build0_318 : decode cX13_build0 318 = .ok (.iload 4, 2) := by decide +kernel
theorem dX13_build0_320 : decode cX13_build0 320 = .ok (.iadd, 1) := by decide +kernel
theorem dX13_build0_321 : decode cX13_build0 321 = .ok (.iload 5, 2) := by decide +kernel
theorem dX13_build0_323 : decode cX13_build0 323 = .ok (.iconst 4, 1) := by decide +kernel
theorem dX13_build0_324 : decode cX13_build0 324 = .ok (.idiv, 1) := by decide +kernel
theorem dX13_build0_325 : decode cX13_build0 325 = .ok (.iadd, 1) := by decide +kernel
theorem dX13_build0_326 : decode cX13_build0 326 = .ok (.istore 6, 2) := by decide +kernel
theorem dX13_build0_328 : decode cX13_build0 328 = .ok (.iload 5, 2) := by decide +kernel
theorem dX13_build0_330 : decode cX13_build0 330 = .ok (.iconst 4, 1) := by decide +kernel
theorem dX13_build0_331 : decode cX13_build0 331 = .ok (.irem, 1) := by decide +kernel
theorem dX13_build0_332 : decode cX13_build0 332 = .ok (.ifCond .ne 47, 3) := by decide +kernel
theorem dX13_build0_335 : decode cX13_build0 335 = .ok (.aload_n 0, 1) := by decide +kernel
theorem dX13_build0_336 : decode cX13_build0 336 = .ok (.getfield 7, 3) := by decide +kernel
theorem dX13_build0_339 : decode cX13_build0 339 = .ok (.iconst 0, 1) := by decide +kernel
theorem dX13_build0_340 : decode cX13_build0 340 = .ok (.iload 6, 2) := by decide +kernel
theorem dX13_build0_342 : decode cX13_build0 342 = .ok (.iadd, 1) := by decide +kernel
theorem dX13_build0_343 : decode cX13_build0 343 = .ok (.iconst 2, 1) := by decide +kernel
theorem dX13_build0_344 : decode cX13_build0 344 = .ok (.iastore, 1) := by decide +kernel
theorem dX13_build0_345 : decode cX13_build0 345 = .ok (.aload_n 0, 1) := by decide +kernel
theorem dX13_build0_346 : decode cX13_build0 346 = .ok (.iconst 0, 1) := by decide +kernel
theorem dX13_build0_347 : decode cX13_build0 347 = .ok (.iload 5, 2) := by decide +kernel
theorem dX13_build0_349 : decode cX13_build0 349 = .ok (.iconst 4, 1) := by decide +kernel
theorem dX13_build0_350 : decode cX13_build0 350 = .ok (.idiv, 1) := by decide +kernel
theorem dX13_build0_351 : decode cX13_build0 351 = .ok (.aload_n 0, 1) := by decide +kernel
theorem dX13_build0_352 : decode cX13_build0 352 = .ok (.iload 5, 2) := by decide +kernel
theorem dX13_build0_354 : decode cX13_build0 354 = .ok (.invokevirtual 242, 3) := by decide +kernel
theorem dX13_build0_357 : decode cX13_build0 357 = .ok (.aload_n 0, 1) := by decide +kernel
theorem dX13_build0_358 : decode cX13_build0 358 = .ok (.iload 5, 2) := by decide +kernel
theorem dX13_build0_360 : decode cX13_build0 360 = .ok (.invokevirtual 245, 3) := by decide +kernel
theorem dX13_build0_363 : decode cX13_build0 363 = .ok (.iload 6, 2) := by decide +kernel
theorem dX13_build0_365 : decode cX13_build0 365 = .ok (.invokevirtual 184, 3) := by decide +kernel
theorem dX13_build0_368 : decode cX13_build0 368 = .ok (.aload_n 0, 1) := by decide +kernel
theorem dX13_build0_369 : decode cX13_build0 369 = .ok (.getfield 7, 3) := by decide +kernel
theorem dX13_build0_372 : decode cX13_build0 372 = .ok (.bipush 80, 2) := by decide +kernel
theorem dX13_build0_374 : decode cX13_build0 374 = .ok (.dup2, 1) := by decide +kernel
theorem dX13_build0_375 : decode cX13_build0 375 = .ok (.iaload, 1) := by decide +kernel
theorem dX13_build0_376 : decode cX13_build0 376 = .ok (.iconst 1, 1) := by decide +kernel
theorem dX13_build0_377 : decode cX13_build0 377 = .ok (.iadd, 1) := by decide +kernel
theorem dX13_build0_378 : decode cX13_build0 378 = .ok (.iastore, 1) := by decide +kernel
theorem dX13_build0_379 : decode cX13_build0 379 = .ok (.aload_n 0, 1) := by decide +kernel
theorem dX13_build0_380 : decode cX13_build0 380 = .ok (.iload 6, 2) := by decide +kernel
theorem dX13_build0_382 : decode cX13_build0 382 = .ok (.iload 5, 2) := by decide +kernel
theorem dX13_build0_384 : decode cX13_build0 384 = .ok (.iconst 4, 1) := by decide +kernel
theorem dX13_build0_385 : decode cX13_build0 385 = .ok (.irem, 1) := by decide +kernel
theorem dX13_build0_386 : decode cX13_build0 386 = .ok (.aload_n 0, 1) := by decide +kernel
theorem dX13_build0_387 : decode cX13_build0 387 = .ok (.iload 5, 2) := by decide +kernel
theorem dX13_build0_389 : decode cX13_build0 389 = .ok (.invokevirtual 242, 3) := by decide +kernel
theorem dX13_build0_392 : decode cX13_build0 392 = .ok (.aload_n 0, 1) := by decide +kernel
theorem dX13_build0_393 : decode cX13_build0 393 = .ok (.iload 5, 2) := by decide +kernel
theorem dX13_build0_395 : decode cX13_build0 395 = .ok (.invokevirtual 245, 3) := by decide +kernel
theorem dX13_build0_398 : decode cX13_build0 398 = .ok (.iconst 1, 1) := by decide +kernel
theorem dX13_build0_399 : decode cX13_build0 399 = .ok (.iload 5, 2) := by decide +kernel
theorem dX13_build0_401 : decode cX13_build0 401 = .ok (.iadd, 1) := by decide +kernel
theorem dX13_build0_402 : decode cX13_build0 402 = .ok (.invokevirtual 184, 3) := by decide +kernel
theorem dX13_build0_405 : decode cX13_build0 405 = .ok (.aload_n 0, 1) := by decide +kernel
theorem dX13_build0_406 : decode cX13_build0 406 = .ok (.getfield 7, 3) := by decide +kernel
theorem dX13_build0_409 : decode cX13_build0 409 = .ok (.bipush 80, 2) := by decide +kernel
theorem dX13_build0_411 : decode cX13_build0 411 = .ok (.iload 6, 2) := by decide +kernel
theorem dX13_build0_413 : decode cX13_build0 413 = .ok (.iadd, 1) := by decide +kernel
theorem dX13_build0_414 : decode cX13_build0 414 = .ok (.dup2, 1) := by decide +kernel
theorem dX13_build0_415 : decode cX13_build0 415 = .ok (.iaload, 1) := by decide +kernel
theorem dX13_build0_416 : decode cX13_build0 416 = .ok (.iconst 1, 1) := by decide +kernel
theorem dX13_build0_417 : decode cX13_build0 417 = .ok (.iadd, 1) := by decide +kernel
theorem dX13_build0_418 : decode cX13_build0 418 = .ok (.iastore, 1) := by decide +kernel
theorem dX13_build0_419 : decode cX13_build0 419 = .ok (.iinc 5 1, 3) := by decide +kernel
theorem dX13_build0_422 : decode cX13_build0 422 = .ok (.goto (-112), 3) := by decide +kernel
theorem dX13_build0_425 : decode cX13_build0 425 = .ok (.iconst 0, 1) := by decide +kernel
theorem dX13_build0_426 : decode cX13_build0 426 = .ok (.ireturn, 1) := by decide +kernel
theorem dX13_tune0_0 : decode cX13_tune0 0 = .ok (.aload_n 0, 1) := by decide +kernel
theorem dX13_tune0_1 : decode cX13_tune0 1 = .ok (.iload_n 1, 1) := by decide +kernel
theorem dX13_tune0_2 : decode cX13_tune0 2 = .ok (.ifCond .ne 7, 3) := by decide +kernel
theorem dX13_tune0_5 : decode cX13_tune0 5 = .ok (.iload_n 2, 1) := by decide +kernel
theorem dX13_tune0_6 : decode cX13_tune0 6 = .ok (.goto 11, 3) := by decide +kernel
theorem dX13_tune0_9 : decode cX13_tune0 9 = .ok (.aload_n 0, 1) := by decide +kernel
theorem dX13_tune0_10 : decode cX13_tune0 10 = .ok (.getfield 7, 3) := by decide +kernel
theorem dX13_tune0_13 : decode cX13_tune0 13 = .ok (.sipush 1081, 3) := by decide +kernel
theorem dX13_tune0_16 : decode cX13_tune0 16 = .ok (.iaload, 1) := by decide +kernel
theorem dX13_tune0_17 : decode cX13_tune0 17 = .ok (.iload_n 1, 1) := by decide +kernel
theorem dX13_tune0_18 : decode cX13_tune0 18 = .ok (.iconst 1, 1) := by decide +kernel
theorem dX13_tune0_19 : decode cX13_tune0 19 = .ok (.if_icmp .ne 7, 3) := by decide +kernel
theorem dX13_tune0_22 : decode cX13_tune0 22 = .ok (.iload_n 2, 1) := by decide +kernel
theorem dX13_tune0_23 : decode cX13_tune0 23 = .ok (.goto 11, 3) := by decide +kernel
theorem dX13_tune0_26 : decode cX13_tune0 26 = .ok (.aload_n 0, 1) := by decide +kernel
theorem dX13_tune0_27 : decode cX13_tune0 27 = .ok (.getfield 7, 3) := by decide +kernel
theorem dX13_tune0_30 : decode cX13_tune0 30 = .ok (.sipush 1082, 3) := by decide +kernel
theorem dX13_tune0_33 : decode cX13_tune0 33 = .ok (.iaload, 1) := by decide +kernel
theorem dX13_tune0_34 : decode cX13_tune0 34 = .ok (.iload_n 1, 1) := by decide +kernel
theorem dX13_tune0_35 : decode cX13_tune0 35 = .ok (.iconst 2, 1) := by decide +kernel
theorem dX13_tune0_36 : decode cX13_tune0 36 = .ok (.if_icmp .ne 7, 3) := by decide +kernel
theorem dX13_tune0_39 : decode cX13_tune0 39 = .ok (.iload_n 2, 1) := by decide +kernel
theorem dX13_tune0_40 : decode cX13_tune0 40 = .ok (.goto 11, 3) := by decide +kernel
theorem dX13_tune0_43 : decode cX13_tune0 43 = .ok (.aload_n 0, 1) := by decide +kernel
theorem dX13_tune0_44 : decode cX13_tune0 44 = .ok (.getfield 7, 3) := by decide +kernel
theorem dX13_tune0_47 : decode cX13_tune0 47 = .ok (.sipush 1083, 3) := by decide +kernel
theorem dX13_tune0_50 : decode cX13_tune0 50 = .ok (.iaload, 1) := by decide +kernel
theorem dX13_tune0_51 : decode cX13_tune0 51 = .ok (.invokevirtual 248, 3) := by decide +kernel
theorem dX13_tune0_54 : decode cX13_tune0 54 = .ok (.istore_n 3, 1) := by decide +kernel
theorem dX13_tune0_55 : decode cX13_tune0 55 = .ok (.iconst 0, 1) := by decide +kernel
theorem dX13_tune0_56 : decode cX13_tune0 56 = .ok (.istore 4, 2) := by decide +kernel
theorem dX13_tune0_58 : decode cX13_tune0 58 = .ok (.iload 4, 2) := by decide +kernel
theorem dX13_tune0_60 : decode cX13_tune0 60 = .ok (.iconst 4, 1) := by decide +kernel
theorem dX13_tune0_61 : decode cX13_tune0 61 = .ok (.if_icmp .ge 21, 3) := by decide +kernel
theorem dX13_tune0_64 : decode cX13_tune0 64 = .ok (.iload_n 3, 1) := by decide +kernel
theorem dX13_tune0_65 : decode cX13_tune0 65 = .ok (.ifCond .ne 17, 3) := by decide +kernel
theorem dX13_tune0_68 : decode cX13_tune0 68 = .ok (.aload_n 0, 1) := by decide +kernel
theorem dX13_tune0_69 : decode cX13_tune0 69 = .ok (.getfield 35, 3) := by decide +kernel
theorem dX13_tune0_72 : decode cX13_tune0 72 = .ok (.iload 4, 2) := by decide +kernel
theorem dX13_tune0_74 : decode cX13_tune0 74 = .ok (.iconst 0, 1) := by decide +kernel
theorem dX13_tune0_75 : decode cX13_tune0 75 = .ok (.bastore, 1) := by decide +kernel
theorem dX13_tune0_76 : decode cX13_tune0 76 = .ok (.iinc 4 1, 3) := by decide +kernel
theorem dX13_tune0_79 : decode cX13_tune0 79 = .ok (.goto (-21), 3) := by decide +kernel
theorem dX13_tune0_82 : decode cX13_tune0 82 = .ok (.iload_n 3, 1) := by decide +kernel
theorem dX13_tune0_83 : decode cX13_tune0 83 = .ok (.ireturn, 1) := by decide +kernel
theorem dX13_tear0_0 : decode cX13_tear0 0 = .ok (.aload_n 0, 1) := by decide +kernel
theorem dX13_tear0_1 : decode cX13_tear0 1 = .ok (.getfield 7, 3) := by decide +kernel
theorem dX13_tear0_4 : decode cX13_tear0 4 = .ok (.iconst 0, 1) := by decide +kernel
theorem dX13_tear0_5 : decode cX13_tear0 5 = .ok (.iload_n 1, 1) := by decide +kernel
theorem dX13_tear0_6 : decode cX13_tear0 6 = .ok (.iadd, 1) := by decide +kernel
theorem dX13_tear0_7 : decode cX13_tear0 7 = .ok (.iaload, 1) := by decide +kernel
theorem dX13_tear0_8 : decode cX13_tear0 8 = .ok (.iconst 2, 1) := by decide +kernel
theorem dX13_tear0_9 : decode cX13_tear0 9 = .ok (.if_icmp .eq 5, 3) := by decide +kernel
theorem dX13_tear0_12 : decode cX13_tear0 12 = .ok (.iconst 5, 1) := by decide +kernel
theorem dX13_tear0_13 : decode cX13_tear0 13 = .ok (.ireturn, 1) := by decide +kernel
theorem dX13_tear0_14 : decode cX13_tear0 14 = .ok (.aload_n 0, 1) := by decide +kernel
theorem dX13_tear0_15 : decode cX13_tear0 15 = .ok (.getfield 7, 3) := by decide +kernel
theorem dX13_tear0_18 : decode cX13_tear0 18 = .ok (.bipush 40, 2) := by decide +kernel
theorem dX13_tear0_20 : decode cX13_tear0 20 = .ok (.iload_n 1, 1) := by decide +kernel
theorem dX13_tear0_21 : decode cX13_tear0 21 = .ok (.iadd, 1) := by decide +kernel
theorem dX13_tear0_22 : decode cX13_tear0 22 = .ok (.iconst 1, 1) := by decide +kernel
theorem dX13_tear0_23 : decode cX13_tear0 23 = .ok (.iastore, 1) := by decide +kernel
theorem dX13_tear0_24 : decode cX13_tear0 24 = .ok (.iconst 0, 1) := by decide +kernel
theorem dX13_tear0_25 : decode cX13_tear0 25 = .ok (.ireturn, 1) := by decide +kernel
theorem dX13_putsAside_0 : decode cX13_putsAside 0 = .ok (.iconst 0, 1) := by decide +kernel
theorem dX13_putsAside_1 : decode cX13_putsAside 1 = .ok (.istore_n 1, 1) := by decide +kernel
theorem dX13_putsAside_2 : decode cX13_putsAside 2 = .ok (.iload_n 1, 1) := by decide +kernel
theorem dX13_putsAside_3 : decode cX13_putsAside 3 = .ok (.sipush 1084, 3) := by decide +kernel
theorem dX13_putsAside_6 : decode cX13_putsAside 6 = .ok (.if_icmp .ge 21, 3) := by decide +kernel
theorem dX13_putsAside_9 : decode cX13_putsAside 9 = .ok (.aload_n 0, 1) := by decide +kernel
theorem dX13_putsAside_10 : decode cX13_putsAside 10 = .ok (.getfield 23, 3) := by decide +kernel
theorem dX13_putsAside_13 : decode cX13_putsAside 13 = .ok (.iload_n 1, 1) := by decide +kernel
theorem dX13_putsAside_14 : decode cX13_putsAside 14 = .ok (.aload_n 0, 1) := by decide +kernel
theorem dX13_putsAside_15 : decode cX13_putsAside 15 = .ok (.getfield 7, 3) := by decide +kernel
theorem dX13_putsAside_18 : decode cX13_putsAside 18 = .ok (.iload_n 1, 1) := by decide +kernel
theorem dX13_putsAside_19 : decode cX13_putsAside 19 = .ok (.iaload, 1) := by decide +kernel
theorem dX13_putsAside_20 : decode cX13_putsAside 20 = .ok (.iastore, 1) := by decide +kernel
theorem dX13_putsAside_21 : decode cX13_putsAside 21 = .ok (.iinc 1 1, 3) := by decide +kernel
theorem dX13_putsAside_24 : decode cX13_putsAside 24 = .ok (.goto (-22), 3) := by decide +kernel
theorem dX13_putsAside_27 : decode cX13_putsAside 27 = .ok (.iconst 0, 1) := by decide +kernel
theorem dX13_putsAside_28 : decode cX13_putsAside 28 = .ok (.istore_n 1, 1) := by decide +kernel
theorem dX13_putsAside_29 : decode cX13_putsAside 29 = .ok (.iload_n 1, 1) := by decide +kernel
theorem dX13_putsAside_30 : decode cX13_putsAside 30 = .ok (.sipush 240, 3) := by decide +kernel
theorem dX13_putsAside_33 : decode cX13_putsAside 33 = .ok (.if_icmp .ge 21, 3) := by decide +kernel
theorem dX13_putsAside_36 : decode cX13_putsAside 36 = .ok (.aload_n 0, 1) := by decide +kernel
theorem dX13_putsAside_37 : decode cX13_putsAside 37 = .ok (.getfield 26, 3) := by decide +kernel
theorem dX13_putsAside_40 : decode cX13_putsAside 40 = .ok (.iload_n 1, 1) := by decide +kernel
theorem dX13_putsAside_41 : decode cX13_putsAside 41 = .ok (.aload_n 0, 1) := by decide +kernel
theorem dX13_putsAside_42 : decode cX13_putsAside 42 = .ok (.getfield 13, 3) := by decide +kernel
theorem dX13_putsAside_45 : decode cX13_putsAside 45 = .ok (.iload_n 1, 1) := by decide +kernel
theorem dX13_putsAside_46 : decode cX13_putsAside 46 = .ok (.laload, 1) := by decide +kernel
theorem dX13_putsAside_47 : decode cX13_putsAside 47 = .ok (.lastore, 1) := by decide +kernel
theorem dX13_putsAside_48 : decode cX13_putsAside 48 = .ok (.iinc 1 1, 3) := by decide +kernel
theorem dX13_putsAside_51 : decode cX13_putsAside 51 = .ok (.goto (-22), 3) := by decide +kernel
theorem dX13_putsAside_54 : decode cX13_putsAside 54 = .ok (.return_, 1) := by decide +kernel
theorem dX13_comesBack_0 : decode cX13_comesBack 0 = .ok (.iconst 0, 1) := by decide +kernel
theorem dX13_comesBack_1 : decode cX13_comesBack 1 = .ok (.istore_n 1, 1) := by decide +kernel
theorem dX13_comesBack_2 : decode cX13_comesBack 2 = .ok (.iload_n 1, 1) := by decide +kernel
theorem dX13_comesBack_3 : decode cX13_comesBack 3 = .ok (.sipush 1084, 3) := by decide +kernel
theorem dX13_comesBack_6 : decode cX13_comesBack 6 = .ok (.if_icmp .ge 21, 3) := by decide +kernel
theorem dX13_comesBack_9 : decode cX13_comesBack 9 = .ok (.aload_n 0, 1) := by decide +kernel
theorem dX13_comesBack_10 : decode cX13_comesBack 10 = .ok (.getfield 7, 3) := by decide +kernel
theorem dX13_comesBack_13 : decode cX13_comesBack 13 = .ok (.iload_n 1, 1) := by decide +kernel
theorem dX13_comesBack_14 : decode cX13_comesBack 14 = .ok (.aload_n 0, 1) := by decide +kernel
theorem dX13_comesBack_15 : decode cX13_comesBack 15 = .ok (.getfield 23, 3) := by decide +kernel
theorem dX13_comesBack_18 : decode cX13_comesBack 18 = .ok (.iload_n 1, 1) := by decide +kernel
theorem dX13_comesBack_19 : decode cX13_comesBack 19 = .ok (.iaload, 1) := by decide +kernel
theorem dX13_comesBack_20 : decode cX13_comesBack 20 = .ok (.iastore, 1) := by decide +kernel
theorem dX13_comesBack_21 : decode cX13_comesBack 21 = .ok (.iinc 1 1, 3) := by decide +kernel
theorem dX13_comesBack_24 : decode cX13_comesBack 24 = .ok (.goto (-22), 3) := by decide +kernel
theorem dX13_comesBack_27 : decode cX13_comesBack 27 = .ok (.iconst 0, 1) := by decide +kernel
theorem dX13_comesBack_28 : decode cX13_comesBack 28 = .ok (.istore_n 1, 1) := by decide +kernel
theorem dX13_comesBack_29 : decode cX13_comesBack 29 = .ok (.iload_n 1, 1) := by decide +kernel
theorem dX13_comesBack_30 : decode cX13_comesBack 30 = .ok (.sipush 240, 3) := by decide +kernel
theorem dX13_comesBack_33 : decode cX13_comesBack 33 = .ok (.if_icmp .ge 21, 3) := by decide +kernel
theorem dX13_comesBack_36 : decode cX13_comesBack 36 = .ok (.aload_n 0, 1) := by decide +kernel
theorem dX13_comesBack_37 : decode cX13_comesBack 37 = .ok (.getfield 13, 3) := by decide +kernel
theorem dX13_comesBack_40 : decode cX13_comesBack 40 = .ok (.iload_n 1, 1) := by decide +kernel
theorem dX13_comesBack_41 : decode cX13_comesBack 41 = .ok (.aload_n 0, 1) := by decide +kernel
theorem dX13_comesBack_42 : decode cX13_comesBack 42 = .ok (.getfield 26, 3) := by decide +kernel
theorem dX13_comesBack_45 : decode cX13_comesBack 45 = .ok (.iload_n 1, 1) := by decide +kernel
theorem dX13_comesBack_46 : decode cX13_comesBack 46 = .ok (.laload, 1) := by decide +kernel
theorem dX13_comesBack_47 : decode cX13_comesBack 47 = .ok (.lastore, 1) := by decide +kernel
theorem dX13_comesBack_48 : decode cX13_comesBack 48 = .ok (.iinc 1 1, 3) := by decide +kernel
theorem dX13_comesBack_51 : decode cX13_comesBack 51 = .ok (.goto (-22), 3) := by decide +kernel
theorem dX13_comesBack_54 : decode cX13_comesBack 54 = .ok (.return_, 1) := by decide +kernel
theorem dX13_remembers_0 : decode cX13_remembers 0 = .ok (.aload_n 0, 1) := by decide +kernel
theorem dX13_remembers_1 : decode cX13_remembers 1 = .ok (.getfield 251, 3) := by decide +kernel
theorem dX13_remembers_4 : decode cX13_remembers 4 = .ok (.bipush 8, 2) := by decide +kernel
theorem dX13_remembers_6 : decode cX13_remembers 6 = .ok (.if_icmp .ne 75, 3) := by decide +kernel
theorem dX13_remembers_9 : decode cX13_remembers 9 = .ok (.iconst 0, 1) := by decide +kernel
theorem dX13_remembers_10 : decode cX13_remembers 10 = .ok (.istore_n 1, 1) := by decide +kernel
theorem dX13_remembers_11 : decode cX13_remembers 11 = .ok (.iload_n 1, 1) := by decide +kernel
theorem dX13_remembers_12 : decode cX13_remembers 12 = .ok (.sipush 7588, 3) := by decide +kernel
theorem dX13_remembers_15 : decode cX13_remembers 15 = .ok (.if_icmp .ge 25, 3) := by decide +kernel
theorem dX13_remembers_18 : decode cX13_remembers 18 = .ok (.aload_n 0, 1) := by decide +kernel
theorem dX13_remembers_19 : decode cX13_remembers 19 = .ok (.getfield 17, 3) := by decide +kernel
theorem dX13_remembers_22 : decode cX13_remembers 22 = .ok (.iload_n 1, 1) := by decide +kernel
theorem dX13_remembers_23 : decode cX13_remembers 23 = .ok (.aload_n 0, 1) := by decide +kernel
theorem dX13_remembers_24 : decode cX13_remembers 24 = .ok (.getfield 17, 3) := by decide +kernel
theorem dX13_remembers_27 : decode cX13_remembers 27 = .ok (.iload_n 1, 1) := by decide +kernel
theorem dX13_remembers_28 : decode cX13_remembers 28 = .ok (.sipush 1084, 3) := by decide +kernel
theorem dX13_remembers_31 : decode cX13_remembers 31 = .ok (.iadd, 1) := by decide +kernel
theorem dX13_remembers_32 : decode cX13_remembers 32 = .ok (.iaload, 1) := by decide +kernel
theorem dX13_remembers_33 : decode cX13_remembers 33 = .ok (.iastore, 1) := by decide +kernel
theorem dX13_remembers_34 : decode cX13_remembers 34 = .ok (.iinc 1 1, 3) := by decide +kernel
theorem dX13_remembers_37 : decode cX13_remembers 37 = .ok (.goto (-26), 3) := by decide +kernel
theorem dX13_remembers_40 : decode cX13_remembers 40 = .ok (.iconst 0, 1) := by decide +kernel
theorem dX13_remembers_41 : decode cX13_remembers 41 = .ok (.istore_n 1, 1) := by decide +kernel
theorem dX13_remembers_42 : decode cX13_remembers 42 = .ok (.iload_n 1, 1) := by decide +kernel
theorem dX13_remembers_43 : decode cX13_remembers 43 = .ok (.sipush 1680, 3) := by decide +kernel
theorem dX13_remembers_46 : decode cX13_remembers 46 = .ok (.if_icmp .ge 25, 3) := by decide +kernel
theorem dX13_remembers_49 : decode cX13_remembers 49 = .ok (.aload_n 0, 1) := by decide +kernel
theorem dX13_remembers_50 : decode cX13_remembers 50 = .ok (.getfield 20, 3) := by decide +kernel
theorem dX13_remembers_53 : decode cX13_remembers 53 = .ok (.iload_n 1, 1) := by decide +kernel
theorem dX13_remembers_54 : decode cX13_remembers 54 = .ok (.aload_n 0, 1) := by decide +kernel
theorem dX13_remembers_55 : decode cX13_remembers 55 = .ok (.getfield 20, 3) := by decide +kernel
theorem dX13_remembers_58 : decode cX13_remembers 58 = .ok (.iload_n 1, 1) := by decide +kernel
theorem dX13_remembers_59 : decode cX13_remembers 59 = .ok (.sipush 240, 3) := by decide +kernel
theorem dX13_remembers_62 : decode cX13_remembers 62 = .ok (.iadd, 1) := by decide +kernel
theorem dX13_remembers_63 : decode cX13_remembers 63 = .ok (.laload, 1) := by decide +kernel
theorem dX13_remembers_64 : decode cX13_remembers 64 = .ok (.lastore, 1) := by decide +kernel
theorem dX13_remembers_65 : decode cX13_remembers 65 = .ok (.iinc 1 1, 3) := by decide +kernel
theorem dX13_remembers_68 : decode cX13_remembers 68 = .ok (.goto (-26), 3) := by decide +kernel
theorem dX13_remembers_71 : decode cX13_remembers 71 = .ok (.aload_n 0, 1) := by decide +kernel
theorem dX13_remembers_72 : decode cX13_remembers 72 = .ok (.dup, 1) := by decide +kernel
theorem dX13_remembers_73 : decode cX13_remembers 73 = .ok (.getfield 251, 3) := by decide +kernel
theorem dX13_remembers_76 : decode cX13_remembers 76 = .ok (.iconst 1, 1) := by decide +kernel
theorem dX13_remembers_77 : decode cX13_remembers 77 = .ok (.isub, 1) := by decide +kernel
theorem dX13_remembers_78 : decode cX13_remembers 78 = .ok (.putfield 251, 3) := by decide +kernel
theorem dX13_remembers_81 : decode cX13_remembers 81 = .ok (.iconst 0, 1) := by decide +kernel
theorem dX13_remembers_82 : decode cX13_remembers 82 = .ok (.istore_n 1, 1) := by decide +kernel
theorem dX13_remembers_83 : decode cX13_remembers 83 = .ok (.iload_n 1, 1) := by decide +kernel
theorem dX13_remembers_84 : decode cX13_remembers 84 = .ok (.sipush 1084, 3) := by decide +kernel
theorem dX13_remembers_87 : decode cX13_remembers 87 = .ok (.if_icmp .ge 30, 3) := by decide +kernel
theorem dX13_remembers_90 : decode cX13_remembers 90 = .ok (.aload_n 0, 1) := by decide +kernel
theorem dX13_remembers_91 : decode cX13_remembers 91 = .ok (.getfield 17, 3) := by decide +kernel
theorem dX13_remembers_94 : decode cX13_remembers 94 = .ok (.sipush 1084, 3) := by decide +kernel
theorem dX13_remembers_97 : decode cX13_remembers 97 = .ok (.aload_n 0, 1) := by decide +kernel
theorem dX13_remembers_98 : decode cX13_remembers 98 = .ok (.getfield 251, 3) := by decide +kernel
theorem dX13_remembers_101 : decode cX13_remembers 101 = .ok (.imul, 1) := by decide +kernel
theorem dX13_remembers_102 : decode cX13_remembers 102 = .ok (.iload_n 1, 1) := by decide +kernel
theorem dX13_remembers_103 : decode cX13_remembers 103 = .ok (.iadd, 1) := by decide +kernel
theorem dX13_remembers_104 : decode cX13_remembers 104 = .ok (.aload_n 0, 1) := by decide +kernel
theorem dX13_remembers_105 : decode cX13_remembers 105 = .ok (.getfield 23, 3) := by decide +kernel
theorem dX13_remembers_108 : decode cX13_remembers 108 = .ok (.iload_n 1, 1) := by decide +kernel
theorem dX13_remembers_109 : decode cX13_remembers 109 = .ok (.iaload, 1) := by decide +kernel
theorem dX13_remembers_110 : decode cX13_remembers 110 = .ok (.iastore, 1) := by decide +kernel
theorem dX13_remembers_111 : decode cX13_remembers 111 = .ok (.iinc 1 1, 3) := by decide +kernel
theorem dX13_remembers_114 : decode cX13_remembers 114 = .ok (.goto (-31), 3) := by decide +kernel
theorem dX13_remembers_117 : decode cX13_remembers 117 = .ok (.iconst 0, 1) := by decide +kernel
theorem dX13_remembers_118 : decode cX13_remembers 118 = .ok (.istore_n 1, 1) := by decide +kernel
theorem dX13_remembers_119 : decode cX13_remembers 119 = .ok (.iload_n 1, 1) := by decide +kernel
theorem dX13_remembers_120 : decode cX13_remembers 120 = .ok (.sipush 240, 3) := by decide +kernel
theorem dX13_remembers_123 : decode cX13_remembers 123 = .ok (.if_icmp .ge 30, 3) := by decide +kernel
theorem dX13_remembers_126 : decode cX13_remembers 126 = .ok (.aload_n 0, 1) := by decide +kernel
theorem dX13_remembers_127 : decode cX13_remembers 127 = .ok (.getfield 20, 3) := by decide +kernel
theorem dX13_remembers_130 : decode cX13_remembers 130 = .ok (.sipush 240, 3) := by decide +kernel
theorem dX13_remembers_133 : decode cX13_remembers 133 = .ok (.aload_n 0, 1) := by decide +kernel
theorem dX13_remembers_134 : decode cX13_remembers 134 = .ok (.getfield 251, 3) := by decide +kernel
theorem dX13_remembers_137 : decode cX13_remembers 137 = .ok (.imul, 1) := by decide +kernel
theorem dX13_remembers_138 : decode cX13_remembers 138 = .ok (.iload_n 1, 1) := by decide +kernel
theorem dX13_remembers_139 : decode cX13_remembers 139 = .ok (.iadd, 1) := by decide +kernel
theorem dX13_remembers_140 : decode cX13_remembers 140 = .ok (.aload_n 0, 1) := by decide +kernel
theorem dX13_remembers_141 : decode cX13_remembers 141 = .ok (.getfield 26, 3) := by decide +kernel
theorem dX13_remembers_144 : decode cX13_remembers 144 = .ok (.iload_n 1, 1) := by decide +kernel
theorem dX13_remembers_145 : decode cX13_remembers 145 = .ok (.laload, 1) := by decide +kernel
theorem dX13_remembers_146 : decode cX13_remembers 146 = .ok (.lastore, 1) := by decide +kernel
theorem dX13_remembers_147 : decode cX13_remembers 147 = .ok (.iinc 1 1, 3) := by decide +kernel
theorem dX13_remembers_150 : decode cX13_remembers 150 = .ok (.goto (-31), 3) := by decide +kernel
theorem dX13_remembers_153 : decode cX13_remembers 153 = .ok (.aload_n 0, 1) := by decide +kernel
theorem dX13_remembers_154 : decode cX13_remembers 154 = .ok (.dup, 1) := by decide +kernel
theorem dX13_remembers_155 : decode cX13_remembers 155 = .ok (.getfield 251, 3) := by decide +kernel
theorem dX13_remembers_158 : decode cX13_remembers 158 = .ok (.iconst 1, 1) := by decide +kernel
theorem dX13_remembers_159 : decode cX13_remembers 159 = .ok (.iadd, 1) := by decide +kernel
theorem dX13_remembers_160 : decode cX13_remembers 160 = .ok (.putfield 251, 3) := by decide +kernel
theorem dX13_remembers_163 : decode cX13_remembers 163 = .ok (.return_, 1) := by decide +kernel
theorem dX13_isDone_0 : decode cX13_isDone 0 = .ok (.aload_n 0, 1) := by decide +kernel
theorem dX13_isDone_1 : decode cX13_isDone 1 = .ok (.iload_n 1, 1) := by decide +kernel
theorem dX13_isDone_2 : decode cX13_isDone 2 = .ok (.putfield 254, 3) := by decide +kernel
theorem dX13_isDone_5 : decode cX13_isDone 5 = .ok (.aload_n 0, 1) := by decide +kernel
theorem dX13_isDone_6 : decode cX13_isDone 6 = .ok (.iload_n 1, 1) := by decide +kernel
theorem dX13_isDone_7 : decode cX13_isDone 7 = .ok (.ifCond .le 7, 3) := by decide +kernel
theorem dX13_isDone_10 : decode cX13_isDone 10 = .ok (.iload_n 2, 1) := by decide +kernel
theorem dX13_isDone_11 : decode cX13_isDone 11 = .ok (.goto 4, 3) := by decide +kernel
theorem dX13_isDone_14 : decode cX13_isDone 14 = .ok (.iconst 0, 1) := by decide +kernel
theorem dX13_isDone_15 : decode cX13_isDone 15 = .ok (.putfield 79, 3) := by decide +kernel
theorem dX13_isDone_18 : decode cX13_isDone 18 = .ok (.iload_n 1, 1) := by decide +kernel
theorem dX13_isDone_19 : decode cX13_isDone 19 = .ok (.ifCond .ne 7, 3) := by decide +kernel
theorem dX13_isDone_22 : decode cX13_isDone 22 = .ok (.aload_n 0, 1) := by decide +kernel
theorem dX13_isDone_23 : decode cX13_isDone 23 = .ok (.invokevirtual 257, 3) := by decide +kernel
theorem dX13_isDone_26 : decode cX13_isDone 26 = .ok (.iload_n 1, 1) := by decide +kernel
theorem dX13_isDone_27 : decode cX13_isDone 27 = .ok (.ifCond .ne 7, 3) := by decide +kernel
theorem dX13_isDone_30 : decode cX13_isDone 30 = .ok (.iconst 1, 1) := by decide +kernel
theorem dX13_isDone_31 : decode cX13_isDone 31 = .ok (.goto 4, 3) := by decide +kernel
theorem dX13_isDone_34 : decode cX13_isDone 34 = .ok (.iconst 0, 1) := by decide +kernel
theorem dX13_isDone_35 : decode cX13_isDone 35 = .ok (.ireturn, 1) := by decide +kernel
theorem dX13_feed_0 : decode cX13_feed 0 = .ok (.aload_n 0, 1) := by decide +kernel
theorem dX13_feed_1 : decode cX13_feed 1 = .ok (.iconst 0, 1) := by decide +kernel
theorem dX13_feed_2 : decode cX13_feed 2 = .ok (.putfield 79, 3) := by decide +kernel
theorem dX13_feed_5 : decode cX13_feed 5 = .ok (.aload_n 0, 1) := by decide +kernel
theorem dX13_feed_6 : decode cX13_feed 6 = .ok (.getfield 260, 3) := by decide +kernel
theorem dX13_feed_9 : decode cX13_feed 9 = .ok (.bipush 20, 2) := by decide +kernel
theorem dX13_feed_11 : decode cX13_feed 11 = .ok (.iadd, 1) := by decide +kernel
theorem dX13_feed_12 : decode cX13_feed 12 = .ok (.sipush 400, 3) := by decide +kernel
theorem dX13_feed_15 : decode cX13_feed 15 = .ok (.if_icmp .le 5, 3) := by decide +kernel
theorem dX13_feed_18 : decode cX13_feed 18 = .ok (.iconst (-1), 1) := by decide +kernel
theorem dX13_feed_19 : decode cX13_feed 19 = .ok (.ireturn, 1) := by decide +kernel
theorem dX13_feed_20 : decode cX13_feed 20 = .ok (.iconst 0, 1) := by decide +kernel
theorem dX13_feed_21 : decode cX13_feed 21 = .ok (.istore 6, 2) := by decide +kernel
theorem dX13_feed_23 : decode cX13_feed 23 = .ok (.iload 6, 2) := by decide +kernel
theorem dX13_feed_25 : decode cX13_feed 25 = .ok (.bipush 20, 2) := by decide +kernel
theorem dX13_feed_27 : decode cX13_feed 27 = .ok (.if_icmp .ge 93, 3) := by decide +kernel
theorem dX13_feed_30 : decode cX13_feed 30 = .ok (.iload 6, 2) := by decide +kernel
theorem dX13_feed_32 : decode cX13_feed 32 = .ok (.iconst 4, 1) := by decide +kernel
theorem dX13_feed_33 : decode cX13_feed 33 = .ok (.if_icmp .ge 7, 3) := by decide +kernel
theorem dX13_feed_36 : decode cX13_feed 36 = .ok (.iload_n 1, 1) := by decide +kernel
theorem dX13_feed_37 : decode cX13_feed 37 = .ok (.goto 39, 3) := by decide +kernel
theorem dX13_feed_40 : decode cX13_feed 40 = .ok (.iload 6, 2) := by decide +kernel
theorem dX13_feed_42 : decode cX13_feed 42 = .ok (.bipush 8, 2) := by decide +kernel
theorem dX13_feed_44 : decode cX13_feed 44 = .ok (.if_icmp .ge 7, 3) := by decide +kernel
theorem dX13_feed_47 : decode cX13_feed 47 = .ok (.iload_n 2, 1) := by decide +kernel
theorem dX13_feed_48 : decode cX13_feed 48 = .ok (.goto 28, 3) := by decide +kernel
theorem dX13_feed_51 : decode cX13_feed 51 = .ok (.iload 6, 2) := by decide +kernel
theorem dX13_feed_53 : decode cX13_feed 53 = .ok (.bipush 12, 2) := by decide +kernel
theorem dX13_feed_55 : decode cX13_feed 55 = .ok (.if_icmp .ge 7, 3) := by decide +kernel
theorem dX13_feed_58 : decode cX13_feed 58 = .ok (.iload_n 3, 1) := by decide +kernel
theorem dX13_feed_59 : decode cX13_feed 59 = .ok (.goto 17, 3) := by decide +kernel
theorem dX13_feed_62 : decode cX13_feed 62 = .ok (.iload 6, 2) := by decide +kernel
theorem dX13_feed_64 : decode cX13_feed 64 = .ok (.bipush 16, 2) := by decide +kernel
theorem dX13_feed_66 : decode cX13_feed 66 = .ok (.if_icmp .ge 8, 3) := by decide +kernel
theorem dX13_feed_69 : decode cX13_feed 69 = .ok (.iload 4, 2) := by decide +kernel
theorem dX13_feed_71 : decode cX13_feed 71 = .ok (.goto 5, 3) := by decide +kernel
theorem dX13_feed_74 : decode cX13_feed 74 = .ok (.iload 5, 2) := by decide +kernel
theorem dX13_feed_76 : decode cX13_feed 76 = .ok (.istore 7, 2) := by decide +kernel
theorem dX13_feed_78 : decode cX13_feed 78 = .ok (.aload_n 0, 1) := by decide +kernel
theorem dX13_feed_79 : decode cX13_feed 79 = .ok (.getfield 51, 3) := by decide +kernel
theorem dX13_feed_82 : decode cX13_feed 82 = .ok (.aload_n 0, 1) := by decide +kernel
theorem dX13_feed_83 : decode cX13_feed 83 = .ok (.getfield 260, 3) := by decide +kernel
theorem dX13_feed_86 : decode cX13_feed 86 = .ok (.iload 7, 2) := by decide +kernel
theorem dX13_feed_88 : decode cX13_feed 88 = .ok (.bipush 24, 2) := by decide +kernel
theorem dX13_feed_90 : decode cX13_feed 90 = .ok (.bipush 8, 2) := by decide +kernel
theorem dX13_feed_92 : decode cX13_feed 92 = .ok (.iload 6, 2) := by decide +kernel
theorem dX13_feed_94 : decode cX13_feed 94 = .ok (.iconst 4, 1) := by decide +kernel
theorem dX13_feed_95 : decode cX13_feed 95 = .ok (.irem, 1) := by decide +kernel
theorem dX13_feed_96 : decode cX13_feed 96 = .ok (.imul, 1) := by decide +kernel
theorem dX13_feed_97 : decode cX13_feed 97 = .ok (.isub, 1) := by decide +kernel
theorem dX13_feed_98 : decode cX13_feed 98 = .ok (.iushr, 1) := by decide +kernel
theorem dX13_feed_99 : decode cX13_feed 99 = .ok (.sipush 255, 3) := by decide +kernel
theorem dX13_feed_102 : decode cX13_feed 102 = .ok (.iand, 1) := by decide +kernel
theorem dX13_feed_103 : decode cX13_feed 103 = .ok (.iastore, 1) := by decide +kernel
theorem dX13_feed_104 : decode cX13_feed 104 = .ok (.aload_n 0, 1) := by decide +kernel
theorem dX13_feed_105 : decode cX13_feed 105 = .ok (.dup, 1) := by decide +kernel
theorem dX13_feed_106 : decode cX13_feed 106 = .ok (.getfield 260, 3) := by decide +kernel
theorem dX13_feed_109 : decode cX13_feed 109 = .ok (.iconst 1, 1) := by decide +kernel
theorem dX13_feed_110 : decode cX13_feed 110 = .ok (.iadd, 1) := by decide +kernel
theorem dX13_feed_111 : decode cX13_feed 111 = .ok (.putfield 260, 3) := by decide +kernel
theorem dX13_feed_114 : decode cX13_feed 114 = .ok (.iinc 6 1, 3) := by decide +kernel
theorem dX13_feed_117 : decode cX13_feed 117 = .ok (.goto (-94), 3) := by decide +kernel
theorem dX13_feed_120 : decode cX13_feed 120 = .ok (.aload_n 0, 1) := by decide +kernel
theorem dX13_feed_121 : decode cX13_feed 121 = .ok (.getfield 260, 3) := by decide +kernel
theorem dX13_feed_124 : decode cX13_feed 124 = .ok (.ireturn, 1) := by decide +kernel
theorem dX13_end_0 : decode cX13_end 0 = .ok (.aload_n 0, 1) := by decide +kernel
theorem dX13_end_1 : decode cX13_end 1 = .ok (.iconst 0, 1) := by decide +kernel
theorem dX13_end_2 : decode cX13_end 2 = .ok (.putfield 79, 3) := by decide +kernel
theorem dX13_end_5 : decode cX13_end 5 = .ok (.iload_n 1, 1) := by decide +kernel
theorem dX13_end_6 : decode cX13_end 6 = .ok (.iconst 0, 1) := by decide +kernel
theorem dX13_end_7 : decode cX13_end 7 = .ok (.aload_n 0, 1) := by decide +kernel
theorem dX13_end_8 : decode cX13_end 8 = .ok (.getfield 260, 3) := by decide +kernel
theorem dX13_end_11 : decode cX13_end 11 = .ok (.invokestatic 263, 3) := by decide +kernel
theorem dX13_end_14 : decode cX13_end 14 = .ok (.ifCond .ne 5, 3) := by decide +kernel
theorem dX13_end_17 : decode cX13_end 17 = .ok (.iconst 0, 1) := by decide +kernel
theorem dX13_end_18 : decode cX13_end 18 = .ok (.ireturn, 1) := by decide +kernel
theorem dX13_end_19 : decode cX13_end 19 = .ok (.aload_n 0, 1) := by decide +kernel
theorem dX13_end_20 : decode cX13_end 20 = .ok (.iload_n 1, 1) := by decide +kernel
theorem dX13_end_21 : decode cX13_end 21 = .ok (.putfield 260, 3) := by decide +kernel
theorem dX13_end_24 : decode cX13_end 24 = .ok (.iconst 1, 1) := by decide +kernel
theorem dX13_end_25 : decode cX13_end 25 = .ok (.ireturn, 1) := by decide +kernel
theorem dX13_begins_0 : decode cX13_begins 0 = .ok (.aload_n 0, 1) := by decide +kernel
theorem dX13_begins_1 : decode cX13_begins 1 = .ok (.iconst (-1), 1) := by decide +kernel
theorem dX13_begins_2 : decode cX13_begins 2 = .ok (.putfield 54, 3) := by decide +kernel
theorem dX13_begins_5 : decode cX13_begins 5 = .ok (.aload_n 0, 1) := by decide +kernel
theorem dX13_begins_6 : decode cX13_begins 6 = .ok (.aload_n 0, 1) := by decide +kernel
theorem dX13_begins_7 : decode cX13_begins 7 = .ok (.getfield 260, 3) := by decide +kernel
theorem dX13_begins_10 : decode cX13_begins 10 = .ok (.putfield 267, 3) := by decide +kernel
theorem dX13_begins_13 : decode cX13_begins 13 = .ok (.aload_n 0, 1) := by decide +kernel
theorem dX13_begins_14 : decode cX13_begins 14 = .ok (.iconst 0, 1) := by decide +kernel
theorem dX13_begins_15 : decode cX13_begins 15 = .ok (.putfield 260, 3) := by decide +kernel
theorem dX13_begins_18 : decode cX13_begins 18 = .ok (.aload_n 0, 1) := by decide +kernel
theorem dX13_begins_19 : decode cX13_begins 19 = .ok (.iconst 0, 1) := by decide +kernel
theorem dX13_begins_20 : decode cX13_begins 20 = .ok (.putfield 270, 3) := by decide +kernel
theorem dX13_begins_23 : decode cX13_begins 23 = .ok (.return_, 1) := by decide +kernel
theorem dX13_here_0 : decode cX13_here 0 = .ok (.aload_n 0, 1) := by decide +kernel
theorem dX13_here_1 : decode cX13_here 1 = .ok (.getfield 270, 3) := by decide +kernel
theorem dX13_here_4 : decode cX13_here 4 = .ok (.aload_n 0, 1) := by decide +kernel
theorem dX13_here_5 : decode cX13_here 5 = .ok (.getfield 267, 3) := by decide +kernel
theorem dX13_here_8 : decode cX13_here 8 = .ok (.if_icmp .ge 30, 3) := by decide +kernel
theorem dX13_here_11 : decode cX13_here 11 = .ok (.aload_n 0, 1) := by decide +kernel
theorem dX13_here_12 : decode cX13_here 12 = .ok (.getfield 51, 3) := by decide +kernel
theorem dX13_here_15 : decode cX13_here 15 = .ok (.aload_n 0, 1) := by decide +kernel
theorem dX13_here_16 : decode cX13_here 16 = .ok (.getfield 270, 3) := by decide +kernel
theorem dX13_here_19 : decode cX13_here 19 = .ok (.iaload, 1) := by decide +kernel
theorem dX13_here_20 : decode cX13_here 20 = .ok (.bipush 32, 2) := by decide +kernel
theorem dX13_here_22 : decode cX13_here 22 = .ok (.if_icmp .ne 16, 3) := by decide +kernel
theorem dX13_here_25 : decode cX13_here 25 = .ok (.aload_n 0, 1) := by decide +kernel
theorem dX13_here_26 : decode cX13_here 26 = .ok (.dup, 1) := by decide +kernel
theorem dX13_here_27 : decode cX13_here 27 = .ok (.getfield 270, 3) := by decide +kernel
theorem dX13_here_30 : decode cX13_here 30 = .ok (.iconst 1, 1) := by decide +kernel
theorem dX13_here_31 : decode cX13_here 31 = .ok (.iadd, 1) := by decide +kernel
theorem dX13_here_32 : decode cX13_here 32 = .ok (.putfield 270, 3) := by decide +kernel
theorem dX13_here_35 : decode cX13_here 35 = .ok (.goto (-35), 3) := by decide +kernel
theorem dX13_here_38 : decode cX13_here 38 = .ok (.aload_n 0, 1) := by decide +kernel
theorem dX13_here_39 : decode cX13_here 39 = .ok (.getfield 270, 3) := by decide +kernel
theorem dX13_here_42 : decode cX13_here 42 = .ok (.ireturn, 1) := by decide +kernel
theorem dX13_wrong_0 : decode cX13_wrong 0 = .ok (.aload_n 0, 1) := by decide +kernel
theorem dX13_wrong_1 : decode cX13_wrong 1 = .ok (.getfield 54, 3) := by decide +kernel
theorem dX13_wrong_4 : decode cX13_wrong 4 = .ok (.iconst (-1), 1) := by decide +kernel
theorem dX13_wrong_5 : decode cX13_wrong 5 = .ok (.if_icmp .ne 8, 3) := by decide +kernel
theorem dX13_wrong_8 : decode cX13_wrong 8 = .ok (.aload_n 0, 1) := by decide +kernel
theorem dX13_wrong_9 : decode cX13_wrong 9 = .ok (.iload_n 1, 1) := by decide +kernel
theorem dX13_wrong_10 : decode cX13_wrong 10 = .ok (.putfield 54, 3) := by decide +kernel
theorem dX13_wrong_13 : decode cX13_wrong 13 = .ok (.return_, 1) := by decide +kernel
theorem dX13_isLetter_0 : decode cX13_isLetter 0 = .ok (.iload_n 0, 1) := by decide +kernel
theorem dX13_isLetter_1 : decode cX13_isLetter 1 = .ok (.bipush 97, 2) := by decide +kernel
theorem dX13_isLetter_3 : decode cX13_isLetter 3 = .ok (.bipush 122, 2) := by decide +kernel
theorem dX13_isLetter_5 : decode cX13_isLetter 5 = .ok (.invokestatic 263, 3) := by decide +kernel
theorem dX13_isLetter_8 : decode cX13_isLetter 8 = .ok (.ifCond .ne 14, 3) := by decide +kernel
theorem dX13_isLetter_11 : decode cX13_isLetter 11 = .ok (.iload_n 0, 1) := by decide +kernel
theorem dX13_isLetter_12 : decode cX13_isLetter 12 = .ok (.bipush 65, 2) := by decide +kernel
theorem dX13_isLetter_14 : decode cX13_isLetter 14 = .ok (.bipush 90, 2) := by decide +kernel
theorem dX13_isLetter_16 : decode cX13_isLetter 16 = .ok (.invokestatic 263, 3) := by decide +kernel
theorem dX13_isLetter_19 : decode cX13_isLetter 19 = .ok (.ifCond .eq 7, 3) := by decide +kernel
theorem dX13_isLetter_22 : decode cX13_isLetter 22 = .ok (.iconst 1, 1) := by decide +kernel
theorem dX13_isLetter_23 : decode cX13_isLetter 23 = .ok (.goto 4, 3) := by decide +kernel
theorem dX13_isLetter_26 : decode cX13_isLetter 26 = .ok (.iconst 0, 1) := by decide +kernel
theorem dX13_isLetter_27 : decode cX13_isLetter 27 = .ok (.ireturn, 1) := by decide +kernel
theorem dX13_wordEnd_0 : decode cX13_wordEnd 0 = .ok (.aload_n 0, 1) := by decide +kernel
theorem dX13_wordEnd_1 : decode cX13_wordEnd 1 = .ok (.invokevirtual 273, 3) := by decide +kernel
theorem dX13_wordEnd_4 : decode cX13_wordEnd 4 = .ok (.istore_n 1, 1) := by decide +kernel
theorem dX13_wordEnd_5 : decode cX13_wordEnd 5 = .ok (.iload_n 1, 1) := by decide +kernel
theorem dX13_wordEnd_6 : decode cX13_wordEnd 6 = .ok (.aload_n 0, 1) := by decide +kernel
theorem dX13_wordEnd_7 : decode cX13_wordEnd 7 = .ok (.getfield 267, 3) := by decide +kernel
theorem dX13_wordEnd_10 : decode cX13_wordEnd 10 = .ok (.if_icmp .ge 21, 3) := by decide +kernel
theorem dX13_wordEnd_13 : decode cX13_wordEnd 13 = .ok (.aload_n 0, 1) := by decide +kernel
theorem dX13_wordEnd_14 : decode cX13_wordEnd 14 = .ok (.getfield 51, 3) := by decide +kernel
theorem dX13_wordEnd_17 : decode cX13_wordEnd 17 = .ok (.iload_n 1, 1) := by decide +kernel
theorem dX13_wordEnd_18 : decode cX13_wordEnd 18 = .ok (.iaload, 1) := by decide +kernel
theorem dX13_wordEnd_19 : decode cX13_wordEnd 19 = .ok (.invokestatic 276, 3) := by decide +kernel
theorem dX13_wordEnd_22 : decode cX13_wordEnd 22 = .ok (.ifCond .eq 9, 3) := by decide +kernel
theorem dX13_wordEnd_25 : decode cX13_wordEnd 25 = .ok (.iinc 1 1, 3) := by decide +kernel
theorem dX13_wordEnd_28 : decode cX13_wordEnd 28 = .ok (.goto (-23), 3) := by decide +kernel
theorem dX13_wordEnd_31 : decode cX13_wordEnd 31 = .ok (.iload_n 1, 1) := by decide +kernel
theorem dX13_wordEnd_32 : decode cX13_wordEnd 32 = .ok (.ireturn, 1) := by decide +kernel
theorem dX13_has_0 : decode cX13_has 0 = .ok (.aload_n 0, 1) := by decide +kernel
theorem dX13_has_1 : decode cX13_has 1 = .ok (.invokevirtual 280, 3) := by decide +kernel
theorem dX13_has_4 : decode cX13_has 4 = .ok (.istore_n 2, 1) := by decide +kernel
theorem dX13_has_5 : decode cX13_has 5 = .ok (.aload_n 0, 1) := by decide +kernel
theorem dX13_has_6 : decode cX13_has 6 = .ok (.getfield 54, 3) := by decide +kernel
theorem dX13_has_9 : decode cX13_has 9 = .ok (.iconst (-1), 1) := by decide +kernel
theorem dX13_has_10 : decode cX13_has 10 = .ok (.if_icmp .ne 16, 3) := by decide +kernel
theorem dX13_has_13 : decode cX13_has 13 = .ok (.iload_n 2, 1) := by decide +kernel
theorem dX13_has_14 : decode cX13_has 14 = .ok (.aload_n 0, 1) := by decide +kernel
theorem dX13_has_15 : decode cX13_has 15 = .ok (.getfield 270, 3) := by decide +kernel
theorem dX13_has_18 : decode cX13_has 18 = .ok (.isub, 1) := by decide +kernel
theorem dX13_has_19 : decode cX13_has 19 = .ok (.aload_n 1, 1) := by decide +kernel
theorem dX13_has_20 : decode cX13_has 20 = .ok (.invokevirtual 283, 3) := by decide +kernel
theorem dX13_has_23 : decode cX13_has 23 = .ok (.if_icmp .eq 5, 3) := by decide +kernel
theorem dX13_has_26 : decode cX13_has 26 = .ok (.iconst 0, 1) := by decide +kernel
theorem dX13_has_27 : decode cX13_has 27 = .ok (.ireturn, 1) := by decide +kernel
theorem dX13_has_28 : decode cX13_has 28 = .ok (.iconst 0, 1) := by decide +kernel
theorem dX13_has_29 : decode cX13_has 29 = .ok (.istore_n 3, 1) := by decide +kernel
theorem dX13_has_30 : decode cX13_has 30 = .ok (.iload_n 3, 1) := by decide +kernel
theorem dX13_has_31 : decode cX13_has 31 = .ok (.aload_n 1, 1) := by decide +kernel
theorem dX13_has_32 : decode cX13_has 32 = .ok (.invokevirtual 283, 3) := by decide +kernel
theorem dX13_has_35 : decode cX13_has 35 = .ok (.if_icmp .ge 30, 3) := by decide +kernel
theorem dX13_has_38 : decode cX13_has 38 = .ok (.aload_n 0, 1) := by decide +kernel
theorem dX13_has_39 : decode cX13_has 39 = .ok (.getfield 51, 3) := by decide +kernel
theorem dX13_has_42 : decode cX13_has 42 = .ok (.aload_n 0, 1) := by decide +kernel
theorem dX13_has_43 : decode cX13_has 43 = .ok (.getfield 270, 3) := by decide +kernel
theorem dX13_has_46 : decode cX13_has 46 = .ok (.iload_n 3, 1) := by decide +kernel
theorem dX13_has_47 : decode cX13_has 47 = .ok (.iadd, 1) := by decide +kernel
theorem dX13_has_48 : decode cX13_has 48 = .ok (.iaload, 1) := by decide +kernel
theorem dX13_has_49 : decode cX13_has 49 = .ok (.aload_n 1, 1) := by decide +kernel
theorem dX13_has_50 : decode cX13_has 50 = .ok (.iload_n 3, 1) := by decide +kernel
theorem dX13_has_51 : decode cX13_has 51 = .ok (.invokevirtual 288, 3) := by decide +kernel
theorem dX13_has_54 : decode cX13_has 54 = .ok (.if_icmp .eq 5, 3) := by decide +kernel
theorem dX13_has_57 : decode cX13_has 57 = .ok (.iconst 0, 1) := by decide +kernel
theorem dX13_has_58 : decode cX13_has 58 = .ok (.ireturn, 1) := by decide +kernel
theorem dX13_has_59 : decode cX13_has 59 = .ok (.iinc 3 1, 3) := by decide +kernel
theorem dX13_has_62 : decode cX13_has 62 = .ok (.goto (-32), 3) := by decide +kernel
theorem dX13_has_65 : decode cX13_has 65 = .ok (.aload_n 0, 1) := by decide +kernel
theorem dX13_has_66 : decode cX13_has 66 = .ok (.iload_n 2, 1) := by decide +kernel
theorem dX13_has_67 : decode cX13_has 67 = .ok (.putfield 270, 3) := by decide +kernel
theorem dX13_has_70 : decode cX13_has 70 = .ok (.iconst 1, 1) := by decide +kernel
theorem dX13_has_71 : decode cX13_has 71 = .ok (.ireturn, 1) := by decide +kernel
theorem dX13_name_0 : decode cX13_name 0 = .ok (.aload_n 0, 1) := by decide +kernel
theorem dX13_name_1 : decode cX13_name 1 = .ok (.getfield 54, 3) := by decide +kernel
theorem dX13_name_4 : decode cX13_name 4 = .ok (.iconst (-1), 1) := by decide +kernel
theorem dX13_name_5 : decode cX13_name 5 = .ok (.if_icmp .eq 5, 3) := by decide +kernel
theorem dX13_name_8 : decode cX13_name 8 = .ok (.lconst 0, 1) := by decide +kernel
theorem dX13_name_9 : decode cX13_name 9 = .ok (.lreturn, 1) := by decide +kernel
theorem dX13_name_10 : decode cX13_name 10 = .ok (.aload_n 0, 1) := by decide +kernel
theorem dX13_name_11 : decode cX13_name 11 = .ok (.invokevirtual 280, 3) := by decide +kernel
theorem dX13_name_14 : decode cX13_name 14 = .ok (.istore_n 1, 1) := by decide +kernel
theorem dX13_name_15 : decode cX13_name 15 = .ok (.iload_n 1, 1) := by decide +kernel
theorem dX13_name_16 : decode cX13_name 16 = .ok (.aload_n 0, 1) := by decide +kernel
theorem dX13_name_17 : decode cX13_name 17 = .ok (.getfield 270, 3) := by decide +kernel
theorem dX13_name_20 : decode cX13_name 20 = .ok (.if_icmp .eq 14, 3) := by decide +kernel
theorem dX13_name_23 : decode cX13_name 23 = .ok (.iload_n 1, 1) := by decide +kernel
theorem dX13_name_24 : decode cX13_name 24 = .ok (.aload_n 0, 1) := by decide +kernel
theorem dX13_name_25 : decode cX13_name 25 = .ok (.getfield 270, 3) := by decide +kernel
theorem dX13_name_28 : decode cX13_name 28 = .ok (.isub, 1) := by decide +kernel
theorem dX13_name_29 : decode cX13_name 29 = .ok (.bipush 8, 2) := by decide +kernel
theorem dX13_name_31 : decode cX13_name 31 = .ok (.if_icmp .le 13, 3) := by decide +kernel
theorem dX13_name_34 : decode cX13_name 34 = .ok (.aload_n 0, 1) := by decide +kernel
theorem dX13_name_35 : decode cX13_name 35 = .ok (.aload_n 0, 1) := by decide +kernel
theorem dX13_name_36 : decode cX13_name 36 = .ok (.getfield 270, 3) := by decide +kernel
theorem dX13_name_39 : decode cX13_name 39 = .ok (.invokevirtual 292, 3) := by decide +kernel
theorem dX13_name_42 : decode cX13_name 42 = .ok (.lconst 0, 1) := by decide +kernel
theorem dX13_name_43 : decode cX13_name 43 = .ok (.lreturn, 1) := by decide +kernel
theorem dX13_name_44 : decode cX13_name 44 = .ok (.lconst 0, 1) := by decide +kernel
theorem dX13_name_45 : decode cX13_name 45 = .ok (.lstore_n 2, 1) := by decide +kernel
theorem dX13_name_46 : decode cX13_name 46 = .ok (.iconst 0, 1) := by decide +kernel
theorem dX13_name_47 : decode cX13_name 47 = .ok (.istore 4, 2) := by decide +kernel
theorem dX13_name_49 : decode cX13_name 49 = .ok (.iload 4, 2) := by decide +kernel
theorem dX13_name_51 : decode cX13_name 51 = .ok (.bipush 8, 2) := by decide +kernel
theorem dX13_name_53 : decode cX13_name 53 = .ok (.if_icmp .ge 43, 3) := by decide +kernel
theorem dX13_name_56 : decode cX13_name 56 = .ok (.lload_n 2, 1) := by decide +kernel
theorem dX13_name_57 : decode cX13_name 57 = .ok (.bipush 8, 2) := by decide +kernel
theorem dX13_name_59 : decode cX13_name 59 = .ok (.lshl, 1) := by decide +kernel
theorem dX13_name_60 : decode cX13_name 60 = .ok (.aload_n 0, 1) := by decide +kernel
theorem dX13_name_61 : decode cX13_name 61 = .ok (.getfield 270, 3) := by decide +kernel
theorem dX13_name_64 : decode cX13_name 64 = .ok (.iload 4, 2) := by decide +kernel
theorem dX13_name_66 : decode cX13_name 66 = .ok (.iadd, 1) := by decide +kernel
theorem dX13_name_67 : decode cX13_name 67 = .ok (.iload_n 1, 1) := by decide +kernel
theorem dX13_name_68 : decode cX13_name 68 = .ok (.if_icmp .ge 18, 3) := by decide +kernel
theorem dX13_name_71 : decode cX13_name 71 = .ok (.aload_n 0, 1) := by decide +kernel
theorem dX13_name_72 : decode cX13_name 72 = .ok (.getfield 51, 3) := by decide +kernel
theorem dX13_name_75 : decode cX13_name 75 = .ok (.aload_n 0, 1) := by decide +kernel
theorem dX13_name_76 : decode cX13_name 76 = .ok (.getfield 270, 3) := by decide +kernel
theorem dX13_name_79 : decode cX13_name 79 = .ok (.iload 4, 2) := by decide +kernel
theorem dX13_name_81 : decode cX13_name 81 = .ok (.iadd, 1) := by decide +kernel
theorem dX13_name_82 : decode cX13_name 82 = .ok (.iaload, 1) := by decide +kernel
theorem dX13_name_83 : decode cX13_name 83 = .ok (.goto 4, 3) := by decide +kernel
theorem dX13_name_86 : decode cX13_name 86 = .ok (.iconst 0, 1) := by decide +kernel
theorem dX13_name_87 : decode cX13_name 87 = .ok (.i2l, 1) := by decide +kernel
theorem dX13_name_88 : decode cX13_name 88 = .ok (.lor, 1) := by decide +kernel
theorem dX13_name_89 : decode cX13_name 89 = .ok (.lstore_n 2, 1) := by decide +kernel
theorem dX13_name_90 : decode cX13_name 90 = .ok (.iinc 4 1, 3) := by decide +kernel
theorem dX13_name_93 : decode cX13_name 93 = .ok (.goto (-44), 3) := by decide +kernel
theorem dX13_name_96 : decode cX13_name 96 = .ok (.aload_n 0, 1) := by decide +kernel
theorem dX13_name_97 : decode cX13_name 97 = .ok (.iload_n 1, 1) := by decide +kernel
theorem dX13_name_98 : decode cX13_name 98 = .ok (.putfield 270, 3) := by decide +kernel
theorem dX13_name_101 : decode cX13_name 101 = .ok (.lload_n 2, 1) := by decide +kernel
theorem dX13_name_102 : decode cX13_name 102 = .ok (.lreturn, 1) := by decide +kernel
theorem dX13_number_0 : decode cX13_number 0 = .ok (.aload_n 0, 1) := by decide +kernel
theorem dX13_number_1 : decode cX13_number 1 = .ok (.getfield 54, 3) := by decide +kernel
theorem dX13_number_4 : decode cX13_number 4 = .ok (.iconst (-1), 1) := by decide +kernel
theorem dX13_number_5 : decode cX13_number 5 = .ok (.if_icmp .eq 5, 3) := by decide +kernel
theorem dX13_number_8 : decode cX13_number 8 = .ok (.iconst 0, 1) := by decide +kernel
theorem dX13_number_9 : decode cX13_number 9 = .ok (.ireturn, 1) := by decide +kernel
theorem dX13_number_10 : decode cX13_number 10 = .ok (.aload_n 0, 1) := by decide +kernel
theorem dX13_number_11 : decode cX13_number 11 = .ok (.invokevirtual 273, 3) := by decide +kernel
theorem dX13_number_14 : decode cX13_number 14 = .ok (.istore_n 3, 1) := by decide +kernel
theorem dX13_number_15 : decode cX13_number 15 = .ok (.iconst 0, 1) := by decide +kernel
theorem dX13_number_16 : decode cX13_number 16 = .ok (.istore 4, 2) := by decide +kernel
theorem dX13_number_18 : decode cX13_number 18 = .ok (.aload_n 0, 1) := by decide +kernel
theorem dX13_number_19 : decode cX13_number 19 = .ok (.getfield 270, 3) := by decide +kernel
theorem dX13_number_22 : decode cX13_number 22 = .ok (.aload_n 0, 1) := by decide +kernel
theorem dX13_number_23 : decode cX13_number 23 = .ok (.getfield 267, 3) := by decide +kernel
theorem dX13_number_26 : decode cX13_number 26 = .ok (.if_icmp .ge 65, 3) := by decide +kernel
theorem dX13_number_29 : decode cX13_number 29 = .ok (.aload_n 0, 1) := by decide +kernel
theorem dX13_number_30 : decode cX13_number 30 = .ok (.getfield 51, 3) := by decide +kernel
theorem dX13_number_33 : decode cX13_number 33 = .ok (.aload_n 0, 1) := by decide +kernel
theorem dX13_number_34 : decode cX13_number 34 = .ok (.getfield 270, 3) := by decide +kernel
theorem dX13_number_37 : decode cX13_number 37 = .ok (.iaload, 1) := by decide +kernel
theorem dX13_number_38 : decode cX13_number 38 = .ok (.bipush 48, 2) := by decide +kernel
theorem dX13_number_40 : decode cX13_number 40 = .ok (.bipush 57, 2) := by decide +kernel
theorem dX13_number_42 : decode cX13_number 42 = .ok (.invokestatic 263, 3) := by decide +kernel
theorem dX13_number_45 : decode cX13_number 45 = .ok (.ifCond .eq 46, 3) := by decide +kernel
theorem dX13_number_48 : decode cX13_number 48 = .ok (.aload_n 0, 1) := by decide +kernel
theorem dX13_number_49 : decode cX13_number 49 = .ok (.getfield 270, 3) := by decide +kernel
theorem dX13_number_52 : decode cX13_number 52 = .ok (.iload_n 3, 1) := by decide +kernel
theorem dX13_number_53 : decode cX13_number 53 = .ok (.isub, 1) := by decide +kernel
theorem dX13_number_54 : decode cX13_number 54 = .ok (.iconst 5, 1) := by decide +kernel
theorem dX13_number_55 : decode cX13_number 55 = .ok (.if_icmp .gt 36, 3) := by decide +kernel
theorem dX13_number_58 : decode cX13_number 58 = .ok (.bipush 10, 2) := by decide +kernel
theorem dX13_number_60 : decode cX13_number 60 = .ok (.iload 4, 2) := by decide +kernel
theorem dX13_number_62 : decode cX13_number 62 = .ok (.imul, 1) := by decide +kernel
theorem dX13_number_63 : decode cX13_number 63 = .ok (.aload_n 0, 1) := by decide +kernel
theorem dX13_number_64 : decode cX13_number 64 = .ok (.getfield 51, 3) := by decide +kernel
theorem dX13_number_67 : decode cX13_number 67 = .ok (.aload_n 0, 1) := by decide +kernel
theorem dX13_number_68 : decode cX13_number 68 = .ok (.getfield 270, 3) := by decide +kernel
theorem dX13_number_71 : decode cX13_number 71 = .ok (.iaload, 1) := by decide +kernel
theorem dX13_number_72 : decode cX13_number 72 = .ok (.iadd, 1) := by decide +kernel
theorem dX13_number_73 : decode cX13_number 73 = .ok (.bipush 48, 2) := by decide +kernel
theorem dX13_number_75 : decode cX13_number 75 = .ok (.isub, 1) := by decide +kernel
theorem dX13_number_76 : decode cX13_number 76 = .ok (.istore 4, 2) := by decide +kernel
theorem dX13_number_78 : decode cX13_number 78 = .ok (.aload_n 0, 1) := by decide +kernel
theorem dX13_number_79 : decode cX13_number 79 = .ok (.dup, 1) := by decide +kernel
theorem dX13_number_80 : decode cX13_number 80 = .ok (.getfield 270, 3) := by decide +kernel
theorem dX13_number_83 : decode cX13_number 83 = .ok (.iconst 1, 1) := by decide +kernel
theorem dX13_number_84 : decode cX13_number 84 = .ok (.iadd, 1) := by decide +kernel
theorem dX13_number_85 : decode cX13_number 85 = .ok (.putfield 270, 3) := by decide +kernel
theorem dX13_number_88 : decode cX13_number 88 = .ok (.goto (-70), 3) := by decide +kernel
theorem dX13_number_91 : decode cX13_number 91 = .ok (.aload_n 0, 1) := by decide +kernel
theorem dX13_number_92 : decode cX13_number 92 = .ok (.getfield 270, 3) := by decide +kernel
theorem dX13_number_95 : decode cX13_number 95 = .ok (.iload_n 3, 1) := by decide +kernel
theorem dX13_number_96 : decode cX13_number 96 = .ok (.if_icmp .eq 25, 3) := by decide +kernel
theorem dX13_number_99 : decode cX13_number 99 = .ok (.aload_n 0, 1) := by decide +kernel
theorem dX13_number_100 : decode cX13_number 100 = .ok (.getfield 270, 3) := by decide +kernel
theorem dX13_number_103 : decode cX13_number 103 = .ok (.iload_n 3, 1) := by decide +kernel
theorem dX13_number_104 : decode cX13_number 104 = .ok (.isub, 1) := by decide +kernel
theorem dX13_number_105 : decode cX13_number 105 = .ok (.iconst 5, 1) := by decide +kernel
theorem dX13_number_106 : decode cX13_number 106 = .ok (.if_icmp .gt 15, 3) := by decide +kernel
theorem dX13_number_109 : decode cX13_number 109 = .ok (.iload 4, 2) := by decide +kernel
theorem dX13_number_111 : decode cX13_number 111 = .ok (.iload_n 1, 1) := by decide +kernel
theorem dX13_number_112 : decode cX13_number 112 = .ok (.if_icmp .lt 9, 3) := by decide +kernel
theorem dX13_number_115 : decode cX13_number 115 = .ok (.iload 4, 2) := by decide +kernel
theorem dX13_number_117 : decode cX13_number 117 = .ok (.iload_n 2, 1) := by decide +kernel
theorem dX13_number_118 : decode cX13_number 118 = .ok (.if_icmp .le 8, 3) := by decide +kernel
theorem dX13_number_121 : decode cX13_number 121 = .ok (.aload_n 0, 1) := by decide +kernel
theorem dX13_number_122 : decode cX13_number 122 = .ok (.iload_n 3, 1) := by decide +kernel
theorem dX13_number_123 : decode cX13_number 123 = .ok (.invokevirtual 292, 3) := by decide +kernel
theorem dX13_number_126 : decode cX13_number 126 = .ok (.iload 4, 2) := by decide +kernel
theorem dX13_number_128 : decode cX13_number 128 = .ok (.ireturn, 1) := by decide +kernel
theorem dX13_comesMore_0 : decode cX13_comesMore 0 = .ok (.aload_n 0, 1) := by decide +kernel
theorem dX13_comesMore_1 : decode cX13_comesMore 1 = .ok (.getfield 54, 3) := by decide +kernel
theorem dX13_comesMore_4 : decode cX13_comesMore 4 = .ok (.iconst (-1), 1) := by decide +kernel
theorem dX13_comesMore_5 : decode cX13_comesMore 5 = .ok (.if_icmp .eq 5, 3) := by decide +kernel
theorem dX13_comesMore_8 : decode cX13_comesMore 8 = .ok (.iconst 0, 1) := by decide +kernel
theorem dX13_comesMore_9 : decode cX13_comesMore 9 = .ok (.ireturn, 1) := by decide +kernel
theorem dX13_comesMore_10 : decode cX13_comesMore 10 = .ok (.iload_n 1, 1) := by decide +kernel
theorem dX13_comesMore_11 : decode cX13_comesMore 11 = .ok (.ifCond .ne 20, 3) := by decide +kernel
theorem dX13_comesMore_14 : decode cX13_comesMore 14 = .ok (.aload_n 0, 1) := by decide +kernel
theorem dX13_comesMore_15 : decode cX13_comesMore 15 = .ok (.invokevirtual 273, 3) := by decide +kernel
theorem dX13_comesMore_18 : decode cX13_comesMore 18 = .ok (.aload_n 0, 1) := by decide +kernel
theorem dX13_comesMore_19 : decode cX13_comesMore 19 = .ok (.getfield 267, 3) := by decide +kernel
theorem dX13_comesMore_22 : decode cX13_comesMore 22 = .ok (.if_icmp .ge 7, 3) := by decide +kernel
theorem dX13_comesMore_25 : decode cX13_comesMore 25 = .ok (.iconst 1, 1) := by decide +kernel
theorem dX13_comesMore_26 : decode cX13_comesMore 26 = .ok (.goto 4, 3) := by decide +kernel
theorem dX13_comesMore_29 : decode cX13_comesMore 29 = .ok (.iconst 0, 1) := by decide +kernel
theorem dX13_comesMore_30 : decode cX13_comesMore 30 = .ok (.ireturn, 1) := by decide +kernel
theorem dX13_comesMore_31 : decode cX13_comesMore 31 = .ok (.aload_n 0, 1) := by decide +kernel
theorem dX13_comesMore_32 : decode cX13_comesMore 32 = .ok (.invokevirtual 273, 3) := by decide +kernel
theorem dX13_comesMore_35 : decode cX13_comesMore 35 = .ok (.aload_n 0, 1) := by decide +kernel
theorem dX13_comesMore_36 : decode cX13_comesMore 36 = .ok (.getfield 267, 3) := by decide +kernel
theorem dX13_comesMore_39 : decode cX13_comesMore 39 = .ok (.if_icmp .ne 5, 3) := by decide +kernel
theorem dX13_comesMore_42 : decode cX13_comesMore 42 = .ok (.iconst 0, 1) := by decide +kernel
theorem dX13_comesMore_43 : decode cX13_comesMore 43 = .ok (.ireturn, 1) := by decide +kernel
theorem dX13_comesMore_44 : decode cX13_comesMore 44 = .ok (.aload_n 0, 1) := by decide +kernel
theorem dX13_comesMore_45 : decode cX13_comesMore 45 = .ok (.getfield 51, 3) := by decide +kernel
theorem dX13_comesMore_48 : decode cX13_comesMore 48 = .ok (.aload_n 0, 1) := by decide +kernel
theorem dX13_comesMore_49 : decode cX13_comesMore 49 = .ok (.getfield 270, 3) := by decide +kernel
theorem dX13_comesMore_52 : decode cX13_comesMore 52 = .ok (.iaload, 1) := by decide +kernel
theorem dX13_comesMore_53 : decode cX13_comesMore 53 = .ok (.bipush 59, 2) := by decide +kernel
theorem dX13_comesMore_55 : decode cX13_comesMore 55 = .ok (.if_icmp .eq 14, 3) := by decide +kernel
theorem dX13_comesMore_58 : decode cX13_comesMore 58 = .ok (.aload_n 0, 1) := by decide +kernel
theorem dX13_comesMore_59 : decode cX13_comesMore 59 = .ok (.aload_n 0, 1) := by decide +kernel
theorem dX13_comesMore_60 : decode cX13_comesMore 60 = .ok (.getfield 270, 3) := by decide +kernel
theorem dX13_comesMore_63 : decode cX13_comesMore 63 = .ok (.invokevirtual 292, 3) := by decide +kernel
theorem dX13_comesMore_66 : decode cX13_comesMore 66 = .ok (.goto 13, 3) := by decide +kernel
theorem dX13_comesMore_69 : decode cX13_comesMore 69 = .ok (.aload_n 0, 1) := by decide +kernel
theorem dX13_comesMore_70 : decode cX13_comesMore 70 = .ok (.dup, 1) := by decide +kernel
theorem dX13_comesMore_71 : decode cX13_comesMore 71 = .ok (.getfield 270, 3) := by decide +kernel
theorem dX13_comesMore_74 : decode cX13_comesMore 74 = .ok (.iconst 1, 1) := by decide +kernel
theorem dX13_comesMore_75 : decode cX13_comesMore 75 = .ok (.iadd, 1) := by decide +kernel
theorem dX13_comesMore_76 : decode cX13_comesMore 76 = .ok (.putfield 270, 3) := by decide +kernel
theorem dX13_comesMore_79 : decode cX13_comesMore 79 = .ok (.aload_n 0, 1) := by decide +kernel
theorem dX13_comesMore_80 : decode cX13_comesMore 80 = .ok (.getfield 54, 3) := by decide +kernel
theorem dX13_comesMore_83 : decode cX13_comesMore 83 = .ok (.iconst (-1), 1) := by decide +kernel
theorem dX13_comesMore_84 : decode cX13_comesMore 84 = .ok (.if_icmp .ne 17, 3) := by decide +kernel
theorem dX13_comesMore_87 : decode cX13_comesMore 87 = .ok (.iload_n 1, 1) := by decide +kernel
theorem dX13_comesMore_88 : decode cX13_comesMore 88 = .ok (.bipush 14, 2) := by decide +kernel
theorem dX13_comesMore_90 : decode cX13_comesMore 90 = .ok (.if_icmp .ne 11, 3) := by decide +kernel
theorem dX13_comesMore_93 : decode cX13_comesMore 93 = .ok (.aload_n 0, 1) := by decide +kernel
theorem dX13_comesMore_94 : decode cX13_comesMore 94 = .ok (.aload_n 0, 1) := by decide +kernel
theorem dX13_comesMore_95 : decode cX13_comesMore 95 = .ok (.invokevirtual 273, 3) := by decide +kernel
theorem dX13_comesMore_98 : decode cX13_comesMore 98 = .ok (.invokevirtual 292, 3) := by decide +kernel
theorem dX13_comesMore_101 : decode cX13_comesMore 101 = .ok (.aload_n 0, 1) := by decide +kernel
theorem dX13_comesMore_102 : decode cX13_comesMore 102 = .ok (.getfield 54, 3) := by decide +kernel
theorem dX13_comesMore_105 : decode cX13_comesMore 105 = .ok (.iconst (-1), 1) := by decide +kernel
theorem dX13_comesMore_106 : decode cX13_comesMore 106 = .ok (.if_icmp .ne 7, 3) := by decide +kernel
theorem dX13_comesMore_109 : decode cX13_comesMore 109 = .ok (.iconst 1, 1) := by decide +kernel
theorem dX13_comesMore_110 : decode cX13_comesMore 110 = .ok (.goto 4, 3) := by decide +kernel
theorem dX13_comesMore_113 : decode cX13_comesMore 113 = .ok (.iconst 0, 1) := by decide +kernel
theorem dX13_comesMore_114 : decode cX13_comesMore 114 = .ok (.ireturn, 1) := by decide +kernel
theorem dX13_act_0 : decode cX13_act 0 = .ok (.aload_n 0, 1) := by decide +kernel
theorem dX13_act_1 : decode cX13_act 1 = .ok (.invokevirtual 273, 3) := by decide +kernel
theorem dX13_act_4 : decode cX13_act 4 = .ok (.istore_n 1, 1) := by decide +kernel
theorem dX13_act_5 : decode cX13_act 5 = .ok (.iconst 0, 1) := by decide +kernel
theorem dX13_act_6 : decode cX13_act 6 = .ok (.istore_n 2, 1) := by decide +kernel
theorem dX13_act_7 : decode cX13_act 7 = .ok (.aload_n 0, 1) := by decide +kernel
theorem dX13_act_8 : decode cX13_act 8 = .ok (.ldc_w 295, 3) := by decide +kernel
theorem dX13_act_11 : decode cX13_act 11 = .ok (.invokevirtual 297, 3) := by decide +kernel
theorem dX13_act_14 : decode cX13_act 14 = .ok (.ifCond .eq 41, 3) := by decide +kernel
theorem dX13_act_17 : decode cX13_act 17 = .ok (.aload_n 0, 1) := by decide +kernel
theorem dX13_act_18 : decode cX13_act 18 = .ok (.invokevirtual 301, 3) := by decide +kernel
theorem dX13_act_21 : decode cX13_act 21 = .ok (.lstore_n 3, 1) := by decide +kernel
theorem dX13_act_22 : decode cX13_act 22 = .ok (.aload_n 0, 1) := by decide +kernel
theorem dX13_act_23 : decode cX13_act 23 = .ok (.iconst 0, 1) := by decide +kernel
theorem dX13_act_24 : decode cX13_act 24 = .ok (.sipush 999, 3) := by decide +kernel
theorem dX13_act_27 : decode cX13_act 27 = .ok (.invokevirtual 305, 3) := by decide +kernel
theorem dX13_act_30 : decode cX13_act 30 = .ok (.istore 5, 2) := by decide +kernel
theorem dX13_act_32 : decode cX13_act 32 = .ok (.aload_n 0, 1) := by decide +kernel
theorem dX13_act_33 : decode cX13_act 33 = .ok (.getfield 54, 3) := by decide +kernel
theorem dX13_act_36 : decode cX13_act 36 = .ok (.iconst (-1), 1) := by decide +kernel
theorem dX13_act_37 : decode cX13_act 37 = .ok (.if_icmp .ne 13, 3) := by decide +kernel
theorem dX13_act_40 : decode cX13_act 40 = .ok (.aload_n 0, 1) := by decide +kernel
theorem dX13_act_41 : decode cX13_act 41 = .ok (.lload_n 3, 1) := by decide +kernel
theorem dX13_act_42 : decode cX13_act 42 = .ok (.iload 5, 2) := by decide +kernel
theorem dX13_act_44 : decode cX13_act 44 = .ok (.invokevirtual 308, 3) := by decide +kernel
theorem dX13_act_47 : decode cX13_act 47 = .ok (.goto 4, 3) := by decide +kernel
theorem dX13_act_50 : decode cX13_act 50 = .ok (.iconst 0, 1) := by decide +kernel
theorem dX13_act_51 : decode cX13_act 51 = .ok (.istore_n 2, 1) := by decide +kernel
theorem dX13_act_52 : decode cX13_act 52 = .ok (.goto 289, 3) := by decide +kernel
theorem dX13_act_55 : decode cX13_act 55 = .ok (.aload_n 0, 1) := by decide +kernel
theorem dX13_act_56 : decode cX13_act 56 = .ok (.ldc_w 311, 3) := by decide +kernel
theorem dX13_act_59 : decode cX13_act 59 = .ok (.invokevirtual 297, 3) := by decide +kernel
theorem dX13_act_62 : decode cX13_act 62 = .ok (.ifCond .eq 29, 3) := by decide +kernel
theorem dX13_act_65 : decode cX13_act 65 = .ok (.aload_n 0, 1) := by decide +kernel
theorem dX13_act_66 : decode cX13_act 66 = .ok (.invokevirtual 301, 3) := by decide +kernel
theorem dX13_act_69 : decode cX13_act 69 = .ok (.lstore_n 3, 1) := by decide +kernel
theorem dX13_act_70 : decode cX13_act 70 = .ok (.aload_n 0, 1) := by decide +kernel
theorem dX13_act_71 : decode cX13_act 71 = .ok (.getfield 54, 3) := by decide +kernel
theorem dX13_act_74 : decode cX13_act 74 = .ok (.iconst (-1), 1) := by decide +kernel
theorem dX13_act_75 : decode cX13_act 75 = .ok (.if_icmp .ne 11, 3) := by decide +kernel
theorem dX13_act_78 : decode cX13_act 78 = .ok (.aload_n 0, 1) := by decide +kernel
theorem dX13_act_79 : decode cX13_act 79 = .ok (.lload_n 3, 1) := by decide +kernel
theorem dX13_act_80 : decode cX13_act 80 = .ok (.invokevirtual 313, 3) := by decide +kernel
theorem dX13_act_83 : decode cX13_act 83 = .ok (.goto 4, 3) := by decide +kernel
theorem dX13_act_86 : decode cX13_act 86 = .ok (.iconst 0, 1) := by decide +kernel
theorem dX13_act_87 : decode cX13_act 87 = .ok (.istore_n 2, 1) := by decide +kernel
theorem dX13_act_88 : decode cX13_act 88 = .ok (.goto 253, 3) := by decide +kernel
theorem dX13_act_91 : decode cX13_act 91 = .ok (.aload_n 0, 1) := by decide +kernel
theorem dX13_act_92 : decode cX13_act 92 = .ok (.ldc_w 316, 3) := by decide +kernel
theorem dX13_act_95 : decode cX13_act 95 = .ok (.invokevirtual 297, 3) := by decide +kernel
theorem dX13_act_98 : decode cX13_act 98 = .ok (.ifCond .eq 37, 3) := by decide +kernel
theorem dX13_act_101 : decode cX13_act 101 = .ok (.aload_n 0, 1) := by decide +kernel
theorem dX13_act_102 : decode cX13_act 102 = .ok (.invokevirtual 301, 3) := by decide +kernel
theorem dX13_act_105 : decode cX13_act 105 = .ok (.lstore_n 3, 1) := by decide +kernel
theorem dX13_act_106 : decode cX13_act 106 = .ok (.aload_n 0, 1) := by decide +kernel
theorem dX13_act_107 : decode cX13_act 107 = .ok (.invokevirtual 301, 3) := by decide +kernel
theorem dX13_act_110 : decode cX13_act 110 = .ok (.lstore 5, 2) := by decide +kernel
theorem dX13_act_112 : decode cX13_act 112 = .ok (.aload_n 0, 1) := by decide +kernel
theorem dX13_act_113 : decode cX13_act 113 = .ok (.getfield 54, 3) := by decide +kernel
theorem dX13_act_116 : decode cX13_act 116 = .ok (.iconst (-1), 1) := by decide +kernel
theorem dX13_act_117 : decode cX13_act 117 = .ok (.if_icmp .ne 13, 3) := by decide +kernel
theorem dX13_act_120 : decode cX13_act 120 = .ok (.aload_n 0, 1) := by decide +kernel
theorem dX13_act_121 : decode cX13_act 121 = .ok (.lload_n 3, 1) := by decide +kernel
theorem dX13_act_122 : decode cX13_act 122 = .ok (.lload 5, 2) := by decide +kernel
theorem dX13_act_124 : decode cX13_act 124 = .ok (.invokevirtual 318, 3) := by decide +kernel
theorem dX13_act_127 : decode cX13_act 127 = .ok (.goto 4, 3) := by decide +kernel
theorem dX13_act_130 : decode cX13_act 130 = .ok (.iconst 0, 1) := by decide +kernel
theorem dX13_act_131 : decode cX13_act 131 = .ok (.istore_n 2, 1) := by decide +kernel
theorem dX13_act_132 : decode cX13_act 132 = .ok (.goto 209, 3) := by decide +kernel
theorem dX13_act_135 : decode cX13_act 135 = .ok (.aload_n 0, 1) := by decide +kernel
theorem dX13_act_136 : decode cX13_act 136 = .ok (.ldc_w 322, 3) := by decide +kernel
theorem dX13_act_139 : decode cX13_act 139 = .ok (.invokevirtual 297, 3) := by decide +kernel
theorem dX13_act_142 : decode cX13_act 142 = .ok (.ifCond .eq 33, 3) := by decide +kernel
theorem dX13_act_145 : decode cX13_act 145 = .ok (.aload_n 0, 1) := by decide +kernel
theorem dX13_act_146 : decode cX13_act 146 = .ok (.iconst 1, 1) := by decide +kernel
theorem dX13_act_147 : decode cX13_act 147 = .ok (.bipush 12, 2) := by decide +kernel
theorem dX13_act_149 : decode cX13_act 149 = .ok (.invokevirtual 305, 3) := by decide +kernel
theorem dX13_act_152 : decode cX13_act 152 = .ok (.istore_n 3, 1) := by decide +kernel
theorem dX13_act_153 : decode cX13_act 153 = .ok (.aload_n 0, 1) := by decide +kernel
theorem dX13_act_154 : decode cX13_act 154 = .ok (.getfield 54, 3) := by decide +kernel
theorem dX13_act_157 : decode cX13_act 157 = .ok (.iconst (-1), 1) := by decide +kernel
theorem dX13_act_158 : decode cX13_act 158 = .ok (.if_icmp .ne 12, 3) := by decide +kernel
theorem dX13_act_161 : decode cX13_act 161 = .ok (.aload_n 0, 1) := by decide +kernel
theorem dX13_act_162 : decode cX13_act 162 = .ok (.iconst 0, 1) := by decide +kernel
theorem dX13_act_163 : decode cX13_act 163 = .ok (.iload_n 3, 1) := by decide +kernel
theorem dX13_act_164 : decode cX13_act 164 = .ok (.invokevirtual 324, 3) := by decide +kernel
theorem dX13_act_167 : decode cX13_act 167 = .ok (.goto 4, 3) := by decide +kernel
theorem dX13_act_170 : decode cX13_act 170 = .ok (.iconst 0, 1) := by decide +kernel
theorem dX13_act_171 : decode cX13_act 171 = .ok (.istore_n 2, 1) := by decide +kernel
theorem dX13_act_172 : decode cX13_act 172 = .ok (.goto 169, 3) := by decide +kernel
theorem dX13_act_175 : decode cX13_act 175 = .ok (.aload_n 0, 1) := by decide +kernel
theorem dX13_act_176 : decode cX13_act 176 = .ok (.ldc_w 327, 3) := by decide +kernel
theorem dX13_act_179 : decode cX13_act 179 = .ok (.invokevirtual 297, 3) := by decide +kernel
theorem dX13_act_182 : decode cX13_act 182 = .ok (.ifCond .eq 33, 3) := by decide +kernel
theorem dX13_act_185 : decode cX13_act 185 = .ok (.aload_n 0, 1) := by decide +kernel
theorem dX13_act_186 : decode cX13_act 186 = .ok (.iconst 0, 1) := by decide +kernel
theorem dX13_act_187 : decode cX13_act 187 = .ok (.ldc 109, 2) := by decide +kernel
theorem dX13_act_189 : decode cX13_act 189 = .ok (.invokevirtual 305, 3) := by decide +kernel
theorem dX13_act_192 : decode cX13_act 192 = .ok (.istore_n 3, 1) := by decide +kernel
theorem dX13_act_193 : decode cX13_act 193 = .ok (.aload_n 0, 1) := by decide +kernel
theorem dX13_act_194 : decode cX13_act 194 = .ok (.getfield 54, 3) := by decide +kernel
theorem dX13_act_197 : decode cX13_act 197 = .ok (.iconst (-1), 1) := by decide +kernel
theorem dX13_act_198 : decode cX13_act 198 = .ok (.if_icmp .ne 12, 3) := by decide +kernel
theorem dX13_act_201 : decode cX13_act 201 = .ok (.aload_n 0, 1) := by decide +kernel
theorem dX13_act_202 : decode cX13_act 202 = .ok (.iconst 1, 1) := by decide +kernel
theorem dX13_act_203 : decode cX13_act 203 = .ok (.iload_n 3, 1) := by decide +kernel
theorem dX13_act_204 : decode cX13_act 204 = .ok (.invokevirtual 324, 3) := by decide +kernel
theorem dX13_act_207 : decode cX13_act 207 = .ok (.goto 4, 3) := by decide +kernel
theorem dX13_act_210 : decode cX13_act 210 = .ok (.iconst 0, 1) := by decide +kernel
theorem dX13_act_211 : decode cX13_act 211 = .ok (.istore_n 2, 1) := by decide +kernel
theorem dX13_act_212 : decode cX13_act 212 = .ok (.goto 129, 3) := by decide +kernel
theorem dX13_act_215 : decode cX13_act 215 = .ok (.aload_n 0, 1) := by decide +kernel
theorem dX13_act_216 : decode cX13_act 216 = .ok (.ldc_w 329, 3) := by decide +kernel
theorem dX13_act_219 : decode cX13_act 219 = .ok (.invokevirtual 297, 3) := by decide +kernel
theorem dX13_act_222 : decode cX13_act 222 = .ok (.ifCond .eq 13, 3) := by decide +kernel
theorem dX13_act_225 : decode cX13_act 225 = .ok (.aload_n 0, 1) := by decide +kernel
theorem dX13_act_226 : decode cX13_act 226 = .ok (.iconst 2, 1) := by decide +kernel
theorem dX13_act_227 : decode cX13_act 227 = .ok (.iconst 1, 1) := by decide +kernel
theorem dX13_act_228 : decode cX13_act 228 = .ok (.invokevirtual 324, 3) := by decide +kernel
theorem dX13_act_231 : decode cX13_act 231 = .ok (.istore_n 2, 1) := by decide +kernel
theorem dX13_act_232 : decode cX13_act 232 = .ok (.goto 109, 3) := by decide +kernel
theorem dX13_act_235 : decode cX13_act 235 = .ok (.aload_n 0, 1) := by decide +kernel
theorem dX13_act_236 : decode cX13_act 236 = .ok (.ldc_w 331, 3) := by decide +kernel
theorem dX13_act_239 : decode cX13_act 239 = .ok (.invokevirtual 297, 3) := by decide +kernel
theorem dX13_act_242 : decode cX13_act 242 = .ok (.ifCond .eq 13, 3) := by decide +kernel
theorem dX13_act_245 : decode cX13_act 245 = .ok (.aload_n 0, 1) := by decide +kernel
theorem dX13_act_246 : decode cX13_act 246 = .ok (.iconst 2, 1) := by decide +kernel
theorem dX13_act_247 : decode cX13_act 247 = .ok (.iconst 0, 1) := by decide +kernel
theorem dX13_act_248 : decode cX13_act 248 = .ok (.invokevirtual 324, 3) := by decide +kernel
theorem dX13_act_251 : decode cX13_act 251 = .ok (.istore_n 2, 1) := by decide +kernel
theorem dX13_act_252 : decode cX13_act 252 = .ok (.goto 89, 3) := by decide +kernel
theorem dX13_act_255 : decode cX13_act 255 = .ok (.aload_n 0, 1) := by decide +kernel
theorem dX13_act_256 : decode cX13_act 256 = .ok (.ldc_w 333, 3) := by decide +kernel
theorem dX13_act_259 : decode cX13_act 259 = .ok (.invokevirtual 297, 3) := by decide +kernel
theorem dX13_act_262 : decode cX13_act 262 = .ok (.ifCond .eq 32, 3) := by decide +kernel
theorem dX13_act_265 : decode cX13_act 265 = .ok (.aload_n 0, 1) := by decide +kernel
theorem dX13_act_266 : decode cX13_act 266 = .ok (.iconst 0, 1) := by decide +kernel
theorem dX13_act_267 : decode cX13_act 267 = .ok (.bipush 39, 2) := by decide +kernel
theorem dX13_act_269 : decode cX13_act 269 = .ok (.invokevirtual 305, 3) := by decide +kernel
theorem dX13_act_272 : decode cX13_act 272 = .ok (.istore_n 3, 1) := by decide +kernel
theorem dX13_act_273 : decode cX13_act 273 = .ok (.aload_n 0, 1) := by decide +kernel
theorem dX13_act_274 : decode cX13_act 274 = .ok (.getfield 54, 3) := by decide +kernel
theorem dX13_act_277 : decode cX13_act 277 = .ok (.iconst (-1), 1) := by decide +kernel
theorem dX13_act_278 : decode cX13_act 278 = .ok (.if_icmp .ne 11, 3) := by decide +kernel
theorem dX13_act_281 : decode cX13_act 281 = .ok (.aload_n 0, 1) := by decide +kernel
theorem dX13_act_282 : decode cX13_act 282 = .ok (.iload_n 3, 1) := by decide +kernel
theorem dX13_act_283 : decode cX13_act 283 = .ok (.invokevirtual 335, 3) := by decide +kernel
theorem dX13_act_286 : decode cX13_act 286 = .ok (.goto 4, 3) := by decide +kernel
theorem dX13_act_289 : decode cX13_act 289 = .ok (.iconst 0, 1) := by decide +kernel
theorem dX13_act_290 : decode cX13_act 290 = .ok (.istore_n 2, 1) := by decide +kernel
theorem dX13_act_291 : decode cX13_act 291 = .ok (.goto 50, 3) := by decide +kernel
theorem dX13_act_294 : decode cX13_act 294 = .ok (.aload_n 0, 1) := by decide +kernel
theorem dX13_act_295 : decode cX13_act 295 = .ok (.ldc_w 338, 3) := by decide +kernel
theorem dX13_act_298 : decode cX13_act 298 = .ok (.invokevirtual 297, 3) := by decide +kernel
theorem dX13_act_301 : decode cX13_act 301 = .ok (.ifCond .eq 35, 3) := by decide +kernel
theorem dX13_act_304 : decode cX13_act 304 = .ok (.aload_n 0, 1) := by decide +kernel
theorem dX13_act_305 : decode cX13_act 305 = .ok (.aload_n 0, 1) := by decide +kernel
theorem dX13_act_306 : decode cX13_act 306 = .ok (.getfield 7, 3) := by decide +kernel
theorem dX13_act_309 : decode cX13_act 309 = .ok (.sipush 1081, 3) := by decide +kernel
theorem dX13_act_312 : decode cX13_act 312 = .ok (.iaload, 1) := by decide +kernel
theorem dX13_act_313 : decode cX13_act 313 = .ok (.aload_n 0, 1) := by decide +kernel
theorem dX13_act_314 : decode cX13_act 314 = .ok (.getfield 7, 3) := by decide +kernel
theorem dX13_act_317 : decode cX13_act 317 = .ok (.sipush 1082, 3) := by decide +kernel
theorem dX13_act_320 : decode cX13_act 320 = .ok (.iaload, 1) := by decide +kernel
theorem dX13_act_321 : decode cX13_act 321 = .ok (.aload_n 0, 1) := by decide +kernel
theorem dX13_act_322 : decode cX13_act 322 = .ok (.getfield 7, 3) := by decide +kernel
theorem dX13_act_325 : decode cX13_act 325 = .ok (.sipush 1083, 3) := by decide +kernel
theorem dX13_act_328 : decode cX13_act 328 = .ok (.iaload, 1) := by decide +kernel
theorem dX13_act_329 : decode cX13_act 329 = .ok (.invokevirtual 248, 3) := by decide +kernel
theorem dX13_act_332 : decode cX13_act 332 = .ok (.istore_n 2, 1) := by decide +kernel
theorem dX13_act_333 : decode cX13_act 333 = .ok (.goto 8, 3) := by decide +kernel
theorem dX13_act_336 : decode cX13_act 336 = .ok (.aload_n 0, 1) := by decide +kernel
theorem dX13_act_337 : decode cX13_act 337 = .ok (.iload_n 1, 1) := by decide +kernel
theorem dX13_act_338 : decode cX13_act 338 = .ok (.invokevirtual 292, 3) := by decide +kernel
theorem dX13_act_341 : decode cX13_act 341 = .ok (.iload_n 2, 1) := by decide +kernel
theorem dX13_act_342 : decode cX13_act 342 = .ok (.ifCond .le 8, 3) := by decide +kernel
theorem dX13_act_345 : decode cX13_act 345 = .ok (.aload_n 0, 1) := by decide +kernel
theorem dX13_act_346 : decode cX13_act 346 = .ok (.iload_n 1, 1) := by decide +kernel
theorem dX13_act_347 : decode cX13_act 347 = .ok (.invokevirtual 292, 3) := by decide +kernel
theorem dX13_act_350 : decode cX13_act 350 = .ok (.iload_n 2, 1) := by decide +kernel
theorem dX13_act_351 : decode cX13_act 351 = .ok (.ireturn, 1) := by decide +kernel
theorem dX13_acts_0 : decode cX13_acts 0 = .ok (.aload_n 0, 1) := by decide +kernel
theorem dX13_acts_1 : decode cX13_acts 1 = .ok (.invokevirtual 340, 3) := by decide +kernel
theorem dX13_acts_4 : decode cX13_acts 4 = .ok (.aload_n 0, 1) := by decide +kernel
theorem dX13_acts_5 : decode cX13_acts 5 = .ok (.invokevirtual 343, 3) := by decide +kernel
theorem dX13_acts_8 : decode cX13_acts 8 = .ok (.iconst 0, 1) := by decide +kernel
theorem dX13_acts_9 : decode cX13_acts 9 = .ok (.istore_n 1, 1) := by decide +kernel
theorem dX13_acts_10 : decode cX13_acts 10 = .ok (.iload_n 1, 1) := by decide +kernel
theorem dX13_acts_11 : decode cX13_acts 11 = .ok (.iconst 4, 1) := by decide +kernel
theorem dX13_acts_12 : decode cX13_acts 12 = .ok (.if_icmp .ge 21, 3) := by decide +kernel
theorem dX13_acts_15 : decode cX13_acts 15 = .ok (.aload_n 0, 1) := by decide +kernel
theorem dX13_acts_16 : decode cX13_acts 16 = .ok (.getfield 76, 3) := by decide +kernel
theorem dX13_acts_19 : decode cX13_acts 19 = .ok (.iload_n 1, 1) := by decide +kernel
theorem dX13_acts_20 : decode cX13_acts 20 = .ok (.aload_n 0, 1) := by decide +kernel
theorem dX13_acts_21 : decode cX13_acts 21 = .ok (.getfield 35, 3) := by decide +kernel
theorem dX13_acts_24 : decode cX13_acts 24 = .ok (.iload_n 1, 1) := by decide +kernel
theorem dX13_acts_25 : decode cX13_acts 25 = .ok (.baload, 1) := by decide +kernel
theorem dX13_acts_26 : decode cX13_acts 26 = .ok (.bastore, 1) := by decide +kernel
theorem dX13_acts_27 : decode cX13_acts 27 = .ok (.iinc 1 1, 3) := by decide +kernel
theorem dX13_acts_30 : decode cX13_acts 30 = .ok (.goto (-20), 3) := by decide +kernel
theorem dX13_acts_33 : decode cX13_acts 33 = .ok (.iconst 0, 1) := by decide +kernel
theorem dX13_acts_34 : decode cX13_acts 34 = .ok (.istore_n 1, 1) := by decide +kernel
theorem dX13_acts_35 : decode cX13_acts 35 = .ok (.iconst 0, 1) := by decide +kernel
theorem dX13_acts_36 : decode cX13_acts 36 = .ok (.istore_n 2, 1) := by decide +kernel
theorem dX13_acts_37 : decode cX13_acts 37 = .ok (.aload_n 0, 1) := by decide +kernel
theorem dX13_acts_38 : decode cX13_acts 38 = .ok (.iload_n 1, 1) := by decide +kernel
theorem dX13_acts_39 : decode cX13_acts 39 = .ok (.invokevirtual 346, 3) := by decide +kernel
theorem dX13_acts_42 : decode cX13_acts 42 = .ok (.ifCond .eq 14, 3) := by decide +kernel
theorem dX13_acts_45 : decode cX13_acts 45 = .ok (.aload_n 0, 1) := by decide +kernel
theorem dX13_acts_46 : decode cX13_acts 46 = .ok (.invokevirtual 349, 3) := by decide +kernel
theorem dX13_acts_49 : decode cX13_acts 49 = .ok (.istore_n 2, 1) := by decide +kernel
theorem dX13_acts_50 : decode cX13_acts 50 = .ok (.iinc 1 1, 3) := by decide +kernel
theorem dX13_acts_53 : decode cX13_acts 53 = .ok (.goto (-16), 3) := by decide +kernel
theorem dX13_acts_56 : decode cX13_acts 56 = .ok (.aload_n 0, 1) := by decide +kernel
theorem dX13_acts_57 : decode cX13_acts 57 = .ok (.aload_n 0, 1) := by decide +kernel
theorem dX13_acts_58 : decode cX13_acts 58 = .ok (.getfield 54, 3) := by decide +kernel
theorem dX13_acts_61 : decode cX13_acts 61 = .ok (.iconst (-1), 1) := by decide +kernel
theorem dX13_acts_62 : decode cX13_acts 62 = .ok (.if_icmp .ne 7, 3) := by decide +kernel
theorem dX13_acts_65 : decode cX13_acts 65 = .ok (.iconst 0, 1) := by decide +kernel
theorem dX13_acts_66 : decode cX13_acts 66 = .ok (.goto 4, 3) := by decide +kernel
theorem dX13_acts_69 : decode cX13_acts 69 = .ok (.iconst 1, 1) := by decide +kernel
theorem dX13_acts_70 : decode cX13_acts 70 = .ok (.putfield 79, 3) := by decide +kernel
theorem dX13_acts_73 : decode cX13_acts 73 = .ok (.aload_n 0, 1) := by decide +kernel
theorem dX13_acts_74 : decode cX13_acts 74 = .ok (.getfield 79, 3) := by decide +kernel
theorem dX13_acts_77 : decode cX13_acts 77 = .ok (.ifCond .ne 26, 3) := by decide +kernel
theorem dX13_acts_80 : decode cX13_acts 80 = .ok (.aload_n 0, 1) := by decide +kernel
theorem dX13_acts_81 : decode cX13_acts 81 = .ok (.iload_n 1, 1) := by decide +kernel
theorem dX13_acts_82 : decode cX13_acts 82 = .ok (.ifCond .le 7, 3) := by decide +kernel
theorem dX13_acts_85 : decode cX13_acts 85 = .ok (.iconst 0, 1) := by decide +kernel
theorem dX13_acts_86 : decode cX13_acts 86 = .ok (.goto 7, 3) := by decide +kernel
theorem dX13_acts_89 : decode cX13_acts 89 = .ok (.aload_n 0, 1) := by decide +kernel
theorem dX13_acts_90 : decode cX13_acts 90 = .ok (.getfield 254, 3) := by decide +kernel
theorem dX13_acts_93 : decode cX13_acts 93 = .ok (.putfield 254, 3) := by decide +kernel
theorem dX13_acts_96 : decode cX13_acts 96 = .ok (.aload_n 0, 1) := by decide +kernel
theorem dX13_acts_97 : decode cX13_acts 97 = .ok (.iconst 0, 1) := by decide +kernel
theorem dX13_acts_98 : decode cX13_acts 98 = .ok (.putfield 251, 3) := by decide +kernel
theorem dX13_acts_101 : decode cX13_acts 101 = .ok (.iload_n 1, 1) := by decide +kernel
theorem dX13_acts_102 : decode cX13_acts 102 = .ok (.ireturn, 1) := by decide +kernel
theorem dX13_acts_103 : decode cX13_acts 103 = .ok (.aload_n 0, 1) := by decide +kernel
theorem dX13_acts_104 : decode cX13_acts 104 = .ok (.iload_n 2, 1) := by decide +kernel
theorem dX13_acts_105 : decode cX13_acts 105 = .ok (.ifCond .le 7, 3) := by decide +kernel
theorem dX13_acts_108 : decode cX13_acts 108 = .ok (.iload_n 2, 1) := by decide +kernel
theorem dX13_acts_109 : decode cX13_acts 109 = .ok (.goto 7, 3) := by decide +kernel
theorem dX13_acts_112 : decode cX13_acts 112 = .ok (.aload_n 0, 1) := by decide +kernel
theorem dX13_acts_113 : decode cX13_acts 113 = .ok (.getfield 254, 3) := by decide +kernel
theorem dX13_acts_116 : decode cX13_acts 116 = .ok (.putfield 254, 3) := by decide +kernel
theorem dX13_acts_119 : decode cX13_acts 119 = .ok (.iconst 0, 1) := by decide +kernel
theorem dX13_acts_120 : decode cX13_acts 120 = .ok (.istore_n 3, 1) := by decide +kernel
theorem dX13_acts_121 : decode cX13_acts 121 = .ok (.iload_n 3, 1) := by decide +kernel
theorem dX13_acts_122 : decode cX13_acts 122 = .ok (.iconst 4, 1) := by decide +kernel
theorem dX13_acts_123 : decode cX13_acts 123 = .ok (.if_icmp .ge 21, 3) := by decide +kernel
theorem dX13_acts_126 : decode cX13_acts 126 = .ok (.aload_n 0, 1) := by decide +kernel
theorem dX13_acts_127 : decode cX13_acts 127 = .ok (.getfield 35, 3) := by decide +kernel
theorem dX13_acts_130 : decode cX13_acts 130 = .ok (.iload_n 3, 1) := by decide +kernel
theorem dX13_acts_131 : decode cX13_acts 131 = .ok (.aload_n 0, 1) := by decide +kernel
theorem dX13_acts_132 : decode cX13_acts 132 = .ok (.getfield 76, 3) := by decide +kernel
theorem dX13_acts_135 : decode cX13_acts 135 = .ok (.iload_n 3, 1) := by decide +kernel
theorem dX13_acts_136 : decode cX13_acts 136 = .ok (.baload, 1) := by decide +kernel
theorem dX13_acts_137 : decode cX13_acts 137 = .ok (.bastore, 1) := by decide +kernel
theorem dX13_acts_138 : decode cX13_acts 138 = .ok (.iinc 3 1, 3) := by decide +kernel
theorem dX13_acts_141 : decode cX13_acts 141 = .ok (.goto (-20), 3) := by decide +kernel
theorem dX13_acts_144 : decode cX13_acts 144 = .ok (.aload_n 0, 1) := by decide +kernel
theorem dX13_acts_145 : decode cX13_acts 145 = .ok (.invokevirtual 352, 3) := by decide +kernel
theorem dX13_acts_148 : decode cX13_acts 148 = .ok (.iconst 0, 1) := by decide +kernel
theorem dX13_acts_149 : decode cX13_acts 149 = .ok (.ireturn, 1) := by decide +kernel
theorem dX13_isName_0 : decode cX13_isName 0 = .ok (.aload_n 0, 1) := by decide +kernel
theorem dX13_isName_1 : decode cX13_isName 1 = .ok (.invokevirtual 340, 3) := by decide +kernel
theorem dX13_isName_4 : decode cX13_isName 4 = .ok (.aload_n 0, 1) := by decide +kernel
theorem dX13_isName_5 : decode cX13_isName 5 = .ok (.aload_n 0, 1) := by decide +kernel
theorem dX13_isName_6 : decode cX13_isName 6 = .ok (.invokevirtual 301, 3) := by decide +kernel
theorem dX13_isName_9 : decode cX13_isName 9 = .ok (.putfield 355, 3) := by decide +kernel
theorem dX13_isName_12 : decode cX13_isName 12 = .ok (.iload_n 1, 1) := by decide +kernel
theorem dX13_isName_13 : decode cX13_isName 13 = .ok (.ifCond .eq 11, 3) := by decide +kernel
theorem dX13_isName_16 : decode cX13_isName 16 = .ok (.aload_n 0, 1) := by decide +kernel
theorem dX13_isName_17 : decode cX13_isName 17 = .ok (.aload_n 0, 1) := by decide +kernel
theorem dX13_isName_18 : decode cX13_isName 18 = .ok (.invokevirtual 301, 3) := by decide +kernel
theorem dX13_isName_21 : decode cX13_isName 21 = .ok (.putfield 359, 3) := by decide +kernel
theorem dX13_isName_24 : decode cX13_isName 24 = .ok (.aload_n 0, 1) := by decide +kernel
theorem dX13_isName_25 : decode cX13_isName 25 = .ok (.getfield 54, 3) := by decide +kernel
theorem dX13_isName_28 : decode cX13_isName 28 = .ok (.iconst (-1), 1) := by decide +kernel
theorem dX13_isName_29 : decode cX13_isName 29 = .ok (.if_icmp .ne 22, 3) := by decide +kernel
theorem dX13_isName_32 : decode cX13_isName 32 = .ok (.aload_n 0, 1) := by decide +kernel
theorem dX13_isName_33 : decode cX13_isName 33 = .ok (.invokevirtual 273, 3) := by decide +kernel
theorem dX13_isName_36 : decode cX13_isName 36 = .ok (.aload_n 0, 1) := by decide +kernel
theorem dX13_isName_37 : decode cX13_isName 37 = .ok (.getfield 267, 3) := by decide +kernel
theorem dX13_isName_40 : decode cX13_isName 40 = .ok (.if_icmp .ge 11, 3) := by decide +kernel
theorem dX13_isName_43 : decode cX13_isName 43 = .ok (.aload_n 0, 1) := by decide +kernel
theorem dX13_isName_44 : decode cX13_isName 44 = .ok (.aload_n 0, 1) := by decide +kernel
theorem dX13_isName_45 : decode cX13_isName 45 = .ok (.getfield 270, 3) := by decide +kernel
theorem dX13_isName_48 : decode cX13_isName 48 = .ok (.invokevirtual 292, 3) := by decide +kernel
theorem dX13_isName_51 : decode cX13_isName 51 = .ok (.aload_n 0, 1) := by decide +kernel
theorem dX13_isName_52 : decode cX13_isName 52 = .ok (.aload_n 0, 1) := by decide +kernel
theorem dX13_isName_53 : decode cX13_isName 53 = .ok (.getfield 54, 3) := by decide +kernel
theorem dX13_isName_56 : decode cX13_isName 56 = .ok (.iconst (-1), 1) := by decide +kernel
theorem dX13_isName_57 : decode cX13_isName 57 = .ok (.if_icmp .ne 7, 3) := by decide +kernel
theorem dX13_isName_60 : decode cX13_isName 60 = .ok (.iconst 0, 1) := by decide +kernel
theorem dX13_isName_61 : decode cX13_isName 61 = .ok (.goto 4, 3) := by decide +kernel
theorem dX13_isName_64 : decode cX13_isName 64 = .ok (.iconst 1, 1) := by decide +kernel
theorem dX13_isName_65 : decode cX13_isName 65 = .ok (.putfield 79, 3) := by decide +kernel
theorem dX13_isName_68 : decode cX13_isName 68 = .ok (.aload_n 0, 1) := by decide +kernel
theorem dX13_isName_69 : decode cX13_isName 69 = .ok (.getfield 54, 3) := by decide +kernel
theorem dX13_isName_72 : decode cX13_isName 72 = .ok (.iconst (-1), 1) := by decide +kernel
theorem dX13_isName_73 : decode cX13_isName 73 = .ok (.if_icmp .ne 7, 3) := by decide +kernel
theorem dX13_isName_76 : decode cX13_isName 76 = .ok (.iconst 1, 1) := by decide +kernel
theorem dX13_isName_77 : decode cX13_isName 77 = .ok (.goto 4, 3) := by decide +kernel
theorem dX13_isName_80 : decode cX13_isName 80 = .ok (.iconst 0, 1) := by decide +kernel
theorem dX13_isName_81 : decode cX13_isName 81 = .ok (.ireturn, 1) := by decide +kernel
theorem dX13_fault_0 : decode cX13_fault 0 = .ok (.aload_n 0, 1) := by decide +kernel
theorem dX13_fault_1 : decode cX13_fault 1 = .ok (.iconst 0, 1) := by decide +kernel
theorem dX13_fault_2 : decode cX13_fault 2 = .ok (.putfield 79, 3) := by decide +kernel
theorem dX13_fault_5 : decode cX13_fault 5 = .ok (.aload_n 0, 1) := by decide +kernel
theorem dX13_fault_6 : decode cX13_fault 6 = .ok (.getfield 54, 3) := by decide +kernel
theorem dX13_fault_9 : decode cX13_fault 9 = .ok (.ireturn, 1) := by decide +kernel
theorem dX13_why_0 : decode cX13_why 0 = .ok (.aload_n 0, 1) := by decide +kernel
theorem dX13_why_1 : decode cX13_why 1 = .ok (.iconst 0, 1) := by decide +kernel
theorem dX13_why_2 : decode cX13_why 2 = .ok (.putfield 79, 3) := by decide +kernel
theorem dX13_why_5 : decode cX13_why 5 = .ok (.aload_n 0, 1) := by decide +kernel
theorem dX13_why_6 : decode cX13_why 6 = .ok (.getfield 254, 3) := by decide +kernel
theorem dX13_why_9 : decode cX13_why 9 = .ok (.ireturn, 1) := by decide +kernel
theorem dX13_put_0 : decode cX13_put 0 = .ok (.iload_n 1, 1) := by decide +kernel
theorem dX13_put_1 : decode cX13_put 1 = .ok (.iconst 0, 1) := by decide +kernel
theorem dX13_put_2 : decode cX13_put 2 = .ok (.sipush 999, 3) := by decide +kernel
theorem dX13_put_5 : decode cX13_put 5 = .ok (.invokestatic 263, 3) := by decide +kernel
theorem dX13_put_8 : decode cX13_put 8 = .ok (.ifCond .ne 15, 3) := by decide +kernel
theorem dX13_put_11 : decode cX13_put 11 = .ok (.aload_n 0, 1) := by decide +kernel
theorem dX13_put_12 : decode cX13_put 12 = .ok (.iconst 0, 1) := by decide +kernel
theorem dX13_put_13 : decode cX13_put 13 = .ok (.putfield 260, 3) := by decide +kernel
theorem dX13_put_16 : decode cX13_put 16 = .ok (.aload_n 0, 1) := by decide +kernel
theorem dX13_put_17 : decode cX13_put 17 = .ok (.iconst 1, 1) := by decide +kernel
theorem dX13_put_18 : decode cX13_put 18 = .ok (.putfield 79, 3) := by decide +kernel
theorem dX13_put_21 : decode cX13_put 21 = .ok (.iconst 0, 1) := by decide +kernel
theorem dX13_put_22 : decode cX13_put 22 = .ok (.ireturn, 1) := by decide +kernel
theorem dX13_put_23 : decode cX13_put 23 = .ok (.aload_n 0, 1) := by decide +kernel
theorem dX13_put_24 : decode cX13_put 24 = .ok (.iconst 0, 1) := by decide +kernel
theorem dX13_put_25 : decode cX13_put 25 = .ok (.invokevirtual 362, 3) := by decide +kernel
theorem dX13_put_28 : decode cX13_put 28 = .ok (.ifCond .ne 5, 3) := by decide +kernel
theorem dX13_put_31 : decode cX13_put 31 = .ok (.iconst 0, 1) := by decide +kernel
theorem dX13_put_32 : decode cX13_put 32 = .ok (.ireturn, 1) := by decide +kernel
theorem dX13_put_33 : decode cX13_put 33 = .ok (.aload_n 0, 1) := by decide +kernel
theorem dX13_put_34 : decode cX13_put 34 = .ok (.invokevirtual 343, 3) := by decide +kernel
theorem dX13_put_37 : decode cX13_put 37 = .ok (.aload_n 0, 1) := by decide +kernel
theorem dX13_put_38 : decode cX13_put 38 = .ok (.aload_n 0, 1) := by decide +kernel
theorem dX13_put_39 : decode cX13_put 39 = .ok (.aload_n 0, 1) := by decide +kernel
theorem dX13_put_40 : decode cX13_put 40 = .ok (.getfield 355, 3) := by decide +kernel
theorem dX13_put_43 : decode cX13_put 43 = .ok (.iload_n 1, 1) := by decide +kernel
theorem dX13_put_44 : decode cX13_put 44 = .ok (.invokevirtual 308, 3) := by decide +kernel
theorem dX13_put_47 : decode cX13_put 47 = .ok (.iconst 2, 1) := by decide +kernel
theorem dX13_put_48 : decode cX13_put 48 = .ok (.invokevirtual 366, 3) := by decide +kernel
theorem dX13_put_51 : decode cX13_put 51 = .ok (.ifCond .eq 10, 3) := by decide +kernel
theorem dX13_put_54 : decode cX13_put 54 = .ok (.aload_n 0, 1) := by decide +kernel
theorem dX13_put_55 : decode cX13_put 55 = .ok (.getfield 177, 3) := by decide +kernel
theorem dX13_put_58 : decode cX13_put 58 = .ok (.goto 4, 3) := by decide +kernel
theorem dX13_put_61 : decode cX13_put 61 = .ok (.iconst 0, 1) := by decide +kernel
theorem dX13_put_62 : decode cX13_put 62 = .ok (.ireturn, 1) := by decide +kernel
theorem dX13_cut_0 : decode cX13_cut 0 = .ok (.aload_n 0, 1) := by decide +kernel
theorem dX13_cut_1 : decode cX13_cut 1 = .ok (.iconst 0, 1) := by decide +kernel
theorem dX13_cut_2 : decode cX13_cut 2 = .ok (.invokevirtual 362, 3) := by decide +kernel
theorem dX13_cut_5 : decode cX13_cut 5 = .ok (.ifCond .ne 5, 3) := by decide +kernel
theorem dX13_cut_8 : decode cX13_cut 8 = .ok (.iconst 0, 1) := by decide +kernel
theorem dX13_cut_9 : decode cX13_cut 9 = .ok (.ireturn, 1) := by decide +kernel
theorem dX13_cut_10 : decode cX13_cut 10 = .ok (.aload_n 0, 1) := by decide +kernel
theorem dX13_cut_11 : decode cX13_cut 11 = .ok (.invokevirtual 343, 3) := by decide +kernel
theorem dX13_cut_14 : decode cX13_cut 14 = .ok (.aload_n 0, 1) := by decide +kernel
theorem dX13_cut_15 : decode cX13_cut 15 = .ok (.aload_n 0, 1) := by decide +kernel
theorem dX13_cut_16 : decode cX13_cut 16 = .ok (.getfield 355, 3) := by decide +kernel
theorem dX13_cut_19 : decode cX13_cut 19 = .ok (.invokevirtual 226, 3) := by decide +kernel
theorem dX13_cut_22 : decode cX13_cut 22 = .ok (.istore_n 1, 1) := by decide +kernel
theorem dX13_cut_23 : decode cX13_cut 23 = .ok (.iload_n 1, 1) := by decide +kernel
theorem dX13_cut_24 : decode cX13_cut 24 = .ok (.ifCond .eq 26, 3) := by decide +kernel
theorem dX13_cut_27 : decode cX13_cut 27 = .ok (.aload_n 0, 1) := by decide +kernel
theorem dX13_cut_28 : decode cX13_cut 28 = .ok (.getfield 7, 3) := by decide +kernel
theorem dX13_cut_31 : decode cX13_cut 31 = .ok (.sipush 840, 3) := by decide +kernel
theorem dX13_cut_34 : decode cX13_cut 34 = .ok (.aload_n 0, 1) := by decide +kernel
theorem dX13_cut_35 : decode cX13_cut 35 = .ok (.getfield 150, 3) := by decide +kernel
theorem dX13_cut_38 : decode cX13_cut 38 = .ok (.aload_n 0, 1) := by decide +kernel
theorem dX13_cut_39 : decode cX13_cut 39 = .ok (.getfield 153, 3) := by decide +kernel
theorem dX13_cut_42 : decode cX13_cut 42 = .ok (.invokestatic 82, 3) := by decide +kernel
theorem dX13_cut_45 : decode cX13_cut 45 = .ok (.iadd, 1) := by decide +kernel
theorem dX13_cut_46 : decode cX13_cut 46 = .ok (.iaload, 1) := by decide +kernel
theorem dX13_cut_47 : decode cX13_cut 47 = .ok (.goto 4, 3) := by decide +kernel
theorem dX13_cut_50 : decode cX13_cut 50 = .ok (.iconst 0, 1) := by decide +kernel
theorem dX13_cut_51 : decode cX13_cut 51 = .ok (.istore_n 2, 1) := by decide +kernel
theorem dX13_cut_52 : decode cX13_cut 52 = .ok (.aload_n 0, 1) := by decide +kernel
theorem dX13_cut_53 : decode cX13_cut 53 = .ok (.aload_n 0, 1) := by decide +kernel
theorem dX13_cut_54 : decode cX13_cut 54 = .ok (.aload_n 0, 1) := by decide +kernel
theorem dX13_cut_55 : decode cX13_cut 55 = .ok (.getfield 355, 3) := by decide +kernel
theorem dX13_cut_58 : decode cX13_cut 58 = .ok (.invokevirtual 313, 3) := by decide +kernel
theorem dX13_cut_61 : decode cX13_cut 61 = .ok (.iconst 2, 1) := by decide +kernel
theorem dX13_cut_62 : decode cX13_cut 62 = .ok (.invokevirtual 366, 3) := by decide +kernel
theorem dX13_cut_65 : decode cX13_cut 65 = .ok (.ifCond .eq 7, 3) := by decide +kernel
theorem dX13_cut_68 : decode cX13_cut 68 = .ok (.iload_n 2, 1) := by decide +kernel
theorem dX13_cut_69 : decode cX13_cut 69 = .ok (.goto 4, 3) := by decide +kernel
theorem dX13_cut_72 : decode cX13_cut 72 = .ok (.iconst 0, 1) := by decide +kernel
theorem dX13_cut_73 : decode cX13_cut 73 = .ok (.ireturn, 1) := by decide +kernel
theorem dX13_turn_0 : decode cX13_turn 0 = .ok (.aload_n 0, 1) := by decide +kernel
theorem dX13_turn_1 : decode cX13_turn 1 = .ok (.iconst 1, 1) := by decide +kernel
theorem dX13_turn_2 : decode cX13_turn 2 = .ok (.invokevirtual 362, 3) := by decide +kernel
theorem dX13_turn_5 : decode cX13_turn 5 = .ok (.ifCond .ne 5, 3) := by decide +kernel
theorem dX13_turn_8 : decode cX13_turn 8 = .ok (.iconst 0, 1) := by decide +kernel
theorem dX13_turn_9 : decode cX13_turn 9 = .ok (.ireturn, 1) := by decide +kernel
theorem dX13_turn_10 : decode cX13_turn 10 = .ok (.aload_n 0, 1) := by decide +kernel
theorem dX13_turn_11 : decode cX13_turn 11 = .ok (.invokevirtual 343, 3) := by decide +kernel
theorem dX13_turn_14 : decode cX13_turn 14 = .ok (.aload_n 0, 1) := by decide +kernel
theorem dX13_turn_15 : decode cX13_turn 15 = .ok (.aload_n 0, 1) := by decide +kernel
theorem dX13_turn_16 : decode cX13_turn 16 = .ok (.getfield 355, 3) := by decide +kernel
theorem dX13_turn_19 : decode cX13_turn 19 = .ok (.invokevirtual 226, 3) := by decide +kernel
theorem dX13_turn_22 : decode cX13_turn 22 = .ok (.istore_n 1, 1) := by decide +kernel
theorem dX13_turn_23 : decode cX13_turn 23 = .ok (.iload_n 1, 1) := by decide +kernel
theorem dX13_turn_24 : decode cX13_turn 24 = .ok (.ifCond .eq 26, 3) := by decide +kernel
theorem dX13_turn_27 : decode cX13_turn 27 = .ok (.aload_n 0, 1) := by decide +kernel
theorem dX13_turn_28 : decode cX13_turn 28 = .ok (.getfield 7, 3) := by decide +kernel
theorem dX13_turn_31 : decode cX13_turn 31 = .ok (.sipush 840, 3) := by decide +kernel
theorem dX13_turn_34 : decode cX13_turn 34 = .ok (.aload_n 0, 1) := by decide +kernel
theorem dX13_turn_35 : decode cX13_turn 35 = .ok (.getfield 150, 3) := by decide +kernel
theorem dX13_turn_38 : decode cX13_turn 38 = .ok (.aload_n 0, 1) := by decide +kernel
theorem dX13_turn_39 : decode cX13_turn 39 = .ok (.getfield 153, 3) := by decide +kernel
theorem dX13_turn_42 : decode cX13_turn 42 = .ok (.invokestatic 82, 3) := by decide +kernel
theorem dX13_turn_45 : decode cX13_turn 45 = .ok (.iadd, 1) := by decide +kernel
theorem dX13_turn_46 : decode cX13_turn 46 = .ok (.iaload, 1) := by decide +kernel
theorem dX13_turn_47 : decode cX13_turn 47 = .ok (.goto 4, 3) := by decide +kernel
theorem dX13_turn_50 : decode cX13_turn 50 = .ok (.iconst 0, 1) := by decide +kernel
theorem dX13_turn_51 : decode cX13_turn 51 = .ok (.istore_n 2, 1) := by decide +kernel
theorem dX13_turn_52 : decode cX13_turn 52 = .ok (.aload_n 0, 1) := by decide +kernel
theorem dX13_turn_53 : decode cX13_turn 53 = .ok (.aload_n 0, 1) := by decide +kernel
theorem dX13_turn_54 : decode cX13_turn 54 = .ok (.aload_n 0, 1) := by decide +kernel
theorem dX13_turn_55 : decode cX13_turn 55 = .ok (.getfield 355, 3) := by decide +kernel
theorem dX13_turn_58 : decode cX13_turn 58 = .ok (.aload_n 0, 1) := by decide +kernel
theorem dX13_turn_59 : decode cX13_turn 59 = .ok (.getfield 359, 3) := by decide +kernel
theorem dX13_turn_62 : decode cX13_turn 62 = .ok (.invokevirtual 318, 3) := by decide +kernel
theorem dX13_turn_65 : decode cX13_turn 65 = .ok (.iconst 2, 1) := by decide +kernel
theorem dX13_turn_66 : decode cX13_turn 66 = .ok (.invokevirtual 366, 3) := by decide +kernel
theorem dX13_turn_69 : decode cX13_turn 69 = .ok (.ifCond .eq 7, 3) := by decide +kernel
theorem dX13_turn_72 : decode cX13_turn 72 = .ok (.iload_n 2, 1) := by decide +kernel
theorem dX13_turn_73 : decode cX13_turn 73 = .ok (.goto 4, 3) := by decide +kernel
theorem dX13_turn_76 : decode cX13_turn 76 = .ok (.iconst 0, 1) := by decide +kernel
theorem dX13_turn_77 : decode cX13_turn 77 = .ok (.ireturn, 1) := by decide +kernel
theorem dX13_build_0 : decode cX13_build 0 = .ok (.aload_n 0, 1) := by decide +kernel
theorem dX13_build_1 : decode cX13_build 1 = .ok (.invokevirtual 343, 3) := by decide +kernel
theorem dX13_build_4 : decode cX13_build 4 = .ok (.aload_n 0, 1) := by decide +kernel
theorem dX13_build_5 : decode cX13_build 5 = .ok (.aload_n 0, 1) := by decide +kernel
theorem dX13_build_6 : decode cX13_build 6 = .ok (.aload_n 0, 1) := by decide +kernel
theorem dX13_build_7 : decode cX13_build 7 = .ok (.getfield 7, 3) := by decide +kernel
theorem dX13_build_10 : decode cX13_build 10 = .ok (.sipush 1081, 3) := by decide +kernel
theorem dX13_build_13 : decode cX13_build 13 = .ok (.iaload, 1) := by decide +kernel
theorem dX13_build_14 : decode cX13_build 14 = .ok (.aload_n 0, 1) := by decide +kernel
theorem dX13_build_15 : decode cX13_build 15 = .ok (.getfield 7, 3) := by decide +kernel
theorem dX13_build_18 : decode cX13_build 18 = .ok (.sipush 1082, 3) := by decide +kernel
theorem dX13_build_21 : decode cX13_build 21 = .ok (.iaload, 1) := by decide +kernel
theorem dX13_build_22 : decode cX13_build 22 = .ok (.aload_n 0, 1) := by decide +kernel
theorem dX13_build_23 : decode cX13_build 23 = .ok (.getfield 7, 3) := by decide +kernel
theorem dX13_build_26 : decode cX13_build 26 = .ok (.sipush 1083, 3) := by decide +kernel
theorem dX13_build_29 : decode cX13_build 29 = .ok (.iaload, 1) := by decide +kernel
theorem dX13_build_30 : decode cX13_build 30 = .ok (.invokevirtual 248, 3) := by decide +kernel
theorem dX13_build_33 : decode cX13_build 33 = .ok (.iconst 1, 1) := by decide +kernel
theorem dX13_build_34 : decode cX13_build 34 = .ok (.invokevirtual 366, 3) := by decide +kernel
