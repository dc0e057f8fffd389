theorem dX13_build_37 : decode cX13_build 37 = .ok (.ifCond .eq 15, 3) := by decide +kernel
theorem dX13_build_40 : decode cX13_build 40 = .ok (.bipush 40, 2) := by decide +kernel
theorem dX13_build_42 : decode cX13_build 42 = .ok (.aload_n 0, 1) := by decide +kernel
theorem dX13_build_43 : decode cX13_build 43 = .ok (.iconst 0, 1) := by decide +kernel
theorem dX13_build_44 : decode cX13_build 44 = .ok (.iconst 0, 1) := by decide +kernel
theorem dX13_build_45 : decode cX13_build 45 = .ok (.invokevirtual 90, 3) := by decide +kernel
theorem dX13_build_48 : decode cX13_build 48 = .ok (.isub, 1) := by decide +kernel
theorem dX13_build_49 : decode cX13_build 49 = .ok (.goto 4, 3) := by decide +kernel
theorem dX13_build_52 : decode cX13_build 52 = .ok (.iconst 0, 1) := by decide +kernel
theorem dX13_build_53 : decode cX13_build 53 = .ok (.ireturn, 1) := by decide +kernel
theorem dX13_tune_0 : decode cX13_tune 0 = .ok (.aload_n 0, 1) := by decide +kernel
theorem dX13_tune_1 : decode cX13_tune 1 = .ok (.iload_n 1, 1) := by decide +kernel
theorem dX13_tune_2 : decode cX13_tune 2 = .ok (.iconst 0, 1) := by decide +kernel
theorem dX13_tune_3 : decode cX13_tune 3 = .ok (.iconst 2, 1) := by decide +kernel
theorem dX13_tune_4 : decode cX13_tune 4 = .ok (.invokestatic 263, 3) := by decide +kernel
theorem dX13_tune_7 : decode cX13_tune 7 = .ok (.ifCond .eq 7, 3) := by decide +kernel
theorem dX13_tune_10 : decode cX13_tune 10 = .ok (.iconst 0, 1) := by decide +kernel
theorem dX13_tune_11 : decode cX13_tune 11 = .ok (.goto 4, 3) := by decide +kernel
theorem dX13_tune_14 : decode cX13_tune 14 = .ok (.iconst 1, 1) := by decide +kernel
theorem dX13_tune_15 : decode cX13_tune 15 = .ok (.putfield 79, 3) := by decide +kernel
theorem dX13_tune_18 : decode cX13_tune 18 = .ok (.aload_n 0, 1) := by decide +kernel
theorem dX13_tune_19 : decode cX13_tune 19 = .ok (.getfield 79, 3) := by decide +kernel
theorem dX13_tune_22 : decode cX13_tune 22 = .ok (.ifCond .le 5, 3) := by decide +kernel
theorem dX13_tune_25 : decode cX13_tune 25 = .ok (.iconst 0, 1) := by decide +kernel
theorem dX13_tune_26 : decode cX13_tune 26 = .ok (.ireturn, 1) := by decide +kernel
theorem dX13_tune_27 : decode cX13_tune 27 = .ok (.iload_n 1, 1) := by decide +kernel
theorem dX13_tune_28 : decode cX13_tune 28 = .ok (.ifCond .ne 8, 3) := by decide +kernel
theorem dX13_tune_31 : decode cX13_tune 31 = .ok (.bipush 12, 2) := by decide +kernel
theorem dX13_tune_33 : decode cX13_tune 33 = .ok (.goto 14, 3) := by decide +kernel
theorem dX13_tune_36 : decode cX13_tune 36 = .ok (.iload_n 1, 1) := by decide +kernel
theorem dX13_tune_37 : decode cX13_tune 37 = .ok (.iconst 1, 1) := by decide +kernel
theorem dX13_tune_38 : decode cX13_tune 38 = .ok (.if_icmp .ne 8, 3) := by decide +kernel
theorem dX13_tune_41 : decode cX13_tune 41 = .ok (.ldc 109, 2) := by decide +kernel
theorem dX13_tune_43 : decode cX13_tune 43 = .ok (.goto 4, 3) := by decide +kernel
theorem dX13_tune_46 : decode cX13_tune 46 = .ok (.iconst 1, 1) := by decide +kernel
theorem dX13_tune_47 : decode cX13_tune 47 = .ok (.istore_n 3, 1) := by decide +kernel
theorem dX13_tune_48 : decode cX13_tune 48 = .ok (.aload_n 0, 1) := by decide +kernel
theorem dX13_tune_49 : decode cX13_tune 49 = .ok (.iload_n 2, 1) := by decide +kernel
theorem dX13_tune_50 : decode cX13_tune 50 = .ok (.iload_n 1, 1) := by decide +kernel
theorem dX13_tune_51 : decode cX13_tune 51 = .ok (.ifCond .ne 7, 3) := by decide +kernel
theorem dX13_tune_54 : decode cX13_tune 54 = .ok (.iconst 1, 1) := by decide +kernel
theorem dX13_tune_55 : decode cX13_tune 55 = .ok (.goto 4, 3) := by decide +kernel
theorem dX13_tune_58 : decode cX13_tune 58 = .ok (.iconst 0, 1) := by decide +kernel
theorem dX13_tune_59 : decode cX13_tune 59 = .ok (.iload_n 3, 1) := by decide +kernel
theorem dX13_tune_60 : decode cX13_tune 60 = .ok (.invokestatic 263, 3) := by decide +kernel
theorem dX13_tune_63 : decode cX13_tune 63 = .ok (.ifCond .eq 7, 3) := by decide +kernel
theorem dX13_tune_66 : decode cX13_tune 66 = .ok (.iconst 0, 1) := by decide +kernel
theorem dX13_tune_67 : decode cX13_tune 67 = .ok (.goto 4, 3) := by decide +kernel
theorem dX13_tune_70 : decode cX13_tune 70 = .ok (.iconst 2, 1) := by decide +kernel
theorem dX13_tune_71 : decode cX13_tune 71 = .ok (.putfield 79, 3) := by decide +kernel
theorem dX13_tune_74 : decode cX13_tune 74 = .ok (.aload_n 0, 1) := by decide +kernel
theorem dX13_tune_75 : decode cX13_tune 75 = .ok (.getfield 79, 3) := by decide +kernel
theorem dX13_tune_78 : decode cX13_tune 78 = .ok (.ifCond .le 5, 3) := by decide +kernel
theorem dX13_tune_81 : decode cX13_tune 81 = .ok (.iconst 0, 1) := by decide +kernel
theorem dX13_tune_82 : decode cX13_tune 82 = .ok (.ireturn, 1) := by decide +kernel
theorem dX13_tune_83 : decode cX13_tune 83 = .ok (.aload_n 0, 1) := by decide +kernel
theorem dX13_tune_84 : decode cX13_tune 84 = .ok (.invokevirtual 343, 3) := by decide +kernel
theorem dX13_tune_87 : decode cX13_tune 87 = .ok (.aload_n 0, 1) := by decide +kernel
theorem dX13_tune_88 : decode cX13_tune 88 = .ok (.getfield 7, 3) := by decide +kernel
theorem dX13_tune_91 : decode cX13_tune 91 = .ok (.sipush 1081, 3) := by decide +kernel
theorem dX13_tune_94 : decode cX13_tune 94 = .ok (.iload_n 1, 1) := by decide +kernel
theorem dX13_tune_95 : decode cX13_tune 95 = .ok (.iadd, 1) := by decide +kernel
theorem dX13_tune_96 : decode cX13_tune 96 = .ok (.iaload, 1) := by decide +kernel
theorem dX13_tune_97 : decode cX13_tune 97 = .ok (.istore 4, 2) := by decide +kernel
theorem dX13_tune_99 : decode cX13_tune 99 = .ok (.aload_n 0, 1) := by decide +kernel
theorem dX13_tune_100 : decode cX13_tune 100 = .ok (.aload_n 0, 1) := by decide +kernel
theorem dX13_tune_101 : decode cX13_tune 101 = .ok (.iload_n 1, 1) := by decide +kernel
theorem dX13_tune_102 : decode cX13_tune 102 = .ok (.iload_n 2, 1) := by decide +kernel
theorem dX13_tune_103 : decode cX13_tune 103 = .ok (.invokevirtual 324, 3) := by decide +kernel
theorem dX13_tune_106 : decode cX13_tune 106 = .ok (.iconst 3, 1) := by decide +kernel
theorem dX13_tune_107 : decode cX13_tune 107 = .ok (.invokevirtual 366, 3) := by decide +kernel
theorem dX13_tune_110 : decode cX13_tune 110 = .ok (.ifCond .eq 8, 3) := by decide +kernel
theorem dX13_tune_113 : decode cX13_tune 113 = .ok (.iload 4, 2) := by decide +kernel
theorem dX13_tune_115 : decode cX13_tune 115 = .ok (.goto 4, 3) := by decide +kernel
theorem dX13_tune_118 : decode cX13_tune 118 = .ok (.iconst 0, 1) := by decide +kernel
theorem dX13_tune_119 : decode cX13_tune 119 = .ok (.ireturn, 1) := by decide +kernel
theorem dX13_isBlock_0 : decode cX13_isBlock 0 = .ok (.iload_n 0, 1) := by decide +kernel
theorem dX13_isBlock_1 : decode cX13_isBlock 1 = .ok (.iconst 0, 1) := by decide +kernel
theorem dX13_isBlock_2 : decode cX13_isBlock 2 = .ok (.bipush 39, 2) := by decide +kernel
theorem dX13_isBlock_4 : decode cX13_isBlock 4 = .ok (.invokestatic 263, 3) := by decide +kernel
theorem dX13_isBlock_7 : decode cX13_isBlock 7 = .ok (.ireturn, 1) := by decide +kernel
theorem dX13_tear_0 : decode cX13_tear 0 = .ok (.aload_n 0, 1) := by decide +kernel
theorem dX13_tear_1 : decode cX13_tear 1 = .ok (.iload_n 1, 1) := by decide +kernel
theorem dX13_tear_2 : decode cX13_tear 2 = .ok (.invokestatic 369, 3) := by decide +kernel
theorem dX13_tear_5 : decode cX13_tear 5 = .ok (.ifCond .eq 7, 3) := by decide +kernel
theorem dX13_tear_8 : decode cX13_tear 8 = .ok (.iconst 0, 1) := by decide +kernel
theorem dX13_tear_9 : decode cX13_tear 9 = .ok (.goto 4, 3) := by decide +kernel
theorem dX13_tear_12 : decode cX13_tear 12 = .ok (.iconst 1, 1) := by decide +kernel
theorem dX13_tear_13 : decode cX13_tear 13 = .ok (.putfield 79, 3) := by decide +kernel
theorem dX13_tear_16 : decode cX13_tear 16 = .ok (.aload_n 0, 1) := by decide +kernel
theorem dX13_tear_17 : decode cX13_tear 17 = .ok (.getfield 79, 3) := by decide +kernel
theorem dX13_tear_20 : decode cX13_tear 20 = .ok (.ifCond .le 5, 3) := by decide +kernel
theorem dX13_tear_23 : decode cX13_tear 23 = .ok (.iconst 0, 1) := by decide +kernel
theorem dX13_tear_24 : decode cX13_tear 24 = .ok (.ireturn, 1) := by decide +kernel
theorem dX13_tear_25 : decode cX13_tear 25 = .ok (.aload_n 0, 1) := by decide +kernel
theorem dX13_tear_26 : decode cX13_tear 26 = .ok (.invokevirtual 343, 3) := by decide +kernel
theorem dX13_tear_29 : decode cX13_tear 29 = .ok (.aload_n 0, 1) := by decide +kernel
theorem dX13_tear_30 : decode cX13_tear 30 = .ok (.aload_n 0, 1) := by decide +kernel
theorem dX13_tear_31 : decode cX13_tear 31 = .ok (.iload_n 1, 1) := by decide +kernel
theorem dX13_tear_32 : decode cX13_tear 32 = .ok (.invokevirtual 335, 3) := by decide +kernel
theorem dX13_tear_35 : decode cX13_tear 35 = .ok (.iconst 2, 1) := by decide +kernel
theorem dX13_tear_36 : decode cX13_tear 36 = .ok (.invokevirtual 366, 3) := by decide +kernel
theorem dX13_tear_39 : decode cX13_tear 39 = .ok (.ifCond .eq 13, 3) := by decide +kernel
theorem dX13_tear_42 : decode cX13_tear 42 = .ok (.aload_n 0, 1) := by decide +kernel
theorem dX13_tear_43 : decode cX13_tear 43 = .ok (.bipush 40, 2) := by decide +kernel
theorem dX13_tear_45 : decode cX13_tear 45 = .ok (.iconst 1, 1) := by decide +kernel
theorem dX13_tear_46 : decode cX13_tear 46 = .ok (.invokevirtual 90, 3) := by decide +kernel
theorem dX13_tear_49 : decode cX13_tear 49 = .ok (.goto 4, 3) := by decide +kernel
theorem dX13_tear_52 : decode cX13_tear 52 = .ok (.iconst 0, 1) := by decide +kernel
theorem dX13_tear_53 : decode cX13_tear 53 = .ok (.ireturn, 1) := by decide +kernel
theorem dX13_undo_0 : decode cX13_undo 0 = .ok (.aload_n 0, 1) := by decide +kernel
theorem dX13_undo_1 : decode cX13_undo 1 = .ok (.aload_n 0, 1) := by decide +kernel
theorem dX13_undo_2 : decode cX13_undo 2 = .ok (.getfield 251, 3) := by decide +kernel
theorem dX13_undo_5 : decode cX13_undo 5 = .ok (.ifCond .ne 7, 3) := by decide +kernel
theorem dX13_undo_8 : decode cX13_undo 8 = .ok (.iconst 1, 1) := by decide +kernel
theorem dX13_undo_9 : decode cX13_undo 9 = .ok (.goto 4, 3) := by decide +kernel
theorem dX13_undo_12 : decode cX13_undo 12 = .ok (.iconst 0, 1) := by decide +kernel
theorem dX13_undo_13 : decode cX13_undo 13 = .ok (.putfield 79, 3) := by decide +kernel
theorem dX13_undo_16 : decode cX13_undo 16 = .ok (.aload_n 0, 1) := by decide +kernel
theorem dX13_undo_17 : decode cX13_undo 17 = .ok (.getfield 79, 3) := by decide +kernel
theorem dX13_undo_20 : decode cX13_undo 20 = .ok (.ifCond .le 5, 3) := by decide +kernel
theorem dX13_undo_23 : decode cX13_undo 23 = .ok (.iconst 0, 1) := by decide +kernel
theorem dX13_undo_24 : decode cX13_undo 24 = .ok (.ireturn, 1) := by decide +kernel
theorem dX13_undo_25 : decode cX13_undo 25 = .ok (.aload_n 0, 1) := by decide +kernel
theorem dX13_undo_26 : decode cX13_undo 26 = .ok (.dup, 1) := by decide +kernel
theorem dX13_undo_27 : decode cX13_undo 27 = .ok (.getfield 251, 3) := by decide +kernel
theorem dX13_undo_30 : decode cX13_undo 30 = .ok (.iconst 1, 1) := by decide +kernel
theorem dX13_undo_31 : decode cX13_undo 31 = .ok (.isub, 1) := by decide +kernel
theorem dX13_undo_32 : decode cX13_undo 32 = .ok (.putfield 251, 3) := by decide +kernel
theorem dX13_undo_35 : decode cX13_undo 35 = .ok (.iconst 0, 1) := by decide +kernel
theorem dX13_undo_36 : decode cX13_undo 36 = .ok (.istore_n 1, 1) := by decide +kernel
theorem dX13_undo_37 : decode cX13_undo 37 = .ok (.iload_n 1, 1) := by decide +kernel
theorem dX13_undo_38 : decode cX13_undo 38 = .ok (.sipush 1084, 3) := by decide +kernel
theorem dX13_undo_41 : decode cX13_undo 41 = .ok (.if_icmp .ge 30, 3) := by decide +kernel
theorem dX13_undo_44 : decode cX13_undo 44 = .ok (.aload_n 0, 1) := by decide +kernel
theorem dX13_undo_45 : decode cX13_undo 45 = .ok (.getfield 7, 3) := by decide +kernel
theorem dX13_undo_48 : decode cX13_undo 48 = .ok (.iload_n 1, 1) := by decide +kernel
theorem dX13_undo_49 : decode cX13_undo 49 = .ok (.aload_n 0, 1) := by decide +kernel
theorem dX13_undo_50 : decode cX13_undo 50 = .ok (.getfield 17, 3) := by decide +kernel
theorem dX13_undo_53 : decode cX13_undo 53 = .ok (.sipush 1084, 3) := by decide +kernel
theorem dX13_undo_56 : decode cX13_undo 56 = .ok (.aload_n 0, 1) := by decide +kernel
theorem dX13_undo_57 : decode cX13_undo 57 = .ok (.getfield 251, 3) := by decide +kernel
theorem dX13_undo_60 : decode cX13_undo 60 = .ok (.imul, 1) := by decide +kernel
theorem dX13_undo_61 : decode cX13_undo 61 = .ok (.iload_n 1, 1) := by decide +kernel
theorem dX13_undo_62 : decode cX13_undo 62 = .ok (.iadd, 1) := by decide +kernel
theorem dX13_undo_63 : decode cX13_undo 63 = .ok (.iaload, 1) := by decide +kernel
theorem dX13_undo_64 : decode cX13_undo 64 = .ok (.iastore, 1) := by decide +kernel
theorem dX13_undo_65 : decode cX13_undo 65 = .ok (.iinc 1 1, 3) := by decide +kernel
theorem dX13_undo_68 : decode cX13_undo 68 = .ok (.goto (-31), 3) := by decide +kernel
theorem dX13_undo_71 : decode cX13_undo 71 = .ok (.iconst 0, 1) := by decide +kernel
theorem dX13_undo_72 : decode cX13_undo 72 = .ok (.istore_n 1, 1) := by decide +kernel
theorem dX13_undo_73 : decode cX13_undo 73 = .ok (.iload_n 1, 1) := by decide +kernel
theorem dX13_undo_74 : decode cX13_undo 74 = .ok (.sipush 240, 3) := by decide +kernel
theorem dX13_undo_77 : decode cX13_undo 77 = .ok (.if_icmp .ge 30, 3) := by decide +kernel
theorem dX13_undo_80 : decode cX13_undo 80 = .ok (.aload_n 0, 1) := by decide +kernel
theorem dX13_undo_81 : decode cX13_undo 81 = .ok (.getfield 13, 3) := by decide +kernel
theorem dX13_undo_84 : decode cX13_undo 84 = .ok (.iload_n 1, 1) := by decide +kernel
theorem dX13_undo_85 : decode cX13_undo 85 = .ok (.aload_n 0, 1) := by decide +kernel
theorem dX13_undo_86 : decode cX13_undo 86 = .ok (.getfield 20, 3) := by decide +kernel
theorem dX13_undo_89 : decode cX13_undo 89 = .ok (.sipush 240, 3) := by decide +kernel
theorem dX13_undo_92 : decode cX13_undo 92 = .ok (.aload_n 0, 1) := by decide +kernel
theorem dX13_undo_93 : decode cX13_undo 93 = .ok (.getfield 251, 3) := by decide +kernel
theorem dX13_undo_96 : decode cX13_undo 96 = .ok (.imul, 1) := by decide +kernel
theorem dX13_undo_97 : decode cX13_undo 97 = .ok (.iload_n 1, 1) := by decide +kernel
theorem dX13_undo_98 : decode cX13_undo 98 = .ok (.iadd, 1) := by decide +kernel
theorem dX13_undo_99 : decode cX13_undo 99 = .ok (.laload, 1) := by decide +kernel
theorem dX13_undo_100 : decode cX13_undo 100 = .ok (.lastore, 1) := by decide +kernel
theorem dX13_undo_101 : decode cX13_undo 101 = .ok (.iinc 1 1, 3) := by decide +kernel
theorem dX13_undo_104 : decode cX13_undo 104 = .ok (.goto (-31), 3) := by decide +kernel
theorem dX13_undo_107 : decode cX13_undo 107 = .ok (.aload_n 0, 1) := by decide +kernel
theorem dX13_undo_108 : decode cX13_undo 108 = .ok (.getfield 251, 3) := by decide +kernel
theorem dX13_undo_111 : decode cX13_undo 111 = .ok (.ireturn, 1) := by decide +kernel
theorem dX13_meets_0 : decode cX13_meets 0 = .ok (.iconst 0, 1) := by decide +kernel
theorem dX13_meets_1 : decode cX13_meets 1 = .ok (.istore_n 2, 1) := by decide +kernel
theorem dX13_meets_2 : decode cX13_meets 2 = .ok (.iconst 0, 1) := by decide +kernel
theorem dX13_meets_3 : decode cX13_meets 3 = .ok (.istore_n 3, 1) := by decide +kernel
theorem dX13_meets_4 : decode cX13_meets 4 = .ok (.iload_n 3, 1) := by decide +kernel
theorem dX13_meets_5 : decode cX13_meets 5 = .ok (.sipush 240, 3) := by decide +kernel
theorem dX13_meets_8 : decode cX13_meets 8 = .ok (.if_icmp .ge 45, 3) := by decide +kernel
theorem dX13_meets_11 : decode cX13_meets 11 = .ok (.iload_n 2, 1) := by decide +kernel
theorem dX13_meets_12 : decode cX13_meets 12 = .ok (.aload_n 0, 1) := by decide +kernel
theorem dX13_meets_13 : decode cX13_meets 13 = .ok (.getfield 7, 3) := by decide +kernel
theorem dX13_meets_16 : decode cX13_meets 16 = .ok (.sipush 840, 3) := by decide +kernel
theorem dX13_meets_19 : decode cX13_meets 19 = .ok (.iload_n 3, 1) := by decide +kernel
theorem dX13_meets_20 : decode cX13_meets 20 = .ok (.iadd, 1) := by decide +kernel
theorem dX13_meets_21 : decode cX13_meets 21 = .ok (.iaload, 1) := by decide +kernel
theorem dX13_meets_22 : decode cX13_meets 22 = .ok (.iconst (-1), 1) := by decide +kernel
theorem dX13_meets_23 : decode cX13_meets 23 = .ok (.if_icmp .eq 21, 3) := by decide +kernel
theorem dX13_meets_26 : decode cX13_meets 26 = .ok (.aload_n 0, 1) := by decide +kernel
theorem dX13_meets_27 : decode cX13_meets 27 = .ok (.aload_n 0, 1) := by decide +kernel
theorem dX13_meets_28 : decode cX13_meets 28 = .ok (.getfield 13, 3) := by decide +kernel
theorem dX13_meets_31 : decode cX13_meets 31 = .ok (.iload_n 3, 1) := by decide +kernel
theorem dX13_meets_32 : decode cX13_meets 32 = .ok (.laload, 1) := by decide +kernel
theorem dX13_meets_33 : decode cX13_meets 33 = .ok (.invokevirtual 164, 3) := by decide +kernel
theorem dX13_meets_36 : decode cX13_meets 36 = .ok (.iload_n 1, 1) := by decide +kernel
theorem dX13_meets_37 : decode cX13_meets 37 = .ok (.if_icmp .ne 7, 3) := by decide +kernel
theorem dX13_meets_40 : decode cX13_meets 40 = .ok (.iconst 1, 1) := by decide +kernel
theorem dX13_meets_41 : decode cX13_meets 41 = .ok (.goto 4, 3) := by decide +kernel
theorem dX13_meets_44 : decode cX13_meets 44 = .ok (.iconst 0, 1) := by decide +kernel
theorem dX13_meets_45 : decode cX13_meets 45 = .ok (.iadd, 1) := by decide +kernel
theorem dX13_meets_46 : decode cX13_meets 46 = .ok (.istore_n 2, 1) := by decide +kernel
theorem dX13_meets_47 : decode cX13_meets 47 = .ok (.iinc 3 1, 3) := by decide +kernel
theorem dX13_meets_50 : decode cX13_meets 50 = .ok (.goto (-46), 3) := by decide +kernel
theorem dX13_meets_53 : decode cX13_meets 53 = .ok (.iload_n 2, 1) := by decide +kernel
theorem dX13_meets_54 : decode cX13_meets 54 = .ok (.ireturn, 1) := by decide +kernel
theorem dX13_room_0 : decode cX13_room 0 = .ok (.aload_n 0, 1) := by decide +kernel
theorem dX13_room_1 : decode cX13_room 1 = .ok (.iload_n 1, 1) := by decide +kernel
theorem dX13_room_2 : decode cX13_room 2 = .ok (.invokevirtual 167, 3) := by decide +kernel
theorem dX13_room_5 : decode cX13_room 5 = .ok (.iconst 0, 1) := by decide +kernel
theorem dX13_room_6 : decode cX13_room 6 = .ok (.istore_n 2, 1) := by decide +kernel
theorem dX13_room_7 : decode cX13_room 7 = .ok (.iconst 0, 1) := by decide +kernel
theorem dX13_room_8 : decode cX13_room 8 = .ok (.istore_n 3, 1) := by decide +kernel
theorem dX13_room_9 : decode cX13_room 9 = .ok (.iload_n 3, 1) := by decide +kernel
theorem dX13_room_10 : decode cX13_room 10 = .ok (.aload_n 0, 1) := by decide +kernel
theorem dX13_room_11 : decode cX13_room 11 = .ok (.getfield 140, 3) := by decide +kernel
theorem dX13_room_14 : decode cX13_room 14 = .ok (.if_icmp .ge 30, 3) := by decide +kernel
theorem dX13_room_17 : decode cX13_room 17 = .ok (.iload_n 2, 1) := by decide +kernel
theorem dX13_room_18 : decode cX13_room 18 = .ok (.bipush 6, 2) := by decide +kernel
theorem dX13_room_20 : decode cX13_room 20 = .ok (.aload_n 0, 1) := by decide +kernel
theorem dX13_room_21 : decode cX13_room 21 = .ok (.aload_n 0, 1) := by decide +kernel
theorem dX13_room_22 : decode cX13_room 22 = .ok (.getfield 58, 3) := by decide +kernel
theorem dX13_room_25 : decode cX13_room 25 = .ok (.aload_n 0, 1) := by decide +kernel
theorem dX13_room_26 : decode cX13_room 26 = .ok (.getfield 137, 3) := by decide +kernel
theorem dX13_room_29 : decode cX13_room 29 = .ok (.iload_n 3, 1) := by decide +kernel
theorem dX13_room_30 : decode cX13_room 30 = .ok (.iadd, 1) := by decide +kernel
theorem dX13_room_31 : decode cX13_room 31 = .ok (.iaload, 1) := by decide +kernel
theorem dX13_room_32 : decode cX13_room 32 = .ok (.invokevirtual 372, 3) := by decide +kernel
theorem dX13_room_35 : decode cX13_room 35 = .ok (.isub, 1) := by decide +kernel
theorem dX13_room_36 : decode cX13_room 36 = .ok (.iadd, 1) := by decide +kernel
theorem dX13_room_37 : decode cX13_room 37 = .ok (.istore_n 2, 1) := by decide +kernel
theorem dX13_room_38 : decode cX13_room 38 = .ok (.iinc 3 1, 3) := by decide +kernel
theorem dX13_room_41 : decode cX13_room 41 = .ok (.goto (-32), 3) := by decide +kernel
theorem dX13_room_44 : decode cX13_room 44 = .ok (.iload_n 2, 1) := by decide +kernel
theorem dX13_room_45 : decode cX13_room 45 = .ok (.ireturn, 1) := by decide +kernel
theorem dX13_needsOf_0 : decode cX13_needsOf 0 = .ok (.aload_n 0, 1) := by decide +kernel
theorem dX13_needsOf_1 : decode cX13_needsOf 1 = .ok (.lload_n 1, 1) := by decide +kernel
theorem dX13_needsOf_2 : decode cX13_needsOf 2 = .ok (.invokevirtual 226, 3) := by decide +kernel
theorem dX13_needsOf_5 : decode cX13_needsOf 5 = .ok (.ifCond .ne 10, 3) := by decide +kernel
theorem dX13_needsOf_8 : decode cX13_needsOf 8 = .ok (.aload_n 0, 1) := by decide +kernel
theorem dX13_needsOf_9 : decode cX13_needsOf 9 = .ok (.invokevirtual 156, 3) := by decide +kernel
theorem dX13_needsOf_12 : decode cX13_needsOf 12 = .ok (.ifCond .eq 5, 3) := by decide +kernel
theorem dX13_needsOf_15 : decode cX13_needsOf 15 = .ok (.iconst (-1), 1) := by decide +kernel
theorem dX13_needsOf_16 : decode cX13_needsOf 16 = .ok (.ireturn, 1) := by decide +kernel
theorem dX13_needsOf_17 : decode cX13_needsOf 17 = .ok (.aload_n 0, 1) := by decide +kernel
theorem dX13_needsOf_18 : decode cX13_needsOf 18 = .ok (.aload_n 0, 1) := by decide +kernel
theorem dX13_needsOf_19 : decode cX13_needsOf 19 = .ok (.lload_n 1, 1) := by decide +kernel
theorem dX13_needsOf_20 : decode cX13_needsOf 20 = .ok (.invokevirtual 164, 3) := by decide +kernel
theorem dX13_needsOf_23 : decode cX13_needsOf 23 = .ok (.invokevirtual 167, 3) := by decide +kernel
theorem dX13_needsOf_26 : decode cX13_needsOf 26 = .ok (.aload_n 0, 1) := by decide +kernel
theorem dX13_needsOf_27 : decode cX13_needsOf 27 = .ok (.invokevirtual 218, 3) := by decide +kernel
theorem dX13_needsOf_30 : decode cX13_needsOf 30 = .ok (.ireturn, 1) := by decide +kernel
theorem dX13_mate_0 : decode cX13_mate 0 = .ok (.aload_n 0, 1) := by decide +kernel
theorem dX13_mate_1 : decode cX13_mate 1 = .ok (.lload_n 1, 1) := by decide +kernel
theorem dX13_mate_2 : decode cX13_mate 2 = .ok (.invokevirtual 164, 3) := by decide +kernel
theorem dX13_mate_5 : decode cX13_mate 5 = .ok (.istore_n 3, 1) := by decide +kernel
theorem dX13_mate_6 : decode cX13_mate 6 = .ok (.iconst 0, 1) := by decide +kernel
theorem dX13_mate_7 : decode cX13_mate 7 = .ok (.istore 4, 2) := by decide +kernel
theorem dX13_mate_9 : decode cX13_mate 9 = .ok (.iload 4, 2) := by decide +kernel
theorem dX13_mate_11 : decode cX13_mate 11 = .ok (.sipush 676, 3) := by decide +kernel
theorem dX13_mate_14 : decode cX13_mate 14 = .ok (.if_icmp .ge 58, 3) := by decide +kernel
theorem dX13_mate_17 : decode cX13_mate 17 = .ok (.bipush 97, 2) := by decide +kernel
theorem dX13_mate_19 : decode cX13_mate 19 = .ok (.iload 4, 2) := by decide +kernel
theorem dX13_mate_21 : decode cX13_mate 21 = .ok (.bipush 26, 2) := by decide +kernel
theorem dX13_mate_23 : decode cX13_mate 23 = .ok (.idiv, 1) := by decide +kernel
theorem dX13_mate_24 : decode cX13_mate 24 = .ok (.iadd, 1) := by decide +kernel
theorem dX13_mate_25 : decode cX13_mate 25 = .ok (.i2l, 1) := by decide +kernel
theorem dX13_mate_26 : decode cX13_mate 26 = .ok (.bipush 56, 2) := by decide +kernel
theorem dX13_mate_28 : decode cX13_mate 28 = .ok (.lshl, 1) := by decide +kernel
theorem dX13_mate_29 : decode cX13_mate 29 = .ok (.bipush 97, 2) := by decide +kernel
theorem dX13_mate_31 : decode cX13_mate 31 = .ok (.iload 4, 2) := by decide +kernel
theorem dX13_mate_33 : decode cX13_mate 33 = .ok (.bipush 26, 2) := by decide +kernel
theorem dX13_mate_35 : decode cX13_mate 35 = .ok (.irem, 1) := by decide +kernel
theorem dX13_mate_36 : decode cX13_mate 36 = .ok (.iadd, 1) := by decide +kernel
theorem dX13_mate_37 : decode cX13_mate 37 = .ok (.i2l, 1) := by decide +kernel
theorem dX13_mate_38 : decode cX13_mate 38 = .ok (.bipush 48, 2) := by decide +kernel
theorem dX13_mate_40 : decode cX13_mate 40 = .ok (.lshl, 1) := by decide +kernel
theorem dX13_mate_41 : decode cX13_mate 41 = .ok (.lor, 1) := by decide +kernel
theorem dX13_mate_42 : decode cX13_mate 42 = .ok (.lstore 5, 2) := by decide +kernel
theorem dX13_mate_44 : decode cX13_mate 44 = .ok (.aload_n 0, 1) := by decide +kernel
theorem dX13_mate_45 : decode cX13_mate 45 = .ok (.lload 5, 2) := by decide +kernel
theorem dX13_mate_47 : decode cX13_mate 47 = .ok (.invokevirtual 164, 3) := by decide +kernel
theorem dX13_mate_50 : decode cX13_mate 50 = .ok (.iload_n 3, 1) := by decide +kernel
theorem dX13_mate_51 : decode cX13_mate 51 = .ok (.if_icmp .ne 15, 3) := by decide +kernel
theorem dX13_mate_54 : decode cX13_mate 54 = .ok (.aload_n 0, 1) := by decide +kernel
theorem dX13_mate_55 : decode cX13_mate 55 = .ok (.lload 5, 2) := by decide +kernel
theorem dX13_mate_57 : decode cX13_mate 57 = .ok (.invokevirtual 226, 3) := by decide +kernel
theorem dX13_mate_60 : decode cX13_mate 60 = .ok (.ifCond .ne 6, 3) := by decide +kernel
theorem dX13_mate_63 : decode cX13_mate 63 = .ok (.iload 4, 2) := by decide +kernel
theorem dX13_mate_65 : decode cX13_mate 65 = .ok (.ireturn, 1) := by decide +kernel
theorem dX13_mate_66 : decode cX13_mate 66 = .ok (.iinc 4 1, 3) := by decide +kernel
theorem dX13_mate_69 : decode cX13_mate 69 = .ok (.goto (-60), 3) := by decide +kernel
theorem dX13_mate_72 : decode cX13_mate 72 = .ok (.iconst (-1), 1) := by decide +kernel
theorem dX13_mate_73 : decode cX13_mate 73 = .ok (.ireturn, 1) := by decide +kernel
theorem dX13_find_0 : decode cX13_find 0 = .ok (.iload_n 1, 1) := by decide +kernel
theorem dX13_find_1 : decode cX13_find 1 = .ok (.iconst 0, 1) := by decide +kernel
theorem dX13_find_2 : decode cX13_find 2 = .ok (.bipush 8, 2) := by decide +kernel
theorem dX13_find_4 : decode cX13_find 4 = .ok (.invokestatic 263, 3) := by decide +kernel
theorem dX13_find_7 : decode cX13_find 7 = .ok (.ifCond .ne 15, 3) := by decide +kernel
theorem dX13_find_10 : decode cX13_find 10 = .ok (.aload_n 0, 1) := by decide +kernel
theorem dX13_find_11 : decode cX13_find 11 = .ok (.iconst 0, 1) := by decide +kernel
theorem dX13_find_12 : decode cX13_find 12 = .ok (.putfield 260, 3) := by decide +kernel
theorem dX13_find_15 : decode cX13_find 15 = .ok (.aload_n 0, 1) := by decide +kernel
theorem dX13_find_16 : decode cX13_find 16 = .ok (.iconst 1, 1) := by decide +kernel
theorem dX13_find_17 : decode cX13_find 17 = .ok (.putfield 79, 3) := by decide +kernel
theorem dX13_find_20 : decode cX13_find 20 = .ok (.iconst 0, 1) := by decide +kernel
theorem dX13_find_21 : decode cX13_find 21 = .ok (.ireturn, 1) := by decide +kernel
theorem dX13_find_22 : decode cX13_find 22 = .ok (.aload_n 0, 1) := by decide +kernel
theorem dX13_find_23 : decode cX13_find 23 = .ok (.iconst 0, 1) := by decide +kernel
theorem dX13_find_24 : decode cX13_find 24 = .ok (.invokevirtual 362, 3) := by decide +kernel
theorem dX13_find_27 : decode cX13_find 27 = .ok (.ifCond .ne 10, 3) := by decide +kernel
theorem dX13_find_30 : decode cX13_find 30 = .ok (.aload_n 0, 1) := by decide +kernel
theorem dX13_find_31 : decode cX13_find 31 = .ok (.iconst 2, 1) := by decide +kernel
theorem dX13_find_32 : decode cX13_find 32 = .ok (.putfield 79, 3) := by decide +kernel
theorem dX13_find_35 : decode cX13_find 35 = .ok (.iconst 0, 1) := by decide +kernel
theorem dX13_find_36 : decode cX13_find 36 = .ok (.ireturn, 1) := by decide +kernel
theorem dX13_find_37 : decode cX13_find 37 = .ok (.aload_n 0, 1) := by decide +kernel
theorem dX13_find_38 : decode cX13_find 38 = .ok (.aload_n 0, 1) := by decide +kernel
theorem dX13_find_39 : decode cX13_find 39 = .ok (.getfield 355, 3) := by decide +kernel
theorem dX13_find_42 : decode cX13_find 42 = .ok (.invokevirtual 226, 3) := by decide +kernel
theorem dX13_find_45 : decode cX13_find 45 = .ok (.istore_n 2, 1) := by decide +kernel
theorem dX13_find_46 : decode cX13_find 46 = .ok (.iload_n 1, 1) := by decide +kernel
theorem dX13_find_47 : decode cX13_find 47 = .ok (.tableswitch 133 0 7 #[45, 74, 79, 84, 89, 98, 111, 124], 45) := by decide +kernel
theorem dX13_find_92 : decode cX13_find 92 = .ok (.iload_n 2, 1) := by decide +kernel
theorem dX13_find_93 : decode cX13_find 93 = .ok (.ifCond .eq 26, 3) := by decide +kernel
theorem dX13_find_96 : decode cX13_find 96 = .ok (.aload_n 0, 1) := by decide +kernel
theorem dX13_find_97 : decode cX13_find 97 = .ok (.getfield 7, 3) := by decide +kernel
theorem dX13_find_100 : decode cX13_find 100 = .ok (.sipush 840, 3) := by decide +kernel
theorem dX13_find_103 : decode cX13_find 103 = .ok (.aload_n 0, 1) := by decide +kernel
theorem dX13_find_104 : decode cX13_find 104 = .ok (.getfield 150, 3) := by decide +kernel
theorem dX13_find_107 : decode cX13_find 107 = .ok (.aload_n 0, 1) := by decide +kernel
theorem dX13_find_108 : decode cX13_find 108 = .ok (.getfield 153, 3) := by decide +kernel
theorem dX13_find_111 : decode cX13_find 111 = .ok (.invokestatic 82, 3) := by decide +kernel
theorem dX13_find_114 : decode cX13_find 114 = .ok (.iadd, 1) := by decide +kernel
theorem dX13_find_115 : decode cX13_find 115 = .ok (.iaload, 1) := by decide +kernel
theorem dX13_find_116 : decode cX13_find 116 = .ok (.goto 4, 3) := by decide +kernel
theorem dX13_find_119 : decode cX13_find 119 = .ok (.iconst (-1), 1) := by decide +kernel
theorem dX13_find_120 : decode cX13_find 120 = .ok (.ireturn, 1) := by decide +kernel
theorem dX13_find_121 : decode cX13_find 121 = .ok (.aload_n 0, 1) := by decide +kernel
theorem dX13_find_122 : decode cX13_find 122 = .ok (.getfield 143, 3) := by decide +kernel
theorem dX13_find_125 : decode cX13_find 125 = .ok (.ireturn, 1) := by decide +kernel
theorem dX13_find_126 : decode cX13_find 126 = .ok (.aload_n 0, 1) := by decide +kernel
theorem dX13_find_127 : decode cX13_find 127 = .ok (.getfield 150, 3) := by decide +kernel
theorem dX13_find_130 : decode cX13_find 130 = .ok (.ireturn, 1) := by decide +kernel
theorem dX13_find_131 : decode cX13_find 131 = .ok (.aload_n 0, 1) := by decide +kernel
theorem dX13_find_132 : decode cX13_find 132 = .ok (.getfield 153, 3) := by decide +kernel
theorem dX13_find_135 : decode cX13_find 135 = .ok (.ireturn, 1) := by decide +kernel
theorem dX13_find_136 : decode cX13_find 136 = .ok (.aload_n 0, 1) := by decide +kernel
theorem dX13_find_137 : decode cX13_find 137 = .ok (.aload_n 0, 1) := by decide +kernel
theorem dX13_find_138 : decode cX13_find 138 = .ok (.getfield 355, 3) := by decide +kernel
theorem dX13_find_141 : decode cX13_find 141 = .ok (.invokevirtual 164, 3) := by decide +kernel
theorem dX13_find_144 : decode cX13_find 144 = .ok (.ireturn, 1) := by decide +kernel
theorem dX13_find_145 : decode cX13_find 145 = .ok (.aload_n 0, 1) := by decide +kernel
theorem dX13_find_146 : decode cX13_find 146 = .ok (.aload_n 0, 1) := by decide +kernel
theorem dX13_find_147 : decode cX13_find 147 = .ok (.aload_n 0, 1) := by decide +kernel
theorem dX13_find_148 : decode cX13_find 148 = .ok (.getfield 355, 3) := by decide +kernel
theorem dX13_find_151 : decode cX13_find 151 = .ok (.invokevirtual 164, 3) := by decide +kernel
theorem dX13_find_154 : decode cX13_find 154 = .ok (.invokevirtual 375, 3) := by decide +kernel
theorem dX13_find_157 : decode cX13_find 157 = .ok (.ireturn, 1) := by decide +kernel
theorem dX13_find_158 : decode cX13_find 158 = .ok (.aload_n 0, 1) := by decide +kernel
theorem dX13_find_159 : decode cX13_find 159 = .ok (.aload_n 0, 1) := by decide +kernel
theorem dX13_find_160 : decode cX13_find 160 = .ok (.aload_n 0, 1) := by decide +kernel
theorem dX13_find_161 : decode cX13_find 161 = .ok (.getfield 355, 3) := by decide +kernel
theorem dX13_find_164 : decode cX13_find 164 = .ok (.invokevirtual 164, 3) := by decide +kernel
theorem dX13_find_167 : decode cX13_find 167 = .ok (.invokevirtual 378, 3) := by decide +kernel
theorem dX13_find_170 : decode cX13_find 170 = .ok (.ireturn, 1) := by decide +kernel
theorem dX13_find_171 : decode cX13_find 171 = .ok (.aload_n 0, 1) := by decide +kernel
theorem dX13_find_172 : decode cX13_find 172 = .ok (.aload_n 0, 1) := by decide +kernel
theorem dX13_find_173 : decode cX13_find 173 = .ok (.getfield 355, 3) := by decide +kernel
theorem dX13_find_176 : decode cX13_find 176 = .ok (.invokevirtual 381, 3) := by decide +kernel
theorem dX13_find_179 : decode cX13_find 179 = .ok (.ireturn, 1) := by decide +kernel
theorem dX13_find_180 : decode cX13_find 180 = .ok (.aload_n 0, 1) := by decide +kernel
theorem dX13_find_181 : decode cX13_find 181 = .ok (.aload_n 0, 1) := by decide +kernel
theorem dX13_find_182 : decode cX13_find 182 = .ok (.getfield 355, 3) := by decide +kernel
theorem dX13_find_185 : decode cX13_find 185 = .ok (.invokevirtual 384, 3) := by decide +kernel
theorem dX13_find_188 : decode cX13_find 188 = .ok (.ireturn, 1) := by decide +kernel
theorem dX13_blockOn_0 : decode cX13_blockOn 0 = .ok (.iconst 0, 1) := by decide +kernel
theorem dX13_blockOn_1 : decode cX13_blockOn 1 = .ok (.istore_n 3, 1) := by decide +kernel
theorem dX13_blockOn_2 : decode cX13_blockOn 2 = .ok (.iconst 0, 1) := by decide +kernel
theorem dX13_blockOn_3 : decode cX13_blockOn 3 = .ok (.istore 4, 2) := by decide +kernel
theorem dX13_blockOn_5 : decode cX13_blockOn 5 = .ok (.iload 4, 2) := by decide +kernel
theorem dX13_blockOn_7 : decode cX13_blockOn 7 = .ok (.aload_n 0, 1) := by decide +kernel
theorem dX13_blockOn_8 : decode cX13_blockOn 8 = .ok (.getfield 7, 3) := by decide +kernel
theorem dX13_blockOn_11 : decode cX13_blockOn 11 = .ok (.sipush 1080, 3) := by decide +kernel
theorem dX13_blockOn_14 : decode cX13_blockOn 14 = .ok (.iaload, 1) := by decide +kernel
theorem dX13_blockOn_15 : decode cX13_blockOn 15 = .ok (.if_icmp .ge 34, 3) := by decide +kernel
theorem dX13_blockOn_18 : decode cX13_blockOn 18 = .ok (.iload 4, 2) := by decide +kernel
theorem dX13_blockOn_20 : decode cX13_blockOn 20 = .ok (.iload_n 2, 1) := by decide +kernel
theorem dX13_blockOn_21 : decode cX13_blockOn 21 = .ok (.if_icmp .ne 5, 3) := by decide +kernel
theorem dX13_blockOn_24 : decode cX13_blockOn 24 = .ok (.iload_n 3, 1) := by decide +kernel
theorem dX13_blockOn_25 : decode cX13_blockOn 25 = .ok (.ireturn, 1) := by decide +kernel
theorem dX13_blockOn_26 : decode cX13_blockOn 26 = .ok (.aload_n 0, 1) := by decide +kernel
theorem dX13_blockOn_27 : decode cX13_blockOn 27 = .ok (.getfield 7, 3) := by decide +kernel
theorem dX13_blockOn_30 : decode cX13_blockOn 30 = .ok (.iload_n 3, 1) := by decide +kernel
theorem dX13_blockOn_31 : decode cX13_blockOn 31 = .ok (.aload_n 0, 1) := by decide +kernel
theorem dX13_blockOn_32 : decode cX13_blockOn 32 = .ok (.iload_n 3, 1) := by decide +kernel
theorem dX13_blockOn_33 : decode cX13_blockOn 33 = .ok (.iload_n 1, 1) := by decide +kernel
theorem dX13_blockOn_34 : decode cX13_blockOn 34 = .ok (.invokevirtual 125, 3) := by decide +kernel
theorem dX13_blockOn_37 : decode cX13_blockOn 37 = .ok (.iconst 2, 1) := by decide +kernel
theorem dX13_blockOn_38 : decode cX13_blockOn 38 = .ok (.invokestatic 117, 3) := by decide +kernel
theorem dX13_blockOn_41 : decode cX13_blockOn 41 = .ok (.iaload, 1) := by decide +kernel
theorem dX13_blockOn_42 : decode cX13_blockOn 42 = .ok (.istore_n 3, 1) := by decide +kernel
theorem dX13_blockOn_43 : decode cX13_blockOn 43 = .ok (.iinc 4 1, 3) := by decide +kernel
theorem dX13_blockOn_46 : decode cX13_blockOn 46 = .ok (.goto (-41), 3) := by decide +kernel
theorem dX13_blockOn_49 : decode cX13_blockOn 49 = .ok (.aload_n 0, 1) := by decide +kernel
theorem dX13_blockOn_50 : decode cX13_blockOn 50 = .ok (.iload_n 1, 1) := by decide +kernel
theorem dX13_blockOn_51 : decode cX13_blockOn 51 = .ok (.invokevirtual 167, 3) := by decide +kernel
theorem dX13_blockOn_54 : decode cX13_blockOn 54 = .ok (.iload_n 2, 1) := by decide +kernel
theorem dX13_blockOn_55 : decode cX13_blockOn 55 = .ok (.aload_n 0, 1) := by decide +kernel
theorem dX13_blockOn_56 : decode cX13_blockOn 56 = .ok (.getfield 7, 3) := by decide +kernel
theorem dX13_blockOn_59 : decode cX13_blockOn 59 = .ok (.sipush 1080, 3) := by decide +kernel
theorem dX13_blockOn_62 : decode cX13_blockOn 62 = .ok (.iaload, 1) := by decide +kernel
theorem dX13_blockOn_63 : decode cX13_blockOn 63 = .ok (.isub, 1) := by decide +kernel
theorem dX13_blockOn_64 : decode cX13_blockOn 64 = .ok (.istore 4, 2) := by decide +kernel
theorem dX13_blockOn_66 : decode cX13_blockOn 66 = .ok (.iload 4, 2) := by decide +kernel
theorem dX13_blockOn_68 : decode cX13_blockOn 68 = .ok (.iconst 0, 1) := by decide +kernel
theorem dX13_blockOn_69 : decode cX13_blockOn 69 = .ok (.aload_n 0, 1) := by decide +kernel
theorem dX13_blockOn_70 : decode cX13_blockOn 70 = .ok (.getfield 140, 3) := by decide +kernel
theorem dX13_blockOn_73 : decode cX13_blockOn 73 = .ok (.iconst 1, 1) := by decide +kernel
theorem dX13_blockOn_74 : decode cX13_blockOn 74 = .ok (.isub, 1) := by decide +kernel
theorem dX13_blockOn_75 : decode cX13_blockOn 75 = .ok (.invokestatic 263, 3) := by decide +kernel
theorem dX13_blockOn_78 : decode cX13_blockOn 78 = .ok (.ifCond .eq 18, 3) := by decide +kernel
theorem dX13_blockOn_81 : decode cX13_blockOn 81 = .ok (.aload_n 0, 1) := by decide +kernel
theorem dX13_blockOn_82 : decode cX13_blockOn 82 = .ok (.getfield 58, 3) := by decide +kernel
theorem dX13_blockOn_85 : decode cX13_blockOn 85 = .ok (.aload_n 0, 1) := by decide +kernel
theorem dX13_blockOn_86 : decode cX13_blockOn 86 = .ok (.getfield 137, 3) := by decide +kernel
theorem dX13_blockOn_89 : decode cX13_blockOn 89 = .ok (.iload 4, 2) := by decide +kernel
theorem dX13_blockOn_91 : decode cX13_blockOn 91 = .ok (.iadd, 1) := by decide +kernel
theorem dX13_blockOn_92 : decode cX13_blockOn 92 = .ok (.iaload, 1) := by decide +kernel
theorem dX13_blockOn_93 : decode cX13_blockOn 93 = .ok (.goto 4, 3) := by decide +kernel
theorem dX13_blockOn_96 : decode cX13_blockOn 96 = .ok (.iconst (-1), 1) := by decide +kernel
theorem dX13_blockOn_97 : decode cX13_blockOn 97 = .ok (.ireturn, 1) := by decide +kernel
theorem dX13_way_0 : decode cX13_way 0 = .ok (.aload_n 0, 1) := by decide +kernel
theorem dX13_way_1 : decode cX13_way 1 = .ok (.iconst 0, 1) := by decide +kernel
theorem dX13_way_2 : decode cX13_way 2 = .ok (.invokevirtual 362, 3) := by decide +kernel
theorem dX13_way_5 : decode cX13_way 5 = .ok (.ifCond .ne 5, 3) := by decide +kernel
theorem dX13_way_8 : decode cX13_way 8 = .ok (.iconst 0, 1) := by decide +kernel
theorem dX13_way_9 : decode cX13_way 9 = .ok (.ireturn, 1) := by decide +kernel
theorem dX13_way_10 : decode cX13_way 10 = .ok (.iload_n 1, 1) := by decide +kernel
theorem dX13_way_11 : decode cX13_way 11 = .ok (.ifCond .ge 7, 3) := by decide +kernel
theorem dX13_way_14 : decode cX13_way 14 = .ok (.iconst (-1), 1) := by decide +kernel
theorem dX13_way_15 : decode cX13_way 15 = .ok (.goto 16, 3) := by decide +kernel
theorem dX13_way_18 : decode cX13_way 18 = .ok (.aload_n 0, 1) := by decide +kernel
theorem dX13_way_19 : decode cX13_way 19 = .ok (.aload_n 0, 1) := by decide +kernel
theorem dX13_way_20 : decode cX13_way 20 = .ok (.aload_n 0, 1) := by decide +kernel
theorem dX13_way_21 : decode cX13_way 21 = .ok (.getfield 355, 3) := by decide +kernel
theorem dX13_way_24 : decode cX13_way 24 = .ok (.invokevirtual 164, 3) := by decide +kernel
theorem dX13_way_27 : decode cX13_way 27 = .ok (.iload_n 1, 1) := by decide +kernel
theorem dX13_way_28 : decode cX13_way 28 = .ok (.invokevirtual 387, 3) := by decide +kernel
theorem dX13_way_31 : decode cX13_way 31 = .ok (.ireturn, 1) := by decide +kernel
theorem dX13_block_0 : decode cX13_block 0 = .ok (.aload_n 0, 1) := by decide +kernel
theorem dX13_block_1 : decode cX13_block 1 = .ok (.iload_n 1, 1) := by decide +kernel
theorem dX13_block_2 : decode cX13_block 2 = .ok (.invokestatic 369, 3) := by decide +kernel
theorem dX13_block_5 : decode cX13_block 5 = .ok (.ifCond .ne 7, 3) := by decide +kernel
theorem dX13_block_8 : decode cX13_block 8 = .ok (.iconst 1, 1) := by decide +kernel
theorem dX13_block_9 : decode cX13_block 9 = .ok (.goto 17, 3) := by decide +kernel
theorem dX13_block_12 : decode cX13_block 12 = .ok (.iload_n 2, 1) := by decide +kernel
theorem dX13_block_13 : decode cX13_block 13 = .ok (.iconst 0, 1) := by decide +kernel
theorem dX13_block_14 : decode cX13_block 14 = .ok (.iconst 2, 1) := by decide +kernel
theorem dX13_block_15 : decode cX13_block 15 = .ok (.invokestatic 263, 3) := by decide +kernel
theorem dX13_block_18 : decode cX13_block 18 = .ok (.ifCond .ne 7, 3) := by decide +kernel
theorem dX13_block_21 : decode cX13_block 21 = .ok (.iconst 2, 1) := by decide +kernel
theorem dX13_block_22 : decode cX13_block 22 = .ok (.goto 4, 3) := by decide +kernel
theorem dX13_block_25 : decode cX13_block 25 = .ok (.iconst 0, 1) := by decide +kernel
theorem dX13_block_26 : decode cX13_block 26 = .ok (.putfield 79, 3) := by decide +kernel
theorem dX13_block_29 : decode cX13_block 29 = .ok (.aload_n 0, 1) := by decide +kernel
theorem dX13_block_30 : decode cX13_block 30 = .ok (.getfield 79, 3) := by decide +kernel
theorem dX13_block_33 : decode cX13_block 33 = .ok (.ifCond .le 5, 3) := by decide +kernel
theorem dX13_block_36 : decode cX13_block 36 = .ok (.iconst 0, 1) := by decide +kernel
theorem dX13_block_37 : decode cX13_block 37 = .ok (.ireturn, 1) := by decide +kernel
theorem dX13_block_38 : decode cX13_block 38 = .ok (.iload_n 2, 1) := by decide +kernel
theorem dX13_block_39 : decode cX13_block 39 = .ok (.lookupswitch 78 #[(0, 25), (1, 34)], 25) := by decide +kernel
theorem dX13_block_64 : decode cX13_block 64 = .ok (.aload_n 0, 1) := by decide +kernel
theorem dX13_block_65 : decode cX13_block 65 = .ok (.getfield 7, 3) := by decide +kernel
theorem dX13_block_68 : decode cX13_block 68 = .ok (.iconst 0, 1) := by decide +kernel
theorem dX13_block_69 : decode cX13_block 69 = .ok (.iload_n 1, 1) := by decide +kernel
theorem dX13_block_70 : decode cX13_block 70 = .ok (.iadd, 1) := by decide +kernel
theorem dX13_block_71 : decode cX13_block 71 = .ok (.iaload, 1) := by decide +kernel
theorem dX13_block_72 : decode cX13_block 72 = .ok (.ireturn, 1) := by decide +kernel
theorem dX13_block_73 : decode cX13_block 73 = .ok (.aload_n 0, 1) := by decide +kernel
theorem dX13_block_74 : decode cX13_block 74 = .ok (.getfield 7, 3) := by decide +kernel
theorem dX13_block_77 : decode cX13_block 77 = .ok (.iconst 0, 1) := by decide +kernel
theorem dX13_block_78 : decode cX13_block 78 = .ok (.iload_n 1, 1) := by decide +kernel
theorem dX13_block_79 : decode cX13_block 79 = .ok (.iadd, 1) := by decide +kernel
theorem dX13_block_80 : decode cX13_block 80 = .ok (.iaload, 1) := by decide +kernel
theorem dX13_block_81 : decode cX13_block 81 = .ok (.iconst 1, 1) := by decide +kernel
theorem dX13_block_82 : decode cX13_block 82 = .ok (.if_icmp .ne 9, 3) := by decide +kernel
theorem dX13_block_85 : decode cX13_block 85 = .ok (.aload_n 0, 1) := by decide +kernel
theorem dX13_block_86 : decode cX13_block 86 = .ok (.iload_n 1, 1) := by decide +kernel
theorem dX13_block_87 : decode cX13_block 87 = .ok (.invokevirtual 372, 3) := by decide +kernel
theorem dX13_block_90 : decode cX13_block 90 = .ok (.ireturn, 1) := by decide +kernel
theorem dX13_block_91 : decode cX13_block 91 = .ok (.aload_n 0, 1) := by decide +kernel
theorem dX13_block_92 : decode cX13_block 92 = .ok (.getfield 7, 3) := by decide +kernel
theorem dX13_block_95 : decode cX13_block 95 = .ok (.iconst 0, 1) := by decide +kernel
theorem dX13_block_96 : decode cX13_block 96 = .ok (.iload_n 1, 1) := by decide +kernel
theorem dX13_block_97 : decode cX13_block 97 = .ok (.iadd, 1) := by decide +kernel
theorem dX13_block_98 : decode cX13_block 98 = .ok (.iaload, 1) := by decide +kernel
theorem dX13_block_99 : decode cX13_block 99 = .ok (.iconst 2, 1) := by decide +kernel
theorem dX13_block_100 : decode cX13_block 100 = .ok (.if_icmp .ne 15, 3) := by decide +kernel
theorem dX13_block_103 : decode cX13_block 103 = .ok (.aload_n 0, 1) := by decide +kernel
theorem dX13_block_104 : decode cX13_block 104 = .ok (.getfield 7, 3) := by decide +kernel
theorem dX13_block_107 : decode cX13_block 107 = .ok (.bipush 80, 2) := by decide +kernel
theorem dX13_block_109 : decode cX13_block 109 = .ok (.iload_n 1, 1) := by decide +kernel
theorem dX13_block_110 : decode cX13_block 110 = .ok (.iadd, 1) := by decide +kernel
theorem dX13_block_111 : decode cX13_block 111 = .ok (.iaload, 1) := by decide +kernel
theorem dX13_block_112 : decode cX13_block 112 = .ok (.goto 4, 3) := by decide +kernel
theorem dX13_block_115 : decode cX13_block 115 = .ok (.iconst 0, 1) := by decide +kernel
theorem dX13_block_116 : decode cX13_block 116 = .ok (.ireturn, 1) := by decide +kernel
theorem dX13_block_117 : decode cX13_block 117 = .ok (.aload_n 0, 1) := by decide +kernel
theorem dX13_block_118 : decode cX13_block 118 = .ok (.getfield 7, 3) := by decide +kernel
theorem dX13_block_121 : decode cX13_block 121 = .ok (.bipush 40, 2) := by decide +kernel
theorem dX13_block_123 : decode cX13_block 123 = .ok (.iload_n 1, 1) := by decide +kernel
theorem dX13_block_124 : decode cX13_block 124 = .ok (.iadd, 1) := by decide +kernel
theorem dX13_block_125 : decode cX13_block 125 = .ok (.iaload, 1) := by decide +kernel
theorem dX13_block_126 : decode cX13_block 126 = .ok (.ireturn, 1) := by decide +kernel
theorem dX13_hasEntry_0 : decode cX13_hasEntry 0 = .ok (.aload_n 0, 1) := by decide +kernel
theorem dX13_hasEntry_1 : decode cX13_hasEntry 1 = .ok (.getfield 7, 3) := by decide +kernel
theorem dX13_hasEntry_4 : decode cX13_hasEntry 4 = .ok (.iconst 0, 1) := by decide +kernel
theorem dX13_hasEntry_5 : decode cX13_hasEntry 5 = .ok (.iload_n 1, 1) := by decide +kernel
theorem dX13_hasEntry_6 : decode cX13_hasEntry 6 = .ok (.iadd, 1) := by decide +kernel
theorem dX13_hasEntry_7 : decode cX13_hasEntry 7 = .ok (.iaload, 1) := by decide +kernel
theorem dX13_hasEntry_8 : decode cX13_hasEntry 8 = .ok (.iconst 1, 1) := by decide +kernel
theorem dX13_hasEntry_9 : decode cX13_hasEntry 9 = .ok (.if_icmp .ne 16, 3) := by decide +kernel
theorem dX13_hasEntry_12 : decode cX13_hasEntry 12 = .ok (.aload_n 0, 1) := by decide +kernel
theorem dX13_hasEntry_13 : decode cX13_hasEntry 13 = .ok (.iload_n 1, 1) := by decide +kernel
theorem dX13_hasEntry_14 : decode cX13_hasEntry 14 = .ok (.iload_n 2, 1) := by decide +kernel
theorem dX13_hasEntry_15 : decode cX13_hasEntry 15 = .ok (.invokevirtual 86, 3) := by decide +kernel
theorem dX13_hasEntry_18 : decode cX13_hasEntry 18 = .ok (.ifCond .ne 7, 3) := by decide +kernel
theorem dX13_hasEntry_21 : decode cX13_hasEntry 21 = .ok (.iconst 1, 1) := by decide +kernel
theorem dX13_hasEntry_22 : decode cX13_hasEntry 22 = .ok (.goto 4, 3) := by decide +kernel
theorem dX13_hasEntry_25 : decode cX13_hasEntry 25 = .ok (.iconst 0, 1) := by decide +kernel
theorem dX13_hasEntry_26 : decode cX13_hasEntry 26 = .ok (.ireturn, 1) := by decide +kernel
theorem dX13_isPlace_0 : decode cX13_isPlace 0 = .ok (.iload_n 0, 1) := by decide +kernel
theorem dX13_isPlace_1 : decode cX13_isPlace 1 = .ok (.invokestatic 369, 3) := by decide +kernel
theorem dX13_isPlace_4 : decode cX13_isPlace 4 = .ok (.ifCond .eq 16, 3) := by decide +kernel
theorem dX13_isPlace_7 : decode cX13_isPlace 7 = .ok (.iload_n 1, 1) := by decide +kernel
theorem dX13_isPlace_8 : decode cX13_isPlace 8 = .ok (.iconst 0, 1) := by decide +kernel
theorem dX13_isPlace_9 : decode cX13_isPlace 9 = .ok (.iconst 5, 1) := by decide +kernel
theorem dX13_isPlace_10 : decode cX13_isPlace 10 = .ok (.invokestatic 263, 3) := by decide +kernel
theorem dX13_isPlace_13 : decode cX13_isPlace 13 = .ok (.ifCond .eq 7, 3) := by decide +kernel
theorem dX13_isPlace_16 : decode cX13_isPlace 16 = .ok (.iconst 1, 1) := by decide +kernel
theorem dX13_isPlace_17 : decode cX13_isPlace 17 = .ok (.goto 4, 3) := by decide +kernel
theorem dX13_isPlace_20 : decode cX13_isPlace 20 = .ok (.iconst 0, 1) := by decide +kernel
theorem dX13_isPlace_21 : decode cX13_isPlace 21 = .ok (.ireturn, 1) := by decide +kernel
theorem dX13_entry_0 : decode cX13_entry 0 = .ok (.aload_n 0, 1) := by decide +kernel
theorem dX13_entry_1 : decode cX13_entry 1 = .ok (.iload_n 1, 1) := by decide +kernel
theorem dX13_entry_2 : decode cX13_entry 2 = .ok (.iload_n 2, 1) := by decide +kernel
theorem dX13_entry_3 : decode cX13_entry 3 = .ok (.invokestatic 390, 3) := by decide +kernel
theorem dX13_entry_6 : decode cX13_entry 6 = .ok (.ifCond .ne 7, 3) := by decide +kernel
theorem dX13_entry_9 : decode cX13_entry 9 = .ok (.iconst 1, 1) := by decide +kernel
theorem dX13_entry_10 : decode cX13_entry 10 = .ok (.goto 17, 3) := by decide +kernel
theorem dX13_entry_13 : decode cX13_entry 13 = .ok (.iload_n 3, 1) := by decide +kernel
theorem dX13_entry_14 : decode cX13_entry 14 = .ok (.iconst 0, 1) := by decide +kernel
theorem dX13_entry_15 : decode cX13_entry 15 = .ok (.iconst 2, 1) := by decide +kernel
theorem dX13_entry_16 : decode cX13_entry 16 = .ok (.invokestatic 263, 3) := by decide +kernel
theorem dX13_entry_19 : decode cX13_entry 19 = .ok (.ifCond .ne 7, 3) := by decide +kernel
theorem dX13_entry_22 : decode cX13_entry 22 = .ok (.iconst 2, 1) := by decide +kernel
theorem dX13_entry_23 : decode cX13_entry 23 = .ok (.goto 4, 3) := by decide +kernel
theorem dX13_entry_26 : decode cX13_entry 26 = .ok (.iconst 0, 1) := by decide +kernel
theorem dX13_entry_27 : decode cX13_entry 27 = .ok (.putfield 79, 3) := by decide +kernel
theorem dX13_entry_30 : decode cX13_entry 30 = .ok (.aload_n 0, 1) := by decide +kernel
theorem dX13_entry_31 : decode cX13_entry 31 = .ok (.getfield 79, 3) := by decide +kernel
theorem dX13_entry_34 : decode cX13_entry 34 = .ok (.ifCond .le 5, 3) := by decide +kernel
theorem dX13_entry_37 : decode cX13_entry 37 = .ok (.iconst 0, 1) := by decide +kernel
theorem dX13_entry_38 : decode cX13_entry 38 = .ok (.ireturn, 1) := by decide +kernel
theorem dX13_entry_39 : decode cX13_entry 39 = .ok (.aload_n 0, 1) := by decide +kernel
theorem dX13_entry_40 : decode cX13_entry 40 = .ok (.iload_n 1, 1) := by decide +kernel
theorem dX13_entry_41 : decode cX13_entry 41 = .ok (.iload_n 2, 1) := by decide +kernel
theorem dX13_entry_42 : decode cX13_entry 42 = .ok (.invokevirtual 393, 3) := by decide +kernel
theorem dX13_entry_45 : decode cX13_entry 45 = .ok (.ifCond .ne 5, 3) := by decide +kernel
theorem dX13_entry_48 : decode cX13_entry 48 = .ok (.iconst (-1), 1) := by decide +kernel
theorem dX13_entry_49 : decode cX13_entry 49 = .ok (.ireturn, 1) := by decide +kernel
theorem dX13_entry_50 : decode cX13_entry 50 = .ok (.aload_n 0, 1) := by decide +kernel
theorem dX13_entry_51 : decode cX13_entry 51 = .ok (.getfield 13, 3) := by decide +kernel
theorem dX13_entry_54 : decode cX13_entry 54 = .ok (.iload_n 1, 1) := by decide +kernel
theorem dX13_entry_55 : decode cX13_entry 55 = .ok (.iload_n 2, 1) := by decide +kernel
theorem dX13_entry_56 : decode cX13_entry 56 = .ok (.invokestatic 82, 3) := by decide +kernel
theorem dX13_entry_59 : decode cX13_entry 59 = .ok (.laload, 1) := by decide +kernel
theorem dX13_entry_60 : decode cX13_entry 60 = .ok (.lstore 4, 2) := by decide +kernel
theorem dX13_entry_62 : decode cX13_entry 62 = .ok (.iload_n 3, 1) := by decide +kernel
theorem dX13_entry_63 : decode cX13_entry 63 = .ok (.lookupswitch 47 #[(0, 25), (1, 40)], 25) := by decide +kernel
theorem dX13_entry_88 : decode cX13_entry 88 = .ok (.aload_n 0, 1) := by decide +kernel
theorem dX13_entry_89 : decode cX13_entry 89 = .ok (.getfield 7, 3) := by decide +kernel
theorem dX13_entry_92 : decode cX13_entry 92 = .ok (.sipush 840, 3) := by decide +kernel
theorem dX13_entry_95 : decode cX13_entry 95 = .ok (.iload_n 1, 1) := by decide +kernel
theorem dX13_entry_96 : decode cX13_entry 96 = .ok (.iload_n 2, 1) := by decide +kernel
theorem dX13_entry_97 : decode cX13_entry 97 = .ok (.invokestatic 82, 3) := by decide +kernel
theorem dX13_entry_100 : decode cX13_entry 100 = .ok (.iadd, 1) := by decide +kernel
theorem dX13_entry_101 : decode cX13_entry 101 = .ok (.iaload, 1) := by decide +kernel
theorem dX13_entry_102 : decode cX13_entry 102 = .ok (.ireturn, 1) := by decide +kernel
theorem dX13_entry_103 : decode cX13_entry 103 = .ok (.aload_n 0, 1) := by decide +kernel
theorem dX13_entry_104 : decode cX13_entry 104 = .ok (.lload 4, 2) := by decide +kernel
theorem dX13_entry_106 : decode cX13_entry 106 = .ok (.invokevirtual 164, 3) := by decide +kernel
theorem dX13_entry_109 : decode cX13_entry 109 = .ok (.ireturn, 1) := by decide +kernel
theorem dX13_entry_110 : decode cX13_entry 110 = .ok (.lload 4, 2) := by decide +kernel
theorem dX13_entry_112 : decode cX13_entry 112 = .ok (.invokestatic 105, 3) := by decide +kernel
theorem dX13_entry_115 : decode cX13_entry 115 = .ok (.ireturn, 1) := by decide +kernel
theorem dX13_letter_0 : decode cX13_letter 0 = .ok (.aload_n 0, 1) := by decide +kernel
theorem dX13_letter_1 : decode cX13_letter 1 = .ok (.iload_n 1, 1) := by decide +kernel
theorem dX13_letter_2 : decode cX13_letter 2 = .ok (.iload_n 2, 1) := by decide +kernel
theorem dX13_letter_3 : decode cX13_letter 3 = .ok (.invokestatic 390, 3) := by decide +kernel
theorem dX13_letter_6 : decode cX13_letter 6 = .ok (.ifCond .eq 7, 3) := by decide +kernel
theorem dX13_letter_9 : decode cX13_letter 9 = .ok (.iconst 0, 1) := by decide +kernel
theorem dX13_letter_10 : decode cX13_letter 10 = .ok (.goto 4, 3) := by decide +kernel
theorem dX13_letter_13 : decode cX13_letter 13 = .ok (.iconst 1, 1) := by decide +kernel
theorem dX13_letter_14 : decode cX13_letter 14 = .ok (.putfield 79, 3) := by decide +kernel
theorem dX13_letter_17 : decode cX13_letter 17 = .ok (.aload_n 0, 1) := by decide +kernel
theorem dX13_letter_18 : decode cX13_letter 18 = .ok (.getfield 79, 3) := by decide +kernel
theorem dX13_letter_21 : decode cX13_letter 21 = .ok (.ifCond .gt 12, 3) := by decide +kernel
theorem dX13_letter_24 : decode cX13_letter 24 = .ok (.aload_n 0, 1) := by decide +kernel
theorem dX13_letter_25 : decode cX13_letter 25 = .ok (.iload_n 1, 1) := by decide +kernel
theorem dX13_letter_26 : decode cX13_letter 26 = .ok (.iload_n 2, 1) := by decide +kernel
theorem dX13_letter_27 : decode cX13_letter 27 = .ok (.invokevirtual 393, 3) := by decide +kernel
theorem dX13_letter_30 : decode cX13_letter 30 = .ok (.ifCond .ne 16, 3) := by decide +kernel
theorem dX13_letter_33 : decode cX13_letter 33 = .ok (.aload_n 0, 1) := by decide +kernel
theorem dX13_letter_34 : decode cX13_letter 34 = .ok (.getfield 79, 3) := by decide +kernel
theorem dX13_letter_37 : decode cX13_letter 37 = .ok (.ifCond .le 7, 3) := by decide +kernel
theorem dX13_letter_40 : decode cX13_letter 40 = .ok (.iconst 0, 1) := by decide +kernel
theorem dX13_letter_41 : decode cX13_letter 41 = .ok (.goto 4, 3) := by decide +kernel
theorem dX13_letter_44 : decode cX13_letter 44 = .ok (.iconst (-1), 1) := by decide +kernel
theorem dX13_letter_45 : decode cX13_letter 45 = .ok (.ireturn, 1) := by decide +kernel
theorem dX13_letter_46 : decode cX13_letter 46 = .ok (.aload_n 0, 1) := by decide +kernel
theorem dX13_letter_47 : decode cX13_letter 47 = .ok (.getfield 13, 3) := by decide +kernel
theorem dX13_letter_50 : decode cX13_letter 50 = .ok (.iload_n 1, 1) := by decide +kernel
theorem dX13_letter_51 : decode cX13_letter 51 = .ok (.iload_n 2, 1) := by decide +kernel
theorem dX13_letter_52 : decode cX13_letter 52 = .ok (.invokestatic 82, 3) := by decide +kernel
theorem dX13_letter_55 : decode cX13_letter 55 = .ok (.laload, 1) := by decide +kernel
theorem dX13_letter_56 : decode cX13_letter 56 = .ok (.lstore 4, 2) := by decide +kernel
theorem dX13_letter_58 : decode cX13_letter 58 = .ok (.iload_n 3, 1) := by decide +kernel
theorem dX13_letter_59 : decode cX13_letter 59 = .ok (.iconst 0, 1) := by decide +kernel
theorem dX13_letter_60 : decode cX13_letter 60 = .ok (.lload 4, 2) := by decide +kernel
theorem dX13_letter_62 : decode cX13_letter 62 = .ok (.invokestatic 105, 3) := by decide +kernel
theorem dX13_letter_65 : decode cX13_letter 65 = .ok (.iconst 1, 1) := by decide +kernel
theorem dX13_letter_66 : decode cX13_letter 66 = .ok (.isub, 1) := by decide +kernel
theorem dX13_letter_67 : decode cX13_letter 67 = .ok (.invokestatic 263, 3) := by decide +kernel
theorem dX13_letter_70 : decode cX13_letter 70 = .ok (.ifCond .eq 12, 3) := by decide +kernel
theorem dX13_letter_73 : decode cX13_letter 73 = .ok (.lload 4, 2) := by decide +kernel
theorem dX13_letter_75 : decode cX13_letter 75 = .ok (.iload_n 3, 1) := by decide +kernel
theorem dX13_letter_76 : decode cX13_letter 76 = .ok (.invokestatic 93, 3) := by decide +kernel
theorem dX13_letter_79 : decode cX13_letter 79 = .ok (.goto 4, 3) := by decide +kernel
theorem dX13_letter_82 : decode cX13_letter 82 = .ok (.iconst (-1), 1) := by decide +kernel
theorem dX13_letter_83 : decode cX13_letter 83 = .ok (.ireturn, 1) := by decide +kernel
theorem dX13_row_0 : decode cX13_row 0 = .ok (.aload_n 0, 1) := by decide +kernel
theorem dX13_row_1 : decode cX13_row 1 = .ok (.iload_n 1, 1) := by decide +kernel
theorem dX13_row_2 : decode cX13_row 2 = .ok (.invokestatic 369, 3) := by decide +kernel
theorem dX13_row_5 : decode cX13_row 5 = .ok (.ifCond .eq 34, 3) := by decide +kernel
theorem dX13_row_8 : decode cX13_row 8 = .ok (.aload_n 0, 1) := by decide +kernel
theorem dX13_row_9 : decode cX13_row 9 = .ok (.getfield 7, 3) := by decide +kernel
theorem dX13_row_12 : decode cX13_row 12 = .ok (.iconst 0, 1) := by decide +kernel
theorem dX13_row_13 : decode cX13_row 13 = .ok (.iload_n 1, 1) := by decide +kernel
theorem dX13_row_14 : decode cX13_row 14 = .ok (.iadd, 1) := by decide +kernel
theorem dX13_row_15 : decode cX13_row 15 = .ok (.iaload, 1) := by decide +kernel
theorem dX13_row_16 : decode cX13_row 16 = .ok (.iconst 2, 1) := by decide +kernel
theorem dX13_row_17 : decode cX13_row 17 = .ok (.if_icmp .ne 22, 3) := by decide +kernel
theorem dX13_row_20 : decode cX13_row 20 = .ok (.iload_n 2, 1) := by decide +kernel
theorem dX13_row_21 : decode cX13_row 21 = .ok (.iconst 0, 1) := by decide +kernel
theorem dX13_row_22 : decode cX13_row 22 = .ok (.aload_n 0, 1) := by decide +kernel
theorem dX13_row_23 : decode cX13_row 23 = .ok (.getfield 7, 3) := by decide +kernel
theorem dX13_row_26 : decode cX13_row 26 = .ok (.bipush 80, 2) := by decide +kernel
theorem dX13_row_28 : decode cX13_row 28 = .ok (.iload_n 1, 1) := by decide +kernel
theorem dX13_row_29 : decode cX13_row 29 = .ok (.iadd, 1) := by decide +kernel
theorem dX13_row_30 : decode cX13_row 30 = .ok (.iaload, 1) := by decide +kernel
theorem dX13_row_31 : decode cX13_row 31 = .ok (.iconst 1, 1) := by decide +kernel
theorem dX13_row_32 : decode cX13_row 32 = .ok (.isub, 1) := by decide +kernel
theorem dX13_row_33 : decode cX13_row 33 = .ok (.invokestatic 263, 3) := by decide +kernel
theorem dX13_row_36 : decode cX13_row 36 = .ok (.ifCond .ne 7, 3) := by decide +kernel
theorem dX13_row_39 : decode cX13_row 39 = .ok (.iconst 1, 1) := by decide +kernel
theorem dX13_row_40 : decode cX13_row 40 = .ok (.goto 17, 3) := by decide +kernel
theorem dX13_row_43 : decode cX13_row 43 = .ok (.iload_n 3, 1) := by decide +kernel
theorem dX13_row_44 : decode cX13_row 44 = .ok (.iconst 0, 1) := by decide +kernel
theorem dX13_row_45 : decode cX13_row 45 = .ok (.iconst 2, 1) := by decide +kernel
theorem dX13_row_46 : decode cX13_row 46 = .ok (.invokestatic 263, 3) := by decide +kernel
theorem dX13_row_49 : decode cX13_row 49 = .ok (.ifCond .ne 7, 3) := by decide +kernel
theorem dX13_row_52 : decode cX13_row 52 = .ok (.iconst 2, 1) := by decide +kernel
theorem dX13_row_53 : decode cX13_row 53 = .ok (.goto 4, 3) := by decide +kernel
theorem dX13_row_56 : decode cX13_row 56 = .ok (.iconst 0, 1) := by decide +kernel
theorem dX13_row_57 : decode cX13_row 57 = .ok (.putfield 79, 3) := by decide +kernel
theorem dX13_row_60 : decode cX13_row 60 = .ok (.aload_n 0, 1) := by decide +kernel
theorem dX13_row_61 : decode cX13_row 61 = .ok (.getfield 79, 3) := by decide +kernel
theorem dX13_row_64 : decode cX13_row 64 = .ok (.ifCond .le 7, 3) := by decide +kernel
theorem dX13_row_67 : decode cX13_row 67 = .ok (.iconst 0, 1) := by decide +kernel
theorem dX13_row_68 : decode cX13_row 68 = .ok (.goto 14, 3) := by decide +kernel
theorem dX13_row_71 : decode cX13_row 71 = .ok (.aload_n 0, 1) := by decide +kernel
theorem dX13_row_72 : decode cX13_row 72 = .ok (.getfield 7, 3) := by decide +kernel
theorem dX13_row_75 : decode cX13_row 75 = .ok (.iload_n 1, 1) := by decide +kernel
theorem dX13_row_76 : decode cX13_row 76 = .ok (.iload_n 2, 1) := by decide +kernel
theorem dX13_row_77 : decode cX13_row 77 = .ok (.iload_n 3, 1) := by decide +kernel
theorem dX13_row_78 : decode cX13_row 78 = .ok (.invokestatic 117, 3) := by decide +kernel
theorem dX13_row_81 : decode cX13_row 81 = .ok (.iaload, 1) := by decide +kernel
theorem dX13_row_82 : decode cX13_row 82 = .ok (.ireturn, 1) := by decide +kernel
theorem dX13_leaf_0 : decode cX13_leaf 0 = .ok (.aload_n 0, 1) := by decide +kernel
theorem dX13_leaf_1 : decode cX13_leaf 1 = .ok (.iconst 0, 1) := by decide +kernel
theorem dX13_leaf_2 : decode cX13_leaf 2 = .ok (.putfield 79, 3) := by decide +kernel
theorem dX13_leaf_5 : decode cX13_leaf 5 = .ok (.aload_n 0, 1) := by decide +kernel
theorem dX13_leaf_6 : decode cX13_leaf 6 = .ok (.invokevirtual 128, 3) := by decide +kernel
theorem dX13_leaf_9 : decode cX13_leaf 9 = .ok (.iload_n 1, 1) := by decide +kernel
theorem dX13_leaf_10 : decode cX13_leaf 10 = .ok (.iconst 0, 1) := by decide +kernel
theorem dX13_leaf_11 : decode cX13_leaf 11 = .ok (.aload_n 0, 1) := by decide +kernel
theorem dX13_leaf_12 : decode cX13_leaf 12 = .ok (.getfield 114, 3) := by decide +kernel
theorem dX13_leaf_15 : decode cX13_leaf 15 = .ok (.iconst 1, 1) := by decide +kernel
theorem dX13_leaf_16 : decode cX13_leaf 16 = .ok (.isub, 1) := by decide +kernel
theorem dX13_leaf_17 : decode cX13_leaf 17 = .ok (.invokestatic 263, 3) := by decide +kernel
theorem dX13_leaf_20 : decode cX13_leaf 20 = .ok (.ifCond .eq 12, 3) := by decide +kernel
theorem dX13_leaf_23 : decode cX13_leaf 23 = .ok (.aload_n 0, 1) := by decide +kernel
theorem dX13_leaf_24 : decode cX13_leaf 24 = .ok (.getfield 58, 3) := by decide +kernel
theorem dX13_leaf_27 : decode cX13_leaf 27 = .ok (.iload_n 1, 1) := by decide +kernel
theorem dX13_leaf_28 : decode cX13_leaf 28 = .ok (.iaload, 1) := by decide +kernel
theorem dX13_leaf_29 : decode cX13_leaf 29 = .ok (.goto 4, 3) := by decide +kernel
theorem dX13_leaf_32 : decode cX13_leaf 32 = .ok (.iconst (-1), 1) := by decide +kernel
theorem dX13_leaf_33 : decode cX13_leaf 33 = .ok (.ireturn, 1) := by decide +kernel
theorem dX13_crowdBy_0 : decode cX13_crowdBy 0 = .ok (.aload_n 0, 1) := by decide +kernel
theorem dX13_crowdBy_1 : decode cX13_crowdBy 1 = .ok (.aload_n 0, 1) := by decide +kernel
theorem dX13_crowdBy_2 : decode cX13_crowdBy 2 = .ok (.getfield 7, 3) := by decide +kernel
theorem dX13_crowdBy_5 : decode cX13_crowdBy 5 = .ok (.sipush 1081, 3) := by decide +kernel
theorem dX13_crowdBy_8 : decode cX13_crowdBy 8 = .ok (.iaload, 1) := by decide +kernel
theorem dX13_crowdBy_9 : decode cX13_crowdBy 9 = .ok (.iload_n 1, 1) := by decide +kernel
theorem dX13_crowdBy_10 : decode cX13_crowdBy 10 = .ok (.aload_n 0, 1) := by decide +kernel
theorem dX13_crowdBy_11 : decode cX13_crowdBy 11 = .ok (.getfield 7, 3) := by decide +kernel
theorem dX13_crowdBy_14 : decode cX13_crowdBy 14 = .ok (.sipush 1083, 3) := by decide +kernel
theorem dX13_crowdBy_17 : decode cX13_crowdBy 17 = .ok (.iaload, 1) := by decide +kernel
theorem dX13_crowdBy_18 : decode cX13_crowdBy 18 = .ok (.invokevirtual 233, 3) := by decide +kernel
theorem dX13_crowdBy_21 : decode cX13_crowdBy 21 = .ok (.iconst 0, 1) := by decide +kernel
theorem dX13_crowdBy_22 : decode cX13_crowdBy 22 = .ok (.istore_n 2, 1) := by decide +kernel
theorem dX13_crowdBy_23 : decode cX13_crowdBy 23 = .ok (.iconst 0, 1) := by decide +kernel
theorem dX13_crowdBy_24 : decode cX13_crowdBy 24 = .ok (.istore_n 3, 1) := by decide +kernel
theorem dX13_crowdBy_25 : decode cX13_crowdBy 25 = .ok (.iconst 0, 1) := by decide +kernel
theorem dX13_crowdBy_26 : decode cX13_crowdBy 26 = .ok (.istore 4, 2) := by decide +kernel
theorem dX13_crowdBy_28 : decode cX13_crowdBy 28 = .ok (.iload 4, 2) := by decide +kernel
theorem dX13_crowdBy_30 : decode cX13_crowdBy 30 = .ok (.aload_n 0, 1) := by decide +kernel
theorem dX13_crowdBy_31 : decode cX13_crowdBy 31 = .ok (.getfield 188, 3) := by decide +kernel
theorem dX13_crowdBy_34 : decode cX13_crowdBy 34 = .ok (.if_icmp .ge 47, 3) := by decide +kernel
theorem dX13_crowdBy_37 : decode cX13_crowdBy 37 = .ok (.iload 4, 2) := by decide +kernel
theorem dX13_crowdBy_39 : decode cX13_crowdBy 39 = .ok (.ifCond .le 28, 3) := by decide +kernel
theorem dX13_crowdBy_42 : decode cX13_crowdBy 42 = .ok (.aload_n 0, 1) := by decide +kernel
theorem dX13_crowdBy_43 : decode cX13_crowdBy 43 = .ok (.getfield 73, 3) := by decide +kernel
theorem dX13_crowdBy_46 : decode cX13_crowdBy 46 = .ok (.iload 4, 2) := by decide +kernel
theorem dX13_crowdBy_48 : decode cX13_crowdBy 48 = .ok (.iaload, 1) := by decide +kernel
theorem dX13_crowdBy_49 : decode cX13_crowdBy 49 = .ok (.aload_n 0, 1) := by decide +kernel
theorem dX13_crowdBy_50 : decode cX13_crowdBy 50 = .ok (.getfield 73, 3) := by decide +kernel
theorem dX13_crowdBy_53 : decode cX13_crowdBy 53 = .ok (.iload 4, 2) := by decide +kernel
theorem dX13_crowdBy_55 : decode cX13_crowdBy 55 = .ok (.iconst 1, 1) := by decide +kernel
theorem dX13_crowdBy_56 : decode cX13_crowdBy 56 = .ok (.isub, 1) := by decide +kernel
theorem dX13_crowdBy_57 : decode cX13_crowdBy 57 = .ok (.iaload, 1) := by decide +kernel
theorem dX13_crowdBy_58 : decode cX13_crowdBy 58 = .ok (.if_icmp .ne 9, 3) := by decide +kernel
theorem dX13_crowdBy_61 : decode cX13_crowdBy 61 = .ok (.iload_n 3, 1) := by decide +kernel
theorem dX13_crowdBy_62 : decode cX13_crowdBy 62 = .ok (.iconst 1, 1) := by decide +kernel
theorem dX13_crowdBy_63 : decode cX13_crowdBy 63 = .ok (.iadd, 1) := by decide +kernel
theorem dX13_crowdBy_64 : decode cX13_crowdBy 64 = .ok (.goto 4, 3) := by decide +kernel
theorem dX13_crowdBy_67 : decode cX13_crowdBy 67 = .ok (.iconst 1, 1) := by decide +kernel
theorem dX13_crowdBy_68 : decode cX13_crowdBy 68 = .ok (.istore_n 3, 1) := by decide +kernel
theorem dX13_crowdBy_69 : decode cX13_crowdBy 69 = .ok (.iload_n 2, 1) := by decide +kernel
theorem dX13_crowdBy_70 : decode cX13_crowdBy 70 = .ok (.iload_n 3, 1) := by decide +kernel
theorem dX13_crowdBy_71 : decode cX13_crowdBy 71 = .ok (.invokestatic 396, 3) := by decide +kernel
theorem dX13_crowdBy_74 : decode cX13_crowdBy 74 = .ok (.istore_n 2, 1) := by decide +kernel
theorem dX13_crowdBy_75 : decode cX13_crowdBy 75 = .ok (.iinc 4 1, 3) := by decide +kernel
theorem dX13_crowdBy_78 : decode cX13_crowdBy 78 = .ok (.goto (-50), 3) := by decide +kernel
theorem dX13_crowdBy_81 : decode cX13_crowdBy 81 = .ok (.iload_n 2, 1) := by decide +kernel
theorem dX13_crowdBy_82 : decode cX13_crowdBy 82 = .ok (.ireturn, 1) := by decide +kernel
theorem dX13_chain_0 : decode cX13_chain 0 = .ok (.iconst 0, 1) := by decide +kernel
theorem dX13_chain_1 : decode cX13_chain 1 = .ok (.istore_n 1, 1) := by decide +kernel
theorem dX13_chain_2 : decode cX13_chain 2 = .ok (.iconst 0, 1) := by decide +kernel
theorem dX13_chain_3 : decode cX13_chain 3 = .ok (.istore_n 2, 1) := by decide +kernel
theorem dX13_chain_4 : decode cX13_chain 4 = .ok (.iload_n 2, 1) := by decide +kernel
theorem dX13_chain_5 : decode cX13_chain 5 = .ok (.sipush 240, 3) := by decide +kernel
theorem dX13_chain_8 : decode cX13_chain 8 = .ok (.if_icmp .ge 49, 3) := by decide +kernel
theorem dX13_chain_11 : decode cX13_chain 11 = .ok (.aload_n 0, 1) := by decide +kernel
theorem dX13_chain_12 : decode cX13_chain 12 = .ok (.getfield 7, 3) := by decide +kernel
theorem dX13_chain_15 : decode cX13_chain 15 = .ok (.sipush 840, 3) := by decide +kernel
theorem dX13_chain_18 : decode cX13_chain 18 = .ok (.iload_n 2, 1) := by decide +kernel
theorem dX13_chain_19 : decode cX13_chain 19 = .ok (.iadd, 1) := by decide +kernel
theorem dX13_chain_20 : decode cX13_chain 20 = .ok (.iaload, 1) := by decide +kernel
theorem dX13_chain_21 : decode cX13_chain 21 = .ok (.iconst (-1), 1) := by decide +kernel
theorem dX13_chain_22 : decode cX13_chain 22 = .ok (.if_icmp .ne 6, 3) := by decide +kernel
theorem dX13_chain_25 : decode cX13_chain 25 = .ok (.goto 26, 3) := by decide +kernel
theorem dX13_chain_28 : decode cX13_chain 28 = .ok (.aload_n 0, 1) := by decide +kernel
theorem dX13_chain_29 : decode cX13_chain 29 = .ok (.aload_n 0, 1) := by decide +kernel
theorem dX13_chain_30 : decode cX13_chain 30 = .ok (.aload_n 0, 1) := by decide +kernel
theorem dX13_chain_31 : decode cX13_chain 31 = .ok (.getfield 13, 3) := by decide +kernel
theorem dX13_chain_34 : decode cX13_chain 34 = .ok (.iload_n 2, 1) := by decide +kernel
theorem dX13_chain_35 : decode cX13_chain 35 = .ok (.laload, 1) := by decide +kernel
theorem dX13_chain_36 : decode cX13_chain 36 = .ok (.invokevirtual 164, 3) := by decide +kernel
theorem dX13_chain_39 : decode cX13_chain 39 = .ok (.invokevirtual 167, 3) := by decide +kernel
theorem dX13_chain_42 : decode cX13_chain 42 = .ok (.iload_n 1, 1) := by decide +kernel
theorem dX13_chain_43 : decode cX13_chain 43 = .ok (.aload_n 0, 1) := by decide +kernel
theorem dX13_chain_44 : decode cX13_chain 44 = .ok (.getfield 140, 3) := by decide +kernel
theorem dX13_chain_47 : decode cX13_chain 47 = .ok (.invokestatic 396, 3) := by decide +kernel
theorem dX13_chain_50 : decode cX13_chain 50 = .ok (.istore_n 1, 1) := by decide +kernel
theorem dX13_chain_51 : decode cX13_chain 51 = .ok (.iinc 2 1, 3) := by decide +kernel
theorem dX13_chain_54 : decode cX13_chain 54 = .ok (.goto (-50), 3) := by decide +kernel
theorem dX13_chain_57 : decode cX13_chain 57 = .ok (.iload_n 1, 1) := by decide +kernel
theorem dX13_chain_58 : decode cX13_chain 58 = .ok (.ireturn, 1) := by decide +kernel
theorem dX13_leafBy_0 : decode cX13_leafBy 0 = .ok (.aload_n 0, 1) := by decide +kernel
theorem dX13_leafBy_1 : decode cX13_leafBy 1 = .ok (.invokevirtual 128, 3) := by decide +kernel
theorem dX13_leafBy_4 : decode cX13_leafBy 4 = .ok (.iconst 0, 1) := by decide +kernel
theorem dX13_leafBy_5 : decode cX13_leafBy 5 = .ok (.istore_n 2, 1) := by decide +kernel
theorem dX13_leafBy_6 : decode cX13_leafBy 6 = .ok (.iconst 1, 1) := by decide +kernel
theorem dX13_leafBy_7 : decode cX13_leafBy 7 = .ok (.istore_n 3, 1) := by decide +kernel
theorem dX13_leafBy_8 : decode cX13_leafBy 8 = .ok (.iload_n 3, 1) := by decide +kernel
theorem dX13_leafBy_9 : decode cX13_leafBy 9 = .ok (.aload_n 0, 1) := by decide +kernel
theorem dX13_leafBy_10 : decode cX13_leafBy 10 = .ok (.getfield 114, 3) := by decide +kernel
theorem dX13_leafBy_13 : decode cX13_leafBy 13 = .ok (.if_icmp .ge 51, 3) := by decide +kernel
theorem dX13_leafBy_16 : decode cX13_leafBy 16 = .ok (.aload_n 0, 1) := by decide +kernel
theorem dX13_leafBy_17 : decode cX13_leafBy 17 = .ok (.aload_n 0, 1) := by decide +kernel
theorem dX13_leafBy_18 : decode cX13_leafBy 18 = .ok (.getfield 58, 3) := by decide +kernel
theorem dX13_leafBy_21 : decode cX13_leafBy 21 = .ok (.iload_n 3, 1) := by decide +kernel
theorem dX13_leafBy_22 : decode cX13_leafBy 22 = .ok (.iaload, 1) := by decide +kernel
theorem dX13_leafBy_23 : decode cX13_leafBy 23 = .ok (.invokevirtual 372, 3) := by decide +kernel
theorem dX13_leafBy_26 : decode cX13_leafBy 26 = .ok (.aload_n 0, 1) := by decide +kernel
theorem dX13_leafBy_27 : decode cX13_leafBy 27 = .ok (.aload_n 0, 1) := by decide +kernel
theorem dX13_leafBy_28 : decode cX13_leafBy 28 = .ok (.getfield 58, 3) := by decide +kernel
theorem dX13_leafBy_31 : decode cX13_leafBy 31 = .ok (.iload_n 2, 1) := by decide +kernel
theorem dX13_leafBy_32 : decode cX13_leafBy 32 = .ok (.iaload, 1) := by decide +kernel
theorem dX13_leafBy_33 : decode cX13_leafBy 33 = .ok (.invokevirtual 372, 3) := by decide +kernel
theorem dX13_leafBy_36 : decode cX13_leafBy 36 = .ok (.isub, 1) := by decide +kernel
theorem dX13_leafBy_37 : decode cX13_leafBy 37 = .ok (.istore 4, 2) := by decide +kernel
theorem dX13_leafBy_39 : decode cX13_leafBy 39 = .ok (.iload_n 1, 1) := by decide +kernel
theorem dX13_leafBy_40 : decode cX13_leafBy 40 = .ok (.ifCond .eq 11, 3) := by decide +kernel
theorem dX13_leafBy_43 : decode cX13_leafBy 43 = .ok (.iload 4, 2) := by decide +kernel
theorem dX13_leafBy_45 : decode cX13_leafBy 45 = .ok (.ifCond .le 13, 3) := by decide +kernel
theorem dX13_leafBy_48 : decode cX13_leafBy 48 = .ok (.goto 8, 3) := by decide +kernel
theorem dX13_leafBy_51 : decode cX13_leafBy 51 = .ok (.iload 4, 2) := by decide +kernel
theorem dX13_leafBy_53 : decode cX13_leafBy 53 = .ok (.ifCond .ge 5, 3) := by decide +kernel
theorem dX13_leafBy_56 : decode cX13_leafBy 56 = .ok (.iload_n 3, 1) := by decide +kernel
theorem dX13_leafBy_57 : decode cX13_leafBy 57 = .ok (.istore_n 2, 1) := by decide +kernel
theorem dX13_leafBy_58 : decode cX13_leafBy 58 = .ok (.iinc 3 1, 3) := by decide +kernel
theorem dX13_leafBy_61 : decode cX13_leafBy 61 = .ok (.goto (-53), 3) := by decide +kernel
theorem dX13_leafBy_64 : decode cX13_leafBy 64 = .ok (.iload_n 2, 1) := by decide +kernel
theorem dX13_leafBy_65 : decode cX13_leafBy 65 = .ok (.ireturn, 1) := by decide +kernel
theorem dX13_strays_0 : decode cX13_strays 0 = .ok (.iconst 0, 1) := by decide +kernel
theorem dX13_strays_1 : decode cX13_strays 1 = .ok (.istore_n 1, 1) := by decide +kernel
theorem dX13_strays_2 : decode cX13_strays 2 = .ok (.iconst 0, 1) := by decide +kernel
theorem dX13_strays_3 : decode cX13_strays 3 = .ok (.istore_n 2, 1) := by decide +kernel
theorem dX13_strays_4 : decode cX13_strays 4 = .ok (.iload_n 2, 1) := by decide +kernel
theorem dX13_strays_5 : decode cX13_strays 5 = .ok (.bipush 40, 2) := by decide +kernel
theorem dX13_strays_7 : decode cX13_strays 7 = .ok (.if_icmp .ge 65, 3) := by decide +kernel
theorem dX13_strays_10 : decode cX13_strays 10 = .ok (.iconst 0, 1) := by decide +kernel
theorem dX13_strays_11 : decode cX13_strays 11 = .ok (.istore_n 3, 1) := by decide +kernel
theorem dX13_strays_12 : decode cX13_strays 12 = .ok (.iload_n 3, 1) := by decide +kernel
theorem dX13_strays_13 : decode cX13_strays 13 = .ok (.bipush 6, 2) := by decide +kernel
theorem dX13_strays_15 : decode cX13_strays 15 = .ok (.if_icmp .ge 51, 3) := by decide +kernel
theorem dX13_strays_18 : decode cX13_strays 18 = .ok (.aload_n 0, 1) := by decide +kernel
theorem dX13_strays_19 : decode cX13_strays 19 = .ok (.iload_n 2, 1) := by decide +kernel
theorem dX13_strays_20 : decode cX13_strays 20 = .ok (.iload_n 3, 1) := by decide +kernel
theorem dX13_strays_21 : decode cX13_strays 21 = .ok (.invokevirtual 86, 3) := by decide +kernel
theorem dX13_strays_24 : decode cX13_strays 24 = .ok (.ifCond .eq 6, 3) := by decide +kernel
theorem dX13_strays_27 : decode cX13_strays 27 = .ok (.goto 33, 3) := by decide +kernel
theorem dX13_strays_30 : decode cX13_strays 30 = .ok (.iload_n 1, 1) := by decide +kernel
theorem dX13_strays_31 : decode cX13_strays 31 = .ok (.aload_n 0, 1) := by decide +kernel
theorem dX13_strays_32 : decode cX13_strays 32 = .ok (.aload_n 0, 1) := by decide +kernel
theorem dX13_strays_33 : decode cX13_strays 33 = .ok (.aload_n 0, 1) := by decide +kernel
theorem dX13_strays_34 : decode cX13_strays 34 = .ok (.getfield 13, 3) := by decide +kernel
theorem dX13_strays_37 : decode cX13_strays 37 = .ok (.iload_n 2, 1) := by decide +kernel
theorem dX13_strays_38 : decode cX13_strays 38 = .ok (.iload_n 3, 1) := by decide +kernel
theorem dX13_strays_39 : decode cX13_strays 39 = .ok (.invokestatic 82, 3) := by decide +kernel
theorem dX13_strays_42 : decode cX13_strays 42 = .ok (.laload, 1) := by decide +kernel
theorem dX13_strays_43 : decode cX13_strays 43 = .ok (.invokevirtual 164, 3) := by decide +kernel
theorem dX13_strays_46 : decode cX13_strays 46 = .ok (.invokevirtual 131, 3) := by decide +kernel
theorem dX13_strays_49 : decode cX13_strays 49 = .ok (.iload_n 2, 1) := by decide +kernel
theorem dX13_strays_50 : decode cX13_strays 50 = .ok (.if_icmp .ne 7, 3) := by decide +kernel
theorem dX13_strays_53 : decode cX13_strays 53 = .ok (.iconst 0, 1) := by decide +kernel
theorem dX13_strays_54 : decode cX13_strays 54 = .ok (.goto 4, 3) := by decide +kernel
theorem dX13_strays_57 : decode cX13_strays 57 = .ok (.iconst 1, 1) := by decide +kernel
theorem dX13_strays_58 : decode cX13_strays 58 = .ok (.iadd, 1) := by decide +kernel
theorem dX13_strays_59 : decode cX13_strays 59 = .ok (.istore_n 1, 1) := by decide +kernel
theorem dX13_strays_60 : decode cX13_strays 60 = .ok (.iinc 3 1, 3) := by decide +kernel
theorem dX13_strays_63 : decode cX13_strays 63 = .ok (.goto (-51), 3) := by decide +kernel
theorem dX13_strays_66 : decode cX13_strays 66 = .ok (.iinc 2 1, 3) := by decide +kernel
theorem dX13_strays_69 : decode cX13_strays 69 = .ok (.goto (-65), 3) := by decide +kernel
theorem dX13_strays_72 : decode cX13_strays 72 = .ok (.iload_n 1, 1) := by decide +kernel
theorem dX13_strays_73 : decode cX13_strays 73 = .ok (.ireturn, 1) := by decide +kernel
theorem dX13_fullest_0 : decode cX13_fullest 0 = .ok (.iconst (-1), 1) := by decide +kernel
theorem dX13_fullest_1 : decode cX13_fullest 1 = .ok (.istore_n 1, 1) := by decide +kernel
theorem dX13_fullest_2 : decode cX13_fullest 2 = .ok (.iconst 0, 1) := by decide +kernel
theorem dX13_fullest_3 : decode cX13_fullest 3 = .ok (.istore_n 2, 1) := by decide +kernel
theorem dX13_fullest_4 : decode cX13_fullest 4 = .ok (.iload_n 2, 1) := by decide +kernel
theorem dX13_fullest_5 : decode cX13_fullest 5 = .ok (.bipush 40, 2) := by decide +kernel
theorem dX13_fullest_7 : decode cX13_fullest 7 = .ok (.if_icmp .ge 52, 3) := by decide +kernel
theorem dX13_fullest_10 : decode cX13_fullest 10 = .ok (.aload_n 0, 1) := by decide +kernel
theorem dX13_fullest_11 : decode cX13_fullest 11 = .ok (.getfield 7, 3) := by decide +kernel
theorem dX13_fullest_14 : decode cX13_fullest 14 = .ok (.iconst 0, 1) := by decide +kernel
theorem dX13_fullest_15 : decode cX13_fullest 15 = .ok (.iload_n 2, 1) := by decide +kernel
theorem dX13_fullest_16 : decode cX13_fullest 16 = .ok (.iadd, 1) := by decide +kernel
theorem dX13_fullest_17 : decode cX13_fullest 17 = .ok (.iaload, 1) := by decide +kernel
theorem dX13_fullest_18 : decode cX13_fullest 18 = .ok (.iconst 2, 1) := by decide +kernel
theorem dX13_fullest_19 : decode cX13_fullest 19 = .ok (.if_icmp .eq 6, 3) := by decide +kernel
theorem dX13_fullest_22 : decode cX13_fullest 22 = .ok (.goto 31, 3) := by decide +kernel
theorem dX13_fullest_25 : decode cX13_fullest 25 = .ok (.iload_n 1, 1) := by decide +kernel
theorem dX13_fullest_26 : decode cX13_fullest 26 = .ok (.iconst (-1), 1) := by decide +kernel
theorem dX13_fullest_27 : decode cX13_fullest 27 = .ok (.if_icmp .eq 24, 3) := by decide +kernel
theorem dX13_fullest_30 : decode cX13_fullest 30 = .ok (.aload_n 0, 1) := by decide +kernel
theorem dX13_fullest_31 : decode cX13_fullest 31 = .ok (.getfield 7, 3) := by decide +kernel
theorem dX13_fullest_34 : decode cX13_fullest 34 = .ok (.bipush 80, 2) := by decide +kernel
theorem dX13_fullest_36 : decode cX13_fullest 36 = .ok (.iload_n 2, 1) := by decide +kernel
theorem dX13_fullest_37 : decode cX13_fullest 37 = .ok (.iadd, 1) := by decide +kernel
theorem dX13_fullest_38 : decode cX13_fullest 38 = .ok (.iaload, 1) := by decide +kernel
theorem dX13_fullest_39 : decode cX13_fullest 39 = .ok (.aload_n 0, 1) := by decide +kernel
theorem dX13_fullest_40 : decode cX13_fullest 40 = .ok (.getfield 7, 3) := by decide +kernel
theorem dX13_fullest_43 : decode cX13_fullest 43 = .ok (.bipush 80, 2) := by decide +kernel
theorem dX13_fullest_45 : decode cX13_fullest 45 = .ok (.iload_n 1, 1) := by decide +kernel
theorem dX13_fullest_46 : decode cX13_fullest 46 = .ok (.iadd, 1) := by decide +kernel
theorem dX13_fullest_47 : decode cX13_fullest 47 = .ok (.iaload, 1) := by decide +kernel
theorem dX13_fullest_48 : decode cX13_fullest 48 = .ok (.if_icmp .le 5, 3) := by decide +kernel
theorem dX13_fullest_51 : decode cX13_fullest 51 = .ok (.iload_n 2, 1) := by decide +kernel
theorem dX13_fullest_52 : decode cX13_fullest 52 = .ok (.istore_n 1, 1) := by decide +kernel
theorem dX13_fullest_53 : decode cX13_fullest 53 = .ok (.iinc 2 1, 3) := by decide +kernel
theorem dX13_fullest_56 : decode cX13_fullest 56 = .ok (.goto (-52), 3) := by decide +kernel
theorem dX13_fullest_59 : decode cX13_fullest 59 = .ok (.iload_n 1, 1) := by decide +kernel
theorem dX13_fullest_60 : decode cX13_fullest 60 = .ok (.ireturn, 1) := by decide +kernel
theorem dX13_empty_0 : decode cX13_empty 0 = .ok (.iconst 0, 1) := by decide +kernel
theorem dX13_empty_1 : decode cX13_empty 1 = .ok (.istore_n 1, 1) := by decide +kernel
theorem dX13_empty_2 : decode cX13_empty 2 = .ok (.iload_n 1, 1) := by decide +kernel
theorem dX13_empty_3 : decode cX13_empty 3 = .ok (.iconst 1, 1) := by decide +kernel
theorem dX13_empty_4 : decode cX13_empty 4 = .ok (.aload_n 0, 1) := by decide +kernel
theorem dX13_empty_5 : decode cX13_empty 5 = .ok (.getfield 7, 3) := by decide +kernel
theorem dX13_empty_8 : decode cX13_empty 8 = .ok (.sipush 1081, 3) := by decide +kernel
theorem dX13_empty_11 : decode cX13_empty 11 = .ok (.iaload, 1) := by decide +kernel
theorem dX13_empty_12 : decode cX13_empty 12 = .ok (.ishl, 1) := by decide +kernel
theorem dX13_empty_13 : decode cX13_empty 13 = .ok (.if_icmp .ge 17, 3) := by decide +kernel
theorem dX13_empty_16 : decode cX13_empty 16 = .ok (.aload_n 0, 1) := by decide +kernel
theorem dX13_empty_17 : decode cX13_empty 17 = .ok (.iload_n 1, 1) := by decide +kernel
theorem dX13_empty_18 : decode cX13_empty 18 = .ok (.invokevirtual 375, 3) := by decide +kernel
theorem dX13_empty_21 : decode cX13_empty 21 = .ok (.ifCond .le 9, 3) := by decide +kernel
theorem dX13_empty_24 : decode cX13_empty 24 = .ok (.iinc 1 1, 3) := by decide +kernel
theorem dX13_empty_27 : decode cX13_empty 27 = .ok (.goto (-25), 3) := by decide +kernel
theorem dX13_empty_30 : decode cX13_empty 30 = .ok (.iload_n 1, 1) := by decide +kernel
theorem dX13_empty_31 : decode cX13_empty 31 = .ok (.iconst 1, 1) := by decide +kernel
theorem dX13_empty_32 : decode cX13_empty 32 = .ok (.aload_n 0, 1) := by decide +kernel
theorem dX13_empty_33 : decode cX13_empty 33 = .ok (.getfield 7, 3) := by decide +kernel
theorem dX13_empty_36 : decode cX13_empty 36 = .ok (.sipush 1081, 3) := by decide +kernel
theorem dX13_empty_39 : decode cX13_empty 39 = .ok (.iaload, 1) := by decide +kernel
theorem dX13_empty_40 : decode cX13_empty 40 = .ok (.ishl, 1) := by decide +kernel
theorem dX13_empty_41 : decode cX13_empty 41 = .ok (.if_icmp .ge 7, 3) := by decide +kernel
theorem dX13_empty_44 : decode cX13_empty 44 = .ok (.iload_n 1, 1) := by decide +kernel
theorem dX13_empty_45 : decode cX13_empty 45 = .ok (.goto 4, 3) := by decide +kernel
theorem dX13_empty_48 : decode cX13_empty 48 = .ok (.iconst (-1), 1) := by decide +kernel
theorem dX13_empty_49 : decode cX13_empty 49 = .ok (.ireturn, 1) := by decide +kernel
theorem dX13_shape_0 : decode cX13_shape 0 = .ok (.aload_n 0, 1) := by decide +kernel
theorem dX13_shape_1 : decode cX13_shape 1 = .ok (.iload_n 1, 1) := by decide +kernel
theorem dX13_shape_2 : decode cX13_shape 2 = .ok (.iconst 0, 1) := by decide +kernel
theorem dX13_shape_3 : decode cX13_shape 3 = .ok (.bipush 8, 2) := by decide +kernel
theorem dX13_shape_5 : decode cX13_shape 5 = .ok (.invokestatic 263, 3) := by decide +kernel
theorem dX13_shape_8 : decode cX13_shape 8 = .ok (.ifCond .eq 7, 3) := by decide +kernel
theorem dX13_shape_11 : decode cX13_shape 11 = .ok (.iconst 0, 1) := by decide +kernel
theorem dX13_shape_12 : decode cX13_shape 12 = .ok (.goto 4, 3) := by decide +kernel
theorem dX13_shape_15 : decode cX13_shape 15 = .ok (.iconst 1, 1) := by decide +kernel
theorem dX13_shape_16 : decode cX13_shape 16 = .ok (.putfield 79, 3) := by decide +kernel
theorem dX13_shape_19 : decode cX13_shape 19 = .ok (.aload_n 0, 1) := by decide +kernel
theorem dX13_shape_20 : decode cX13_shape 20 = .ok (.getfield 79, 3) := by decide +kernel
theorem dX13_shape_23 : decode cX13_shape 23 = .ok (.ifCond .le 5, 3) := by decide +kernel
theorem dX13_shape_26 : decode cX13_shape 26 = .ok (.iconst 0, 1) := by decide +kernel
theorem dX13_shape_27 : decode cX13_shape 27 = .ok (.ireturn, 1) := by decide +kernel
theorem dX13_shape_28 : decode cX13_shape 28 = .ok (.iload_n 1, 1) := by decide +kernel
theorem dX13_shape_29 : decode cX13_shape 29 = .ok (.tableswitch 119 0 7 #[47, 60, 65, 73, 88, 103, 109, 114], 47) := by decide +kernel
theorem dX13_shape_76 : decode cX13_shape 76 = .ok (.aload_n 0, 1) := by decide +kernel
theorem dX13_shape_77 : decode cX13_shape 77 = .ok (.aload_n 0, 1) := by decide +kernel
theorem dX13_shape_78 : decode cX13_shape 78 = .ok (.getfield 7, 3) := by decide +kernel
theorem dX13_shape_81 : decode cX13_shape 81 = .ok (.sipush 1082, 3) := by decide +kernel
theorem dX13_shape_84 : decode cX13_shape 84 = .ok (.iaload, 1) := by decide +kernel
theorem dX13_shape_85 : decode cX13_shape 85 = .ok (.invokevirtual 399, 3) := by decide +kernel
theorem dX13_shape_88 : decode cX13_shape 88 = .ok (.ireturn, 1) := by decide +kernel
theorem dX13_shape_89 : decode cX13_shape 89 = .ok (.aload_n 0, 1) := by decide +kernel
theorem dX13_shape_90 : decode cX13_shape 90 = .ok (.invokevirtual 402, 3) := by decide +kernel
theorem dX13_shape_93 : decode cX13_shape 93 = .ok (.ireturn, 1) := by decide +kernel
theorem dX13_shape_94 : decode cX13_shape 94 = .ok (.aload_n 0, 1) := by decide +kernel
theorem dX13_shape_95 : decode cX13_shape 95 = .ok (.invokevirtual 405, 3) := by decide +kernel
theorem dX13_shape_98 : decode cX13_shape 98 = .ok (.invokestatic 236, 3) := by decide +kernel
theorem dX13_shape_101 : decode cX13_shape 101 = .ok (.ireturn, 1) := by decide +kernel
theorem dX13_shape_102 : decode cX13_shape 102 = .ok (.aload_n 0, 1) := by decide +kernel
theorem dX13_shape_103 : decode cX13_shape 103 = .ok (.aload_n 0, 1) := by decide +kernel
theorem dX13_shape_104 : decode cX13_shape 104 = .ok (.getfield 58, 3) := by decide +kernel
theorem dX13_shape_107 : decode cX13_shape 107 = .ok (.aload_n 0, 1) := by decide +kernel
theorem dX13_shape_108 : decode cX13_shape 108 = .ok (.iconst 0, 1) := by decide +kernel
theorem dX13_shape_109 : decode cX13_shape 109 = .ok (.invokevirtual 408, 3) := by decide +kernel
theorem dX13_shape_112 : decode cX13_shape 112 = .ok (.iaload, 1) := by decide +kernel
theorem dX13_shape_113 : decode cX13_shape 113 = .ok (.invokevirtual 372, 3) := by decide +kernel
theorem dX13_shape_116 : decode cX13_shape 116 = .ok (.ireturn, 1) := by decide +kernel
theorem dX13_shape_117 : decode cX13_shape 117 = .ok (.aload_n 0, 1) := by decide +kernel
theorem dX13_shape_118 : decode cX13_shape 118 = .ok (.aload_n 0, 1) := by decide +kernel
theorem dX13_shape_119 : decode cX13_shape 119 = .ok (.getfield 58, 3) := by decide +kernel
theorem dX13_shape_122 : decode cX13_shape 122 = .ok (.aload_n 0, 1) := by decide +kernel
theorem dX13_shape_123 : decode cX13_shape 123 = .ok (.iconst 1, 1) := by decide +kernel
theorem dX13_shape_124 : decode cX13_shape 124 = .ok (.invokevirtual 408, 3) := by decide +kernel
theorem dX13_shape_127 : decode cX13_shape 127 = .ok (.iaload, 1) := by decide +kernel
theorem dX13_shape_128 : decode cX13_shape 128 = .ok (.invokevirtual 372, 3) := by decide +kernel
theorem dX13_shape_131 : decode cX13_shape 131 = .ok (.ireturn, 1) := by decide +kernel
theorem dX13_shape_132 : decode cX13_shape 132 = .ok (.aload_n 0, 1) := by decide +kernel
theorem dX13_shape_133 : decode cX13_shape 133 = .ok (.iconst 1, 1) := by decide +kernel
theorem dX13_shape_134 : decode cX13_shape 134 = .ok (.invokevirtual 408, 3) := by decide +kernel
theorem dX13_shape_137 : decode cX13_shape 137 = .ok (.ireturn, 1) := by decide +kernel
theorem dX13_shape_138 : decode cX13_shape 138 = .ok (.aload_n 0, 1) := by decide +kernel
theorem dX13_shape_139 : decode cX13_shape 139 = .ok (.invokevirtual 412, 3) := by decide +kernel
theorem dX13_shape_142 : decode cX13_shape 142 = .ok (.ireturn, 1) := by decide +kernel
theorem dX13_shape_143 : decode cX13_shape 143 = .ok (.aload_n 0, 1) := by decide +kernel
theorem dX13_shape_144 : decode cX13_shape 144 = .ok (.invokevirtual 415, 3) := by decide +kernel
theorem dX13_shape_147 : decode cX13_shape 147 = .ok (.ireturn, 1) := by decide +kernel
theorem dX13_shape_148 : decode cX13_shape 148 = .ok (.aload_n 0, 1) := by decide +kernel
theorem dX13_shape_149 : decode cX13_shape 149 = .ok (.invokevirtual 418, 3) := by decide +kernel
theorem dX13_shape_152 : decode cX13_shape 152 = .ok (.ireturn, 1) := by decide +kernel
theorem dX13_crowds_0 : decode cX13_crowds 0 = .ok (.aload_n 0, 1) := by decide +kernel
theorem dX13_crowds_1 : decode cX13_crowds 1 = .ok (.iload_n 1, 1) := by decide +kernel
theorem dX13_crowds_2 : decode cX13_crowds 2 = .ok (.iconst 0, 1) := by decide +kernel
theorem dX13_crowds_3 : decode cX13_crowds 3 = .ok (.ldc 109, 2) := by decide +kernel
theorem dX13_crowds_5 : decode cX13_crowds 5 = .ok (.invokestatic 263, 3) := by decide +kernel
theorem dX13_crowds_8 : decode cX13_crowds 8 = .ok (.ifCond .eq 7, 3) := by decide +kernel
theorem dX13_crowds_11 : decode cX13_crowds 11 = .ok (.iconst 0, 1) := by decide +kernel
theorem dX13_crowds_12 : decode cX13_crowds 12 = .ok (.goto 4, 3) := by decide +kernel
theorem dX13_crowds_15 : decode cX13_crowds 15 = .ok (.iconst 1, 1) := by decide +kernel
theorem dX13_crowds_16 : decode cX13_crowds 16 = .ok (.putfield 79, 3) := by decide +kernel
theorem dX13_crowds_19 : decode cX13_crowds 19 = .ok (.aload_n 0, 1) := by decide +kernel
theorem dX13_crowds_20 : decode cX13_crowds 20 = .ok (.getfield 79, 3) := by decide +kernel
theorem dX13_crowds_23 : decode cX13_crowds 23 = .ok (.ifCond .le 7, 3) := by decide +kernel
theorem dX13_crowds_26 : decode cX13_crowds 26 = .ok (.iconst 0, 1) := by decide +kernel
theorem dX13_crowds_27 : decode cX13_crowds 27 = .ok (.goto 8, 3) := by decide +kernel
theorem dX13_crowds_30 : decode cX13_crowds 30 = .ok (.aload_n 0, 1) := by decide +kernel
theorem dX13_crowds_31 : decode cX13_crowds 31 = .ok (.iload_n 1, 1) := by decide +kernel
theorem dX13_crowds_32 : decode cX13_crowds 32 = .ok (.invokevirtual 399, 3) := by decide +kernel
theorem dX13_crowds_35 : decode cX13_crowds 35 = .ok (.ireturn, 1) := by decide +kernel
theorem dX13_best_0 : decode cX13_best 0 = .ok (.aload_n 0, 1) := by decide +kernel
theorem dX13_best_1 : decode cX13_best 1 = .ok (.iload_n 1, 1) := by decide +kernel
theorem dX13_best_2 : decode cX13_best 2 = .ok (.iconst 0, 1) := by decide +kernel
theorem dX13_best_3 : decode cX13_best 3 = .ok (.ldc 109, 2) := by decide +kernel
theorem dX13_best_5 : decode cX13_best 5 = .ok (.invokestatic 263, 3) := by decide +kernel
theorem dX13_best_8 : decode cX13_best 8 = .ok (.ifCond .eq 17, 3) := by decide +kernel
theorem dX13_best_11 : decode cX13_best 11 = .ok (.iload_n 2, 1) := by decide +kernel
theorem dX13_best_12 : decode cX13_best 12 = .ok (.iconst 1, 1) := by decide +kernel
theorem dX13_best_13 : decode cX13_best 13 = .ok (.bipush 20, 2) := by decide +kernel
theorem dX13_best_15 : decode cX13_best 15 = .ok (.invokestatic 263, 3) := by decide +kernel
theorem dX13_best_18 : decode cX13_best 18 = .ok (.ifCond .eq 7, 3) := by decide +kernel
theorem dX13_best_21 : decode cX13_best 21 = .ok (.iconst 0, 1) := by decide +kernel
theorem dX13_best_22 : decode cX13_best 22 = .ok (.goto 4, 3) := by decide +kernel
theorem dX13_best_25 : decode cX13_best 25 = .ok (.iconst 1, 1) := by decide +kernel
theorem dX13_best_26 : decode cX13_best 26 = .ok (.putfield 79, 3) := by decide +kernel
theorem dX13_best_29 : decode cX13_best 29 = .ok (.aload_n 0, 1) := by decide +kernel
theorem dX13_best_30 : decode cX13_best 30 = .ok (.getfield 79, 3) := by decide +kernel
theorem dX13_best_33 : decode cX13_best 33 = .ok (.ifCond .le 5, 3) := by decide +kernel
theorem dX13_best_36 : decode cX13_best 36 = .ok (.iconst 0, 1) := by decide +kernel
theorem dX13_best_37 : decode cX13_best 37 = .ok (.ireturn, 1) := by decide +kernel
theorem dX13_best_38 : decode cX13_best 38 = .ok (.iconst (-1), 1) := by decide +kernel
theorem dX13_best_39 : decode cX13_best 39 = .ok (.istore_n 3, 1) := by decide +kernel
theorem dX13_best_40 : decode cX13_best 40 = .ok (.iconst 0, 1) := by decide +kernel
theorem dX13_best_41 : decode cX13_best 41 = .ok (.istore 4, 2) := by decide +kernel
theorem dX13_best_43 : decode cX13_best 43 = .ok (.iload_n 1, 1) := by decide +kernel
theorem dX13_best_44 : decode cX13_best 44 = .ok (.istore 5, 2) := by decide +kernel
theorem dX13_best_46 : decode cX13_best 46 = .ok (.iload 5, 2) := by decide +kernel
theorem dX13_best_48 : decode cX13_best 48 = .ok (.iload_n 1, 1) := by decide +kernel
theorem dX13_best_49 : decode cX13_best 49 = .ok (.iload_n 2, 1) := by decide +kernel
theorem dX13_best_50 : decode cX13_best 50 = .ok (.iadd, 1) := by decide +kernel
theorem dX13_best_51 : decode cX13_best 51 = .ok (.if_icmp .ge 46, 3) := by decide +kernel
theorem dX13_best_54 : decode cX13_best 54 = .ok (.iload 5, 2) := by decide +kernel
theorem dX13_best_56 : decode cX13_best 56 = .ok (.ldc 109, 2) := by decide +kernel
theorem dX13_best_58 : decode cX13_best 58 = .ok (.if_icmp .gt 39, 3) := by decide +kernel
theorem dX13_best_61 : decode cX13_best 61 = .ok (.aload_n 0, 1) := by decide +kernel
theorem dX13_best_62 : decode cX13_best 62 = .ok (.iload 5, 2) := by decide +kernel
theorem dX13_best_64 : decode cX13_best 64 = .ok (.invokevirtual 399, 3) := by decide +kernel
theorem dX13_best_67 : decode cX13_best 67 = .ok (.istore 6, 2) := by decide +kernel
theorem dX13_best_69 : decode cX13_best 69 = .ok (.iload_n 3, 1) := by decide +kernel
theorem dX13_best_70 : decode cX13_best 70 = .ok (.iconst (-1), 1) := by decide +kernel
theorem dX13_best_71 : decode cX13_best 71 = .ok (.if_icmp .eq 13, 3) := by decide +kernel
theorem dX13_best_74 : decode cX13_best 74 = .ok (.iload 6, 2) := by decide +kernel
theorem dX13_best_76 : decode cX13_best 76 = .ok (.iload 4, 2) := by decide +kernel
theorem dX13_best_78 : decode cX13_best 78 = .ok (.if_icmp .lt 6, 3) := by decide +kernel
theorem dX13_best_81 : decode cX13_best 81 = .ok (.goto 10, 3) := by decide +kernel
theorem dX13_best_84 : decode cX13_best 84 = .ok (.iload 5, 2) := by decide +kernel
theorem dX13_best_86 : decode cX13_best 86 = .ok (.istore_n 3, 1) := by decide +kernel
theorem dX13_best_87 : decode cX13_best 87 = .ok (.iload 6, 2) := by decide +kernel
theorem dX13_best_89 : decode cX13_best 89 = .ok (.istore 4, 2) := by decide +kernel
theorem dX13_best_91 : decode cX13_best 91 = .ok (.iinc 5 1, 3) := by decide +kernel
theorem dX13_best_94 : decode cX13_best 94 = .ok (.goto (-48), 3) := by decide +kernel
theorem dX13_best_97 : decode cX13_best 97 = .ok (.iload_n 3, 1) := by decide +kernel
theorem dX13_best_98 : decode cX13_best 98 = .ok (.ireturn, 1) := by decide +kernel
theorem dX13_isReader_0 : decode cX13_isReader 0 = .ok (.iload_n 0, 1) := by decide +kernel
theorem dX13_isReader_1 : decode cX13_isReader 1 = .ok (.iconst 0, 1) := by decide +kernel
theorem dX13_isReader_2 : decode cX13_isReader 2 = .ok (.iconst 3, 1) := by decide +kernel
theorem dX13_isReader_3 : decode cX13_isReader 3 = .ok (.invokestatic 263, 3) := by decide +kernel
theorem dX13_isReader_6 : decode cX13_isReader 6 = .ok (.ireturn, 1) := by decide +kernel
theorem dX13_open_0 : decode cX13_open 0 = .ok (.aload_n 0, 1) := by decide +kernel
theorem dX13_open_1 : decode cX13_open 1 = .ok (.iload_n 1, 1) := by decide +kernel
theorem dX13_open_2 : decode cX13_open 2 = .ok (.invokestatic 421, 3) := by decide +kernel
theorem dX13_open_5 : decode cX13_open 5 = .ok (.ifCond .eq 7, 3) := by decide +kernel
theorem dX13_open_8 : decode cX13_open 8 = .ok (.iconst 0, 1) := by decide +kernel
theorem dX13_open_9 : decode cX13_open 9 = .ok (.goto 4, 3) := by decide +kernel
theorem dX13_open_12 : decode cX13_open 12 = .ok (.iconst 1, 1) := by decide +kernel
theorem dX13_open_13 : decode cX13_open 13 = .ok (.putfield 79, 3) := by decide +kernel
theorem dX13_open_16 : decode cX13_open 16 = .ok (.aload_n 0, 1) := by decide +kernel
theorem dX13_open_17 : decode cX13_open 17 = .ok (.getfield 79, 3) := by decide +kernel
theorem dX13_open_20 : decode cX13_open 20 = .ok (.ifCond .le 5, 3) := by decide +kernel
theorem dX13_open_23 : decode cX13_open 23 = .ok (.iconst 0, 1) := by decide +kernel
theorem dX13_open_24 : decode cX13_open 24 = .ok (.ireturn, 1) := by decide +kernel
theorem dX13_open_25 : decode cX13_open 25 = .ok (.aload_n 0, 1) := by decide +kernel
theorem dX13_open_26 : decode cX13_open 26 = .ok (.getfield 35, 3) := by decide +kernel
theorem dX13_open_29 : decode cX13_open 29 = .ok (.iload_n 1, 1) := by decide +kernel
theorem dX13_open_30 : decode cX13_open 30 = .ok (.baload, 1) := by decide +kernel
theorem dX13_open_31 : decode cX13_open 31 = .ok (.istore_n 3, 1) := by decide +kernel
theorem dX13_open_32 : decode cX13_open 32 = .ok (.aload_n 0, 1) := by decide +kernel
theorem dX13_open_33 : decode cX13_open 33 = .ok (.getfield 35, 3) := by decide +kernel
theorem dX13_open_36 : decode cX13_open 36 = .ok (.iload_n 1, 1) := by decide +kernel
theorem dX13_open_37 : decode cX13_open 37 = .ok (.iload_n 2, 1) := by decide +kernel
theorem dX13_open_38 : decode cX13_open 38 = .ok (.bastore, 1) := by decide +kernel
theorem dX13_open_39 : decode cX13_open 39 = .ok (.iload_n 2, 1) := by decide +kernel
theorem dX13_open_40 : decode cX13_open 40 = .ok (.ifCond .ne 5, 3) := by decide +kernel
theorem dX13_open_43 : decode cX13_open 43 = .ok (.iload_n 3, 1) := by decide +kernel
theorem dX13_open_44 : decode cX13_open 44 = .ok (.ireturn, 1) := by decide +kernel
theorem dX13_open_45 : decode cX13_open 45 = .ok (.aload_n 0, 1) := by decide +kernel
theorem dX13_open_46 : decode cX13_open 46 = .ok (.getfield 39, 3) := by decide +kernel
theorem dX13_open_49 : decode cX13_open 49 = .ok (.iload_n 1, 1) := by decide +kernel
theorem dX13_open_50 : decode cX13_open 50 = .ok (.iconst 0, 1) := by decide +kernel
theorem dX13_open_51 : decode cX13_open 51 = .ok (.iastore, 1) := by decide +kernel
theorem dX13_open_52 : decode cX13_open 52 = .ok (.aload_n 0, 1) := by decide +kernel
theorem dX13_open_53 : decode cX13_open 53 = .ok (.getfield 42, 3) := by decide +kernel
theorem dX13_open_56 : decode cX13_open 56 = .ok (.iload_n 1, 1) := by decide +kernel
theorem dX13_open_57 : decode cX13_open 57 = .ok (.iconst 0, 1) := by decide +kernel
theorem dX13_open_58 : decode cX13_open 58 = .ok (.iastore, 1) := by decide +kernel
theorem dX13_open_59 : decode cX13_open 59 = .ok (.aload_n 0, 1) := by decide +kernel
theorem dX13_open_60 : decode cX13_open 60 = .ok (.getfield 45, 3) := by decide +kernel
theorem dX13_open_63 : decode cX13_open 63 = .ok (.iload_n 1, 1) := by decide +kernel
theorem dX13_open_64 : decode cX13_open 64 = .ok (.iconst 0, 1) := by decide +kernel
theorem dX13_open_65 : decode cX13_open 65 = .ok (.iastore, 1) := by decide +kernel
theorem dX13_open_66 : decode cX13_open 66 = .ok (.iload_n 3, 1) := by decide +kernel
theorem dX13_open_67 : decode cX13_open 67 = .ok (.ireturn, 1) := by decide +kernel
theorem dX13_next_0 : decode cX13_next 0 = .ok (.aload_n 0, 1) := by decide +kernel
theorem dX13_next_1 : decode cX13_next 1 = .ok (.iload_n 1, 1) := by decide +kernel
theorem dX13_next_2 : decode cX13_next 2 = .ok (.invokestatic 421, 3) := by decide +kernel
theorem dX13_next_5 : decode cX13_next 5 = .ok (.ifCond .ne 7, 3) := by decide +kernel
theorem dX13_next_8 : decode cX13_next 8 = .ok (.iconst 1, 1) := by decide +kernel
theorem dX13_next_9 : decode cX13_next 9 = .ok (.goto 17, 3) := by decide +kernel
theorem dX13_next_12 : decode cX13_next 12 = .ok (.aload_n 0, 1) := by decide +kernel
theorem dX13_next_13 : decode cX13_next 13 = .ok (.getfield 35, 3) := by decide +kernel
theorem dX13_next_16 : decode cX13_next 16 = .ok (.iload_n 1, 1) := by decide +kernel
theorem dX13_next_17 : decode cX13_next 17 = .ok (.baload, 1) := by decide +kernel
theorem dX13_next_18 : decode cX13_next 18 = .ok (.ifCond .ne 7, 3) := by decide +kernel
theorem dX13_next_21 : decode cX13_next 21 = .ok (.iconst 2, 1) := by decide +kernel
theorem dX13_next_22 : decode cX13_next 22 = .ok (.goto 4, 3) := by decide +kernel
theorem dX13_next_25 : decode cX13_next 25 = .ok (.iconst 0, 1) := by decide +kernel
theorem dX13_next_26 : decode cX13_next 26 = .ok (.putfield 79, 3) := by decide +kernel
theorem dX13_next_29 : decode cX13_next 29 = .ok (.aload_n 0, 1) := by decide +kernel
theorem dX13_next_30 : decode cX13_next 30 = .ok (.getfield 79, 3) := by decide +kernel
theorem dX13_next_33 : decode cX13_next 33 = .ok (.ifCond .le 5, 3) := by decide +kernel
theorem dX13_next_36 : decode cX13_next 36 = .ok (.iconst 0, 1) := by decide +kernel
theorem dX13_next_37 : decode cX13_next 37 = .ok (.ireturn, 1) := by decide +kernel
theorem dX13_next_38 : decode cX13_next 38 = .ok (.aload_n 0, 1) := by decide +kernel
theorem dX13_next_39 : decode cX13_next 39 = .ok (.aload_n 0, 1) := by decide +kernel
theorem dX13_next_40 : decode cX13_next 40 = .ok (.getfield 7, 3) := by decide +kernel
theorem dX13_next_43 : decode cX13_next 43 = .ok (.sipush 1081, 3) := by decide +kernel
theorem dX13_next_46 : decode cX13_next 46 = .ok (.iaload, 1) := by decide +kernel
theorem dX13_next_47 : decode cX13_next 47 = .ok (.aload_n 0, 1) := by decide +kernel
theorem dX13_next_48 : decode cX13_next 48 = .ok (.getfield 7, 3) := by decide +kernel
theorem dX13_next_51 : decode cX13_next 51 = .ok (.sipush 1082, 3) := by decide +kernel
theorem dX13_next_54 : decode cX13_next 54 = .ok (.iaload, 1) := by decide +kernel
theorem dX13_next_55 : decode cX13_next 55 = .ok (.aload_n 0, 1) := by decide +kernel
theorem dX13_next_56 : decode cX13_next 56 = .ok (.getfield 7, 3) := by decide +kernel
theorem dX13_next_59 : decode cX13_next 59 = .ok (.sipush 1083, 3) := by decide +kernel
theorem dX13_next_62 : decode cX13_next 62 = .ok (.iaload, 1) := by decide +kernel
theorem dX13_next_63 : decode cX13_next 63 = .ok (.invokevirtual 233, 3) := by decide +kernel
theorem dX13_next_66 : decode cX13_next 66 = .ok (.iconst 0, 1) := by decide +kernel
theorem dX13_next_67 : decode cX13_next 67 = .ok (.istore_n 2, 1) := by decide +kernel
theorem dX13_next_68 : decode cX13_next 68 = .ok (.iload_n 2, 1) := by decide +kernel
theorem dX13_next_69 : decode cX13_next 69 = .ok (.aload_n 0, 1) := by decide +kernel
theorem dX13_next_70 : decode cX13_next 70 = .ok (.getfield 188, 3) := by decide +kernel
theorem dX13_next_73 : decode cX13_next 73 = .ok (.if_icmp .ge 24, 3) := by decide +kernel
theorem dX13_next_76 : decode cX13_next 76 = .ok (.aload_n 0, 1) := by decide +kernel
theorem dX13_next_77 : decode cX13_next 77 = .ok (.getfield 73, 3) := by decide +kernel
theorem dX13_next_80 : decode cX13_next 80 = .ok (.iload_n 2, 1) := by decide +kernel
theorem dX13_next_81 : decode cX13_next 81 = .ok (.iaload, 1) := by decide +kernel
theorem dX13_next_82 : decode cX13_next 82 = .ok (.aload_n 0, 1) := by decide +kernel
theorem dX13_next_83 : decode cX13_next 83 = .ok (.getfield 39, 3) := by decide +kernel
theorem dX13_next_86 : decode cX13_next 86 = .ok (.iload_n 1, 1) := by decide +kernel
theorem dX13_next_87 : decode cX13_next 87 = .ok (.iaload, 1) := by decide +kernel
theorem dX13_next_88 : decode cX13_next 88 = .ok (.if_icmp .ge 9, 3) := by decide +kernel
theorem dX13_next_91 : decode cX13_next 91 = .ok (.iinc 2 1, 3) := by decide +kernel
theorem dX13_next_94 : decode cX13_next 94 = .ok (.goto (-26), 3) := by decide +kernel
theorem dX13_next_97 : decode cX13_next 97 = .ok (.aload_n 0, 1) := by decide +kernel
theorem dX13_next_98 : decode cX13_next 98 = .ok (.getfield 45, 3) := by decide +kernel
theorem dX13_next_101 : decode cX13_next 101 = .ok (.iload_n 1, 1) := by decide +kernel
theorem dX13_next_102 : decode cX13_next 102 = .ok (.iconst 0, 1) := by decide +kernel
theorem dX13_next_103 : decode cX13_next 103 = .ok (.iastore, 1) := by decide +kernel
theorem dX13_next_104 : decode cX13_next 104 = .ok (.iload_n 2, 1) := by decide +kernel
theorem dX13_next_105 : decode cX13_next 105 = .ok (.aload_n 0, 1) := by decide +kernel
theorem dX13_next_106 : decode cX13_next 106 = .ok (.getfield 188, 3) := by decide +kernel
theorem dX13_next_109 : decode cX13_next 109 = .ok (.if_icmp .ne 5, 3) := by decide +kernel
theorem dX13_next_112 : decode cX13_next 112 = .ok (.iconst 0, 1) := by decide +kernel
theorem dX13_next_113 : decode cX13_next 113 = .ok (.ireturn, 1) := by decide +kernel
theorem dX13_next_114 : decode cX13_next 114 = .ok (.aload_n 0, 1) := by decide +kernel
theorem dX13_next_115 : decode cX13_next 115 = .ok (.getfield 73, 3) := by decide +kernel
theorem dX13_next_118 : decode cX13_next 118 = .ok (.iload_n 2, 1) := by decide +kernel
theorem dX13_next_119 : decode cX13_next 119 = .ok (.iaload, 1) := by decide +kernel
theorem dX13_next_120 : decode cX13_next 120 = .ok (.istore_n 3, 1) := by decide +kernel
theorem dX13_next_121 : decode cX13_next 121 = .ok (.iconst 0, 1) := by decide +kernel
theorem dX13_next_122 : decode cX13_next 122 = .ok (.istore 4, 2) := by decide +kernel
theorem dX13_next_124 : decode cX13_next 124 = .ok (.iload_n 2, 1) := by decide +kernel
theorem dX13_next_125 : decode cX13_next 125 = .ok (.aload_n 0, 1) := by decide +kernel
theorem dX13_next_126 : decode cX13_next 126 = .ok (.getfield 188, 3) := by decide +kernel
theorem dX13_next_129 : decode cX13_next 129 = .ok (.if_icmp .ge 47, 3) := by decide +kernel
theorem dX13_next_132 : decode cX13_next 132 = .ok (.aload_n 0, 1) := by decide +kernel
theorem dX13_next_133 : decode cX13_next 133 = .ok (.getfield 73, 3) := by decide +kernel
theorem dX13_next_136 : decode cX13_next 136 = .ok (.iload_n 2, 1) := by decide +kernel
theorem dX13_next_137 : decode cX13_next 137 = .ok (.iaload, 1) := by decide +kernel
theorem dX13_next_138 : decode cX13_next 138 = .ok (.iload_n 3, 1) := by decide +kernel
theorem dX13_next_139 : decode cX13_next 139 = .ok (.if_icmp .ne 37, 3) := by decide +kernel
theorem dX13_next_142 : decode cX13_next 142 = .ok (.iload 4, 2) := by decide +kernel
theorem dX13_next_144 : decode cX13_next 144 = .ok (.bipush 60, 2) := by decide +kernel
theorem dX13_next_146 : decode cX13_next 146 = .ok (.if_icmp .ge 21, 3) := by decide +kernel
theorem dX13_next_149 : decode cX13_next 149 = .ok (.aload_n 0, 1) := by decide +kernel
theorem dX13_next_150 : decode cX13_next 150 = .ok (.getfield 48, 3) := by decide +kernel
theorem dX13_next_153 : decode cX13_next 153 = .ok (.bipush 60, 2) := by decide +kernel
theorem dX13_next_155 : decode cX13_next 155 = .ok (.iload_n 1, 1) := by decide +kernel
theorem dX13_next_156 : decode cX13_next 156 = .ok (.imul, 1) := by decide +kernel
theorem dX13_next_157 : decode cX13_next 157 = .ok (.iload 4, 2) := by decide +kernel
theorem dX13_next_159 : decode cX13_next 159 = .ok (.iadd, 1) := by decide +kernel
theorem dX13_next_160 : decode cX13_next 160 = .ok (.aload_n 0, 1) := by decide +kernel
theorem dX13_next_161 : decode cX13_next 161 = .ok (.getfield 70, 3) := by decide +kernel
theorem dX13_next_164 : decode cX13_next 164 = .ok (.iload_n 2, 1) := by decide +kernel
theorem dX13_next_165 : decode cX13_next 165 = .ok (.iaload, 1) := by decide +kernel
theorem dX13_next_166 : decode cX13_next 166 = .ok (.iastore, 1) := by decide +kernel
theorem dX13_next_167 : decode cX13_next 167 = .ok (.iinc 4 1, 3) := by decide +kernel
theorem dX13_next_170 : decode cX13_next 170 = .ok (.iinc 2 1, 3) := by decide +kernel
theorem dX13_next_173 : decode cX13_next 173 = .ok (.goto (-49), 3) := by decide +kernel
theorem dX13_next_176 : decode cX13_next 176 = .ok (.aload_n 0, 1) := by decide +kernel
theorem dX13_next_177 : decode cX13_next 177 = .ok (.getfield 45, 3) := by decide +kernel
theorem dX13_next_180 : decode cX13_next 180 = .ok (.iload_n 1, 1) := by decide +kernel
theorem dX13_next_181 : decode cX13_next 181 = .ok (.iload 4, 2) := by decide +kernel
theorem dX13_next_183 : decode cX13_next 183 = .ok (.bipush 60, 2) := by decide +kernel
theorem dX13_next_185 : decode cX13_next 185 = .ok (.if_icmp .ge 8, 3) := by decide +kernel
theorem dX13_next_188 : decode cX13_next 188 = .ok (.iload 4, 2) := by decide +kernel
theorem dX13_next_190 : decode cX13_next 190 = .ok (.goto 5, 3) := by decide +kernel
theorem dX13_next_193 : decode cX13_next 193 = .ok (.bipush 60, 2) := by decide +kernel
theorem dX13_next_195 : decode cX13_next 195 = .ok (.iastore, 1) := by decide +kernel
theorem dX13_next_196 : decode cX13_next 196 = .ok (.aload_n 0, 1) := by decide +kernel
theorem dX13_next_197 : decode cX13_next 197 = .ok (.getfield 42, 3) := by decide +kernel
theorem dX13_next_200 : decode cX13_next 200 = .ok (.iload_n 1, 1) := by decide +kernel
theorem dX13_next_201 : decode cX13_next 201 = .ok (.dup2, 1) := by decide +kernel
theorem dX13_next_202 : decode cX13_next 202 = .ok (.iaload, 1) := by decide +kernel
theorem dX13_next_203 : decode cX13_next 203 = .ok (.iload 4, 2) := by decide +kernel
theorem dX13_next_205 : decode cX13_next 205 = .ok (.iadd, 1) := by decide +kernel
theorem dX13_next_206 : decode cX13_next 206 = .ok (.iastore, 1) := by decide +kernel
theorem dX13_next_207 : decode cX13_next 207 = .ok (.aload_n 0, 1) := by decide +kernel
theorem dX13_next_208 : decode cX13_next 208 = .ok (.getfield 39, 3) := by decide +kernel
theorem dX13_next_211 : decode cX13_next 211 = .ok (.iload_n 1, 1) := by decide +kernel
theorem dX13_next_212 : decode cX13_next 212 = .ok (.iload_n 3, 1) := by decide +kernel
theorem dX13_next_213 : decode cX13_next 213 = .ok (.iconst 1, 1) := by decide +kernel
theorem dX13_next_214 : decode cX13_next 214 = .ok (.iadd, 1) := by decide +kernel
theorem dX13_next_215 : decode cX13_next 215 = .ok (.iastore, 1) := by decide +kernel
theorem dX13_next_216 : decode cX13_next 216 = .ok (.iload 4, 2) := by decide +kernel
theorem dX13_next_218 : decode cX13_next 218 = .ok (.ireturn, 1) := by decide +kernel
theorem dX13_reader_0 : decode cX13_reader 0 = .ok (.aload_n 0, 1) := by decide +kernel
theorem dX13_reader_1 : decode cX13_reader 1 = .ok (.iload_n 1, 1) := by decide +kernel
theorem dX13_reader_2 : decode cX13_reader 2 = .ok (.invokestatic 421, 3) := by decide +kernel
theorem dX13_reader_5 : decode cX13_reader 5 = .ok (.ifCond .ne 7, 3) := by decide +kernel
theorem dX13_reader_8 : decode cX13_reader 8 = .ok (.iconst 1, 1) := by decide +kernel
theorem dX13_reader_9 : decode cX13_reader 9 = .ok (.goto 17, 3) := by decide +kernel
theorem dX13_reader_12 : decode cX13_reader 12 = .ok (.iload_n 2, 1) := by decide +kernel
theorem dX13_reader_13 : decode cX13_reader 13 = .ok (.iconst 0, 1) := by decide +kernel
theorem dX13_reader_14 : decode cX13_reader 14 = .ok (.iconst 3, 1) := by decide +kernel
theorem dX13_reader_15 : decode cX13_reader 15 = .ok (.invokestatic 263, 3) := by decide +kernel
theorem dX13_reader_18 : decode cX13_reader 18 = .ok (.ifCond .ne 7, 3) := by decide +kernel
theorem dX13_reader_21 : decode cX13_reader 21 = .ok (.iconst 2, 1) := by decide +kernel
theorem dX13_reader_22 : decode cX13_reader 22 = .ok (.goto 4, 3) := by decide +kernel
theorem dX13_reader_25 : decode cX13_reader 25 = .ok (.iconst 0, 1) := by decide +kernel
theorem dX13_reader_26 : decode cX13_reader 26 = .ok (.putfield 79, 3) := by decide +kernel
theorem dX13_reader_29 : decode cX13_reader 29 = .ok (.aload_n 0, 1) := by decide +kernel
theorem dX13_reader_30 : decode cX13_reader 30 = .ok (.getfield 79, 3) := by decide +kernel
theorem dX13_reader_33 : decode cX13_reader 33 = .ok (.ifCond .le 5, 3) := by decide +kernel
theorem dX13_reader_36 : decode cX13_reader 36 = .ok (.iconst 0, 1) := by decide +kernel
theorem dX13_reader_37 : decode cX13_reader 37 = .ok (.ireturn, 1) := by decide +kernel
theorem dX13_reader_38 : decode cX13_reader 38 = .ok (.iload_n 2, 1) := by decide +kernel
theorem dX13_reader_39 : decode cX13_reader 39 = .ok (.tableswitch 54 0 2 #[25, 40, 47], 25) := by decide +kernel
theorem dX13_reader_64 : decode cX13_reader 64 = .ok (.aload_n 0, 1) := by decide +kernel
theorem dX13_reader_65 : decode cX13_reader 65 = .ok (.getfield 35, 3) := by decide +kernel
theorem dX13_reader_68 : decode cX13_reader 68 = .ok (.iload_n 1, 1) := by decide +kernel
theorem dX13_reader_69 : decode cX13_reader 69 = .ok (.baload, 1) := by decide +kernel
theorem dX13_reader_70 : decode cX13_reader 70 = .ok (.ifCond .eq 7, 3) := by decide +kernel
theorem dX13_reader_73 : decode cX13_reader 73 = .ok (.iconst 1, 1) := by decide +kernel
theorem dX13_reader_74 : decode cX13_reader 74 = .ok (.goto 4, 3) := by decide +kernel
theorem dX13_reader_77 : decode cX13_reader 77 = .ok (.iconst 0, 1) := by decide +kernel
theorem dX13_reader_78 : decode cX13_reader 78 = .ok (.ireturn, 1) := by decide +kernel
theorem dX13_reader_79 : decode cX13_reader 79 = .ok (.aload_n 0, 1) := by decide +kernel
theorem dX13_reader_80 : decode cX13_reader 80 = .ok (.getfield 39, 3) := by decide +kernel
theorem dX13_reader_83 : decode cX13_reader 83 = .ok (.iload_n 1, 1) := by decide +kernel
theorem dX13_reader_84 : decode cX13_reader 84 = .ok (.iaload, 1) := by decide +kernel
theorem dX13_reader_85 : decode cX13_reader 85 = .ok (.ireturn, 1) := by decide +kernel
theorem dX13_reader_86 : decode cX13_reader 86 = .ok (.aload_n 0, 1) := by decide +kernel
theorem dX13_reader_87 : decode cX13_reader 87 = .ok (.getfield 42, 3) := by decide +kernel
theorem dX13_reader_90 : decode cX13_reader 90 = .ok (.iload_n 1, 1) := by decide +kernel
theorem dX13_reader_91 : decode cX13_reader 91 = .ok (.iaload, 1) := by decide +kernel
theorem dX13_reader_92 : decode cX13_reader 92 = .ok (.ireturn, 1) := by decide +kernel
theorem dX13_reader_93 : decode cX13_reader 93 = .ok (.aload_n 0, 1) := by decide +kernel
theorem dX13_reader_94 : decode cX13_reader 94 = .ok (.getfield 45, 3) := by decide +kernel
theorem dX13_reader_97 : decode cX13_reader 97 = .ok (.iload_n 1, 1) := by decide +kernel
theorem dX13_reader_98 : decode cX13_reader 98 = .ok (.iaload, 1) := by decide +kernel
theorem dX13_reader_99 : decode cX13_reader 99 = .ok (.ireturn, 1) := by decide +kernel
theorem dX13_batch_0 : decode cX13_batch 0 = .ok (.aload_n 0, 1) := by decide +kernel
theorem dX13_batch_1 : decode cX13_batch 1 = .ok (.iload_n 1, 1) := by decide +kernel
theorem dX13_batch_2 : decode cX13_batch 2 = .ok (.invokestatic 421, 3) := by decide +kernel
theorem dX13_batch_5 : decode cX13_batch 5 = .ok (.ifCond .eq 7, 3) := by decide +kernel
theorem dX13_batch_8 : decode cX13_batch 8 = .ok (.iconst 0, 1) := by decide +kernel
theorem dX13_batch_9 : decode cX13_batch 9 = .ok (.goto 4, 3) := by decide +kernel
theorem dX13_batch_12 : decode cX13_batch 12 = .ok (.iconst 1, 1) := by decide +kernel
theorem dX13_batch_13 : decode cX13_batch 13 = .ok (.putfield 79, 3) := by decide +kernel
theorem dX13_batch_16 : decode cX13_batch 16 = .ok (.aload_n 0, 1) := by decide +kernel
theorem dX13_batch_17 : decode cX13_batch 17 = .ok (.getfield 79, 3) := by decide +kernel
theorem dX13_batch_20 : decode cX13_batch 20 = .ok (.ifCond .le 5, 3) := by decide +kernel
theorem dX13_batch_23 : decode cX13_batch 23 = .ok (.iconst 0, 1) := by decide +kernel
theorem dX13_batch_24 : decode cX13_batch 24 = .ok (.ireturn, 1) := by decide +kernel
theorem dX13_batch_25 : decode cX13_batch 25 = .ok (.iload_n 2, 1) := by decide +kernel
theorem dX13_batch_26 : decode cX13_batch 26 = .ok (.iconst 0, 1) := by decide +kernel
theorem dX13_batch_27 : decode cX13_batch 27 = .ok (.aload_n 0, 1) := by decide +kernel
theorem dX13_batch_28 : decode cX13_batch 28 = .ok (.getfield 45, 3) := by decide +kernel
theorem dX13_batch_31 : decode cX13_batch 31 = .ok (.iload_n 1, 1) := by decide +kernel
theorem dX13_batch_32 : decode cX13_batch 32 = .ok (.iaload, 1) := by decide +kernel
theorem dX13_batch_33 : decode cX13_batch 33 = .ok (.iconst 1, 1) := by decide +kernel
theorem dX13_batch_34 : decode cX13_batch 34 = .ok (.isub, 1) := by decide +kernel
theorem dX13_batch_35 : decode cX13_batch 35 = .ok (.invokestatic 263, 3) := by decide +kernel
theorem dX13_batch_38 : decode cX13_batch 38 = .ok (.ifCond .eq 17, 3) := by decide +kernel
theorem dX13_batch_41 : decode cX13_batch 41 = .ok (.aload_n 0, 1) := by decide +kernel
theorem dX13_batch_42 : decode cX13_batch 42 = .ok (.getfield 48, 3) := by decide +kernel
theorem dX13_batch_45 : decode cX13_batch 45 = .ok (.bipush 60, 2) := by decide +kernel
theorem dX13_batch_47 : decode cX13_batch 47 = .ok (.iload_n 1, 1) := by decide +kernel
theorem dX13_batch_48 : decode cX13_batch 48 = .ok (.imul, 1) := by decide +kernel
theorem dX13_batch_49 : decode cX13_batch 49 = .ok (.iload_n 2, 1) := by decide +kernel
theorem dX13_batch_50 : decode cX13_batch 50 = .ok (.iadd, 1) := by decide +kernel
theorem dX13_batch_51 : decode cX13_batch 51 = .ok (.iaload, 1) := by decide +kernel
theorem dX13_batch_52 : decode cX13_batch 52 = .ok (.goto 4, 3) := by decide +kernel
theorem dX13_batch_55 : decode cX13_batch 55 = .ok (.iconst (-1), 1) := by decide +kernel
theorem dX13_batch_56 : decode cX13_batch 56 = .ok (.ireturn, 1) := by decide +kernel
theorem dX13_image_0 : decode cX13_image 0 = .ok (.aload_n 0, 1) := by decide +kernel
theorem dX13_image_1 : decode cX13_image 1 = .ok (.iconst 0, 1) := by decide +kernel
theorem dX13_image_2 : decode cX13_image 2 = .ok (.putfield 79, 3) := by decide +kernel
theorem dX13_image_5 : decode cX13_image 5 = .ok (.iconst 0, 1) := by decide +kernel
theorem dX13_image_6 : decode cX13_image 6 = .ok (.istore_n 1, 1) := by decide +kernel
theorem dX13_image_7 : decode cX13_image 7 = .ok (.iload_n 1, 1) := by decide +kernel
theorem dX13_image_8 : decode cX13_image 8 = .ok (.sipush 1084, 3) := by decide +kernel
theorem dX13_image_11 : decode cX13_image 11 = .ok (.if_icmp .ge 21, 3) := by decide +kernel
theorem dX13_image_14 : decode cX13_image 14 = .ok (.aload_n 0, 1) := by decide +kernel
theorem dX13_image_15 : decode cX13_image 15 = .ok (.getfield 29, 3) := by decide +kernel
theorem dX13_image_18 : decode cX13_image 18 = .ok (.iload_n 1, 1) := by decide +kernel
theorem dX13_image_19 : decode cX13_image 19 = .ok (.aload_n 0, 1) := by decide +kernel
theorem dX13_image_20 : decode cX13_image 20 = .ok (.getfield 7, 3) := by decide +kernel
theorem dX13_image_23 : decode cX13_image 23 = .ok (.iload_n 1, 1) := by decide +kernel
theorem dX13_image_24 : decode cX13_image 24 = .ok (.iaload, 1) := by decide +kernel
theorem dX13_image_25 : decode cX13_image 25 = .ok (.iastore, 1) := by decide +kernel
theorem dX13_image_26 : decode cX13_image 26 = .ok (.iinc 1 1, 3) := by decide +kernel
theorem dX13_image_29 : decode cX13_image 29 = .ok (.goto (-22), 3) := by decide +kernel
theorem dX13_image_32 : decode cX13_image 32 = .ok (.iconst 0, 1) := by decide +kernel
theorem dX13_image_33 : decode cX13_image 33 = .ok (.istore_n 1, 1) := by decide +kernel
theorem dX13_image_34 : decode cX13_image 34 = .ok (.iload_n 1, 1) := by decide +kernel
theorem dX13_image_35 : decode cX13_image 35 = .ok (.sipush 240, 3) := by decide +kernel
theorem dX13_image_38 : decode cX13_image 38 = .ok (.if_icmp .ge 21, 3) := by decide +kernel
theorem dX13_image_41 : decode cX13_image 41 = .ok (.aload_n 0, 1) := by decide +kernel
theorem dX13_image_42 : decode cX13_image 42 = .ok (.getfield 32, 3) := by decide +kernel
theorem dX13_image_45 : decode cX13_image 45 = .ok (.iload_n 1, 1) := by decide +kernel
theorem dX13_image_46 : decode cX13_image 46 = .ok (.aload_n 0, 1) := by decide +kernel
theorem dX13_image_47 : decode cX13_image 47 = .ok (.getfield 13, 3) := by decide +kernel
theorem dX13_image_50 : decode cX13_image 50 = .ok (.iload_n 1, 1) := by decide +kernel
theorem dX13_image_51 : decode cX13_image 51 = .ok (.laload, 1) := by decide +kernel
theorem dX13_image_52 : decode cX13_image 52 = .ok (.lastore, 1) := by decide +kernel
theorem dX13_image_53 : decode cX13_image 53 = .ok (.iinc 1 1, 3) := by decide +kernel
theorem dX13_image_56 : decode cX13_image 56 = .ok (.goto (-22), 3) := by decide +kernel
theorem dX13_image_59 : decode cX13_image 59 = .ok (.aload_n 0, 1) := by decide +kernel
theorem dX13_image_60 : decode cX13_image 60 = .ok (.iconst 1, 1) := by decide +kernel
theorem dX13_image_61 : decode cX13_image 61 = .ok (.putfield 424, 3) := by decide +kernel
theorem dX13_image_64 : decode cX13_image 64 = .ok (.return_, 1) := by decide +kernel
theorem dX13_back_0 : decode cX13_back 0 = .ok (.aload_n 0, 1) := by decide +kernel
theorem dX13_back_1 : decode cX13_back 1 = .ok (.iconst 0, 1) := by decide +kernel
theorem dX13_back_2 : decode cX13_back 2 = .ok (.putfield 79, 3) := by decide +kernel
theorem dX13_back_5 : decode cX13_back 5 = .ok (.aload_n 0, 1) := by decide +kernel
theorem dX13_back_6 : decode cX13_back 6 = .ok (.getfield 424, 3) := by decide +kernel
theorem dX13_back_9 : decode cX13_back 9 = .ok (.ifCond .ne 5, 3) := by decide +kernel
theorem dX13_back_12 : decode cX13_back 12 = .ok (.iconst 0, 1) := by decide +kernel
theorem dX13_back_13 : decode cX13_back 13 = .ok (.ireturn, 1) := by decide +kernel
theorem dX13_back_14 : decode cX13_back 14 = .ok (.iconst 0, 1) := by decide +kernel
theorem dX13_back_15 : decode cX13_back 15 = .ok (.istore_n 1, 1) := by decide +kernel
theorem dX13_back_16 : decode cX13_back 16 = .ok (.iload_n 1, 1) := by decide +kernel
theorem dX13_back_17 : decode cX13_back 17 = .ok (.sipush 1084, 3) := by decide +kernel
theorem dX13_back_20 : decode cX13_back 20 = .ok (.if_icmp .ge 21, 3) := by decide +kernel
theorem dX13_back_23 : decode cX13_back 23 = .ok (.aload_n 0, 1) := by decide +kernel
theorem dX13_back_24 : decode cX13_back 24 = .ok (.getfield 7, 3) := by decide +kernel
theorem dX13_back_27 : decode cX13_back 27 = .ok (.iload_n 1, 1) := by decide +kernel
theorem dX13_back_28 : decode cX13_back 28 = .ok (.aload_n 0, 1) := by decide +kernel
theorem dX13_back_29 : decode cX13_back 29 = .ok (.getfield 29, 3) := by decide +kernel
theorem dX13_back_32 : decode cX13_back 32 = .ok (.iload_n 1, 1) := by decide +kernel
theorem dX13_back_33 : decode cX13_back 33 = .ok (.iaload, 1) := by decide +kernel
theorem dX13_back_34 : decode cX13_back 34 = .ok (.iastore, 1) := by decide +kernel
theorem dX13_back_35 : decode cX13_back 35 = .ok (.iinc 1 1, 3) := by decide +kernel
theorem dX13_back_38 : decode cX13_back 38 = .ok (.goto (-22), 3) := by decide +kernel
theorem dX13_back_41 : decode cX13_back 41 = .ok (.iconst 0, 1) := by decide +kernel
theorem dX13_back_42 : decode cX13_back 42 = .ok (.istore_n 1, 1) := by decide +kernel
theorem dX13_back_43 : decode cX13_back 43 = .ok (.iload_n 1, 1) := by decide +kernel
theorem dX13_back_44 : decode cX13_back 44 = .ok (.sipush 240, 3) := by decide +kernel
theorem dX13_back_47 : decode cX13_back 47 = .ok (.if_icmp .ge 21, 3) := by decide +kernel
theorem dX13_back_50 : decode cX13_back 50 = .ok (.aload_n 0, 1) := by decide +kernel
theorem dX13_back_51 : decode cX13_back 51 = .ok (.getfield 13, 3) := by decide +kernel
theorem dX13_back_54 : decode cX13_back 54 = .ok (.iload_n 1, 1) := by decide +kernel
theorem dX13_back_55 : decode cX13_back 55 = .ok (.aload_n 0, 1) := by decide +kernel
theorem dX13_back_56 : decode cX13_back 56 = .ok (.getfield 32, 3) := by decide +kernel
theorem dX13_back_59 : decode cX13_back 59 = .ok (.iload_n 1, 1) := by decide +kernel
theorem dX13_back_60 : decode cX13_back 60 = .ok (.laload, 1) := by decide +kernel
theorem dX13_back_61 : decode cX13_back 61 = .ok (.lastore, 1) := by decide +kernel
theorem dX13_back_62 : decode cX13_back 62 = .ok (.iinc 1 1, 3) := by decide +kernel
theorem dX13_back_65 : decode cX13_back 65 = .ok (.goto (-22), 3) := by decide +kernel
theorem dX13_back_68 : decode cX13_back 68 = .ok (.iconst 0, 1) := by decide +kernel
theorem dX13_back_69 : decode cX13_back 69 = .ok (.istore_n 1, 1) := by decide +kernel
theorem dX13_back_70 : decode cX13_back 70 = .ok (.iload_n 1, 1) := by decide +kernel
theorem dX13_back_71 : decode cX13_back 71 = .ok (.iconst 4, 1) := by decide +kernel
theorem dX13_back_72 : decode cX13_back 72 = .ok (.if_icmp .ge 16, 3) := by decide +kernel
theorem dX13_back_75 : decode cX13_back 75 = .ok (.aload_n 0, 1) := by decide +kernel
theorem dX13_back_76 : decode cX13_back 76 = .ok (.getfield 35, 3) := by decide +kernel
theorem dX13_back_79 : decode cX13_back 79 = .ok (.iload_n 1, 1) := by decide +kernel
theorem dX13_back_80 : decode cX13_back 80 = .ok (.iconst 0, 1) := by decide +kernel
theorem dX13_back_81 : decode cX13_back 81 = .ok (.bastore, 1) := by decide +kernel
theorem dX13_back_82 : decode cX13_back 82 = .ok (.iinc 1 1, 3) := by decide +kernel
theorem dX13_back_85 : decode cX13_back 85 = .ok (.goto (-15), 3) := by decide +kernel
theorem dX13_back_88 : decode cX13_back 88 = .ok (.aload_n 0, 1) := by decide +kernel
theorem dX13_back_89 : decode cX13_back 89 = .ok (.iconst 0, 1) := by decide +kernel
theorem dX13_back_90 : decode cX13_back 90 = .ok (.putfield 251, 3) := by decide +kernel
theorem dX13_back_93 : decode cX13_back 93 = .ok (.iconst 1, 1) := by decide +kernel
theorem dX13_back_94 : decode cX13_back 94 = .ok (.ireturn, 1) := by decide +kernel
theorem dX13_count_0 : decode cX13_count 0 = .ok (.aload_n 0, 1) := by decide +kernel
theorem dX13_count_1 : decode cX13_count 1 = .ok (.iconst 0, 1) := by decide +kernel
theorem dX13_count_2 : decode cX13_count 2 = .ok (.putfield 79, 3) := by decide +kernel
theorem dX13_count_5 : decode cX13_count 5 = .ok (.iload_n 1, 1) := by decide +kernel
theorem dX13_count_6 : decode cX13_count 6 = .ok (.tableswitch 121 0 8 #[50, 55, 65, 74, 81, 89, 98, 107, 116], 50) := by decide +kernel
theorem dX13_count_56 : decode cX13_count 56 = .ok (.aload_n 0, 1) := by decide +kernel
theorem dX13_count_57 : decode cX13_count 57 = .ok (.invokevirtual 405, 3) := by decide +kernel
theorem dX13_count_60 : decode cX13_count 60 = .ok (.ireturn, 1) := by decide +kernel
theorem dX13_count_61 : decode cX13_count 61 = .ok (.bipush 40, 2) := by decide +kernel
theorem dX13_count_63 : decode cX13_count 63 = .ok (.aload_n 0, 1) := by decide +kernel
theorem dX13_count_64 : decode cX13_count 64 = .ok (.iconst 0, 1) := by decide +kernel
theorem dX13_count_65 : decode cX13_count 65 = .ok (.iconst 0, 1) := by decide +kernel
theorem dX13_count_66 : decode cX13_count 66 = .ok (.invokevirtual 90, 3) := by decide +kernel
theorem dX13_count_69 : decode cX13_count 69 = .ok (.isub, 1) := by decide +kernel
theorem dX13_count_70 : decode cX13_count 70 = .ok (.ireturn, 1) := by decide +kernel
theorem dX13_count_71 : decode cX13_count 71 = .ok (.aload_n 0, 1) := by decide +kernel
theorem dX13_count_72 : decode cX13_count 72 = .ok (.getfield 7, 3) := by decide +kernel
theorem dX13_count_75 : decode cX13_count 75 = .ok (.sipush 1080, 3) := by decide +kernel
theorem dX13_count_78 : decode cX13_count 78 = .ok (.iaload, 1) := by decide +kernel
theorem dX13_count_79 : decode cX13_count 79 = .ok (.ireturn, 1) := by decide +kernel
theorem dX13_count_80 : decode cX13_count 80 = .ok (.aload_n 0, 1) := by decide +kernel
theorem dX13_count_81 : decode cX13_count 81 = .ok (.iconst 0, 1) := by decide +kernel
theorem dX13_count_82 : decode cX13_count 82 = .ok (.iconst 1, 1) := by decide +kernel
theorem dX13_count_83 : decode cX13_count 83 = .ok (.invokevirtual 90, 3) := by decide +kernel
theorem dX13_count_86 : decode cX13_count 86 = .ok (.ireturn, 1) := by decide +kernel
theorem dX13_count_87 : decode cX13_count 87 = .ok (.aload_n 0, 1) := by decide +kernel
theorem dX13_count_88 : decode cX13_count 88 = .ok (.bipush 40, 2) := by decide +kernel
theorem dX13_count_90 : decode cX13_count 90 = .ok (.iconst 1, 1) := by decide +kernel
theorem dX13_count_91 : decode cX13_count 91 = .ok (.invokevirtual 90, 3) := by decide +kernel
theorem dX13_count_94 : decode cX13_count 94 = .ok (.ireturn, 1) := by decide +kernel
theorem dX13_count_95 : decode cX13_count 95 = .ok (.aload_n 0, 1) := by decide +kernel
theorem dX13_count_96 : decode cX13_count 96 = .ok (.getfield 7, 3) := by decide +kernel
theorem dX13_count_99 : decode cX13_count 99 = .ok (.sipush 1081, 3) := by decide +kernel
theorem dX13_count_102 : decode cX13_count 102 = .ok (.iaload, 1) := by decide +kernel
theorem dX13_count_103 : decode cX13_count 103 = .ok (.ireturn, 1) := by decide +kernel
theorem dX13_count_104 : decode cX13_count 104 = .ok (.aload_n 0, 1) := by decide +kernel
theorem dX13_count_105 : decode cX13_count 105 = .ok (.getfield 7, 3) := by decide +kernel
theorem dX13_count_108 : decode cX13_count 108 = .ok (.sipush 1082, 3) := by decide +kernel
theorem dX13_count_111 : decode cX13_count 111 = .ok (.iaload, 1) := by decide +kernel
theorem dX13_count_112 : decode cX13_count 112 = .ok (.ireturn, 1) := by decide +kernel
theorem dX13_count_113 : decode cX13_count 113 = .ok (.aload_n 0, 1) := by decide +kernel
theorem dX13_count_114 : decode cX13_count 114 = .ok (.getfield 7, 3) := by decide +kernel
theorem dX13_count_117 : decode cX13_count 117 = .ok (.sipush 1083, 3) := by decide +kernel
theorem dX13_count_120 : decode cX13_count 120 = .ok (.iaload, 1) := by decide +kernel
theorem dX13_count_121 : decode cX13_count 121 = .ok (.ireturn, 1) := by decide +kernel
theorem dX13_count_122 : decode cX13_count 122 = .ok (.aload_n 0, 1) := by decide +kernel
theorem dX13_count_123 : decode cX13_count 123 = .ok (.getfield 251, 3) := by decide +kernel
theorem dX13_count_126 : decode cX13_count 126 = .ok (.ireturn, 1) := by decide +kernel
theorem dX13_count_127 : decode cX13_count 127 = .ok (.iconst (-1), 1) := by decide +kernel
theorem dX13_count_128 : decode cX13_count 128 = .ok (.ireturn, 1) := by decide +kernel
