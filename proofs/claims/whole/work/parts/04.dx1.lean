theorem dX6_isAhead_2 : decode cX6_isAhead 2 = .ok (.getfield 19, 3) := by decide +kernel
theorem dX6_isAhead_5 : decode cX6_isAhead 5 = .ok (.iload 4, 2) := by decide +kernel
theorem dX6_isAhead_7 : decode cX6_isAhead 7 = .ok (.iaload, 1) := by decide +kernel
theorem dX6_isAhead_8 : decode cX6_isAhead 8 = .ok (.if_icmp .lt 26, 3) := by decide +kernel
theorem dX6_isAhead_11 : decode cX6_isAhead 11 = .ok (.iload_n 1, 1) := by decide +kernel
theorem dX6_isAhead_12 : decode cX6_isAhead 12 = .ok (.aload_n 0, 1) := by decide +kernel
theorem dX6_isAhead_13 : decode cX6_isAhead 13 = .ok (.getfield 19, 3) := by decide +kernel
theorem dX6_isAhead_16 : decode cX6_isAhead 16 = .ok (.iload 4, 2) := by decide +kernel
theorem dX6_isAhead_18 : decode cX6_isAhead 18 = .ok (.iaload, 1) := by decide +kernel
theorem dX6_isAhead_19 : decode cX6_isAhead 19 = .ok (.if_icmp .ne 19, 3) := by decide +kernel
theorem dX6_isAhead_22 : decode cX6_isAhead 22 = .ok (.lload_n 2, 1) := by decide +kernel
theorem dX6_isAhead_23 : decode cX6_isAhead 23 = .ok (.aload_n 0, 1) := by decide +kernel
theorem dX6_isAhead_24 : decode cX6_isAhead 24 = .ok (.getfield 9, 3) := by decide +kernel
theorem dX6_isAhead_27 : decode cX6_isAhead 27 = .ok (.iload 4, 2) := by decide +kernel
theorem dX6_isAhead_29 : decode cX6_isAhead 29 = .ok (.laload, 1) := by decide +kernel
theorem dX6_isAhead_30 : decode cX6_isAhead 30 = .ok (.lcmp, 1) := by decide +kernel
theorem dX6_isAhead_31 : decode cX6_isAhead 31 = .ok (.ifCond .ge 7, 3) := by decide +kernel
theorem dX6_isAhead_34 : decode cX6_isAhead 34 = .ok (.iconst 1, 1) := by decide +kernel
theorem dX6_isAhead_35 : decode cX6_isAhead 35 = .ok (.goto 4, 3) := by decide +kernel
theorem dX6_isAhead_38 : decode cX6_isAhead 38 = .ok (.iconst 0, 1) := by decide +kernel
theorem dX6_isAhead_39 : decode cX6_isAhead 39 = .ok (.ireturn, 1) := by decide +kernel
theorem dX7_init_0 : decode cX7_init 0 = .ok (.aload_n 0, 1) := by decide +kernel
theorem dX7_init_1 : decode cX7_init 1 = .ok (.invokespecial 3, 3) := by decide +kernel
theorem dX7_init_4 : decode cX7_init 4 = .ok (.aload_n 0, 1) := by decide +kernel
theorem dX7_init_5 : decode cX7_init 5 = .ok (.bipush 6, 2) := by decide +kernel
theorem dX7_init_7 : decode cX7_init 7 = .ok (.putfield 9, 3) := by decide +kernel
theorem dX7_init_10 : decode cX7_init 10 = .ok (.aload_n 0, 1) := by decide +kernel
theorem dX7_init_11 : decode cX7_init 11 = .ok (.iconst 1, 1) := by decide +kernel
theorem dX7_init_12 : decode cX7_init 12 = .ok (.putfield 15, 3) := by decide +kernel
theorem dX7_init_15 : decode cX7_init 15 = .ok (.aload_n 0, 1) := by decide +kernel
theorem dX7_init_16 : decode cX7_init 16 = .ok (.iconst 0, 1) := by decide +kernel
theorem dX7_init_17 : decode cX7_init 17 = .ok (.putfield 18, 3) := by decide +kernel
theorem dX7_init_20 : decode cX7_init 20 = .ok (.aload_n 0, 1) := by decide +kernel
theorem dX7_init_21 : decode cX7_init 21 = .ok (.iconst 0, 1) := by decide +kernel
theorem dX7_init_22 : decode cX7_init 22 = .ok (.putfield 22, 3) := by decide +kernel
theorem dX7_init_25 : decode cX7_init 25 = .ok (.aload_n 0, 1) := by decide +kernel
theorem dX7_init_26 : decode cX7_init 26 = .ok (.bipush 40, 2) := by decide +kernel
theorem dX7_init_28 : decode cX7_init 28 = .ok (.newarray .int, 2) := by decide +kernel
theorem dX7_init_30 : decode cX7_init 30 = .ok (.putfield 25, 3) := by decide +kernel
theorem dX7_init_33 : decode cX7_init 33 = .ok (.aload_n 0, 1) := by decide +kernel
theorem dX7_init_34 : decode cX7_init 34 = .ok (.bipush 40, 2) := by decide +kernel
theorem dX7_init_36 : decode cX7_init 36 = .ok (.newarray .int, 2) := by decide +kernel
theorem dX7_init_38 : decode cX7_init 38 = .ok (.putfield 29, 3) := by decide +kernel
theorem dX7_init_41 : decode cX7_init 41 = .ok (.aload_n 0, 1) := by decide +kernel
theorem dX7_init_42 : decode cX7_init 42 = .ok (.bipush 40, 2) := by decide +kernel
theorem dX7_init_44 : decode cX7_init 44 = .ok (.newarray .int, 2) := by decide +kernel
theorem dX7_init_46 : decode cX7_init 46 = .ok (.putfield 32, 3) := by decide +kernel
theorem dX7_init_49 : decode cX7_init 49 = .ok (.aload_n 0, 1) := by decide +kernel
theorem dX7_init_50 : decode cX7_init 50 = .ok (.sipush 240, 3) := by decide +kernel
theorem dX7_init_53 : decode cX7_init 53 = .ok (.newarray .long, 2) := by decide +kernel
theorem dX7_init_55 : decode cX7_init 55 = .ok (.putfield 35, 3) := by decide +kernel
theorem dX7_init_58 : decode cX7_init 58 = .ok (.aload_n 0, 1) := by decide +kernel
theorem dX7_init_59 : decode cX7_init 59 = .ok (.sipush 240, 3) := by decide +kernel
theorem dX7_init_62 : decode cX7_init 62 = .ok (.newarray .int, 2) := by decide +kernel
theorem dX7_init_64 : decode cX7_init 64 = .ok (.putfield 39, 3) := by decide +kernel
theorem dX7_init_67 : decode cX7_init 67 = .ok (.aload_n 0, 1) := by decide +kernel
theorem dX7_init_68 : decode cX7_init 68 = .ok (.sipush 240, 3) := by decide +kernel
theorem dX7_init_71 : decode cX7_init 71 = .ok (.newarray .int, 2) := by decide +kernel
theorem dX7_init_73 : decode cX7_init 73 = .ok (.putfield 42, 3) := by decide +kernel
theorem dX7_init_76 : decode cX7_init 76 = .ok (.aload_n 0, 1) := by decide +kernel
theorem dX7_init_77 : decode cX7_init 77 = .ok (.sipush 240, 3) := by decide +kernel
theorem dX7_init_80 : decode cX7_init 80 = .ok (.newarray .int, 2) := by decide +kernel
theorem dX7_init_82 : decode cX7_init 82 = .ok (.putfield 45, 3) := by decide +kernel
theorem dX7_init_85 : decode cX7_init 85 = .ok (.aload_n 0, 1) := by decide +kernel
theorem dX7_init_86 : decode cX7_init 86 = .ok (.sipush 240, 3) := by decide +kernel
theorem dX7_init_89 : decode cX7_init 89 = .ok (.newarray .int, 2) := by decide +kernel
theorem dX7_init_91 : decode cX7_init 91 = .ok (.putfield 48, 3) := by decide +kernel
theorem dX7_init_94 : decode cX7_init 94 = .ok (.aload_n 0, 1) := by decide +kernel
theorem dX7_init_95 : decode cX7_init 95 = .ok (.sipush 240, 3) := by decide +kernel
theorem dX7_init_98 : decode cX7_init 98 = .ok (.newarray .int, 2) := by decide +kernel
theorem dX7_init_100 : decode cX7_init 100 = .ok (.putfield 51, 3) := by decide +kernel
theorem dX7_init_103 : decode cX7_init 103 = .ok (.aload_n 0, 1) := by decide +kernel
theorem dX7_init_104 : decode cX7_init 104 = .ok (.getfield 25, 3) := by decide +kernel
theorem dX7_init_107 : decode cX7_init 107 = .ok (.iconst 0, 1) := by decide +kernel
theorem dX7_init_108 : decode cX7_init 108 = .ok (.iconst 1, 1) := by decide +kernel
theorem dX7_init_109 : decode cX7_init 109 = .ok (.iastore, 1) := by decide +kernel
theorem dX7_init_110 : decode cX7_init 110 = .ok (.return_, 1) := by decide +kernel
theorem dX7_copyFrom_0 : decode cX7_copyFrom 0 = .ok (.aload_n 0, 1) := by decide +kernel
theorem dX7_copyFrom_1 : decode cX7_copyFrom 1 = .ok (.aload_n 1, 1) := by decide +kernel
theorem dX7_copyFrom_2 : decode cX7_copyFrom 2 = .ok (.getfield 9, 3) := by decide +kernel
theorem dX7_copyFrom_5 : decode cX7_copyFrom 5 = .ok (.putfield 9, 3) := by decide +kernel
theorem dX7_copyFrom_8 : decode cX7_copyFrom 8 = .ok (.aload_n 0, 1) := by decide +kernel
theorem dX7_copyFrom_9 : decode cX7_copyFrom 9 = .ok (.aload_n 1, 1) := by decide +kernel
theorem dX7_copyFrom_10 : decode cX7_copyFrom 10 = .ok (.getfield 15, 3) := by decide +kernel
theorem dX7_copyFrom_13 : decode cX7_copyFrom 13 = .ok (.putfield 15, 3) := by decide +kernel
theorem dX7_copyFrom_16 : decode cX7_copyFrom 16 = .ok (.aload_n 0, 1) := by decide +kernel
theorem dX7_copyFrom_17 : decode cX7_copyFrom 17 = .ok (.aload_n 1, 1) := by decide +kernel
theorem dX7_copyFrom_18 : decode cX7_copyFrom 18 = .ok (.getfield 18, 3) := by decide +kernel
theorem dX7_copyFrom_21 : decode cX7_copyFrom 21 = .ok (.putfield 18, 3) := by decide +kernel
theorem dX7_copyFrom_24 : decode cX7_copyFrom 24 = .ok (.aload_n 0, 1) := by decide +kernel
theorem dX7_copyFrom_25 : decode cX7_copyFrom 25 = .ok (.aload_n 1, 1) := by decide +kernel
theorem dX7_copyFrom_26 : decode cX7_copyFrom 26 = .ok (.getfield 22, 3) := by decide +kernel
theorem dX7_copyFrom_29 : decode cX7_copyFrom 29 = .ok (.putfield 22, 3) := by decide +kernel
theorem dX7_copyFrom_32 : decode cX7_copyFrom 32 = .ok (.aload_n 1, 1) := by decide +kernel
theorem dX7_copyFrom_33 : decode cX7_copyFrom 33 = .ok (.getfield 25, 3) := by decide +kernel
theorem dX7_copyFrom_36 : decode cX7_copyFrom 36 = .ok (.iconst 0, 1) := by decide +kernel
theorem dX7_copyFrom_37 : decode cX7_copyFrom 37 = .ok (.aload_n 0, 1) := by decide +kernel
theorem dX7_copyFrom_38 : decode cX7_copyFrom 38 = .ok (.getfield 25, 3) := by decide +kernel
theorem dX7_copyFrom_41 : decode cX7_copyFrom 41 = .ok (.iconst 0, 1) := by decide +kernel
theorem dX7_copyFrom_42 : decode cX7_copyFrom 42 = .ok (.bipush 40, 2) := by decide +kernel
theorem dX7_copyFrom_44 : decode cX7_copyFrom 44 = .ok (.invokestatic 54, 3) := by decide +kernel
theorem dX7_copyFrom_47 : decode cX7_copyFrom 47 = .ok (.aload_n 1, 1) := by decide +kernel
theorem dX7_copyFrom_48 : decode cX7_copyFrom 48 = .ok (.getfield 29, 3) := by decide +kernel
theorem dX7_copyFrom_51 : decode cX7_copyFrom 51 = .ok (.iconst 0, 1) := by decide +kernel
theorem dX7_copyFrom_52 : decode cX7_copyFrom 52 = .ok (.aload_n 0, 1) := by decide +kernel
theorem dX7_copyFrom_53 : decode cX7_copyFrom 53 = .ok (.getfield 29, 3) := by decide +kernel
theorem dX7_copyFrom_56 : decode cX7_copyFrom 56 = .ok (.iconst 0, 1) := by decide +kernel
theorem dX7_copyFrom_57 : decode cX7_copyFrom 57 = .ok (.bipush 40, 2) := by decide +kernel
theorem dX7_copyFrom_59 : decode cX7_copyFrom 59 = .ok (.invokestatic 54, 3) := by decide +kernel
theorem dX7_copyFrom_62 : decode cX7_copyFrom 62 = .ok (.aload_n 1, 1) := by decide +kernel
theorem dX7_copyFrom_63 : decode cX7_copyFrom 63 = .ok (.getfield 32, 3) := by decide +kernel
theorem dX7_copyFrom_66 : decode cX7_copyFrom 66 = .ok (.iconst 0, 1) := by decide +kernel
theorem dX7_copyFrom_67 : decode cX7_copyFrom 67 = .ok (.aload_n 0, 1) := by decide +kernel
theorem dX7_copyFrom_68 : decode cX7_copyFrom 68 = .ok (.getfield 32, 3) := by decide +kernel
theorem dX7_copyFrom_71 : decode cX7_copyFrom 71 = .ok (.iconst 0, 1) := by decide +kernel
theorem dX7_copyFrom_72 : decode cX7_copyFrom 72 = .ok (.bipush 40, 2) := by decide +kernel
theorem dX7_copyFrom_74 : decode cX7_copyFrom 74 = .ok (.invokestatic 54, 3) := by decide +kernel
theorem dX7_copyFrom_77 : decode cX7_copyFrom 77 = .ok (.aload_n 1, 1) := by decide +kernel
theorem dX7_copyFrom_78 : decode cX7_copyFrom 78 = .ok (.getfield 35, 3) := by decide +kernel
theorem dX7_copyFrom_81 : decode cX7_copyFrom 81 = .ok (.iconst 0, 1) := by decide +kernel
theorem dX7_copyFrom_82 : decode cX7_copyFrom 82 = .ok (.aload_n 0, 1) := by decide +kernel
theorem dX7_copyFrom_83 : decode cX7_copyFrom 83 = .ok (.getfield 35, 3) := by decide +kernel
theorem dX7_copyFrom_86 : decode cX7_copyFrom 86 = .ok (.iconst 0, 1) := by decide +kernel
theorem dX7_copyFrom_87 : decode cX7_copyFrom 87 = .ok (.sipush 240, 3) := by decide +kernel
theorem dX7_copyFrom_90 : decode cX7_copyFrom 90 = .ok (.invokestatic 54, 3) := by decide +kernel
theorem dX7_copyFrom_93 : decode cX7_copyFrom 93 = .ok (.aload_n 1, 1) := by decide +kernel
theorem dX7_copyFrom_94 : decode cX7_copyFrom 94 = .ok (.getfield 39, 3) := by decide +kernel
theorem dX7_copyFrom_97 : decode cX7_copyFrom 97 = .ok (.iconst 0, 1) := by decide +kernel
theorem dX7_copyFrom_98 : decode cX7_copyFrom 98 = .ok (.aload_n 0, 1) := by decide +kernel
theorem dX7_copyFrom_99 : decode cX7_copyFrom 99 = .ok (.getfield 39, 3) := by decide +kernel
theorem dX7_copyFrom_102 : decode cX7_copyFrom 102 = .ok (.iconst 0, 1) := by decide +kernel
theorem dX7_copyFrom_103 : decode cX7_copyFrom 103 = .ok (.sipush 240, 3) := by decide +kernel
theorem dX7_copyFrom_106 : decode cX7_copyFrom 106 = .ok (.invokestatic 54, 3) := by decide +kernel
theorem dX7_copyFrom_109 : decode cX7_copyFrom 109 = .ok (.aload_n 1, 1) := by decide +kernel
theorem dX7_copyFrom_110 : decode cX7_copyFrom 110 = .ok (.getfield 42, 3) := by decide +kernel
theorem dX7_copyFrom_113 : decode cX7_copyFrom 113 = .ok (.iconst 0, 1) := by decide +kernel
theorem dX7_copyFrom_114 : decode cX7_copyFrom 114 = .ok (.aload_n 0, 1) := by decide +kernel
theorem dX7_copyFrom_115 : decode cX7_copyFrom 115 = .ok (.getfield 42, 3) := by decide +kernel
theorem dX7_copyFrom_118 : decode cX7_copyFrom 118 = .ok (.iconst 0, 1) := by decide +kernel
theorem dX7_copyFrom_119 : decode cX7_copyFrom 119 = .ok (.sipush 240, 3) := by decide +kernel
theorem dX7_copyFrom_122 : decode cX7_copyFrom 122 = .ok (.invokestatic 54, 3) := by decide +kernel
theorem dX7_copyFrom_125 : decode cX7_copyFrom 125 = .ok (.aload_n 1, 1) := by decide +kernel
theorem dX7_copyFrom_126 : decode cX7_copyFrom 126 = .ok (.getfield 45, 3) := by decide +kernel
theorem dX7_copyFrom_129 : decode cX7_copyFrom 129 = .ok (.iconst 0, 1) := by decide +kernel
theorem dX7_copyFrom_130 : decode cX7_copyFrom 130 = .ok (.aload_n 0, 1) := by decide +kernel
theorem dX7_copyFrom_131 : decode cX7_copyFrom 131 = .ok (.getfield 45, 3) := by decide +kernel
theorem dX7_copyFrom_134 : decode cX7_copyFrom 134 = .ok (.iconst 0, 1) := by decide +kernel
theorem dX7_copyFrom_135 : decode cX7_copyFrom 135 = .ok (.sipush 240, 3) := by decide +kernel
theorem dX7_copyFrom_138 : decode cX7_copyFrom 138 = .ok (.invokestatic 54, 3) := by decide +kernel
theorem dX7_copyFrom_141 : decode cX7_copyFrom 141 = .ok (.aload_n 1, 1) := by decide +kernel
theorem dX7_copyFrom_142 : decode cX7_copyFrom 142 = .ok (.getfield 48, 3) := by decide +kernel
theorem dX7_copyFrom_145 : decode cX7_copyFrom 145 = .ok (.iconst 0, 1) := by decide +kernel
theorem dX7_copyFrom_146 : decode cX7_copyFrom 146 = .ok (.aload_n 0, 1) := by decide +kernel
theorem dX7_copyFrom_147 : decode cX7_copyFrom 147 = .ok (.getfield 48, 3) := by decide +kernel
theorem dX7_copyFrom_150 : decode cX7_copyFrom 150 = .ok (.iconst 0, 1) := by decide +kernel
theorem dX7_copyFrom_151 : decode cX7_copyFrom 151 = .ok (.sipush 240, 3) := by decide +kernel
theorem dX7_copyFrom_154 : decode cX7_copyFrom 154 = .ok (.invokestatic 54, 3) := by decide +kernel
theorem dX7_copyFrom_157 : decode cX7_copyFrom 157 = .ok (.aload_n 1, 1) := by decide +kernel
theorem dX7_copyFrom_158 : decode cX7_copyFrom 158 = .ok (.getfield 51, 3) := by decide +kernel
theorem dX7_copyFrom_161 : decode cX7_copyFrom 161 = .ok (.iconst 0, 1) := by decide +kernel
theorem dX7_copyFrom_162 : decode cX7_copyFrom 162 = .ok (.aload_n 0, 1) := by decide +kernel
theorem dX7_copyFrom_163 : decode cX7_copyFrom 163 = .ok (.getfield 51, 3) := by decide +kernel
theorem dX7_copyFrom_166 : decode cX7_copyFrom 166 = .ok (.iconst 0, 1) := by decide +kernel
theorem dX7_copyFrom_167 : decode cX7_copyFrom 167 = .ok (.sipush 240, 3) := by decide +kernel
theorem dX7_copyFrom_170 : decode cX7_copyFrom 170 = .ok (.invokestatic 54, 3) := by decide +kernel
theorem dX7_copyFrom_173 : decode cX7_copyFrom 173 = .ok (.return_, 1) := by decide +kernel
theorem dX7_hashOf_0 : decode cX7_hashOf 0 = .ok (.lload_n 1, 1) := by decide +kernel
theorem dX7_hashOf_1 : decode cX7_hashOf 1 = .ok (.aload_n 0, 1) := by decide +kernel
theorem dX7_hashOf_2 : decode cX7_hashOf 2 = .ok (.getfield 15, 3) := by decide +kernel
theorem dX7_hashOf_5 : decode cX7_hashOf 5 = .ok (.aload_n 0, 1) := by decide +kernel
theorem dX7_hashOf_6 : decode cX7_hashOf 6 = .ok (.getfield 9, 3) := by decide +kernel
theorem dX7_hashOf_9 : decode cX7_hashOf 9 = .ok (.aload_n 0, 1) := by decide +kernel
theorem dX7_hashOf_10 : decode cX7_hashOf 10 = .ok (.getfield 18, 3) := by decide +kernel
theorem dX7_hashOf_13 : decode cX7_hashOf 13 = .ok (.invokestatic 60, 3) := by decide +kernel
theorem dX7_hashOf_16 : decode cX7_hashOf 16 = .ok (.ireturn, 1) := by decide +kernel
theorem dX7_entriesIn_0 : decode cX7_entriesIn 0 = .ok (.iconst 0, 1) := by decide +kernel
theorem dX7_entriesIn_1 : decode cX7_entriesIn 1 = .ok (.istore_n 2, 1) := by decide +kernel
theorem dX7_entriesIn_2 : decode cX7_entriesIn 2 = .ok (.iconst 0, 1) := by decide +kernel
theorem dX7_entriesIn_3 : decode cX7_entriesIn 3 = .ok (.istore_n 3, 1) := by decide +kernel
theorem dX7_entriesIn_4 : decode cX7_entriesIn 4 = .ok (.iload_n 3, 1) := by decide +kernel
theorem dX7_entriesIn_5 : decode cX7_entriesIn 5 = .ok (.bipush 6, 2) := by decide +kernel
theorem dX7_entriesIn_7 : decode cX7_entriesIn 7 = .ok (.if_icmp .ge 28, 3) := by decide +kernel
theorem dX7_entriesIn_10 : decode cX7_entriesIn 10 = .ok (.aload_n 0, 1) := by decide +kernel
theorem dX7_entriesIn_11 : decode cX7_entriesIn 11 = .ok (.getfield 35, 3) := by decide +kernel
theorem dX7_entriesIn_14 : decode cX7_entriesIn 14 = .ok (.iload_n 1, 1) := by decide +kernel
theorem dX7_entriesIn_15 : decode cX7_entriesIn 15 = .ok (.bipush 6, 2) := by decide +kernel
theorem dX7_entriesIn_17 : decode cX7_entriesIn 17 = .ok (.imul, 1) := by decide +kernel
theorem dX7_entriesIn_18 : decode cX7_entriesIn 18 = .ok (.iload_n 3, 1) := by decide +kernel
theorem dX7_entriesIn_19 : decode cX7_entriesIn 19 = .ok (.iadd, 1) := by decide +kernel
theorem dX7_entriesIn_20 : decode cX7_entriesIn 20 = .ok (.laload, 1) := by decide +kernel
theorem dX7_entriesIn_21 : decode cX7_entriesIn 21 = .ok (.lconst 0, 1) := by decide +kernel
theorem dX7_entriesIn_22 : decode cX7_entriesIn 22 = .ok (.lcmp, 1) := by decide +kernel
theorem dX7_entriesIn_23 : decode cX7_entriesIn 23 = .ok (.ifCond .eq 6, 3) := by decide +kernel
theorem dX7_entriesIn_26 : decode cX7_entriesIn 26 = .ok (.iinc 2 1, 3) := by decide +kernel
theorem dX7_entriesIn_29 : decode cX7_entriesIn 29 = .ok (.iinc 3 1, 3) := by decide +kernel
theorem dX7_entriesIn_32 : decode cX7_entriesIn 32 = .ok (.goto (-28), 3) := by decide +kernel
theorem dX7_entriesIn_35 : decode cX7_entriesIn 35 = .ok (.iload_n 2, 1) := by decide +kernel
theorem dX7_entriesIn_36 : decode cX7_entriesIn 36 = .ok (.ireturn, 1) := by decide +kernel
theorem dX7_entriesInAll_0 : decode cX7_entriesInAll 0 = .ok (.iconst 0, 1) := by decide +kernel
theorem dX7_entriesInAll_1 : decode cX7_entriesInAll 1 = .ok (.istore_n 1, 1) := by decide +kernel
theorem dX7_entriesInAll_2 : decode cX7_entriesInAll 2 = .ok (.iconst 0, 1) := by decide +kernel
theorem dX7_entriesInAll_3 : decode cX7_entriesInAll 3 = .ok (.istore_n 2, 1) := by decide +kernel
theorem dX7_entriesInAll_4 : decode cX7_entriesInAll 4 = .ok (.iload_n 2, 1) := by decide +kernel
theorem dX7_entriesInAll_5 : decode cX7_entriesInAll 5 = .ok (.sipush 240, 3) := by decide +kernel
theorem dX7_entriesInAll_8 : decode cX7_entriesInAll 8 = .ok (.if_icmp .ge 23, 3) := by decide +kernel
theorem dX7_entriesInAll_11 : decode cX7_entriesInAll 11 = .ok (.aload_n 0, 1) := by decide +kernel
theorem dX7_entriesInAll_12 : decode cX7_entriesInAll 12 = .ok (.getfield 35, 3) := by decide +kernel
theorem dX7_entriesInAll_15 : decode cX7_entriesInAll 15 = .ok (.iload_n 2, 1) := by decide +kernel
theorem dX7_entriesInAll_16 : decode cX7_entriesInAll 16 = .ok (.laload, 1) := by decide +kernel
theorem dX7_entriesInAll_17 : decode cX7_entriesInAll 17 = .ok (.lconst 0, 1) := by decide +kernel
theorem dX7_entriesInAll_18 : decode cX7_entriesInAll 18 = .ok (.lcmp, 1) := by decide +kernel
theorem dX7_entriesInAll_19 : decode cX7_entriesInAll 19 = .ok (.ifCond .eq 6, 3) := by decide +kernel
theorem dX7_entriesInAll_22 : decode cX7_entriesInAll 22 = .ok (.iinc 1 1, 3) := by decide +kernel
theorem dX7_entriesInAll_25 : decode cX7_entriesInAll 25 = .ok (.iinc 2 1, 3) := by decide +kernel
theorem dX7_entriesInAll_28 : decode cX7_entriesInAll 28 = .ok (.goto (-24), 3) := by decide +kernel
theorem dX7_entriesInAll_31 : decode cX7_entriesInAll 31 = .ok (.iload_n 1, 1) := by decide +kernel
theorem dX7_entriesInAll_32 : decode cX7_entriesInAll 32 = .ok (.ireturn, 1) := by decide +kernel
theorem dX7_entriesOfHash_0 : decode cX7_entriesOfHash 0 = .ok (.iconst 0, 1) := by decide +kernel
theorem dX7_entriesOfHash_1 : decode cX7_entriesOfHash 1 = .ok (.istore_n 2, 1) := by decide +kernel
theorem dX7_entriesOfHash_2 : decode cX7_entriesOfHash 2 = .ok (.iconst 0, 1) := by decide +kernel
theorem dX7_entriesOfHash_3 : decode cX7_entriesOfHash 3 = .ok (.istore_n 3, 1) := by decide +kernel
theorem dX7_entriesOfHash_4 : decode cX7_entriesOfHash 4 = .ok (.iload_n 3, 1) := by decide +kernel
theorem dX7_entriesOfHash_5 : decode cX7_entriesOfHash 5 = .ok (.sipush 240, 3) := by decide +kernel
theorem dX7_entriesOfHash_8 : decode cX7_entriesOfHash 8 = .ok (.if_icmp .ge 33, 3) := by decide +kernel
theorem dX7_entriesOfHash_11 : decode cX7_entriesOfHash 11 = .ok (.aload_n 0, 1) := by decide +kernel
theorem dX7_entriesOfHash_12 : decode cX7_entriesOfHash 12 = .ok (.getfield 35, 3) := by decide +kernel
theorem dX7_entriesOfHash_15 : decode cX7_entriesOfHash 15 = .ok (.iload_n 3, 1) := by decide +kernel
theorem dX7_entriesOfHash_16 : decode cX7_entriesOfHash 16 = .ok (.laload, 1) := by decide +kernel
theorem dX7_entriesOfHash_17 : decode cX7_entriesOfHash 17 = .ok (.lconst 0, 1) := by decide +kernel
theorem dX7_entriesOfHash_18 : decode cX7_entriesOfHash 18 = .ok (.lcmp, 1) := by decide +kernel
theorem dX7_entriesOfHash_19 : decode cX7_entriesOfHash 19 = .ok (.ifCond .eq 16, 3) := by decide +kernel
theorem dX7_entriesOfHash_22 : decode cX7_entriesOfHash 22 = .ok (.aload_n 0, 1) := by decide +kernel
theorem dX7_entriesOfHash_23 : decode cX7_entriesOfHash 23 = .ok (.getfield 42, 3) := by decide +kernel
theorem dX7_entriesOfHash_26 : decode cX7_entriesOfHash 26 = .ok (.iload_n 3, 1) := by decide +kernel
theorem dX7_entriesOfHash_27 : decode cX7_entriesOfHash 27 = .ok (.iaload, 1) := by decide +kernel
theorem dX7_entriesOfHash_28 : decode cX7_entriesOfHash 28 = .ok (.iload_n 1, 1) := by decide +kernel
theorem dX7_entriesOfHash_29 : decode cX7_entriesOfHash 29 = .ok (.if_icmp .ne 6, 3) := by decide +kernel
theorem dX7_entriesOfHash_32 : decode cX7_entriesOfHash 32 = .ok (.iinc 2 1, 3) := by decide +kernel
theorem dX7_entriesOfHash_35 : decode cX7_entriesOfHash 35 = .ok (.iinc 3 1, 3) := by decide +kernel
theorem dX7_entriesOfHash_38 : decode cX7_entriesOfHash 38 = .ok (.goto (-34), 3) := by decide +kernel
theorem dX7_entriesOfHash_41 : decode cX7_entriesOfHash 41 = .ok (.iload_n 2, 1) := by decide +kernel
theorem dX7_entriesOfHash_42 : decode cX7_entriesOfHash 42 = .ok (.ireturn, 1) := by decide +kernel
theorem dX7_leastHashFrom_0 : decode cX7_leastHashFrom 0 = .ok (.iconst (-1), 1) := by decide +kernel
theorem dX7_leastHashFrom_1 : decode cX7_leastHashFrom 1 = .ok (.istore_n 2, 1) := by decide +kernel
theorem dX7_leastHashFrom_2 : decode cX7_leastHashFrom 2 = .ok (.iconst 0, 1) := by decide +kernel
theorem dX7_leastHashFrom_3 : decode cX7_leastHashFrom 3 = .ok (.istore_n 3, 1) := by decide +kernel
theorem dX7_leastHashFrom_4 : decode cX7_leastHashFrom 4 = .ok (.iload_n 3, 1) := by decide +kernel
theorem dX7_leastHashFrom_5 : decode cX7_leastHashFrom 5 = .ok (.sipush 240, 3) := by decide +kernel
theorem dX7_leastHashFrom_8 : decode cX7_leastHashFrom 8 = .ok (.if_icmp .ge 64, 3) := by decide +kernel
theorem dX7_leastHashFrom_11 : decode cX7_leastHashFrom 11 = .ok (.aload_n 0, 1) := by decide +kernel
theorem dX7_leastHashFrom_12 : decode cX7_leastHashFrom 12 = .ok (.getfield 35, 3) := by decide +kernel
theorem dX7_leastHashFrom_15 : decode cX7_leastHashFrom 15 = .ok (.iload_n 3, 1) := by decide +kernel
theorem dX7_leastHashFrom_16 : decode cX7_leastHashFrom 16 = .ok (.laload, 1) := by decide +kernel
theorem dX7_leastHashFrom_17 : decode cX7_leastHashFrom 17 = .ok (.lconst 0, 1) := by decide +kernel
theorem dX7_leastHashFrom_18 : decode cX7_leastHashFrom 18 = .ok (.lcmp, 1) := by decide +kernel
theorem dX7_leastHashFrom_19 : decode cX7_leastHashFrom 19 = .ok (.ifCond .eq 17, 3) := by decide +kernel
theorem dX7_leastHashFrom_22 : decode cX7_leastHashFrom 22 = .ok (.aload_n 0, 1) := by decide +kernel
theorem dX7_leastHashFrom_23 : decode cX7_leastHashFrom 23 = .ok (.getfield 42, 3) := by decide +kernel
theorem dX7_leastHashFrom_26 : decode cX7_leastHashFrom 26 = .ok (.iload_n 3, 1) := by decide +kernel
theorem dX7_leastHashFrom_27 : decode cX7_leastHashFrom 27 = .ok (.iaload, 1) := by decide +kernel
theorem dX7_leastHashFrom_28 : decode cX7_leastHashFrom 28 = .ok (.iload_n 1, 1) := by decide +kernel
theorem dX7_leastHashFrom_29 : decode cX7_leastHashFrom 29 = .ok (.if_icmp .lt 7, 3) := by decide +kernel
theorem dX7_leastHashFrom_32 : decode cX7_leastHashFrom 32 = .ok (.iconst 1, 1) := by decide +kernel
theorem dX7_leastHashFrom_33 : decode cX7_leastHashFrom 33 = .ok (.goto 4, 3) := by decide +kernel
theorem dX7_leastHashFrom_36 : decode cX7_leastHashFrom 36 = .ok (.iconst 0, 1) := by decide +kernel
theorem dX7_leastHashFrom_37 : decode cX7_leastHashFrom 37 = .ok (.istore 4, 2) := by decide +kernel
theorem dX7_leastHashFrom_39 : decode cX7_leastHashFrom 39 = .ok (.iload 4, 2) := by decide +kernel
theorem dX7_leastHashFrom_41 : decode cX7_leastHashFrom 41 = .ok (.ifCond .eq 25, 3) := by decide +kernel
theorem dX7_leastHashFrom_44 : decode cX7_leastHashFrom 44 = .ok (.iload_n 2, 1) := by decide +kernel
theorem dX7_leastHashFrom_45 : decode cX7_leastHashFrom 45 = .ok (.iconst (-1), 1) := by decide +kernel
theorem dX7_leastHashFrom_46 : decode cX7_leastHashFrom 46 = .ok (.if_icmp .eq 13, 3) := by decide +kernel
theorem dX7_leastHashFrom_49 : decode cX7_leastHashFrom 49 = .ok (.aload_n 0, 1) := by decide +kernel
theorem dX7_leastHashFrom_50 : decode cX7_leastHashFrom 50 = .ok (.getfield 42, 3) := by decide +kernel
theorem dX7_leastHashFrom_53 : decode cX7_leastHashFrom 53 = .ok (.iload_n 3, 1) := by decide +kernel
theorem dX7_leastHashFrom_54 : decode cX7_leastHashFrom 54 = .ok (.iaload, 1) := by decide +kernel
theorem dX7_leastHashFrom_55 : decode cX7_leastHashFrom 55 = .ok (.iload_n 2, 1) := by decide +kernel
theorem dX7_leastHashFrom_56 : decode cX7_leastHashFrom 56 = .ok (.if_icmp .ge 10, 3) := by decide +kernel
theorem dX7_leastHashFrom_59 : decode cX7_leastHashFrom 59 = .ok (.aload_n 0, 1) := by decide +kernel
theorem dX7_leastHashFrom_60 : decode cX7_leastHashFrom 60 = .ok (.getfield 42, 3) := by decide +kernel
theorem dX7_leastHashFrom_63 : decode cX7_leastHashFrom 63 = .ok (.iload_n 3, 1) := by decide +kernel
theorem dX7_leastHashFrom_64 : decode cX7_leastHashFrom 64 = .ok (.iaload, 1) := by decide +kernel
theorem dX7_leastHashFrom_65 : decode cX7_leastHashFrom 65 = .ok (.istore_n 2, 1) := by decide +kernel
theorem dX7_leastHashFrom_66 : decode cX7_leastHashFrom 66 = .ok (.iinc 3 1, 3) := by decide +kernel
theorem dX7_leastHashFrom_69 : decode cX7_leastHashFrom 69 = .ok (.goto (-65), 3) := by decide +kernel
theorem dX7_leastHashFrom_72 : decode cX7_leastHashFrom 72 = .ok (.iload_n 2, 1) := by decide +kernel
theorem dX7_leastHashFrom_73 : decode cX7_leastHashFrom 73 = .ok (.ireturn, 1) := by decide +kernel
theorem dX7_blocksOfKind_0 : decode cX7_blocksOfKind 0 = .ok (.iconst 0, 1) := by decide +kernel
theorem dX7_blocksOfKind_1 : decode cX7_blocksOfKind 1 = .ok (.istore_n 2, 1) := by decide +kernel
theorem dX7_blocksOfKind_2 : decode cX7_blocksOfKind 2 = .ok (.iconst 0, 1) := by decide +kernel
theorem dX7_blocksOfKind_3 : decode cX7_blocksOfKind 3 = .ok (.istore_n 3, 1) := by decide +kernel
theorem dX7_blocksOfKind_4 : decode cX7_blocksOfKind 4 = .ok (.iload_n 3, 1) := by decide +kernel
theorem dX7_blocksOfKind_5 : decode cX7_blocksOfKind 5 = .ok (.bipush 40, 2) := by decide +kernel
theorem dX7_blocksOfKind_7 : decode cX7_blocksOfKind 7 = .ok (.if_icmp .ge 22, 3) := by decide +kernel
theorem dX7_blocksOfKind_10 : decode cX7_blocksOfKind 10 = .ok (.aload_n 0, 1) := by decide +kernel
theorem dX7_blocksOfKind_11 : decode cX7_blocksOfKind 11 = .ok (.getfield 25, 3) := by decide +kernel
theorem dX7_blocksOfKind_14 : decode cX7_blocksOfKind 14 = .ok (.iload_n 3, 1) := by decide +kernel
theorem dX7_blocksOfKind_15 : decode cX7_blocksOfKind 15 = .ok (.iaload, 1) := by decide +kernel
theorem dX7_blocksOfKind_16 : decode cX7_blocksOfKind 16 = .ok (.iload_n 1, 1) := by decide +kernel
theorem dX7_blocksOfKind_17 : decode cX7_blocksOfKind 17 = .ok (.if_icmp .ne 6, 3) := by decide +kernel
theorem dX7_blocksOfKind_20 : decode cX7_blocksOfKind 20 = .ok (.iinc 2 1, 3) := by decide +kernel
theorem dX7_blocksOfKind_23 : decode cX7_blocksOfKind 23 = .ok (.iinc 3 1, 3) := by decide +kernel
theorem dX7_blocksOfKind_26 : decode cX7_blocksOfKind 26 = .ok (.goto (-22), 3) := by decide +kernel
theorem dX7_blocksOfKind_29 : decode cX7_blocksOfKind 29 = .ok (.iload_n 2, 1) := by decide +kernel
theorem dX7_blocksOfKind_30 : decode cX7_blocksOfKind 30 = .ok (.ireturn, 1) := by decide +kernel
theorem dX7_tornIndexes_0 : decode cX7_tornIndexes 0 = .ok (.iconst 0, 1) := by decide +kernel
theorem dX7_tornIndexes_1 : decode cX7_tornIndexes 1 = .ok (.istore_n 1, 1) := by decide +kernel
theorem dX7_tornIndexes_2 : decode cX7_tornIndexes 2 = .ok (.iconst 0, 1) := by decide +kernel
theorem dX7_tornIndexes_3 : decode cX7_tornIndexes 3 = .ok (.istore_n 2, 1) := by decide +kernel
theorem dX7_tornIndexes_4 : decode cX7_tornIndexes 4 = .ok (.iload_n 2, 1) := by decide +kernel
theorem dX7_tornIndexes_5 : decode cX7_tornIndexes 5 = .ok (.bipush 40, 2) := by decide +kernel
theorem dX7_tornIndexes_7 : decode cX7_tornIndexes 7 = .ok (.if_icmp .ge 18, 3) := by decide +kernel
theorem dX7_tornIndexes_10 : decode cX7_tornIndexes 10 = .ok (.iload_n 1, 1) := by decide +kernel
theorem dX7_tornIndexes_11 : decode cX7_tornIndexes 11 = .ok (.aload_n 0, 1) := by decide +kernel
theorem dX7_tornIndexes_12 : decode cX7_tornIndexes 12 = .ok (.getfield 32, 3) := by decide +kernel
theorem dX7_tornIndexes_15 : decode cX7_tornIndexes 15 = .ok (.iload_n 2, 1) := by decide +kernel
theorem dX7_tornIndexes_16 : decode cX7_tornIndexes 16 = .ok (.iaload, 1) := by decide +kernel
theorem dX7_tornIndexes_17 : decode cX7_tornIndexes 17 = .ok (.iadd, 1) := by decide +kernel
theorem dX7_tornIndexes_18 : decode cX7_tornIndexes 18 = .ok (.istore_n 1, 1) := by decide +kernel
theorem dX7_tornIndexes_19 : decode cX7_tornIndexes 19 = .ok (.iinc 2 1, 3) := by decide +kernel
theorem dX7_tornIndexes_22 : decode cX7_tornIndexes 22 = .ok (.goto (-18), 3) := by decide +kernel
theorem dX7_tornIndexes_25 : decode cX7_tornIndexes 25 = .ok (.iload_n 1, 1) := by decide +kernel
theorem dX7_tornIndexes_26 : decode cX7_tornIndexes 26 = .ok (.ireturn, 1) := by decide +kernel
theorem dX7_emptySlotOf_0 : decode cX7_emptySlotOf 0 = .ok (.iconst 0, 1) := by decide +kernel
theorem dX7_emptySlotOf_1 : decode cX7_emptySlotOf 1 = .ok (.istore_n 2, 1) := by decide +kernel
theorem dX7_emptySlotOf_2 : decode cX7_emptySlotOf 2 = .ok (.iload_n 2, 1) := by decide +kernel
theorem dX7_emptySlotOf_3 : decode cX7_emptySlotOf 3 = .ok (.bipush 6, 2) := by decide +kernel
theorem dX7_emptySlotOf_5 : decode cX7_emptySlotOf 5 = .ok (.if_icmp .ge 27, 3) := by decide +kernel
theorem dX7_emptySlotOf_8 : decode cX7_emptySlotOf 8 = .ok (.aload_n 0, 1) := by decide +kernel
theorem dX7_emptySlotOf_9 : decode cX7_emptySlotOf 9 = .ok (.getfield 35, 3) := by decide +kernel
theorem dX7_emptySlotOf_12 : decode cX7_emptySlotOf 12 = .ok (.iload_n 1, 1) := by decide +kernel
theorem dX7_emptySlotOf_13 : decode cX7_emptySlotOf 13 = .ok (.bipush 6, 2) := by decide +kernel
theorem dX7_emptySlotOf_15 : decode cX7_emptySlotOf 15 = .ok (.imul, 1) := by decide +kernel
theorem dX7_emptySlotOf_16 : decode cX7_emptySlotOf 16 = .ok (.iload_n 2, 1) := by decide +kernel
theorem dX7_emptySlotOf_17 : decode cX7_emptySlotOf 17 = .ok (.iadd, 1) := by decide +kernel
theorem dX7_emptySlotOf_18 : decode cX7_emptySlotOf 18 = .ok (.laload, 1) := by decide +kernel
theorem dX7_emptySlotOf_19 : decode cX7_emptySlotOf 19 = .ok (.lconst 0, 1) := by decide +kernel
theorem dX7_emptySlotOf_20 : decode cX7_emptySlotOf 20 = .ok (.lcmp, 1) := by decide +kernel
theorem dX7_emptySlotOf_21 : decode cX7_emptySlotOf 21 = .ok (.ifCond .ne 5, 3) := by decide +kernel
theorem dX7_emptySlotOf_24 : decode cX7_emptySlotOf 24 = .ok (.iload_n 2, 1) := by decide +kernel
theorem dX7_emptySlotOf_25 : decode cX7_emptySlotOf 25 = .ok (.ireturn, 1) := by decide +kernel
theorem dX7_emptySlotOf_26 : decode cX7_emptySlotOf 26 = .ok (.iinc 2 1, 3) := by decide +kernel
theorem dX7_emptySlotOf_29 : decode cX7_emptySlotOf 29 = .ok (.goto (-27), 3) := by decide +kernel
theorem dX7_emptySlotOf_32 : decode cX7_emptySlotOf 32 = .ok (.iconst (-1), 1) := by decide +kernel
theorem dX7_emptySlotOf_33 : decode cX7_emptySlotOf 33 = .ok (.ireturn, 1) := by decide +kernel
theorem dX7_setEntry_0 : decode cX7_setEntry 0 = .ok (.aload_n 0, 1) := by decide +kernel
theorem dX7_setEntry_1 : decode cX7_setEntry 1 = .ok (.getfield 35, 3) := by decide +kernel
theorem dX7_setEntry_4 : decode cX7_setEntry 4 = .ok (.iload_n 1, 1) := by decide +kernel
theorem dX7_setEntry_5 : decode cX7_setEntry 5 = .ok (.lload_n 2, 1) := by decide +kernel
theorem dX7_setEntry_6 : decode cX7_setEntry 6 = .ok (.lastore, 1) := by decide +kernel
theorem dX7_setEntry_7 : decode cX7_setEntry 7 = .ok (.aload_n 0, 1) := by decide +kernel
theorem dX7_setEntry_8 : decode cX7_setEntry 8 = .ok (.getfield 39, 3) := by decide +kernel
theorem dX7_setEntry_11 : decode cX7_setEntry 11 = .ok (.iload_n 1, 1) := by decide +kernel
theorem dX7_setEntry_12 : decode cX7_setEntry 12 = .ok (.iload 4, 2) := by decide +kernel
theorem dX7_setEntry_14 : decode cX7_setEntry 14 = .ok (.iastore, 1) := by decide +kernel
theorem dX7_setEntry_15 : decode cX7_setEntry 15 = .ok (.aload_n 0, 1) := by decide +kernel
theorem dX7_setEntry_16 : decode cX7_setEntry 16 = .ok (.getfield 42, 3) := by decide +kernel
theorem dX7_setEntry_19 : decode cX7_setEntry 19 = .ok (.iload_n 1, 1) := by decide +kernel
theorem dX7_setEntry_20 : decode cX7_setEntry 20 = .ok (.iload 5, 2) := by decide +kernel
theorem dX7_setEntry_22 : decode cX7_setEntry 22 = .ok (.iastore, 1) := by decide +kernel
theorem dX7_setEntry_23 : decode cX7_setEntry 23 = .ok (.return_, 1) := by decide +kernel
theorem dX7_takeLeastFree_0 : decode cX7_takeLeastFree 0 = .ok (.bipush 39, 2) := by decide +kernel
theorem dX7_takeLeastFree_2 : decode cX7_takeLeastFree 2 = .ok (.istore_n 2, 1) := by decide +kernel
theorem dX7_takeLeastFree_3 : decode cX7_takeLeastFree 3 = .ok (.bipush 39, 2) := by decide +kernel
theorem dX7_takeLeastFree_5 : decode cX7_takeLeastFree 5 = .ok (.istore_n 3, 1) := by decide +kernel
theorem dX7_takeLeastFree_6 : decode cX7_takeLeastFree 6 = .ok (.iload_n 3, 1) := by decide +kernel
theorem dX7_takeLeastFree_7 : decode cX7_takeLeastFree 7 = .ok (.ifCond .le 20, 3) := by decide +kernel
theorem dX7_takeLeastFree_10 : decode cX7_takeLeastFree 10 = .ok (.aload_n 0, 1) := by decide +kernel
theorem dX7_takeLeastFree_11 : decode cX7_takeLeastFree 11 = .ok (.getfield 25, 3) := by decide +kernel
theorem dX7_takeLeastFree_14 : decode cX7_takeLeastFree 14 = .ok (.iload_n 3, 1) := by decide +kernel
theorem dX7_takeLeastFree_15 : decode cX7_takeLeastFree 15 = .ok (.iaload, 1) := by decide +kernel
theorem dX7_takeLeastFree_16 : decode cX7_takeLeastFree 16 = .ok (.ifCond .ne 5, 3) := by decide +kernel
theorem dX7_takeLeastFree_19 : decode cX7_takeLeastFree 19 = .ok (.iload_n 3, 1) := by decide +kernel
theorem dX7_takeLeastFree_20 : decode cX7_takeLeastFree 20 = .ok (.istore_n 2, 1) := by decide +kernel
theorem dX7_takeLeastFree_21 : decode cX7_takeLeastFree 21 = .ok (.iinc 3 (-1), 3) := by decide +kernel
theorem dX7_takeLeastFree_24 : decode cX7_takeLeastFree 24 = .ok (.goto (-18), 3) := by decide +kernel
theorem dX7_takeLeastFree_27 : decode cX7_takeLeastFree 27 = .ok (.aload_n 0, 1) := by decide +kernel
theorem dX7_takeLeastFree_28 : decode cX7_takeLeastFree 28 = .ok (.getfield 25, 3) := by decide +kernel
theorem dX7_takeLeastFree_31 : decode cX7_takeLeastFree 31 = .ok (.iload_n 2, 1) := by decide +kernel
theorem dX7_takeLeastFree_32 : decode cX7_takeLeastFree 32 = .ok (.iload_n 1, 1) := by decide +kernel
theorem dX7_takeLeastFree_33 : decode cX7_takeLeastFree 33 = .ok (.iastore, 1) := by decide +kernel
theorem dX7_takeLeastFree_34 : decode cX7_takeLeastFree 34 = .ok (.iload_n 2, 1) := by decide +kernel
theorem dX7_takeLeastFree_35 : decode cX7_takeLeastFree 35 = .ok (.ireturn, 1) := by decide +kernel
theorem dX7_freeAll_0 : decode cX7_freeAll 0 = .ok (.iconst 0, 1) := by decide +kernel
theorem dX7_freeAll_1 : decode cX7_freeAll 1 = .ok (.istore_n 1, 1) := by decide +kernel
theorem dX7_freeAll_2 : decode cX7_freeAll 2 = .ok (.iload_n 1, 1) := by decide +kernel
theorem dX7_freeAll_3 : decode cX7_freeAll 3 = .ok (.bipush 40, 2) := by decide +kernel
theorem dX7_freeAll_5 : decode cX7_freeAll 5 = .ok (.if_icmp .ge 30, 3) := by decide +kernel
theorem dX7_freeAll_8 : decode cX7_freeAll 8 = .ok (.aload_n 0, 1) := by decide +kernel
theorem dX7_freeAll_9 : decode cX7_freeAll 9 = .ok (.getfield 25, 3) := by decide +kernel
theorem dX7_freeAll_12 : decode cX7_freeAll 12 = .ok (.iload_n 1, 1) := by decide +kernel
theorem dX7_freeAll_13 : decode cX7_freeAll 13 = .ok (.iconst 0, 1) := by decide +kernel
theorem dX7_freeAll_14 : decode cX7_freeAll 14 = .ok (.iastore, 1) := by decide +kernel
theorem dX7_freeAll_15 : decode cX7_freeAll 15 = .ok (.aload_n 0, 1) := by decide +kernel
theorem dX7_freeAll_16 : decode cX7_freeAll 16 = .ok (.getfield 29, 3) := by decide +kernel
theorem dX7_freeAll_19 : decode cX7_freeAll 19 = .ok (.iload_n 1, 1) := by decide +kernel
theorem dX7_freeAll_20 : decode cX7_freeAll 20 = .ok (.iconst 0, 1) := by decide +kernel
theorem dX7_freeAll_21 : decode cX7_freeAll 21 = .ok (.iastore, 1) := by decide +kernel
theorem dX7_freeAll_22 : decode cX7_freeAll 22 = .ok (.aload_n 0, 1) := by decide +kernel
theorem dX7_freeAll_23 : decode cX7_freeAll 23 = .ok (.getfield 32, 3) := by decide +kernel
theorem dX7_freeAll_26 : decode cX7_freeAll 26 = .ok (.iload_n 1, 1) := by decide +kernel
theorem dX7_freeAll_27 : decode cX7_freeAll 27 = .ok (.iconst 0, 1) := by decide +kernel
theorem dX7_freeAll_28 : decode cX7_freeAll 28 = .ok (.iastore, 1) := by decide +kernel
theorem dX7_freeAll_29 : decode cX7_freeAll 29 = .ok (.iinc 1 1, 3) := by decide +kernel
theorem dX7_freeAll_32 : decode cX7_freeAll 32 = .ok (.goto (-30), 3) := by decide +kernel
theorem dX7_freeAll_35 : decode cX7_freeAll 35 = .ok (.iconst 0, 1) := by decide +kernel
theorem dX7_freeAll_36 : decode cX7_freeAll 36 = .ok (.istore_n 1, 1) := by decide +kernel
theorem dX7_freeAll_37 : decode cX7_freeAll 37 = .ok (.iload_n 1, 1) := by decide +kernel
theorem dX7_freeAll_38 : decode cX7_freeAll 38 = .ok (.sipush 240, 3) := by decide +kernel
theorem dX7_freeAll_41 : decode cX7_freeAll 41 = .ok (.if_icmp .ge 16, 3) := by decide +kernel
theorem dX7_freeAll_44 : decode cX7_freeAll 44 = .ok (.aload_n 0, 1) := by decide +kernel
theorem dX7_freeAll_45 : decode cX7_freeAll 45 = .ok (.getfield 35, 3) := by decide +kernel
theorem dX7_freeAll_48 : decode cX7_freeAll 48 = .ok (.iload_n 1, 1) := by decide +kernel
theorem dX7_freeAll_49 : decode cX7_freeAll 49 = .ok (.lconst 0, 1) := by decide +kernel
theorem dX7_freeAll_50 : decode cX7_freeAll 50 = .ok (.lastore, 1) := by decide +kernel
theorem dX7_freeAll_51 : decode cX7_freeAll 51 = .ok (.iinc 1 1, 3) := by decide +kernel
theorem dX7_freeAll_54 : decode cX7_freeAll 54 = .ok (.goto (-17), 3) := by decide +kernel
theorem dX7_freeAll_57 : decode cX7_freeAll 57 = .ok (.return_, 1) := by decide +kernel
theorem dX7_layLeaf_0 : decode cX7_layLeaf 0 = .ok (.aload_n 0, 1) := by decide +kernel
theorem dX7_layLeaf_1 : decode cX7_layLeaf 1 = .ok (.getfield 25, 3) := by decide +kernel
theorem dX7_layLeaf_4 : decode cX7_layLeaf 4 = .ok (.iload_n 1, 1) := by decide +kernel
theorem dX7_layLeaf_5 : decode cX7_layLeaf 5 = .ok (.iconst 1, 1) := by decide +kernel
theorem dX7_layLeaf_6 : decode cX7_layLeaf 6 = .ok (.iastore, 1) := by decide +kernel
theorem dX7_layLeaf_7 : decode cX7_layLeaf 7 = .ok (.iconst 0, 1) := by decide +kernel
theorem dX7_layLeaf_8 : decode cX7_layLeaf 8 = .ok (.istore 5, 2) := by decide +kernel
theorem dX7_layLeaf_10 : decode cX7_layLeaf 10 = .ok (.iload 5, 2) := by decide +kernel
theorem dX7_layLeaf_12 : decode cX7_layLeaf 12 = .ok (.bipush 6, 2) := by decide +kernel
theorem dX7_layLeaf_14 : decode cX7_layLeaf 14 = .ok (.if_icmp .ge 79, 3) := by decide +kernel
theorem dX7_layLeaf_17 : decode cX7_layLeaf 17 = .ok (.iload_n 3, 1) := by decide +kernel
theorem dX7_layLeaf_18 : decode cX7_layLeaf 18 = .ok (.iload 5, 2) := by decide +kernel
theorem dX7_layLeaf_20 : decode cX7_layLeaf 20 = .ok (.iadd, 1) := by decide +kernel
theorem dX7_layLeaf_21 : decode cX7_layLeaf 21 = .ok (.istore 6, 2) := by decide +kernel
theorem dX7_layLeaf_23 : decode cX7_layLeaf 23 = .ok (.iload 6, 2) := by decide +kernel
theorem dX7_layLeaf_25 : decode cX7_layLeaf 25 = .ok (.iload 4, 2) := by decide +kernel
theorem dX7_layLeaf_27 : decode cX7_layLeaf 27 = .ok (.if_icmp .ge 47, 3) := by decide +kernel
theorem dX7_layLeaf_30 : decode cX7_layLeaf 30 = .ok (.iload 6, 2) := by decide +kernel
theorem dX7_layLeaf_32 : decode cX7_layLeaf 32 = .ok (.aload_n 2, 1) := by decide +kernel
theorem dX7_layLeaf_33 : decode cX7_layLeaf 33 = .ok (.getfield 64, 3) := by decide +kernel
theorem dX7_layLeaf_36 : decode cX7_layLeaf 36 = .ok (.if_icmp .ge 38, 3) := by decide +kernel
theorem dX7_layLeaf_39 : decode cX7_layLeaf 39 = .ok (.aload_n 0, 1) := by decide +kernel
theorem dX7_layLeaf_40 : decode cX7_layLeaf 40 = .ok (.iload_n 1, 1) := by decide +kernel
theorem dX7_layLeaf_41 : decode cX7_layLeaf 41 = .ok (.bipush 6, 2) := by decide +kernel
theorem dX7_layLeaf_43 : decode cX7_layLeaf 43 = .ok (.imul, 1) := by decide +kernel
theorem dX7_layLeaf_44 : decode cX7_layLeaf 44 = .ok (.iload 5, 2) := by decide +kernel
theorem dX7_layLeaf_46 : decode cX7_layLeaf 46 = .ok (.iadd, 1) := by decide +kernel
theorem dX7_layLeaf_47 : decode cX7_layLeaf 47 = .ok (.aload_n 2, 1) := by decide +kernel
theorem dX7_layLeaf_48 : decode cX7_layLeaf 48 = .ok (.getfield 69, 3) := by decide +kernel
theorem dX7_layLeaf_51 : decode cX7_layLeaf 51 = .ok (.iload 6, 2) := by decide +kernel
theorem dX7_layLeaf_53 : decode cX7_layLeaf 53 = .ok (.laload, 1) := by decide +kernel
theorem dX7_layLeaf_54 : decode cX7_layLeaf 54 = .ok (.aload_n 2, 1) := by decide +kernel
theorem dX7_layLeaf_55 : decode cX7_layLeaf 55 = .ok (.getfield 70, 3) := by decide +kernel
theorem dX7_layLeaf_58 : decode cX7_layLeaf 58 = .ok (.iload 6, 2) := by decide +kernel
theorem dX7_layLeaf_60 : decode cX7_layLeaf 60 = .ok (.iaload, 1) := by decide +kernel
theorem dX7_layLeaf_61 : decode cX7_layLeaf 61 = .ok (.aload_n 2, 1) := by decide +kernel
theorem dX7_layLeaf_62 : decode cX7_layLeaf 62 = .ok (.getfield 71, 3) := by decide +kernel
theorem dX7_layLeaf_65 : decode cX7_layLeaf 65 = .ok (.iload 6, 2) := by decide +kernel
theorem dX7_layLeaf_67 : decode cX7_layLeaf 67 = .ok (.iaload, 1) := by decide +kernel
theorem dX7_layLeaf_68 : decode cX7_layLeaf 68 = .ok (.invokevirtual 72, 3) := by decide +kernel
theorem dX7_layLeaf_71 : decode cX7_layLeaf 71 = .ok (.goto 16, 3) := by decide +kernel
theorem dX7_layLeaf_74 : decode cX7_layLeaf 74 = .ok (.aload_n 0, 1) := by decide +kernel
theorem dX7_layLeaf_75 : decode cX7_layLeaf 75 = .ok (.getfield 35, 3) := by decide +kernel
theorem dX7_layLeaf_78 : decode cX7_layLeaf 78 = .ok (.iload_n 1, 1) := by decide +kernel
theorem dX7_layLeaf_79 : decode cX7_layLeaf 79 = .ok (.bipush 6, 2) := by decide +kernel
theorem dX7_layLeaf_81 : decode cX7_layLeaf 81 = .ok (.imul, 1) := by decide +kernel
theorem dX7_layLeaf_82 : decode cX7_layLeaf 82 = .ok (.iload 5, 2) := by decide +kernel
theorem dX7_layLeaf_84 : decode cX7_layLeaf 84 = .ok (.iadd, 1) := by decide +kernel
theorem dX7_layLeaf_85 : decode cX7_layLeaf 85 = .ok (.lconst 0, 1) := by decide +kernel
theorem dX7_layLeaf_86 : decode cX7_layLeaf 86 = .ok (.lastore, 1) := by decide +kernel
theorem dX7_layLeaf_87 : decode cX7_layLeaf 87 = .ok (.iinc 5 1, 3) := by decide +kernel
theorem dX7_layLeaf_90 : decode cX7_layLeaf 90 = .ok (.goto (-80), 3) := by decide +kernel
theorem dX7_layLeaf_93 : decode cX7_layLeaf 93 = .ok (.return_, 1) := by decide +kernel
theorem dX7_insertRow_0 : decode cX7_insertRow 0 = .ok (.iload_n 1, 1) := by decide +kernel
theorem dX7_insertRow_1 : decode cX7_insertRow 1 = .ok (.bipush 6, 2) := by decide +kernel
theorem dX7_insertRow_3 : decode cX7_insertRow 3 = .ok (.imul, 1) := by decide +kernel
theorem dX7_insertRow_4 : decode cX7_insertRow 4 = .ok (.istore 6, 2) := by decide +kernel
theorem dX7_insertRow_6 : decode cX7_insertRow 6 = .ok (.aload_n 0, 1) := by decide +kernel
theorem dX7_insertRow_7 : decode cX7_insertRow 7 = .ok (.getfield 29, 3) := by decide +kernel
theorem dX7_insertRow_10 : decode cX7_insertRow 10 = .ok (.iload_n 1, 1) := by decide +kernel
theorem dX7_insertRow_11 : decode cX7_insertRow 11 = .ok (.iaload, 1) := by decide +kernel
theorem dX7_insertRow_12 : decode cX7_insertRow 12 = .ok (.iconst 5, 1) := by decide +kernel
theorem dX7_insertRow_13 : decode cX7_insertRow 13 = .ok (.invokestatic 76, 3) := by decide +kernel
theorem dX7_insertRow_16 : decode cX7_insertRow 16 = .ok (.istore 7, 2) := by decide +kernel
theorem dX7_insertRow_18 : decode cX7_insertRow 18 = .ok (.iload 7, 2) := by decide +kernel
theorem dX7_insertRow_20 : decode cX7_insertRow 20 = .ok (.iload_n 2, 1) := by decide +kernel
theorem dX7_insertRow_21 : decode cX7_insertRow 21 = .ok (.if_icmp .le 25, 3) := by decide +kernel
theorem dX7_insertRow_24 : decode cX7_insertRow 24 = .ok (.aload_n 0, 1) := by decide +kernel
theorem dX7_insertRow_25 : decode cX7_insertRow 25 = .ok (.iload 6, 2) := by decide +kernel
theorem dX7_insertRow_27 : decode cX7_insertRow 27 = .ok (.iload 7, 2) := by decide +kernel
theorem dX7_insertRow_29 : decode cX7_insertRow 29 = .ok (.iadd, 1) := by decide +kernel
theorem dX7_insertRow_30 : decode cX7_insertRow 30 = .ok (.iconst 1, 1) := by decide +kernel
theorem dX7_insertRow_31 : decode cX7_insertRow 31 = .ok (.isub, 1) := by decide +kernel
theorem dX7_insertRow_32 : decode cX7_insertRow 32 = .ok (.iload 6, 2) := by decide +kernel
theorem dX7_insertRow_34 : decode cX7_insertRow 34 = .ok (.iload 7, 2) := by decide +kernel
theorem dX7_insertRow_36 : decode cX7_insertRow 36 = .ok (.iadd, 1) := by decide +kernel
theorem dX7_insertRow_37 : decode cX7_insertRow 37 = .ok (.invokevirtual 82, 3) := by decide +kernel
theorem dX7_insertRow_40 : decode cX7_insertRow 40 = .ok (.iinc 7 (-1), 3) := by decide +kernel
theorem dX7_insertRow_43 : decode cX7_insertRow 43 = .ok (.goto (-25), 3) := by decide +kernel
theorem dX7_insertRow_46 : decode cX7_insertRow 46 = .ok (.aload_n 0, 1) := by decide +kernel
theorem dX7_insertRow_47 : decode cX7_insertRow 47 = .ok (.getfield 45, 3) := by decide +kernel
theorem dX7_insertRow_50 : decode cX7_insertRow 50 = .ok (.iload 6, 2) := by decide +kernel
theorem dX7_insertRow_52 : decode cX7_insertRow 52 = .ok (.iload_n 2, 1) := by decide +kernel
theorem dX7_insertRow_53 : decode cX7_insertRow 53 = .ok (.iadd, 1) := by decide +kernel
theorem dX7_insertRow_54 : decode cX7_insertRow 54 = .ok (.iload_n 3, 1) := by decide +kernel
theorem dX7_insertRow_55 : decode cX7_insertRow 55 = .ok (.iastore, 1) := by decide +kernel
theorem dX7_insertRow_56 : decode cX7_insertRow 56 = .ok (.aload_n 0, 1) := by decide +kernel
theorem dX7_insertRow_57 : decode cX7_insertRow 57 = .ok (.getfield 48, 3) := by decide +kernel
theorem dX7_insertRow_60 : decode cX7_insertRow 60 = .ok (.iload 6, 2) := by decide +kernel
theorem dX7_insertRow_62 : decode cX7_insertRow 62 = .ok (.iload_n 2, 1) := by decide +kernel
theorem dX7_insertRow_63 : decode cX7_insertRow 63 = .ok (.iadd, 1) := by decide +kernel
theorem dX7_insertRow_64 : decode cX7_insertRow 64 = .ok (.iload 4, 2) := by decide +kernel
theorem dX7_insertRow_66 : decode cX7_insertRow 66 = .ok (.iastore, 1) := by decide +kernel
theorem dX7_insertRow_67 : decode cX7_insertRow 67 = .ok (.aload_n 0, 1) := by decide +kernel
theorem dX7_insertRow_68 : decode cX7_insertRow 68 = .ok (.getfield 51, 3) := by decide +kernel
theorem dX7_insertRow_71 : decode cX7_insertRow 71 = .ok (.iload 6, 2) := by decide +kernel
theorem dX7_insertRow_73 : decode cX7_insertRow 73 = .ok (.iload_n 2, 1) := by decide +kernel
theorem dX7_insertRow_74 : decode cX7_insertRow 74 = .ok (.iadd, 1) := by decide +kernel
theorem dX7_insertRow_75 : decode cX7_insertRow 75 = .ok (.iload 5, 2) := by decide +kernel
theorem dX7_insertRow_77 : decode cX7_insertRow 77 = .ok (.iastore, 1) := by decide +kernel
theorem dX7_insertRow_78 : decode cX7_insertRow 78 = .ok (.aload_n 0, 1) := by decide +kernel
theorem dX7_insertRow_79 : decode cX7_insertRow 79 = .ok (.getfield 29, 3) := by decide +kernel
theorem dX7_insertRow_82 : decode cX7_insertRow 82 = .ok (.iload_n 1, 1) := by decide +kernel
theorem dX7_insertRow_83 : decode cX7_insertRow 83 = .ok (.aload_n 0, 1) := by decide +kernel
theorem dX7_insertRow_84 : decode cX7_insertRow 84 = .ok (.getfield 29, 3) := by decide +kernel
theorem dX7_insertRow_87 : decode cX7_insertRow 87 = .ok (.iload_n 1, 1) := by decide +kernel
theorem dX7_insertRow_88 : decode cX7_insertRow 88 = .ok (.iaload, 1) := by decide +kernel
theorem dX7_insertRow_89 : decode cX7_insertRow 89 = .ok (.iconst 1, 1) := by decide +kernel
theorem dX7_insertRow_90 : decode cX7_insertRow 90 = .ok (.iadd, 1) := by decide +kernel
theorem dX7_insertRow_91 : decode cX7_insertRow 91 = .ok (.bipush 6, 2) := by decide +kernel
theorem dX7_insertRow_93 : decode cX7_insertRow 93 = .ok (.invokestatic 76, 3) := by decide +kernel
theorem dX7_insertRow_96 : decode cX7_insertRow 96 = .ok (.iastore, 1) := by decide +kernel
theorem dX7_insertRow_97 : decode cX7_insertRow 97 = .ok (.return_, 1) := by decide +kernel
theorem dX7_copyRow_0 : decode cX7_copyRow 0 = .ok (.aload_n 0, 1) := by decide +kernel
theorem dX7_copyRow_1 : decode cX7_copyRow 1 = .ok (.getfield 45, 3) := by decide +kernel
theorem dX7_copyRow_4 : decode cX7_copyRow 4 = .ok (.iload_n 2, 1) := by decide +kernel
theorem dX7_copyRow_5 : decode cX7_copyRow 5 = .ok (.aload_n 0, 1) := by decide +kernel
theorem dX7_copyRow_6 : decode cX7_copyRow 6 = .ok (.getfield 45, 3) := by decide +kernel
theorem dX7_copyRow_9 : decode cX7_copyRow 9 = .ok (.iload_n 1, 1) := by decide +kernel
theorem dX7_copyRow_10 : decode cX7_copyRow 10 = .ok (.iaload, 1) := by decide +kernel
theorem dX7_copyRow_11 : decode cX7_copyRow 11 = .ok (.iastore, 1) := by decide +kernel
theorem dX7_copyRow_12 : decode cX7_copyRow 12 = .ok (.aload_n 0, 1) := by decide +kernel
theorem dX7_copyRow_13 : decode cX7_copyRow 13 = .ok (.getfield 48, 3) := by decide +kernel
theorem dX7_copyRow_16 : decode cX7_copyRow 16 = .ok (.iload_n 2, 1) := by decide +kernel
theorem dX7_copyRow_17 : decode cX7_copyRow 17 = .ok (.aload_n 0, 1) := by decide +kernel
theorem dX7_copyRow_18 : decode cX7_copyRow 18 = .ok (.getfield 48, 3) := by decide +kernel
theorem dX7_copyRow_21 : decode cX7_copyRow 21 = .ok (.iload_n 1, 1) := by decide +kernel
theorem dX7_copyRow_22 : decode cX7_copyRow 22 = .ok (.iaload, 1) := by decide +kernel
theorem dX7_copyRow_23 : decode cX7_copyRow 23 = .ok (.iastore, 1) := by decide +kernel
theorem dX7_copyRow_24 : decode cX7_copyRow 24 = .ok (.aload_n 0, 1) := by decide +kernel
theorem dX7_copyRow_25 : decode cX7_copyRow 25 = .ok (.getfield 51, 3) := by decide +kernel
theorem dX7_copyRow_28 : decode cX7_copyRow 28 = .ok (.iload_n 2, 1) := by decide +kernel
theorem dX7_copyRow_29 : decode cX7_copyRow 29 = .ok (.aload_n 0, 1) := by decide +kernel
theorem dX7_copyRow_30 : decode cX7_copyRow 30 = .ok (.getfield 51, 3) := by decide +kernel
theorem dX7_copyRow_33 : decode cX7_copyRow 33 = .ok (.iload_n 1, 1) := by decide +kernel
theorem dX7_copyRow_34 : decode cX7_copyRow 34 = .ok (.iaload, 1) := by decide +kernel
theorem dX7_copyRow_35 : decode cX7_copyRow 35 = .ok (.iastore, 1) := by decide +kernel
theorem dX7_copyRow_36 : decode cX7_copyRow 36 = .ok (.return_, 1) := by decide +kernel
theorem dX7_copyRows_0 : decode cX7_copyRows 0 = .ok (.iload_n 2, 1) := by decide +kernel
theorem dX7_copyRows_1 : decode cX7_copyRows 1 = .ok (.istore 5, 2) := by decide +kernel
theorem dX7_copyRows_3 : decode cX7_copyRows 3 = .ok (.iload 5, 2) := by decide +kernel
theorem dX7_copyRows_5 : decode cX7_copyRows 5 = .ok (.iload_n 3, 1) := by decide +kernel
theorem dX7_copyRows_6 : decode cX7_copyRows 6 = .ok (.if_icmp .ge 30, 3) := by decide +kernel
theorem dX7_copyRows_9 : decode cX7_copyRows 9 = .ok (.aload_n 0, 1) := by decide +kernel
theorem dX7_copyRows_10 : decode cX7_copyRows 10 = .ok (.iload_n 1, 1) := by decide +kernel
theorem dX7_copyRows_11 : decode cX7_copyRows 11 = .ok (.bipush 6, 2) := by decide +kernel
theorem dX7_copyRows_13 : decode cX7_copyRows 13 = .ok (.imul, 1) := by decide +kernel
theorem dX7_copyRows_14 : decode cX7_copyRows 14 = .ok (.iload 5, 2) := by decide +kernel
theorem dX7_copyRows_16 : decode cX7_copyRows 16 = .ok (.iadd, 1) := by decide +kernel
theorem dX7_copyRows_17 : decode cX7_copyRows 17 = .ok (.iload 4, 2) := by decide +kernel
theorem dX7_copyRows_19 : decode cX7_copyRows 19 = .ok (.bipush 6, 2) := by decide +kernel
theorem dX7_copyRows_21 : decode cX7_copyRows 21 = .ok (.imul, 1) := by decide +kernel
theorem dX7_copyRows_22 : decode cX7_copyRows 22 = .ok (.iload 5, 2) := by decide +kernel
theorem dX7_copyRows_24 : decode cX7_copyRows 24 = .ok (.iadd, 1) := by decide +kernel
theorem dX7_copyRows_25 : decode cX7_copyRows 25 = .ok (.iload_n 2, 1) := by decide +kernel
theorem dX7_copyRows_26 : decode cX7_copyRows 26 = .ok (.isub, 1) := by decide +kernel
theorem dX7_copyRows_27 : decode cX7_copyRows 27 = .ok (.invokevirtual 82, 3) := by decide +kernel
theorem dX7_copyRows_30 : decode cX7_copyRows 30 = .ok (.iinc 5 1, 3) := by decide +kernel
theorem dX7_copyRows_33 : decode cX7_copyRows 33 = .ok (.goto (-30), 3) := by decide +kernel
theorem dX7_copyRows_36 : decode cX7_copyRows 36 = .ok (.aload_n 0, 1) := by decide +kernel
theorem dX7_copyRows_37 : decode cX7_copyRows 37 = .ok (.getfield 29, 3) := by decide +kernel
theorem dX7_copyRows_40 : decode cX7_copyRows 40 = .ok (.iload 4, 2) := by decide +kernel
theorem dX7_copyRows_42 : decode cX7_copyRows 42 = .ok (.iload_n 3, 1) := by decide +kernel
theorem dX7_copyRows_43 : decode cX7_copyRows 43 = .ok (.iload_n 2, 1) := by decide +kernel
theorem dX7_copyRows_44 : decode cX7_copyRows 44 = .ok (.isub, 1) := by decide +kernel
theorem dX7_copyRows_45 : decode cX7_copyRows 45 = .ok (.iastore, 1) := by decide +kernel
theorem dX7_copyRows_46 : decode cX7_copyRows 46 = .ok (.return_, 1) := by decide +kernel
theorem dX7_raiseRoot_0 : decode cX7_raiseRoot 0 = .ok (.iconst 0, 1) := by decide +kernel
theorem dX7_raiseRoot_1 : decode cX7_raiseRoot 1 = .ok (.istore 5, 2) := by decide +kernel
theorem dX7_raiseRoot_3 : decode cX7_raiseRoot 3 = .ok (.iload 5, 2) := by decide +kernel
theorem dX7_raiseRoot_5 : decode cX7_raiseRoot 5 = .ok (.bipush 6, 2) := by decide +kernel
theorem dX7_raiseRoot_7 : decode cX7_raiseRoot 7 = .ok (.if_icmp .ge 19, 3) := by decide +kernel
theorem dX7_raiseRoot_10 : decode cX7_raiseRoot 10 = .ok (.aload_n 0, 1) := by decide +kernel
theorem dX7_raiseRoot_11 : decode cX7_raiseRoot 11 = .ok (.getfield 35, 3) := by decide +kernel
theorem dX7_raiseRoot_14 : decode cX7_raiseRoot 14 = .ok (.iconst 0, 1) := by decide +kernel
theorem dX7_raiseRoot_15 : decode cX7_raiseRoot 15 = .ok (.iload 5, 2) := by decide +kernel
theorem dX7_raiseRoot_17 : decode cX7_raiseRoot 17 = .ok (.iadd, 1) := by decide +kernel
theorem dX7_raiseRoot_18 : decode cX7_raiseRoot 18 = .ok (.lconst 0, 1) := by decide +kernel
theorem dX7_raiseRoot_19 : decode cX7_raiseRoot 19 = .ok (.lastore, 1) := by decide +kernel
theorem dX7_raiseRoot_20 : decode cX7_raiseRoot 20 = .ok (.iinc 5 1, 3) := by decide +kernel
theorem dX7_raiseRoot_23 : decode cX7_raiseRoot 23 = .ok (.goto (-20), 3) := by decide +kernel
theorem dX7_raiseRoot_26 : decode cX7_raiseRoot 26 = .ok (.aload_n 0, 1) := by decide +kernel
theorem dX7_raiseRoot_27 : decode cX7_raiseRoot 27 = .ok (.getfield 25, 3) := by decide +kernel
theorem dX7_raiseRoot_30 : decode cX7_raiseRoot 30 = .ok (.iconst 0, 1) := by decide +kernel
theorem dX7_raiseRoot_31 : decode cX7_raiseRoot 31 = .ok (.iconst 2, 1) := by decide +kernel
theorem dX7_raiseRoot_32 : decode cX7_raiseRoot 32 = .ok (.iastore, 1) := by decide +kernel
theorem dX7_raiseRoot_33 : decode cX7_raiseRoot 33 = .ok (.aload_n 0, 1) := by decide +kernel
theorem dX7_raiseRoot_34 : decode cX7_raiseRoot 34 = .ok (.getfield 29, 3) := by decide +kernel
theorem dX7_raiseRoot_37 : decode cX7_raiseRoot 37 = .ok (.iconst 0, 1) := by decide +kernel
theorem dX7_raiseRoot_38 : decode cX7_raiseRoot 38 = .ok (.iconst 0, 1) := by decide +kernel
theorem dX7_raiseRoot_39 : decode cX7_raiseRoot 39 = .ok (.iastore, 1) := by decide +kernel
theorem dX7_raiseRoot_40 : decode cX7_raiseRoot 40 = .ok (.aload_n 0, 1) := by decide +kernel
theorem dX7_raiseRoot_41 : decode cX7_raiseRoot 41 = .ok (.iconst 0, 1) := by decide +kernel
theorem dX7_raiseRoot_42 : decode cX7_raiseRoot 42 = .ok (.iconst 0, 1) := by decide +kernel
theorem dX7_raiseRoot_43 : decode cX7_raiseRoot 43 = .ok (.iconst 0, 1) := by decide +kernel
theorem dX7_raiseRoot_44 : decode cX7_raiseRoot 44 = .ok (.iconst 0, 1) := by decide +kernel
theorem dX7_raiseRoot_45 : decode cX7_raiseRoot 45 = .ok (.iload_n 1, 1) := by decide +kernel
theorem dX7_raiseRoot_46 : decode cX7_raiseRoot 46 = .ok (.invokevirtual 86, 3) := by decide +kernel
theorem dX7_raiseRoot_49 : decode cX7_raiseRoot 49 = .ok (.aload_n 0, 1) := by decide +kernel
theorem dX7_raiseRoot_50 : decode cX7_raiseRoot 50 = .ok (.iconst 0, 1) := by decide +kernel
theorem dX7_raiseRoot_51 : decode cX7_raiseRoot 51 = .ok (.iconst 1, 1) := by decide +kernel
theorem dX7_raiseRoot_52 : decode cX7_raiseRoot 52 = .ok (.iload_n 3, 1) := by decide +kernel
theorem dX7_raiseRoot_53 : decode cX7_raiseRoot 53 = .ok (.iload 4, 2) := by decide +kernel
theorem dX7_raiseRoot_55 : decode cX7_raiseRoot 55 = .ok (.iload_n 2, 1) := by decide +kernel
theorem dX7_raiseRoot_56 : decode cX7_raiseRoot 56 = .ok (.invokevirtual 86, 3) := by decide +kernel
theorem dX7_raiseRoot_59 : decode cX7_raiseRoot 59 = .ok (.aload_n 0, 1) := by decide +kernel
theorem dX7_raiseRoot_60 : decode cX7_raiseRoot 60 = .ok (.dup, 1) := by decide +kernel
theorem dX7_raiseRoot_61 : decode cX7_raiseRoot 61 = .ok (.getfield 22, 3) := by decide +kernel
theorem dX7_raiseRoot_64 : decode cX7_raiseRoot 64 = .ok (.iconst 1, 1) := by decide +kernel
theorem dX7_raiseRoot_65 : decode cX7_raiseRoot 65 = .ok (.iadd, 1) := by decide +kernel
theorem dX7_raiseRoot_66 : decode cX7_raiseRoot 66 = .ok (.putfield 22, 3) := by decide +kernel
theorem dX7_raiseRoot_69 : decode cX7_raiseRoot 69 = .ok (.return_, 1) := by decide +kernel
theorem dX8_init_0 : decode cX8_init 0 = .ok (.aload_n 0, 1) := by decide +kernel
theorem dX8_init_1 : decode cX8_init 1 = .ok (.invokespecial 3, 3) := by decide +kernel
theorem dX8_init_4 : decode cX8_init 4 = .ok (.aload_n 0, 1) := by decide +kernel
theorem dX8_init_5 : decode cX8_init 5 = .ok (.sipush 4096, 3) := by decide +kernel
theorem dX8_init_8 : decode cX8_init 8 = .ok (.newarray .int, 2) := by decide +kernel
theorem dX8_init_10 : decode cX8_init 10 = .ok (.putfield 9, 3) := by decide +kernel
theorem dX8_init_13 : decode cX8_init 13 = .ok (.aload_n 0, 1) := by decide +kernel
theorem dX8_init_14 : decode cX8_init 14 = .ok (.sipush 240, 3) := by decide +kernel
theorem dX8_init_17 : decode cX8_init 17 = .ok (.newarray .int, 2) := by decide +kernel
theorem dX8_init_19 : decode cX8_init 19 = .ok (.putfield 15, 3) := by decide +kernel
theorem dX8_init_22 : decode cX8_init 22 = .ok (.aload_n 0, 1) := by decide +kernel
theorem dX8_init_23 : decode cX8_init 23 = .ok (.iconst 0, 1) := by decide +kernel
theorem dX8_init_24 : decode cX8_init 24 = .ok (.putfield 18, 3) := by decide +kernel
theorem dX8_init_27 : decode cX8_init 27 = .ok (.aload_n 0, 1) := by decide +kernel
theorem dX8_init_28 : decode cX8_init 28 = .ok (.aload_n 1, 1) := by decide +kernel
theorem dX8_init_29 : decode cX8_init 29 = .ok (.putfield 22, 3) := by decide +kernel
theorem dX8_init_32 : decode cX8_init 32 = .ok (.aload_n 0, 1) := by decide +kernel
theorem dX8_init_33 : decode cX8_init 33 = .ok (.aload_n 2, 1) := by decide +kernel
theorem dX8_init_34 : decode cX8_init 34 = .ok (.putfield 26, 3) := by decide +kernel
theorem dX8_init_37 : decode cX8_init 37 = .ok (.return_, 1) := by decide +kernel
theorem dX8_ofName_0 : decode cX8_ofName 0 = .ok (.aload_n 0, 1) := by decide +kernel
theorem dX8_ofName_1 : decode cX8_ofName 1 = .ok (.getfield 22, 3) := by decide +kernel
theorem dX8_ofName_4 : decode cX8_ofName 4 = .ok (.lload_n 1, 1) := by decide +kernel
theorem dX8_ofName_5 : decode cX8_ofName 5 = .ok (.invokevirtual 30, 3) := by decide +kernel
theorem dX8_ofName_8 : decode cX8_ofName 8 = .ok (.istore 4, 2) := by decide +kernel
theorem dX8_ofName_10 : decode cX8_ofName 10 = .ok (.iload_n 3, 1) := by decide +kernel
theorem dX8_ofName_11 : decode cX8_ofName 11 = .ok (.tableswitch 73 4 7 #[29, 32, 42, 49], 29) := by decide +kernel
theorem dX8_ofName_40 : decode cX8_ofName 40 = .ok (.iload 4, 2) := by decide +kernel
theorem dX8_ofName_42 : decode cX8_ofName 42 = .ok (.ireturn, 1) := by decide +kernel
theorem dX8_ofName_43 : decode cX8_ofName 43 = .ok (.aload_n 0, 1) := by decide +kernel
theorem dX8_ofName_44 : decode cX8_ofName 44 = .ok (.getfield 22, 3) := by decide +kernel
theorem dX8_ofName_47 : decode cX8_ofName 47 = .ok (.iload 4, 2) := by decide +kernel
theorem dX8_ofName_49 : decode cX8_ofName 49 = .ok (.invokevirtual 36, 3) := by decide +kernel
theorem dX8_ofName_52 : decode cX8_ofName 52 = .ok (.ireturn, 1) := by decide +kernel
theorem dX8_ofName_53 : decode cX8_ofName 53 = .ok (.aload_n 0, 1) := by decide +kernel
theorem dX8_ofName_54 : decode cX8_ofName 54 = .ok (.iload 4, 2) := by decide +kernel
theorem dX8_ofName_56 : decode cX8_ofName 56 = .ok (.invokevirtual 40, 3) := by decide +kernel
theorem dX8_ofName_59 : decode cX8_ofName 59 = .ok (.ireturn, 1) := by decide +kernel
theorem dX8_ofName_60 : decode cX8_ofName 60 = .ok (.aload_n 0, 1) := by decide +kernel
theorem dX8_ofName_61 : decode cX8_ofName 61 = .ok (.getfield 26, 3) := by decide +kernel
theorem dX8_ofName_64 : decode cX8_ofName 64 = .ok (.lload_n 1, 1) := by decide +kernel
theorem dX8_ofName_65 : decode cX8_ofName 65 = .ok (.invokevirtual 43, 3) := by decide +kernel
theorem dX8_ofName_68 : decode cX8_ofName 68 = .ok (.ifCond .ne 14, 3) := by decide +kernel
theorem dX8_ofName_71 : decode cX8_ofName 71 = .ok (.aload_n 0, 1) := by decide +kernel
theorem dX8_ofName_72 : decode cX8_ofName 72 = .ok (.getfield 26, 3) := by decide +kernel
theorem dX8_ofName_75 : decode cX8_ofName 75 = .ok (.lload_n 1, 1) := by decide +kernel
theorem dX8_ofName_76 : decode cX8_ofName 76 = .ok (.invokevirtual 48, 3) := by decide +kernel
theorem dX8_ofName_79 : decode cX8_ofName 79 = .ok (.goto 4, 3) := by decide +kernel
theorem dX8_ofName_82 : decode cX8_ofName 82 = .ok (.iconst (-1), 1) := by decide +kernel
theorem dX8_ofName_83 : decode cX8_ofName 83 = .ok (.ireturn, 1) := by decide +kernel
theorem dX8_ofName_84 : decode cX8_ofName 84 = .ok (.aload_n 0, 1) := by decide +kernel
theorem dX8_ofName_85 : decode cX8_ofName 85 = .ok (.iload 4, 2) := by decide +kernel
theorem dX8_ofName_87 : decode cX8_ofName 87 = .ok (.invokevirtual 51, 3) := by decide +kernel
theorem dX8_ofName_90 : decode cX8_ofName 90 = .ok (.ireturn, 1) := by decide +kernel
theorem dX8_ofAll_0 : decode cX8_ofAll 0 = .ok (.aload_n 0, 1) := by decide +kernel
theorem dX8_ofAll_1 : decode cX8_ofAll 1 = .ok (.getfield 26, 3) := by decide +kernel
theorem dX8_ofAll_4 : decode cX8_ofAll 4 = .ok (.getfield 54, 3) := by decide +kernel
theorem dX8_ofAll_7 : decode cX8_ofAll 7 = .ok (.aload_n 0, 1) := by decide +kernel
theorem dX8_ofAll_8 : decode cX8_ofAll 8 = .ok (.getfield 22, 3) := by decide +kernel
theorem dX8_ofAll_11 : decode cX8_ofAll 11 = .ok (.invokevirtual 58, 3) := by decide +kernel
theorem dX8_ofAll_14 : decode cX8_ofAll 14 = .ok (.iload_n 1, 1) := by decide +kernel
theorem dX8_ofAll_15 : decode cX8_ofAll 15 = .ok (.tableswitch 120 0 7 #[45, 57, 62, 77, 82, 105, 110, 115], 45) := by decide +kernel
theorem dX8_ofAll_60 : decode cX8_ofAll 60 = .ok (.aload_n 0, 1) := by decide +kernel
theorem dX8_ofAll_61 : decode cX8_ofAll 61 = .ok (.aload_n 0, 1) := by decide +kernel
theorem dX8_ofAll_62 : decode cX8_ofAll 62 = .ok (.getfield 22, 3) := by decide +kernel
theorem dX8_ofAll_65 : decode cX8_ofAll 65 = .ok (.getfield 64, 3) := by decide +kernel
theorem dX8_ofAll_68 : decode cX8_ofAll 68 = .ok (.invokevirtual 67, 3) := by decide +kernel
theorem dX8_ofAll_71 : decode cX8_ofAll 71 = .ok (.ireturn, 1) := by decide +kernel
theorem dX8_ofAll_72 : decode cX8_ofAll 72 = .ok (.aload_n 0, 1) := by decide +kernel
theorem dX8_ofAll_73 : decode cX8_ofAll 73 = .ok (.invokevirtual 70, 3) := by decide +kernel
theorem dX8_ofAll_76 : decode cX8_ofAll 76 = .ok (.ireturn, 1) := by decide +kernel
theorem dX8_ofAll_77 : decode cX8_ofAll 77 = .ok (.iconst 1, 1) := by decide +kernel
theorem dX8_ofAll_78 : decode cX8_ofAll 78 = .ok (.aload_n 0, 1) := by decide +kernel
theorem dX8_ofAll_79 : decode cX8_ofAll 79 = .ok (.getfield 22, 3) := by decide +kernel
theorem dX8_ofAll_82 : decode cX8_ofAll 82 = .ok (.invokevirtual 74, 3) := by decide +kernel
theorem dX8_ofAll_85 : decode cX8_ofAll 85 = .ok (.invokestatic 77, 3) := by decide +kernel
theorem dX8_ofAll_88 : decode cX8_ofAll 88 = .ok (.invokestatic 80, 3) := by decide +kernel
theorem dX8_ofAll_91 : decode cX8_ofAll 91 = .ok (.ireturn, 1) := by decide +kernel
theorem dX8_ofAll_92 : decode cX8_ofAll 92 = .ok (.aload_n 0, 1) := by decide +kernel
theorem dX8_ofAll_93 : decode cX8_ofAll 93 = .ok (.invokevirtual 86, 3) := by decide +kernel
theorem dX8_ofAll_96 : decode cX8_ofAll 96 = .ok (.ireturn, 1) := by decide +kernel
theorem dX8_ofAll_97 : decode cX8_ofAll 97 = .ok (.aload_n 0, 1) := by decide +kernel
theorem dX8_ofAll_98 : decode cX8_ofAll 98 = .ok (.getfield 22, 3) := by decide +kernel
theorem dX8_ofAll_101 : decode cX8_ofAll 101 = .ok (.aload_n 0, 1) := by decide +kernel
theorem dX8_ofAll_102 : decode cX8_ofAll 102 = .ok (.getfield 26, 3) := by decide +kernel
theorem dX8_ofAll_105 : decode cX8_ofAll 105 = .ok (.getfield 54, 3) := by decide +kernel
theorem dX8_ofAll_108 : decode cX8_ofAll 108 = .ok (.getfield 89, 3) := by decide +kernel
theorem dX8_ofAll_111 : decode cX8_ofAll 111 = .ok (.aload_n 0, 1) := by decide +kernel
theorem dX8_ofAll_112 : decode cX8_ofAll 112 = .ok (.invokevirtual 92, 3) := by decide +kernel
theorem dX8_ofAll_115 : decode cX8_ofAll 115 = .ok (.iaload, 1) := by decide +kernel
theorem dX8_ofAll_116 : decode cX8_ofAll 116 = .ok (.invokevirtual 95, 3) := by decide +kernel
theorem dX8_ofAll_119 : decode cX8_ofAll 119 = .ok (.ireturn, 1) := by decide +kernel
theorem dX8_ofAll_120 : decode cX8_ofAll 120 = .ok (.aload_n 0, 1) := by decide +kernel
theorem dX8_ofAll_121 : decode cX8_ofAll 121 = .ok (.invokevirtual 92, 3) := by decide +kernel
theorem dX8_ofAll_124 : decode cX8_ofAll 124 = .ok (.ireturn, 1) := by decide +kernel
theorem dX8_ofAll_125 : decode cX8_ofAll 125 = .ok (.aload_n 0, 1) := by decide +kernel
theorem dX8_ofAll_126 : decode cX8_ofAll 126 = .ok (.invokevirtual 98, 3) := by decide +kernel
theorem dX8_ofAll_129 : decode cX8_ofAll 129 = .ok (.ireturn, 1) := by decide +kernel
theorem dX8_ofAll_130 : decode cX8_ofAll 130 = .ok (.aload_n 0, 1) := by decide +kernel
theorem dX8_ofAll_131 : decode cX8_ofAll 131 = .ok (.invokevirtual 101, 3) := by decide +kernel
theorem dX8_ofAll_134 : decode cX8_ofAll 134 = .ok (.ireturn, 1) := by decide +kernel
theorem dX8_ofAll_135 : decode cX8_ofAll 135 = .ok (.aload_n 0, 1) := by decide +kernel
theorem dX8_ofAll_136 : decode cX8_ofAll 136 = .ok (.invokevirtual 104, 3) := by decide +kernel
theorem dX8_ofAll_139 : decode cX8_ofAll 139 = .ok (.ireturn, 1) := by decide +kernel
theorem dX8_crowdBy_0 : decode cX8_crowdBy 0 = .ok (.aload_n 0, 1) := by decide +kernel
theorem dX8_crowdBy_1 : decode cX8_crowdBy 1 = .ok (.iload_n 1, 1) := by decide +kernel
theorem dX8_crowdBy_2 : decode cX8_crowdBy 2 = .ok (.invokevirtual 107, 3) := by decide +kernel
theorem dX8_crowdBy_5 : decode cX8_crowdBy 5 = .ok (.iconst 0, 1) := by decide +kernel
theorem dX8_crowdBy_6 : decode cX8_crowdBy 6 = .ok (.istore_n 2, 1) := by decide +kernel
theorem dX8_crowdBy_7 : decode cX8_crowdBy 7 = .ok (.iconst 0, 1) := by decide +kernel
theorem dX8_crowdBy_8 : decode cX8_crowdBy 8 = .ok (.istore_n 3, 1) := by decide +kernel
theorem dX8_crowdBy_9 : decode cX8_crowdBy 9 = .ok (.iload_n 3, 1) := by decide +kernel
theorem dX8_crowdBy_10 : decode cX8_crowdBy 10 = .ok (.aload_n 0, 1) := by decide +kernel
theorem dX8_crowdBy_11 : decode cX8_crowdBy 11 = .ok (.getfield 18, 3) := by decide +kernel
theorem dX8_crowdBy_14 : decode cX8_crowdBy 14 = .ok (.if_icmp .ge 25, 3) := by decide +kernel
theorem dX8_crowdBy_17 : decode cX8_crowdBy 17 = .ok (.iload_n 2, 1) := by decide +kernel
theorem dX8_crowdBy_18 : decode cX8_crowdBy 18 = .ok (.aload_n 0, 1) := by decide +kernel
theorem dX8_crowdBy_19 : decode cX8_crowdBy 19 = .ok (.getfield 9, 3) := by decide +kernel
theorem dX8_crowdBy_22 : decode cX8_crowdBy 22 = .ok (.aload_n 0, 1) := by decide +kernel
theorem dX8_crowdBy_23 : decode cX8_crowdBy 23 = .ok (.getfield 15, 3) := by decide +kernel
theorem dX8_crowdBy_26 : decode cX8_crowdBy 26 = .ok (.iload_n 3, 1) := by decide +kernel
theorem dX8_crowdBy_27 : decode cX8_crowdBy 27 = .ok (.iaload, 1) := by decide +kernel
theorem dX8_crowdBy_28 : decode cX8_crowdBy 28 = .ok (.iaload, 1) := by decide +kernel
theorem dX8_crowdBy_29 : decode cX8_crowdBy 29 = .ok (.invokestatic 80, 3) := by decide +kernel
theorem dX8_crowdBy_32 : decode cX8_crowdBy 32 = .ok (.istore_n 2, 1) := by decide +kernel
theorem dX8_crowdBy_33 : decode cX8_crowdBy 33 = .ok (.iinc 3 1, 3) := by decide +kernel
theorem dX8_crowdBy_36 : decode cX8_crowdBy 36 = .ok (.goto (-27), 3) := by decide +kernel
theorem dX8_crowdBy_39 : decode cX8_crowdBy 39 = .ok (.iload_n 2, 1) := by decide +kernel
theorem dX8_crowdBy_40 : decode cX8_crowdBy 40 = .ok (.ireturn, 1) := by decide +kernel
theorem dX8_tallyBy_0 : decode cX8_tallyBy 0 = .ok (.iconst 0, 1) := by decide +kernel
theorem dX8_tallyBy_1 : decode cX8_tallyBy 1 = .ok (.istore_n 2, 1) := by decide +kernel
theorem dX8_tallyBy_2 : decode cX8_tallyBy 2 = .ok (.iload_n 2, 1) := by decide +kernel
theorem dX8_tallyBy_3 : decode cX8_tallyBy 3 = .ok (.aload_n 0, 1) := by decide +kernel
theorem dX8_tallyBy_4 : decode cX8_tallyBy 4 = .ok (.getfield 18, 3) := by decide +kernel
theorem dX8_tallyBy_7 : decode cX8_tallyBy 7 = .ok (.if_icmp .ge 21, 3) := by decide +kernel
theorem dX8_tallyBy_10 : decode cX8_tallyBy 10 = .ok (.aload_n 0, 1) := by decide +kernel
theorem dX8_tallyBy_11 : decode cX8_tallyBy 11 = .ok (.getfield 9, 3) := by decide +kernel
theorem dX8_tallyBy_14 : decode cX8_tallyBy 14 = .ok (.aload_n 0, 1) := by decide +kernel
theorem dX8_tallyBy_15 : decode cX8_tallyBy 15 = .ok (.getfield 15, 3) := by decide +kernel
theorem dX8_tallyBy_18 : decode cX8_tallyBy 18 = .ok (.iload_n 2, 1) := by decide +kernel
theorem dX8_tallyBy_19 : decode cX8_tallyBy 19 = .ok (.iaload, 1) := by decide +kernel
theorem dX8_tallyBy_20 : decode cX8_tallyBy 20 = .ok (.iconst 0, 1) := by decide +kernel
theorem dX8_tallyBy_21 : decode cX8_tallyBy 21 = .ok (.iastore, 1) := by decide +kernel
theorem dX8_tallyBy_22 : decode cX8_tallyBy 22 = .ok (.iinc 2 1, 3) := by decide +kernel
theorem dX8_tallyBy_25 : decode cX8_tallyBy 25 = .ok (.goto (-23), 3) := by decide +kernel
theorem dX8_tallyBy_28 : decode cX8_tallyBy 28 = .ok (.aload_n 0, 1) := by decide +kernel
theorem dX8_tallyBy_29 : decode cX8_tallyBy 29 = .ok (.iconst 0, 1) := by decide +kernel
theorem dX8_tallyBy_30 : decode cX8_tallyBy 30 = .ok (.putfield 18, 3) := by decide +kernel
theorem dX8_tallyBy_33 : decode cX8_tallyBy 33 = .ok (.iconst 0, 1) := by decide +kernel
theorem dX8_tallyBy_34 : decode cX8_tallyBy 34 = .ok (.istore_n 2, 1) := by decide +kernel
theorem dX8_tallyBy_35 : decode cX8_tallyBy 35 = .ok (.iload_n 2, 1) := by decide +kernel
theorem dX8_tallyBy_36 : decode cX8_tallyBy 36 = .ok (.sipush 240, 3) := by decide +kernel
theorem dX8_tallyBy_39 : decode cX8_tallyBy 39 = .ok (.if_icmp .ge 81, 3) := by decide +kernel
theorem dX8_tallyBy_42 : decode cX8_tallyBy 42 = .ok (.aload_n 0, 1) := by decide +kernel
theorem dX8_tallyBy_43 : decode cX8_tallyBy 43 = .ok (.getfield 22, 3) := by decide +kernel
theorem dX8_tallyBy_46 : decode cX8_tallyBy 46 = .ok (.getfield 111, 3) := by decide +kernel
theorem dX8_tallyBy_49 : decode cX8_tallyBy 49 = .ok (.iload_n 2, 1) := by decide +kernel
theorem dX8_tallyBy_50 : decode cX8_tallyBy 50 = .ok (.laload, 1) := by decide +kernel
theorem dX8_tallyBy_51 : decode cX8_tallyBy 51 = .ok (.lconst 0, 1) := by decide +kernel
theorem dX8_tallyBy_52 : decode cX8_tallyBy 52 = .ok (.lcmp, 1) := by decide +kernel
theorem dX8_tallyBy_53 : decode cX8_tallyBy 53 = .ok (.ifCond .eq 61, 3) := by decide +kernel
theorem dX8_tallyBy_56 : decode cX8_tallyBy 56 = .ok (.aload_n 0, 1) := by decide +kernel
theorem dX8_tallyBy_57 : decode cX8_tallyBy 57 = .ok (.getfield 22, 3) := by decide +kernel
theorem dX8_tallyBy_60 : decode cX8_tallyBy 60 = .ok (.getfield 111, 3) := by decide +kernel
theorem dX8_tallyBy_63 : decode cX8_tallyBy 63 = .ok (.iload_n 2, 1) := by decide +kernel
theorem dX8_tallyBy_64 : decode cX8_tallyBy 64 = .ok (.laload, 1) := by decide +kernel
theorem dX8_tallyBy_65 : decode cX8_tallyBy 65 = .ok (.iload_n 1, 1) := by decide +kernel
theorem dX8_tallyBy_66 : decode cX8_tallyBy 66 = .ok (.aload_n 0, 1) := by decide +kernel
theorem dX8_tallyBy_67 : decode cX8_tallyBy 67 = .ok (.getfield 22, 3) := by decide +kernel
theorem dX8_tallyBy_70 : decode cX8_tallyBy 70 = .ok (.getfield 115, 3) := by decide +kernel
theorem dX8_tallyBy_73 : decode cX8_tallyBy 73 = .ok (.aload_n 0, 1) := by decide +kernel
theorem dX8_tallyBy_74 : decode cX8_tallyBy 74 = .ok (.getfield 22, 3) := by decide +kernel
theorem dX8_tallyBy_77 : decode cX8_tallyBy 77 = .ok (.getfield 118, 3) := by decide +kernel
theorem dX8_tallyBy_80 : decode cX8_tallyBy 80 = .ok (.invokestatic 122, 3) := by decide +kernel
theorem dX8_tallyBy_83 : decode cX8_tallyBy 83 = .ok (.istore_n 3, 1) := by decide +kernel
theorem dX8_tallyBy_84 : decode cX8_tallyBy 84 = .ok (.aload_n 0, 1) := by decide +kernel
theorem dX8_tallyBy_85 : decode cX8_tallyBy 85 = .ok (.getfield 9, 3) := by decide +kernel
theorem dX8_tallyBy_88 : decode cX8_tallyBy 88 = .ok (.iload_n 3, 1) := by decide +kernel
theorem dX8_tallyBy_89 : decode cX8_tallyBy 89 = .ok (.dup2, 1) := by decide +kernel
theorem dX8_tallyBy_90 : decode cX8_tallyBy 90 = .ok (.iaload, 1) := by decide +kernel
theorem dX8_tallyBy_91 : decode cX8_tallyBy 91 = .ok (.iconst 1, 1) := by decide +kernel
theorem dX8_tallyBy_92 : decode cX8_tallyBy 92 = .ok (.iadd, 1) := by decide +kernel
theorem dX8_tallyBy_93 : decode cX8_tallyBy 93 = .ok (.iastore, 1) := by decide +kernel
theorem dX8_tallyBy_94 : decode cX8_tallyBy 94 = .ok (.aload_n 0, 1) := by decide +kernel
theorem dX8_tallyBy_95 : decode cX8_tallyBy 95 = .ok (.getfield 15, 3) := by decide +kernel
theorem dX8_tallyBy_98 : decode cX8_tallyBy 98 = .ok (.aload_n 0, 1) := by decide +kernel
theorem dX8_tallyBy_99 : decode cX8_tallyBy 99 = .ok (.getfield 18, 3) := by decide +kernel
theorem dX8_tallyBy_102 : decode cX8_tallyBy 102 = .ok (.iload_n 3, 1) := by decide +kernel
theorem dX8_tallyBy_103 : decode cX8_tallyBy 103 = .ok (.iastore, 1) := by decide +kernel
theorem dX8_tallyBy_104 : decode cX8_tallyBy 104 = .ok (.aload_n 0, 1) := by decide +kernel
theorem dX8_tallyBy_105 : decode cX8_tallyBy 105 = .ok (.dup, 1) := by decide +kernel
theorem dX8_tallyBy_106 : decode cX8_tallyBy 106 = .ok (.getfield 18, 3) := by decide +kernel
theorem dX8_tallyBy_109 : decode cX8_tallyBy 109 = .ok (.iconst 1, 1) := by decide +kernel
theorem dX8_tallyBy_110 : decode cX8_tallyBy 110 = .ok (.iadd, 1) := by decide +kernel
theorem dX8_tallyBy_111 : decode cX8_tallyBy 111 = .ok (.putfield 18, 3) := by decide +kernel
theorem dX8_tallyBy_114 : decode cX8_tallyBy 114 = .ok (.iinc 2 1, 3) := by decide +kernel
theorem dX8_tallyBy_117 : decode cX8_tallyBy 117 = .ok (.goto (-82), 3) := by decide +kernel
theorem dX8_tallyBy_120 : decode cX8_tallyBy 120 = .ok (.return_, 1) := by decide +kernel
theorem dX8_leastCrowdedKey_0 : decode cX8_leastCrowdedKey 0 = .ok (.iload_n 1, 1) := by decide +kernel
theorem dX8_leastCrowdedKey_1 : decode cX8_leastCrowdedKey 1 = .ok (.istore_n 3, 1) := by decide +kernel
theorem dX8_leastCrowdedKey_2 : decode cX8_leastCrowdedKey 2 = .ok (.aload_n 0, 1) := by decide +kernel
theorem dX8_leastCrowdedKey_3 : decode cX8_leastCrowdedKey 3 = .ok (.iload_n 1, 1) := by decide +kernel
theorem dX8_leastCrowdedKey_4 : decode cX8_leastCrowdedKey 4 = .ok (.invokevirtual 67, 3) := by decide +kernel
theorem dX8_leastCrowdedKey_7 : decode cX8_leastCrowdedKey 7 = .ok (.istore 4, 2) := by decide +kernel
theorem dX8_leastCrowdedKey_9 : decode cX8_leastCrowdedKey 9 = .ok (.iconst 1, 1) := by decide +kernel
theorem dX8_leastCrowdedKey_10 : decode cX8_leastCrowdedKey 10 = .ok (.istore 5, 2) := by decide +kernel
theorem dX8_leastCrowdedKey_12 : decode cX8_leastCrowdedKey 12 = .ok (.iload 5, 2) := by decide +kernel
theorem dX8_leastCrowdedKey_14 : decode cX8_leastCrowdedKey 14 = .ok (.iload_n 2, 1) := by decide +kernel
theorem dX8_leastCrowdedKey_15 : decode cX8_leastCrowdedKey 15 = .ok (.if_icmp .ge 44, 3) := by decide +kernel
theorem dX8_leastCrowdedKey_18 : decode cX8_leastCrowdedKey 18 = .ok (.iload_n 1, 1) := by decide +kernel
theorem dX8_leastCrowdedKey_19 : decode cX8_leastCrowdedKey 19 = .ok (.iload 5, 2) := by decide +kernel
theorem dX8_leastCrowdedKey_21 : decode cX8_leastCrowdedKey 21 = .ok (.iadd, 1) := by decide +kernel
theorem dX8_leastCrowdedKey_22 : decode cX8_leastCrowdedKey 22 = .ok (.ldc 126, 2) := by decide +kernel
theorem dX8_leastCrowdedKey_24 : decode cX8_leastCrowdedKey 24 = .ok (.if_icmp .gt 35, 3) := by decide +kernel
theorem dX8_leastCrowdedKey_27 : decode cX8_leastCrowdedKey 27 = .ok (.aload_n 0, 1) := by decide +kernel
theorem dX8_leastCrowdedKey_28 : decode cX8_leastCrowdedKey 28 = .ok (.iload_n 1, 1) := by decide +kernel
theorem dX8_leastCrowdedKey_29 : decode cX8_leastCrowdedKey 29 = .ok (.iload 5, 2) := by decide +kernel
theorem dX8_leastCrowdedKey_31 : decode cX8_leastCrowdedKey 31 = .ok (.iadd, 1) := by decide +kernel
theorem dX8_leastCrowdedKey_32 : decode cX8_leastCrowdedKey 32 = .ok (.invokevirtual 67, 3) := by decide +kernel
theorem dX8_leastCrowdedKey_35 : decode cX8_leastCrowdedKey 35 = .ok (.istore 6, 2) := by decide +kernel
theorem dX8_leastCrowdedKey_37 : decode cX8_leastCrowdedKey 37 = .ok (.iload 6, 2) := by decide +kernel
theorem dX8_leastCrowdedKey_39 : decode cX8_leastCrowdedKey 39 = .ok (.iload 4, 2) := by decide +kernel
theorem dX8_leastCrowdedKey_41 : decode cX8_leastCrowdedKey 41 = .ok (.if_icmp .ge 12, 3) := by decide +kernel
theorem dX8_leastCrowdedKey_44 : decode cX8_leastCrowdedKey 44 = .ok (.iload 6, 2) := by decide +kernel
theorem dX8_leastCrowdedKey_46 : decode cX8_leastCrowdedKey 46 = .ok (.istore 4, 2) := by decide +kernel
theorem dX8_leastCrowdedKey_48 : decode cX8_leastCrowdedKey 48 = .ok (.iload_n 1, 1) := by decide +kernel
theorem dX8_leastCrowdedKey_49 : decode cX8_leastCrowdedKey 49 = .ok (.iload 5, 2) := by decide +kernel
theorem dX8_leastCrowdedKey_51 : decode cX8_leastCrowdedKey 51 = .ok (.iadd, 1) := by decide +kernel
theorem dX8_leastCrowdedKey_52 : decode cX8_leastCrowdedKey 52 = .ok (.istore_n 3, 1) := by decide +kernel
theorem dX8_leastCrowdedKey_53 : decode cX8_leastCrowdedKey 53 = .ok (.iinc 5 1, 3) := by decide +kernel
theorem dX8_leastCrowdedKey_56 : decode cX8_leastCrowdedKey 56 = .ok (.goto (-44), 3) := by decide +kernel
theorem dX8_leastCrowdedKey_59 : decode cX8_leastCrowdedKey 59 = .ok (.iload_n 3, 1) := by decide +kernel
theorem dX8_leastCrowdedKey_60 : decode cX8_leastCrowdedKey 60 = .ok (.ireturn, 1) := by decide +kernel
theorem dX8_roomOnWay_0 : decode cX8_roomOnWay 0 = .ok (.aload_n 0, 1) := by decide +kernel
theorem dX8_roomOnWay_1 : decode cX8_roomOnWay 1 = .ok (.getfield 26, 3) := by decide +kernel
theorem dX8_roomOnWay_4 : decode cX8_roomOnWay 4 = .ok (.iload_n 1, 1) := by decide +kernel
theorem dX8_roomOnWay_5 : decode cX8_roomOnWay 5 = .ok (.invokevirtual 127, 3) := by decide +kernel
theorem dX8_roomOnWay_8 : decode cX8_roomOnWay 8 = .ok (.aload_n 0, 1) := by decide +kernel
theorem dX8_roomOnWay_9 : decode cX8_roomOnWay 9 = .ok (.getfield 26, 3) := by decide +kernel
theorem dX8_roomOnWay_12 : decode cX8_roomOnWay 12 = .ok (.getfield 130, 3) := by decide +kernel
theorem dX8_roomOnWay_15 : decode cX8_roomOnWay 15 = .ok (.astore_n 2, 1) := by decide +kernel
theorem dX8_roomOnWay_16 : decode cX8_roomOnWay 16 = .ok (.iconst 0, 1) := by decide +kernel
theorem dX8_roomOnWay_17 : decode cX8_roomOnWay 17 = .ok (.istore_n 3, 1) := by decide +kernel
theorem dX8_roomOnWay_18 : decode cX8_roomOnWay 18 = .ok (.aload_n 2, 1) := by decide +kernel
theorem dX8_roomOnWay_19 : decode cX8_roomOnWay 19 = .ok (.getfield 134, 3) := by decide +kernel
theorem dX8_roomOnWay_22 : decode cX8_roomOnWay 22 = .ok (.istore 4, 2) := by decide +kernel
theorem dX8_roomOnWay_24 : decode cX8_roomOnWay 24 = .ok (.iload 4, 2) := by decide +kernel
theorem dX8_roomOnWay_26 : decode cX8_roomOnWay 26 = .ok (.aload_n 2, 1) := by decide +kernel
theorem dX8_roomOnWay_27 : decode cX8_roomOnWay 27 = .ok (.getfield 139, 3) := by decide +kernel
theorem dX8_roomOnWay_30 : decode cX8_roomOnWay 30 = .ok (.if_icmp .ge 29, 3) := by decide +kernel
theorem dX8_roomOnWay_33 : decode cX8_roomOnWay 33 = .ok (.iload_n 3, 1) := by decide +kernel
theorem dX8_roomOnWay_34 : decode cX8_roomOnWay 34 = .ok (.bipush 6, 2) := by decide +kernel
theorem dX8_roomOnWay_36 : decode cX8_roomOnWay 36 = .ok (.aload_n 0, 1) := by decide +kernel
theorem dX8_roomOnWay_37 : decode cX8_roomOnWay 37 = .ok (.getfield 22, 3) := by decide +kernel
theorem dX8_roomOnWay_40 : decode cX8_roomOnWay 40 = .ok (.aload_n 2, 1) := by decide +kernel
theorem dX8_roomOnWay_41 : decode cX8_roomOnWay 41 = .ok (.getfield 142, 3) := by decide +kernel
theorem dX8_roomOnWay_44 : decode cX8_roomOnWay 44 = .ok (.iload 4, 2) := by decide +kernel
theorem dX8_roomOnWay_46 : decode cX8_roomOnWay 46 = .ok (.iaload, 1) := by decide +kernel
theorem dX8_roomOnWay_47 : decode cX8_roomOnWay 47 = .ok (.invokevirtual 95, 3) := by decide +kernel
theorem dX8_roomOnWay_50 : decode cX8_roomOnWay 50 = .ok (.isub, 1) := by decide +kernel
theorem dX8_roomOnWay_51 : decode cX8_roomOnWay 51 = .ok (.iadd, 1) := by decide +kernel
theorem dX8_roomOnWay_52 : decode cX8_roomOnWay 52 = .ok (.istore_n 3, 1) := by decide +kernel
theorem dX8_roomOnWay_53 : decode cX8_roomOnWay 53 = .ok (.iinc 4 1, 3) := by decide +kernel
theorem dX8_roomOnWay_56 : decode cX8_roomOnWay 56 = .ok (.goto (-32), 3) := by decide +kernel
theorem dX8_roomOnWay_59 : decode cX8_roomOnWay 59 = .ok (.iload_n 3, 1) := by decide +kernel
theorem dX8_roomOnWay_60 : decode cX8_roomOnWay 60 = .ok (.ireturn, 1) := by decide +kernel
theorem dX8_mateOf_0 : decode cX8_mateOf 0 = .ok (.iconst 1, 1) := by decide +kernel
theorem dX8_mateOf_1 : decode cX8_mateOf 1 = .ok (.aload_n 0, 1) := by decide +kernel
theorem dX8_mateOf_2 : decode cX8_mateOf 2 = .ok (.getfield 22, 3) := by decide +kernel
theorem dX8_mateOf_5 : decode cX8_mateOf 5 = .ok (.getfield 115, 3) := by decide +kernel
theorem dX8_mateOf_8 : decode cX8_mateOf 8 = .ok (.ishl, 1) := by decide +kernel
theorem dX8_mateOf_9 : decode cX8_mateOf 9 = .ok (.iconst 1, 1) := by decide +kernel
theorem dX8_mateOf_10 : decode cX8_mateOf 10 = .ok (.isub, 1) := by decide +kernel
theorem dX8_mateOf_11 : decode cX8_mateOf 11 = .ok (.istore_n 2, 1) := by decide +kernel
theorem dX8_mateOf_12 : decode cX8_mateOf 12 = .ok (.iconst 0, 1) := by decide +kernel
theorem dX8_mateOf_13 : decode cX8_mateOf 13 = .ok (.istore_n 3, 1) := by decide +kernel
theorem dX8_mateOf_14 : decode cX8_mateOf 14 = .ok (.iload_n 3, 1) := by decide +kernel
theorem dX8_mateOf_15 : decode cX8_mateOf 15 = .ok (.bipush 26, 2) := by decide +kernel
theorem dX8_mateOf_17 : decode cX8_mateOf 17 = .ok (.if_icmp .ge 100, 3) := by decide +kernel
theorem dX8_mateOf_20 : decode cX8_mateOf 20 = .ok (.aload_n 0, 1) := by decide +kernel
theorem dX8_mateOf_21 : decode cX8_mateOf 21 = .ok (.getfield 22, 3) := by decide +kernel
theorem dX8_mateOf_24 : decode cX8_mateOf 24 = .ok (.getfield 64, 3) := by decide +kernel
theorem dX8_mateOf_27 : decode cX8_mateOf 27 = .ok (.bipush 97, 2) := by decide +kernel
theorem dX8_mateOf_29 : decode cX8_mateOf 29 = .ok (.iload_n 3, 1) := by decide +kernel
theorem dX8_mateOf_30 : decode cX8_mateOf 30 = .ok (.iadd, 1) := by decide +kernel
theorem dX8_mateOf_31 : decode cX8_mateOf 31 = .ok (.invokestatic 145, 3) := by decide +kernel
theorem dX8_mateOf_34 : decode cX8_mateOf 34 = .ok (.istore 4, 2) := by decide +kernel
theorem dX8_mateOf_36 : decode cX8_mateOf 36 = .ok (.iconst 0, 1) := by decide +kernel
theorem dX8_mateOf_37 : decode cX8_mateOf 37 = .ok (.istore 5, 2) := by decide +kernel
theorem dX8_mateOf_39 : decode cX8_mateOf 39 = .ok (.iload 5, 2) := by decide +kernel
theorem dX8_mateOf_41 : decode cX8_mateOf 41 = .ok (.bipush 26, 2) := by decide +kernel
theorem dX8_mateOf_43 : decode cX8_mateOf 43 = .ok (.if_icmp .ge 68, 3) := by decide +kernel
theorem dX8_mateOf_46 : decode cX8_mateOf 46 = .ok (.iload 4, 2) := by decide +kernel
theorem dX8_mateOf_48 : decode cX8_mateOf 48 = .ok (.bipush 97, 2) := by decide +kernel
theorem dX8_mateOf_50 : decode cX8_mateOf 50 = .ok (.iload 5, 2) := by decide +kernel
theorem dX8_mateOf_52 : decode cX8_mateOf 52 = .ok (.iadd, 1) := by decide +kernel
theorem dX8_mateOf_53 : decode cX8_mateOf 53 = .ok (.invokestatic 145, 3) := by decide +kernel
theorem dX8_mateOf_56 : decode cX8_mateOf 56 = .ok (.iload_n 2, 1) := by decide +kernel
theorem dX8_mateOf_57 : decode cX8_mateOf 57 = .ok (.iand, 1) := by decide +kernel
theorem dX8_mateOf_58 : decode cX8_mateOf 58 = .ok (.iload_n 1, 1) := by decide +kernel
theorem dX8_mateOf_59 : decode cX8_mateOf 59 = .ok (.if_icmp .ne 7, 3) := by decide +kernel
theorem dX8_mateOf_62 : decode cX8_mateOf 62 = .ok (.iconst 1, 1) := by decide +kernel
theorem dX8_mateOf_63 : decode cX8_mateOf 63 = .ok (.goto 4, 3) := by decide +kernel
theorem dX8_mateOf_66 : decode cX8_mateOf 66 = .ok (.iconst 0, 1) := by decide +kernel
theorem dX8_mateOf_67 : decode cX8_mateOf 67 = .ok (.istore 6, 2) := by decide +kernel
theorem dX8_mateOf_69 : decode cX8_mateOf 69 = .ok (.iload 6, 2) := by decide +kernel
theorem dX8_mateOf_71 : decode cX8_mateOf 71 = .ok (.ifCond .eq 34, 3) := by decide +kernel
theorem dX8_mateOf_74 : decode cX8_mateOf 74 = .ok (.aload_n 0, 1) := by decide +kernel
theorem dX8_mateOf_75 : decode cX8_mateOf 75 = .ok (.getfield 26, 3) := by decide +kernel
theorem dX8_mateOf_78 : decode cX8_mateOf 78 = .ok (.bipush 97, 2) := by decide +kernel
theorem dX8_mateOf_80 : decode cX8_mateOf 80 = .ok (.iload_n 3, 1) := by decide +kernel
theorem dX8_mateOf_81 : decode cX8_mateOf 81 = .ok (.iadd, 1) := by decide +kernel
theorem dX8_mateOf_82 : decode cX8_mateOf 82 = .ok (.bipush 97, 2) := by decide +kernel
theorem dX8_mateOf_84 : decode cX8_mateOf 84 = .ok (.iload 5, 2) := by decide +kernel
theorem dX8_mateOf_86 : decode cX8_mateOf 86 = .ok (.iadd, 1) := by decide +kernel
theorem dX8_mateOf_87 : decode cX8_mateOf 87 = .ok (.invokestatic 148, 3) := by decide +kernel
theorem dX8_mateOf_90 : decode cX8_mateOf 90 = .ok (.invokevirtual 152, 3) := by decide +kernel
theorem dX8_mateOf_93 : decode cX8_mateOf 93 = .ok (.iconst (-1), 1) := by decide +kernel
theorem dX8_mateOf_94 : decode cX8_mateOf 94 = .ok (.if_icmp .ne 11, 3) := by decide +kernel
theorem dX8_mateOf_97 : decode cX8_mateOf 97 = .ok (.bipush 26, 2) := by decide +kernel
theorem dX8_mateOf_99 : decode cX8_mateOf 99 = .ok (.iload_n 3, 1) := by decide +kernel
theorem dX8_mateOf_100 : decode cX8_mateOf 100 = .ok (.imul, 1) := by decide +kernel
theorem dX8_mateOf_101 : decode cX8_mateOf 101 = .ok (.iload 5, 2) := by decide +kernel
theorem dX8_mateOf_103 : decode cX8_mateOf 103 = .ok (.iadd, 1) := by decide +kernel
theorem dX8_mateOf_104 : decode cX8_mateOf 104 = .ok (.ireturn, 1) := by decide +kernel
theorem dX8_mateOf_105 : decode cX8_mateOf 105 = .ok (.iinc 5 1, 3) := by decide +kernel
theorem dX8_mateOf_108 : decode cX8_mateOf 108 = .ok (.goto (-69), 3) := by decide +kernel
theorem dX8_mateOf_111 : decode cX8_mateOf 111 = .ok (.iinc 3 1, 3) := by decide +kernel
theorem dX8_mateOf_114 : decode cX8_mateOf 114 = .ok (.goto (-100), 3) := by decide +kernel
theorem dX8_mateOf_117 : decode cX8_mateOf 117 = .ok (.iconst (-1), 1) := by decide +kernel
theorem dX8_mateOf_118 : decode cX8_mateOf 118 = .ok (.ireturn, 1) := by decide +kernel
theorem dX8_twoLetters_0 : decode cX8_twoLetters 0 = .ok (.iload_n 0, 1) := by decide +kernel
theorem dX8_twoLetters_1 : decode cX8_twoLetters 1 = .ok (.i2l, 1) := by decide +kernel
theorem dX8_twoLetters_2 : decode cX8_twoLetters 2 = .ok (.bipush 56, 2) := by decide +kernel
theorem dX8_twoLetters_4 : decode cX8_twoLetters 4 = .ok (.lshl, 1) := by decide +kernel
theorem dX8_twoLetters_5 : decode cX8_twoLetters 5 = .ok (.iload_n 1, 1) := by decide +kernel
theorem dX8_twoLetters_6 : decode cX8_twoLetters 6 = .ok (.i2l, 1) := by decide +kernel
theorem dX8_twoLetters_7 : decode cX8_twoLetters 7 = .ok (.bipush 48, 2) := by decide +kernel
theorem dX8_twoLetters_9 : decode cX8_twoLetters 9 = .ok (.lshl, 1) := by decide +kernel
theorem dX8_twoLetters_10 : decode cX8_twoLetters 10 = .ok (.lor, 1) := by decide +kernel
theorem dX8_twoLetters_11 : decode cX8_twoLetters 11 = .ok (.lreturn, 1) := by decide +kernel
theorem dX8_longestChain_0 : decode cX8_longestChain 0 = .ok (.iconst 0, 1) := by decide +kernel
theorem dX8_longestChain_1 : decode cX8_longestChain 1 = .ok (.istore_n 1, 1) := by decide +kernel
theorem dX8_longestChain_2 : decode cX8_longestChain 2 = .ok (.iconst 0, 1) := by decide +kernel
theorem dX8_longestChain_3 : decode cX8_longestChain 3 = .ok (.istore_n 2, 1) := by decide +kernel
theorem dX8_longestChain_4 : decode cX8_longestChain 4 = .ok (.iload_n 2, 1) := by decide +kernel
theorem dX8_longestChain_5 : decode cX8_longestChain 5 = .ok (.sipush 240, 3) := by decide +kernel
theorem dX8_longestChain_8 : decode cX8_longestChain 8 = .ok (.if_icmp .ge 79, 3) := by decide +kernel
theorem dX8_longestChain_11 : decode cX8_longestChain 11 = .ok (.aload_n 0, 1) := by decide +kernel
theorem dX8_longestChain_12 : decode cX8_longestChain 12 = .ok (.getfield 22, 3) := by decide +kernel
theorem dX8_longestChain_15 : decode cX8_longestChain 15 = .ok (.getfield 111, 3) := by decide +kernel
theorem dX8_longestChain_18 : decode cX8_longestChain 18 = .ok (.iload_n 2, 1) := by decide +kernel
theorem dX8_longestChain_19 : decode cX8_longestChain 19 = .ok (.laload, 1) := by decide +kernel
theorem dX8_longestChain_20 : decode cX8_longestChain 20 = .ok (.lconst 0, 1) := by decide +kernel
theorem dX8_longestChain_21 : decode cX8_longestChain 21 = .ok (.lcmp, 1) := by decide +kernel
theorem dX8_longestChain_22 : decode cX8_longestChain 22 = .ok (.ifCond .eq 59, 3) := by decide +kernel
theorem dX8_longestChain_25 : decode cX8_longestChain 25 = .ok (.aload_n 0, 1) := by decide +kernel
theorem dX8_longestChain_26 : decode cX8_longestChain 26 = .ok (.getfield 26, 3) := by decide +kernel
theorem dX8_longestChain_29 : decode cX8_longestChain 29 = .ok (.getfield 130, 3) := by decide +kernel
theorem dX8_longestChain_32 : decode cX8_longestChain 32 = .ok (.aload_n 0, 1) := by decide +kernel
theorem dX8_longestChain_33 : decode cX8_longestChain 33 = .ok (.getfield 22, 3) := by decide +kernel
theorem dX8_longestChain_36 : decode cX8_longestChain 36 = .ok (.aload_n 0, 1) := by decide +kernel
theorem dX8_longestChain_37 : decode cX8_longestChain 37 = .ok (.getfield 26, 3) := by decide +kernel
theorem dX8_longestChain_40 : decode cX8_longestChain 40 = .ok (.getfield 54, 3) := by decide +kernel
theorem dX8_longestChain_43 : decode cX8_longestChain 43 = .ok (.aload_n 0, 1) := by decide +kernel
theorem dX8_longestChain_44 : decode cX8_longestChain 44 = .ok (.getfield 22, 3) := by decide +kernel
theorem dX8_longestChain_47 : decode cX8_longestChain 47 = .ok (.getfield 155, 3) := by decide +kernel
theorem dX8_longestChain_50 : decode cX8_longestChain 50 = .ok (.iload_n 2, 1) := by decide +kernel
theorem dX8_longestChain_51 : decode cX8_longestChain 51 = .ok (.iaload, 1) := by decide +kernel
theorem dX8_longestChain_52 : decode cX8_longestChain 52 = .ok (.invokevirtual 158, 3) := by decide +kernel
theorem dX8_longestChain_55 : decode cX8_longestChain 55 = .ok (.iload_n 1, 1) := by decide +kernel
theorem dX8_longestChain_56 : decode cX8_longestChain 56 = .ok (.aload_n 0, 1) := by decide +kernel
theorem dX8_longestChain_57 : decode cX8_longestChain 57 = .ok (.getfield 26, 3) := by decide +kernel
theorem dX8_longestChain_60 : decode cX8_longestChain 60 = .ok (.getfield 130, 3) := by decide +kernel
theorem dX8_longestChain_63 : decode cX8_longestChain 63 = .ok (.getfield 139, 3) := by decide +kernel
theorem dX8_longestChain_66 : decode cX8_longestChain 66 = .ok (.aload_n 0, 1) := by decide +kernel
theorem dX8_longestChain_67 : decode cX8_longestChain 67 = .ok (.getfield 26, 3) := by decide +kernel
theorem dX8_longestChain_70 : decode cX8_longestChain 70 = .ok (.getfield 130, 3) := by decide +kernel
theorem dX8_longestChain_73 : decode cX8_longestChain 73 = .ok (.getfield 134, 3) := by decide +kernel
theorem dX8_longestChain_76 : decode cX8_longestChain 76 = .ok (.isub, 1) := by decide +kernel
theorem dX8_longestChain_77 : decode cX8_longestChain 77 = .ok (.invokestatic 80, 3) := by decide +kernel
theorem dX8_longestChain_80 : decode cX8_longestChain 80 = .ok (.istore_n 1, 1) := by decide +kernel
theorem dX8_longestChain_81 : decode cX8_longestChain 81 = .ok (.iinc 2 1, 3) := by decide +kernel
theorem dX8_longestChain_84 : decode cX8_longestChain 84 = .ok (.goto (-80), 3) := by decide +kernel
theorem dX8_longestChain_87 : decode cX8_longestChain 87 = .ok (.iload_n 1, 1) := by decide +kernel
theorem dX8_longestChain_88 : decode cX8_longestChain 88 = .ok (.ireturn, 1) := by decide +kernel
theorem dX8_fewestInLeaf_0 : decode cX8_fewestInLeaf 0 = .ok (.bipush 6, 2) := by decide +kernel
theorem dX8_fewestInLeaf_2 : decode cX8_fewestInLeaf 2 = .ok (.istore_n 1, 1) := by decide +kernel
theorem dX8_fewestInLeaf_3 : decode cX8_fewestInLeaf 3 = .ok (.iconst 0, 1) := by decide +kernel
theorem dX8_fewestInLeaf_4 : decode cX8_fewestInLeaf 4 = .ok (.istore_n 2, 1) := by decide +kernel
theorem dX8_fewestInLeaf_5 : decode cX8_fewestInLeaf 5 = .ok (.iload_n 2, 1) := by decide +kernel
theorem dX8_fewestInLeaf_6 : decode cX8_fewestInLeaf 6 = .ok (.aload_n 0, 1) := by decide +kernel
theorem dX8_fewestInLeaf_7 : decode cX8_fewestInLeaf 7 = .ok (.getfield 26, 3) := by decide +kernel
theorem dX8_fewestInLeaf_10 : decode cX8_fewestInLeaf 10 = .ok (.getfield 54, 3) := by decide +kernel
theorem dX8_fewestInLeaf_13 : decode cX8_fewestInLeaf 13 = .ok (.getfield 161, 3) := by decide +kernel
theorem dX8_fewestInLeaf_16 : decode cX8_fewestInLeaf 16 = .ok (.if_icmp .ge 33, 3) := by decide +kernel
theorem dX8_fewestInLeaf_19 : decode cX8_fewestInLeaf 19 = .ok (.iload_n 1, 1) := by decide +kernel
theorem dX8_fewestInLeaf_20 : decode cX8_fewestInLeaf 20 = .ok (.aload_n 0, 1) := by decide +kernel
theorem dX8_fewestInLeaf_21 : decode cX8_fewestInLeaf 21 = .ok (.getfield 22, 3) := by decide +kernel
theorem dX8_fewestInLeaf_24 : decode cX8_fewestInLeaf 24 = .ok (.aload_n 0, 1) := by decide +kernel
theorem dX8_fewestInLeaf_25 : decode cX8_fewestInLeaf 25 = .ok (.getfield 26, 3) := by decide +kernel
theorem dX8_fewestInLeaf_28 : decode cX8_fewestInLeaf 28 = .ok (.getfield 54, 3) := by decide +kernel
theorem dX8_fewestInLeaf_31 : decode cX8_fewestInLeaf 31 = .ok (.getfield 89, 3) := by decide +kernel
theorem dX8_fewestInLeaf_34 : decode cX8_fewestInLeaf 34 = .ok (.iload_n 2, 1) := by decide +kernel
theorem dX8_fewestInLeaf_35 : decode cX8_fewestInLeaf 35 = .ok (.iaload, 1) := by decide +kernel
theorem dX8_fewestInLeaf_36 : decode cX8_fewestInLeaf 36 = .ok (.invokevirtual 95, 3) := by decide +kernel
theorem dX8_fewestInLeaf_39 : decode cX8_fewestInLeaf 39 = .ok (.invokestatic 162, 3) := by decide +kernel
theorem dX8_fewestInLeaf_42 : decode cX8_fewestInLeaf 42 = .ok (.istore_n 1, 1) := by decide +kernel
theorem dX8_fewestInLeaf_43 : decode cX8_fewestInLeaf 43 = .ok (.iinc 2 1, 3) := by decide +kernel
theorem dX8_fewestInLeaf_46 : decode cX8_fewestInLeaf 46 = .ok (.goto (-41), 3) := by decide +kernel
theorem dX8_fewestInLeaf_49 : decode cX8_fewestInLeaf 49 = .ok (.iload_n 1, 1) := by decide +kernel
theorem dX8_fewestInLeaf_50 : decode cX8_fewestInLeaf 50 = .ok (.ireturn, 1) := by decide +kernel
theorem dX8_fullestPlace_0 : decode cX8_fullestPlace 0 = .ok (.iconst 0, 1) := by decide +kernel
theorem dX8_fullestPlace_1 : decode cX8_fullestPlace 1 = .ok (.istore_n 1, 1) := by decide +kernel
theorem dX8_fullestPlace_2 : decode cX8_fullestPlace 2 = .ok (.iconst (-1), 1) := by decide +kernel
theorem dX8_fullestPlace_3 : decode cX8_fullestPlace 3 = .ok (.istore_n 2, 1) := by decide +kernel
theorem dX8_fullestPlace_4 : decode cX8_fullestPlace 4 = .ok (.iconst 0, 1) := by decide +kernel
theorem dX8_fullestPlace_5 : decode cX8_fullestPlace 5 = .ok (.istore_n 3, 1) := by decide +kernel
theorem dX8_fullestPlace_6 : decode cX8_fullestPlace 6 = .ok (.iload_n 3, 1) := by decide +kernel
theorem dX8_fullestPlace_7 : decode cX8_fullestPlace 7 = .ok (.aload_n 0, 1) := by decide +kernel
theorem dX8_fullestPlace_8 : decode cX8_fullestPlace 8 = .ok (.getfield 26, 3) := by decide +kernel
theorem dX8_fullestPlace_11 : decode cX8_fullestPlace 11 = .ok (.getfield 54, 3) := by decide +kernel
theorem dX8_fullestPlace_14 : decode cX8_fullestPlace 14 = .ok (.getfield 161, 3) := by decide +kernel
theorem dX8_fullestPlace_17 : decode cX8_fullestPlace 17 = .ok (.if_icmp .ge 41, 3) := by decide +kernel
theorem dX8_fullestPlace_20 : decode cX8_fullestPlace 20 = .ok (.aload_n 0, 1) := by decide +kernel
theorem dX8_fullestPlace_21 : decode cX8_fullestPlace 21 = .ok (.getfield 22, 3) := by decide +kernel
theorem dX8_fullestPlace_24 : decode cX8_fullestPlace 24 = .ok (.aload_n 0, 1) := by decide +kernel
theorem dX8_fullestPlace_25 : decode cX8_fullestPlace 25 = .ok (.getfield 26, 3) := by decide +kernel
theorem dX8_fullestPlace_28 : decode cX8_fullestPlace 28 = .ok (.getfield 54, 3) := by decide +kernel
theorem dX8_fullestPlace_31 : decode cX8_fullestPlace 31 = .ok (.getfield 89, 3) := by decide +kernel
theorem dX8_fullestPlace_34 : decode cX8_fullestPlace 34 = .ok (.iload_n 3, 1) := by decide +kernel
theorem dX8_fullestPlace_35 : decode cX8_fullestPlace 35 = .ok (.iaload, 1) := by decide +kernel
theorem dX8_fullestPlace_36 : decode cX8_fullestPlace 36 = .ok (.invokevirtual 95, 3) := by decide +kernel
theorem dX8_fullestPlace_39 : decode cX8_fullestPlace 39 = .ok (.istore 4, 2) := by decide +kernel
theorem dX8_fullestPlace_41 : decode cX8_fullestPlace 41 = .ok (.iload 4, 2) := by decide +kernel
theorem dX8_fullestPlace_43 : decode cX8_fullestPlace 43 = .ok (.iload_n 2, 1) := by decide +kernel
theorem dX8_fullestPlace_44 : decode cX8_fullestPlace 44 = .ok (.if_icmp .le 8, 3) := by decide +kernel
theorem dX8_fullestPlace_47 : decode cX8_fullestPlace 47 = .ok (.iload 4, 2) := by decide +kernel
theorem dX8_fullestPlace_49 : decode cX8_fullestPlace 49 = .ok (.istore_n 2, 1) := by decide +kernel
theorem dX8_fullestPlace_50 : decode cX8_fullestPlace 50 = .ok (.iload_n 3, 1) := by decide +kernel
theorem dX8_fullestPlace_51 : decode cX8_fullestPlace 51 = .ok (.istore_n 1, 1) := by decide +kernel
theorem dX8_fullestPlace_52 : decode cX8_fullestPlace 52 = .ok (.iinc 3 1, 3) := by decide +kernel
theorem dX8_fullestPlace_55 : decode cX8_fullestPlace 55 = .ok (.goto (-49), 3) := by decide +kernel
theorem dX8_fullestPlace_58 : decode cX8_fullestPlace 58 = .ok (.iload_n 1, 1) := by decide +kernel
theorem dX8_fullestPlace_59 : decode cX8_fullestPlace 59 = .ok (.ireturn, 1) := by decide +kernel
theorem dX8_entriesBehind_0 : decode cX8_entriesBehind 0 = .ok (.iconst 0, 1) := by decide +kernel
theorem dX8_entriesBehind_1 : decode cX8_entriesBehind 1 = .ok (.istore_n 1, 1) := by decide +kernel
theorem dX8_entriesBehind_2 : decode cX8_entriesBehind 2 = .ok (.iconst 0, 1) := by decide +kernel
theorem dX8_entriesBehind_3 : decode cX8_entriesBehind 3 = .ok (.istore_n 2, 1) := by decide +kernel
theorem dX8_entriesBehind_4 : decode cX8_entriesBehind 4 = .ok (.iload_n 2, 1) := by decide +kernel
theorem dX8_entriesBehind_5 : decode cX8_entriesBehind 5 = .ok (.sipush 240, 3) := by decide +kernel
theorem dX8_entriesBehind_8 : decode cX8_entriesBehind 8 = .ok (.if_icmp .ge 73, 3) := by decide +kernel
theorem dX8_entriesBehind_11 : decode cX8_entriesBehind 11 = .ok (.aload_n 0, 1) := by decide +kernel
theorem dX8_entriesBehind_12 : decode cX8_entriesBehind 12 = .ok (.getfield 22, 3) := by decide +kernel
theorem dX8_entriesBehind_15 : decode cX8_entriesBehind 15 = .ok (.getfield 111, 3) := by decide +kernel
theorem dX8_entriesBehind_18 : decode cX8_entriesBehind 18 = .ok (.iload_n 2, 1) := by decide +kernel
theorem dX8_entriesBehind_19 : decode cX8_entriesBehind 19 = .ok (.laload, 1) := by decide +kernel
theorem dX8_entriesBehind_20 : decode cX8_entriesBehind 20 = .ok (.lconst 0, 1) := by decide +kernel
theorem dX8_entriesBehind_21 : decode cX8_entriesBehind 21 = .ok (.lcmp, 1) := by decide +kernel
theorem dX8_entriesBehind_22 : decode cX8_entriesBehind 22 = .ok (.ifCond .eq 53, 3) := by decide +kernel
theorem dX8_entriesBehind_25 : decode cX8_entriesBehind 25 = .ok (.aload_n 0, 1) := by decide +kernel
theorem dX8_entriesBehind_26 : decode cX8_entriesBehind 26 = .ok (.getfield 26, 3) := by decide +kernel
theorem dX8_entriesBehind_29 : decode cX8_entriesBehind 29 = .ok (.getfield 130, 3) := by decide +kernel
theorem dX8_entriesBehind_32 : decode cX8_entriesBehind 32 = .ok (.aload_n 0, 1) := by decide +kernel
theorem dX8_entriesBehind_33 : decode cX8_entriesBehind 33 = .ok (.getfield 22, 3) := by decide +kernel
theorem dX8_entriesBehind_36 : decode cX8_entriesBehind 36 = .ok (.aload_n 0, 1) := by decide +kernel
theorem dX8_entriesBehind_37 : decode cX8_entriesBehind 37 = .ok (.getfield 26, 3) := by decide +kernel
theorem dX8_entriesBehind_40 : decode cX8_entriesBehind 40 = .ok (.getfield 54, 3) := by decide +kernel
theorem dX8_entriesBehind_43 : decode cX8_entriesBehind 43 = .ok (.aload_n 0, 1) := by decide +kernel
theorem dX8_entriesBehind_44 : decode cX8_entriesBehind 44 = .ok (.getfield 22, 3) := by decide +kernel
theorem dX8_entriesBehind_47 : decode cX8_entriesBehind 47 = .ok (.getfield 155, 3) := by decide +kernel
theorem dX8_entriesBehind_50 : decode cX8_entriesBehind 50 = .ok (.iload_n 2, 1) := by decide +kernel
theorem dX8_entriesBehind_51 : decode cX8_entriesBehind 51 = .ok (.iaload, 1) := by decide +kernel
theorem dX8_entriesBehind_52 : decode cX8_entriesBehind 52 = .ok (.invokevirtual 158, 3) := by decide +kernel
theorem dX8_entriesBehind_55 : decode cX8_entriesBehind 55 = .ok (.aload_n 0, 1) := by decide +kernel
theorem dX8_entriesBehind_56 : decode cX8_entriesBehind 56 = .ok (.getfield 26, 3) := by decide +kernel
theorem dX8_entriesBehind_59 : decode cX8_entriesBehind 59 = .ok (.getfield 130, 3) := by decide +kernel
theorem dX8_entriesBehind_62 : decode cX8_entriesBehind 62 = .ok (.invokevirtual 165, 3) := by decide +kernel
theorem dX8_entriesBehind_65 : decode cX8_entriesBehind 65 = .ok (.iload_n 2, 1) := by decide +kernel
theorem dX8_entriesBehind_66 : decode cX8_entriesBehind 66 = .ok (.bipush 6, 2) := by decide +kernel
theorem dX8_entriesBehind_68 : decode cX8_entriesBehind 68 = .ok (.idiv, 1) := by decide +kernel
theorem dX8_entriesBehind_69 : decode cX8_entriesBehind 69 = .ok (.if_icmp .eq 6, 3) := by decide +kernel
theorem dX8_entriesBehind_72 : decode cX8_entriesBehind 72 = .ok (.iinc 1 1, 3) := by decide +kernel
theorem dX8_entriesBehind_75 : decode cX8_entriesBehind 75 = .ok (.iinc 2 1, 3) := by decide +kernel
theorem dX8_entriesBehind_78 : decode cX8_entriesBehind 78 = .ok (.goto (-74), 3) := by decide +kernel
theorem dX8_entriesBehind_81 : decode cX8_entriesBehind 81 = .ok (.iload_n 1, 1) := by decide +kernel
theorem dX8_entriesBehind_82 : decode cX8_entriesBehind 82 = .ok (.ireturn, 1) := by decide +kernel
theorem dX8_widestIndex_0 : decode cX8_widestIndex 0 = .ok (.iconst (-1), 1) := by decide +kernel
theorem dX8_widestIndex_1 : decode cX8_widestIndex 1 = .ok (.istore_n 1, 1) := by decide +kernel
theorem dX8_widestIndex_2 : decode cX8_widestIndex 2 = .ok (.iconst 0, 1) := by decide +kernel
theorem dX8_widestIndex_3 : decode cX8_widestIndex 3 = .ok (.istore_n 2, 1) := by decide +kernel
theorem dX8_widestIndex_4 : decode cX8_widestIndex 4 = .ok (.iconst 0, 1) := by decide +kernel
theorem dX8_widestIndex_5 : decode cX8_widestIndex 5 = .ok (.istore_n 3, 1) := by decide +kernel
theorem dX8_widestIndex_6 : decode cX8_widestIndex 6 = .ok (.iload_n 3, 1) := by decide +kernel
theorem dX8_widestIndex_7 : decode cX8_widestIndex 7 = .ok (.bipush 40, 2) := by decide +kernel
theorem dX8_widestIndex_9 : decode cX8_widestIndex 9 = .ok (.if_icmp .ge 34, 3) := by decide +kernel
theorem dX8_widestIndex_12 : decode cX8_widestIndex 12 = .ok (.aload_n 0, 1) := by decide +kernel
theorem dX8_widestIndex_13 : decode cX8_widestIndex 13 = .ok (.getfield 22, 3) := by decide +kernel
theorem dX8_widestIndex_16 : decode cX8_widestIndex 16 = .ok (.getfield 168, 3) := by decide +kernel
theorem dX8_widestIndex_19 : decode cX8_widestIndex 19 = .ok (.iload_n 3, 1) := by decide +kernel
theorem dX8_widestIndex_20 : decode cX8_widestIndex 20 = .ok (.iaload, 1) := by decide +kernel
theorem dX8_widestIndex_21 : decode cX8_widestIndex 21 = .ok (.iload_n 2, 1) := by decide +kernel
theorem dX8_widestIndex_22 : decode cX8_widestIndex 22 = .ok (.if_icmp .le 15, 3) := by decide +kernel
theorem dX8_widestIndex_25 : decode cX8_widestIndex 25 = .ok (.aload_n 0, 1) := by decide +kernel
theorem dX8_widestIndex_26 : decode cX8_widestIndex 26 = .ok (.getfield 22, 3) := by decide +kernel
theorem dX8_widestIndex_29 : decode cX8_widestIndex 29 = .ok (.getfield 168, 3) := by decide +kernel
theorem dX8_widestIndex_32 : decode cX8_widestIndex 32 = .ok (.iload_n 3, 1) := by decide +kernel
theorem dX8_widestIndex_33 : decode cX8_widestIndex 33 = .ok (.iaload, 1) := by decide +kernel
theorem dX8_widestIndex_34 : decode cX8_widestIndex 34 = .ok (.istore_n 2, 1) := by decide +kernel
theorem dX8_widestIndex_35 : decode cX8_widestIndex 35 = .ok (.iload_n 3, 1) := by decide +kernel
theorem dX8_widestIndex_36 : decode cX8_widestIndex 36 = .ok (.istore_n 1, 1) := by decide +kernel
theorem dX8_widestIndex_37 : decode cX8_widestIndex 37 = .ok (.iinc 3 1, 3) := by decide +kernel
theorem dX8_widestIndex_40 : decode cX8_widestIndex 40 = .ok (.goto (-34), 3) := by decide +kernel
theorem dX8_widestIndex_43 : decode cX8_widestIndex 43 = .ok (.iload_n 1, 1) := by decide +kernel
theorem dX8_widestIndex_44 : decode cX8_widestIndex 44 = .ok (.ireturn, 1) := by decide +kernel
theorem dX8_leastFreeHash_0 : decode cX8_leastFreeHash 0 = .ok (.aload_n 0, 1) := by decide +kernel
theorem dX8_leastFreeHash_1 : decode cX8_leastFreeHash 1 = .ok (.aload_n 0, 1) := by decide +kernel
theorem dX8_leastFreeHash_2 : decode cX8_leastFreeHash 2 = .ok (.getfield 22, 3) := by decide +kernel
theorem dX8_leastFreeHash_5 : decode cX8_leastFreeHash 5 = .ok (.getfield 64, 3) := by decide +kernel
theorem dX8_leastFreeHash_8 : decode cX8_leastFreeHash 8 = .ok (.invokevirtual 107, 3) := by decide +kernel
theorem dX8_leastFreeHash_11 : decode cX8_leastFreeHash 11 = .ok (.iconst 1, 1) := by decide +kernel
theorem dX8_leastFreeHash_12 : decode cX8_leastFreeHash 12 = .ok (.aload_n 0, 1) := by decide +kernel
theorem dX8_leastFreeHash_13 : decode cX8_leastFreeHash 13 = .ok (.getfield 22, 3) := by decide +kernel
theorem dX8_leastFreeHash_16 : decode cX8_leastFreeHash 16 = .ok (.getfield 115, 3) := by decide +kernel
theorem dX8_leastFreeHash_19 : decode cX8_leastFreeHash 19 = .ok (.ishl, 1) := by decide +kernel
theorem dX8_leastFreeHash_20 : decode cX8_leastFreeHash 20 = .ok (.istore_n 1, 1) := by decide +kernel
theorem dX8_leastFreeHash_21 : decode cX8_leastFreeHash 21 = .ok (.iconst 0, 1) := by decide +kernel
theorem dX8_leastFreeHash_22 : decode cX8_leastFreeHash 22 = .ok (.istore_n 2, 1) := by decide +kernel
theorem dX8_leastFreeHash_23 : decode cX8_leastFreeHash 23 = .ok (.iload_n 2, 1) := by decide +kernel
theorem dX8_leastFreeHash_24 : decode cX8_leastFreeHash 24 = .ok (.iload_n 1, 1) := by decide +kernel
theorem dX8_leastFreeHash_25 : decode cX8_leastFreeHash 25 = .ok (.if_icmp .ge 20, 3) := by decide +kernel
theorem dX8_leastFreeHash_28 : decode cX8_leastFreeHash 28 = .ok (.aload_n 0, 1) := by decide +kernel
theorem dX8_leastFreeHash_29 : decode cX8_leastFreeHash 29 = .ok (.getfield 9, 3) := by decide +kernel
theorem dX8_leastFreeHash_32 : decode cX8_leastFreeHash 32 = .ok (.iload_n 2, 1) := by decide +kernel
theorem dX8_leastFreeHash_33 : decode cX8_leastFreeHash 33 = .ok (.iaload, 1) := by decide +kernel
theorem dX8_leastFreeHash_34 : decode cX8_leastFreeHash 34 = .ok (.ifCond .ne 5, 3) := by decide +kernel
theorem dX8_leastFreeHash_37 : decode cX8_leastFreeHash 37 = .ok (.iload_n 2, 1) := by decide +kernel
theorem dX8_leastFreeHash_38 : decode cX8_leastFreeHash 38 = .ok (.ireturn, 1) := by decide +kernel
theorem dX8_leastFreeHash_39 : decode cX8_leastFreeHash 39 = .ok (.iinc 2 1, 3) := by decide +kernel
theorem dX8_leastFreeHash_42 : decode cX8_leastFreeHash 42 = .ok (.goto (-19), 3) := by decide +kernel
theorem dX8_leastFreeHash_45 : decode cX8_leastFreeHash 45 = .ok (.iconst (-1), 1) := by decide +kernel
theorem dX8_leastFreeHash_46 : decode cX8_leastFreeHash 46 = .ok (.ireturn, 1) := by decide +kernel
theorem dX9_init_0 : decode cX9_init 0 = .ok (.aload_n 0, 1) := by decide +kernel
theorem dX9_init_1 : decode cX9_init 1 = .ok (.invokespecial 3, 3) := by decide +kernel
theorem dX9_init_4 : decode cX9_init 4 = .ok (.aload_n 0, 1) := by decide +kernel
theorem dX9_init_5 : decode cX9_init 5 = .ok (.sipush 400, 3) := by decide +kernel
theorem dX9_init_8 : decode cX9_init 8 = .ok (.newarray .int, 2) := by decide +kernel
theorem dX9_init_10 : decode cX9_init 10 = .ok (.putfield 9, 3) := by decide +kernel
theorem dX9_init_13 : decode cX9_init 13 = .ok (.aload_n 0, 1) := by decide +kernel
theorem dX9_init_14 : decode cX9_init 14 = .ok (.iconst 0, 1) := by decide +kernel
theorem dX9_init_15 : decode cX9_init 15 = .ok (.putfield 15, 3) := by decide +kernel
theorem dX9_init_18 : decode cX9_init 18 = .ok (.return_, 1) := by decide +kernel
theorem dX9_append_0 : decode cX9_append 0 = .ok (.bipush 24, 2) := by decide +kernel
theorem dX9_append_2 : decode cX9_append 2 = .ok (.istore_n 2, 1) := by decide +kernel
theorem dX9_append_3 : decode cX9_append 3 = .ok (.iload_n 2, 1) := by decide +kernel
theorem dX9_append_4 : decode cX9_append 4 = .ok (.ifCond .lt 45, 3) := by decide +kernel
theorem dX9_append_7 : decode cX9_append 7 = .ok (.aload_n 0, 1) := by decide +kernel
theorem dX9_append_8 : decode cX9_append 8 = .ok (.getfield 15, 3) := by decide +kernel
theorem dX9_append_11 : decode cX9_append 11 = .ok (.sipush 400, 3) := by decide +kernel
theorem dX9_append_14 : decode cX9_append 14 = .ok (.if_icmp .ge 29, 3) := by decide +kernel
theorem dX9_append_17 : decode cX9_append 17 = .ok (.aload_n 0, 1) := by decide +kernel
theorem dX9_append_18 : decode cX9_append 18 = .ok (.getfield 9, 3) := by decide +kernel
theorem dX9_append_21 : decode cX9_append 21 = .ok (.aload_n 0, 1) := by decide +kernel
theorem dX9_append_22 : decode cX9_append 22 = .ok (.getfield 15, 3) := by decide +kernel
theorem dX9_append_25 : decode cX9_append 25 = .ok (.iload_n 1, 1) := by decide +kernel
theorem dX9_append_26 : decode cX9_append 26 = .ok (.iload_n 2, 1) := by decide +kernel
theorem dX9_append_27 : decode cX9_append 27 = .ok (.iushr, 1) := by decide +kernel
theorem dX9_append_28 : decode cX9_append 28 = .ok (.sipush 255, 3) := by decide +kernel
theorem dX9_append_31 : decode cX9_append 31 = .ok (.iand, 1) := by decide +kernel
theorem dX9_append_32 : decode cX9_append 32 = .ok (.iastore, 1) := by decide +kernel
theorem dX9_append_33 : decode cX9_append 33 = .ok (.aload_n 0, 1) := by decide +kernel
theorem dX9_append_34 : decode cX9_append 34 = .ok (.dup, 1) := by decide +kernel
theorem dX9_append_35 : decode cX9_append 35 = .ok (.getfield 15, 3) := by decide +kernel
theorem dX9_append_38 : decode cX9_append 38 = .ok (.iconst 1, 1) := by decide +kernel
theorem dX9_append_39 : decode cX9_append 39 = .ok (.iadd, 1) := by decide +kernel
theorem dX9_append_40 : decode cX9_append 40 = .ok (.putfield 15, 3) := by decide +kernel
theorem dX9_append_43 : decode cX9_append 43 = .ok (.iinc 2 (-8), 3) := by decide +kernel
theorem dX9_append_46 : decode cX9_append 46 = .ok (.goto (-43), 3) := by decide +kernel
theorem dX9_append_49 : decode cX9_append 49 = .ok (.return_, 1) := by decide +kernel
theorem dX9_useUp_0 : decode cX9_useUp 0 = .ok (.aload_n 0, 1) := by decide +kernel
theorem dX9_useUp_1 : decode cX9_useUp 1 = .ok (.getfield 15, 3) := by decide +kernel
theorem dX9_useUp_4 : decode cX9_useUp 4 = .ok (.istore_n 1, 1) := by decide +kernel
theorem dX9_useUp_5 : decode cX9_useUp 5 = .ok (.aload_n 0, 1) := by decide +kernel
theorem dX9_useUp_6 : decode cX9_useUp 6 = .ok (.iconst 0, 1) := by decide +kernel
theorem dX9_useUp_7 : decode cX9_useUp 7 = .ok (.putfield 15, 3) := by decide +kernel
theorem dX9_useUp_10 : decode cX9_useUp 10 = .ok (.iload_n 1, 1) := by decide +kernel
theorem dX9_useUp_11 : decode cX9_useUp 11 = .ok (.ireturn, 1) := by decide +kernel
theorem dX10_init_0 : decode cX10_init 0 = .ok (.aload_n 0, 1) := by decide +kernel
theorem dX10_init_1 : decode cX10_init 1 = .ok (.invokespecial 3, 3) := by decide +kernel
theorem dX10_init_4 : decode cX10_init 4 = .ok (.aload_n 0, 1) := by decide +kernel
theorem dX10_init_5 : decode cX10_init 5 = .ok (.iconst 0, 1) := by decide +kernel
theorem dX10_init_6 : decode cX10_init 6 = .ok (.putfield 9, 3) := by decide +kernel
theorem dX10_init_9 : decode cX10_init 9 = .ok (.aload_n 0, 1) := by decide +kernel
theorem dX10_init_10 : decode cX10_init 10 = .ok (.iconst 0, 1) := by decide +kernel
theorem dX10_init_11 : decode cX10_init 11 = .ok (.putfield 15, 3) := by decide +kernel
theorem dX10_init_14 : decode cX10_init 14 = .ok (.aload_n 0, 1) := by decide +kernel
theorem dX10_init_15 : decode cX10_init 15 = .ok (.iconst (-1), 1) := by decide +kernel
theorem dX10_init_16 : decode cX10_init 16 = .ok (.putfield 18, 3) := by decide +kernel
theorem dX10_init_19 : decode cX10_init 19 = .ok (.aload_n 0, 1) := by decide +kernel
theorem dX10_init_20 : decode cX10_init 20 = .ok (.iconst 0, 1) := by decide +kernel
theorem dX10_init_21 : decode cX10_init 21 = .ok (.putfield 21, 3) := by decide +kernel
theorem dX10_init_24 : decode cX10_init 24 = .ok (.aload_n 0, 1) := by decide +kernel
theorem dX10_init_25 : decode cX10_init 25 = .ok (.getstatic 24, 3) := by decide +kernel
theorem dX10_init_28 : decode cX10_init 28 = .ok (.putfield 30, 3) := by decide +kernel
theorem dX10_init_31 : decode cX10_init 31 = .ok (.aload_n 0, 1) := by decide +kernel
theorem dX10_init_32 : decode cX10_init 32 = .ok (.lconst 0, 1) := by decide +kernel
theorem dX10_init_33 : decode cX10_init 33 = .ok (.putfield 33, 3) := by decide +kernel
theorem dX10_init_36 : decode cX10_init 36 = .ok (.aload_n 0, 1) := by decide +kernel
theorem dX10_init_37 : decode cX10_init 37 = .ok (.lconst 0, 1) := by decide +kernel
theorem dX10_init_38 : decode cX10_init 38 = .ok (.putfield 37, 3) := by decide +kernel
theorem dX10_init_41 : decode cX10_init 41 = .ok (.aload_n 0, 1) := by decide +kernel
theorem dX10_init_42 : decode cX10_init 42 = .ok (.iconst 0, 1) := by decide +kernel
theorem dX10_init_43 : decode cX10_init 43 = .ok (.putfield 40, 3) := by decide +kernel
theorem dX10_init_46 : decode cX10_init 46 = .ok (.aload_n 0, 1) := by decide +kernel
theorem dX10_init_47 : decode cX10_init 47 = .ok (.aload_n 1, 1) := by decide +kernel
theorem dX10_init_48 : decode cX10_init 48 = .ok (.putfield 43, 3) := by decide +kernel
theorem dX10_init_51 : decode cX10_init 51 = .ok (.return_, 1) := by decide +kernel
theorem dX10_begin_0 : decode cX10_begin 0 = .ok (.aload_n 0, 1) := by decide +kernel
theorem dX10_begin_1 : decode cX10_begin 1 = .ok (.iload_n 1, 1) := by decide +kernel
theorem dX10_begin_2 : decode cX10_begin 2 = .ok (.putfield 9, 3) := by decide +kernel
theorem dX10_begin_5 : decode cX10_begin 5 = .ok (.aload_n 0, 1) := by decide +kernel
theorem dX10_begin_6 : decode cX10_begin 6 = .ok (.iconst 0, 1) := by decide +kernel
theorem dX10_begin_7 : decode cX10_begin 7 = .ok (.putfield 15, 3) := by decide +kernel
theorem dX10_begin_10 : decode cX10_begin 10 = .ok (.aload_n 0, 1) := by decide +kernel
theorem dX10_begin_11 : decode cX10_begin 11 = .ok (.iconst (-1), 1) := by decide +kernel
theorem dX10_begin_12 : decode cX10_begin 12 = .ok (.putfield 18, 3) := by decide +kernel
theorem dX10_begin_15 : decode cX10_begin 15 = .ok (.return_, 1) := by decide +kernel
theorem dX10_markWrong_0 : decode cX10_markWrong 0 = .ok (.aload_n 0, 1) := by decide +kernel
theorem dX10_markWrong_1 : decode cX10_markWrong 1 = .ok (.getfield 18, 3) := by decide +kernel
theorem dX10_markWrong_4 : decode cX10_markWrong 4 = .ok (.iconst (-1), 1) := by decide +kernel
theorem dX10_markWrong_5 : decode cX10_markWrong 5 = .ok (.if_icmp .ne 8, 3) := by decide +kernel
theorem dX10_markWrong_8 : decode cX10_markWrong 8 = .ok (.aload_n 0, 1) := by decide +kernel
theorem dX10_markWrong_9 : decode cX10_markWrong 9 = .ok (.iload_n 1, 1) := by decide +kernel
theorem dX10_markWrong_10 : decode cX10_markWrong 10 = .ok (.putfield 18, 3) := by decide +kernel
theorem dX10_markWrong_13 : decode cX10_markWrong 13 = .ok (.return_, 1) := by decide +kernel
theorem dX10_skipBlanks_0 : decode cX10_skipBlanks 0 = .ok (.aload_n 0, 1) := by decide +kernel
theorem dX10_skipBlanks_1 : decode cX10_skipBlanks 1 = .ok (.getfield 15, 3) := by decide +kernel
theorem dX10_skipBlanks_4 : decode cX10_skipBlanks 4 = .ok (.istore_n 1, 1) := by decide +kernel
theorem dX10_skipBlanks_5 : decode cX10_skipBlanks 5 = .ok (.iload_n 1, 1) := by decide +kernel
theorem dX10_skipBlanks_6 : decode cX10_skipBlanks 6 = .ok (.istore_n 2, 1) := by decide +kernel
theorem dX10_skipBlanks_7 : decode cX10_skipBlanks 7 = .ok (.iload_n 2, 1) := by decide +kernel
theorem dX10_skipBlanks_8 : decode cX10_skipBlanks 8 = .ok (.aload_n 0, 1) := by decide +kernel
theorem dX10_skipBlanks_9 : decode cX10_skipBlanks 9 = .ok (.getfield 9, 3) := by decide +kernel
theorem dX10_skipBlanks_12 : decode cX10_skipBlanks 12 = .ok (.if_icmp .ge 26, 3) := by decide +kernel
theorem dX10_skipBlanks_15 : decode cX10_skipBlanks 15 = .ok (.aload_n 0, 1) := by decide +kernel
theorem dX10_skipBlanks_16 : decode cX10_skipBlanks 16 = .ok (.iload_n 2, 1) := by decide +kernel
theorem dX10_skipBlanks_17 : decode cX10_skipBlanks 17 = .ok (.invokevirtual 47, 3) := by decide +kernel
theorem dX10_skipBlanks_20 : decode cX10_skipBlanks 20 = .ok (.bipush 32, 2) := by decide +kernel
theorem dX10_skipBlanks_22 : decode cX10_skipBlanks 22 = .ok (.if_icmp .ne 16, 3) := by decide +kernel
theorem dX10_skipBlanks_25 : decode cX10_skipBlanks 25 = .ok (.aload_n 0, 1) := by decide +kernel
theorem dX10_skipBlanks_26 : decode cX10_skipBlanks 26 = .ok (.iload_n 2, 1) := by decide +kernel
theorem dX10_skipBlanks_27 : decode cX10_skipBlanks 27 = .ok (.iconst 1, 1) := by decide +kernel
theorem dX10_skipBlanks_28 : decode cX10_skipBlanks 28 = .ok (.iadd, 1) := by decide +kernel
theorem dX10_skipBlanks_29 : decode cX10_skipBlanks 29 = .ok (.putfield 15, 3) := by decide +kernel
theorem dX10_skipBlanks_32 : decode cX10_skipBlanks 32 = .ok (.iinc 2 1, 3) := by decide +kernel
theorem dX10_skipBlanks_35 : decode cX10_skipBlanks 35 = .ok (.goto (-28), 3) := by decide +kernel
theorem dX10_skipBlanks_38 : decode cX10_skipBlanks 38 = .ok (.return_, 1) := by decide +kernel
theorem dX10_isOver_0 : decode cX10_isOver 0 = .ok (.aload_n 0, 1) := by decide +kernel
theorem dX10_isOver_1 : decode cX10_isOver 1 = .ok (.invokevirtual 51, 3) := by decide +kernel
theorem dX10_isOver_4 : decode cX10_isOver 4 = .ok (.aload_n 0, 1) := by decide +kernel
theorem dX10_isOver_5 : decode cX10_isOver 5 = .ok (.getfield 15, 3) := by decide +kernel
theorem dX10_isOver_8 : decode cX10_isOver 8 = .ok (.aload_n 0, 1) := by decide +kernel
theorem dX10_isOver_9 : decode cX10_isOver 9 = .ok (.getfield 9, 3) := by decide +kernel
theorem dX10_isOver_12 : decode cX10_isOver 12 = .ok (.if_icmp .lt 7, 3) := by decide +kernel
theorem dX10_isOver_15 : decode cX10_isOver 15 = .ok (.iconst 1, 1) := by decide +kernel
theorem dX10_isOver_16 : decode cX10_isOver 16 = .ok (.goto 4, 3) := by decide +kernel
theorem dX10_isOver_19 : decode cX10_isOver 19 = .ok (.iconst 0, 1) := by decide +kernel
theorem dX10_isOver_20 : decode cX10_isOver 20 = .ok (.ireturn, 1) := by decide +kernel
theorem dX10_isRightlyOver_0 : decode cX10_isRightlyOver 0 = .ok (.aload_n 0, 1) := by decide +kernel
theorem dX10_isRightlyOver_1 : decode cX10_isRightlyOver 1 = .ok (.invokevirtual 54, 3) := by decide +kernel
theorem dX10_isRightlyOver_4 : decode cX10_isRightlyOver 4 = .ok (.ifCond .ne 11, 3) := by decide +kernel
theorem dX10_isRightlyOver_7 : decode cX10_isRightlyOver 7 = .ok (.aload_n 0, 1) := by decide +kernel
theorem dX10_isRightlyOver_8 : decode cX10_isRightlyOver 8 = .ok (.aload_n 0, 1) := by decide +kernel
theorem dX10_isRightlyOver_9 : decode cX10_isRightlyOver 9 = .ok (.getfield 15, 3) := by decide +kernel
theorem dX10_isRightlyOver_12 : decode cX10_isRightlyOver 12 = .ok (.invokevirtual 58, 3) := by decide +kernel
theorem dX10_isRightlyOver_15 : decode cX10_isRightlyOver 15 = .ok (.aload_n 0, 1) := by decide +kernel
theorem dX10_isRightlyOver_16 : decode cX10_isRightlyOver 16 = .ok (.getfield 18, 3) := by decide +kernel
theorem dX10_isRightlyOver_19 : decode cX10_isRightlyOver 19 = .ok (.iconst (-1), 1) := by decide +kernel
theorem dX10_isRightlyOver_20 : decode cX10_isRightlyOver 20 = .ok (.if_icmp .ne 7, 3) := by decide +kernel
theorem dX10_isRightlyOver_23 : decode cX10_isRightlyOver 23 = .ok (.iconst 1, 1) := by decide +kernel
theorem dX10_isRightlyOver_24 : decode cX10_isRightlyOver 24 = .ok (.goto 4, 3) := by decide +kernel
theorem dX10_isRightlyOver_27 : decode cX10_isRightlyOver 27 = .ok (.iconst 0, 1) := by decide +kernel
theorem dX10_isRightlyOver_28 : decode cX10_isRightlyOver 28 = .ok (.ireturn, 1) := by decide +kernel
theorem dX10_passSemicolon_0 : decode cX10_passSemicolon 0 = .ok (.aload_n 0, 1) := by decide +kernel
theorem dX10_passSemicolon_1 : decode cX10_passSemicolon 1 = .ok (.invokevirtual 54, 3) := by decide +kernel
theorem dX10_passSemicolon_4 : decode cX10_passSemicolon 4 = .ok (.ifCond .ne 16, 3) := by decide +kernel
theorem dX10_passSemicolon_7 : decode cX10_passSemicolon 7 = .ok (.aload_n 0, 1) := by decide +kernel
theorem dX10_passSemicolon_8 : decode cX10_passSemicolon 8 = .ok (.aload_n 0, 1) := by decide +kernel
theorem dX10_passSemicolon_9 : decode cX10_passSemicolon 9 = .ok (.getfield 15, 3) := by decide +kernel
theorem dX10_passSemicolon_12 : decode cX10_passSemicolon 12 = .ok (.invokevirtual 47, 3) := by decide +kernel
theorem dX10_passSemicolon_15 : decode cX10_passSemicolon 15 = .ok (.bipush 59, 2) := by decide +kernel
theorem dX10_passSemicolon_17 : decode cX10_passSemicolon 17 = .ok (.if_icmp .eq 5, 3) := by decide +kernel
theorem dX10_passSemicolon_20 : decode cX10_passSemicolon 20 = .ok (.iconst 0, 1) := by decide +kernel
theorem dX10_passSemicolon_21 : decode cX10_passSemicolon 21 = .ok (.ireturn, 1) := by decide +kernel
theorem dX10_passSemicolon_22 : decode cX10_passSemicolon 22 = .ok (.aload_n 0, 1) := by decide +kernel
theorem dX10_passSemicolon_23 : decode cX10_passSemicolon 23 = .ok (.dup, 1) := by decide +kernel
theorem dX10_passSemicolon_24 : decode cX10_passSemicolon 24 = .ok (.getfield 15, 3) := by decide +kernel
theorem dX10_passSemicolon_27 : decode cX10_passSemicolon 27 = .ok (.iconst 1, 1) := by decide +kernel
theorem dX10_passSemicolon_28 : decode cX10_passSemicolon 28 = .ok (.iadd, 1) := by decide +kernel
theorem dX10_passSemicolon_29 : decode cX10_passSemicolon 29 = .ok (.putfield 15, 3) := by decide +kernel
theorem dX10_passSemicolon_32 : decode cX10_passSemicolon 32 = .ok (.iconst 1, 1) := by decide +kernel
theorem dX10_passSemicolon_33 : decode cX10_passSemicolon 33 = .ok (.ireturn, 1) := by decide +kernel
theorem dX10_readName_0 : decode cX10_readName 0 = .ok (.aload_n 0, 1) := by decide +kernel
theorem dX10_readName_1 : decode cX10_readName 1 = .ok (.invokevirtual 51, 3) := by decide +kernel
theorem dX10_readName_4 : decode cX10_readName 4 = .ok (.aload_n 0, 1) := by decide +kernel
theorem dX10_readName_5 : decode cX10_readName 5 = .ok (.getfield 15, 3) := by decide +kernel
theorem dX10_readName_8 : decode cX10_readName 8 = .ok (.istore_n 1, 1) := by decide +kernel
theorem dX10_readName_9 : decode cX10_readName 9 = .ok (.aload_n 0, 1) := by decide +kernel
theorem dX10_readName_10 : decode cX10_readName 10 = .ok (.invokevirtual 62, 3) := by decide +kernel
theorem dX10_readName_13 : decode cX10_readName 13 = .ok (.istore_n 2, 1) := by decide +kernel
theorem dX10_readName_14 : decode cX10_readName 14 = .ok (.iload_n 2, 1) := by decide +kernel
theorem dX10_readName_15 : decode cX10_readName 15 = .ok (.iconst 1, 1) := by decide +kernel
theorem dX10_readName_16 : decode cX10_readName 16 = .ok (.if_icmp .lt 9, 3) := by decide +kernel
theorem dX10_readName_19 : decode cX10_readName 19 = .ok (.iload_n 2, 1) := by decide +kernel
theorem dX10_readName_20 : decode cX10_readName 20 = .ok (.bipush 8, 2) := by decide +kernel
theorem dX10_readName_22 : decode cX10_readName 22 = .ok (.if_icmp .le 10, 3) := by decide +kernel
theorem dX10_readName_25 : decode cX10_readName 25 = .ok (.aload_n 0, 1) := by decide +kernel
theorem dX10_readName_26 : decode cX10_readName 26 = .ok (.iload_n 1, 1) := by decide +kernel
theorem dX10_readName_27 : decode cX10_readName 27 = .ok (.invokevirtual 58, 3) := by decide +kernel
theorem dX10_readName_30 : decode cX10_readName 30 = .ok (.lconst 0, 1) := by decide +kernel
theorem dX10_readName_31 : decode cX10_readName 31 = .ok (.lreturn, 1) := by decide +kernel
theorem dX10_readName_32 : decode cX10_readName 32 = .ok (.lconst 0, 1) := by decide +kernel
theorem dX10_readName_33 : decode cX10_readName 33 = .ok (.lstore_n 3, 1) := by decide +kernel
theorem dX10_readName_34 : decode cX10_readName 34 = .ok (.iconst 0, 1) := by decide +kernel
theorem dX10_readName_35 : decode cX10_readName 35 = .ok (.istore 5, 2) := by decide +kernel
theorem dX10_readName_37 : decode cX10_readName 37 = .ok (.iload 5, 2) := by decide +kernel
theorem dX10_readName_39 : decode cX10_readName 39 = .ok (.bipush 8, 2) := by decide +kernel
theorem dX10_readName_41 : decode cX10_readName 41 = .ok (.if_icmp .ge 34, 3) := by decide +kernel
theorem dX10_readName_44 : decode cX10_readName 44 = .ok (.lload_n 3, 1) := by decide +kernel
theorem dX10_readName_45 : decode cX10_readName 45 = .ok (.bipush 8, 2) := by decide +kernel
theorem dX10_readName_47 : decode cX10_readName 47 = .ok (.lshl, 1) := by decide +kernel
theorem dX10_readName_48 : decode cX10_readName 48 = .ok (.iload 5, 2) := by decide +kernel
theorem dX10_readName_50 : decode cX10_readName 50 = .ok (.iload_n 2, 1) := by decide +kernel
theorem dX10_readName_51 : decode cX10_readName 51 = .ok (.if_icmp .ge 14, 3) := by decide +kernel
theorem dX10_readName_54 : decode cX10_readName 54 = .ok (.aload_n 0, 1) := by decide +kernel
theorem dX10_readName_55 : decode cX10_readName 55 = .ok (.iload_n 1, 1) := by decide +kernel
theorem dX10_readName_56 : decode cX10_readName 56 = .ok (.iload 5, 2) := by decide +kernel
theorem dX10_readName_58 : decode cX10_readName 58 = .ok (.iadd, 1) := by decide +kernel
theorem dX10_readName_59 : decode cX10_readName 59 = .ok (.invokevirtual 47, 3) := by decide +kernel
theorem dX10_readName_62 : decode cX10_readName 62 = .ok (.goto 4, 3) := by decide +kernel
theorem dX10_readName_65 : decode cX10_readName 65 = .ok (.iconst 0, 1) := by decide +kernel
theorem dX10_readName_66 : decode cX10_readName 66 = .ok (.i2l, 1) := by decide +kernel
theorem dX10_readName_67 : decode cX10_readName 67 = .ok (.lor, 1) := by decide +kernel
theorem dX10_readName_68 : decode cX10_readName 68 = .ok (.lstore_n 3, 1) := by decide +kernel
theorem dX10_readName_69 : decode cX10_readName 69 = .ok (.iinc 5 1, 3) := by decide +kernel
theorem dX10_readName_72 : decode cX10_readName 72 = .ok (.goto (-35), 3) := by decide +kernel
theorem dX10_readName_75 : decode cX10_readName 75 = .ok (.lload_n 3, 1) := by decide +kernel
theorem dX10_readName_76 : decode cX10_readName 76 = .ok (.lreturn, 1) := by decide +kernel
theorem dX10_readNumber_0 : decode cX10_readNumber 0 = .ok (.aload_n 0, 1) := by decide +kernel
theorem dX10_readNumber_1 : decode cX10_readNumber 1 = .ok (.invokevirtual 51, 3) := by decide +kernel
theorem dX10_readNumber_4 : decode cX10_readNumber 4 = .ok (.aload_n 0, 1) := by decide +kernel
theorem dX10_readNumber_5 : decode cX10_readNumber 5 = .ok (.getfield 15, 3) := by decide +kernel
theorem dX10_readNumber_8 : decode cX10_readNumber 8 = .ok (.istore_n 3, 1) := by decide +kernel
theorem dX10_readNumber_9 : decode cX10_readNumber 9 = .ok (.aload_n 0, 1) := by decide +kernel
theorem dX10_readNumber_10 : decode cX10_readNumber 10 = .ok (.invokevirtual 66, 3) := by decide +kernel
theorem dX10_readNumber_13 : decode cX10_readNumber 13 = .ok (.istore 4, 2) := by decide +kernel
theorem dX10_readNumber_15 : decode cX10_readNumber 15 = .ok (.iconst 0, 1) := by decide +kernel
theorem dX10_readNumber_16 : decode cX10_readNumber 16 = .ok (.istore 5, 2) := by decide +kernel
theorem dX10_readNumber_18 : decode cX10_readNumber 18 = .ok (.iconst 0, 1) := by decide +kernel
theorem dX10_readNumber_19 : decode cX10_readNumber 19 = .ok (.istore 6, 2) := by decide +kernel
theorem dX10_readNumber_21 : decode cX10_readNumber 21 = .ok (.iload 6, 2) := by decide +kernel
theorem dX10_readNumber_23 : decode cX10_readNumber 23 = .ok (.iload 4, 2) := by decide +kernel
theorem dX10_readNumber_25 : decode cX10_readNumber 25 = .ok (.if_icmp .ge 34, 3) := by decide +kernel
theorem dX10_readNumber_28 : decode cX10_readNumber 28 = .ok (.iload 6, 2) := by decide +kernel
theorem dX10_readNumber_30 : decode cX10_readNumber 30 = .ok (.iconst 5, 1) := by decide +kernel
theorem dX10_readNumber_31 : decode cX10_readNumber 31 = .ok (.if_icmp .ge 28, 3) := by decide +kernel
theorem dX10_readNumber_34 : decode cX10_readNumber 34 = .ok (.iload 5, 2) := by decide +kernel
theorem dX10_readNumber_36 : decode cX10_readNumber 36 = .ok (.bipush 10, 2) := by decide +kernel
theorem dX10_readNumber_38 : decode cX10_readNumber 38 = .ok (.imul, 1) := by decide +kernel
theorem dX10_readNumber_39 : decode cX10_readNumber 39 = .ok (.aload_n 0, 1) := by decide +kernel
theorem dX10_readNumber_40 : decode cX10_readNumber 40 = .ok (.iload_n 3, 1) := by decide +kernel
theorem dX10_readNumber_41 : decode cX10_readNumber 41 = .ok (.iload 6, 2) := by decide +kernel
theorem dX10_readNumber_43 : decode cX10_readNumber 43 = .ok (.iadd, 1) := by decide +kernel
theorem dX10_readNumber_44 : decode cX10_readNumber 44 = .ok (.invokevirtual 47, 3) := by decide +kernel
theorem dX10_readNumber_47 : decode cX10_readNumber 47 = .ok (.iadd, 1) := by decide +kernel
theorem dX10_readNumber_48 : decode cX10_readNumber 48 = .ok (.bipush 48, 2) := by decide +kernel
theorem dX10_readNumber_50 : decode cX10_readNumber 50 = .ok (.isub, 1) := by decide +kernel
theorem dX10_readNumber_51 : decode cX10_readNumber 51 = .ok (.istore 5, 2) := by decide +kernel
theorem dX10_readNumber_53 : decode cX10_readNumber 53 = .ok (.iinc 6 1, 3) := by decide +kernel
theorem dX10_readNumber_56 : decode cX10_readNumber 56 = .ok (.goto (-35), 3) := by decide +kernel
theorem dX10_readNumber_59 : decode cX10_readNumber 59 = .ok (.iload 4, 2) := by decide +kernel
theorem dX10_readNumber_61 : decode cX10_readNumber 61 = .ok (.iconst 1, 1) := by decide +kernel
theorem dX10_readNumber_62 : decode cX10_readNumber 62 = .ok (.if_icmp .lt 21, 3) := by decide +kernel
theorem dX10_readNumber_65 : decode cX10_readNumber 65 = .ok (.iload 4, 2) := by decide +kernel
theorem dX10_readNumber_67 : decode cX10_readNumber 67 = .ok (.iconst 5, 1) := by decide +kernel
theorem dX10_readNumber_68 : decode cX10_readNumber 68 = .ok (.if_icmp .gt 15, 3) := by decide +kernel
theorem dX10_readNumber_71 : decode cX10_readNumber 71 = .ok (.iload 5, 2) := by decide +kernel
theorem dX10_readNumber_73 : decode cX10_readNumber 73 = .ok (.iload_n 1, 1) := by decide +kernel
theorem dX10_readNumber_74 : decode cX10_readNumber 74 = .ok (.if_icmp .lt 9, 3) := by decide +kernel
theorem dX10_readNumber_77 : decode cX10_readNumber 77 = .ok (.iload 5, 2) := by decide +kernel
theorem dX10_readNumber_79 : decode cX10_readNumber 79 = .ok (.iload_n 2, 1) := by decide +kernel
theorem dX10_readNumber_80 : decode cX10_readNumber 80 = .ok (.if_icmp .le 10, 3) := by decide +kernel
theorem dX10_readNumber_83 : decode cX10_readNumber 83 = .ok (.aload_n 0, 1) := by decide +kernel
theorem dX10_readNumber_84 : decode cX10_readNumber 84 = .ok (.iload_n 3, 1) := by decide +kernel
theorem dX10_readNumber_85 : decode cX10_readNumber 85 = .ok (.invokevirtual 58, 3) := by decide +kernel
theorem dX10_readNumber_88 : decode cX10_readNumber 88 = .ok (.iconst (-1), 1) := by decide +kernel
theorem dX10_readNumber_89 : decode cX10_readNumber 89 = .ok (.ireturn, 1) := by decide +kernel
theorem dX10_readNumber_90 : decode cX10_readNumber 90 = .ok (.iload 5, 2) := by decide +kernel
theorem dX10_readNumber_92 : decode cX10_readNumber 92 = .ok (.ireturn, 1) := by decide +kernel
theorem dX10_readAct_0 : decode cX10_readAct 0 = .ok (.aload_n 0, 1) := by decide +kernel
theorem dX10_readAct_1 : decode cX10_readAct 1 = .ok (.invokevirtual 51, 3) := by decide +kernel
theorem dX10_readAct_4 : decode cX10_readAct 4 = .ok (.aload_n 0, 1) := by decide +kernel
theorem dX10_readAct_5 : decode cX10_readAct 5 = .ok (.aload_n 0, 1) := by decide +kernel
theorem dX10_readAct_6 : decode cX10_readAct 6 = .ok (.getfield 15, 3) := by decide +kernel
theorem dX10_readAct_9 : decode cX10_readAct 9 = .ok (.putfield 21, 3) := by decide +kernel
theorem dX10_readAct_12 : decode cX10_readAct 12 = .ok (.aload_n 0, 1) := by decide +kernel
theorem dX10_readAct_13 : decode cX10_readAct 13 = .ok (.aload_n 0, 1) := by decide +kernel
theorem dX10_readAct_14 : decode cX10_readAct 14 = .ok (.getfield 21, 3) := by decide +kernel
theorem dX10_readAct_17 : decode cX10_readAct 17 = .ok (.aload_n 0, 1) := by decide +kernel
theorem dX10_readAct_18 : decode cX10_readAct 18 = .ok (.invokevirtual 62, 3) := by decide +kernel
theorem dX10_readAct_21 : decode cX10_readAct 21 = .ok (.invokevirtual 69, 3) := by decide +kernel
theorem dX10_readAct_24 : decode cX10_readAct 24 = .ok (.istore_n 1, 1) := by decide +kernel
theorem dX10_readAct_25 : decode cX10_readAct 25 = .ok (.iload_n 1, 1) := by decide +kernel
theorem dX10_readAct_26 : decode cX10_readAct 26 = .ok (.iconst (-1), 1) := by decide +kernel
theorem dX10_readAct_27 : decode cX10_readAct 27 = .ok (.if_icmp .ne 13, 3) := by decide +kernel
theorem dX10_readAct_30 : decode cX10_readAct 30 = .ok (.aload_n 0, 1) := by decide +kernel
theorem dX10_readAct_31 : decode cX10_readAct 31 = .ok (.aload_n 0, 1) := by decide +kernel
theorem dX10_readAct_32 : decode cX10_readAct 32 = .ok (.getfield 21, 3) := by decide +kernel
theorem dX10_readAct_35 : decode cX10_readAct 35 = .ok (.invokevirtual 58, 3) := by decide +kernel
theorem dX10_readAct_38 : decode cX10_readAct 38 = .ok (.iconst 0, 1) := by decide +kernel
theorem dX10_readAct_39 : decode cX10_readAct 39 = .ok (.ireturn, 1) := by decide +kernel
theorem dX10_readAct_40 : decode cX10_readAct 40 = .ok (.aload_n 0, 1) := by decide +kernel
theorem dX10_readAct_41 : decode cX10_readAct 41 = .ok (.getstatic 73, 3) := by decide +kernel
theorem dX10_readAct_44 : decode cX10_readAct 44 = .ok (.iload_n 1, 1) := by decide +kernel
theorem dX10_readAct_45 : decode cX10_readAct 45 = .ok (.aaload, 1) := by decide +kernel
theorem dX10_readAct_46 : decode cX10_readAct 46 = .ok (.putfield 30, 3) := by decide +kernel
theorem dX10_readAct_49 : decode cX10_readAct 49 = .ok (.aload_n 0, 1) := by decide +kernel
theorem dX10_readAct_50 : decode cX10_readAct 50 = .ok (.aload_n 0, 1) := by decide +kernel
theorem dX10_readAct_51 : decode cX10_readAct 51 = .ok (.getfield 30, 3) := by decide +kernel
theorem dX10_readAct_54 : decode cX10_readAct 54 = .ok (.getfield 77, 3) := by decide +kernel
theorem dX10_readAct_57 : decode cX10_readAct 57 = .ok (.ifCond .le 10, 3) := by decide +kernel
theorem dX10_readAct_60 : decode cX10_readAct 60 = .ok (.aload_n 0, 1) := by decide +kernel
theorem dX10_readAct_61 : decode cX10_readAct 61 = .ok (.invokevirtual 80, 3) := by decide +kernel
theorem dX10_readAct_64 : decode cX10_readAct 64 = .ok (.goto 4, 3) := by decide +kernel
theorem dX10_readAct_67 : decode cX10_readAct 67 = .ok (.lconst 0, 1) := by decide +kernel
theorem dX10_readAct_68 : decode cX10_readAct 68 = .ok (.putfield 33, 3) := by decide +kernel
theorem dX10_readAct_71 : decode cX10_readAct 71 = .ok (.aload_n 0, 1) := by decide +kernel
theorem dX10_readAct_72 : decode cX10_readAct 72 = .ok (.aload_n 0, 1) := by decide +kernel
theorem dX10_readAct_73 : decode cX10_readAct 73 = .ok (.getfield 30, 3) := by decide +kernel
theorem dX10_readAct_76 : decode cX10_readAct 76 = .ok (.getfield 77, 3) := by decide +kernel
theorem dX10_readAct_79 : decode cX10_readAct 79 = .ok (.iconst 1, 1) := by decide +kernel
theorem dX10_readAct_80 : decode cX10_readAct 80 = .ok (.if_icmp .le 10, 3) := by decide +kernel
theorem dX10_readAct_83 : decode cX10_readAct 83 = .ok (.aload_n 0, 1) := by decide +kernel
theorem dX10_readAct_84 : decode cX10_readAct 84 = .ok (.invokevirtual 80, 3) := by decide +kernel
theorem dX10_readAct_87 : decode cX10_readAct 87 = .ok (.goto 4, 3) := by decide +kernel
theorem dX10_readAct_90 : decode cX10_readAct 90 = .ok (.lconst 0, 1) := by decide +kernel
theorem dX10_readAct_91 : decode cX10_readAct 91 = .ok (.putfield 37, 3) := by decide +kernel
theorem dX10_readAct_94 : decode cX10_readAct 94 = .ok (.aload_n 0, 1) := by decide +kernel
theorem dX10_readAct_95 : decode cX10_readAct 95 = .ok (.aload_n 0, 1) := by decide +kernel
theorem dX10_readAct_96 : decode cX10_readAct 96 = .ok (.getfield 30, 3) := by decide +kernel
theorem dX10_readAct_99 : decode cX10_readAct 99 = .ok (.invokevirtual 84, 3) := by decide +kernel
theorem dX10_readAct_102 : decode cX10_readAct 102 = .ok (.ifCond .eq 24, 3) := by decide +kernel
theorem dX10_readAct_105 : decode cX10_readAct 105 = .ok (.aload_n 0, 1) := by decide +kernel
theorem dX10_readAct_106 : decode cX10_readAct 106 = .ok (.aload_n 0, 1) := by decide +kernel
theorem dX10_readAct_107 : decode cX10_readAct 107 = .ok (.getfield 30, 3) := by decide +kernel
theorem dX10_readAct_110 : decode cX10_readAct 110 = .ok (.getfield 87, 3) := by decide +kernel
theorem dX10_readAct_113 : decode cX10_readAct 113 = .ok (.aload_n 0, 1) := by decide +kernel
theorem dX10_readAct_114 : decode cX10_readAct 114 = .ok (.getfield 30, 3) := by decide +kernel
theorem dX10_readAct_117 : decode cX10_readAct 117 = .ok (.getfield 90, 3) := by decide +kernel
theorem dX10_readAct_120 : decode cX10_readAct 120 = .ok (.invokevirtual 93, 3) := by decide +kernel
theorem dX10_readAct_123 : decode cX10_readAct 123 = .ok (.goto 4, 3) := by decide +kernel
theorem dX10_readAct_126 : decode cX10_readAct 126 = .ok (.iconst 0, 1) := by decide +kernel
theorem dX10_readAct_127 : decode cX10_readAct 127 = .ok (.putfield 40, 3) := by decide +kernel
theorem dX10_readAct_130 : decode cX10_readAct 130 = .ok (.aload_n 0, 1) := by decide +kernel
theorem dX10_readAct_131 : decode cX10_readAct 131 = .ok (.getfield 18, 3) := by decide +kernel
theorem dX10_readAct_134 : decode cX10_readAct 134 = .ok (.iconst (-1), 1) := by decide +kernel
theorem dX10_readAct_135 : decode cX10_readAct 135 = .ok (.if_icmp .ne 7, 3) := by decide +kernel
theorem dX10_readAct_138 : decode cX10_readAct 138 = .ok (.iconst 1, 1) := by decide +kernel
theorem dX10_readAct_139 : decode cX10_readAct 139 = .ok (.goto 4, 3) := by decide +kernel
theorem dX10_readAct_142 : decode cX10_readAct 142 = .ok (.iconst 0, 1) := by decide +kernel
theorem dX10_readAct_143 : decode cX10_readAct 143 = .ok (.ireturn, 1) := by decide +kernel
