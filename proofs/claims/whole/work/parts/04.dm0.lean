theorem dX13_init_0 : decode cX13_init 0 = .ok (.aload_n 0, 1) := by decide +kernel
theorem dX13_init_1 : decode cX13_init 1 = .ok (.invokespecial 1, 3) := by decide +kernel
theorem dX13_init_4 : decode cX13_init 4 = .ok (.aload_n 0, 1) := by decide +kernel
theorem dX13_init_5 : decode cX13_init 5 = .ok (.sipush 1084, 3) := by decide +kernel
theorem dX13_init_8 : decode cX13_init 8 = .ok (.newarray .int, 2) := by decide +kernel
theorem dX13_init_10 : decode cX13_init 10 = .ok (.putfield 7, 3) := by decide +kernel
theorem dX13_init_13 : decode cX13_init 13 = .ok (.aload_n 0, 1) := by decide +kernel
theorem dX13_init_14 : decode cX13_init 14 = .ok (.sipush 240, 3) := by decide +kernel
theorem dX13_init_17 : decode cX13_init 17 = .ok (.newarray .long, 2) := by decide +kernel
theorem dX13_init_19 : decode cX13_init 19 = .ok (.putfield 13, 3) := by decide +kernel
theorem dX13_init_22 : decode cX13_init 22 = .ok (.aload_n 0, 1) := by decide +kernel
theorem dX13_init_23 : decode cX13_init 23 = .ok (.sipush 8672, 3) := by decide +kernel
theorem dX13_init_26 : decode cX13_init 26 = .ok (.newarray .int, 2) := by decide +kernel
theorem dX13_init_28 : decode cX13_init 28 = .ok (.putfield 17, 3) := by decide +kernel
theorem dX13_init_31 : decode cX13_init 31 = .ok (.aload_n 0, 1) := by decide +kernel
theorem dX13_init_32 : decode cX13_init 32 = .ok (.sipush 1920, 3) := by decide +kernel
theorem dX13_init_35 : decode cX13_init 35 = .ok (.newarray .long, 2) := by decide +kernel
theorem dX13_init_37 : decode cX13_init 37 = .ok (.putfield 20, 3) := by decide +kernel
theorem dX13_init_40 : decode cX13_init 40 = .ok (.aload_n 0, 1) := by decide +kernel
theorem dX13_init_41 : decode cX13_init 41 = .ok (.sipush 1084, 3) := by decide +kernel
theorem dX13_init_44 : decode cX13_init 44 = .ok (.newarray .int, 2) := by decide +kernel
theorem dX13_init_46 : decode cX13_init 46 = .ok (.putfield 23, 3) := by decide +kernel
theorem dX13_init_49 : decode cX13_init 49 = .ok (.aload_n 0, 1) := by decide +kernel
theorem dX13_init_50 : decode cX13_init 50 = .ok (.sipush 240, 3) := by decide +kernel
theorem dX13_init_53 : decode cX13_init 53 = .ok (.newarray .long, 2) := by decide +kernel
theorem dX13_init_55 : decode cX13_init 55 = .ok (.putfield 26, 3) := by decide +kernel
theorem dX13_init_58 : decode cX13_init 58 = .ok (.aload_n 0, 1) := by decide +kernel
theorem dX13_init_59 : decode cX13_init 59 = .ok (.sipush 1084, 3) := by decide +kernel
theorem dX13_init_62 : decode cX13_init 62 = .ok (.newarray .int, 2) := by decide +kernel
theorem dX13_init_64 : decode cX13_init 64 = .ok (.putfield 29, 3) := by decide +kernel
theorem dX13_init_67 : decode cX13_init 67 = .ok (.aload_n 0, 1) := by decide +kernel
theorem dX13_init_68 : decode cX13_init 68 = .ok (.sipush 240, 3) := by decide +kernel
theorem dX13_init_71 : decode cX13_init 71 = .ok (.newarray .long, 2) := by decide +kernel
theorem dX13_init_73 : decode cX13_init 73 = .ok (.putfield 32, 3) := by decide +kernel
theorem dX13_init_76 : decode cX13_init 76 = .ok (.aload_n 0, 1) := by decide +kernel
theorem dX13_init_77 : decode cX13_init 77 = .ok (.iconst 4, 1) := by decide +kernel
theorem dX13_init_78 : decode cX13_init 78 = .ok (.newarray .boolean, 2) := by decide +kernel
theorem dX13_init_80 : decode cX13_init 80 = .ok (.putfield 35, 3) := by decide +kernel
theorem dX13_init_83 : decode cX13_init 83 = .ok (.aload_n 0, 1) := by decide +kernel
theorem dX13_init_84 : decode cX13_init 84 = .ok (.iconst 4, 1) := by decide +kernel
theorem dX13_init_85 : decode cX13_init 85 = .ok (.newarray .int, 2) := by decide +kernel
theorem dX13_init_87 : decode cX13_init 87 = .ok (.putfield 39, 3) := by decide +kernel
theorem dX13_init_90 : decode cX13_init 90 = .ok (.aload_n 0, 1) := by decide +kernel
theorem dX13_init_91 : decode cX13_init 91 = .ok (.iconst 4, 1) := by decide +kernel
theorem dX13_init_92 : decode cX13_init 92 = .ok (.newarray .int, 2) := by decide +kernel
theorem dX13_init_94 : decode cX13_init 94 = .ok (.putfield 42, 3) := by decide +kernel
theorem dX13_init_97 : decode cX13_init 97 = .ok (.aload_n 0, 1) := by decide +kernel
theorem dX13_init_98 : decode cX13_init 98 = .ok (.iconst 4, 1) := by decide +kernel
theorem dX13_init_99 : decode cX13_init 99 = .ok (.newarray .int, 2) := by decide +kernel
theorem dX13_init_101 : decode cX13_init 101 = .ok (.putfield 45, 3) := by decide +kernel
theorem dX13_init_104 : decode cX13_init 104 = .ok (.aload_n 0, 1) := by decide +kernel
theorem dX13_init_105 : decode cX13_init 105 = .ok (.sipush 240, 3) := by decide +kernel
theorem dX13_init_108 : decode cX13_init 108 = .ok (.newarray .int, 2) := by decide +kernel
theorem dX13_init_110 : decode cX13_init 110 = .ok (.putfield 48, 3) := by decide +kernel
theorem dX13_init_113 : decode cX13_init 113 = .ok (.aload_n 0, 1) := by decide +kernel
theorem dX13_init_114 : decode cX13_init 114 = .ok (.sipush 400, 3) := by decide +kernel
theorem dX13_init_117 : decode cX13_init 117 = .ok (.newarray .int, 2) := by decide +kernel
theorem dX13_init_119 : decode cX13_init 119 = .ok (.putfield 51, 3) := by decide +kernel
theorem dX13_init_122 : decode cX13_init 122 = .ok (.aload_n 0, 1) := by decide +kernel
theorem dX13_init_123 : decode cX13_init 123 = .ok (.iconst (-1), 1) := by decide +kernel
theorem dX13_init_124 : decode cX13_init 124 = .ok (.putfield 54, 3) := by decide +kernel
theorem dX13_init_127 : decode cX13_init 127 = .ok (.aload_n 0, 1) := by decide +kernel
theorem dX13_init_128 : decode cX13_init 128 = .ok (.bipush 40, 2) := by decide +kernel
theorem dX13_init_130 : decode cX13_init 130 = .ok (.newarray .int, 2) := by decide +kernel
theorem dX13_init_132 : decode cX13_init 132 = .ok (.putfield 58, 3) := by decide +kernel
theorem dX13_init_135 : decode cX13_init 135 = .ok (.aload_n 0, 1) := by decide +kernel
theorem dX13_init_136 : decode cX13_init 136 = .ok (.bipush 40, 2) := by decide +kernel
theorem dX13_init_138 : decode cX13_init 138 = .ok (.newarray .int, 2) := by decide +kernel
theorem dX13_init_140 : decode cX13_init 140 = .ok (.putfield 61, 3) := by decide +kernel
theorem dX13_init_143 : decode cX13_init 143 = .ok (.aload_n 0, 1) := by decide +kernel
theorem dX13_init_144 : decode cX13_init 144 = .ok (.bipush 40, 2) := by decide +kernel
theorem dX13_init_146 : decode cX13_init 146 = .ok (.newarray .int, 2) := by decide +kernel
theorem dX13_init_148 : decode cX13_init 148 = .ok (.putfield 64, 3) := by decide +kernel
theorem dX13_init_151 : decode cX13_init 151 = .ok (.aload_n 0, 1) := by decide +kernel
theorem dX13_init_152 : decode cX13_init 152 = .ok (.sipush 240, 3) := by decide +kernel
theorem dX13_init_155 : decode cX13_init 155 = .ok (.newarray .long, 2) := by decide +kernel
theorem dX13_init_157 : decode cX13_init 157 = .ok (.putfield 67, 3) := by decide +kernel
theorem dX13_init_160 : decode cX13_init 160 = .ok (.aload_n 0, 1) := by decide +kernel
theorem dX13_init_161 : decode cX13_init 161 = .ok (.sipush 240, 3) := by decide +kernel
theorem dX13_init_164 : decode cX13_init 164 = .ok (.newarray .int, 2) := by decide +kernel
theorem dX13_init_166 : decode cX13_init 166 = .ok (.putfield 70, 3) := by decide +kernel
theorem dX13_init_169 : decode cX13_init 169 = .ok (.aload_n 0, 1) := by decide +kernel
theorem dX13_init_170 : decode cX13_init 170 = .ok (.sipush 240, 3) := by decide +kernel
theorem dX13_init_173 : decode cX13_init 173 = .ok (.newarray .int, 2) := by decide +kernel
theorem dX13_init_175 : decode cX13_init 175 = .ok (.putfield 73, 3) := by decide +kernel
theorem dX13_init_178 : decode cX13_init 178 = .ok (.aload_n 0, 1) := by decide +kernel
theorem dX13_init_179 : decode cX13_init 179 = .ok (.iconst 4, 1) := by decide +kernel
theorem dX13_init_180 : decode cX13_init 180 = .ok (.newarray .boolean, 2) := by decide +kernel
theorem dX13_init_182 : decode cX13_init 182 = .ok (.putfield 76, 3) := by decide +kernel
theorem dX13_init_185 : decode cX13_init 185 = .ok (.aload_n 0, 1) := by decide +kernel
theorem dX13_init_186 : decode cX13_init 186 = .ok (.getfield 7, 3) := by decide +kernel
theorem dX13_init_189 : decode cX13_init 189 = .ok (.iconst 0, 1) := by decide +kernel
theorem dX13_init_190 : decode cX13_init 190 = .ok (.iconst 1, 1) := by decide +kernel
theorem dX13_init_191 : decode cX13_init 191 = .ok (.iastore, 1) := by decide +kernel
theorem dX13_init_192 : decode cX13_init 192 = .ok (.iconst 0, 1) := by decide +kernel
theorem dX13_init_193 : decode cX13_init 193 = .ok (.istore_n 1, 1) := by decide +kernel
theorem dX13_init_194 : decode cX13_init 194 = .ok (.iload_n 1, 1) := by decide +kernel
theorem dX13_init_195 : decode cX13_init 195 = .ok (.sipush 240, 3) := by decide +kernel
theorem dX13_init_198 : decode cX13_init 198 = .ok (.if_icmp .ge 20, 3) := by decide +kernel
theorem dX13_init_201 : decode cX13_init 201 = .ok (.aload_n 0, 1) := by decide +kernel
theorem dX13_init_202 : decode cX13_init 202 = .ok (.getfield 7, 3) := by decide +kernel
theorem dX13_init_205 : decode cX13_init 205 = .ok (.sipush 840, 3) := by decide +kernel
theorem dX13_init_208 : decode cX13_init 208 = .ok (.iload_n 1, 1) := by decide +kernel
theorem dX13_init_209 : decode cX13_init 209 = .ok (.iadd, 1) := by decide +kernel
theorem dX13_init_210 : decode cX13_init 210 = .ok (.iconst (-1), 1) := by decide +kernel
theorem dX13_init_211 : decode cX13_init 211 = .ok (.iastore, 1) := by decide +kernel
theorem dX13_init_212 : decode cX13_init 212 = .ok (.iinc 1 1, 3) := by decide +kernel
theorem dX13_init_215 : decode cX13_init 215 = .ok (.goto (-21), 3) := by decide +kernel
theorem dX13_init_218 : decode cX13_init 218 = .ok (.aload_n 0, 1) := by decide +kernel
theorem dX13_init_219 : decode cX13_init 219 = .ok (.getfield 7, 3) := by decide +kernel
theorem dX13_init_222 : decode cX13_init 222 = .ok (.sipush 1081, 3) := by decide +kernel
theorem dX13_init_225 : decode cX13_init 225 = .ok (.bipush 6, 2) := by decide +kernel
theorem dX13_init_227 : decode cX13_init 227 = .ok (.iastore, 1) := by decide +kernel
theorem dX13_init_228 : decode cX13_init 228 = .ok (.aload_n 0, 1) := by decide +kernel
theorem dX13_init_229 : decode cX13_init 229 = .ok (.getfield 7, 3) := by decide +kernel
theorem dX13_init_232 : decode cX13_init 232 = .ok (.sipush 1082, 3) := by decide +kernel
theorem dX13_init_235 : decode cX13_init 235 = .ok (.iconst 1, 1) := by decide +kernel
theorem dX13_init_236 : decode cX13_init 236 = .ok (.iastore, 1) := by decide +kernel
theorem dX13_init_237 : decode cX13_init 237 = .ok (.return_, 1) := by decide +kernel
theorem dX13_thrown_0 : decode cX13_thrown 0 = .ok (.aload_n 0, 1) := by decide +kernel
theorem dX13_thrown_1 : decode cX13_thrown 1 = .ok (.getfield 79, 3) := by decide +kernel
theorem dX13_thrown_4 : decode cX13_thrown 4 = .ok (.ireturn, 1) := by decide +kernel
theorem dX13_isIn_0 : decode cX13_isIn 0 = .ok (.iload_n 0, 1) := by decide +kernel
theorem dX13_isIn_1 : decode cX13_isIn 1 = .ok (.iload_n 1, 1) := by decide +kernel
theorem dX13_isIn_2 : decode cX13_isIn 2 = .ok (.if_icmp .lt 12, 3) := by decide +kernel
theorem dX13_isIn_5 : decode cX13_isIn 5 = .ok (.iload_n 0, 1) := by decide +kernel
theorem dX13_isIn_6 : decode cX13_isIn 6 = .ok (.iload_n 2, 1) := by decide +kernel
theorem dX13_isIn_7 : decode cX13_isIn 7 = .ok (.if_icmp .gt 7, 3) := by decide +kernel
theorem dX13_isIn_10 : decode cX13_isIn 10 = .ok (.iconst 1, 1) := by decide +kernel
theorem dX13_isIn_11 : decode cX13_isIn 11 = .ok (.goto 4, 3) := by decide +kernel
theorem dX13_isIn_14 : decode cX13_isIn 14 = .ok (.iconst 0, 1) := by decide +kernel
theorem dX13_isIn_15 : decode cX13_isIn 15 = .ok (.ireturn, 1) := by decide +kernel
theorem dX13_greater_0 : decode cX13_greater 0 = .ok (.iload_n 0, 1) := by decide +kernel
theorem dX13_greater_1 : decode cX13_greater 1 = .ok (.iload_n 1, 1) := by decide +kernel
theorem dX13_greater_2 : decode cX13_greater 2 = .ok (.if_icmp .le 7, 3) := by decide +kernel
theorem dX13_greater_5 : decode cX13_greater 5 = .ok (.iload_n 0, 1) := by decide +kernel
theorem dX13_greater_6 : decode cX13_greater 6 = .ok (.goto 4, 3) := by decide +kernel
theorem dX13_greater_9 : decode cX13_greater 9 = .ok (.iload_n 1, 1) := by decide +kernel
theorem dX13_greater_10 : decode cX13_greater 10 = .ok (.ireturn, 1) := by decide +kernel
theorem dX13_rowAt_0 : decode cX13_rowAt 0 = .ok (.bipush 120, 2) := by decide +kernel
theorem dX13_rowAt_2 : decode cX13_rowAt 2 = .ok (.bipush 18, 2) := by decide +kernel
theorem dX13_rowAt_4 : decode cX13_rowAt 4 = .ok (.iload_n 0, 1) := by decide +kernel
theorem dX13_rowAt_5 : decode cX13_rowAt 5 = .ok (.imul, 1) := by decide +kernel
theorem dX13_rowAt_6 : decode cX13_rowAt 6 = .ok (.iadd, 1) := by decide +kernel
theorem dX13_rowAt_7 : decode cX13_rowAt 7 = .ok (.iconst 3, 1) := by decide +kernel
theorem dX13_rowAt_8 : decode cX13_rowAt 8 = .ok (.iload_n 1, 1) := by decide +kernel
theorem dX13_rowAt_9 : decode cX13_rowAt 9 = .ok (.imul, 1) := by decide +kernel
theorem dX13_rowAt_10 : decode cX13_rowAt 10 = .ok (.iadd, 1) := by decide +kernel
theorem dX13_rowAt_11 : decode cX13_rowAt 11 = .ok (.iload_n 2, 1) := by decide +kernel
theorem dX13_rowAt_12 : decode cX13_rowAt 12 = .ok (.iadd, 1) := by decide +kernel
theorem dX13_rowAt_13 : decode cX13_rowAt 13 = .ok (.ireturn, 1) := by decide +kernel
theorem dX13_slotAt_0 : decode cX13_slotAt 0 = .ok (.bipush 6, 2) := by decide +kernel
theorem dX13_slotAt_2 : decode cX13_slotAt 2 = .ok (.iload_n 0, 1) := by decide +kernel
theorem dX13_slotAt_3 : decode cX13_slotAt 3 = .ok (.imul, 1) := by decide +kernel
theorem dX13_slotAt_4 : decode cX13_slotAt 4 = .ok (.iload_n 1, 1) := by decide +kernel
theorem dX13_slotAt_5 : decode cX13_slotAt 5 = .ok (.iadd, 1) := by decide +kernel
theorem dX13_slotAt_6 : decode cX13_slotAt 6 = .ok (.ireturn, 1) := by decide +kernel
theorem dX13_isEmpty_0 : decode cX13_isEmpty 0 = .ok (.aload_n 0, 1) := by decide +kernel
theorem dX13_isEmpty_1 : decode cX13_isEmpty 1 = .ok (.getfield 7, 3) := by decide +kernel
theorem dX13_isEmpty_4 : decode cX13_isEmpty 4 = .ok (.sipush 840, 3) := by decide +kernel
theorem dX13_isEmpty_7 : decode cX13_isEmpty 7 = .ok (.iload_n 1, 1) := by decide +kernel
theorem dX13_isEmpty_8 : decode cX13_isEmpty 8 = .ok (.iload_n 2, 1) := by decide +kernel
theorem dX13_isEmpty_9 : decode cX13_isEmpty 9 = .ok (.invokestatic 82, 3) := by decide +kernel
theorem dX13_isEmpty_12 : decode cX13_isEmpty 12 = .ok (.iadd, 1) := by decide +kernel
theorem dX13_isEmpty_13 : decode cX13_isEmpty 13 = .ok (.iaload, 1) := by decide +kernel
theorem dX13_isEmpty_14 : decode cX13_isEmpty 14 = .ok (.iconst (-1), 1) := by decide +kernel
theorem dX13_isEmpty_15 : decode cX13_isEmpty 15 = .ok (.if_icmp .ne 7, 3) := by decide +kernel
theorem dX13_isEmpty_18 : decode cX13_isEmpty 18 = .ok (.iconst 1, 1) := by decide +kernel
theorem dX13_isEmpty_19 : decode cX13_isEmpty 19 = .ok (.goto 4, 3) := by decide +kernel
theorem dX13_isEmpty_22 : decode cX13_isEmpty 22 = .ok (.iconst 0, 1) := by decide +kernel
theorem dX13_isEmpty_23 : decode cX13_isEmpty 23 = .ok (.ireturn, 1) := by decide +kernel
theorem dX13_entries_0 : decode cX13_entries 0 = .ok (.iconst 0, 1) := by decide +kernel
theorem dX13_entries_1 : decode cX13_entries 1 = .ok (.istore_n 2, 1) := by decide +kernel
theorem dX13_entries_2 : decode cX13_entries 2 = .ok (.iconst 0, 1) := by decide +kernel
theorem dX13_entries_3 : decode cX13_entries 3 = .ok (.istore_n 3, 1) := by decide +kernel
theorem dX13_entries_4 : decode cX13_entries 4 = .ok (.iload_n 3, 1) := by decide +kernel
theorem dX13_entries_5 : decode cX13_entries 5 = .ok (.bipush 6, 2) := by decide +kernel
theorem dX13_entries_7 : decode cX13_entries 7 = .ok (.if_icmp .ge 26, 3) := by decide +kernel
theorem dX13_entries_10 : decode cX13_entries 10 = .ok (.iload_n 2, 1) := by decide +kernel
theorem dX13_entries_11 : decode cX13_entries 11 = .ok (.aload_n 0, 1) := by decide +kernel
theorem dX13_entries_12 : decode cX13_entries 12 = .ok (.iload_n 1, 1) := by decide +kernel
theorem dX13_entries_13 : decode cX13_entries 13 = .ok (.iload_n 3, 1) := by decide +kernel
theorem dX13_entries_14 : decode cX13_entries 14 = .ok (.invokevirtual 86, 3) := by decide +kernel
theorem dX13_entries_17 : decode cX13_entries 17 = .ok (.ifCond .eq 7, 3) := by decide +kernel
theorem dX13_entries_20 : decode cX13_entries 20 = .ok (.iconst 0, 1) := by decide +kernel
theorem dX13_entries_21 : decode cX13_entries 21 = .ok (.goto 4, 3) := by decide +kernel
theorem dX13_entries_24 : decode cX13_entries 24 = .ok (.iconst 1, 1) := by decide +kernel
theorem dX13_entries_25 : decode cX13_entries 25 = .ok (.iadd, 1) := by decide +kernel
theorem dX13_entries_26 : decode cX13_entries 26 = .ok (.istore_n 2, 1) := by decide +kernel
theorem dX13_entries_27 : decode cX13_entries 27 = .ok (.iinc 3 1, 3) := by decide +kernel
theorem dX13_entries_30 : decode cX13_entries 30 = .ok (.goto (-26), 3) := by decide +kernel
theorem dX13_entries_33 : decode cX13_entries 33 = .ok (.iload_n 2, 1) := by decide +kernel
theorem dX13_entries_34 : decode cX13_entries 34 = .ok (.ireturn, 1) := by decide +kernel
theorem dX13_allEntries_0 : decode cX13_allEntries 0 = .ok (.iconst 0, 1) := by decide +kernel
theorem dX13_allEntries_1 : decode cX13_allEntries 1 = .ok (.istore_n 1, 1) := by decide +kernel
theorem dX13_allEntries_2 : decode cX13_allEntries 2 = .ok (.iconst 0, 1) := by decide +kernel
theorem dX13_allEntries_3 : decode cX13_allEntries 3 = .ok (.istore_n 2, 1) := by decide +kernel
theorem dX13_allEntries_4 : decode cX13_allEntries 4 = .ok (.iload_n 2, 1) := by decide +kernel
theorem dX13_allEntries_5 : decode cX13_allEntries 5 = .ok (.sipush 240, 3) := by decide +kernel
theorem dX13_allEntries_8 : decode cX13_allEntries 8 = .ok (.if_icmp .ge 31, 3) := by decide +kernel
theorem dX13_allEntries_11 : decode cX13_allEntries 11 = .ok (.iload_n 1, 1) := by decide +kernel
theorem dX13_allEntries_12 : decode cX13_allEntries 12 = .ok (.aload_n 0, 1) := by decide +kernel
theorem dX13_allEntries_13 : decode cX13_allEntries 13 = .ok (.getfield 7, 3) := by decide +kernel
theorem dX13_allEntries_16 : decode cX13_allEntries 16 = .ok (.sipush 840, 3) := by decide +kernel
theorem dX13_allEntries_19 : decode cX13_allEntries 19 = .ok (.iload_n 2, 1) := by decide +kernel
theorem dX13_allEntries_20 : decode cX13_allEntries 20 = .ok (.iadd, 1) := by decide +kernel
theorem dX13_allEntries_21 : decode cX13_allEntries 21 = .ok (.iaload, 1) := by decide +kernel
theorem dX13_allEntries_22 : decode cX13_allEntries 22 = .ok (.iconst (-1), 1) := by decide +kernel
theorem dX13_allEntries_23 : decode cX13_allEntries 23 = .ok (.if_icmp .ne 7, 3) := by decide +kernel
theorem dX13_allEntries_26 : decode cX13_allEntries 26 = .ok (.iconst 0, 1) := by decide +kernel
theorem dX13_allEntries_27 : decode cX13_allEntries 27 = .ok (.goto 4, 3) := by decide +kernel
theorem dX13_allEntries_30 : decode cX13_allEntries 30 = .ok (.iconst 1, 1) := by decide +kernel
theorem dX13_allEntries_31 : decode cX13_allEntries 31 = .ok (.iadd, 1) := by decide +kernel
theorem dX13_allEntries_32 : decode cX13_allEntries 32 = .ok (.istore_n 1, 1) := by decide +kernel
theorem dX13_allEntries_33 : decode cX13_allEntries 33 = .ok (.iinc 2 1, 3) := by decide +kernel
theorem dX13_allEntries_36 : decode cX13_allEntries 36 = .ok (.goto (-32), 3) := by decide +kernel
theorem dX13_allEntries_39 : decode cX13_allEntries 39 = .ok (.iload_n 1, 1) := by decide +kernel
theorem dX13_allEntries_40 : decode cX13_allEntries 40 = .ok (.ireturn, 1) := by decide +kernel
theorem dX13_countOf_0 : decode cX13_countOf 0 = .ok (.iconst 0, 1) := by decide +kernel
theorem dX13_countOf_1 : decode cX13_countOf 1 = .ok (.istore_n 3, 1) := by decide +kernel
theorem dX13_countOf_2 : decode cX13_countOf 2 = .ok (.iconst 0, 1) := by decide +kernel
theorem dX13_countOf_3 : decode cX13_countOf 3 = .ok (.istore 4, 2) := by decide +kernel
theorem dX13_countOf_5 : decode cX13_countOf 5 = .ok (.iload 4, 2) := by decide +kernel
theorem dX13_countOf_7 : decode cX13_countOf 7 = .ok (.bipush 40, 2) := by decide +kernel
theorem dX13_countOf_9 : decode cX13_countOf 9 = .ok (.if_icmp .ge 30, 3) := by decide +kernel
theorem dX13_countOf_12 : decode cX13_countOf 12 = .ok (.iload_n 3, 1) := by decide +kernel
theorem dX13_countOf_13 : decode cX13_countOf 13 = .ok (.aload_n 0, 1) := by decide +kernel
theorem dX13_countOf_14 : decode cX13_countOf 14 = .ok (.getfield 7, 3) := by decide +kernel
theorem dX13_countOf_17 : decode cX13_countOf 17 = .ok (.iload_n 1, 1) := by decide +kernel
theorem dX13_countOf_18 : decode cX13_countOf 18 = .ok (.iload 4, 2) := by decide +kernel
theorem dX13_countOf_20 : decode cX13_countOf 20 = .ok (.iadd, 1) := by decide +kernel
theorem dX13_countOf_21 : decode cX13_countOf 21 = .ok (.iaload, 1) := by decide +kernel
theorem dX13_countOf_22 : decode cX13_countOf 22 = .ok (.iload_n 2, 1) := by decide +kernel
theorem dX13_countOf_23 : decode cX13_countOf 23 = .ok (.if_icmp .ne 7, 3) := by decide +kernel
theorem dX13_countOf_26 : decode cX13_countOf 26 = .ok (.iconst 1, 1) := by decide +kernel
theorem dX13_countOf_27 : decode cX13_countOf 27 = .ok (.goto 4, 3) := by decide +kernel
theorem dX13_countOf_30 : decode cX13_countOf 30 = .ok (.iconst 0, 1) := by decide +kernel
theorem dX13_countOf_31 : decode cX13_countOf 31 = .ok (.iadd, 1) := by decide +kernel
theorem dX13_countOf_32 : decode cX13_countOf 32 = .ok (.istore_n 3, 1) := by decide +kernel
theorem dX13_countOf_33 : decode cX13_countOf 33 = .ok (.iinc 4 1, 3) := by decide +kernel
theorem dX13_countOf_36 : decode cX13_countOf 36 = .ok (.goto (-31), 3) := by decide +kernel
theorem dX13_countOf_39 : decode cX13_countOf 39 = .ok (.iload_n 3, 1) := by decide +kernel
theorem dX13_countOf_40 : decode cX13_countOf 40 = .ok (.ireturn, 1) := by decide +kernel
theorem dX13_isAnyTorn_0 : decode cX13_isAnyTorn 0 = .ok (.aload_n 0, 1) := by decide +kernel
theorem dX13_isAnyTorn_1 : decode cX13_isAnyTorn 1 = .ok (.bipush 40, 2) := by decide +kernel
theorem dX13_isAnyTorn_3 : decode cX13_isAnyTorn 3 = .ok (.iconst 1, 1) := by decide +kernel
theorem dX13_isAnyTorn_4 : decode cX13_isAnyTorn 4 = .ok (.invokevirtual 90, 3) := by decide +kernel
theorem dX13_isAnyTorn_7 : decode cX13_isAnyTorn 7 = .ok (.ifCond .le 7, 3) := by decide +kernel
theorem dX13_isAnyTorn_10 : decode cX13_isAnyTorn 10 = .ok (.iconst 1, 1) := by decide +kernel
theorem dX13_isAnyTorn_11 : decode cX13_isAnyTorn 11 = .ok (.goto 4, 3) := by decide +kernel
theorem dX13_isAnyTorn_14 : decode cX13_isAnyTorn 14 = .ok (.iconst 0, 1) := by decide +kernel
theorem dX13_isAnyTorn_15 : decode cX13_isAnyTorn 15 = .ok (.ireturn, 1) := by decide +kernel
theorem dX13_letterOf_0 : decode cX13_letterOf 0 = .ok (.lload_n 0, 1) := by decide +kernel
theorem dX13_letterOf_1 : decode cX13_letterOf 1 = .ok (.bipush 8, 2) := by decide +kernel
theorem dX13_letterOf_3 : decode cX13_letterOf 3 = .ok (.bipush 7, 2) := by decide +kernel
theorem dX13_letterOf_5 : decode cX13_letterOf 5 = .ok (.iload_n 2, 1) := by decide +kernel
theorem dX13_letterOf_6 : decode cX13_letterOf 6 = .ok (.isub, 1) := by decide +kernel
theorem dX13_letterOf_7 : decode cX13_letterOf 7 = .ok (.imul, 1) := by decide +kernel
theorem dX13_letterOf_8 : decode cX13_letterOf 8 = .ok (.lshr, 1) := by decide +kernel
theorem dX13_letterOf_9 : decode cX13_letterOf 9 = .ok (.l2i, 1) := by decide +kernel
theorem dX13_letterOf_10 : decode cX13_letterOf 10 = .ok (.sipush 255, 3) := by decide +kernel
theorem dX13_letterOf_13 : decode cX13_letterOf 13 = .ok (.iand, 1) := by decide +kernel
theorem dX13_letterOf_14 : decode cX13_letterOf 14 = .ok (.ireturn, 1) := by decide +kernel
theorem dX13_longOf_0 : decode cX13_longOf 0 = .ok (.iconst 0, 1) := by decide +kernel
theorem dX13_longOf_1 : decode cX13_longOf 1 = .ok (.istore_n 2, 1) := by decide +kernel
theorem dX13_longOf_2 : decode cX13_longOf 2 = .ok (.iload_n 2, 1) := by decide +kernel
theorem dX13_longOf_3 : decode cX13_longOf 3 = .ok (.bipush 8, 2) := by decide +kernel
theorem dX13_longOf_5 : decode cX13_longOf 5 = .ok (.if_icmp .ge 17, 3) := by decide +kernel
theorem dX13_longOf_8 : decode cX13_longOf 8 = .ok (.lload_n 0, 1) := by decide +kernel
theorem dX13_longOf_9 : decode cX13_longOf 9 = .ok (.iload_n 2, 1) := by decide +kernel
theorem dX13_longOf_10 : decode cX13_longOf 10 = .ok (.invokestatic 93, 3) := by decide +kernel
theorem dX13_longOf_13 : decode cX13_longOf 13 = .ok (.ifCond .le 9, 3) := by decide +kernel
theorem dX13_longOf_16 : decode cX13_longOf 16 = .ok (.iinc 2 1, 3) := by decide +kernel
theorem dX13_longOf_19 : decode cX13_longOf 19 = .ok (.goto (-17), 3) := by decide +kernel
theorem dX13_longOf_22 : decode cX13_longOf 22 = .ok (.iload_n 2, 1) := by decide +kernel
theorem dX13_longOf_23 : decode cX13_longOf 23 = .ok (.ireturn, 1) := by decide +kernel
theorem dX13_small_0 : decode cX13_small 0 = .ok (.iload_n 0, 1) := by decide +kernel
theorem dX13_small_1 : decode cX13_small 1 = .ok (.bipush 65, 2) := by decide +kernel
theorem dX13_small_3 : decode cX13_small 3 = .ok (.if_icmp .lt 16, 3) := by decide +kernel
theorem dX13_small_6 : decode cX13_small 6 = .ok (.iload_n 0, 1) := by decide +kernel
theorem dX13_small_7 : decode cX13_small 7 = .ok (.bipush 90, 2) := by decide +kernel
theorem dX13_small_9 : decode cX13_small 9 = .ok (.if_icmp .gt 10, 3) := by decide +kernel
theorem dX13_small_12 : decode cX13_small 12 = .ok (.iload_n 0, 1) := by decide +kernel
theorem dX13_small_13 : decode cX13_small 13 = .ok (.bipush 32, 2) := by decide +kernel
theorem dX13_small_15 : decode cX13_small 15 = .ok (.iadd, 1) := by decide +kernel
theorem dX13_small_16 : decode cX13_small 16 = .ok (.goto 4, 3) := by decide +kernel
theorem dX13_small_19 : decode cX13_small 19 = .ok (.iload_n 0, 1) := by decide +kernel
theorem dX13_small_20 : decode cX13_small 20 = .ok (.ireturn, 1) := by decide +kernel
theorem dX13_folded_0 : decode cX13_folded 0 = .ok (.lconst 0, 1) := by decide +kernel
theorem dX13_folded_1 : decode cX13_folded 1 = .ok (.lstore_n 2, 1) := by decide +kernel
theorem dX13_folded_2 : decode cX13_folded 2 = .ok (.iconst 0, 1) := by decide +kernel
theorem dX13_folded_3 : decode cX13_folded 3 = .ok (.istore 4, 2) := by decide +kernel
theorem dX13_folded_5 : decode cX13_folded 5 = .ok (.iload 4, 2) := by decide +kernel
theorem dX13_folded_7 : decode cX13_folded 7 = .ok (.bipush 8, 2) := by decide +kernel
theorem dX13_folded_9 : decode cX13_folded 9 = .ok (.if_icmp .ge 25, 3) := by decide +kernel
theorem dX13_folded_12 : decode cX13_folded 12 = .ok (.lload_n 2, 1) := by decide +kernel
theorem dX13_folded_13 : decode cX13_folded 13 = .ok (.bipush 8, 2) := by decide +kernel
theorem dX13_folded_15 : decode cX13_folded 15 = .ok (.lshl, 1) := by decide +kernel
theorem dX13_folded_16 : decode cX13_folded 16 = .ok (.lload_n 0, 1) := by decide +kernel
theorem dX13_folded_17 : decode cX13_folded 17 = .ok (.iload 4, 2) := by decide +kernel
theorem dX13_folded_19 : decode cX13_folded 19 = .ok (.invokestatic 93, 3) := by decide +kernel
theorem dX13_folded_22 : decode cX13_folded 22 = .ok (.invokestatic 97, 3) := by decide +kernel
theorem dX13_folded_25 : decode cX13_folded 25 = .ok (.i2l, 1) := by decide +kernel
theorem dX13_folded_26 : decode cX13_folded 26 = .ok (.lor, 1) := by decide +kernel
theorem dX13_folded_27 : decode cX13_folded 27 = .ok (.lstore_n 2, 1) := by decide +kernel
theorem dX13_folded_28 : decode cX13_folded 28 = .ok (.iinc 4 1, 3) := by decide +kernel
theorem dX13_folded_31 : decode cX13_folded 31 = .ok (.goto (-26), 3) := by decide +kernel
theorem dX13_folded_34 : decode cX13_folded 34 = .ok (.lload_n 2, 1) := by decide +kernel
theorem dX13_folded_35 : decode cX13_folded 35 = .ok (.lreturn, 1) := by decide +kernel
theorem dX13_areOne_0 : decode cX13_areOne 0 = .ok (.lload_n 1, 1) := by decide +kernel
theorem dX13_areOne_1 : decode cX13_areOne 1 = .ok (.lload_n 3, 1) := by decide +kernel
theorem dX13_areOne_2 : decode cX13_areOne 2 = .ok (.lcmp, 1) := by decide +kernel
theorem dX13_areOne_3 : decode cX13_areOne 3 = .ok (.ifCond .eq 27, 3) := by decide +kernel
theorem dX13_areOne_6 : decode cX13_areOne 6 = .ok (.aload_n 0, 1) := by decide +kernel
theorem dX13_areOne_7 : decode cX13_areOne 7 = .ok (.getfield 7, 3) := by decide +kernel
theorem dX13_areOne_10 : decode cX13_areOne 10 = .ok (.sipush 1083, 3) := by decide +kernel
theorem dX13_areOne_13 : decode cX13_areOne 13 = .ok (.iaload, 1) := by decide +kernel
theorem dX13_areOne_14 : decode cX13_areOne 14 = .ok (.iconst 1, 1) := by decide +kernel
theorem dX13_areOne_15 : decode cX13_areOne 15 = .ok (.if_icmp .ne 19, 3) := by decide +kernel
theorem dX13_areOne_18 : decode cX13_areOne 18 = .ok (.lload_n 1, 1) := by decide +kernel
theorem dX13_areOne_19 : decode cX13_areOne 19 = .ok (.invokestatic 101, 3) := by decide +kernel
theorem dX13_areOne_22 : decode cX13_areOne 22 = .ok (.lload_n 3, 1) := by decide +kernel
theorem dX13_areOne_23 : decode cX13_areOne 23 = .ok (.invokestatic 101, 3) := by decide +kernel
theorem dX13_areOne_26 : decode cX13_areOne 26 = .ok (.lcmp, 1) := by decide +kernel
theorem dX13_areOne_27 : decode cX13_areOne 27 = .ok (.ifCond .ne 7, 3) := by decide +kernel
theorem dX13_areOne_30 : decode cX13_areOne 30 = .ok (.iconst 1, 1) := by decide +kernel
theorem dX13_areOne_31 : decode cX13_areOne 31 = .ok (.goto 4, 3) := by decide +kernel
theorem dX13_areOne_34 : decode cX13_areOne 34 = .ok (.iconst 0, 1) := by decide +kernel
theorem dX13_areOne_35 : decode cX13_areOne 35 = .ok (.ireturn, 1) := by decide +kernel
theorem dX13_hash_0 : decode cX13_hash 0 = .ok (.iload_n 3, 1) := by decide +kernel
theorem dX13_hash_1 : decode cX13_hash 1 = .ok (.istore 5, 2) := by decide +kernel
theorem dX13_hash_3 : decode cX13_hash 3 = .ok (.iconst 0, 1) := by decide +kernel
theorem dX13_hash_4 : decode cX13_hash 4 = .ok (.istore 6, 2) := by decide +kernel
theorem dX13_hash_6 : decode cX13_hash 6 = .ok (.iload 6, 2) := by decide +kernel
theorem dX13_hash_8 : decode cX13_hash 8 = .ok (.lload_n 0, 1) := by decide +kernel
theorem dX13_hash_9 : decode cX13_hash 9 = .ok (.invokestatic 105, 3) := by decide +kernel
theorem dX13_hash_12 : decode cX13_hash 12 = .ok (.if_icmp .ge 54, 3) := by decide +kernel
theorem dX13_hash_15 : decode cX13_hash 15 = .ok (.lload_n 0, 1) := by decide +kernel
theorem dX13_hash_16 : decode cX13_hash 16 = .ok (.iload 6, 2) := by decide +kernel
theorem dX13_hash_18 : decode cX13_hash 18 = .ok (.invokestatic 93, 3) := by decide +kernel
theorem dX13_hash_21 : decode cX13_hash 21 = .ok (.istore 7, 2) := by decide +kernel
theorem dX13_hash_23 : decode cX13_hash 23 = .ok (.bipush 31, 2) := by decide +kernel
theorem dX13_hash_25 : decode cX13_hash 25 = .ok (.iload 5, 2) := by decide +kernel
theorem dX13_hash_27 : decode cX13_hash 27 = .ok (.imul, 1) := by decide +kernel
theorem dX13_hash_28 : decode cX13_hash 28 = .ok (.iload 4, 2) := by decide +kernel
theorem dX13_hash_30 : decode cX13_hash 30 = .ok (.iconst 1, 1) := by decide +kernel
theorem dX13_hash_31 : decode cX13_hash 31 = .ok (.if_icmp .ne 11, 3) := by decide +kernel
theorem dX13_hash_34 : decode cX13_hash 34 = .ok (.iload 7, 2) := by decide +kernel
theorem dX13_hash_36 : decode cX13_hash 36 = .ok (.invokestatic 97, 3) := by decide +kernel
theorem dX13_hash_39 : decode cX13_hash 39 = .ok (.goto 5, 3) := by decide +kernel
theorem dX13_hash_42 : decode cX13_hash 42 = .ok (.iload 7, 2) := by decide +kernel
theorem dX13_hash_44 : decode cX13_hash 44 = .ok (.iadd, 1) := by decide +kernel
theorem dX13_hash_45 : decode cX13_hash 45 = .ok (.ldc 109, 2) := by decide +kernel
theorem dX13_hash_47 : decode cX13_hash 47 = .ok (.iand, 1) := by decide +kernel
theorem dX13_hash_48 : decode cX13_hash 48 = .ok (.istore 5, 2) := by decide +kernel
theorem dX13_hash_50 : decode cX13_hash 50 = .ok (.iload 5, 2) := by decide +kernel
theorem dX13_hash_52 : decode cX13_hash 52 = .ok (.iload 5, 2) := by decide +kernel
theorem dX13_hash_54 : decode cX13_hash 54 = .ok (.bipush 7, 2) := by decide +kernel
theorem dX13_hash_56 : decode cX13_hash 56 = .ok (.ishr, 1) := by decide +kernel
theorem dX13_hash_57 : decode cX13_hash 57 = .ok (.ixor, 1) := by decide +kernel
theorem dX13_hash_58 : decode cX13_hash 58 = .ok (.istore 5, 2) := by decide +kernel
theorem dX13_hash_60 : decode cX13_hash 60 = .ok (.iinc 6 1, 3) := by decide +kernel
theorem dX13_hash_63 : decode cX13_hash 63 = .ok (.goto (-57), 3) := by decide +kernel
theorem dX13_hash_66 : decode cX13_hash 66 = .ok (.iload 5, 2) := by decide +kernel
theorem dX13_hash_68 : decode cX13_hash 68 = .ok (.iconst 1, 1) := by decide +kernel
theorem dX13_hash_69 : decode cX13_hash 69 = .ok (.iload_n 2, 1) := by decide +kernel
theorem dX13_hash_70 : decode cX13_hash 70 = .ok (.ishl, 1) := by decide +kernel
theorem dX13_hash_71 : decode cX13_hash 71 = .ok (.iconst 1, 1) := by decide +kernel
theorem dX13_hash_72 : decode cX13_hash 72 = .ok (.isub, 1) := by decide +kernel
theorem dX13_hash_73 : decode cX13_hash 73 = .ok (.iand, 1) := by decide +kernel
theorem dX13_hash_74 : decode cX13_hash 74 = .ok (.ireturn, 1) := by decide +kernel
theorem dX13_hashOf_0 : decode cX13_hashOf 0 = .ok (.lload_n 1, 1) := by decide +kernel
theorem dX13_hashOf_1 : decode cX13_hashOf 1 = .ok (.aload_n 0, 1) := by decide +kernel
theorem dX13_hashOf_2 : decode cX13_hashOf 2 = .ok (.getfield 7, 3) := by decide +kernel
theorem dX13_hashOf_5 : decode cX13_hashOf 5 = .ok (.sipush 1081, 3) := by decide +kernel
theorem dX13_hashOf_8 : decode cX13_hashOf 8 = .ok (.iaload, 1) := by decide +kernel
theorem dX13_hashOf_9 : decode cX13_hashOf 9 = .ok (.aload_n 0, 1) := by decide +kernel
theorem dX13_hashOf_10 : decode cX13_hashOf 10 = .ok (.getfield 7, 3) := by decide +kernel
theorem dX13_hashOf_13 : decode cX13_hashOf 13 = .ok (.sipush 1082, 3) := by decide +kernel
theorem dX13_hashOf_16 : decode cX13_hashOf 16 = .ok (.iaload, 1) := by decide +kernel
theorem dX13_hashOf_17 : decode cX13_hashOf 17 = .ok (.aload_n 0, 1) := by decide +kernel
theorem dX13_hashOf_18 : decode cX13_hashOf 18 = .ok (.getfield 7, 3) := by decide +kernel
theorem dX13_hashOf_21 : decode cX13_hashOf 21 = .ok (.sipush 1083, 3) := by decide +kernel
theorem dX13_hashOf_24 : decode cX13_hashOf 24 = .ok (.iaload, 1) := by decide +kernel
theorem dX13_hashOf_25 : decode cX13_hashOf 25 = .ok (.invokestatic 110, 3) := by decide +kernel
theorem dX13_hashOf_28 : decode cX13_hashOf 28 = .ok (.ireturn, 1) := by decide +kernel
theorem dX13_joins_0 : decode cX13_joins 0 = .ok (.aload_n 0, 1) := by decide +kernel
theorem dX13_joins_1 : decode cX13_joins 1 = .ok (.getfield 58, 3) := by decide +kernel
theorem dX13_joins_4 : decode cX13_joins 4 = .ok (.aload_n 0, 1) := by decide +kernel
theorem dX13_joins_5 : decode cX13_joins 5 = .ok (.getfield 114, 3) := by decide +kernel
theorem dX13_joins_8 : decode cX13_joins 8 = .ok (.aload_n 0, 1) := by decide +kernel
theorem dX13_joins_9 : decode cX13_joins 9 = .ok (.getfield 7, 3) := by decide +kernel
theorem dX13_joins_12 : decode cX13_joins 12 = .ok (.iload_n 1, 1) := by decide +kernel
theorem dX13_joins_13 : decode cX13_joins 13 = .ok (.iload_n 2, 1) := by decide +kernel
theorem dX13_joins_14 : decode cX13_joins 14 = .ok (.iconst 2, 1) := by decide +kernel
theorem dX13_joins_15 : decode cX13_joins 15 = .ok (.invokestatic 117, 3) := by decide +kernel
theorem dX13_joins_18 : decode cX13_joins 18 = .ok (.iaload, 1) := by decide +kernel
theorem dX13_joins_19 : decode cX13_joins 19 = .ok (.iastore, 1) := by decide +kernel
theorem dX13_joins_20 : decode cX13_joins 20 = .ok (.aload_n 0, 1) := by decide +kernel
theorem dX13_joins_21 : decode cX13_joins 21 = .ok (.getfield 61, 3) := by decide +kernel
theorem dX13_joins_24 : decode cX13_joins 24 = .ok (.aload_n 0, 1) := by decide +kernel
theorem dX13_joins_25 : decode cX13_joins 25 = .ok (.getfield 114, 3) := by decide +kernel
theorem dX13_joins_28 : decode cX13_joins 28 = .ok (.aload_n 0, 1) := by decide +kernel
theorem dX13_joins_29 : decode cX13_joins 29 = .ok (.getfield 7, 3) := by decide +kernel
theorem dX13_joins_32 : decode cX13_joins 32 = .ok (.iload_n 1, 1) := by decide +kernel
theorem dX13_joins_33 : decode cX13_joins 33 = .ok (.iload_n 2, 1) := by decide +kernel
theorem dX13_joins_34 : decode cX13_joins 34 = .ok (.iconst 0, 1) := by decide +kernel
theorem dX13_joins_35 : decode cX13_joins 35 = .ok (.invokestatic 117, 3) := by decide +kernel
theorem dX13_joins_38 : decode cX13_joins 38 = .ok (.iaload, 1) := by decide +kernel
theorem dX13_joins_39 : decode cX13_joins 39 = .ok (.iastore, 1) := by decide +kernel
theorem dX13_joins_40 : decode cX13_joins 40 = .ok (.aload_n 0, 1) := by decide +kernel
theorem dX13_joins_41 : decode cX13_joins 41 = .ok (.getfield 64, 3) := by decide +kernel
theorem dX13_joins_44 : decode cX13_joins 44 = .ok (.aload_n 0, 1) := by decide +kernel
theorem dX13_joins_45 : decode cX13_joins 45 = .ok (.getfield 114, 3) := by decide +kernel
theorem dX13_joins_48 : decode cX13_joins 48 = .ok (.aload_n 0, 1) := by decide +kernel
theorem dX13_joins_49 : decode cX13_joins 49 = .ok (.getfield 7, 3) := by decide +kernel
theorem dX13_joins_52 : decode cX13_joins 52 = .ok (.iload_n 1, 1) := by decide +kernel
theorem dX13_joins_53 : decode cX13_joins 53 = .ok (.iload_n 2, 1) := by decide +kernel
theorem dX13_joins_54 : decode cX13_joins 54 = .ok (.iconst 1, 1) := by decide +kernel
theorem dX13_joins_55 : decode cX13_joins 55 = .ok (.invokestatic 117, 3) := by decide +kernel
theorem dX13_joins_58 : decode cX13_joins 58 = .ok (.iaload, 1) := by decide +kernel
theorem dX13_joins_59 : decode cX13_joins 59 = .ok (.iastore, 1) := by decide +kernel
theorem dX13_joins_60 : decode cX13_joins 60 = .ok (.aload_n 0, 1) := by decide +kernel
theorem dX13_joins_61 : decode cX13_joins 61 = .ok (.dup, 1) := by decide +kernel
theorem dX13_joins_62 : decode cX13_joins 62 = .ok (.getfield 114, 3) := by decide +kernel
theorem dX13_joins_65 : decode cX13_joins 65 = .ok (.iconst 1, 1) := by decide +kernel
theorem dX13_joins_66 : decode cX13_joins 66 = .ok (.iadd, 1) := by decide +kernel
theorem dX13_joins_67 : decode cX13_joins 67 = .ok (.putfield 114, 3) := by decide +kernel
theorem dX13_joins_70 : decode cX13_joins 70 = .ok (.return_, 1) := by decide +kernel
theorem dX13_laysLine_0 : decode cX13_laysLine 0 = .ok (.aload_n 0, 1) := by decide +kernel
theorem dX13_laysLine_1 : decode cX13_laysLine 1 = .ok (.iconst 0, 1) := by decide +kernel
theorem dX13_laysLine_2 : decode cX13_laysLine 2 = .ok (.putfield 114, 3) := by decide +kernel
theorem dX13_laysLine_5 : decode cX13_laysLine 5 = .ok (.aload_n 0, 1) := by decide +kernel
theorem dX13_laysLine_6 : decode cX13_laysLine 6 = .ok (.getfield 7, 3) := by decide +kernel
theorem dX13_laysLine_9 : decode cX13_laysLine 9 = .ok (.sipush 1080, 3) := by decide +kernel
theorem dX13_laysLine_12 : decode cX13_laysLine 12 = .ok (.iaload, 1) := by decide +kernel
theorem dX13_laysLine_13 : decode cX13_laysLine 13 = .ok (.ifCond .ne 30, 3) := by decide +kernel
theorem dX13_laysLine_16 : decode cX13_laysLine 16 = .ok (.aload_n 0, 1) := by decide +kernel
theorem dX13_laysLine_17 : decode cX13_laysLine 17 = .ok (.getfield 58, 3) := by decide +kernel
theorem dX13_laysLine_20 : decode cX13_laysLine 20 = .ok (.iconst 0, 1) := by decide +kernel
theorem dX13_laysLine_21 : decode cX13_laysLine 21 = .ok (.iconst 0, 1) := by decide +kernel
theorem dX13_laysLine_22 : decode cX13_laysLine 22 = .ok (.iastore, 1) := by decide +kernel
theorem dX13_laysLine_23 : decode cX13_laysLine 23 = .ok (.aload_n 0, 1) := by decide +kernel
theorem dX13_laysLine_24 : decode cX13_laysLine 24 = .ok (.getfield 61, 3) := by decide +kernel
theorem dX13_laysLine_27 : decode cX13_laysLine 27 = .ok (.iconst 0, 1) := by decide +kernel
theorem dX13_laysLine_28 : decode cX13_laysLine 28 = .ok (.iconst 0, 1) := by decide +kernel
theorem dX13_laysLine_29 : decode cX13_laysLine 29 = .ok (.iastore, 1) := by decide +kernel
theorem dX13_laysLine_30 : decode cX13_laysLine 30 = .ok (.aload_n 0, 1) := by decide +kernel
theorem dX13_laysLine_31 : decode cX13_laysLine 31 = .ok (.getfield 64, 3) := by decide +kernel
theorem dX13_laysLine_34 : decode cX13_laysLine 34 = .ok (.iconst 0, 1) := by decide +kernel
theorem dX13_laysLine_35 : decode cX13_laysLine 35 = .ok (.iconst 0, 1) := by decide +kernel
theorem dX13_laysLine_36 : decode cX13_laysLine 36 = .ok (.iastore, 1) := by decide +kernel
theorem dX13_laysLine_37 : decode cX13_laysLine 37 = .ok (.aload_n 0, 1) := by decide +kernel
theorem dX13_laysLine_38 : decode cX13_laysLine 38 = .ok (.iconst 1, 1) := by decide +kernel
theorem dX13_laysLine_39 : decode cX13_laysLine 39 = .ok (.putfield 114, 3) := by decide +kernel
theorem dX13_laysLine_42 : decode cX13_laysLine 42 = .ok (.return_, 1) := by decide +kernel
theorem dX13_laysLine_43 : decode cX13_laysLine 43 = .ok (.iconst 0, 1) := by decide +kernel
theorem dX13_laysLine_44 : decode cX13_laysLine 44 = .ok (.istore_n 1, 1) := by decide +kernel
theorem dX13_laysLine_45 : decode cX13_laysLine 45 = .ok (.iload_n 1, 1) := by decide +kernel
theorem dX13_laysLine_46 : decode cX13_laysLine 46 = .ok (.aload_n 0, 1) := by decide +kernel
theorem dX13_laysLine_47 : decode cX13_laysLine 47 = .ok (.getfield 7, 3) := by decide +kernel
theorem dX13_laysLine_50 : decode cX13_laysLine 50 = .ok (.bipush 80, 2) := by decide +kernel
theorem dX13_laysLine_52 : decode cX13_laysLine 52 = .ok (.iaload, 1) := by decide +kernel
theorem dX13_laysLine_53 : decode cX13_laysLine 53 = .ok (.if_icmp .ge 69, 3) := by decide +kernel
theorem dX13_laysLine_56 : decode cX13_laysLine 56 = .ok (.aload_n 0, 1) := by decide +kernel
theorem dX13_laysLine_57 : decode cX13_laysLine 57 = .ok (.getfield 7, 3) := by decide +kernel
theorem dX13_laysLine_60 : decode cX13_laysLine 60 = .ok (.sipush 1080, 3) := by decide +kernel
theorem dX13_laysLine_63 : decode cX13_laysLine 63 = .ok (.iaload, 1) := by decide +kernel
theorem dX13_laysLine_64 : decode cX13_laysLine 64 = .ok (.iconst 1, 1) := by decide +kernel
theorem dX13_laysLine_65 : decode cX13_laysLine 65 = .ok (.if_icmp .ne 12, 3) := by decide +kernel
theorem dX13_laysLine_68 : decode cX13_laysLine 68 = .ok (.aload_n 0, 1) := by decide +kernel
theorem dX13_laysLine_69 : decode cX13_laysLine 69 = .ok (.iconst 0, 1) := by decide +kernel
theorem dX13_laysLine_70 : decode cX13_laysLine 70 = .ok (.iload_n 1, 1) := by decide +kernel
theorem dX13_laysLine_71 : decode cX13_laysLine 71 = .ok (.invokevirtual 121, 3) := by decide +kernel
theorem dX13_laysLine_74 : decode cX13_laysLine 74 = .ok (.goto 42, 3) := by decide +kernel
theorem dX13_laysLine_77 : decode cX13_laysLine 77 = .ok (.aload_n 0, 1) := by decide +kernel
theorem dX13_laysLine_78 : decode cX13_laysLine 78 = .ok (.getfield 7, 3) := by decide +kernel
theorem dX13_laysLine_81 : decode cX13_laysLine 81 = .ok (.iconst 0, 1) := by decide +kernel
theorem dX13_laysLine_82 : decode cX13_laysLine 82 = .ok (.iload_n 1, 1) := by decide +kernel
theorem dX13_laysLine_83 : decode cX13_laysLine 83 = .ok (.iconst 2, 1) := by decide +kernel
theorem dX13_laysLine_84 : decode cX13_laysLine 84 = .ok (.invokestatic 117, 3) := by decide +kernel
theorem dX13_laysLine_87 : decode cX13_laysLine 87 = .ok (.iaload, 1) := by decide +kernel
theorem dX13_laysLine_88 : decode cX13_laysLine 88 = .ok (.istore_n 2, 1) := by decide +kernel
theorem dX13_laysLine_89 : decode cX13_laysLine 89 = .ok (.iconst 0, 1) := by decide +kernel
theorem dX13_laysLine_90 : decode cX13_laysLine 90 = .ok (.istore_n 3, 1) := by decide +kernel
theorem dX13_laysLine_91 : decode cX13_laysLine 91 = .ok (.iload_n 3, 1) := by decide +kernel
theorem dX13_laysLine_92 : decode cX13_laysLine 92 = .ok (.aload_n 0, 1) := by decide +kernel
theorem dX13_laysLine_93 : decode cX13_laysLine 93 = .ok (.getfield 7, 3) := by decide +kernel
theorem dX13_laysLine_96 : decode cX13_laysLine 96 = .ok (.bipush 80, 2) := by decide +kernel
theorem dX13_laysLine_98 : decode cX13_laysLine 98 = .ok (.iload_n 2, 1) := by decide +kernel
theorem dX13_laysLine_99 : decode cX13_laysLine 99 = .ok (.iadd, 1) := by decide +kernel
theorem dX13_laysLine_100 : decode cX13_laysLine 100 = .ok (.iaload, 1) := by decide +kernel
theorem dX13_laysLine_101 : decode cX13_laysLine 101 = .ok (.if_icmp .ge 15, 3) := by decide +kernel
theorem dX13_laysLine_104 : decode cX13_laysLine 104 = .ok (.aload_n 0, 1) := by decide +kernel
theorem dX13_laysLine_105 : decode cX13_laysLine 105 = .ok (.iload_n 2, 1) := by decide +kernel
theorem dX13_laysLine_106 : decode cX13_laysLine 106 = .ok (.iload_n 3, 1) := by decide +kernel
theorem dX13_laysLine_107 : decode cX13_laysLine 107 = .ok (.invokevirtual 121, 3) := by decide +kernel
theorem dX13_laysLine_110 : decode cX13_laysLine 110 = .ok (.iinc 3 1, 3) := by decide +kernel
theorem dX13_laysLine_113 : decode cX13_laysLine 113 = .ok (.goto (-22), 3) := by decide +kernel
theorem dX13_laysLine_116 : decode cX13_laysLine 116 = .ok (.iinc 1 1, 3) := by decide +kernel
theorem dX13_laysLine_119 : decode cX13_laysLine 119 = .ok (.goto (-74), 3) := by decide +kernel
theorem dX13_laysLine_122 : decode cX13_laysLine 122 = .ok (.return_, 1) := by decide +kernel
theorem dX13_rowFor_0 : decode cX13_rowFor 0 = .ok (.iconst 0, 1) := by decide +kernel
theorem dX13_rowFor_1 : decode cX13_rowFor 1 = .ok (.istore_n 3, 1) := by decide +kernel
theorem dX13_rowFor_2 : decode cX13_rowFor 2 = .ok (.iconst 0, 1) := by decide +kernel
theorem dX13_rowFor_3 : decode cX13_rowFor 3 = .ok (.istore 4, 2) := by decide +kernel
theorem dX13_rowFor_5 : decode cX13_rowFor 5 = .ok (.iload 4, 2) := by decide +kernel
theorem dX13_rowFor_7 : decode cX13_rowFor 7 = .ok (.aload_n 0, 1) := by decide +kernel
theorem dX13_rowFor_8 : decode cX13_rowFor 8 = .ok (.getfield 7, 3) := by decide +kernel
theorem dX13_rowFor_11 : decode cX13_rowFor 11 = .ok (.bipush 80, 2) := by decide +kernel
theorem dX13_rowFor_13 : decode cX13_rowFor 13 = .ok (.iload_n 1, 1) := by decide +kernel
theorem dX13_rowFor_14 : decode cX13_rowFor 14 = .ok (.iadd, 1) := by decide +kernel
theorem dX13_rowFor_15 : decode cX13_rowFor 15 = .ok (.iaload, 1) := by decide +kernel
theorem dX13_rowFor_16 : decode cX13_rowFor 16 = .ok (.if_icmp .ge 53, 3) := by decide +kernel
theorem dX13_rowFor_19 : decode cX13_rowFor 19 = .ok (.aload_n 0, 1) := by decide +kernel
theorem dX13_rowFor_20 : decode cX13_rowFor 20 = .ok (.getfield 7, 3) := by decide +kernel
theorem dX13_rowFor_23 : decode cX13_rowFor 23 = .ok (.iload_n 1, 1) := by decide +kernel
theorem dX13_rowFor_24 : decode cX13_rowFor 24 = .ok (.iload 4, 2) := by decide +kernel
theorem dX13_rowFor_26 : decode cX13_rowFor 26 = .ok (.iconst 0, 1) := by decide +kernel
theorem dX13_rowFor_27 : decode cX13_rowFor 27 = .ok (.invokestatic 117, 3) := by decide +kernel
theorem dX13_rowFor_30 : decode cX13_rowFor 30 = .ok (.iaload, 1) := by decide +kernel
theorem dX13_rowFor_31 : decode cX13_rowFor 31 = .ok (.istore 5, 2) := by decide +kernel
theorem dX13_rowFor_33 : decode cX13_rowFor 33 = .ok (.iload 5, 2) := by decide +kernel
theorem dX13_rowFor_35 : decode cX13_rowFor 35 = .ok (.iload_n 2, 1) := by decide +kernel
theorem dX13_rowFor_36 : decode cX13_rowFor 36 = .ok (.if_icmp .lt 24, 3) := by decide +kernel
theorem dX13_rowFor_39 : decode cX13_rowFor 39 = .ok (.iload 5, 2) := by decide +kernel
theorem dX13_rowFor_41 : decode cX13_rowFor 41 = .ok (.iload_n 2, 1) := by decide +kernel
theorem dX13_rowFor_42 : decode cX13_rowFor 42 = .ok (.if_icmp .ne 21, 3) := by decide +kernel
theorem dX13_rowFor_45 : decode cX13_rowFor 45 = .ok (.aload_n 0, 1) := by decide +kernel
theorem dX13_rowFor_46 : decode cX13_rowFor 46 = .ok (.getfield 7, 3) := by decide +kernel
theorem dX13_rowFor_49 : decode cX13_rowFor 49 = .ok (.iload_n 1, 1) := by decide +kernel
theorem dX13_rowFor_50 : decode cX13_rowFor 50 = .ok (.iload 4, 2) := by decide +kernel
theorem dX13_rowFor_52 : decode cX13_rowFor 52 = .ok (.iconst 1, 1) := by decide +kernel
theorem dX13_rowFor_53 : decode cX13_rowFor 53 = .ok (.invokestatic 117, 3) := by decide +kernel
theorem dX13_rowFor_56 : decode cX13_rowFor 56 = .ok (.iaload, 1) := by decide +kernel
theorem dX13_rowFor_57 : decode cX13_rowFor 57 = .ok (.ifCond .ne 6, 3) := by decide +kernel
theorem dX13_rowFor_60 : decode cX13_rowFor 60 = .ok (.iload 4, 2) := by decide +kernel
theorem dX13_rowFor_62 : decode cX13_rowFor 62 = .ok (.istore_n 3, 1) := by decide +kernel
theorem dX13_rowFor_63 : decode cX13_rowFor 63 = .ok (.iinc 4 1, 3) := by decide +kernel
theorem dX13_rowFor_66 : decode cX13_rowFor 66 = .ok (.goto (-61), 3) := by decide +kernel
theorem dX13_rowFor_69 : decode cX13_rowFor 69 = .ok (.iload_n 3, 1) := by decide +kernel
theorem dX13_rowFor_70 : decode cX13_rowFor 70 = .ok (.ireturn, 1) := by decide +kernel
theorem dX13_placeOf_0 : decode cX13_placeOf 0 = .ok (.iconst 0, 1) := by decide +kernel
theorem dX13_placeOf_1 : decode cX13_placeOf 1 = .ok (.istore_n 2, 1) := by decide +kernel
theorem dX13_placeOf_2 : decode cX13_placeOf 2 = .ok (.aload_n 0, 1) := by decide +kernel
theorem dX13_placeOf_3 : decode cX13_placeOf 3 = .ok (.getfield 58, 3) := by decide +kernel
theorem dX13_placeOf_6 : decode cX13_placeOf 6 = .ok (.iload_n 2, 1) := by decide +kernel
theorem dX13_placeOf_7 : decode cX13_placeOf 7 = .ok (.iaload, 1) := by decide +kernel
theorem dX13_placeOf_8 : decode cX13_placeOf 8 = .ok (.iload_n 1, 1) := by decide +kernel
theorem dX13_placeOf_9 : decode cX13_placeOf 9 = .ok (.if_icmp .eq 9, 3) := by decide +kernel
theorem dX13_placeOf_12 : decode cX13_placeOf 12 = .ok (.iinc 2 1, 3) := by decide +kernel
theorem dX13_placeOf_15 : decode cX13_placeOf 15 = .ok (.goto (-13), 3) := by decide +kernel
theorem dX13_placeOf_18 : decode cX13_placeOf 18 = .ok (.iload_n 2, 1) := by decide +kernel
theorem dX13_placeOf_19 : decode cX13_placeOf 19 = .ok (.ireturn, 1) := by decide +kernel
theorem dX13_firstOf_0 : decode cX13_firstOf 0 = .ok (.iconst 0, 1) := by decide +kernel
theorem dX13_firstOf_1 : decode cX13_firstOf 1 = .ok (.istore_n 2, 1) := by decide +kernel
theorem dX13_firstOf_2 : decode cX13_firstOf 2 = .ok (.iconst 0, 1) := by decide +kernel
theorem dX13_firstOf_3 : decode cX13_firstOf 3 = .ok (.istore_n 3, 1) := by decide +kernel
theorem dX13_firstOf_4 : decode cX13_firstOf 4 = .ok (.iload_n 3, 1) := by decide +kernel
theorem dX13_firstOf_5 : decode cX13_firstOf 5 = .ok (.aload_n 0, 1) := by decide +kernel
theorem dX13_firstOf_6 : decode cX13_firstOf 6 = .ok (.getfield 7, 3) := by decide +kernel
theorem dX13_firstOf_9 : decode cX13_firstOf 9 = .ok (.sipush 1080, 3) := by decide +kernel
theorem dX13_firstOf_12 : decode cX13_firstOf 12 = .ok (.iaload, 1) := by decide +kernel
theorem dX13_firstOf_13 : decode cX13_firstOf 13 = .ok (.if_icmp .ge 26, 3) := by decide +kernel
theorem dX13_firstOf_16 : decode cX13_firstOf 16 = .ok (.aload_n 0, 1) := by decide +kernel
theorem dX13_firstOf_17 : decode cX13_firstOf 17 = .ok (.getfield 7, 3) := by decide +kernel
theorem dX13_firstOf_20 : decode cX13_firstOf 20 = .ok (.iload_n 2, 1) := by decide +kernel
theorem dX13_firstOf_21 : decode cX13_firstOf 21 = .ok (.aload_n 0, 1) := by decide +kernel
theorem dX13_firstOf_22 : decode cX13_firstOf 22 = .ok (.iload_n 2, 1) := by decide +kernel
theorem dX13_firstOf_23 : decode cX13_firstOf 23 = .ok (.iload_n 1, 1) := by decide +kernel
theorem dX13_firstOf_24 : decode cX13_firstOf 24 = .ok (.invokevirtual 125, 3) := by decide +kernel
theorem dX13_firstOf_27 : decode cX13_firstOf 27 = .ok (.iconst 2, 1) := by decide +kernel
theorem dX13_firstOf_28 : decode cX13_firstOf 28 = .ok (.invokestatic 117, 3) := by decide +kernel
theorem dX13_firstOf_31 : decode cX13_firstOf 31 = .ok (.iaload, 1) := by decide +kernel
theorem dX13_firstOf_32 : decode cX13_firstOf 32 = .ok (.istore_n 2, 1) := by decide +kernel
theorem dX13_firstOf_33 : decode cX13_firstOf 33 = .ok (.iinc 3 1, 3) := by decide +kernel
theorem dX13_firstOf_36 : decode cX13_firstOf 36 = .ok (.goto (-32), 3) := by decide +kernel
theorem dX13_firstOf_39 : decode cX13_firstOf 39 = .ok (.iload_n 2, 1) := by decide +kernel
theorem dX13_firstOf_40 : decode cX13_firstOf 40 = .ok (.ireturn, 1) := by decide +kernel
theorem dX13_goes_0 : decode cX13_goes 0 = .ok (.aload_n 0, 1) := by decide +kernel
theorem dX13_goes_1 : decode cX13_goes 1 = .ok (.invokevirtual 128, 3) := by decide +kernel
theorem dX13_goes_4 : decode cX13_goes 4 = .ok (.aload_n 0, 1) := by decide +kernel
theorem dX13_goes_5 : decode cX13_goes 5 = .ok (.aload_n 0, 1) := by decide +kernel
theorem dX13_goes_6 : decode cX13_goes 6 = .ok (.aload_n 0, 1) := by decide +kernel
theorem dX13_goes_7 : decode cX13_goes 7 = .ok (.iload_n 1, 1) := by decide +kernel
theorem dX13_goes_8 : decode cX13_goes 8 = .ok (.invokevirtual 131, 3) := by decide +kernel
theorem dX13_goes_11 : decode cX13_goes 11 = .ok (.invokevirtual 134, 3) := by decide +kernel
theorem dX13_goes_14 : decode cX13_goes 14 = .ok (.putfield 137, 3) := by decide +kernel
theorem dX13_goes_17 : decode cX13_goes 17 = .ok (.aload_n 0, 1) := by decide +kernel
theorem dX13_goes_18 : decode cX13_goes 18 = .ok (.iconst 1, 1) := by decide +kernel
theorem dX13_goes_19 : decode cX13_goes 19 = .ok (.putfield 140, 3) := by decide +kernel
theorem dX13_goes_22 : decode cX13_goes 22 = .ok (.aload_n 0, 1) := by decide +kernel
theorem dX13_goes_23 : decode cX13_goes 23 = .ok (.getfield 137, 3) := by decide +kernel
theorem dX13_goes_26 : decode cX13_goes 26 = .ok (.aload_n 0, 1) := by decide +kernel
theorem dX13_goes_27 : decode cX13_goes 27 = .ok (.getfield 140, 3) := by decide +kernel
theorem dX13_goes_30 : decode cX13_goes 30 = .ok (.iadd, 1) := by decide +kernel
theorem dX13_goes_31 : decode cX13_goes 31 = .ok (.aload_n 0, 1) := by decide +kernel
theorem dX13_goes_32 : decode cX13_goes 32 = .ok (.getfield 114, 3) := by decide +kernel
theorem dX13_goes_35 : decode cX13_goes 35 = .ok (.if_icmp .ge 52, 3) := by decide +kernel
theorem dX13_goes_38 : decode cX13_goes 38 = .ok (.aload_n 0, 1) := by decide +kernel
theorem dX13_goes_39 : decode cX13_goes 39 = .ok (.getfield 61, 3) := by decide +kernel
theorem dX13_goes_42 : decode cX13_goes 42 = .ok (.aload_n 0, 1) := by decide +kernel
theorem dX13_goes_43 : decode cX13_goes 43 = .ok (.getfield 137, 3) := by decide +kernel
theorem dX13_goes_46 : decode cX13_goes 46 = .ok (.aload_n 0, 1) := by decide +kernel
theorem dX13_goes_47 : decode cX13_goes 47 = .ok (.getfield 140, 3) := by decide +kernel
theorem dX13_goes_50 : decode cX13_goes 50 = .ok (.iadd, 1) := by decide +kernel
theorem dX13_goes_51 : decode cX13_goes 51 = .ok (.iaload, 1) := by decide +kernel
theorem dX13_goes_52 : decode cX13_goes 52 = .ok (.iload_n 1, 1) := by decide +kernel
theorem dX13_goes_53 : decode cX13_goes 53 = .ok (.if_icmp .ne 34, 3) := by decide +kernel
theorem dX13_goes_56 : decode cX13_goes 56 = .ok (.aload_n 0, 1) := by decide +kernel
theorem dX13_goes_57 : decode cX13_goes 57 = .ok (.getfield 64, 3) := by decide +kernel
theorem dX13_goes_60 : decode cX13_goes 60 = .ok (.aload_n 0, 1) := by decide +kernel
theorem dX13_goes_61 : decode cX13_goes 61 = .ok (.getfield 137, 3) := by decide +kernel
theorem dX13_goes_64 : decode cX13_goes 64 = .ok (.aload_n 0, 1) := by decide +kernel
theorem dX13_goes_65 : decode cX13_goes 65 = .ok (.getfield 140, 3) := by decide +kernel
theorem dX13_goes_68 : decode cX13_goes 68 = .ok (.iadd, 1) := by decide +kernel
theorem dX13_goes_69 : decode cX13_goes 69 = .ok (.iaload, 1) := by decide +kernel
theorem dX13_goes_70 : decode cX13_goes 70 = .ok (.iconst 1, 1) := by decide +kernel
theorem dX13_goes_71 : decode cX13_goes 71 = .ok (.if_icmp .ne 16, 3) := by decide +kernel
theorem dX13_goes_74 : decode cX13_goes 74 = .ok (.aload_n 0, 1) := by decide +kernel
theorem dX13_goes_75 : decode cX13_goes 75 = .ok (.dup, 1) := by decide +kernel
theorem dX13_goes_76 : decode cX13_goes 76 = .ok (.getfield 140, 3) := by decide +kernel
theorem dX13_goes_79 : decode cX13_goes 79 = .ok (.iconst 1, 1) := by decide +kernel
theorem dX13_goes_80 : decode cX13_goes 80 = .ok (.iadd, 1) := by decide +kernel
theorem dX13_goes_81 : decode cX13_goes 81 = .ok (.putfield 140, 3) := by decide +kernel
theorem dX13_goes_84 : decode cX13_goes 84 = .ok (.goto (-62), 3) := by decide +kernel
theorem dX13_goes_87 : decode cX13_goes 87 = .ok (.return_, 1) := by decide +kernel
theorem dX13_isInBlock_0 : decode cX13_isInBlock 0 = .ok (.aload_n 0, 1) := by decide +kernel
theorem dX13_isInBlock_1 : decode cX13_isInBlock 1 = .ok (.dup, 1) := by decide +kernel
theorem dX13_isInBlock_2 : decode cX13_isInBlock 2 = .ok (.getfield 143, 3) := by decide +kernel
theorem dX13_isInBlock_5 : decode cX13_isInBlock 5 = .ok (.iconst 1, 1) := by decide +kernel
theorem dX13_isInBlock_6 : decode cX13_isInBlock 6 = .ok (.iadd, 1) := by decide +kernel
theorem dX13_isInBlock_7 : decode cX13_isInBlock 7 = .ok (.putfield 143, 3) := by decide +kernel
theorem dX13_isInBlock_10 : decode cX13_isInBlock 10 = .ok (.iconst 0, 1) := by decide +kernel
theorem dX13_isInBlock_11 : decode cX13_isInBlock 11 = .ok (.istore 4, 2) := by decide +kernel
theorem dX13_isInBlock_13 : decode cX13_isInBlock 13 = .ok (.iload 4, 2) := by decide +kernel
theorem dX13_isInBlock_15 : decode cX13_isInBlock 15 = .ok (.bipush 6, 2) := by decide +kernel
theorem dX13_isInBlock_17 : decode cX13_isInBlock 17 = .ok (.if_icmp .ge 54, 3) := by decide +kernel
theorem dX13_isInBlock_20 : decode cX13_isInBlock 20 = .ok (.aload_n 0, 1) := by decide +kernel
theorem dX13_isInBlock_21 : decode cX13_isInBlock 21 = .ok (.iload_n 1, 1) := by decide +kernel
theorem dX13_isInBlock_22 : decode cX13_isInBlock 22 = .ok (.iload 4, 2) := by decide +kernel
theorem dX13_isInBlock_24 : decode cX13_isInBlock 24 = .ok (.invokevirtual 86, 3) := by decide +kernel
theorem dX13_isInBlock_27 : decode cX13_isInBlock 27 = .ok (.ifCond .ne 38, 3) := by decide +kernel
theorem dX13_isInBlock_30 : decode cX13_isInBlock 30 = .ok (.aload_n 0, 1) := by decide +kernel
theorem dX13_isInBlock_31 : decode cX13_isInBlock 31 = .ok (.aload_n 0, 1) := by decide +kernel
theorem dX13_isInBlock_32 : decode cX13_isInBlock 32 = .ok (.getfield 13, 3) := by decide +kernel
theorem dX13_isInBlock_35 : decode cX13_isInBlock 35 = .ok (.iload_n 1, 1) := by decide +kernel
theorem dX13_isInBlock_36 : decode cX13_isInBlock 36 = .ok (.iload 4, 2) := by decide +kernel
theorem dX13_isInBlock_38 : decode cX13_isInBlock 38 = .ok (.invokestatic 82, 3) := by decide +kernel
theorem dX13_isInBlock_41 : decode cX13_isInBlock 41 = .ok (.laload, 1) := by decide +kernel
theorem dX13_isInBlock_42 : decode cX13_isInBlock 42 = .ok (.lload_n 2, 1) := by decide +kernel
theorem dX13_isInBlock_43 : decode cX13_isInBlock 43 = .ok (.invokevirtual 146, 3) := by decide +kernel
theorem dX13_isInBlock_46 : decode cX13_isInBlock 46 = .ok (.ifCond .ne 6, 3) := by decide +kernel
theorem dX13_isInBlock_49 : decode cX13_isInBlock 49 = .ok (.goto 16, 3) := by decide +kernel
theorem dX13_isInBlock_52 : decode cX13_isInBlock 52 = .ok (.aload_n 0, 1) := by decide +kernel
theorem dX13_isInBlock_53 : decode cX13_isInBlock 53 = .ok (.iload_n 1, 1) := by decide +kernel
theorem dX13_isInBlock_54 : decode cX13_isInBlock 54 = .ok (.putfield 150, 3) := by decide +kernel
theorem dX13_isInBlock_57 : decode cX13_isInBlock 57 = .ok (.aload_n 0, 1) := by decide +kernel
theorem dX13_isInBlock_58 : decode cX13_isInBlock 58 = .ok (.iload 4, 2) := by decide +kernel
theorem dX13_isInBlock_60 : decode cX13_isInBlock 60 = .ok (.putfield 153, 3) := by decide +kernel
theorem dX13_isInBlock_63 : decode cX13_isInBlock 63 = .ok (.iconst 1, 1) := by decide +kernel
theorem dX13_isInBlock_64 : decode cX13_isInBlock 64 = .ok (.ireturn, 1) := by decide +kernel
theorem dX13_isInBlock_65 : decode cX13_isInBlock 65 = .ok (.iinc 4 1, 3) := by decide +kernel
theorem dX13_isInBlock_68 : decode cX13_isInBlock 68 = .ok (.goto (-55), 3) := by decide +kernel
theorem dX13_isInBlock_71 : decode cX13_isInBlock 71 = .ok (.iconst 0, 1) := by decide +kernel
theorem dX13_isInBlock_72 : decode cX13_isInBlock 72 = .ok (.ireturn, 1) := by decide +kernel
theorem dX13_seeks_0 : decode cX13_seeks 0 = .ok (.aload_n 0, 1) := by decide +kernel
theorem dX13_seeks_1 : decode cX13_seeks 1 = .ok (.iconst (-1), 1) := by decide +kernel
theorem dX13_seeks_2 : decode cX13_seeks 2 = .ok (.putfield 150, 3) := by decide +kernel
theorem dX13_seeks_5 : decode cX13_seeks 5 = .ok (.aload_n 0, 1) := by decide +kernel
theorem dX13_seeks_6 : decode cX13_seeks 6 = .ok (.iconst (-1), 1) := by decide +kernel
theorem dX13_seeks_7 : decode cX13_seeks 7 = .ok (.putfield 153, 3) := by decide +kernel
theorem dX13_seeks_10 : decode cX13_seeks 10 = .ok (.aload_n 0, 1) := by decide +kernel
theorem dX13_seeks_11 : decode cX13_seeks 11 = .ok (.invokevirtual 156, 3) := by decide +kernel
theorem dX13_seeks_14 : decode cX13_seeks 14 = .ok (.ifCond .eq 47, 3) := by decide +kernel
theorem dX13_seeks_17 : decode cX13_seeks 17 = .ok (.aload_n 0, 1) := by decide +kernel
theorem dX13_seeks_18 : decode cX13_seeks 18 = .ok (.iconst 1, 1) := by decide +kernel
theorem dX13_seeks_19 : decode cX13_seeks 19 = .ok (.putfield 143, 3) := by decide +kernel
theorem dX13_seeks_22 : decode cX13_seeks 22 = .ok (.iconst 0, 1) := by decide +kernel
theorem dX13_seeks_23 : decode cX13_seeks 23 = .ok (.istore_n 3, 1) := by decide +kernel
theorem dX13_seeks_24 : decode cX13_seeks 24 = .ok (.iload_n 3, 1) := by decide +kernel
theorem dX13_seeks_25 : decode cX13_seeks 25 = .ok (.bipush 40, 2) := by decide +kernel
theorem dX13_seeks_27 : decode cX13_seeks 27 = .ok (.if_icmp .ge 32, 3) := by decide +kernel
theorem dX13_seeks_30 : decode cX13_seeks 30 = .ok (.aload_n 0, 1) := by decide +kernel
theorem dX13_seeks_31 : decode cX13_seeks 31 = .ok (.getfield 7, 3) := by decide +kernel
theorem dX13_seeks_34 : decode cX13_seeks 34 = .ok (.iconst 0, 1) := by decide +kernel
theorem dX13_seeks_35 : decode cX13_seeks 35 = .ok (.iload_n 3, 1) := by decide +kernel
theorem dX13_seeks_36 : decode cX13_seeks 36 = .ok (.iadd, 1) := by decide +kernel
theorem dX13_seeks_37 : decode cX13_seeks 37 = .ok (.iaload, 1) := by decide +kernel
theorem dX13_seeks_38 : decode cX13_seeks 38 = .ok (.iconst 1, 1) := by decide +kernel
theorem dX13_seeks_39 : decode cX13_seeks 39 = .ok (.if_icmp .ne 14, 3) := by decide +kernel
theorem dX13_seeks_42 : decode cX13_seeks 42 = .ok (.aload_n 0, 1) := by decide +kernel
theorem dX13_seeks_43 : decode cX13_seeks 43 = .ok (.iload_n 3, 1) := by decide +kernel
theorem dX13_seeks_44 : decode cX13_seeks 44 = .ok (.lload_n 1, 1) := by decide +kernel
theorem dX13_seeks_45 : decode cX13_seeks 45 = .ok (.invokevirtual 160, 3) := by decide +kernel
theorem dX13_seeks_48 : decode cX13_seeks 48 = .ok (.ifCond .eq 5, 3) := by decide +kernel
theorem dX13_seeks_51 : decode cX13_seeks 51 = .ok (.iconst 1, 1) := by decide +kernel
theorem dX13_seeks_52 : decode cX13_seeks 52 = .ok (.ireturn, 1) := by decide +kernel
theorem dX13_seeks_53 : decode cX13_seeks 53 = .ok (.iinc 3 1, 3) := by decide +kernel
theorem dX13_seeks_56 : decode cX13_seeks 56 = .ok (.goto (-32), 3) := by decide +kernel
theorem dX13_seeks_59 : decode cX13_seeks 59 = .ok (.iconst 0, 1) := by decide +kernel
theorem dX13_seeks_60 : decode cX13_seeks 60 = .ok (.ireturn, 1) := by decide +kernel
theorem dX13_seeks_61 : decode cX13_seeks 61 = .ok (.aload_n 0, 1) := by decide +kernel
theorem dX13_seeks_62 : decode cX13_seeks 62 = .ok (.aload_n 0, 1) := by decide +kernel
theorem dX13_seeks_63 : decode cX13_seeks 63 = .ok (.lload_n 1, 1) := by decide +kernel
theorem dX13_seeks_64 : decode cX13_seeks 64 = .ok (.invokevirtual 164, 3) := by decide +kernel
theorem dX13_seeks_67 : decode cX13_seeks 67 = .ok (.invokevirtual 167, 3) := by decide +kernel
theorem dX13_seeks_70 : decode cX13_seeks 70 = .ok (.aload_n 0, 1) := by decide +kernel
theorem dX13_seeks_71 : decode cX13_seeks 71 = .ok (.aload_n 0, 1) := by decide +kernel
theorem dX13_seeks_72 : decode cX13_seeks 72 = .ok (.getfield 7, 3) := by decide +kernel
theorem dX13_seeks_75 : decode cX13_seeks 75 = .ok (.sipush 1080, 3) := by decide +kernel
theorem dX13_seeks_78 : decode cX13_seeks 78 = .ok (.iaload, 1) := by decide +kernel
theorem dX13_seeks_79 : decode cX13_seeks 79 = .ok (.putfield 143, 3) := by decide +kernel
theorem dX13_seeks_82 : decode cX13_seeks 82 = .ok (.iconst 0, 1) := by decide +kernel
theorem dX13_seeks_83 : decode cX13_seeks 83 = .ok (.istore_n 3, 1) := by decide +kernel
theorem dX13_seeks_84 : decode cX13_seeks 84 = .ok (.iload_n 3, 1) := by decide +kernel
theorem dX13_seeks_85 : decode cX13_seeks 85 = .ok (.aload_n 0, 1) := by decide +kernel
theorem dX13_seeks_86 : decode cX13_seeks 86 = .ok (.getfield 140, 3) := by decide +kernel
theorem dX13_seeks_89 : decode cX13_seeks 89 = .ok (.if_icmp .ge 30, 3) := by decide +kernel
theorem dX13_seeks_92 : decode cX13_seeks 92 = .ok (.aload_n 0, 1) := by decide +kernel
theorem dX13_seeks_93 : decode cX13_seeks 93 = .ok (.aload_n 0, 1) := by decide +kernel
theorem dX13_seeks_94 : decode cX13_seeks 94 = .ok (.getfield 58, 3) := by decide +kernel
theorem dX13_seeks_97 : decode cX13_seeks 97 = .ok (.aload_n 0, 1) := by decide +kernel
theorem dX13_seeks_98 : decode cX13_seeks 98 = .ok (.getfield 137, 3) := by decide +kernel
theorem dX13_seeks_101 : decode cX13_seeks 101 = .ok (.iload_n 3, 1) := by decide +kernel
theorem dX13_seeks_102 : decode cX13_seeks 102 = .ok (.iadd, 1) := by decide +kernel
theorem dX13_seeks_103 : decode cX13_seeks 103 = .ok (.iaload, 1) := by decide +kernel
theorem dX13_seeks_104 : decode cX13_seeks 104 = .ok (.lload_n 1, 1) := by decide +kernel
theorem dX13_seeks_105 : decode cX13_seeks 105 = .ok (.invokevirtual 160, 3) := by decide +kernel
theorem dX13_seeks_108 : decode cX13_seeks 108 = .ok (.ifCond .eq 5, 3) := by decide +kernel
theorem dX13_seeks_111 : decode cX13_seeks 111 = .ok (.iconst 1, 1) := by decide +kernel
theorem dX13_seeks_112 : decode cX13_seeks 112 = .ok (.ireturn, 1) := by decide +kernel
theorem dX13_seeks_113 : decode cX13_seeks 113 = .ok (.iinc 3 1, 3) := by decide +kernel
theorem dX13_seeks_116 : decode cX13_seeks 116 = .ok (.goto (-32), 3) := by decide +kernel
theorem dX13_seeks_119 : decode cX13_seeks 119 = .ok (.iconst 0, 1) := by decide +kernel
theorem dX13_seeks_120 : decode cX13_seeks 120 = .ok (.ireturn, 1) := by decide +kernel
theorem dX13_emptySlot_0 : decode cX13_emptySlot 0 = .ok (.iconst 0, 1) := by decide +kernel
theorem dX13_emptySlot_1 : decode cX13_emptySlot 1 = .ok (.istore_n 2, 1) := by decide +kernel
theorem dX13_emptySlot_2 : decode cX13_emptySlot 2 = .ok (.iload_n 2, 1) := by decide +kernel
theorem dX13_emptySlot_3 : decode cX13_emptySlot 3 = .ok (.bipush 6, 2) := by decide +kernel
theorem dX13_emptySlot_5 : decode cX13_emptySlot 5 = .ok (.if_icmp .ge 20, 3) := by decide +kernel
theorem dX13_emptySlot_8 : decode cX13_emptySlot 8 = .ok (.aload_n 0, 1) := by decide +kernel
theorem dX13_emptySlot_9 : decode cX13_emptySlot 9 = .ok (.iload_n 1, 1) := by decide +kernel
theorem dX13_emptySlot_10 : decode cX13_emptySlot 10 = .ok (.iload_n 2, 1) := by decide +kernel
theorem dX13_emptySlot_11 : decode cX13_emptySlot 11 = .ok (.invokevirtual 86, 3) := by decide +kernel
theorem dX13_emptySlot_14 : decode cX13_emptySlot 14 = .ok (.ifCond .eq 5, 3) := by decide +kernel
theorem dX13_emptySlot_17 : decode cX13_emptySlot 17 = .ok (.iload_n 2, 1) := by decide +kernel
theorem dX13_emptySlot_18 : decode cX13_emptySlot 18 = .ok (.ireturn, 1) := by decide +kernel
theorem dX13_emptySlot_19 : decode cX13_emptySlot 19 = .ok (.iinc 2 1, 3) := by decide +kernel
theorem dX13_emptySlot_22 : decode cX13_emptySlot 22 = .ok (.goto (-20), 3) := by decide +kernel
theorem dX13_emptySlot_25 : decode cX13_emptySlot 25 = .ok (.iconst (-1), 1) := by decide +kernel
theorem dX13_emptySlot_26 : decode cX13_emptySlot 26 = .ok (.ireturn, 1) := by decide +kernel
theorem dX13_aboveOf_0 : decode cX13_aboveOf 0 = .ok (.iconst 0, 1) := by decide +kernel
theorem dX13_aboveOf_1 : decode cX13_aboveOf 1 = .ok (.istore_n 2, 1) := by decide +kernel
theorem dX13_aboveOf_2 : decode cX13_aboveOf 2 = .ok (.iload_n 2, 1) := by decide +kernel
theorem dX13_aboveOf_3 : decode cX13_aboveOf 3 = .ok (.bipush 40, 2) := by decide +kernel
theorem dX13_aboveOf_5 : decode cX13_aboveOf 5 = .ok (.if_icmp .ge 62, 3) := by decide +kernel
theorem dX13_aboveOf_8 : decode cX13_aboveOf 8 = .ok (.aload_n 0, 1) := by decide +kernel
theorem dX13_aboveOf_9 : decode cX13_aboveOf 9 = .ok (.getfield 7, 3) := by decide +kernel
theorem dX13_aboveOf_12 : decode cX13_aboveOf 12 = .ok (.iconst 0, 1) := by decide +kernel
theorem dX13_aboveOf_13 : decode cX13_aboveOf 13 = .ok (.iload_n 2, 1) := by decide +kernel
theorem dX13_aboveOf_14 : decode cX13_aboveOf 14 = .ok (.iadd, 1) := by decide +kernel
theorem dX13_aboveOf_15 : decode cX13_aboveOf 15 = .ok (.iaload, 1) := by decide +kernel
theorem dX13_aboveOf_16 : decode cX13_aboveOf 16 = .ok (.iconst 2, 1) := by decide +kernel
theorem dX13_aboveOf_17 : decode cX13_aboveOf 17 = .ok (.if_icmp .eq 6, 3) := by decide +kernel
theorem dX13_aboveOf_20 : decode cX13_aboveOf 20 = .ok (.goto 41, 3) := by decide +kernel
theorem dX13_aboveOf_23 : decode cX13_aboveOf 23 = .ok (.iconst 0, 1) := by decide +kernel
theorem dX13_aboveOf_24 : decode cX13_aboveOf 24 = .ok (.istore_n 3, 1) := by decide +kernel
theorem dX13_aboveOf_25 : decode cX13_aboveOf 25 = .ok (.iload_n 3, 1) := by decide +kernel
theorem dX13_aboveOf_26 : decode cX13_aboveOf 26 = .ok (.aload_n 0, 1) := by decide +kernel
theorem dX13_aboveOf_27 : decode cX13_aboveOf 27 = .ok (.getfield 7, 3) := by decide +kernel
theorem dX13_aboveOf_30 : decode cX13_aboveOf 30 = .ok (.bipush 80, 2) := by decide +kernel
theorem dX13_aboveOf_32 : decode cX13_aboveOf 32 = .ok (.iload_n 2, 1) := by decide +kernel
theorem dX13_aboveOf_33 : decode cX13_aboveOf 33 = .ok (.iadd, 1) := by decide +kernel
theorem dX13_aboveOf_34 : decode cX13_aboveOf 34 = .ok (.iaload, 1) := by decide +kernel
theorem dX13_aboveOf_35 : decode cX13_aboveOf 35 = .ok (.if_icmp .ge 26, 3) := by decide +kernel
theorem dX13_aboveOf_38 : decode cX13_aboveOf 38 = .ok (.aload_n 0, 1) := by decide +kernel
theorem dX13_aboveOf_39 : decode cX13_aboveOf 39 = .ok (.getfield 7, 3) := by decide +kernel
theorem dX13_aboveOf_42 : decode cX13_aboveOf 42 = .ok (.iload_n 2, 1) := by decide +kernel
theorem dX13_aboveOf_43 : decode cX13_aboveOf 43 = .ok (.iload_n 3, 1) := by decide +kernel
theorem dX13_aboveOf_44 : decode cX13_aboveOf 44 = .ok (.iconst 2, 1) := by decide +kernel
theorem dX13_aboveOf_45 : decode cX13_aboveOf 45 = .ok (.invokestatic 117, 3) := by decide +kernel
theorem dX13_aboveOf_48 : decode cX13_aboveOf 48 = .ok (.iaload, 1) := by decide +kernel
theorem dX13_aboveOf_49 : decode cX13_aboveOf 49 = .ok (.iload_n 1, 1) := by decide +kernel
theorem dX13_aboveOf_50 : decode cX13_aboveOf 50 = .ok (.if_icmp .ne 5, 3) := by decide +kernel
theorem dX13_aboveOf_53 : decode cX13_aboveOf 53 = .ok (.iload_n 2, 1) := by decide +kernel
theorem dX13_aboveOf_54 : decode cX13_aboveOf 54 = .ok (.ireturn, 1) := by decide +kernel
theorem dX13_aboveOf_55 : decode cX13_aboveOf 55 = .ok (.iinc 3 1, 3) := by decide +kernel
theorem dX13_aboveOf_58 : decode cX13_aboveOf 58 = .ok (.goto (-33), 3) := by decide +kernel
theorem dX13_aboveOf_61 : decode cX13_aboveOf 61 = .ok (.iinc 2 1, 3) := by decide +kernel
theorem dX13_aboveOf_64 : decode cX13_aboveOf 64 = .ok (.goto (-62), 3) := by decide +kernel
theorem dX13_aboveOf_67 : decode cX13_aboveOf 67 = .ok (.iconst (-1), 1) := by decide +kernel
theorem dX13_aboveOf_68 : decode cX13_aboveOf 68 = .ok (.ireturn, 1) := by decide +kernel
theorem dX13_rowOf_0 : decode cX13_rowOf 0 = .ok (.iconst 0, 1) := by decide +kernel
theorem dX13_rowOf_1 : decode cX13_rowOf 1 = .ok (.istore_n 3, 1) := by decide +kernel
theorem dX13_rowOf_2 : decode cX13_rowOf 2 = .ok (.aload_n 0, 1) := by decide +kernel
theorem dX13_rowOf_3 : decode cX13_rowOf 3 = .ok (.getfield 7, 3) := by decide +kernel
theorem dX13_rowOf_6 : decode cX13_rowOf 6 = .ok (.iload_n 1, 1) := by decide +kernel
theorem dX13_rowOf_7 : decode cX13_rowOf 7 = .ok (.iload_n 3, 1) := by decide +kernel
theorem dX13_rowOf_8 : decode cX13_rowOf 8 = .ok (.iconst 2, 1) := by decide +kernel
theorem dX13_rowOf_9 : decode cX13_rowOf 9 = .ok (.invokestatic 117, 3) := by decide +kernel
theorem dX13_rowOf_12 : decode cX13_rowOf 12 = .ok (.iaload, 1) := by decide +kernel
theorem dX13_rowOf_13 : decode cX13_rowOf 13 = .ok (.iload_n 2, 1) := by decide +kernel
theorem dX13_rowOf_14 : decode cX13_rowOf 14 = .ok (.if_icmp .eq 9, 3) := by decide +kernel
theorem dX13_rowOf_17 : decode cX13_rowOf 17 = .ok (.iinc 3 1, 3) := by decide +kernel
theorem dX13_rowOf_20 : decode cX13_rowOf 20 = .ok (.goto (-18), 3) := by decide +kernel
theorem dX13_rowOf_23 : decode cX13_rowOf 23 = .ok (.iload_n 3, 1) := by decide +kernel
theorem dX13_rowOf_24 : decode cX13_rowOf 24 = .ok (.ireturn, 1) := by decide +kernel
theorem dX13_needs_0 : decode cX13_needs 0 = .ok (.iconst 0, 1) := by decide +kernel
theorem dX13_needs_1 : decode cX13_needs 1 = .ok (.istore_n 1, 1) := by decide +kernel
theorem dX13_needs_2 : decode cX13_needs 2 = .ok (.iload_n 1, 1) := by decide +kernel
theorem dX13_needs_3 : decode cX13_needs 3 = .ok (.aload_n 0, 1) := by decide +kernel
theorem dX13_needs_4 : decode cX13_needs 4 = .ok (.getfield 140, 3) := by decide +kernel
theorem dX13_needs_7 : decode cX13_needs 7 = .ok (.if_icmp .ge 30, 3) := by decide +kernel
theorem dX13_needs_10 : decode cX13_needs 10 = .ok (.aload_n 0, 1) := by decide +kernel
theorem dX13_needs_11 : decode cX13_needs 11 = .ok (.aload_n 0, 1) := by decide +kernel
theorem dX13_needs_12 : decode cX13_needs 12 = .ok (.getfield 58, 3) := by decide +kernel
theorem dX13_needs_15 : decode cX13_needs 15 = .ok (.aload_n 0, 1) := by decide +kernel
theorem dX13_needs_16 : decode cX13_needs 16 = .ok (.getfield 137, 3) := by decide +kernel
theorem dX13_needs_19 : decode cX13_needs 19 = .ok (.iload_n 1, 1) := by decide +kernel
theorem dX13_needs_20 : decode cX13_needs 20 = .ok (.iadd, 1) := by decide +kernel
theorem dX13_needs_21 : decode cX13_needs 21 = .ok (.iaload, 1) := by decide +kernel
theorem dX13_needs_22 : decode cX13_needs 22 = .ok (.invokevirtual 171, 3) := by decide +kernel
theorem dX13_needs_25 : decode cX13_needs 25 = .ok (.iconst (-1), 1) := by decide +kernel
theorem dX13_needs_26 : decode cX13_needs 26 = .ok (.if_icmp .eq 5, 3) := by decide +kernel
theorem dX13_needs_29 : decode cX13_needs 29 = .ok (.iconst 0, 1) := by decide +kernel
theorem dX13_needs_30 : decode cX13_needs 30 = .ok (.ireturn, 1) := by decide +kernel
theorem dX13_needs_31 : decode cX13_needs 31 = .ok (.iinc 1 1, 3) := by decide +kernel
theorem dX13_needs_34 : decode cX13_needs 34 = .ok (.goto (-32), 3) := by decide +kernel
theorem dX13_needs_37 : decode cX13_needs 37 = .ok (.aload_n 0, 1) := by decide +kernel
theorem dX13_needs_38 : decode cX13_needs 38 = .ok (.getfield 7, 3) := by decide +kernel
theorem dX13_needs_41 : decode cX13_needs 41 = .ok (.sipush 1080, 3) := by decide +kernel
theorem dX13_needs_44 : decode cX13_needs 44 = .ok (.iaload, 1) := by decide +kernel
theorem dX13_needs_45 : decode cX13_needs 45 = .ok (.ifCond .ne 5, 3) := by decide +kernel
theorem dX13_needs_48 : decode cX13_needs 48 = .ok (.iconst 2, 1) := by decide +kernel
theorem dX13_needs_49 : decode cX13_needs 49 = .ok (.ireturn, 1) := by decide +kernel
theorem dX13_needs_50 : decode cX13_needs 50 = .ok (.aload_n 0, 1) := by decide +kernel
theorem dX13_needs_51 : decode cX13_needs 51 = .ok (.aload_n 0, 1) := by decide +kernel
theorem dX13_needs_52 : decode cX13_needs 52 = .ok (.getfield 58, 3) := by decide +kernel
theorem dX13_needs_55 : decode cX13_needs 55 = .ok (.aload_n 0, 1) := by decide +kernel
theorem dX13_needs_56 : decode cX13_needs 56 = .ok (.getfield 137, 3) := by decide +kernel
theorem dX13_needs_59 : decode cX13_needs 59 = .ok (.iaload, 1) := by decide +kernel
theorem dX13_needs_60 : decode cX13_needs 60 = .ok (.invokevirtual 174, 3) := by decide +kernel
theorem dX13_needs_63 : decode cX13_needs 63 = .ok (.istore_n 1, 1) := by decide +kernel
theorem dX13_needs_64 : decode cX13_needs 64 = .ok (.aload_n 0, 1) := by decide +kernel
theorem dX13_needs_65 : decode cX13_needs 65 = .ok (.getfield 7, 3) := by decide +kernel
theorem dX13_needs_68 : decode cX13_needs 68 = .ok (.bipush 80, 2) := by decide +kernel
theorem dX13_needs_70 : decode cX13_needs 70 = .ok (.iload_n 1, 1) := by decide +kernel
theorem dX13_needs_71 : decode cX13_needs 71 = .ok (.iadd, 1) := by decide +kernel
theorem dX13_needs_72 : decode cX13_needs 72 = .ok (.iaload, 1) := by decide +kernel
theorem dX13_needs_73 : decode cX13_needs 73 = .ok (.iconst 5, 1) := by decide +kernel
theorem dX13_needs_74 : decode cX13_needs 74 = .ok (.if_icmp .ge 5, 3) := by decide +kernel
theorem dX13_needs_77 : decode cX13_needs 77 = .ok (.iconst 1, 1) := by decide +kernel
theorem dX13_needs_78 : decode cX13_needs 78 = .ok (.ireturn, 1) := by decide +kernel
theorem dX13_needs_79 : decode cX13_needs 79 = .ok (.aload_n 0, 1) := by decide +kernel
theorem dX13_needs_80 : decode cX13_needs 80 = .ok (.getfield 7, 3) := by decide +kernel
theorem dX13_needs_83 : decode cX13_needs 83 = .ok (.sipush 1080, 3) := by decide +kernel
theorem dX13_needs_86 : decode cX13_needs 86 = .ok (.iaload, 1) := by decide +kernel
theorem dX13_needs_87 : decode cX13_needs 87 = .ok (.iconst 1, 1) := by decide +kernel
theorem dX13_needs_88 : decode cX13_needs 88 = .ok (.if_icmp .ne 5, 3) := by decide +kernel
theorem dX13_needs_91 : decode cX13_needs 91 = .ok (.iconst 3, 1) := by decide +kernel
theorem dX13_needs_92 : decode cX13_needs 92 = .ok (.ireturn, 1) := by decide +kernel
theorem dX13_needs_93 : decode cX13_needs 93 = .ok (.aload_n 0, 1) := by decide +kernel
theorem dX13_needs_94 : decode cX13_needs 94 = .ok (.getfield 7, 3) := by decide +kernel
theorem dX13_needs_97 : decode cX13_needs 97 = .ok (.bipush 80, 2) := by decide +kernel
theorem dX13_needs_99 : decode cX13_needs 99 = .ok (.iaload, 1) := by decide +kernel
theorem dX13_needs_100 : decode cX13_needs 100 = .ok (.iconst 5, 1) := by decide +kernel
theorem dX13_needs_101 : decode cX13_needs 101 = .ok (.if_icmp .ge 7, 3) := by decide +kernel
theorem dX13_needs_104 : decode cX13_needs 104 = .ok (.iconst 2, 1) := by decide +kernel
theorem dX13_needs_105 : decode cX13_needs 105 = .ok (.goto 4, 3) := by decide +kernel
theorem dX13_needs_108 : decode cX13_needs 108 = .ok (.iconst (-1), 1) := by decide +kernel
theorem dX13_needs_109 : decode cX13_needs 109 = .ok (.ireturn, 1) := by decide +kernel
theorem dX13_takesBlock_0 : decode cX13_takesBlock 0 = .ok (.iconst 0, 1) := by decide +kernel
theorem dX13_takesBlock_1 : decode cX13_takesBlock 1 = .ok (.istore_n 2, 1) := by decide +kernel
theorem dX13_takesBlock_2 : decode cX13_takesBlock 2 = .ok (.aload_n 0, 1) := by decide +kernel
theorem dX13_takesBlock_3 : decode cX13_takesBlock 3 = .ok (.getfield 7, 3) := by decide +kernel
theorem dX13_takesBlock_6 : decode cX13_takesBlock 6 = .ok (.iconst 0, 1) := by decide +kernel
theorem dX13_takesBlock_7 : decode cX13_takesBlock 7 = .ok (.iload_n 2, 1) := by decide +kernel
theorem dX13_takesBlock_8 : decode cX13_takesBlock 8 = .ok (.iadd, 1) := by decide +kernel
theorem dX13_takesBlock_9 : decode cX13_takesBlock 9 = .ok (.iaload, 1) := by decide +kernel
theorem dX13_takesBlock_10 : decode cX13_takesBlock 10 = .ok (.ifCond .eq 9, 3) := by decide +kernel
theorem dX13_takesBlock_13 : decode cX13_takesBlock 13 = .ok (.iinc 2 1, 3) := by decide +kernel
theorem dX13_takesBlock_16 : decode cX13_takesBlock 16 = .ok (.goto (-14), 3) := by decide +kernel
theorem dX13_takesBlock_19 : decode cX13_takesBlock 19 = .ok (.aload_n 0, 1) := by decide +kernel
theorem dX13_takesBlock_20 : decode cX13_takesBlock 20 = .ok (.getfield 7, 3) := by decide +kernel
theorem dX13_takesBlock_23 : decode cX13_takesBlock 23 = .ok (.iconst 0, 1) := by decide +kernel
theorem dX13_takesBlock_24 : decode cX13_takesBlock 24 = .ok (.iload_n 2, 1) := by decide +kernel
theorem dX13_takesBlock_25 : decode cX13_takesBlock 25 = .ok (.iadd, 1) := by decide +kernel
theorem dX13_takesBlock_26 : decode cX13_takesBlock 26 = .ok (.iload_n 1, 1) := by decide +kernel
theorem dX13_takesBlock_27 : decode cX13_takesBlock 27 = .ok (.iastore, 1) := by decide +kernel
theorem dX13_takesBlock_28 : decode cX13_takesBlock 28 = .ok (.aload_n 0, 1) := by decide +kernel
theorem dX13_takesBlock_29 : decode cX13_takesBlock 29 = .ok (.getfield 7, 3) := by decide +kernel
theorem dX13_takesBlock_32 : decode cX13_takesBlock 32 = .ok (.bipush 40, 2) := by decide +kernel
theorem dX13_takesBlock_34 : decode cX13_takesBlock 34 = .ok (.iload_n 2, 1) := by decide +kernel
theorem dX13_takesBlock_35 : decode cX13_takesBlock 35 = .ok (.iadd, 1) := by decide +kernel
theorem dX13_takesBlock_36 : decode cX13_takesBlock 36 = .ok (.iconst 0, 1) := by decide +kernel
theorem dX13_takesBlock_37 : decode cX13_takesBlock 37 = .ok (.iastore, 1) := by decide +kernel
theorem dX13_takesBlock_38 : decode cX13_takesBlock 38 = .ok (.aload_n 0, 1) := by decide +kernel
theorem dX13_takesBlock_39 : decode cX13_takesBlock 39 = .ok (.getfield 7, 3) := by decide +kernel
theorem dX13_takesBlock_42 : decode cX13_takesBlock 42 = .ok (.bipush 80, 2) := by decide +kernel
theorem dX13_takesBlock_44 : decode cX13_takesBlock 44 = .ok (.iload_n 2, 1) := by decide +kernel
theorem dX13_takesBlock_45 : decode cX13_takesBlock 45 = .ok (.iadd, 1) := by decide +kernel
theorem dX13_takesBlock_46 : decode cX13_takesBlock 46 = .ok (.iconst 0, 1) := by decide +kernel
theorem dX13_takesBlock_47 : decode cX13_takesBlock 47 = .ok (.iastore, 1) := by decide +kernel
theorem dX13_takesBlock_48 : decode cX13_takesBlock 48 = .ok (.aload_n 0, 1) := by decide +kernel
theorem dX13_takesBlock_49 : decode cX13_takesBlock 49 = .ok (.dup, 1) := by decide +kernel
theorem dX13_takesBlock_50 : decode cX13_takesBlock 50 = .ok (.getfield 177, 3) := by decide +kernel
theorem dX13_takesBlock_53 : decode cX13_takesBlock 53 = .ok (.iconst 1, 1) := by decide +kernel
theorem dX13_takesBlock_54 : decode cX13_takesBlock 54 = .ok (.iadd, 1) := by decide +kernel
theorem dX13_takesBlock_55 : decode cX13_takesBlock 55 = .ok (.putfield 177, 3) := by decide +kernel
theorem dX13_takesBlock_58 : decode cX13_takesBlock 58 = .ok (.iload_n 2, 1) := by decide +kernel
theorem dX13_takesBlock_59 : decode cX13_takesBlock 59 = .ok (.ireturn, 1) := by decide +kernel
theorem dX13_lays_0 : decode cX13_lays 0 = .ok (.aload_n 0, 1) := by decide +kernel
theorem dX13_lays_1 : decode cX13_lays 1 = .ok (.getfield 13, 3) := by decide +kernel
theorem dX13_lays_4 : decode cX13_lays 4 = .ok (.iload_n 1, 1) := by decide +kernel
theorem dX13_lays_5 : decode cX13_lays 5 = .ok (.iload_n 2, 1) := by decide +kernel
theorem dX13_lays_6 : decode cX13_lays 6 = .ok (.invokestatic 82, 3) := by decide +kernel
theorem dX13_lays_9 : decode cX13_lays 9 = .ok (.lload_n 3, 1) := by decide +kernel
theorem dX13_lays_10 : decode cX13_lays 10 = .ok (.lastore, 1) := by decide +kernel
theorem dX13_lays_11 : decode cX13_lays 11 = .ok (.aload_n 0, 1) := by decide +kernel
theorem dX13_lays_12 : decode cX13_lays 12 = .ok (.getfield 7, 3) := by decide +kernel
theorem dX13_lays_15 : decode cX13_lays 15 = .ok (.sipush 840, 3) := by decide +kernel
theorem dX13_lays_18 : decode cX13_lays 18 = .ok (.iload_n 1, 1) := by decide +kernel
theorem dX13_lays_19 : decode cX13_lays 19 = .ok (.iload_n 2, 1) := by decide +kernel
theorem dX13_lays_20 : decode cX13_lays 20 = .ok (.invokestatic 82, 3) := by decide +kernel
theorem dX13_lays_23 : decode cX13_lays 23 = .ok (.iadd, 1) := by decide +kernel
theorem dX13_lays_24 : decode cX13_lays 24 = .ok (.iload 5, 2) := by decide +kernel
theorem dX13_lays_26 : decode cX13_lays 26 = .ok (.iastore, 1) := by decide +kernel
theorem dX13_lays_27 : decode cX13_lays 27 = .ok (.return_, 1) := by decide +kernel
theorem dX13_empties_0 : decode cX13_empties 0 = .ok (.iconst 0, 1) := by decide +kernel
theorem dX13_empties_1 : decode cX13_empties 1 = .ok (.istore_n 2, 1) := by decide +kernel
theorem dX13_empties_2 : decode cX13_empties 2 = .ok (.iload_n 2, 1) := by decide +kernel
theorem dX13_empties_3 : decode cX13_empties 3 = .ok (.bipush 6, 2) := by decide +kernel
theorem dX13_empties_5 : decode cX13_empties 5 = .ok (.if_icmp .ge 17, 3) := by decide +kernel
theorem dX13_empties_8 : decode cX13_empties 8 = .ok (.aload_n 0, 1) := by decide +kernel
theorem dX13_empties_9 : decode cX13_empties 9 = .ok (.iload_n 1, 1) := by decide +kernel
theorem dX13_empties_10 : decode cX13_empties 10 = .ok (.iload_n 2, 1) := by decide +kernel
theorem dX13_empties_11 : decode cX13_empties 11 = .ok (.lconst 0, 1) := by decide +kernel
theorem dX13_empties_12 : decode cX13_empties 12 = .ok (.iconst (-1), 1) := by decide +kernel
theorem dX13_empties_13 : decode cX13_empties 13 = .ok (.invokevirtual 180, 3) := by decide +kernel
theorem dX13_empties_16 : decode cX13_empties 16 = .ok (.iinc 2 1, 3) := by decide +kernel
theorem dX13_empties_19 : decode cX13_empties 19 = .ok (.goto (-17), 3) := by decide +kernel
theorem dX13_empties_22 : decode cX13_empties 22 = .ok (.return_, 1) := by decide +kernel
theorem dX13_laysRow_0 : decode cX13_laysRow 0 = .ok (.aload_n 0, 1) := by decide +kernel
theorem dX13_laysRow_1 : decode cX13_laysRow 1 = .ok (.getfield 7, 3) := by decide +kernel
theorem dX13_laysRow_4 : decode cX13_laysRow 4 = .ok (.iload_n 1, 1) := by decide +kernel
theorem dX13_laysRow_5 : decode cX13_laysRow 5 = .ok (.iload_n 2, 1) := by decide +kernel
theorem dX13_laysRow_6 : decode cX13_laysRow 6 = .ok (.iconst 0, 1) := by decide +kernel
theorem dX13_laysRow_7 : decode cX13_laysRow 7 = .ok (.invokestatic 117, 3) := by decide +kernel
theorem dX13_laysRow_10 : decode cX13_laysRow 10 = .ok (.iload_n 3, 1) := by decide +kernel
theorem dX13_laysRow_11 : decode cX13_laysRow 11 = .ok (.iastore, 1) := by decide +kernel
theorem dX13_laysRow_12 : decode cX13_laysRow 12 = .ok (.aload_n 0, 1) := by decide +kernel
theorem dX13_laysRow_13 : decode cX13_laysRow 13 = .ok (.getfield 7, 3) := by decide +kernel
theorem dX13_laysRow_16 : decode cX13_laysRow 16 = .ok (.iload_n 1, 1) := by decide +kernel
theorem dX13_laysRow_17 : decode cX13_laysRow 17 = .ok (.iload_n 2, 1) := by decide +kernel
theorem dX13_laysRow_18 : decode cX13_laysRow 18 = .ok (.iconst 1, 1) := by decide +kernel
theorem dX13_laysRow_19 : decode cX13_laysRow 19 = .ok (.invokestatic 117, 3) := by decide +kernel
theorem dX13_laysRow_22 : decode cX13_laysRow 22 = .ok (.iload 4, 2) := by decide +kernel
theorem dX13_laysRow_24 : decode cX13_laysRow 24 = .ok (.iastore, 1) := by decide +kernel
theorem dX13_laysRow_25 : decode cX13_laysRow 25 = .ok (.aload_n 0, 1) := by decide +kernel
theorem dX13_laysRow_26 : decode cX13_laysRow 26 = .ok (.getfield 7, 3) := by decide +kernel
theorem dX13_laysRow_29 : decode cX13_laysRow 29 = .ok (.iload_n 1, 1) := by decide +kernel
theorem dX13_laysRow_30 : decode cX13_laysRow 30 = .ok (.iload_n 2, 1) := by decide +kernel
theorem dX13_laysRow_31 : decode cX13_laysRow 31 = .ok (.iconst 2, 1) := by decide +kernel
theorem dX13_laysRow_32 : decode cX13_laysRow 32 = .ok (.invokestatic 117, 3) := by decide +kernel
theorem dX13_laysRow_35 : decode cX13_laysRow 35 = .ok (.iload 5, 2) := by decide +kernel
theorem dX13_laysRow_37 : decode cX13_laysRow 37 = .ok (.iastore, 1) := by decide +kernel
theorem dX13_laysRow_38 : decode cX13_laysRow 38 = .ok (.return_, 1) := by decide +kernel
theorem dX13_copiesRow_0 : decode cX13_copiesRow 0 = .ok (.aload_n 0, 1) := by decide +kernel
theorem dX13_copiesRow_1 : decode cX13_copiesRow 1 = .ok (.iload_n 3, 1) := by decide +kernel
theorem dX13_copiesRow_2 : decode cX13_copiesRow 2 = .ok (.iload 4, 2) := by decide +kernel
theorem dX13_copiesRow_4 : decode cX13_copiesRow 4 = .ok (.aload_n 0, 1) := by decide +kernel
theorem dX13_copiesRow_5 : decode cX13_copiesRow 5 = .ok (.getfield 7, 3) := by decide +kernel
theorem dX13_copiesRow_8 : decode cX13_copiesRow 8 = .ok (.iload_n 1, 1) := by decide +kernel
theorem dX13_copiesRow_9 : decode cX13_copiesRow 9 = .ok (.iload_n 2, 1) := by decide +kernel
theorem dX13_copiesRow_10 : decode cX13_copiesRow 10 = .ok (.iconst 0, 1) := by decide +kernel
theorem dX13_copiesRow_11 : decode cX13_copiesRow 11 = .ok (.invokestatic 117, 3) := by decide +kernel
theorem dX13_copiesRow_14 : decode cX13_copiesRow 14 = .ok (.iaload, 1) := by decide +kernel
theorem dX13_copiesRow_15 : decode cX13_copiesRow 15 = .ok (.aload_n 0, 1) := by decide +kernel
theorem dX13_copiesRow_16 : decode cX13_copiesRow 16 = .ok (.getfield 7, 3) := by decide +kernel
theorem dX13_copiesRow_19 : decode cX13_copiesRow 19 = .ok (.iload_n 1, 1) := by decide +kernel
theorem dX13_copiesRow_20 : decode cX13_copiesRow 20 = .ok (.iload_n 2, 1) := by decide +kernel
theorem dX13_copiesRow_21 : decode cX13_copiesRow 21 = .ok (.iconst 1, 1) := by decide +kernel
theorem dX13_copiesRow_22 : decode cX13_copiesRow 22 = .ok (.invokestatic 117, 3) := by decide +kernel
theorem dX13_copiesRow_25 : decode cX13_copiesRow 25 = .ok (.iaload, 1) := by decide +kernel
theorem dX13_copiesRow_26 : decode cX13_copiesRow 26 = .ok (.aload_n 0, 1) := by decide +kernel
theorem dX13_copiesRow_27 : decode cX13_copiesRow 27 = .ok (.getfield 7, 3) := by decide +kernel
theorem dX13_copiesRow_30 : decode cX13_copiesRow 30 = .ok (.iload_n 1, 1) := by decide +kernel
theorem dX13_copiesRow_31 : decode cX13_copiesRow 31 = .ok (.iload_n 2, 1) := by decide +kernel
theorem dX13_copiesRow_32 : decode cX13_copiesRow 32 = .ok (.iconst 2, 1) := by decide +kernel
theorem dX13_copiesRow_33 : decode cX13_copiesRow 33 = .ok (.invokestatic 117, 3) := by decide +kernel
theorem dX13_copiesRow_36 : decode cX13_copiesRow 36 = .ok (.iaload, 1) := by decide +kernel
theorem dX13_copiesRow_37 : decode cX13_copiesRow 37 = .ok (.invokevirtual 184, 3) := by decide +kernel
theorem dX13_copiesRow_40 : decode cX13_copiesRow 40 = .ok (.return_, 1) := by decide +kernel
theorem dX13_sorts_0 : decode cX13_sorts 0 = .ok (.aload_n 0, 1) := by decide +kernel
theorem dX13_sorts_1 : decode cX13_sorts 1 = .ok (.getfield 188, 3) := by decide +kernel
theorem dX13_sorts_4 : decode cX13_sorts 4 = .ok (.istore 5, 2) := by decide +kernel
theorem dX13_sorts_6 : decode cX13_sorts 6 = .ok (.iload 5, 2) := by decide +kernel
theorem dX13_sorts_8 : decode cX13_sorts 8 = .ok (.ifCond .le 99, 3) := by decide +kernel
theorem dX13_sorts_11 : decode cX13_sorts 11 = .ok (.aload_n 0, 1) := by decide +kernel
theorem dX13_sorts_12 : decode cX13_sorts 12 = .ok (.getfield 73, 3) := by decide +kernel
theorem dX13_sorts_15 : decode cX13_sorts 15 = .ok (.iload 5, 2) := by decide +kernel
theorem dX13_sorts_17 : decode cX13_sorts 17 = .ok (.iconst 1, 1) := by decide +kernel
theorem dX13_sorts_18 : decode cX13_sorts 18 = .ok (.isub, 1) := by decide +kernel
theorem dX13_sorts_19 : decode cX13_sorts 19 = .ok (.iaload, 1) := by decide +kernel
theorem dX13_sorts_20 : decode cX13_sorts 20 = .ok (.iload 4, 2) := by decide +kernel
theorem dX13_sorts_22 : decode cX13_sorts 22 = .ok (.if_icmp .gt 31, 3) := by decide +kernel
theorem dX13_sorts_25 : decode cX13_sorts 25 = .ok (.aload_n 0, 1) := by decide +kernel
theorem dX13_sorts_26 : decode cX13_sorts 26 = .ok (.getfield 73, 3) := by decide +kernel
theorem dX13_sorts_29 : decode cX13_sorts 29 = .ok (.iload 5, 2) := by decide +kernel
theorem dX13_sorts_31 : decode cX13_sorts 31 = .ok (.iconst 1, 1) := by decide +kernel
theorem dX13_sorts_32 : decode cX13_sorts 32 = .ok (.isub, 1) := by decide +kernel
theorem dX13_sorts_33 : decode cX13_sorts 33 = .ok (.iaload, 1) := by decide +kernel
theorem dX13_sorts_34 : decode cX13_sorts 34 = .ok (.iload 4, 2) := by decide +kernel
theorem dX13_sorts_36 : decode cX13_sorts 36 = .ok (.if_icmp .ne 71, 3) := by decide +kernel
theorem dX13_sorts_39 : decode cX13_sorts 39 = .ok (.aload_n 0, 1) := by decide +kernel
theorem dX13_sorts_40 : decode cX13_sorts 40 = .ok (.getfield 67, 3) := by decide +kernel
theorem dX13_sorts_43 : decode cX13_sorts 43 = .ok (.iload 5, 2) := by decide +kernel
theorem dX13_sorts_45 : decode cX13_sorts 45 = .ok (.iconst 1, 1) := by decide +kernel
theorem dX13_sorts_46 : decode cX13_sorts 46 = .ok (.isub, 1) := by decide +kernel
theorem dX13_sorts_47 : decode cX13_sorts 47 = .ok (.laload, 1) := by decide +kernel
theorem dX13_sorts_48 : decode cX13_sorts 48 = .ok (.lload_n 1, 1) := by decide +kernel
theorem dX13_sorts_49 : decode cX13_sorts 49 = .ok (.lcmp, 1) := by decide +kernel
theorem dX13_sorts_50 : decode cX13_sorts 50 = .ok (.ifCond .le 57, 3) := by decide +kernel
theorem dX13_sorts_53 : decode cX13_sorts 53 = .ok (.aload_n 0, 1) := by decide +kernel
theorem dX13_sorts_54 : decode cX13_sorts 54 = .ok (.getfield 73, 3) := by decide +kernel
theorem dX13_sorts_57 : decode cX13_sorts 57 = .ok (.iload 5, 2) := by decide +kernel
theorem dX13_sorts_59 : decode cX13_sorts 59 = .ok (.aload_n 0, 1) := by decide +kernel
theorem dX13_sorts_60 : decode cX13_sorts 60 = .ok (.getfield 73, 3) := by decide +kernel
theorem dX13_sorts_63 : decode cX13_sorts 63 = .ok (.iload 5, 2) := by decide +kernel
theorem dX13_sorts_65 : decode cX13_sorts 65 = .ok (.iconst 1, 1) := by decide +kernel
theorem dX13_sorts_66 : decode cX13_sorts 66 = .ok (.isub, 1) := by decide +kernel
theorem dX13_sorts_67 : decode cX13_sorts 67 = .ok (.iaload, 1) := by decide +kernel
theorem dX13_sorts_68 : decode cX13_sorts 68 = .ok (.iastore, 1) := by decide +kernel
theorem dX13_sorts_69 : decode cX13_sorts 69 = .ok (.aload_n 0, 1) := by decide +kernel
theorem dX13_sorts_70 : decode cX13_sorts 70 = .ok (.getfield 67, 3) := by decide +kernel
theorem dX13_sorts_73 : decode cX13_sorts 73 = .ok (.iload 5, 2) := by decide +kernel
theorem dX13_sorts_75 : decode cX13_sorts 75 = .ok (.aload_n 0, 1) := by decide +kernel
theorem dX13_sorts_76 : decode cX13_sorts 76 = .ok (.getfield 67, 3) := by decide +kernel
theorem dX13_sorts_79 : decode cX13_sorts 79 = .ok (.iload 5, 2) := by decide +kernel
theorem dX13_sorts_81 : decode cX13_sorts 81 = .ok (.iconst 1, 1) := by decide +kernel
theorem dX13_sorts_82 : decode cX13_sorts 82 = .ok (.isub, 1) := by decide +kernel
theorem dX13_sorts_83 : decode cX13_sorts 83 = .ok (.laload, 1) := by decide +kernel
theorem dX13_sorts_84 : decode cX13_sorts 84 = .ok (.lastore, 1) := by decide +kernel
theorem dX13_sorts_85 : decode cX13_sorts 85 = .ok (.aload_n 0, 1) := by decide +kernel
theorem dX13_sorts_86 : decode cX13_sorts 86 = .ok (.getfield 70, 3) := by decide +kernel
theorem dX13_sorts_89 : decode cX13_sorts 89 = .ok (.iload 5, 2) := by decide +kernel
theorem dX13_sorts_91 : decode cX13_sorts 91 = .ok (.aload_n 0, 1) := by decide +kernel
theorem dX13_sorts_92 : decode cX13_sorts 92 = .ok (.getfield 70, 3) := by decide +kernel
theorem dX13_sorts_95 : decode cX13_sorts 95 = .ok (.iload 5, 2) := by decide +kernel
theorem dX13_sorts_97 : decode cX13_sorts 97 = .ok (.iconst 1, 1) := by decide +kernel
theorem dX13_sorts_98 : decode cX13_sorts 98 = .ok (.isub, 1) := by decide +kernel
theorem dX13_sorts_99 : decode cX13_sorts 99 = .ok (.iaload, 1) := by decide +kernel
theorem dX13_sorts_100 : decode cX13_sorts 100 = .ok (.iastore, 1) := by decide +kernel
theorem dX13_sorts_101 : decode cX13_sorts 101 = .ok (.iinc 5 (-1), 3) := by decide +kernel
theorem dX13_sorts_104 : decode cX13_sorts 104 = .ok (.goto (-98), 3) := by decide +kernel
theorem dX13_sorts_107 : decode cX13_sorts 107 = .ok (.aload_n 0, 1) := by decide +kernel
theorem dX13_sorts_108 : decode cX13_sorts 108 = .ok (.getfield 73, 3) := by decide +kernel
theorem dX13_sorts_111 : decode cX13_sorts 111 = .ok (.iload 5, 2) := by decide +kernel
theorem dX13_sorts_113 : decode cX13_sorts 113 = .ok (.iload 4, 2) := by decide +kernel
theorem dX13_sorts_115 : decode cX13_sorts 115 = .ok (.iastore, 1) := by decide +kernel
theorem dX13_sorts_116 : decode cX13_sorts 116 = .ok (.aload_n 0, 1) := by decide +kernel
theorem dX13_sorts_117 : decode cX13_sorts 117 = .ok (.getfield 67, 3) := by decide +kernel
theorem dX13_sorts_120 : decode cX13_sorts 120 = .ok (.iload 5, 2) := by decide +kernel
theorem dX13_sorts_122 : decode cX13_sorts 122 = .ok (.lload_n 1, 1) := by decide +kernel
theorem dX13_sorts_123 : decode cX13_sorts 123 = .ok (.lastore, 1) := by decide +kernel
theorem dX13_sorts_124 : decode cX13_sorts 124 = .ok (.aload_n 0, 1) := by decide +kernel
theorem dX13_sorts_125 : decode cX13_sorts 125 = .ok (.getfield 70, 3) := by decide +kernel
theorem dX13_sorts_128 : decode cX13_sorts 128 = .ok (.iload 5, 2) := by decide +kernel
theorem dX13_sorts_130 : decode cX13_sorts 130 = .ok (.iload_n 3, 1) := by decide +kernel
theorem dX13_sorts_131 : decode cX13_sorts 131 = .ok (.iastore, 1) := by decide +kernel
theorem dX13_sorts_132 : decode cX13_sorts 132 = .ok (.aload_n 0, 1) := by decide +kernel
theorem dX13_sorts_133 : decode cX13_sorts 133 = .ok (.dup, 1) := by decide +kernel
theorem dX13_sorts_134 : decode cX13_sorts 134 = .ok (.getfield 188, 3) := by decide +kernel
theorem dX13_sorts_137 : decode cX13_sorts 137 = .ok (.iconst 1, 1) := by decide +kernel
theorem dX13_sorts_138 : decode cX13_sorts 138 = .ok (.iadd, 1) := by decide +kernel
theorem dX13_sorts_139 : decode cX13_sorts 139 = .ok (.putfield 188, 3) := by decide +kernel
theorem dX13_sorts_142 : decode cX13_sorts 142 = .ok (.return_, 1) := by decide +kernel
theorem dX13_fills_0 : decode cX13_fills 0 = .ok (.aload_n 0, 1) := by decide +kernel
theorem dX13_fills_1 : decode cX13_fills 1 = .ok (.iload_n 1, 1) := by decide +kernel
theorem dX13_fills_2 : decode cX13_fills 2 = .ok (.invokevirtual 191, 3) := by decide +kernel
theorem dX13_fills_5 : decode cX13_fills 5 = .ok (.iconst 0, 1) := by decide +kernel
theorem dX13_fills_6 : decode cX13_fills 6 = .ok (.istore 4, 2) := by decide +kernel
theorem dX13_fills_8 : decode cX13_fills 8 = .ok (.iload 4, 2) := by decide +kernel
theorem dX13_fills_10 : decode cX13_fills 10 = .ok (.iload_n 3, 1) := by decide +kernel
theorem dX13_fills_11 : decode cX13_fills 11 = .ok (.if_icmp .ge 34, 3) := by decide +kernel
theorem dX13_fills_14 : decode cX13_fills 14 = .ok (.aload_n 0, 1) := by decide +kernel
theorem dX13_fills_15 : decode cX13_fills 15 = .ok (.iload_n 1, 1) := by decide +kernel
theorem dX13_fills_16 : decode cX13_fills 16 = .ok (.iload 4, 2) := by decide +kernel
theorem dX13_fills_18 : decode cX13_fills 18 = .ok (.aload_n 0, 1) := by decide +kernel
theorem dX13_fills_19 : decode cX13_fills 19 = .ok (.getfield 67, 3) := by decide +kernel
theorem dX13_fills_22 : decode cX13_fills 22 = .ok (.iload_n 2, 1) := by decide +kernel
theorem dX13_fills_23 : decode cX13_fills 23 = .ok (.iload 4, 2) := by decide +kernel
theorem dX13_fills_25 : decode cX13_fills 25 = .ok (.iadd, 1) := by decide +kernel
theorem dX13_fills_26 : decode cX13_fills 26 = .ok (.laload, 1) := by decide +kernel
theorem dX13_fills_27 : decode cX13_fills 27 = .ok (.aload_n 0, 1) := by decide +kernel
theorem dX13_fills_28 : decode cX13_fills 28 = .ok (.getfield 70, 3) := by decide +kernel
theorem dX13_fills_31 : decode cX13_fills 31 = .ok (.iload_n 2, 1) := by decide +kernel
theorem dX13_fills_32 : decode cX13_fills 32 = .ok (.iload 4, 2) := by decide +kernel
theorem dX13_fills_34 : decode cX13_fills 34 = .ok (.iadd, 1) := by decide +kernel
theorem dX13_fills_35 : decode cX13_fills 35 = .ok (.iaload, 1) := by decide +kernel
theorem dX13_fills_36 : decode cX13_fills 36 = .ok (.invokevirtual 180, 3) := by decide +kernel
theorem dX13_fills_39 : decode cX13_fills 39 = .ok (.iinc 4 1, 3) := by decide +kernel
theorem dX13_fills_42 : decode cX13_fills 42 = .ok (.goto (-34), 3) := by decide +kernel
theorem dX13_fills_45 : decode cX13_fills 45 = .ok (.return_, 1) := by decide +kernel
theorem dX13_comesBehind_0 : decode cX13_comesBehind 0 = .ok (.aload_n 0, 1) := by decide +kernel
theorem dX13_comesBehind_1 : decode cX13_comesBehind 1 = .ok (.iload_n 1, 1) := by decide +kernel
theorem dX13_comesBehind_2 : decode cX13_comesBehind 2 = .ok (.iload_n 2, 1) := by decide +kernel
theorem dX13_comesBehind_3 : decode cX13_comesBehind 3 = .ok (.invokevirtual 194, 3) := by decide +kernel
theorem dX13_comesBehind_6 : decode cX13_comesBehind 6 = .ok (.iconst 1, 1) := by decide +kernel
theorem dX13_comesBehind_7 : decode cX13_comesBehind 7 = .ok (.iadd, 1) := by decide +kernel
theorem dX13_comesBehind_8 : decode cX13_comesBehind 8 = .ok (.istore 6, 2) := by decide +kernel
theorem dX13_comesBehind_10 : decode cX13_comesBehind 10 = .ok (.aload_n 0, 1) := by decide +kernel
theorem dX13_comesBehind_11 : decode cX13_comesBehind 11 = .ok (.getfield 7, 3) := by decide +kernel
theorem dX13_comesBehind_14 : decode cX13_comesBehind 14 = .ok (.bipush 80, 2) := by decide +kernel
theorem dX13_comesBehind_16 : decode cX13_comesBehind 16 = .ok (.iload_n 1, 1) := by decide +kernel
theorem dX13_comesBehind_17 : decode cX13_comesBehind 17 = .ok (.iadd, 1) := by decide +kernel
theorem dX13_comesBehind_18 : decode cX13_comesBehind 18 = .ok (.iaload, 1) := by decide +kernel
theorem dX13_comesBehind_19 : decode cX13_comesBehind 19 = .ok (.istore 7, 2) := by decide +kernel
theorem dX13_comesBehind_21 : decode cX13_comesBehind 21 = .ok (.iload 7, 2) := by decide +kernel
theorem dX13_comesBehind_23 : decode cX13_comesBehind 23 = .ok (.iload 6, 2) := by decide +kernel
theorem dX13_comesBehind_25 : decode cX13_comesBehind 25 = .ok (.if_icmp .le 21, 3) := by decide +kernel
theorem dX13_comesBehind_28 : decode cX13_comesBehind 28 = .ok (.aload_n 0, 1) := by decide +kernel
theorem dX13_comesBehind_29 : decode cX13_comesBehind 29 = .ok (.iload_n 1, 1) := by decide +kernel
theorem dX13_comesBehind_30 : decode cX13_comesBehind 30 = .ok (.iload 7, 2) := by decide +kernel
theorem dX13_comesBehind_32 : decode cX13_comesBehind 32 = .ok (.iconst 1, 1) := by decide +kernel
theorem dX13_comesBehind_33 : decode cX13_comesBehind 33 = .ok (.isub, 1) := by decide +kernel
theorem dX13_comesBehind_34 : decode cX13_comesBehind 34 = .ok (.iload_n 1, 1) := by decide +kernel
theorem dX13_comesBehind_35 : decode cX13_comesBehind 35 = .ok (.iload 7, 2) := by decide +kernel
theorem dX13_comesBehind_37 : decode cX13_comesBehind 37 = .ok (.invokevirtual 197, 3) := by decide +kernel
theorem dX13_comesBehind_40 : decode cX13_comesBehind 40 = .ok (.iinc 7 (-1), 3) := by decide +kernel
theorem dX13_comesBehind_43 : decode cX13_comesBehind 43 = .ok (.goto (-22), 3) := by decide +kernel
theorem dX13_comesBehind_46 : decode cX13_comesBehind 46 = .ok (.aload_n 0, 1) := by decide +kernel
theorem dX13_comesBehind_47 : decode cX13_comesBehind 47 = .ok (.iload_n 1, 1) := by decide +kernel
theorem dX13_comesBehind_48 : decode cX13_comesBehind 48 = .ok (.iload 6, 2) := by decide +kernel
theorem dX13_comesBehind_50 : decode cX13_comesBehind 50 = .ok (.iload_n 3, 1) := by decide +kernel
theorem dX13_comesBehind_51 : decode cX13_comesBehind 51 = .ok (.iload 4, 2) := by decide +kernel
theorem dX13_comesBehind_53 : decode cX13_comesBehind 53 = .ok (.iload 5, 2) := by decide +kernel
theorem dX13_comesBehind_55 : decode cX13_comesBehind 55 = .ok (.invokevirtual 184, 3) := by decide +kernel
theorem dX13_comesBehind_58 : decode cX13_comesBehind 58 = .ok (.aload_n 0, 1) := by decide +kernel
theorem dX13_comesBehind_59 : decode cX13_comesBehind 59 = .ok (.getfield 7, 3) := by decide +kernel
theorem dX13_comesBehind_62 : decode cX13_comesBehind 62 = .ok (.bipush 80, 2) := by decide +kernel
theorem dX13_comesBehind_64 : decode cX13_comesBehind 64 = .ok (.iload_n 1, 1) := by decide +kernel
theorem dX13_comesBehind_65 : decode cX13_comesBehind 65 = .ok (.iadd, 1) := by decide +kernel
theorem dX13_comesBehind_66 : decode cX13_comesBehind 66 = .ok (.dup2, 1) := by decide +kernel
theorem dX13_comesBehind_67 : decode cX13_comesBehind 67 = .ok (.iaload, 1) := by decide +kernel
theorem dX13_comesBehind_68 : decode cX13_comesBehind 68 = .ok (.iconst 1, 1) := by decide +kernel
theorem dX13_comesBehind_69 : decode cX13_comesBehind 69 = .ok (.iadd, 1) := by decide +kernel
theorem dX13_comesBehind_70 : decode cX13_comesBehind 70 = .ok (.iastore, 1) := by decide +kernel
theorem dX13_comesBehind_71 : decode cX13_comesBehind 71 = .ok (.aload_n 0, 1) := by decide +kernel
theorem dX13_comesBehind_72 : decode cX13_comesBehind 72 = .ok (.getfield 7, 3) := by decide +kernel
theorem dX13_comesBehind_75 : decode cX13_comesBehind 75 = .ok (.bipush 80, 2) := by decide +kernel
theorem dX13_comesBehind_77 : decode cX13_comesBehind 77 = .ok (.iload_n 1, 1) := by decide +kernel
theorem dX13_comesBehind_78 : decode cX13_comesBehind 78 = .ok (.iadd, 1) := by decide +kernel
theorem dX13_comesBehind_79 : decode cX13_comesBehind 79 = .ok (.iaload, 1) := by decide +kernel
theorem dX13_comesBehind_80 : decode cX13_comesBehind 80 = .ok (.bipush 6, 2) := by decide +kernel
theorem dX13_comesBehind_82 : decode cX13_comesBehind 82 = .ok (.if_icmp .ne 8, 3) := by decide +kernel
theorem dX13_comesBehind_85 : decode cX13_comesBehind 85 = .ok (.aload_n 0, 1) := by decide +kernel
theorem dX13_comesBehind_86 : decode cX13_comesBehind 86 = .ok (.iload_n 1, 1) := by decide +kernel
theorem dX13_comesBehind_87 : decode cX13_comesBehind 87 = .ok (.invokevirtual 201, 3) := by decide +kernel
theorem dX13_comesBehind_90 : decode cX13_comesBehind 90 = .ok (.return_, 1) := by decide +kernel
theorem dX13_parts_0 : decode cX13_parts 0 = .ok (.aload_n 0, 1) := by decide +kernel
theorem dX13_parts_1 : decode cX13_parts 1 = .ok (.iconst 2, 1) := by decide +kernel
theorem dX13_parts_2 : decode cX13_parts 2 = .ok (.invokevirtual 204, 3) := by decide +kernel
theorem dX13_parts_5 : decode cX13_parts 5 = .ok (.istore_n 2, 1) := by decide +kernel
theorem dX13_parts_6 : decode cX13_parts 6 = .ok (.iconst 0, 1) := by decide +kernel
theorem dX13_parts_7 : decode cX13_parts 7 = .ok (.istore_n 3, 1) := by decide +kernel
theorem dX13_parts_8 : decode cX13_parts 8 = .ok (.iload_n 3, 1) := by decide +kernel
theorem dX13_parts_9 : decode cX13_parts 9 = .ok (.iconst 3, 1) := by decide +kernel
theorem dX13_parts_10 : decode cX13_parts 10 = .ok (.if_icmp .ge 19, 3) := by decide +kernel
theorem dX13_parts_13 : decode cX13_parts 13 = .ok (.aload_n 0, 1) := by decide +kernel
theorem dX13_parts_14 : decode cX13_parts 14 = .ok (.iload_n 1, 1) := by decide +kernel
theorem dX13_parts_15 : decode cX13_parts 15 = .ok (.iconst 3, 1) := by decide +kernel
theorem dX13_parts_16 : decode cX13_parts 16 = .ok (.iload_n 3, 1) := by decide +kernel
theorem dX13_parts_17 : decode cX13_parts 17 = .ok (.iadd, 1) := by decide +kernel
theorem dX13_parts_18 : decode cX13_parts 18 = .ok (.iload_n 2, 1) := by decide +kernel
theorem dX13_parts_19 : decode cX13_parts 19 = .ok (.iload_n 3, 1) := by decide +kernel
theorem dX13_parts_20 : decode cX13_parts 20 = .ok (.invokevirtual 197, 3) := by decide +kernel
theorem dX13_parts_23 : decode cX13_parts 23 = .ok (.iinc 3 1, 3) := by decide +kernel
theorem dX13_parts_26 : decode cX13_parts 26 = .ok (.goto (-18), 3) := by decide +kernel
theorem dX13_parts_29 : decode cX13_parts 29 = .ok (.aload_n 0, 1) := by decide +kernel
theorem dX13_parts_30 : decode cX13_parts 30 = .ok (.getfield 7, 3) := by decide +kernel
theorem dX13_parts_33 : decode cX13_parts 33 = .ok (.bipush 80, 2) := by decide +kernel
theorem dX13_parts_35 : decode cX13_parts 35 = .ok (.iload_n 2, 1) := by decide +kernel
theorem dX13_parts_36 : decode cX13_parts 36 = .ok (.iadd, 1) := by decide +kernel
theorem dX13_parts_37 : decode cX13_parts 37 = .ok (.iconst 3, 1) := by decide +kernel
theorem dX13_parts_38 : decode cX13_parts 38 = .ok (.iastore, 1) := by decide +kernel
theorem dX13_parts_39 : decode cX13_parts 39 = .ok (.aload_n 0, 1) := by decide +kernel
theorem dX13_parts_40 : decode cX13_parts 40 = .ok (.getfield 7, 3) := by decide +kernel
theorem dX13_parts_43 : decode cX13_parts 43 = .ok (.iload_n 2, 1) := by decide +kernel
theorem dX13_parts_44 : decode cX13_parts 44 = .ok (.iconst 0, 1) := by decide +kernel
theorem dX13_parts_45 : decode cX13_parts 45 = .ok (.iconst 0, 1) := by decide +kernel
theorem dX13_parts_46 : decode cX13_parts 46 = .ok (.invokestatic 117, 3) := by decide +kernel
theorem dX13_parts_49 : decode cX13_parts 49 = .ok (.iaload, 1) := by decide +kernel
theorem dX13_parts_50 : decode cX13_parts 50 = .ok (.istore_n 3, 1) := by decide +kernel
theorem dX13_parts_51 : decode cX13_parts 51 = .ok (.aload_n 0, 1) := by decide +kernel
theorem dX13_parts_52 : decode cX13_parts 52 = .ok (.getfield 7, 3) := by decide +kernel
theorem dX13_parts_55 : decode cX13_parts 55 = .ok (.iload_n 2, 1) := by decide +kernel
theorem dX13_parts_56 : decode cX13_parts 56 = .ok (.iconst 0, 1) := by decide +kernel
theorem dX13_parts_57 : decode cX13_parts 57 = .ok (.iconst 1, 1) := by decide +kernel
theorem dX13_parts_58 : decode cX13_parts 58 = .ok (.invokestatic 117, 3) := by decide +kernel
theorem dX13_parts_61 : decode cX13_parts 61 = .ok (.iaload, 1) := by decide +kernel
theorem dX13_parts_62 : decode cX13_parts 62 = .ok (.istore 4, 2) := by decide +kernel
theorem dX13_parts_64 : decode cX13_parts 64 = .ok (.iload_n 1, 1) := by decide +kernel
theorem dX13_parts_65 : decode cX13_parts 65 = .ok (.ifCond .eq 24, 3) := by decide +kernel
theorem dX13_parts_68 : decode cX13_parts 68 = .ok (.aload_n 0, 1) := by decide +kernel
theorem dX13_parts_69 : decode cX13_parts 69 = .ok (.getfield 7, 3) := by decide +kernel
theorem dX13_parts_72 : decode cX13_parts 72 = .ok (.bipush 80, 2) := by decide +kernel
theorem dX13_parts_74 : decode cX13_parts 74 = .ok (.iload_n 1, 1) := by decide +kernel
theorem dX13_parts_75 : decode cX13_parts 75 = .ok (.iadd, 1) := by decide +kernel
theorem dX13_parts_76 : decode cX13_parts 76 = .ok (.iconst 3, 1) := by decide +kernel
theorem dX13_parts_77 : decode cX13_parts 77 = .ok (.iastore, 1) := by decide +kernel
theorem dX13_parts_78 : decode cX13_parts 78 = .ok (.aload_n 0, 1) := by decide +kernel
theorem dX13_parts_79 : decode cX13_parts 79 = .ok (.iconst 0, 1) := by decide +kernel
theorem dX13_parts_80 : decode cX13_parts 80 = .ok (.iload_n 1, 1) := by decide +kernel
theorem dX13_parts_81 : decode cX13_parts 81 = .ok (.iload_n 3, 1) := by decide +kernel
theorem dX13_parts_82 : decode cX13_parts 82 = .ok (.iload 4, 2) := by decide +kernel
theorem dX13_parts_84 : decode cX13_parts 84 = .ok (.iload_n 2, 1) := by decide +kernel
theorem dX13_parts_85 : decode cX13_parts 85 = .ok (.invokevirtual 207, 3) := by decide +kernel
theorem dX13_parts_88 : decode cX13_parts 88 = .ok (.return_, 1) := by decide +kernel
theorem dX13_parts_89 : decode cX13_parts 89 = .ok (.aload_n 0, 1) := by decide +kernel
theorem dX13_parts_90 : decode cX13_parts 90 = .ok (.iconst 2, 1) := by decide +kernel
theorem dX13_parts_91 : decode cX13_parts 91 = .ok (.invokevirtual 204, 3) := by decide +kernel
theorem dX13_parts_94 : decode cX13_parts 94 = .ok (.istore 5, 2) := by decide +kernel
theorem dX13_parts_96 : decode cX13_parts 96 = .ok (.iconst 0, 1) := by decide +kernel
theorem dX13_parts_97 : decode cX13_parts 97 = .ok (.istore 6, 2) := by decide +kernel
theorem dX13_parts_99 : decode cX13_parts 99 = .ok (.iload 6, 2) := by decide +kernel
theorem dX13_parts_101 : decode cX13_parts 101 = .ok (.iconst 3, 1) := by decide +kernel
theorem dX13_parts_102 : decode cX13_parts 102 = .ok (.if_icmp .ge 20, 3) := by decide +kernel
theorem dX13_parts_105 : decode cX13_parts 105 = .ok (.aload_n 0, 1) := by decide +kernel
theorem dX13_parts_106 : decode cX13_parts 106 = .ok (.iconst 0, 1) := by decide +kernel
theorem dX13_parts_107 : decode cX13_parts 107 = .ok (.iload 6, 2) := by decide +kernel
theorem dX13_parts_109 : decode cX13_parts 109 = .ok (.iload 5, 2) := by decide +kernel
theorem dX13_parts_111 : decode cX13_parts 111 = .ok (.iload 6, 2) := by decide +kernel
theorem dX13_parts_113 : decode cX13_parts 113 = .ok (.invokevirtual 197, 3) := by decide +kernel
theorem dX13_parts_116 : decode cX13_parts 116 = .ok (.iinc 6 1, 3) := by decide +kernel
theorem dX13_parts_119 : decode cX13_parts 119 = .ok (.goto (-20), 3) := by decide +kernel
theorem dX13_parts_122 : decode cX13_parts 122 = .ok (.aload_n 0, 1) := by decide +kernel
theorem dX13_parts_123 : decode cX13_parts 123 = .ok (.getfield 7, 3) := by decide +kernel
theorem dX13_parts_126 : decode cX13_parts 126 = .ok (.bipush 80, 2) := by decide +kernel
theorem dX13_parts_128 : decode cX13_parts 128 = .ok (.iload 5, 2) := by decide +kernel
theorem dX13_parts_130 : decode cX13_parts 130 = .ok (.iadd, 1) := by decide +kernel
theorem dX13_parts_131 : decode cX13_parts 131 = .ok (.iconst 3, 1) := by decide +kernel
theorem dX13_parts_132 : decode cX13_parts 132 = .ok (.iastore, 1) := by decide +kernel
theorem dX13_parts_133 : decode cX13_parts 133 = .ok (.aload_n 0, 1) := by decide +kernel
theorem dX13_parts_134 : decode cX13_parts 134 = .ok (.iconst 0, 1) := by decide +kernel
theorem dX13_parts_135 : decode cX13_parts 135 = .ok (.iconst 0, 1) := by decide +kernel
theorem dX13_parts_136 : decode cX13_parts 136 = .ok (.iconst 0, 1) := by decide +kernel
theorem dX13_parts_137 : decode cX13_parts 137 = .ok (.iconst 0, 1) := by decide +kernel
theorem dX13_parts_138 : decode cX13_parts 138 = .ok (.iload 5, 2) := by decide +kernel
theorem dX13_parts_140 : decode cX13_parts 140 = .ok (.invokevirtual 184, 3) := by decide +kernel
theorem dX13_parts_143 : decode cX13_parts 143 = .ok (.aload_n 0, 1) := by decide +kernel
theorem dX13_parts_144 : decode cX13_parts 144 = .ok (.iconst 0, 1) := by decide +kernel
theorem dX13_parts_145 : decode cX13_parts 145 = .ok (.iconst 1, 1) := by decide +kernel
theorem dX13_parts_146 : decode cX13_parts 146 = .ok (.iload_n 3, 1) := by decide +kernel
theorem dX13_parts_147 : decode cX13_parts 147 = .ok (.iload 4, 2) := by decide +kernel
theorem dX13_parts_149 : decode cX13_parts 149 = .ok (.iload_n 2, 1) := by decide +kernel
theorem dX13_parts_150 : decode cX13_parts 150 = .ok (.invokevirtual 184, 3) := by decide +kernel
theorem dX13_parts_153 : decode cX13_parts 153 = .ok (.aload_n 0, 1) := by decide +kernel
theorem dX13_parts_154 : decode cX13_parts 154 = .ok (.getfield 7, 3) := by decide +kernel
theorem dX13_parts_157 : decode cX13_parts 157 = .ok (.bipush 80, 2) := by decide +kernel
theorem dX13_parts_159 : decode cX13_parts 159 = .ok (.iconst 2, 1) := by decide +kernel
theorem dX13_parts_160 : decode cX13_parts 160 = .ok (.iastore, 1) := by decide +kernel
theorem dX13_parts_161 : decode cX13_parts 161 = .ok (.aload_n 0, 1) := by decide +kernel
theorem dX13_parts_162 : decode cX13_parts 162 = .ok (.getfield 7, 3) := by decide +kernel
theorem dX13_parts_165 : decode cX13_parts 165 = .ok (.sipush 1080, 3) := by decide +kernel
theorem dX13_parts_168 : decode cX13_parts 168 = .ok (.dup2, 1) := by decide +kernel
theorem dX13_parts_169 : decode cX13_parts 169 = .ok (.iaload, 1) := by decide +kernel
theorem dX13_parts_170 : decode cX13_parts 170 = .ok (.iconst 1, 1) := by decide +kernel
theorem dX13_parts_171 : decode cX13_parts 171 = .ok (.iadd, 1) := by decide +kernel
theorem dX13_parts_172 : decode cX13_parts 172 = .ok (.iastore, 1) := by decide +kernel
theorem dX13_parts_173 : decode cX13_parts 173 = .ok (.return_, 1) := by decide +kernel
theorem dX13_splits_0 : decode cX13_splits 0 = .ok (.aload_n 0, 1) := by decide +kernel
theorem dX13_splits_1 : decode cX13_splits 1 = .ok (.iconst 0, 1) := by decide +kernel
theorem dX13_splits_2 : decode cX13_splits 2 = .ok (.putfield 188, 3) := by decide +kernel
theorem dX13_splits_5 : decode cX13_splits 5 = .ok (.iconst 0, 1) := by decide +kernel
theorem dX13_splits_6 : decode cX13_splits 6 = .ok (.istore 5, 2) := by decide +kernel
theorem dX13_splits_8 : decode cX13_splits 8 = .ok (.iload 5, 2) := by decide +kernel
theorem dX13_splits_10 : decode cX13_splits 10 = .ok (.bipush 6, 2) := by decide +kernel
theorem dX13_splits_12 : decode cX13_splits 12 = .ok (.if_icmp .ge 54, 3) := by decide +kernel
theorem dX13_splits_15 : decode cX13_splits 15 = .ok (.aload_n 0, 1) := by decide +kernel
theorem dX13_splits_16 : decode cX13_splits 16 = .ok (.aload_n 0, 1) := by decide +kernel
theorem dX13_splits_17 : decode cX13_splits 17 = .ok (.getfield 13, 3) := by decide +kernel
theorem dX13_splits_20 : decode cX13_splits 20 = .ok (.iload_n 1, 1) := by decide +kernel
theorem dX13_splits_21 : decode cX13_splits 21 = .ok (.iload 5, 2) := by decide +kernel
theorem dX13_splits_23 : decode cX13_splits 23 = .ok (.invokestatic 82, 3) := by decide +kernel
theorem dX13_splits_26 : decode cX13_splits 26 = .ok (.laload, 1) := by decide +kernel
theorem dX13_splits_27 : decode cX13_splits 27 = .ok (.aload_n 0, 1) := by decide +kernel
theorem dX13_splits_28 : decode cX13_splits 28 = .ok (.getfield 7, 3) := by decide +kernel
theorem dX13_splits_31 : decode cX13_splits 31 = .ok (.sipush 840, 3) := by decide +kernel
theorem dX13_splits_34 : decode cX13_splits 34 = .ok (.iload_n 1, 1) := by decide +kernel
theorem dX13_splits_35 : decode cX13_splits 35 = .ok (.iload 5, 2) := by decide +kernel
theorem dX13_splits_37 : decode cX13_splits 37 = .ok (.invokestatic 82, 3) := by decide +kernel
theorem dX13_splits_40 : decode cX13_splits 40 = .ok (.iadd, 1) := by decide +kernel
theorem dX13_splits_41 : decode cX13_splits 41 = .ok (.iaload, 1) := by decide +kernel
theorem dX13_splits_42 : decode cX13_splits 42 = .ok (.aload_n 0, 1) := by decide +kernel
theorem dX13_splits_43 : decode cX13_splits 43 = .ok (.aload_n 0, 1) := by decide +kernel
theorem dX13_splits_44 : decode cX13_splits 44 = .ok (.getfield 13, 3) := by decide +kernel
theorem dX13_splits_47 : decode cX13_splits 47 = .ok (.iload_n 1, 1) := by decide +kernel
theorem dX13_splits_48 : decode cX13_splits 48 = .ok (.iload 5, 2) := by decide +kernel
theorem dX13_splits_50 : decode cX13_splits 50 = .ok (.invokestatic 82, 3) := by decide +kernel
theorem dX13_splits_53 : decode cX13_splits 53 = .ok (.laload, 1) := by decide +kernel
theorem dX13_splits_54 : decode cX13_splits 54 = .ok (.invokevirtual 164, 3) := by decide +kernel
theorem dX13_splits_57 : decode cX13_splits 57 = .ok (.invokevirtual 210, 3) := by decide +kernel
theorem dX13_splits_60 : decode cX13_splits 60 = .ok (.iinc 5 1, 3) := by decide +kernel
theorem dX13_splits_63 : decode cX13_splits 63 = .ok (.goto (-55), 3) := by decide +kernel
theorem dX13_splits_66 : decode cX13_splits 66 = .ok (.aload_n 0, 1) := by decide +kernel
theorem dX13_splits_67 : decode cX13_splits 67 = .ok (.lload_n 2, 1) := by decide +kernel
theorem dX13_splits_68 : decode cX13_splits 68 = .ok (.iload 4, 2) := by decide +kernel
theorem dX13_splits_70 : decode cX13_splits 70 = .ok (.aload_n 0, 1) := by decide +kernel
theorem dX13_splits_71 : decode cX13_splits 71 = .ok (.lload_n 2, 1) := by decide +kernel
theorem dX13_splits_72 : decode cX13_splits 72 = .ok (.invokevirtual 164, 3) := by decide +kernel
theorem dX13_splits_75 : decode cX13_splits 75 = .ok (.invokevirtual 210, 3) := by decide +kernel
theorem dX13_splits_78 : decode cX13_splits 78 = .ok (.aload_n 0, 1) := by decide +kernel
theorem dX13_splits_79 : decode cX13_splits 79 = .ok (.getfield 73, 3) := by decide +kernel
theorem dX13_splits_82 : decode cX13_splits 82 = .ok (.iconst 2, 1) := by decide +kernel
theorem dX13_splits_83 : decode cX13_splits 83 = .ok (.iaload, 1) := by decide +kernel
theorem dX13_splits_84 : decode cX13_splits 84 = .ok (.aload_n 0, 1) := by decide +kernel
theorem dX13_splits_85 : decode cX13_splits 85 = .ok (.getfield 73, 3) := by decide +kernel
theorem dX13_splits_88 : decode cX13_splits 88 = .ok (.iconst 3, 1) := by decide +kernel
theorem dX13_splits_89 : decode cX13_splits 89 = .ok (.iaload, 1) := by decide +kernel
theorem dX13_splits_90 : decode cX13_splits 90 = .ok (.if_icmp .ne 7, 3) := by decide +kernel
theorem dX13_splits_93 : decode cX13_splits 93 = .ok (.iconst 1, 1) := by decide +kernel
theorem dX13_splits_94 : decode cX13_splits 94 = .ok (.goto 4, 3) := by decide +kernel
theorem dX13_splits_97 : decode cX13_splits 97 = .ok (.iconst 0, 1) := by decide +kernel
theorem dX13_splits_98 : decode cX13_splits 98 = .ok (.istore 5, 2) := by decide +kernel
theorem dX13_splits_100 : decode cX13_splits 100 = .ok (.aload_n 0, 1) := by decide +kernel
theorem dX13_splits_101 : decode cX13_splits 101 = .ok (.getfield 73, 3) := by decide +kernel
theorem dX13_splits_104 : decode cX13_splits 104 = .ok (.iconst 3, 1) := by decide +kernel
theorem dX13_splits_105 : decode cX13_splits 105 = .ok (.iaload, 1) := by decide +kernel
theorem dX13_splits_106 : decode cX13_splits 106 = .ok (.istore 6, 2) := by decide +kernel
theorem dX13_splits_108 : decode cX13_splits 108 = .ok (.aload_n 0, 1) := by decide +kernel
theorem dX13_splits_109 : decode cX13_splits 109 = .ok (.iconst 1, 1) := by decide +kernel
theorem dX13_splits_110 : decode cX13_splits 110 = .ok (.invokevirtual 204, 3) := by decide +kernel
theorem dX13_splits_113 : decode cX13_splits 113 = .ok (.istore 7, 2) := by decide +kernel
theorem dX13_splits_115 : decode cX13_splits 115 = .ok (.aload_n 0, 1) := by decide +kernel
theorem dX13_splits_116 : decode cX13_splits 116 = .ok (.iload 7, 2) := by decide +kernel
theorem dX13_splits_118 : decode cX13_splits 118 = .ok (.iconst 3, 1) := by decide +kernel
theorem dX13_splits_119 : decode cX13_splits 119 = .ok (.iconst 4, 1) := by decide +kernel
theorem dX13_splits_120 : decode cX13_splits 120 = .ok (.invokevirtual 214, 3) := by decide +kernel
theorem dX13_splits_123 : decode cX13_splits 123 = .ok (.aload_n 0, 1) := by decide +kernel
theorem dX13_splits_124 : decode cX13_splits 124 = .ok (.getfield 7, 3) := by decide +kernel
theorem dX13_splits_127 : decode cX13_splits 127 = .ok (.sipush 1080, 3) := by decide +kernel
theorem dX13_splits_130 : decode cX13_splits 130 = .ok (.iaload, 1) := by decide +kernel
theorem dX13_splits_131 : decode cX13_splits 131 = .ok (.ifCond .le 27, 3) := by decide +kernel
theorem dX13_splits_134 : decode cX13_splits 134 = .ok (.aload_n 0, 1) := by decide +kernel
theorem dX13_splits_135 : decode cX13_splits 135 = .ok (.iload_n 1, 1) := by decide +kernel
theorem dX13_splits_136 : decode cX13_splits 136 = .ok (.iconst 0, 1) := by decide +kernel
theorem dX13_splits_137 : decode cX13_splits 137 = .ok (.iconst 3, 1) := by decide +kernel
theorem dX13_splits_138 : decode cX13_splits 138 = .ok (.invokevirtual 214, 3) := by decide +kernel
theorem dX13_splits_141 : decode cX13_splits 141 = .ok (.aload_n 0, 1) := by decide +kernel
theorem dX13_splits_142 : decode cX13_splits 142 = .ok (.aload_n 0, 1) := by decide +kernel
theorem dX13_splits_143 : decode cX13_splits 143 = .ok (.iload_n 1, 1) := by decide +kernel
theorem dX13_splits_144 : decode cX13_splits 144 = .ok (.invokevirtual 174, 3) := by decide +kernel
theorem dX13_splits_147 : decode cX13_splits 147 = .ok (.iload_n 1, 1) := by decide +kernel
theorem dX13_splits_148 : decode cX13_splits 148 = .ok (.iload 6, 2) := by decide +kernel
theorem dX13_splits_150 : decode cX13_splits 150 = .ok (.iload 5, 2) := by decide +kernel
theorem dX13_splits_152 : decode cX13_splits 152 = .ok (.iload 7, 2) := by decide +kernel
theorem dX13_splits_154 : decode cX13_splits 154 = .ok (.invokevirtual 207, 3) := by decide +kernel
theorem dX13_splits_157 : decode cX13_splits 157 = .ok (.return_, 1) := by decide +kernel
theorem dX13_splits_158 : decode cX13_splits 158 = .ok (.aload_n 0, 1) := by decide +kernel
theorem dX13_splits_159 : decode cX13_splits 159 = .ok (.iconst 1, 1) := by decide +kernel
theorem dX13_splits_160 : decode cX13_splits 160 = .ok (.invokevirtual 204, 3) := by decide +kernel
theorem dX13_splits_163 : decode cX13_splits 163 = .ok (.istore 8, 2) := by decide +kernel
theorem dX13_splits_165 : decode cX13_splits 165 = .ok (.aload_n 0, 1) := by decide +kernel
theorem dX13_splits_166 : decode cX13_splits 166 = .ok (.iload 8, 2) := by decide +kernel
theorem dX13_splits_168 : decode cX13_splits 168 = .ok (.iconst 0, 1) := by decide +kernel
theorem dX13_splits_169 : decode cX13_splits 169 = .ok (.iconst 3, 1) := by decide +kernel
theorem dX13_splits_170 : decode cX13_splits 170 = .ok (.invokevirtual 214, 3) := by decide +kernel
theorem dX13_splits_173 : decode cX13_splits 173 = .ok (.aload_n 0, 1) := by decide +kernel
theorem dX13_splits_174 : decode cX13_splits 174 = .ok (.iconst 0, 1) := by decide +kernel
theorem dX13_splits_175 : decode cX13_splits 175 = .ok (.invokevirtual 191, 3) := by decide +kernel
theorem dX13_splits_178 : decode cX13_splits 178 = .ok (.aload_n 0, 1) := by decide +kernel
theorem dX13_splits_179 : decode cX13_splits 179 = .ok (.getfield 7, 3) := by decide +kernel
theorem dX13_splits_182 : decode cX13_splits 182 = .ok (.iconst 0, 1) := by decide +kernel
theorem dX13_splits_183 : decode cX13_splits 183 = .ok (.iconst 2, 1) := by decide +kernel
theorem dX13_splits_184 : decode cX13_splits 184 = .ok (.iastore, 1) := by decide +kernel
theorem dX13_splits_185 : decode cX13_splits 185 = .ok (.aload_n 0, 1) := by decide +kernel
theorem dX13_splits_186 : decode cX13_splits 186 = .ok (.getfield 7, 3) := by decide +kernel
theorem dX13_splits_189 : decode cX13_splits 189 = .ok (.sipush 1080, 3) := by decide +kernel
theorem dX13_splits_192 : decode cX13_splits 192 = .ok (.iconst 1, 1) := by decide +kernel
theorem dX13_splits_193 : decode cX13_splits 193 = .ok (.iastore, 1) := by decide +kernel
theorem dX13_splits_194 : decode cX13_splits 194 = .ok (.aload_n 0, 1) := by decide +kernel
theorem dX13_splits_195 : decode cX13_splits 195 = .ok (.getfield 7, 3) := by decide +kernel
theorem dX13_splits_198 : decode cX13_splits 198 = .ok (.bipush 80, 2) := by decide +kernel
theorem dX13_splits_200 : decode cX13_splits 200 = .ok (.iconst 2, 1) := by decide +kernel
theorem dX13_splits_201 : decode cX13_splits 201 = .ok (.iastore, 1) := by decide +kernel
theorem dX13_splits_202 : decode cX13_splits 202 = .ok (.aload_n 0, 1) := by decide +kernel
theorem dX13_splits_203 : decode cX13_splits 203 = .ok (.iconst 0, 1) := by decide +kernel
theorem dX13_splits_204 : decode cX13_splits 204 = .ok (.iconst 0, 1) := by decide +kernel
theorem dX13_splits_205 : decode cX13_splits 205 = .ok (.iconst 0, 1) := by decide +kernel
theorem dX13_splits_206 : decode cX13_splits 206 = .ok (.iconst 0, 1) := by decide +kernel
theorem dX13_splits_207 : decode cX13_splits 207 = .ok (.iload 8, 2) := by decide +kernel
theorem dX13_splits_209 : decode cX13_splits 209 = .ok (.invokevirtual 184, 3) := by decide +kernel
theorem dX13_splits_212 : decode cX13_splits 212 = .ok (.aload_n 0, 1) := by decide +kernel
theorem dX13_splits_213 : decode cX13_splits 213 = .ok (.iconst 0, 1) := by decide +kernel
theorem dX13_splits_214 : decode cX13_splits 214 = .ok (.iconst 1, 1) := by decide +kernel
theorem dX13_splits_215 : decode cX13_splits 215 = .ok (.iload 6, 2) := by decide +kernel
theorem dX13_splits_217 : decode cX13_splits 217 = .ok (.iload 5, 2) := by decide +kernel
theorem dX13_splits_219 : decode cX13_splits 219 = .ok (.iload 7, 2) := by decide +kernel
theorem dX13_splits_221 : decode cX13_splits 221 = .ok (.invokevirtual 184, 3) := by decide +kernel
theorem dX13_splits_224 : decode cX13_splits 224 = .ok (.return_, 1) := by decide +kernel
theorem dX13_puts_0 : decode cX13_puts 0 = .ok (.aload_n 0, 1) := by decide +kernel
theorem dX13_puts_1 : decode cX13_puts 1 = .ok (.invokevirtual 156, 3) := by decide +kernel
theorem dX13_puts_4 : decode cX13_puts 4 = .ok (.ifCond .eq 5, 3) := by decide +kernel
theorem dX13_puts_7 : decode cX13_puts 7 = .ok (.iconst 2, 1) := by decide +kernel
theorem dX13_puts_8 : decode cX13_puts 8 = .ok (.ireturn, 1) := by decide +kernel
theorem dX13_puts_9 : decode cX13_puts 9 = .ok (.aload_n 0, 1) := by decide +kernel
theorem dX13_puts_10 : decode cX13_puts 10 = .ok (.aload_n 0, 1) := by decide +kernel
theorem dX13_puts_11 : decode cX13_puts 11 = .ok (.lload_n 1, 1) := by decide +kernel
theorem dX13_puts_12 : decode cX13_puts 12 = .ok (.invokevirtual 164, 3) := by decide +kernel
theorem dX13_puts_15 : decode cX13_puts 15 = .ok (.invokevirtual 167, 3) := by decide +kernel
theorem dX13_puts_18 : decode cX13_puts 18 = .ok (.aload_n 0, 1) := by decide +kernel
theorem dX13_puts_19 : decode cX13_puts 19 = .ok (.invokevirtual 218, 3) := by decide +kernel
theorem dX13_puts_22 : decode cX13_puts 22 = .ok (.iconst (-1), 1) := by decide +kernel
theorem dX13_puts_23 : decode cX13_puts 23 = .ok (.if_icmp .ne 5, 3) := by decide +kernel
theorem dX13_puts_26 : decode cX13_puts 26 = .ok (.iconst 3, 1) := by decide +kernel
theorem dX13_puts_27 : decode cX13_puts 27 = .ok (.ireturn, 1) := by decide +kernel
theorem dX13_puts_28 : decode cX13_puts 28 = .ok (.aload_n 0, 1) := by decide +kernel
theorem dX13_puts_29 : decode cX13_puts 29 = .ok (.iconst 0, 1) := by decide +kernel
theorem dX13_puts_30 : decode cX13_puts 30 = .ok (.putfield 177, 3) := by decide +kernel
theorem dX13_puts_33 : decode cX13_puts 33 = .ok (.iconst 0, 1) := by decide +kernel
theorem dX13_puts_34 : decode cX13_puts 34 = .ok (.istore 4, 2) := by decide +kernel
theorem dX13_puts_36 : decode cX13_puts 36 = .ok (.iload 4, 2) := by decide +kernel
theorem dX13_puts_38 : decode cX13_puts 38 = .ok (.aload_n 0, 1) := by decide +kernel
theorem dX13_puts_39 : decode cX13_puts 39 = .ok (.getfield 140, 3) := by decide +kernel
theorem dX13_puts_42 : decode cX13_puts 42 = .ok (.if_icmp .ge 52, 3) := by decide +kernel
theorem dX13_puts_45 : decode cX13_puts 45 = .ok (.aload_n 0, 1) := by decide +kernel
theorem dX13_puts_46 : decode cX13_puts 46 = .ok (.getfield 58, 3) := by decide +kernel
theorem dX13_puts_49 : decode cX13_puts 49 = .ok (.aload_n 0, 1) := by decide +kernel
theorem dX13_puts_50 : decode cX13_puts 50 = .ok (.getfield 137, 3) := by decide +kernel
theorem dX13_puts_53 : decode cX13_puts 53 = .ok (.iload 4, 2) := by decide +kernel
theorem dX13_puts_55 : decode cX13_puts 55 = .ok (.iadd, 1) := by decide +kernel
theorem dX13_puts_56 : decode cX13_puts 56 = .ok (.iaload, 1) := by decide +kernel
theorem dX13_puts_57 : decode cX13_puts 57 = .ok (.istore 5, 2) := by decide +kernel
theorem dX13_puts_59 : decode cX13_puts 59 = .ok (.aload_n 0, 1) := by decide +kernel
theorem dX13_puts_60 : decode cX13_puts 60 = .ok (.iload 5, 2) := by decide +kernel
theorem dX13_puts_62 : decode cX13_puts 62 = .ok (.invokevirtual 171, 3) := by decide +kernel
theorem dX13_puts_65 : decode cX13_puts 65 = .ok (.iconst (-1), 1) := by decide +kernel
theorem dX13_puts_66 : decode cX13_puts 66 = .ok (.if_icmp .ne 6, 3) := by decide +kernel
theorem dX13_puts_69 : decode cX13_puts 69 = .ok (.goto 19, 3) := by decide +kernel
theorem dX13_puts_72 : decode cX13_puts 72 = .ok (.aload_n 0, 1) := by decide +kernel
theorem dX13_puts_73 : decode cX13_puts 73 = .ok (.iload 5, 2) := by decide +kernel
theorem dX13_puts_75 : decode cX13_puts 75 = .ok (.aload_n 0, 1) := by decide +kernel
theorem dX13_puts_76 : decode cX13_puts 76 = .ok (.iload 5, 2) := by decide +kernel
theorem dX13_puts_78 : decode cX13_puts 78 = .ok (.invokevirtual 171, 3) := by decide +kernel
theorem dX13_puts_81 : decode cX13_puts 81 = .ok (.lload_n 1, 1) := by decide +kernel
theorem dX13_puts_82 : decode cX13_puts 82 = .ok (.iload_n 3, 1) := by decide +kernel
theorem dX13_puts_83 : decode cX13_puts 83 = .ok (.invokevirtual 180, 3) := by decide +kernel
theorem dX13_puts_86 : decode cX13_puts 86 = .ok (.iconst 0, 1) := by decide +kernel
theorem dX13_puts_87 : decode cX13_puts 87 = .ok (.ireturn, 1) := by decide +kernel
theorem dX13_puts_88 : decode cX13_puts 88 = .ok (.iinc 4 1, 3) := by decide +kernel
theorem dX13_puts_91 : decode cX13_puts 91 = .ok (.goto (-55), 3) := by decide +kernel
theorem dX13_puts_94 : decode cX13_puts 94 = .ok (.aload_n 0, 1) := by decide +kernel
theorem dX13_puts_95 : decode cX13_puts 95 = .ok (.aload_n 0, 1) := by decide +kernel
theorem dX13_puts_96 : decode cX13_puts 96 = .ok (.getfield 58, 3) := by decide +kernel
theorem dX13_puts_99 : decode cX13_puts 99 = .ok (.aload_n 0, 1) := by decide +kernel
theorem dX13_puts_100 : decode cX13_puts 100 = .ok (.getfield 137, 3) := by decide +kernel
theorem dX13_puts_103 : decode cX13_puts 103 = .ok (.iaload, 1) := by decide +kernel
theorem dX13_puts_104 : decode cX13_puts 104 = .ok (.lload_n 1, 1) := by decide +kernel
theorem dX13_puts_105 : decode cX13_puts 105 = .ok (.iload_n 3, 1) := by decide +kernel
theorem dX13_puts_106 : decode cX13_puts 106 = .ok (.invokevirtual 222, 3) := by decide +kernel
theorem dX13_puts_109 : decode cX13_puts 109 = .ok (.iconst 0, 1) := by decide +kernel
theorem dX13_puts_110 : decode cX13_puts 110 = .ok (.ireturn, 1) := by decide +kernel
theorem dX13_put0_0 : decode cX13_put0 0 = .ok (.aload_n 0, 1) := by decide +kernel
theorem dX13_put0_1 : decode cX13_put0 1 = .ok (.iconst 0, 1) := by decide +kernel
theorem dX13_put0_2 : decode cX13_put0 2 = .ok (.putfield 177, 3) := by decide +kernel
theorem dX13_put0_5 : decode cX13_put0 5 = .ok (.aload_n 0, 1) := by decide +kernel
theorem dX13_put0_6 : decode cX13_put0 6 = .ok (.lload_n 1, 1) := by decide +kernel
theorem dX13_put0_7 : decode cX13_put0 7 = .ok (.invokevirtual 226, 3) := by decide +kernel
theorem dX13_put0_10 : decode cX13_put0 10 = .ok (.ifCond .eq 7, 3) := by decide +kernel
theorem dX13_put0_13 : decode cX13_put0 13 = .ok (.iconst 1, 1) := by decide +kernel
theorem dX13_put0_14 : decode cX13_put0 14 = .ok (.goto 9, 3) := by decide +kernel
theorem dX13_put0_17 : decode cX13_put0 17 = .ok (.aload_n 0, 1) := by decide +kernel
theorem dX13_put0_18 : decode cX13_put0 18 = .ok (.lload_n 1, 1) := by decide +kernel
theorem dX13_put0_19 : decode cX13_put0 19 = .ok (.iload_n 3, 1) := by decide +kernel
theorem dX13_put0_20 : decode cX13_put0 20 = .ok (.invokevirtual 230, 3) := by decide +kernel
theorem dX13_put0_23 : decode cX13_put0 23 = .ok (.ireturn, 1) := by decide +kernel
theorem dX13_cut0_0 : decode cX13_cut0 0 = .ok (.aload_n 0, 1) := by decide +kernel
theorem dX13_cut0_1 : decode cX13_cut0 1 = .ok (.lload_n 1, 1) := by decide +kernel
theorem dX13_cut0_2 : decode cX13_cut0 2 = .ok (.invokevirtual 226, 3) := by decide +kernel
theorem dX13_cut0_5 : decode cX13_cut0 5 = .ok (.ifCond .ne 5, 3) := by decide +kernel
theorem dX13_cut0_8 : decode cX13_cut0 8 = .ok (.iconst 4, 1) := by decide +kernel
theorem dX13_cut0_9 : decode cX13_cut0 9 = .ok (.ireturn, 1) := by decide +kernel
theorem dX13_cut0_10 : decode cX13_cut0 10 = .ok (.aload_n 0, 1) := by decide +kernel
theorem dX13_cut0_11 : decode cX13_cut0 11 = .ok (.aload_n 0, 1) := by decide +kernel
theorem dX13_cut0_12 : decode cX13_cut0 12 = .ok (.getfield 150, 3) := by decide +kernel
theorem dX13_cut0_15 : decode cX13_cut0 15 = .ok (.aload_n 0, 1) := by decide +kernel
theorem dX13_cut0_16 : decode cX13_cut0 16 = .ok (.getfield 153, 3) := by decide +kernel
theorem dX13_cut0_19 : decode cX13_cut0 19 = .ok (.lconst 0, 1) := by decide +kernel
theorem dX13_cut0_20 : decode cX13_cut0 20 = .ok (.iconst (-1), 1) := by decide +kernel
theorem dX13_cut0_21 : decode cX13_cut0 21 = .ok (.invokevirtual 180, 3) := by decide +kernel
theorem dX13_cut0_24 : decode cX13_cut0 24 = .ok (.iconst 0, 1) := by decide +kernel
theorem dX13_cut0_25 : decode cX13_cut0 25 = .ok (.ireturn, 1) := by decide +kernel
theorem dX13_turn0_0 : decode cX13_turn0 0 = .ok (.aload_n 0, 1) := by decide +kernel
theorem dX13_turn0_1 : decode cX13_turn0 1 = .ok (.lload_n 1, 1) := by decide +kernel
theorem dX13_turn0_2 : decode cX13_turn0 2 = .ok (.invokevirtual 226, 3) := by decide +kernel
theorem dX13_turn0_5 : decode cX13_turn0 5 = .ok (.ifCond .ne 5, 3) := by decide +kernel
theorem dX13_turn0_8 : decode cX13_turn0 8 = .ok (.iconst 4, 1) := by decide +kernel
theorem dX13_turn0_9 : decode cX13_turn0 9 = .ok (.ireturn, 1) := by decide +kernel
