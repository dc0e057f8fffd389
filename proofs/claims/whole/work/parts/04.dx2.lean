theorem dX10_actNumber_0 : decode cX10_actNumber 0 = .ok (.iconst 0, 1) := by decide +kernel
theorem dX10_actNumber_1 : decode cX10_actNumber 1 = .ok (.istore_n 3, 1) := by decide +kernel
theorem dX10_actNumber_2 : decode cX10_actNumber 2 = .ok (.iload_n 3, 1) := by decide +kernel
theorem dX10_actNumber_3 : decode cX10_actNumber 3 = .ok (.getstatic 73, 3) := by decide +kernel
theorem dX10_actNumber_6 : decode cX10_actNumber 6 = .ok (.arraylength, 1) := by decide +kernel
theorem dX10_actNumber_7 : decode cX10_actNumber 7 = .ok (.if_icmp .ge 28, 3) := by decide +kernel
theorem dX10_actNumber_10 : decode cX10_actNumber 10 = .ok (.aload_n 0, 1) := by decide +kernel
theorem dX10_actNumber_11 : decode cX10_actNumber 11 = .ok (.getstatic 73, 3) := by decide +kernel
theorem dX10_actNumber_14 : decode cX10_actNumber 14 = .ok (.iload_n 3, 1) := by decide +kernel
theorem dX10_actNumber_15 : decode cX10_actNumber 15 = .ok (.aaload, 1) := by decide +kernel
theorem dX10_actNumber_16 : decode cX10_actNumber 16 = .ok (.getfield 96, 3) := by decide +kernel
theorem dX10_actNumber_19 : decode cX10_actNumber 19 = .ok (.iload_n 1, 1) := by decide +kernel
theorem dX10_actNumber_20 : decode cX10_actNumber 20 = .ok (.iload_n 2, 1) := by decide +kernel
theorem dX10_actNumber_21 : decode cX10_actNumber 21 = .ok (.invokevirtual 100, 3) := by decide +kernel
theorem dX10_actNumber_24 : decode cX10_actNumber 24 = .ok (.ifCond .eq 5, 3) := by decide +kernel
theorem dX10_actNumber_27 : decode cX10_actNumber 27 = .ok (.iload_n 3, 1) := by decide +kernel
theorem dX10_actNumber_28 : decode cX10_actNumber 28 = .ok (.ireturn, 1) := by decide +kernel
theorem dX10_actNumber_29 : decode cX10_actNumber 29 = .ok (.iinc 3 1, 3) := by decide +kernel
theorem dX10_actNumber_32 : decode cX10_actNumber 32 = .ok (.goto (-30), 3) := by decide +kernel
theorem dX10_actNumber_35 : decode cX10_actNumber 35 = .ok (.iconst (-1), 1) := by decide +kernel
theorem dX10_actNumber_36 : decode cX10_actNumber 36 = .ok (.ireturn, 1) := by decide +kernel
theorem dX10_isWord_0 : decode cX10_isWord 0 = .ok (.iload_n 3, 1) := by decide +kernel
theorem dX10_isWord_1 : decode cX10_isWord 1 = .ok (.aload_n 1, 1) := by decide +kernel
theorem dX10_isWord_2 : decode cX10_isWord 2 = .ok (.invokevirtual 104, 3) := by decide +kernel
theorem dX10_isWord_5 : decode cX10_isWord 5 = .ok (.if_icmp .eq 5, 3) := by decide +kernel
theorem dX10_isWord_8 : decode cX10_isWord 8 = .ok (.iconst 0, 1) := by decide +kernel
theorem dX10_isWord_9 : decode cX10_isWord 9 = .ok (.ireturn, 1) := by decide +kernel
theorem dX10_isWord_10 : decode cX10_isWord 10 = .ok (.iconst 0, 1) := by decide +kernel
theorem dX10_isWord_11 : decode cX10_isWord 11 = .ok (.istore 4, 2) := by decide +kernel
theorem dX10_isWord_13 : decode cX10_isWord 13 = .ok (.iload 4, 2) := by decide +kernel
theorem dX10_isWord_15 : decode cX10_isWord 15 = .ok (.iload_n 3, 1) := by decide +kernel
theorem dX10_isWord_16 : decode cX10_isWord 16 = .ok (.if_icmp .ge 28, 3) := by decide +kernel
theorem dX10_isWord_19 : decode cX10_isWord 19 = .ok (.aload_n 1, 1) := by decide +kernel
theorem dX10_isWord_20 : decode cX10_isWord 20 = .ok (.iload 4, 2) := by decide +kernel
theorem dX10_isWord_22 : decode cX10_isWord 22 = .ok (.invokevirtual 108, 3) := by decide +kernel
theorem dX10_isWord_25 : decode cX10_isWord 25 = .ok (.aload_n 0, 1) := by decide +kernel
theorem dX10_isWord_26 : decode cX10_isWord 26 = .ok (.iload_n 2, 1) := by decide +kernel
theorem dX10_isWord_27 : decode cX10_isWord 27 = .ok (.iload 4, 2) := by decide +kernel
theorem dX10_isWord_29 : decode cX10_isWord 29 = .ok (.iadd, 1) := by decide +kernel
theorem dX10_isWord_30 : decode cX10_isWord 30 = .ok (.invokevirtual 47, 3) := by decide +kernel
theorem dX10_isWord_33 : decode cX10_isWord 33 = .ok (.if_icmp .eq 5, 3) := by decide +kernel
theorem dX10_isWord_36 : decode cX10_isWord 36 = .ok (.iconst 0, 1) := by decide +kernel
theorem dX10_isWord_37 : decode cX10_isWord 37 = .ok (.ireturn, 1) := by decide +kernel
theorem dX10_isWord_38 : decode cX10_isWord 38 = .ok (.iinc 4 1, 3) := by decide +kernel
theorem dX10_isWord_41 : decode cX10_isWord 41 = .ok (.goto (-28), 3) := by decide +kernel
theorem dX10_isWord_44 : decode cX10_isWord 44 = .ok (.iconst 1, 1) := by decide +kernel
theorem dX10_isWord_45 : decode cX10_isWord 45 = .ok (.ireturn, 1) := by decide +kernel
theorem dX10_passLetters_0 : decode cX10_passLetters 0 = .ok (.aload_n 0, 1) := by decide +kernel
theorem dX10_passLetters_1 : decode cX10_passLetters 1 = .ok (.getfield 15, 3) := by decide +kernel
theorem dX10_passLetters_4 : decode cX10_passLetters 4 = .ok (.istore_n 1, 1) := by decide +kernel
theorem dX10_passLetters_5 : decode cX10_passLetters 5 = .ok (.iload_n 1, 1) := by decide +kernel
theorem dX10_passLetters_6 : decode cX10_passLetters 6 = .ok (.istore_n 2, 1) := by decide +kernel
theorem dX10_passLetters_7 : decode cX10_passLetters 7 = .ok (.iload_n 2, 1) := by decide +kernel
theorem dX10_passLetters_8 : decode cX10_passLetters 8 = .ok (.aload_n 0, 1) := by decide +kernel
theorem dX10_passLetters_9 : decode cX10_passLetters 9 = .ok (.getfield 9, 3) := by decide +kernel
theorem dX10_passLetters_12 : decode cX10_passLetters 12 = .ok (.if_icmp .ge 27, 3) := by decide +kernel
theorem dX10_passLetters_15 : decode cX10_passLetters 15 = .ok (.aload_n 0, 1) := by decide +kernel
theorem dX10_passLetters_16 : decode cX10_passLetters 16 = .ok (.iload_n 2, 1) := by decide +kernel
theorem dX10_passLetters_17 : decode cX10_passLetters 17 = .ok (.invokevirtual 47, 3) := by decide +kernel
theorem dX10_passLetters_20 : decode cX10_passLetters 20 = .ok (.invokestatic 112, 3) := by decide +kernel
theorem dX10_passLetters_23 : decode cX10_passLetters 23 = .ok (.ifCond .eq 16, 3) := by decide +kernel
theorem dX10_passLetters_26 : decode cX10_passLetters 26 = .ok (.aload_n 0, 1) := by decide +kernel
theorem dX10_passLetters_27 : decode cX10_passLetters 27 = .ok (.iload_n 2, 1) := by decide +kernel
theorem dX10_passLetters_28 : decode cX10_passLetters 28 = .ok (.iconst 1, 1) := by decide +kernel
theorem dX10_passLetters_29 : decode cX10_passLetters 29 = .ok (.iadd, 1) := by decide +kernel
theorem dX10_passLetters_30 : decode cX10_passLetters 30 = .ok (.putfield 15, 3) := by decide +kernel
theorem dX10_passLetters_33 : decode cX10_passLetters 33 = .ok (.iinc 2 1, 3) := by decide +kernel
theorem dX10_passLetters_36 : decode cX10_passLetters 36 = .ok (.goto (-29), 3) := by decide +kernel
theorem dX10_passLetters_39 : decode cX10_passLetters 39 = .ok (.aload_n 0, 1) := by decide +kernel
theorem dX10_passLetters_40 : decode cX10_passLetters 40 = .ok (.getfield 15, 3) := by decide +kernel
theorem dX10_passLetters_43 : decode cX10_passLetters 43 = .ok (.iload_n 1, 1) := by decide +kernel
theorem dX10_passLetters_44 : decode cX10_passLetters 44 = .ok (.isub, 1) := by decide +kernel
theorem dX10_passLetters_45 : decode cX10_passLetters 45 = .ok (.ireturn, 1) := by decide +kernel
theorem dX10_passDigits_0 : decode cX10_passDigits 0 = .ok (.aload_n 0, 1) := by decide +kernel
theorem dX10_passDigits_1 : decode cX10_passDigits 1 = .ok (.getfield 15, 3) := by decide +kernel
theorem dX10_passDigits_4 : decode cX10_passDigits 4 = .ok (.istore_n 1, 1) := by decide +kernel
theorem dX10_passDigits_5 : decode cX10_passDigits 5 = .ok (.iload_n 1, 1) := by decide +kernel
theorem dX10_passDigits_6 : decode cX10_passDigits 6 = .ok (.istore_n 2, 1) := by decide +kernel
theorem dX10_passDigits_7 : decode cX10_passDigits 7 = .ok (.iload_n 2, 1) := by decide +kernel
theorem dX10_passDigits_8 : decode cX10_passDigits 8 = .ok (.aload_n 0, 1) := by decide +kernel
theorem dX10_passDigits_9 : decode cX10_passDigits 9 = .ok (.getfield 9, 3) := by decide +kernel
theorem dX10_passDigits_12 : decode cX10_passDigits 12 = .ok (.if_icmp .ge 27, 3) := by decide +kernel
theorem dX10_passDigits_15 : decode cX10_passDigits 15 = .ok (.aload_n 0, 1) := by decide +kernel
theorem dX10_passDigits_16 : decode cX10_passDigits 16 = .ok (.iload_n 2, 1) := by decide +kernel
theorem dX10_passDigits_17 : decode cX10_passDigits 17 = .ok (.invokevirtual 47, 3) := by decide +kernel
theorem dX10_passDigits_20 : decode cX10_passDigits 20 = .ok (.invokestatic 116, 3) := by decide +kernel
theorem dX10_passDigits_23 : decode cX10_passDigits 23 = .ok (.ifCond .eq 16, 3) := by decide +kernel
theorem dX10_passDigits_26 : decode cX10_passDigits 26 = .ok (.aload_n 0, 1) := by decide +kernel
theorem dX10_passDigits_27 : decode cX10_passDigits 27 = .ok (.iload_n 2, 1) := by decide +kernel
theorem dX10_passDigits_28 : decode cX10_passDigits 28 = .ok (.iconst 1, 1) := by decide +kernel
theorem dX10_passDigits_29 : decode cX10_passDigits 29 = .ok (.iadd, 1) := by decide +kernel
theorem dX10_passDigits_30 : decode cX10_passDigits 30 = .ok (.putfield 15, 3) := by decide +kernel
theorem dX10_passDigits_33 : decode cX10_passDigits 33 = .ok (.iinc 2 1, 3) := by decide +kernel
theorem dX10_passDigits_36 : decode cX10_passDigits 36 = .ok (.goto (-29), 3) := by decide +kernel
theorem dX10_passDigits_39 : decode cX10_passDigits 39 = .ok (.aload_n 0, 1) := by decide +kernel
theorem dX10_passDigits_40 : decode cX10_passDigits 40 = .ok (.getfield 15, 3) := by decide +kernel
theorem dX10_passDigits_43 : decode cX10_passDigits 43 = .ok (.iload_n 1, 1) := by decide +kernel
theorem dX10_passDigits_44 : decode cX10_passDigits 44 = .ok (.isub, 1) := by decide +kernel
theorem dX10_passDigits_45 : decode cX10_passDigits 45 = .ok (.ireturn, 1) := by decide +kernel
theorem dX10_byteAt_0 : decode cX10_byteAt 0 = .ok (.iload_n 1, 1) := by decide +kernel
theorem dX10_byteAt_1 : decode cX10_byteAt 1 = .ok (.ifCond .lt 22, 3) := by decide +kernel
theorem dX10_byteAt_4 : decode cX10_byteAt 4 = .ok (.iload_n 1, 1) := by decide +kernel
theorem dX10_byteAt_5 : decode cX10_byteAt 5 = .ok (.sipush 400, 3) := by decide +kernel
theorem dX10_byteAt_8 : decode cX10_byteAt 8 = .ok (.if_icmp .ge 15, 3) := by decide +kernel
theorem dX10_byteAt_11 : decode cX10_byteAt 11 = .ok (.aload_n 0, 1) := by decide +kernel
theorem dX10_byteAt_12 : decode cX10_byteAt 12 = .ok (.getfield 43, 3) := by decide +kernel
theorem dX10_byteAt_15 : decode cX10_byteAt 15 = .ok (.getfield 119, 3) := by decide +kernel
theorem dX10_byteAt_18 : decode cX10_byteAt 18 = .ok (.iload_n 1, 1) := by decide +kernel
theorem dX10_byteAt_19 : decode cX10_byteAt 19 = .ok (.iaload, 1) := by decide +kernel
theorem dX10_byteAt_20 : decode cX10_byteAt 20 = .ok (.goto 4, 3) := by decide +kernel
theorem dX10_byteAt_23 : decode cX10_byteAt 23 = .ok (.iconst 0, 1) := by decide +kernel
theorem dX10_byteAt_24 : decode cX10_byteAt 24 = .ok (.ireturn, 1) := by decide +kernel
theorem dX10_isLetter_0 : decode cX10_isLetter 0 = .ok (.iload_n 0, 1) := by decide +kernel
theorem dX10_isLetter_1 : decode cX10_isLetter 1 = .ok (.bipush 65, 2) := by decide +kernel
theorem dX10_isLetter_3 : decode cX10_isLetter 3 = .ok (.if_icmp .lt 9, 3) := by decide +kernel
theorem dX10_isLetter_6 : decode cX10_isLetter 6 = .ok (.iload_n 0, 1) := by decide +kernel
theorem dX10_isLetter_7 : decode cX10_isLetter 7 = .ok (.bipush 90, 2) := by decide +kernel
theorem dX10_isLetter_9 : decode cX10_isLetter 9 = .ok (.if_icmp .le 15, 3) := by decide +kernel
theorem dX10_isLetter_12 : decode cX10_isLetter 12 = .ok (.iload_n 0, 1) := by decide +kernel
theorem dX10_isLetter_13 : decode cX10_isLetter 13 = .ok (.bipush 97, 2) := by decide +kernel
theorem dX10_isLetter_15 : decode cX10_isLetter 15 = .ok (.if_icmp .lt 13, 3) := by decide +kernel
theorem dX10_isLetter_18 : decode cX10_isLetter 18 = .ok (.iload_n 0, 1) := by decide +kernel
theorem dX10_isLetter_19 : decode cX10_isLetter 19 = .ok (.bipush 122, 2) := by decide +kernel
theorem dX10_isLetter_21 : decode cX10_isLetter 21 = .ok (.if_icmp .gt 7, 3) := by decide +kernel
theorem dX10_isLetter_24 : decode cX10_isLetter 24 = .ok (.iconst 1, 1) := by decide +kernel
theorem dX10_isLetter_25 : decode cX10_isLetter 25 = .ok (.goto 4, 3) := by decide +kernel
theorem dX10_isLetter_28 : decode cX10_isLetter 28 = .ok (.iconst 0, 1) := by decide +kernel
theorem dX10_isLetter_29 : decode cX10_isLetter 29 = .ok (.ireturn, 1) := by decide +kernel
theorem dX10_isDigit_0 : decode cX10_isDigit 0 = .ok (.iload_n 0, 1) := by decide +kernel
theorem dX10_isDigit_1 : decode cX10_isDigit 1 = .ok (.bipush 48, 2) := by decide +kernel
theorem dX10_isDigit_3 : decode cX10_isDigit 3 = .ok (.if_icmp .lt 13, 3) := by decide +kernel
theorem dX10_isDigit_6 : decode cX10_isDigit 6 = .ok (.iload_n 0, 1) := by decide +kernel
theorem dX10_isDigit_7 : decode cX10_isDigit 7 = .ok (.bipush 57, 2) := by decide +kernel
theorem dX10_isDigit_9 : decode cX10_isDigit 9 = .ok (.if_icmp .gt 7, 3) := by decide +kernel
theorem dX10_isDigit_12 : decode cX10_isDigit 12 = .ok (.iconst 1, 1) := by decide +kernel
theorem dX10_isDigit_13 : decode cX10_isDigit 13 = .ok (.goto 4, 3) := by decide +kernel
theorem dX10_isDigit_16 : decode cX10_isDigit 16 = .ok (.iconst 0, 1) := by decide +kernel
theorem dX10_isDigit_17 : decode cX10_isDigit 17 = .ok (.ireturn, 1) := by decide +kernel
theorem dX11_init_0 : decode cX11_init 0 = .ok (.aload_n 0, 1) := by decide +kernel
theorem dX11_init_1 : decode cX11_init 1 = .ok (.invokespecial 3, 3) := by decide +kernel
theorem dX11_init_4 : decode cX11_init 4 = .ok (.aload_n 0, 1) := by decide +kernel
theorem dX11_init_5 : decode cX11_init 5 = .ok (.bipush 42, 2) := by decide +kernel
theorem dX11_init_7 : decode cX11_init 7 = .ok (.newarray .int, 2) := by decide +kernel
theorem dX11_init_9 : decode cX11_init 9 = .ok (.putfield 9, 3) := by decide +kernel
theorem dX11_init_12 : decode cX11_init 12 = .ok (.aload_n 0, 1) := by decide +kernel
theorem dX11_init_13 : decode cX11_init 13 = .ok (.iconst 2, 1) := by decide +kernel
theorem dX11_init_14 : decode cX11_init 14 = .ok (.newarray .int, 2) := by decide +kernel
theorem dX11_init_16 : decode cX11_init 16 = .ok (.putfield 15, 3) := by decide +kernel
theorem dX11_init_19 : decode cX11_init 19 = .ok (.aload_n 0, 1) := by decide +kernel
theorem dX11_init_20 : decode cX11_init 20 = .ok (.iconst 0, 1) := by decide +kernel
theorem dX11_init_21 : decode cX11_init 21 = .ok (.putfield 18, 3) := by decide +kernel
theorem dX11_init_24 : decode cX11_init 24 = .ok (.aload_n 0, 1) := by decide +kernel
theorem dX11_init_25 : decode cX11_init 25 = .ok (.iconst 0, 1) := by decide +kernel
theorem dX11_init_26 : decode cX11_init 26 = .ok (.putfield 22, 3) := by decide +kernel
theorem dX11_init_29 : decode cX11_init 29 = .ok (.return_, 1) := by decide +kernel
theorem dX11_trace_0 : decode cX11_trace 0 = .ok (.aload_n 0, 1) := by decide +kernel
theorem dX11_trace_1 : decode cX11_trace 1 = .ok (.aload_n 1, 1) := by decide +kernel
theorem dX11_trace_2 : decode cX11_trace 2 = .ok (.getfield 25, 3) := by decide +kernel
theorem dX11_trace_5 : decode cX11_trace 5 = .ok (.iconst 2, 1) := by decide +kernel
theorem dX11_trace_6 : decode cX11_trace 6 = .ok (.invokestatic 30, 3) := by decide +kernel
theorem dX11_trace_9 : decode cX11_trace 9 = .ok (.putfield 18, 3) := by decide +kernel
theorem dX11_trace_12 : decode cX11_trace 12 = .ok (.iconst 0, 1) := by decide +kernel
theorem dX11_trace_13 : decode cX11_trace 13 = .ok (.istore 4, 2) := by decide +kernel
theorem dX11_trace_15 : decode cX11_trace 15 = .ok (.iconst 0, 1) := by decide +kernel
theorem dX11_trace_16 : decode cX11_trace 16 = .ok (.istore 5, 2) := by decide +kernel
theorem dX11_trace_18 : decode cX11_trace 18 = .ok (.iload 5, 2) := by decide +kernel
theorem dX11_trace_20 : decode cX11_trace 20 = .ok (.aload_n 0, 1) := by decide +kernel
theorem dX11_trace_21 : decode cX11_trace 21 = .ok (.getfield 18, 3) := by decide +kernel
theorem dX11_trace_24 : decode cX11_trace 24 = .ok (.if_icmp .ge 52, 3) := by decide +kernel
theorem dX11_trace_27 : decode cX11_trace 27 = .ok (.aload_n 0, 1) := by decide +kernel
theorem dX11_trace_28 : decode cX11_trace 28 = .ok (.getfield 9, 3) := by decide +kernel
theorem dX11_trace_31 : decode cX11_trace 31 = .ok (.iload 5, 2) := by decide +kernel
theorem dX11_trace_33 : decode cX11_trace 33 = .ok (.iload 4, 2) := by decide +kernel
theorem dX11_trace_35 : decode cX11_trace 35 = .ok (.iastore, 1) := by decide +kernel
theorem dX11_trace_36 : decode cX11_trace 36 = .ok (.aload_n 0, 1) := by decide +kernel
theorem dX11_trace_37 : decode cX11_trace 37 = .ok (.getfield 15, 3) := by decide +kernel
theorem dX11_trace_40 : decode cX11_trace 40 = .ok (.iload 5, 2) := by decide +kernel
theorem dX11_trace_42 : decode cX11_trace 42 = .ok (.aload_n 1, 1) := by decide +kernel
theorem dX11_trace_43 : decode cX11_trace 43 = .ok (.iload 4, 2) := by decide +kernel
theorem dX11_trace_45 : decode cX11_trace 45 = .ok (.iload_n 3, 1) := by decide +kernel
theorem dX11_trace_46 : decode cX11_trace 46 = .ok (.invokestatic 36, 3) := by decide +kernel
theorem dX11_trace_49 : decode cX11_trace 49 = .ok (.iastore, 1) := by decide +kernel
theorem dX11_trace_50 : decode cX11_trace 50 = .ok (.aload_n 1, 1) := by decide +kernel
theorem dX11_trace_51 : decode cX11_trace 51 = .ok (.getfield 40, 3) := by decide +kernel
theorem dX11_trace_54 : decode cX11_trace 54 = .ok (.iload 4, 2) := by decide +kernel
theorem dX11_trace_56 : decode cX11_trace 56 = .ok (.bipush 6, 2) := by decide +kernel
theorem dX11_trace_58 : decode cX11_trace 58 = .ok (.imul, 1) := by decide +kernel
theorem dX11_trace_59 : decode cX11_trace 59 = .ok (.aload_n 0, 1) := by decide +kernel
theorem dX11_trace_60 : decode cX11_trace 60 = .ok (.getfield 15, 3) := by decide +kernel
theorem dX11_trace_63 : decode cX11_trace 63 = .ok (.iload 5, 2) := by decide +kernel
theorem dX11_trace_65 : decode cX11_trace 65 = .ok (.iaload, 1) := by decide +kernel
theorem dX11_trace_66 : decode cX11_trace 66 = .ok (.iadd, 1) := by decide +kernel
theorem dX11_trace_67 : decode cX11_trace 67 = .ok (.iaload, 1) := by decide +kernel
theorem dX11_trace_68 : decode cX11_trace 68 = .ok (.istore 4, 2) := by decide +kernel
theorem dX11_trace_70 : decode cX11_trace 70 = .ok (.iinc 5 1, 3) := by decide +kernel
theorem dX11_trace_73 : decode cX11_trace 73 = .ok (.goto (-55), 3) := by decide +kernel
theorem dX11_trace_76 : decode cX11_trace 76 = .ok (.aload_n 0, 1) := by decide +kernel
theorem dX11_trace_77 : decode cX11_trace 77 = .ok (.getfield 9, 3) := by decide +kernel
theorem dX11_trace_80 : decode cX11_trace 80 = .ok (.aload_n 0, 1) := by decide +kernel
theorem dX11_trace_81 : decode cX11_trace 81 = .ok (.getfield 18, 3) := by decide +kernel
theorem dX11_trace_84 : decode cX11_trace 84 = .ok (.iload 4, 2) := by decide +kernel
theorem dX11_trace_86 : decode cX11_trace 86 = .ok (.iastore, 1) := by decide +kernel
theorem dX11_trace_87 : decode cX11_trace 87 = .ok (.aload_n 0, 1) := by decide +kernel
theorem dX11_trace_88 : decode cX11_trace 88 = .ok (.aload_n 0, 1) := by decide +kernel
theorem dX11_trace_89 : decode cX11_trace 89 = .ok (.getfield 18, 3) := by decide +kernel
theorem dX11_trace_92 : decode cX11_trace 92 = .ok (.iconst 1, 1) := by decide +kernel
theorem dX11_trace_93 : decode cX11_trace 93 = .ok (.iadd, 1) := by decide +kernel
theorem dX11_trace_94 : decode cX11_trace 94 = .ok (.putfield 22, 3) := by decide +kernel
theorem dX11_trace_97 : decode cX11_trace 97 = .ok (.aload_n 2, 1) := by decide +kernel
theorem dX11_trace_98 : decode cX11_trace 98 = .ok (.iload 4, 2) := by decide +kernel
theorem dX11_trace_100 : decode cX11_trace 100 = .ok (.invokevirtual 43, 3) := by decide +kernel
theorem dX11_trace_103 : decode cX11_trace 103 = .ok (.iconst 1, 1) := by decide +kernel
theorem dX11_trace_104 : decode cX11_trace 104 = .ok (.iadd, 1) := by decide +kernel
theorem dX11_trace_105 : decode cX11_trace 105 = .ok (.istore 5, 2) := by decide +kernel
theorem dX11_trace_107 : decode cX11_trace 107 = .ok (.iload 5, 2) := by decide +kernel
theorem dX11_trace_109 : decode cX11_trace 109 = .ok (.istore 6, 2) := by decide +kernel
theorem dX11_trace_111 : decode cX11_trace 111 = .ok (.iload 6, 2) := by decide +kernel
theorem dX11_trace_113 : decode cX11_trace 113 = .ok (.aload_n 2, 1) := by decide +kernel
theorem dX11_trace_114 : decode cX11_trace 114 = .ok (.getfield 49, 3) := by decide +kernel
theorem dX11_trace_117 : decode cX11_trace 117 = .ok (.if_icmp .ge 45, 3) := by decide +kernel
theorem dX11_trace_120 : decode cX11_trace 120 = .ok (.aload_n 2, 1) := by decide +kernel
theorem dX11_trace_121 : decode cX11_trace 121 = .ok (.iload 6, 2) := by decide +kernel
theorem dX11_trace_123 : decode cX11_trace 123 = .ok (.iload_n 3, 1) := by decide +kernel
theorem dX11_trace_124 : decode cX11_trace 124 = .ok (.invokestatic 50, 3) := by decide +kernel
theorem dX11_trace_127 : decode cX11_trace 127 = .ok (.ifCond .eq 35, 3) := by decide +kernel
theorem dX11_trace_130 : decode cX11_trace 130 = .ok (.aload_n 0, 1) := by decide +kernel
theorem dX11_trace_131 : decode cX11_trace 131 = .ok (.getfield 9, 3) := by decide +kernel
theorem dX11_trace_134 : decode cX11_trace 134 = .ok (.aload_n 0, 1) := by decide +kernel
theorem dX11_trace_135 : decode cX11_trace 135 = .ok (.getfield 22, 3) := by decide +kernel
theorem dX11_trace_138 : decode cX11_trace 138 = .ok (.aload_n 2, 1) := by decide +kernel
theorem dX11_trace_139 : decode cX11_trace 139 = .ok (.getfield 54, 3) := by decide +kernel
theorem dX11_trace_142 : decode cX11_trace 142 = .ok (.iload 6, 2) := by decide +kernel
theorem dX11_trace_144 : decode cX11_trace 144 = .ok (.iaload, 1) := by decide +kernel
theorem dX11_trace_145 : decode cX11_trace 145 = .ok (.iastore, 1) := by decide +kernel
theorem dX11_trace_146 : decode cX11_trace 146 = .ok (.aload_n 0, 1) := by decide +kernel
theorem dX11_trace_147 : decode cX11_trace 147 = .ok (.dup, 1) := by decide +kernel
theorem dX11_trace_148 : decode cX11_trace 148 = .ok (.getfield 22, 3) := by decide +kernel
theorem dX11_trace_151 : decode cX11_trace 151 = .ok (.iconst 1, 1) := by decide +kernel
theorem dX11_trace_152 : decode cX11_trace 152 = .ok (.iadd, 1) := by decide +kernel
theorem dX11_trace_153 : decode cX11_trace 153 = .ok (.putfield 22, 3) := by decide +kernel
theorem dX11_trace_156 : decode cX11_trace 156 = .ok (.iinc 6 1, 3) := by decide +kernel
theorem dX11_trace_159 : decode cX11_trace 159 = .ok (.goto (-48), 3) := by decide +kernel
theorem dX11_trace_162 : decode cX11_trace 162 = .ok (.return_, 1) := by decide +kernel
theorem dX11_firstLeaf_0 : decode cX11_firstLeaf 0 = .ok (.aload_n 0, 1) := by decide +kernel
theorem dX11_firstLeaf_1 : decode cX11_firstLeaf 1 = .ok (.getfield 9, 3) := by decide +kernel
theorem dX11_firstLeaf_4 : decode cX11_firstLeaf 4 = .ok (.aload_n 0, 1) := by decide +kernel
theorem dX11_firstLeaf_5 : decode cX11_firstLeaf 5 = .ok (.getfield 18, 3) := by decide +kernel
theorem dX11_firstLeaf_8 : decode cX11_firstLeaf 8 = .ok (.iaload, 1) := by decide +kernel
theorem dX11_firstLeaf_9 : decode cX11_firstLeaf 9 = .ok (.ireturn, 1) := by decide +kernel
theorem dX11_lowestIndex_0 : decode cX11_lowestIndex 0 = .ok (.aload_n 0, 1) := by decide +kernel
theorem dX11_lowestIndex_1 : decode cX11_lowestIndex 1 = .ok (.getfield 18, 3) := by decide +kernel
theorem dX11_lowestIndex_4 : decode cX11_lowestIndex 4 = .ok (.ifCond .le 17, 3) := by decide +kernel
theorem dX11_lowestIndex_7 : decode cX11_lowestIndex 7 = .ok (.aload_n 0, 1) := by decide +kernel
theorem dX11_lowestIndex_8 : decode cX11_lowestIndex 8 = .ok (.getfield 9, 3) := by decide +kernel
theorem dX11_lowestIndex_11 : decode cX11_lowestIndex 11 = .ok (.aload_n 0, 1) := by decide +kernel
theorem dX11_lowestIndex_12 : decode cX11_lowestIndex 12 = .ok (.getfield 18, 3) := by decide +kernel
theorem dX11_lowestIndex_15 : decode cX11_lowestIndex 15 = .ok (.iconst 1, 1) := by decide +kernel
theorem dX11_lowestIndex_16 : decode cX11_lowestIndex 16 = .ok (.isub, 1) := by decide +kernel
theorem dX11_lowestIndex_17 : decode cX11_lowestIndex 17 = .ok (.iaload, 1) := by decide +kernel
theorem dX11_lowestIndex_18 : decode cX11_lowestIndex 18 = .ok (.goto 4, 3) := by decide +kernel
theorem dX11_lowestIndex_21 : decode cX11_lowestIndex 21 = .ok (.iconst 0, 1) := by decide +kernel
theorem dX11_lowestIndex_22 : decode cX11_lowestIndex 22 = .ok (.ireturn, 1) := by decide +kernel
theorem dX11_blockAt_0 : decode cX11_blockAt 0 = .ok (.iload_n 1, 1) := by decide +kernel
theorem dX11_blockAt_1 : decode cX11_blockAt 1 = .ok (.ifCond .lt 20, 3) := by decide +kernel
theorem dX11_blockAt_4 : decode cX11_blockAt 4 = .ok (.iload_n 1, 1) := by decide +kernel
theorem dX11_blockAt_5 : decode cX11_blockAt 5 = .ok (.aload_n 0, 1) := by decide +kernel
theorem dX11_blockAt_6 : decode cX11_blockAt 6 = .ok (.getfield 22, 3) := by decide +kernel
theorem dX11_blockAt_9 : decode cX11_blockAt 9 = .ok (.if_icmp .ge 12, 3) := by decide +kernel
theorem dX11_blockAt_12 : decode cX11_blockAt 12 = .ok (.aload_n 0, 1) := by decide +kernel
theorem dX11_blockAt_13 : decode cX11_blockAt 13 = .ok (.getfield 9, 3) := by decide +kernel
theorem dX11_blockAt_16 : decode cX11_blockAt 16 = .ok (.iload_n 1, 1) := by decide +kernel
theorem dX11_blockAt_17 : decode cX11_blockAt 17 = .ok (.iaload, 1) := by decide +kernel
theorem dX11_blockAt_18 : decode cX11_blockAt 18 = .ok (.goto 4, 3) := by decide +kernel
theorem dX11_blockAt_21 : decode cX11_blockAt 21 = .ok (.iconst (-1), 1) := by decide +kernel
theorem dX11_blockAt_22 : decode cX11_blockAt 22 = .ok (.ireturn, 1) := by decide +kernel
theorem dX11_goesOn_0 : decode cX11_goesOn 0 = .ok (.aload_n 0, 1) := by decide +kernel
theorem dX11_goesOn_1 : decode cX11_goesOn 1 = .ok (.getfield 57, 3) := by decide +kernel
theorem dX11_goesOn_4 : decode cX11_goesOn 4 = .ok (.iload_n 1, 1) := by decide +kernel
theorem dX11_goesOn_5 : decode cX11_goesOn 5 = .ok (.iaload, 1) := by decide +kernel
theorem dX11_goesOn_6 : decode cX11_goesOn 6 = .ok (.iload_n 2, 1) := by decide +kernel
theorem dX11_goesOn_7 : decode cX11_goesOn 7 = .ok (.if_icmp .ne 17, 3) := by decide +kernel
theorem dX11_goesOn_10 : decode cX11_goesOn 10 = .ok (.aload_n 0, 1) := by decide +kernel
theorem dX11_goesOn_11 : decode cX11_goesOn 11 = .ok (.getfield 60, 3) := by decide +kernel
theorem dX11_goesOn_14 : decode cX11_goesOn 14 = .ok (.iload_n 1, 1) := by decide +kernel
theorem dX11_goesOn_15 : decode cX11_goesOn 15 = .ok (.iaload, 1) := by decide +kernel
theorem dX11_goesOn_16 : decode cX11_goesOn 16 = .ok (.iconst 1, 1) := by decide +kernel
theorem dX11_goesOn_17 : decode cX11_goesOn 17 = .ok (.if_icmp .ne 7, 3) := by decide +kernel
theorem dX11_goesOn_20 : decode cX11_goesOn 20 = .ok (.iconst 1, 1) := by decide +kernel
theorem dX11_goesOn_21 : decode cX11_goesOn 21 = .ok (.goto 4, 3) := by decide +kernel
theorem dX11_goesOn_24 : decode cX11_goesOn 24 = .ok (.iconst 0, 1) := by decide +kernel
theorem dX11_goesOn_25 : decode cX11_goesOn 25 = .ok (.ireturn, 1) := by decide +kernel
theorem dX11_rowFor_0 : decode cX11_rowFor 0 = .ok (.iconst 0, 1) := by decide +kernel
theorem dX11_rowFor_1 : decode cX11_rowFor 1 = .ok (.istore_n 3, 1) := by decide +kernel
theorem dX11_rowFor_2 : decode cX11_rowFor 2 = .ok (.iconst 0, 1) := by decide +kernel
theorem dX11_rowFor_3 : decode cX11_rowFor 3 = .ok (.istore 4, 2) := by decide +kernel
theorem dX11_rowFor_5 : decode cX11_rowFor 5 = .ok (.iload 4, 2) := by decide +kernel
theorem dX11_rowFor_7 : decode cX11_rowFor 7 = .ok (.aload_n 0, 1) := by decide +kernel
theorem dX11_rowFor_8 : decode cX11_rowFor 8 = .ok (.getfield 63, 3) := by decide +kernel
theorem dX11_rowFor_11 : decode cX11_rowFor 11 = .ok (.iload_n 1, 1) := by decide +kernel
theorem dX11_rowFor_12 : decode cX11_rowFor 12 = .ok (.iaload, 1) := by decide +kernel
theorem dX11_rowFor_13 : decode cX11_rowFor 13 = .ok (.if_icmp .ge 52, 3) := by decide +kernel
theorem dX11_rowFor_16 : decode cX11_rowFor 16 = .ok (.iload_n 1, 1) := by decide +kernel
theorem dX11_rowFor_17 : decode cX11_rowFor 17 = .ok (.bipush 6, 2) := by decide +kernel
theorem dX11_rowFor_19 : decode cX11_rowFor 19 = .ok (.imul, 1) := by decide +kernel
theorem dX11_rowFor_20 : decode cX11_rowFor 20 = .ok (.iload 4, 2) := by decide +kernel
theorem dX11_rowFor_22 : decode cX11_rowFor 22 = .ok (.iadd, 1) := by decide +kernel
theorem dX11_rowFor_23 : decode cX11_rowFor 23 = .ok (.istore 5, 2) := by decide +kernel
theorem dX11_rowFor_25 : decode cX11_rowFor 25 = .ok (.aload_n 0, 1) := by decide +kernel
theorem dX11_rowFor_26 : decode cX11_rowFor 26 = .ok (.getfield 66, 3) := by decide +kernel
theorem dX11_rowFor_29 : decode cX11_rowFor 29 = .ok (.iload 5, 2) := by decide +kernel
theorem dX11_rowFor_31 : decode cX11_rowFor 31 = .ok (.iaload, 1) := by decide +kernel
theorem dX11_rowFor_32 : decode cX11_rowFor 32 = .ok (.istore 6, 2) := by decide +kernel
theorem dX11_rowFor_34 : decode cX11_rowFor 34 = .ok (.iload 6, 2) := by decide +kernel
theorem dX11_rowFor_36 : decode cX11_rowFor 36 = .ok (.iload_n 2, 1) := by decide +kernel
theorem dX11_rowFor_37 : decode cX11_rowFor 37 = .ok (.if_icmp .lt 19, 3) := by decide +kernel
theorem dX11_rowFor_40 : decode cX11_rowFor 40 = .ok (.iload 6, 2) := by decide +kernel
theorem dX11_rowFor_42 : decode cX11_rowFor 42 = .ok (.iload_n 2, 1) := by decide +kernel
theorem dX11_rowFor_43 : decode cX11_rowFor 43 = .ok (.if_icmp .ne 16, 3) := by decide +kernel
theorem dX11_rowFor_46 : decode cX11_rowFor 46 = .ok (.aload_n 0, 1) := by decide +kernel
theorem dX11_rowFor_47 : decode cX11_rowFor 47 = .ok (.getfield 67, 3) := by decide +kernel
theorem dX11_rowFor_50 : decode cX11_rowFor 50 = .ok (.iload 5, 2) := by decide +kernel
theorem dX11_rowFor_52 : decode cX11_rowFor 52 = .ok (.iaload, 1) := by decide +kernel
theorem dX11_rowFor_53 : decode cX11_rowFor 53 = .ok (.ifCond .ne 6, 3) := by decide +kernel
theorem dX11_rowFor_56 : decode cX11_rowFor 56 = .ok (.iload 4, 2) := by decide +kernel
theorem dX11_rowFor_58 : decode cX11_rowFor 58 = .ok (.istore_n 3, 1) := by decide +kernel
theorem dX11_rowFor_59 : decode cX11_rowFor 59 = .ok (.iinc 4 1, 3) := by decide +kernel
theorem dX11_rowFor_62 : decode cX11_rowFor 62 = .ok (.goto (-57), 3) := by decide +kernel
theorem dX11_rowFor_65 : decode cX11_rowFor 65 = .ok (.iload_n 3, 1) := by decide +kernel
theorem dX11_rowFor_66 : decode cX11_rowFor 66 = .ok (.ireturn, 1) := by decide +kernel
theorem dX12_init_0 : decode cX12_init 0 = .ok (.aload_n 0, 1) := by decide +kernel
theorem dX12_init_1 : decode cX12_init 1 = .ok (.invokespecial 3, 3) := by decide +kernel
theorem dX12_init_4 : decode cX12_init 4 = .ok (.aload_n 0, 1) := by decide +kernel
theorem dX12_init_5 : decode cX12_init 5 = .ok (.new 9, 3) := by decide +kernel
theorem dX12_init_8 : decode cX12_init 8 = .ok (.dup, 1) := by decide +kernel
theorem dX12_init_9 : decode cX12_init 9 = .ok (.invokespecial 11, 3) := by decide +kernel
theorem dX12_init_12 : decode cX12_init 12 = .ok (.putfield 12, 3) := by decide +kernel
theorem dX12_init_15 : decode cX12_init 15 = .ok (.aload_n 0, 1) := by decide +kernel
theorem dX12_init_16 : decode cX12_init 16 = .ok (.new 16, 3) := by decide +kernel
theorem dX12_init_19 : decode cX12_init 19 = .ok (.dup, 1) := by decide +kernel
theorem dX12_init_20 : decode cX12_init 20 = .ok (.aload_n 0, 1) := by decide +kernel
theorem dX12_init_21 : decode cX12_init 21 = .ok (.getfield 12, 3) := by decide +kernel
theorem dX12_init_24 : decode cX12_init 24 = .ok (.invokespecial 18, 3) := by decide +kernel
theorem dX12_init_27 : decode cX12_init 27 = .ok (.putfield 21, 3) := by decide +kernel
theorem dX12_init_30 : decode cX12_init 30 = .ok (.aload_n 0, 1) := by decide +kernel
theorem dX12_init_31 : decode cX12_init 31 = .ok (.new 25, 3) := by decide +kernel
theorem dX12_init_34 : decode cX12_init 34 = .ok (.dup, 1) := by decide +kernel
theorem dX12_init_35 : decode cX12_init 35 = .ok (.invokespecial 27, 3) := by decide +kernel
theorem dX12_init_38 : decode cX12_init 38 = .ok (.putfield 28, 3) := by decide +kernel
theorem dX12_init_41 : decode cX12_init 41 = .ok (.aload_n 0, 1) := by decide +kernel
theorem dX12_init_42 : decode cX12_init 42 = .ok (.new 25, 3) := by decide +kernel
theorem dX12_init_45 : decode cX12_init 45 = .ok (.dup, 1) := by decide +kernel
theorem dX12_init_46 : decode cX12_init 46 = .ok (.invokespecial 27, 3) := by decide +kernel
theorem dX12_init_49 : decode cX12_init 49 = .ok (.putfield 32, 3) := by decide +kernel
theorem dX12_init_52 : decode cX12_init 52 = .ok (.aload_n 0, 1) := by decide +kernel
theorem dX12_init_53 : decode cX12_init 53 = .ok (.new 25, 3) := by decide +kernel
theorem dX12_init_56 : decode cX12_init 56 = .ok (.dup, 1) := by decide +kernel
theorem dX12_init_57 : decode cX12_init 57 = .ok (.invokespecial 27, 3) := by decide +kernel
theorem dX12_init_60 : decode cX12_init 60 = .ok (.putfield 35, 3) := by decide +kernel
theorem dX12_init_63 : decode cX12_init 63 = .ok (.aload_n 0, 1) := by decide +kernel
theorem dX12_init_64 : decode cX12_init 64 = .ok (.new 38, 3) := by decide +kernel
theorem dX12_init_67 : decode cX12_init 67 = .ok (.dup, 1) := by decide +kernel
theorem dX12_init_68 : decode cX12_init 68 = .ok (.invokespecial 40, 3) := by decide +kernel
theorem dX12_init_71 : decode cX12_init 71 = .ok (.putfield 41, 3) := by decide +kernel
theorem dX12_init_74 : decode cX12_init 74 = .ok (.aload_n 0, 1) := by decide +kernel
theorem dX12_init_75 : decode cX12_init 75 = .ok (.new 45, 3) := by decide +kernel
theorem dX12_init_78 : decode cX12_init 78 = .ok (.dup, 1) := by decide +kernel
theorem dX12_init_79 : decode cX12_init 79 = .ok (.aload_n 0, 1) := by decide +kernel
theorem dX12_init_80 : decode cX12_init 80 = .ok (.getfield 28, 3) := by decide +kernel
theorem dX12_init_83 : decode cX12_init 83 = .ok (.invokespecial 47, 3) := by decide +kernel
theorem dX12_init_86 : decode cX12_init 86 = .ok (.putfield 50, 3) := by decide +kernel
theorem dX12_init_89 : decode cX12_init 89 = .ok (.aload_n 0, 1) := by decide +kernel
theorem dX12_init_90 : decode cX12_init 90 = .ok (.new 54, 3) := by decide +kernel
theorem dX12_init_93 : decode cX12_init 93 = .ok (.dup, 1) := by decide +kernel
theorem dX12_init_94 : decode cX12_init 94 = .ok (.aload_n 0, 1) := by decide +kernel
theorem dX12_init_95 : decode cX12_init 95 = .ok (.getfield 28, 3) := by decide +kernel
theorem dX12_init_98 : decode cX12_init 98 = .ok (.aload_n 0, 1) := by decide +kernel
theorem dX12_init_99 : decode cX12_init 99 = .ok (.getfield 50, 3) := by decide +kernel
theorem dX12_init_102 : decode cX12_init 102 = .ok (.invokespecial 56, 3) := by decide +kernel
theorem dX12_init_105 : decode cX12_init 105 = .ok (.putfield 59, 3) := by decide +kernel
theorem dX12_init_108 : decode cX12_init 108 = .ok (.aload_n 0, 1) := by decide +kernel
theorem dX12_init_109 : decode cX12_init 109 = .ok (.iconst 4, 1) := by decide +kernel
theorem dX12_init_110 : decode cX12_init 110 = .ok (.anewarray 63, 3) := by decide +kernel
theorem dX12_init_113 : decode cX12_init 113 = .ok (.putfield 65, 3) := by decide +kernel
theorem dX12_init_116 : decode cX12_init 116 = .ok (.aload_n 0, 1) := by decide +kernel
theorem dX12_init_117 : decode cX12_init 117 = .ok (.iconst 0, 1) := by decide +kernel
theorem dX12_init_118 : decode cX12_init 118 = .ok (.putfield 69, 3) := by decide +kernel
theorem dX12_init_121 : decode cX12_init 121 = .ok (.aload_n 0, 1) := by decide +kernel
theorem dX12_init_122 : decode cX12_init 122 = .ok (.iconst 0, 1) := by decide +kernel
theorem dX12_init_123 : decode cX12_init 123 = .ok (.putfield 73, 3) := by decide +kernel
theorem dX12_init_126 : decode cX12_init 126 = .ok (.iconst 0, 1) := by decide +kernel
theorem dX12_init_127 : decode cX12_init 127 = .ok (.istore_n 1, 1) := by decide +kernel
theorem dX12_init_128 : decode cX12_init 128 = .ok (.iload_n 1, 1) := by decide +kernel
theorem dX12_init_129 : decode cX12_init 129 = .ok (.iconst 4, 1) := by decide +kernel
theorem dX12_init_130 : decode cX12_init 130 = .ok (.if_icmp .ge 22, 3) := by decide +kernel
theorem dX12_init_133 : decode cX12_init 133 = .ok (.aload_n 0, 1) := by decide +kernel
theorem dX12_init_134 : decode cX12_init 134 = .ok (.getfield 65, 3) := by decide +kernel
theorem dX12_init_137 : decode cX12_init 137 = .ok (.iload_n 1, 1) := by decide +kernel
theorem dX12_init_138 : decode cX12_init 138 = .ok (.new 63, 3) := by decide +kernel
theorem dX12_init_141 : decode cX12_init 141 = .ok (.dup, 1) := by decide +kernel
theorem dX12_init_142 : decode cX12_init 142 = .ok (.invokespecial 77, 3) := by decide +kernel
theorem dX12_init_145 : decode cX12_init 145 = .ok (.aastore, 1) := by decide +kernel
theorem dX12_init_146 : decode cX12_init 146 = .ok (.iinc 1 1, 3) := by decide +kernel
theorem dX12_init_149 : decode cX12_init 149 = .ok (.goto (-21), 3) := by decide +kernel
theorem dX12_init_152 : decode cX12_init 152 = .ok (.return_, 1) := by decide +kernel
theorem dX12_feed_0 : decode cX12_feed 0 = .ok (.aload_n 0, 1) := by decide +kernel
theorem dX12_feed_1 : decode cX12_feed 1 = .ok (.getfield 12, 3) := by decide +kernel
theorem dX12_feed_4 : decode cX12_feed 4 = .ok (.getfield 78, 3) := by decide +kernel
theorem dX12_feed_7 : decode cX12_feed 7 = .ok (.bipush 20, 2) := by decide +kernel
theorem dX12_feed_9 : decode cX12_feed 9 = .ok (.iadd, 1) := by decide +kernel
theorem dX12_feed_10 : decode cX12_feed 10 = .ok (.sipush 400, 3) := by decide +kernel
theorem dX12_feed_13 : decode cX12_feed 13 = .ok (.if_icmp .le 5, 3) := by decide +kernel
theorem dX12_feed_16 : decode cX12_feed 16 = .ok (.iconst (-1), 1) := by decide +kernel
theorem dX12_feed_17 : decode cX12_feed 17 = .ok (.ireturn, 1) := by decide +kernel
theorem dX12_feed_18 : decode cX12_feed 18 = .ok (.aload_n 0, 1) := by decide +kernel
theorem dX12_feed_19 : decode cX12_feed 19 = .ok (.getfield 12, 3) := by decide +kernel
theorem dX12_feed_22 : decode cX12_feed 22 = .ok (.iload_n 1, 1) := by decide +kernel
theorem dX12_feed_23 : decode cX12_feed 23 = .ok (.invokevirtual 81, 3) := by decide +kernel
theorem dX12_feed_26 : decode cX12_feed 26 = .ok (.aload_n 0, 1) := by decide +kernel
theorem dX12_feed_27 : decode cX12_feed 27 = .ok (.getfield 12, 3) := by decide +kernel
theorem dX12_feed_30 : decode cX12_feed 30 = .ok (.iload_n 2, 1) := by decide +kernel
theorem dX12_feed_31 : decode cX12_feed 31 = .ok (.invokevirtual 81, 3) := by decide +kernel
theorem dX12_feed_34 : decode cX12_feed 34 = .ok (.aload_n 0, 1) := by decide +kernel
theorem dX12_feed_35 : decode cX12_feed 35 = .ok (.getfield 12, 3) := by decide +kernel
theorem dX12_feed_38 : decode cX12_feed 38 = .ok (.iload_n 3, 1) := by decide +kernel
theorem dX12_feed_39 : decode cX12_feed 39 = .ok (.invokevirtual 81, 3) := by decide +kernel
theorem dX12_feed_42 : decode cX12_feed 42 = .ok (.aload_n 0, 1) := by decide +kernel
theorem dX12_feed_43 : decode cX12_feed 43 = .ok (.getfield 12, 3) := by decide +kernel
theorem dX12_feed_46 : decode cX12_feed 46 = .ok (.iload 4, 2) := by decide +kernel
theorem dX12_feed_48 : decode cX12_feed 48 = .ok (.invokevirtual 81, 3) := by decide +kernel
theorem dX12_feed_51 : decode cX12_feed 51 = .ok (.aload_n 0, 1) := by decide +kernel
theorem dX12_feed_52 : decode cX12_feed 52 = .ok (.getfield 12, 3) := by decide +kernel
theorem dX12_feed_55 : decode cX12_feed 55 = .ok (.iload 5, 2) := by decide +kernel
theorem dX12_feed_57 : decode cX12_feed 57 = .ok (.invokevirtual 81, 3) := by decide +kernel
theorem dX12_feed_60 : decode cX12_feed 60 = .ok (.aload_n 0, 1) := by decide +kernel
theorem dX12_feed_61 : decode cX12_feed 61 = .ok (.getfield 12, 3) := by decide +kernel
theorem dX12_feed_64 : decode cX12_feed 64 = .ok (.getfield 78, 3) := by decide +kernel
theorem dX12_feed_67 : decode cX12_feed 67 = .ok (.ireturn, 1) := by decide +kernel
theorem dX12_end_0 : decode cX12_end 0 = .ok (.iload_n 1, 1) := by decide +kernel
theorem dX12_end_1 : decode cX12_end 1 = .ok (.ifCond .lt 14, 3) := by decide +kernel
theorem dX12_end_4 : decode cX12_end 4 = .ok (.iload_n 1, 1) := by decide +kernel
theorem dX12_end_5 : decode cX12_end 5 = .ok (.aload_n 0, 1) := by decide +kernel
theorem dX12_end_6 : decode cX12_end 6 = .ok (.getfield 12, 3) := by decide +kernel
theorem dX12_end_9 : decode cX12_end 9 = .ok (.getfield 78, 3) := by decide +kernel
theorem dX12_end_12 : decode cX12_end 12 = .ok (.if_icmp .le 5, 3) := by decide +kernel
theorem dX12_end_15 : decode cX12_end 15 = .ok (.iconst 0, 1) := by decide +kernel
theorem dX12_end_16 : decode cX12_end 16 = .ok (.ireturn, 1) := by decide +kernel
theorem dX12_end_17 : decode cX12_end 17 = .ok (.aload_n 0, 1) := by decide +kernel
theorem dX12_end_18 : decode cX12_end 18 = .ok (.getfield 12, 3) := by decide +kernel
theorem dX12_end_21 : decode cX12_end 21 = .ok (.iload_n 1, 1) := by decide +kernel
theorem dX12_end_22 : decode cX12_end 22 = .ok (.putfield 78, 3) := by decide +kernel
theorem dX12_end_25 : decode cX12_end 25 = .ok (.iconst 1, 1) := by decide +kernel
theorem dX12_end_26 : decode cX12_end 26 = .ok (.ireturn, 1) := by decide +kernel
theorem dX12_acts_0 : decode cX12_acts 0 = .ok (.aload_n 0, 1) := by decide +kernel
theorem dX12_acts_1 : decode cX12_acts 1 = .ok (.getfield 21, 3) := by decide +kernel
theorem dX12_acts_4 : decode cX12_acts 4 = .ok (.aload_n 0, 1) := by decide +kernel
theorem dX12_acts_5 : decode cX12_acts 5 = .ok (.getfield 12, 3) := by decide +kernel
theorem dX12_acts_8 : decode cX12_acts 8 = .ok (.invokevirtual 85, 3) := by decide +kernel
theorem dX12_acts_11 : decode cX12_acts 11 = .ok (.invokevirtual 89, 3) := by decide +kernel
theorem dX12_acts_14 : decode cX12_acts 14 = .ok (.aload_n 0, 1) := by decide +kernel
theorem dX12_acts_15 : decode cX12_acts 15 = .ok (.getfield 32, 3) := by decide +kernel
theorem dX12_acts_18 : decode cX12_acts 18 = .ok (.aload_n 0, 1) := by decide +kernel
theorem dX12_acts_19 : decode cX12_acts 19 = .ok (.getfield 28, 3) := by decide +kernel
theorem dX12_acts_22 : decode cX12_acts 22 = .ok (.invokevirtual 92, 3) := by decide +kernel
theorem dX12_acts_25 : decode cX12_acts 25 = .ok (.aload_n 0, 1) := by decide +kernel
theorem dX12_acts_26 : decode cX12_acts 26 = .ok (.invokevirtual 95, 3) := by decide +kernel
theorem dX12_acts_29 : decode cX12_acts 29 = .ok (.istore_n 1, 1) := by decide +kernel
theorem dX12_acts_30 : decode cX12_acts 30 = .ok (.iload_n 1, 1) := by decide +kernel
theorem dX12_acts_31 : decode cX12_acts 31 = .ok (.iconst (-1), 1) := by decide +kernel
theorem dX12_acts_32 : decode cX12_acts 32 = .ok (.if_icmp .ne 24, 3) := by decide +kernel
theorem dX12_acts_35 : decode cX12_acts 35 = .ok (.aload_n 0, 1) := by decide +kernel
theorem dX12_acts_36 : decode cX12_acts 36 = .ok (.getfield 28, 3) := by decide +kernel
theorem dX12_acts_39 : decode cX12_acts 39 = .ok (.aload_n 0, 1) := by decide +kernel
theorem dX12_acts_40 : decode cX12_acts 40 = .ok (.getfield 32, 3) := by decide +kernel
theorem dX12_acts_43 : decode cX12_acts 43 = .ok (.invokevirtual 92, 3) := by decide +kernel
theorem dX12_acts_46 : decode cX12_acts 46 = .ok (.new 98, 3) := by decide +kernel
theorem dX12_acts_49 : decode cX12_acts 49 = .ok (.dup, 1) := by decide +kernel
theorem dX12_acts_50 : decode cX12_acts 50 = .ok (.ldc 100, 2) := by decide +kernel
theorem dX12_acts_52 : decode cX12_acts 52 = .ok (.invokespecial 102, 3) := by decide +kernel
theorem dX12_acts_55 : decode cX12_acts 55 = .ok (.athrow, 1) := by decide +kernel
theorem dX12_acts_56 : decode cX12_acts 56 = .ok (.iload_n 1, 1) := by decide +kernel
theorem dX12_acts_57 : decode cX12_acts 57 = .ok (.ifCond .le 8, 3) := by decide +kernel
theorem dX12_acts_60 : decode cX12_acts 60 = .ok (.aload_n 0, 1) := by decide +kernel
theorem dX12_acts_61 : decode cX12_acts 61 = .ok (.iconst 0, 1) := by decide +kernel
theorem dX12_acts_62 : decode cX12_acts 62 = .ok (.putfield 73, 3) := by decide +kernel
theorem dX12_acts_65 : decode cX12_acts 65 = .ok (.aload_n 0, 1) := by decide +kernel
theorem dX12_acts_66 : decode cX12_acts 66 = .ok (.getfield 41, 3) := by decide +kernel
theorem dX12_acts_69 : decode cX12_acts 69 = .ok (.invokevirtual 105, 3) := by decide +kernel
theorem dX12_acts_72 : decode cX12_acts 72 = .ok (.iload_n 1, 1) := by decide +kernel
theorem dX12_acts_73 : decode cX12_acts 73 = .ok (.ireturn, 1) := by decide +kernel
theorem dX12_fault_0 : decode cX12_fault 0 = .ok (.aload_n 0, 1) := by decide +kernel
theorem dX12_fault_1 : decode cX12_fault 1 = .ok (.getfield 21, 3) := by decide +kernel
theorem dX12_fault_4 : decode cX12_fault 4 = .ok (.getfield 108, 3) := by decide +kernel
theorem dX12_fault_7 : decode cX12_fault 7 = .ok (.ireturn, 1) := by decide +kernel
theorem dX12_why_0 : decode cX12_why 0 = .ok (.aload_n 0, 1) := by decide +kernel
theorem dX12_why_1 : decode cX12_why 1 = .ok (.getfield 73, 3) := by decide +kernel
theorem dX12_why_4 : decode cX12_why 4 = .ok (.ireturn, 1) := by decide +kernel
theorem dX12_put_0 : decode cX12_put 0 = .ok (.aload_n 0, 1) := by decide +kernel
theorem dX12_put_1 : decode cX12_put 1 = .ok (.getfield 12, 3) := by decide +kernel
theorem dX12_put_4 : decode cX12_put 4 = .ok (.invokevirtual 85, 3) := by decide +kernel
theorem dX12_put_7 : decode cX12_put 7 = .ok (.istore_n 2, 1) := by decide +kernel
theorem dX12_put_8 : decode cX12_put 8 = .ok (.iload_n 1, 1) := by decide +kernel
theorem dX12_put_9 : decode cX12_put 9 = .ok (.ifCond .lt 10, 3) := by decide +kernel
theorem dX12_put_12 : decode cX12_put 12 = .ok (.iload_n 1, 1) := by decide +kernel
theorem dX12_put_13 : decode cX12_put 13 = .ok (.sipush 999, 3) := by decide +kernel
theorem dX12_put_16 : decode cX12_put 16 = .ok (.if_icmp .le 13, 3) := by decide +kernel
theorem dX12_put_19 : decode cX12_put 19 = .ok (.new 98, 3) := by decide +kernel
theorem dX12_put_22 : decode cX12_put 22 = .ok (.dup, 1) := by decide +kernel
theorem dX12_put_23 : decode cX12_put 23 = .ok (.ldc 111, 2) := by decide +kernel
theorem dX12_put_25 : decode cX12_put 25 = .ok (.invokespecial 102, 3) := by decide +kernel
theorem dX12_put_28 : decode cX12_put 28 = .ok (.athrow, 1) := by decide +kernel
theorem dX12_put_29 : decode cX12_put 29 = .ok (.aload_n 0, 1) := by decide +kernel
theorem dX12_put_30 : decode cX12_put 30 = .ok (.iload_n 2, 1) := by decide +kernel
theorem dX12_put_31 : decode cX12_put 31 = .ok (.invokevirtual 113, 3) := by decide +kernel
theorem dX12_put_34 : decode cX12_put 34 = .ok (.lstore_n 3, 1) := by decide +kernel
theorem dX12_put_35 : decode cX12_put 35 = .ok (.aload_n 0, 1) := by decide +kernel
theorem dX12_put_36 : decode cX12_put 36 = .ok (.getstatic 117, 3) := by decide +kernel
theorem dX12_put_39 : decode cX12_put 39 = .ok (.lload_n 3, 1) := by decide +kernel
theorem dX12_put_40 : decode cX12_put 40 = .ok (.lconst 0, 1) := by decide +kernel
theorem dX12_put_41 : decode cX12_put 41 = .ok (.iload_n 1, 1) := by decide +kernel
theorem dX12_put_42 : decode cX12_put 42 = .ok (.invokevirtual 123, 3) := by decide +kernel
theorem dX12_put_45 : decode cX12_put 45 = .ok (.ireturn, 1) := by decide +kernel
theorem dX12_cut_0 : decode cX12_cut 0 = .ok (.aload_n 0, 1) := by decide +kernel
theorem dX12_cut_1 : decode cX12_cut 1 = .ok (.aload_n 0, 1) := by decide +kernel
theorem dX12_cut_2 : decode cX12_cut 2 = .ok (.getfield 12, 3) := by decide +kernel
theorem dX12_cut_5 : decode cX12_cut 5 = .ok (.invokevirtual 85, 3) := by decide +kernel
theorem dX12_cut_8 : decode cX12_cut 8 = .ok (.invokevirtual 113, 3) := by decide +kernel
theorem dX12_cut_11 : decode cX12_cut 11 = .ok (.lstore_n 1, 1) := by decide +kernel
theorem dX12_cut_12 : decode cX12_cut 12 = .ok (.aload_n 0, 1) := by decide +kernel
theorem dX12_cut_13 : decode cX12_cut 13 = .ok (.getstatic 127, 3) := by decide +kernel
theorem dX12_cut_16 : decode cX12_cut 16 = .ok (.lload_n 1, 1) := by decide +kernel
theorem dX12_cut_17 : decode cX12_cut 17 = .ok (.lconst 0, 1) := by decide +kernel
theorem dX12_cut_18 : decode cX12_cut 18 = .ok (.iconst 0, 1) := by decide +kernel
theorem dX12_cut_19 : decode cX12_cut 19 = .ok (.invokevirtual 123, 3) := by decide +kernel
theorem dX12_cut_22 : decode cX12_cut 22 = .ok (.ireturn, 1) := by decide +kernel
theorem dX12_turn_0 : decode cX12_turn 0 = .ok (.aload_n 0, 1) := by decide +kernel
theorem dX12_turn_1 : decode cX12_turn 1 = .ok (.getfield 21, 3) := by decide +kernel
theorem dX12_turn_4 : decode cX12_turn 4 = .ok (.aload_n 0, 1) := by decide +kernel
theorem dX12_turn_5 : decode cX12_turn 5 = .ok (.getfield 12, 3) := by decide +kernel
theorem dX12_turn_8 : decode cX12_turn 8 = .ok (.invokevirtual 85, 3) := by decide +kernel
theorem dX12_turn_11 : decode cX12_turn 11 = .ok (.invokevirtual 89, 3) := by decide +kernel
theorem dX12_turn_14 : decode cX12_turn 14 = .ok (.aload_n 0, 1) := by decide +kernel
theorem dX12_turn_15 : decode cX12_turn 15 = .ok (.getfield 21, 3) := by decide +kernel
theorem dX12_turn_18 : decode cX12_turn 18 = .ok (.invokevirtual 130, 3) := by decide +kernel
theorem dX12_turn_21 : decode cX12_turn 21 = .ok (.lstore_n 1, 1) := by decide +kernel
theorem dX12_turn_22 : decode cX12_turn 22 = .ok (.aload_n 0, 1) := by decide +kernel
theorem dX12_turn_23 : decode cX12_turn 23 = .ok (.getfield 21, 3) := by decide +kernel
theorem dX12_turn_26 : decode cX12_turn 26 = .ok (.invokevirtual 130, 3) := by decide +kernel
theorem dX12_turn_29 : decode cX12_turn 29 = .ok (.lstore_n 3, 1) := by decide +kernel
theorem dX12_turn_30 : decode cX12_turn 30 = .ok (.aload_n 0, 1) := by decide +kernel
theorem dX12_turn_31 : decode cX12_turn 31 = .ok (.getfield 21, 3) := by decide +kernel
theorem dX12_turn_34 : decode cX12_turn 34 = .ok (.invokevirtual 134, 3) := by decide +kernel
theorem dX12_turn_37 : decode cX12_turn 37 = .ok (.ifCond .ne 13, 3) := by decide +kernel
theorem dX12_turn_40 : decode cX12_turn 40 = .ok (.new 98, 3) := by decide +kernel
theorem dX12_turn_43 : decode cX12_turn 43 = .ok (.dup, 1) := by decide +kernel
theorem dX12_turn_44 : decode cX12_turn 44 = .ok (.ldc 100, 2) := by decide +kernel
theorem dX12_turn_46 : decode cX12_turn 46 = .ok (.invokespecial 102, 3) := by decide +kernel
theorem dX12_turn_49 : decode cX12_turn 49 = .ok (.athrow, 1) := by decide +kernel
theorem dX12_turn_50 : decode cX12_turn 50 = .ok (.aload_n 0, 1) := by decide +kernel
theorem dX12_turn_51 : decode cX12_turn 51 = .ok (.getstatic 138, 3) := by decide +kernel
theorem dX12_turn_54 : decode cX12_turn 54 = .ok (.lload_n 1, 1) := by decide +kernel
theorem dX12_turn_55 : decode cX12_turn 55 = .ok (.lload_n 3, 1) := by decide +kernel
theorem dX12_turn_56 : decode cX12_turn 56 = .ok (.iconst 0, 1) := by decide +kernel
theorem dX12_turn_57 : decode cX12_turn 57 = .ok (.invokevirtual 123, 3) := by decide +kernel
theorem dX12_turn_60 : decode cX12_turn 60 = .ok (.ireturn, 1) := by decide +kernel
theorem dX12_build_0 : decode cX12_build 0 = .ok (.aload_n 0, 1) := by decide +kernel
theorem dX12_build_1 : decode cX12_build 1 = .ok (.getstatic 141, 3) := by decide +kernel
theorem dX12_build_4 : decode cX12_build 4 = .ok (.lconst 0, 1) := by decide +kernel
theorem dX12_build_5 : decode cX12_build 5 = .ok (.lconst 0, 1) := by decide +kernel
theorem dX12_build_6 : decode cX12_build 6 = .ok (.iconst 0, 1) := by decide +kernel
theorem dX12_build_7 : decode cX12_build 7 = .ok (.invokevirtual 123, 3) := by decide +kernel
theorem dX12_build_10 : decode cX12_build 10 = .ok (.ireturn, 1) := by decide +kernel
theorem dX12_tune_0 : decode cX12_tune 0 = .ok (.iload_n 1, 1) := by decide +kernel
theorem dX12_tune_1 : decode cX12_tune 1 = .ok (.ifCond .lt 8, 3) := by decide +kernel
theorem dX12_tune_4 : decode cX12_tune 4 = .ok (.iload_n 1, 1) := by decide +kernel
theorem dX12_tune_5 : decode cX12_tune 5 = .ok (.iconst 2, 1) := by decide +kernel
theorem dX12_tune_6 : decode cX12_tune 6 = .ok (.if_icmp .le 13, 3) := by decide +kernel
theorem dX12_tune_9 : decode cX12_tune 9 = .ok (.new 144, 3) := by decide +kernel
theorem dX12_tune_12 : decode cX12_tune 12 = .ok (.dup, 1) := by decide +kernel
theorem dX12_tune_13 : decode cX12_tune 13 = .ok (.ldc 146, 2) := by decide +kernel
theorem dX12_tune_15 : decode cX12_tune 15 = .ok (.invokespecial 148, 3) := by decide +kernel
theorem dX12_tune_18 : decode cX12_tune 18 = .ok (.athrow, 1) := by decide +kernel
theorem dX12_tune_19 : decode cX12_tune 19 = .ok (.iload_n 1, 1) := by decide +kernel
theorem dX12_tune_20 : decode cX12_tune 20 = .ok (.iconst 2, 1) := by decide +kernel
theorem dX12_tune_21 : decode cX12_tune 21 = .ok (.if_icmp .ne 22, 3) := by decide +kernel
theorem dX12_tune_24 : decode cX12_tune 24 = .ok (.iload_n 2, 1) := by decide +kernel
theorem dX12_tune_25 : decode cX12_tune 25 = .ok (.ifCond .lt 8, 3) := by decide +kernel
theorem dX12_tune_28 : decode cX12_tune 28 = .ok (.iload_n 2, 1) := by decide +kernel
theorem dX12_tune_29 : decode cX12_tune 29 = .ok (.iconst 1, 1) := by decide +kernel
theorem dX12_tune_30 : decode cX12_tune 30 = .ok (.if_icmp .le 13, 3) := by decide +kernel
theorem dX12_tune_33 : decode cX12_tune 33 = .ok (.new 98, 3) := by decide +kernel
theorem dX12_tune_36 : decode cX12_tune 36 = .ok (.dup, 1) := by decide +kernel
theorem dX12_tune_37 : decode cX12_tune 37 = .ok (.ldc 149, 2) := by decide +kernel
theorem dX12_tune_39 : decode cX12_tune 39 = .ok (.invokespecial 102, 3) := by decide +kernel
theorem dX12_tune_42 : decode cX12_tune 42 = .ok (.athrow, 1) := by decide +kernel
theorem dX12_tune_43 : decode cX12_tune 43 = .ok (.iload_n 1, 1) := by decide +kernel
theorem dX12_tune_44 : decode cX12_tune 44 = .ok (.ifCond .ne 9, 3) := by decide +kernel
theorem dX12_tune_47 : decode cX12_tune 47 = .ok (.getstatic 151, 3) := by decide +kernel
theorem dX12_tune_50 : decode cX12_tune 50 = .ok (.goto 28, 3) := by decide +kernel
theorem dX12_tune_53 : decode cX12_tune 53 = .ok (.iload_n 1, 1) := by decide +kernel
theorem dX12_tune_54 : decode cX12_tune 54 = .ok (.iconst 1, 1) := by decide +kernel
theorem dX12_tune_55 : decode cX12_tune 55 = .ok (.if_icmp .ne 9, 3) := by decide +kernel
theorem dX12_tune_58 : decode cX12_tune 58 = .ok (.getstatic 154, 3) := by decide +kernel
theorem dX12_tune_61 : decode cX12_tune 61 = .ok (.goto 17, 3) := by decide +kernel
theorem dX12_tune_64 : decode cX12_tune 64 = .ok (.iload_n 2, 1) := by decide +kernel
theorem dX12_tune_65 : decode cX12_tune 65 = .ok (.iconst 1, 1) := by decide +kernel
theorem dX12_tune_66 : decode cX12_tune 66 = .ok (.if_icmp .ne 9, 3) := by decide +kernel
theorem dX12_tune_69 : decode cX12_tune 69 = .ok (.getstatic 157, 3) := by decide +kernel
theorem dX12_tune_72 : decode cX12_tune 72 = .ok (.goto 6, 3) := by decide +kernel
theorem dX12_tune_75 : decode cX12_tune 75 = .ok (.getstatic 160, 3) := by decide +kernel
theorem dX12_tune_78 : decode cX12_tune 78 = .ok (.astore_n 3, 1) := by decide +kernel
theorem dX12_tune_79 : decode cX12_tune 79 = .ok (.aload_n 3, 1) := by decide +kernel
theorem dX12_tune_80 : decode cX12_tune 80 = .ok (.invokevirtual 163, 3) := by decide +kernel
theorem dX12_tune_83 : decode cX12_tune 83 = .ok (.ifCond .eq 29, 3) := by decide +kernel
theorem dX12_tune_86 : decode cX12_tune 86 = .ok (.iload_n 2, 1) := by decide +kernel
theorem dX12_tune_87 : decode cX12_tune 87 = .ok (.aload_n 3, 1) := by decide +kernel
theorem dX12_tune_88 : decode cX12_tune 88 = .ok (.getfield 166, 3) := by decide +kernel
theorem dX12_tune_91 : decode cX12_tune 91 = .ok (.if_icmp .lt 11, 3) := by decide +kernel
theorem dX12_tune_94 : decode cX12_tune 94 = .ok (.iload_n 2, 1) := by decide +kernel
theorem dX12_tune_95 : decode cX12_tune 95 = .ok (.aload_n 3, 1) := by decide +kernel
theorem dX12_tune_96 : decode cX12_tune 96 = .ok (.getfield 169, 3) := by decide +kernel
theorem dX12_tune_99 : decode cX12_tune 99 = .ok (.if_icmp .le 13, 3) := by decide +kernel
theorem dX12_tune_102 : decode cX12_tune 102 = .ok (.new 98, 3) := by decide +kernel
theorem dX12_tune_105 : decode cX12_tune 105 = .ok (.dup, 1) := by decide +kernel
theorem dX12_tune_106 : decode cX12_tune 106 = .ok (.ldc 172, 2) := by decide +kernel
theorem dX12_tune_108 : decode cX12_tune 108 = .ok (.invokespecial 102, 3) := by decide +kernel
theorem dX12_tune_111 : decode cX12_tune 111 = .ok (.athrow, 1) := by decide +kernel
theorem dX12_tune_112 : decode cX12_tune 112 = .ok (.aload_n 0, 1) := by decide +kernel
theorem dX12_tune_113 : decode cX12_tune 113 = .ok (.aload_n 3, 1) := by decide +kernel
theorem dX12_tune_114 : decode cX12_tune 114 = .ok (.lconst 0, 1) := by decide +kernel
theorem dX12_tune_115 : decode cX12_tune 115 = .ok (.lconst 0, 1) := by decide +kernel
theorem dX12_tune_116 : decode cX12_tune 116 = .ok (.iload_n 2, 1) := by decide +kernel
theorem dX12_tune_117 : decode cX12_tune 117 = .ok (.invokevirtual 123, 3) := by decide +kernel
theorem dX12_tune_120 : decode cX12_tune 120 = .ok (.ireturn, 1) := by decide +kernel
theorem dX12_tear_0 : decode cX12_tear 0 = .ok (.iload_n 1, 1) := by decide +kernel
theorem dX12_tear_1 : decode cX12_tear 1 = .ok (.invokestatic 174, 3) := by decide +kernel
theorem dX12_tear_4 : decode cX12_tear 4 = .ok (.ifCond .ne 13, 3) := by decide +kernel
theorem dX12_tear_7 : decode cX12_tear 7 = .ok (.new 178, 3) := by decide +kernel
theorem dX12_tear_10 : decode cX12_tear 10 = .ok (.dup, 1) := by decide +kernel
theorem dX12_tear_11 : decode cX12_tear 11 = .ok (.ldc 180, 2) := by decide +kernel
theorem dX12_tear_13 : decode cX12_tear 13 = .ok (.invokespecial 182, 3) := by decide +kernel
theorem dX12_tear_16 : decode cX12_tear 16 = .ok (.athrow, 1) := by decide +kernel
theorem dX12_tear_17 : decode cX12_tear 17 = .ok (.aload_n 0, 1) := by decide +kernel
theorem dX12_tear_18 : decode cX12_tear 18 = .ok (.getstatic 183, 3) := by decide +kernel
theorem dX12_tear_21 : decode cX12_tear 21 = .ok (.lconst 0, 1) := by decide +kernel
theorem dX12_tear_22 : decode cX12_tear 22 = .ok (.lconst 0, 1) := by decide +kernel
theorem dX12_tear_23 : decode cX12_tear 23 = .ok (.iload_n 1, 1) := by decide +kernel
theorem dX12_tear_24 : decode cX12_tear 24 = .ok (.invokevirtual 123, 3) := by decide +kernel
theorem dX12_tear_27 : decode cX12_tear 27 = .ok (.ireturn, 1) := by decide +kernel
theorem dX12_undo_0 : decode cX12_undo 0 = .ok (.aload_n 0, 1) := by decide +kernel
theorem dX12_undo_1 : decode cX12_undo 1 = .ok (.getfield 41, 3) := by decide +kernel
theorem dX12_undo_4 : decode cX12_undo 4 = .ok (.getfield 186, 3) := by decide +kernel
theorem dX12_undo_7 : decode cX12_undo 7 = .ok (.ifCond .ne 13, 3) := by decide +kernel
theorem dX12_undo_10 : decode cX12_undo 10 = .ok (.new 189, 3) := by decide +kernel
theorem dX12_undo_13 : decode cX12_undo 13 = .ok (.dup, 1) := by decide +kernel
theorem dX12_undo_14 : decode cX12_undo 14 = .ok (.ldc 191, 2) := by decide +kernel
theorem dX12_undo_16 : decode cX12_undo 16 = .ok (.invokespecial 193, 3) := by decide +kernel
theorem dX12_undo_19 : decode cX12_undo 19 = .ok (.athrow, 1) := by decide +kernel
theorem dX12_undo_20 : decode cX12_undo 20 = .ok (.aload_n 0, 1) := by decide +kernel
theorem dX12_undo_21 : decode cX12_undo 21 = .ok (.getfield 41, 3) := by decide +kernel
theorem dX12_undo_24 : decode cX12_undo 24 = .ok (.aload_n 0, 1) := by decide +kernel
theorem dX12_undo_25 : decode cX12_undo 25 = .ok (.getfield 28, 3) := by decide +kernel
theorem dX12_undo_28 : decode cX12_undo 28 = .ok (.invokevirtual 194, 3) := by decide +kernel
theorem dX12_undo_31 : decode cX12_undo 31 = .ok (.aload_n 0, 1) := by decide +kernel
theorem dX12_undo_32 : decode cX12_undo 32 = .ok (.getfield 41, 3) := by decide +kernel
theorem dX12_undo_35 : decode cX12_undo 35 = .ok (.getfield 186, 3) := by decide +kernel
theorem dX12_undo_38 : decode cX12_undo 38 = .ok (.ireturn, 1) := by decide +kernel
theorem dX12_find_0 : decode cX12_find 0 = .ok (.aload_n 0, 1) := by decide +kernel
theorem dX12_find_1 : decode cX12_find 1 = .ok (.getfield 12, 3) := by decide +kernel
theorem dX12_find_4 : decode cX12_find 4 = .ok (.invokevirtual 85, 3) := by decide +kernel
theorem dX12_find_7 : decode cX12_find 7 = .ok (.istore_n 2, 1) := by decide +kernel
theorem dX12_find_8 : decode cX12_find 8 = .ok (.iload_n 1, 1) := by decide +kernel
theorem dX12_find_9 : decode cX12_find 9 = .ok (.ifCond .lt 9, 3) := by decide +kernel
theorem dX12_find_12 : decode cX12_find 12 = .ok (.iload_n 1, 1) := by decide +kernel
theorem dX12_find_13 : decode cX12_find 13 = .ok (.bipush 8, 2) := by decide +kernel
theorem dX12_find_15 : decode cX12_find 15 = .ok (.if_icmp .le 13, 3) := by decide +kernel
theorem dX12_find_18 : decode cX12_find 18 = .ok (.new 144, 3) := by decide +kernel
theorem dX12_find_21 : decode cX12_find 21 = .ok (.dup, 1) := by decide +kernel
theorem dX12_find_22 : decode cX12_find 22 = .ok (.ldc 146, 2) := by decide +kernel
theorem dX12_find_24 : decode cX12_find 24 = .ok (.invokespecial 148, 3) := by decide +kernel
theorem dX12_find_27 : decode cX12_find 27 = .ok (.athrow, 1) := by decide +kernel
theorem dX12_find_28 : decode cX12_find 28 = .ok (.aload_n 0, 1) := by decide +kernel
theorem dX12_find_29 : decode cX12_find 29 = .ok (.iload_n 2, 1) := by decide +kernel
theorem dX12_find_30 : decode cX12_find 30 = .ok (.invokevirtual 113, 3) := by decide +kernel
theorem dX12_find_33 : decode cX12_find 33 = .ok (.lstore_n 3, 1) := by decide +kernel
theorem dX12_find_34 : decode cX12_find 34 = .ok (.iload_n 1, 1) := by decide +kernel
theorem dX12_find_35 : decode cX12_find 35 = .ok (.iconst 3, 1) := by decide +kernel
theorem dX12_find_36 : decode cX12_find 36 = .ok (.if_icmp .gt 15, 3) := by decide +kernel
theorem dX12_find_39 : decode cX12_find 39 = .ok (.aload_n 0, 1) := by decide +kernel
theorem dX12_find_40 : decode cX12_find 40 = .ok (.getfield 50, 3) := by decide +kernel
theorem dX12_find_43 : decode cX12_find 43 = .ok (.lload_n 3, 1) := by decide +kernel
theorem dX12_find_44 : decode cX12_find 44 = .ok (.iload_n 1, 1) := by decide +kernel
theorem dX12_find_45 : decode cX12_find 45 = .ok (.invokevirtual 197, 3) := by decide +kernel
theorem dX12_find_48 : decode cX12_find 48 = .ok (.goto 12, 3) := by decide +kernel
theorem dX12_find_51 : decode cX12_find 51 = .ok (.aload_n 0, 1) := by decide +kernel
theorem dX12_find_52 : decode cX12_find 52 = .ok (.getfield 59, 3) := by decide +kernel
theorem dX12_find_55 : decode cX12_find 55 = .ok (.lload_n 3, 1) := by decide +kernel
theorem dX12_find_56 : decode cX12_find 56 = .ok (.iload_n 1, 1) := by decide +kernel
theorem dX12_find_57 : decode cX12_find 57 = .ok (.invokevirtual 201, 3) := by decide +kernel
theorem dX12_find_60 : decode cX12_find 60 = .ok (.ireturn, 1) := by decide +kernel
theorem dX12_way_0 : decode cX12_way 0 = .ok (.aload_n 0, 1) := by decide +kernel
theorem dX12_way_1 : decode cX12_way 1 = .ok (.aload_n 0, 1) := by decide +kernel
theorem dX12_way_2 : decode cX12_way 2 = .ok (.getfield 12, 3) := by decide +kernel
theorem dX12_way_5 : decode cX12_way 5 = .ok (.invokevirtual 85, 3) := by decide +kernel
theorem dX12_way_8 : decode cX12_way 8 = .ok (.invokevirtual 113, 3) := by decide +kernel
theorem dX12_way_11 : decode cX12_way 11 = .ok (.lstore_n 2, 1) := by decide +kernel
theorem dX12_way_12 : decode cX12_way 12 = .ok (.aload_n 0, 1) := by decide +kernel
theorem dX12_way_13 : decode cX12_way 13 = .ok (.getfield 50, 3) := by decide +kernel
theorem dX12_way_16 : decode cX12_way 16 = .ok (.aload_n 0, 1) := by decide +kernel
theorem dX12_way_17 : decode cX12_way 17 = .ok (.getfield 28, 3) := by decide +kernel
theorem dX12_way_20 : decode cX12_way 20 = .ok (.lload_n 2, 1) := by decide +kernel
theorem dX12_way_21 : decode cX12_way 21 = .ok (.invokevirtual 204, 3) := by decide +kernel
theorem dX12_way_24 : decode cX12_way 24 = .ok (.invokevirtual 208, 3) := by decide +kernel
theorem dX12_way_27 : decode cX12_way 27 = .ok (.aload_n 0, 1) := by decide +kernel
theorem dX12_way_28 : decode cX12_way 28 = .ok (.getfield 50, 3) := by decide +kernel
theorem dX12_way_31 : decode cX12_way 31 = .ok (.getfield 211, 3) := by decide +kernel
theorem dX12_way_34 : decode cX12_way 34 = .ok (.iload_n 1, 1) := by decide +kernel
theorem dX12_way_35 : decode cX12_way 35 = .ok (.invokevirtual 215, 3) := by decide +kernel
theorem dX12_way_38 : decode cX12_way 38 = .ok (.ireturn, 1) := by decide +kernel
theorem dX12_block_0 : decode cX12_block 0 = .ok (.iload_n 1, 1) := by decide +kernel
theorem dX12_block_1 : decode cX12_block 1 = .ok (.invokestatic 174, 3) := by decide +kernel
theorem dX12_block_4 : decode cX12_block 4 = .ok (.ifCond .ne 13, 3) := by decide +kernel
theorem dX12_block_7 : decode cX12_block 7 = .ok (.new 178, 3) := by decide +kernel
theorem dX12_block_10 : decode cX12_block 10 = .ok (.dup, 1) := by decide +kernel
theorem dX12_block_11 : decode cX12_block 11 = .ok (.ldc 180, 2) := by decide +kernel
theorem dX12_block_13 : decode cX12_block 13 = .ok (.invokespecial 182, 3) := by decide +kernel
theorem dX12_block_16 : decode cX12_block 16 = .ok (.athrow, 1) := by decide +kernel
theorem dX12_block_17 : decode cX12_block 17 = .ok (.iload_n 2, 1) := by decide +kernel
theorem dX12_block_18 : decode cX12_block 18 = .ok (.tableswitch 80 0 2 #[26, 36, 70], 26) := by decide +kernel
theorem dX12_block_44 : decode cX12_block 44 = .ok (.aload_n 0, 1) := by decide +kernel
theorem dX12_block_45 : decode cX12_block 45 = .ok (.getfield 28, 3) := by decide +kernel
theorem dX12_block_48 : decode cX12_block 48 = .ok (.getfield 221, 3) := by decide +kernel
theorem dX12_block_51 : decode cX12_block 51 = .ok (.iload_n 1, 1) := by decide +kernel
theorem dX12_block_52 : decode cX12_block 52 = .ok (.iaload, 1) := by decide +kernel
theorem dX12_block_53 : decode cX12_block 53 = .ok (.ireturn, 1) := by decide +kernel
theorem dX12_block_54 : decode cX12_block 54 = .ok (.aload_n 0, 1) := by decide +kernel
theorem dX12_block_55 : decode cX12_block 55 = .ok (.getfield 28, 3) := by decide +kernel
theorem dX12_block_58 : decode cX12_block 58 = .ok (.getfield 221, 3) := by decide +kernel
theorem dX12_block_61 : decode cX12_block 61 = .ok (.iload_n 1, 1) := by decide +kernel
theorem dX12_block_62 : decode cX12_block 62 = .ok (.iaload, 1) := by decide +kernel
theorem dX12_block_63 : decode cX12_block 63 = .ok (.iconst 2, 1) := by decide +kernel
theorem dX12_block_64 : decode cX12_block 64 = .ok (.if_icmp .ne 15, 3) := by decide +kernel
theorem dX12_block_67 : decode cX12_block 67 = .ok (.aload_n 0, 1) := by decide +kernel
theorem dX12_block_68 : decode cX12_block 68 = .ok (.getfield 28, 3) := by decide +kernel
theorem dX12_block_71 : decode cX12_block 71 = .ok (.getfield 225, 3) := by decide +kernel
theorem dX12_block_74 : decode cX12_block 74 = .ok (.iload_n 1, 1) := by decide +kernel
theorem dX12_block_75 : decode cX12_block 75 = .ok (.iaload, 1) := by decide +kernel
theorem dX12_block_76 : decode cX12_block 76 = .ok (.goto 11, 3) := by decide +kernel
theorem dX12_block_79 : decode cX12_block 79 = .ok (.aload_n 0, 1) := by decide +kernel
theorem dX12_block_80 : decode cX12_block 80 = .ok (.getfield 28, 3) := by decide +kernel
theorem dX12_block_83 : decode cX12_block 83 = .ok (.iload_n 1, 1) := by decide +kernel
theorem dX12_block_84 : decode cX12_block 84 = .ok (.invokevirtual 228, 3) := by decide +kernel
theorem dX12_block_87 : decode cX12_block 87 = .ok (.ireturn, 1) := by decide +kernel
theorem dX12_block_88 : decode cX12_block 88 = .ok (.aload_n 0, 1) := by decide +kernel
theorem dX12_block_89 : decode cX12_block 89 = .ok (.getfield 28, 3) := by decide +kernel
theorem dX12_block_92 : decode cX12_block 92 = .ok (.getfield 231, 3) := by decide +kernel
theorem dX12_block_95 : decode cX12_block 95 = .ok (.iload_n 1, 1) := by decide +kernel
theorem dX12_block_96 : decode cX12_block 96 = .ok (.iaload, 1) := by decide +kernel
theorem dX12_block_97 : decode cX12_block 97 = .ok (.ireturn, 1) := by decide +kernel
theorem dX12_block_98 : decode cX12_block 98 = .ok (.new 144, 3) := by decide +kernel
theorem dX12_block_101 : decode cX12_block 101 = .ok (.dup, 1) := by decide +kernel
theorem dX12_block_102 : decode cX12_block 102 = .ok (.ldc 146, 2) := by decide +kernel
theorem dX12_block_104 : decode cX12_block 104 = .ok (.invokespecial 148, 3) := by decide +kernel
theorem dX12_block_107 : decode cX12_block 107 = .ok (.athrow, 1) := by decide +kernel
theorem dX12_entry_0 : decode cX12_entry 0 = .ok (.iload_n 1, 1) := by decide +kernel
theorem dX12_entry_1 : decode cX12_entry 1 = .ok (.invokestatic 174, 3) := by decide +kernel
theorem dX12_entry_4 : decode cX12_entry 4 = .ok (.ifCond .eq 10, 3) := by decide +kernel
theorem dX12_entry_7 : decode cX12_entry 7 = .ok (.iload_n 2, 1) := by decide +kernel
theorem dX12_entry_8 : decode cX12_entry 8 = .ok (.invokestatic 234, 3) := by decide +kernel
theorem dX12_entry_11 : decode cX12_entry 11 = .ok (.ifCond .ne 13, 3) := by decide +kernel
theorem dX12_entry_14 : decode cX12_entry 14 = .ok (.new 178, 3) := by decide +kernel
theorem dX12_entry_17 : decode cX12_entry 17 = .ok (.dup, 1) := by decide +kernel
theorem dX12_entry_18 : decode cX12_entry 18 = .ok (.ldc 237, 2) := by decide +kernel
theorem dX12_entry_20 : decode cX12_entry 20 = .ok (.invokespecial 182, 3) := by decide +kernel
theorem dX12_entry_23 : decode cX12_entry 23 = .ok (.athrow, 1) := by decide +kernel
theorem dX12_entry_24 : decode cX12_entry 24 = .ok (.iload_n 3, 1) := by decide +kernel
theorem dX12_entry_25 : decode cX12_entry 25 = .ok (.ifCond .lt 8, 3) := by decide +kernel
theorem dX12_entry_28 : decode cX12_entry 28 = .ok (.iload_n 3, 1) := by decide +kernel
theorem dX12_entry_29 : decode cX12_entry 29 = .ok (.iconst 2, 1) := by decide +kernel
theorem dX12_entry_30 : decode cX12_entry 30 = .ok (.if_icmp .le 13, 3) := by decide +kernel
theorem dX12_entry_33 : decode cX12_entry 33 = .ok (.new 144, 3) := by decide +kernel
theorem dX12_entry_36 : decode cX12_entry 36 = .ok (.dup, 1) := by decide +kernel
theorem dX12_entry_37 : decode cX12_entry 37 = .ok (.ldc 146, 2) := by decide +kernel
theorem dX12_entry_39 : decode cX12_entry 39 = .ok (.invokespecial 148, 3) := by decide +kernel
theorem dX12_entry_42 : decode cX12_entry 42 = .ok (.athrow, 1) := by decide +kernel
theorem dX12_entry_43 : decode cX12_entry 43 = .ok (.iload_n 1, 1) := by decide +kernel
theorem dX12_entry_44 : decode cX12_entry 44 = .ok (.bipush 6, 2) := by decide +kernel
theorem dX12_entry_46 : decode cX12_entry 46 = .ok (.imul, 1) := by decide +kernel
theorem dX12_entry_47 : decode cX12_entry 47 = .ok (.iload_n 2, 1) := by decide +kernel
theorem dX12_entry_48 : decode cX12_entry 48 = .ok (.iadd, 1) := by decide +kernel
theorem dX12_entry_49 : decode cX12_entry 49 = .ok (.istore 4, 2) := by decide +kernel
theorem dX12_entry_51 : decode cX12_entry 51 = .ok (.aload_n 0, 1) := by decide +kernel
theorem dX12_entry_52 : decode cX12_entry 52 = .ok (.getfield 28, 3) := by decide +kernel
theorem dX12_entry_55 : decode cX12_entry 55 = .ok (.getfield 239, 3) := by decide +kernel
theorem dX12_entry_58 : decode cX12_entry 58 = .ok (.iload 4, 2) := by decide +kernel
theorem dX12_entry_60 : decode cX12_entry 60 = .ok (.laload, 1) := by decide +kernel
theorem dX12_entry_61 : decode cX12_entry 61 = .ok (.lstore 5, 2) := by decide +kernel
theorem dX12_entry_63 : decode cX12_entry 63 = .ok (.lload 5, 2) := by decide +kernel
theorem dX12_entry_65 : decode cX12_entry 65 = .ok (.lconst 0, 1) := by decide +kernel
theorem dX12_entry_66 : decode cX12_entry 66 = .ok (.lcmp, 1) := by decide +kernel
theorem dX12_entry_67 : decode cX12_entry 67 = .ok (.ifCond .ne 5, 3) := by decide +kernel
theorem dX12_entry_70 : decode cX12_entry 70 = .ok (.iconst (-1), 1) := by decide +kernel
theorem dX12_entry_71 : decode cX12_entry 71 = .ok (.ireturn, 1) := by decide +kernel
theorem dX12_entry_72 : decode cX12_entry 72 = .ok (.iload_n 3, 1) := by decide +kernel
theorem dX12_entry_73 : decode cX12_entry 73 = .ok (.ifCond .ne 16, 3) := by decide +kernel
theorem dX12_entry_76 : decode cX12_entry 76 = .ok (.aload_n 0, 1) := by decide +kernel
theorem dX12_entry_77 : decode cX12_entry 77 = .ok (.getfield 28, 3) := by decide +kernel
theorem dX12_entry_80 : decode cX12_entry 80 = .ok (.getfield 243, 3) := by decide +kernel
theorem dX12_entry_83 : decode cX12_entry 83 = .ok (.iload 4, 2) := by decide +kernel
theorem dX12_entry_85 : decode cX12_entry 85 = .ok (.iaload, 1) := by decide +kernel
theorem dX12_entry_86 : decode cX12_entry 86 = .ok (.goto 26, 3) := by decide +kernel
theorem dX12_entry_89 : decode cX12_entry 89 = .ok (.iload_n 3, 1) := by decide +kernel
theorem dX12_entry_90 : decode cX12_entry 90 = .ok (.iconst 1, 1) := by decide +kernel
theorem dX12_entry_91 : decode cX12_entry 91 = .ok (.if_icmp .ne 16, 3) := by decide +kernel
theorem dX12_entry_94 : decode cX12_entry 94 = .ok (.aload_n 0, 1) := by decide +kernel
theorem dX12_entry_95 : decode cX12_entry 95 = .ok (.getfield 28, 3) := by decide +kernel
theorem dX12_entry_98 : decode cX12_entry 98 = .ok (.getfield 246, 3) := by decide +kernel
theorem dX12_entry_101 : decode cX12_entry 101 = .ok (.iload 4, 2) := by decide +kernel
theorem dX12_entry_103 : decode cX12_entry 103 = .ok (.iaload, 1) := by decide +kernel
theorem dX12_entry_104 : decode cX12_entry 104 = .ok (.goto 8, 3) := by decide +kernel
theorem dX12_entry_107 : decode cX12_entry 107 = .ok (.lload 5, 2) := by decide +kernel
theorem dX12_entry_109 : decode cX12_entry 109 = .ok (.invokestatic 249, 3) := by decide +kernel
theorem dX12_entry_112 : decode cX12_entry 112 = .ok (.ireturn, 1) := by decide +kernel
theorem dX12_letter_0 : decode cX12_letter 0 = .ok (.iload_n 1, 1) := by decide +kernel
theorem dX12_letter_1 : decode cX12_letter 1 = .ok (.invokestatic 174, 3) := by decide +kernel
theorem dX12_letter_4 : decode cX12_letter 4 = .ok (.ifCond .eq 10, 3) := by decide +kernel
theorem dX12_letter_7 : decode cX12_letter 7 = .ok (.iload_n 2, 1) := by decide +kernel
theorem dX12_letter_8 : decode cX12_letter 8 = .ok (.invokestatic 234, 3) := by decide +kernel
theorem dX12_letter_11 : decode cX12_letter 11 = .ok (.ifCond .ne 13, 3) := by decide +kernel
theorem dX12_letter_14 : decode cX12_letter 14 = .ok (.new 178, 3) := by decide +kernel
theorem dX12_letter_17 : decode cX12_letter 17 = .ok (.dup, 1) := by decide +kernel
theorem dX12_letter_18 : decode cX12_letter 18 = .ok (.ldc 237, 2) := by decide +kernel
theorem dX12_letter_20 : decode cX12_letter 20 = .ok (.invokespecial 182, 3) := by decide +kernel
theorem dX12_letter_23 : decode cX12_letter 23 = .ok (.athrow, 1) := by decide +kernel
theorem dX12_letter_24 : decode cX12_letter 24 = .ok (.aload_n 0, 1) := by decide +kernel
theorem dX12_letter_25 : decode cX12_letter 25 = .ok (.getfield 28, 3) := by decide +kernel
theorem dX12_letter_28 : decode cX12_letter 28 = .ok (.getfield 239, 3) := by decide +kernel
theorem dX12_letter_31 : decode cX12_letter 31 = .ok (.iload_n 1, 1) := by decide +kernel
theorem dX12_letter_32 : decode cX12_letter 32 = .ok (.bipush 6, 2) := by decide +kernel
theorem dX12_letter_34 : decode cX12_letter 34 = .ok (.imul, 1) := by decide +kernel
theorem dX12_letter_35 : decode cX12_letter 35 = .ok (.iload_n 2, 1) := by decide +kernel
theorem dX12_letter_36 : decode cX12_letter 36 = .ok (.iadd, 1) := by decide +kernel
theorem dX12_letter_37 : decode cX12_letter 37 = .ok (.laload, 1) := by decide +kernel
theorem dX12_letter_38 : decode cX12_letter 38 = .ok (.lstore 4, 2) := by decide +kernel
theorem dX12_letter_40 : decode cX12_letter 40 = .ok (.iload_n 3, 1) := by decide +kernel
theorem dX12_letter_41 : decode cX12_letter 41 = .ok (.ifCond .lt 21, 3) := by decide +kernel
theorem dX12_letter_44 : decode cX12_letter 44 = .ok (.iload_n 3, 1) := by decide +kernel
theorem dX12_letter_45 : decode cX12_letter 45 = .ok (.lload 4, 2) := by decide +kernel
theorem dX12_letter_47 : decode cX12_letter 47 = .ok (.invokestatic 249, 3) := by decide +kernel
theorem dX12_letter_50 : decode cX12_letter 50 = .ok (.if_icmp .ge 12, 3) := by decide +kernel
theorem dX12_letter_53 : decode cX12_letter 53 = .ok (.lload 4, 2) := by decide +kernel
theorem dX12_letter_55 : decode cX12_letter 55 = .ok (.iload_n 3, 1) := by decide +kernel
theorem dX12_letter_56 : decode cX12_letter 56 = .ok (.invokestatic 252, 3) := by decide +kernel
theorem dX12_letter_59 : decode cX12_letter 59 = .ok (.goto 4, 3) := by decide +kernel
theorem dX12_letter_62 : decode cX12_letter 62 = .ok (.iconst (-1), 1) := by decide +kernel
theorem dX12_letter_63 : decode cX12_letter 63 = .ok (.ireturn, 1) := by decide +kernel
theorem dX12_row_0 : decode cX12_row 0 = .ok (.iload_n 1, 1) := by decide +kernel
theorem dX12_row_1 : decode cX12_row 1 = .ok (.invokestatic 174, 3) := by decide +kernel
theorem dX12_row_4 : decode cX12_row 4 = .ok (.ifCond .eq 20, 3) := by decide +kernel
theorem dX12_row_7 : decode cX12_row 7 = .ok (.iload_n 2, 1) := by decide +kernel
theorem dX12_row_8 : decode cX12_row 8 = .ok (.ifCond .lt 16, 3) := by decide +kernel
theorem dX12_row_11 : decode cX12_row 11 = .ok (.iload_n 2, 1) := by decide +kernel
theorem dX12_row_12 : decode cX12_row 12 = .ok (.aload_n 0, 1) := by decide +kernel
theorem dX12_row_13 : decode cX12_row 13 = .ok (.getfield 28, 3) := by decide +kernel
theorem dX12_row_16 : decode cX12_row 16 = .ok (.getfield 225, 3) := by decide +kernel
theorem dX12_row_19 : decode cX12_row 19 = .ok (.iload_n 1, 1) := by decide +kernel
theorem dX12_row_20 : decode cX12_row 20 = .ok (.iaload, 1) := by decide +kernel
theorem dX12_row_21 : decode cX12_row 21 = .ok (.if_icmp .lt 13, 3) := by decide +kernel
theorem dX12_row_24 : decode cX12_row 24 = .ok (.new 178, 3) := by decide +kernel
theorem dX12_row_27 : decode cX12_row 27 = .ok (.dup, 1) := by decide +kernel
theorem dX12_row_28 : decode cX12_row 28 = .ok (.ldc 255, 2) := by decide +kernel
theorem dX12_row_30 : decode cX12_row 30 = .ok (.invokespecial 182, 3) := by decide +kernel
theorem dX12_row_33 : decode cX12_row 33 = .ok (.athrow, 1) := by decide +kernel
theorem dX12_row_34 : decode cX12_row 34 = .ok (.iload_n 1, 1) := by decide +kernel
theorem dX12_row_35 : decode cX12_row 35 = .ok (.bipush 6, 2) := by decide +kernel
theorem dX12_row_37 : decode cX12_row 37 = .ok (.imul, 1) := by decide +kernel
theorem dX12_row_38 : decode cX12_row 38 = .ok (.iload_n 2, 1) := by decide +kernel
theorem dX12_row_39 : decode cX12_row 39 = .ok (.iadd, 1) := by decide +kernel
theorem dX12_row_40 : decode cX12_row 40 = .ok (.istore 4, 2) := by decide +kernel
theorem dX12_row_42 : decode cX12_row 42 = .ok (.iload_n 3, 1) := by decide +kernel
theorem dX12_row_43 : decode cX12_row 43 = .ok (.tableswitch 58 0 2 #[25, 36, 47], 25) := by decide +kernel
theorem dX12_row_68 : decode cX12_row 68 = .ok (.aload_n 0, 1) := by decide +kernel
theorem dX12_row_69 : decode cX12_row 69 = .ok (.getfield 28, 3) := by decide +kernel
theorem dX12_row_72 : decode cX12_row 72 = .ok (.getfield 257, 3) := by decide +kernel
theorem dX12_row_75 : decode cX12_row 75 = .ok (.iload 4, 2) := by decide +kernel
theorem dX12_row_77 : decode cX12_row 77 = .ok (.iaload, 1) := by decide +kernel
theorem dX12_row_78 : decode cX12_row 78 = .ok (.ireturn, 1) := by decide +kernel
theorem dX12_row_79 : decode cX12_row 79 = .ok (.aload_n 0, 1) := by decide +kernel
theorem dX12_row_80 : decode cX12_row 80 = .ok (.getfield 28, 3) := by decide +kernel
theorem dX12_row_83 : decode cX12_row 83 = .ok (.getfield 260, 3) := by decide +kernel
theorem dX12_row_86 : decode cX12_row 86 = .ok (.iload 4, 2) := by decide +kernel
theorem dX12_row_88 : decode cX12_row 88 = .ok (.iaload, 1) := by decide +kernel
theorem dX12_row_89 : decode cX12_row 89 = .ok (.ireturn, 1) := by decide +kernel
theorem dX12_row_90 : decode cX12_row 90 = .ok (.aload_n 0, 1) := by decide +kernel
theorem dX12_row_91 : decode cX12_row 91 = .ok (.getfield 28, 3) := by decide +kernel
theorem dX12_row_94 : decode cX12_row 94 = .ok (.getfield 263, 3) := by decide +kernel
theorem dX12_row_97 : decode cX12_row 97 = .ok (.iload 4, 2) := by decide +kernel
theorem dX12_row_99 : decode cX12_row 99 = .ok (.iaload, 1) := by decide +kernel
theorem dX12_row_100 : decode cX12_row 100 = .ok (.ireturn, 1) := by decide +kernel
theorem dX12_row_101 : decode cX12_row 101 = .ok (.new 144, 3) := by decide +kernel
theorem dX12_row_104 : decode cX12_row 104 = .ok (.dup, 1) := by decide +kernel
theorem dX12_row_105 : decode cX12_row 105 = .ok (.ldc 146, 2) := by decide +kernel
theorem dX12_row_107 : decode cX12_row 107 = .ok (.invokespecial 148, 3) := by decide +kernel
theorem dX12_row_110 : decode cX12_row 110 = .ok (.athrow, 1) := by decide +kernel
theorem dX12_leaf_0 : decode cX12_leaf 0 = .ok (.aload_n 0, 1) := by decide +kernel
theorem dX12_leaf_1 : decode cX12_leaf 1 = .ok (.getfield 50, 3) := by decide +kernel
theorem dX12_leaf_4 : decode cX12_leaf 4 = .ok (.getfield 266, 3) := by decide +kernel
theorem dX12_leaf_7 : decode cX12_leaf 7 = .ok (.aload_n 0, 1) := by decide +kernel
theorem dX12_leaf_8 : decode cX12_leaf 8 = .ok (.getfield 28, 3) := by decide +kernel
theorem dX12_leaf_11 : decode cX12_leaf 11 = .ok (.invokevirtual 270, 3) := by decide +kernel
theorem dX12_leaf_14 : decode cX12_leaf 14 = .ok (.iload_n 1, 1) := by decide +kernel
theorem dX12_leaf_15 : decode cX12_leaf 15 = .ok (.ifCond .lt 32, 3) := by decide +kernel
theorem dX12_leaf_18 : decode cX12_leaf 18 = .ok (.iload_n 1, 1) := by decide +kernel
theorem dX12_leaf_19 : decode cX12_leaf 19 = .ok (.aload_n 0, 1) := by decide +kernel
theorem dX12_leaf_20 : decode cX12_leaf 20 = .ok (.getfield 50, 3) := by decide +kernel
theorem dX12_leaf_23 : decode cX12_leaf 23 = .ok (.getfield 266, 3) := by decide +kernel
theorem dX12_leaf_26 : decode cX12_leaf 26 = .ok (.getfield 275, 3) := by decide +kernel
theorem dX12_leaf_29 : decode cX12_leaf 29 = .ok (.if_icmp .ge 18, 3) := by decide +kernel
theorem dX12_leaf_32 : decode cX12_leaf 32 = .ok (.aload_n 0, 1) := by decide +kernel
theorem dX12_leaf_33 : decode cX12_leaf 33 = .ok (.getfield 50, 3) := by decide +kernel
theorem dX12_leaf_36 : decode cX12_leaf 36 = .ok (.getfield 266, 3) := by decide +kernel
theorem dX12_leaf_39 : decode cX12_leaf 39 = .ok (.getfield 276, 3) := by decide +kernel
theorem dX12_leaf_42 : decode cX12_leaf 42 = .ok (.iload_n 1, 1) := by decide +kernel
theorem dX12_leaf_43 : decode cX12_leaf 43 = .ok (.iaload, 1) := by decide +kernel
theorem dX12_leaf_44 : decode cX12_leaf 44 = .ok (.goto 4, 3) := by decide +kernel
theorem dX12_leaf_47 : decode cX12_leaf 47 = .ok (.iconst (-1), 1) := by decide +kernel
theorem dX12_leaf_48 : decode cX12_leaf 48 = .ok (.ireturn, 1) := by decide +kernel
theorem dX12_shape_0 : decode cX12_shape 0 = .ok (.iload_n 1, 1) := by decide +kernel
theorem dX12_shape_1 : decode cX12_shape 1 = .ok (.ifCond .lt 9, 3) := by decide +kernel
theorem dX12_shape_4 : decode cX12_shape 4 = .ok (.iload_n 1, 1) := by decide +kernel
theorem dX12_shape_5 : decode cX12_shape 5 = .ok (.bipush 8, 2) := by decide +kernel
theorem dX12_shape_7 : decode cX12_shape 7 = .ok (.if_icmp .le 13, 3) := by decide +kernel
theorem dX12_shape_10 : decode cX12_shape 10 = .ok (.new 144, 3) := by decide +kernel
theorem dX12_shape_13 : decode cX12_shape 13 = .ok (.dup, 1) := by decide +kernel
theorem dX12_shape_14 : decode cX12_shape 14 = .ok (.ldc 146, 2) := by decide +kernel
theorem dX12_shape_16 : decode cX12_shape 16 = .ok (.invokespecial 148, 3) := by decide +kernel
theorem dX12_shape_19 : decode cX12_shape 19 = .ok (.athrow, 1) := by decide +kernel
theorem dX12_shape_20 : decode cX12_shape 20 = .ok (.aload_n 0, 1) := by decide +kernel
theorem dX12_shape_21 : decode cX12_shape 21 = .ok (.getfield 59, 3) := by decide +kernel
theorem dX12_shape_24 : decode cX12_shape 24 = .ok (.iload_n 1, 1) := by decide +kernel
theorem dX12_shape_25 : decode cX12_shape 25 = .ok (.invokevirtual 279, 3) := by decide +kernel
theorem dX12_shape_28 : decode cX12_shape 28 = .ok (.ireturn, 1) := by decide +kernel
theorem dX12_crowds_0 : decode cX12_crowds 0 = .ok (.iload_n 1, 1) := by decide +kernel
theorem dX12_crowds_1 : decode cX12_crowds 1 = .ok (.invokestatic 282, 3) := by decide +kernel
theorem dX12_crowds_4 : decode cX12_crowds 4 = .ok (.ifCond .ne 14, 3) := by decide +kernel
theorem dX12_crowds_7 : decode cX12_crowds 7 = .ok (.new 98, 3) := by decide +kernel
theorem dX12_crowds_10 : decode cX12_crowds 10 = .ok (.dup, 1) := by decide +kernel
theorem dX12_crowds_11 : decode cX12_crowds 11 = .ok (.ldc_w 285, 3) := by decide +kernel
theorem dX12_crowds_14 : decode cX12_crowds 14 = .ok (.invokespecial 102, 3) := by decide +kernel
theorem dX12_crowds_17 : decode cX12_crowds 17 = .ok (.athrow, 1) := by decide +kernel
theorem dX12_crowds_18 : decode cX12_crowds 18 = .ok (.aload_n 0, 1) := by decide +kernel
theorem dX12_crowds_19 : decode cX12_crowds 19 = .ok (.getfield 59, 3) := by decide +kernel
theorem dX12_crowds_22 : decode cX12_crowds 22 = .ok (.iload_n 1, 1) := by decide +kernel
theorem dX12_crowds_23 : decode cX12_crowds 23 = .ok (.invokevirtual 287, 3) := by decide +kernel
theorem dX12_crowds_26 : decode cX12_crowds 26 = .ok (.ireturn, 1) := by decide +kernel
theorem dX12_best_0 : decode cX12_best 0 = .ok (.iload_n 1, 1) := by decide +kernel
theorem dX12_best_1 : decode cX12_best 1 = .ok (.invokestatic 282, 3) := by decide +kernel
theorem dX12_best_4 : decode cX12_best 4 = .ok (.ifCond .eq 14, 3) := by decide +kernel
theorem dX12_best_7 : decode cX12_best 7 = .ok (.iload_n 2, 1) := by decide +kernel
theorem dX12_best_8 : decode cX12_best 8 = .ok (.iconst 1, 1) := by decide +kernel
theorem dX12_best_9 : decode cX12_best 9 = .ok (.if_icmp .lt 9, 3) := by decide +kernel
theorem dX12_best_12 : decode cX12_best 12 = .ok (.iload_n 2, 1) := by decide +kernel
theorem dX12_best_13 : decode cX12_best 13 = .ok (.bipush 20, 2) := by decide +kernel
theorem dX12_best_15 : decode cX12_best 15 = .ok (.if_icmp .le 14, 3) := by decide +kernel
theorem dX12_best_18 : decode cX12_best 18 = .ok (.new 98, 3) := by decide +kernel
theorem dX12_best_21 : decode cX12_best 21 = .ok (.dup, 1) := by decide +kernel
theorem dX12_best_22 : decode cX12_best 22 = .ok (.ldc_w 290, 3) := by decide +kernel
theorem dX12_best_25 : decode cX12_best 25 = .ok (.invokespecial 102, 3) := by decide +kernel
theorem dX12_best_28 : decode cX12_best 28 = .ok (.athrow, 1) := by decide +kernel
theorem dX12_best_29 : decode cX12_best 29 = .ok (.aload_n 0, 1) := by decide +kernel
theorem dX12_best_30 : decode cX12_best 30 = .ok (.getfield 59, 3) := by decide +kernel
theorem dX12_best_33 : decode cX12_best 33 = .ok (.iload_n 1, 1) := by decide +kernel
theorem dX12_best_34 : decode cX12_best 34 = .ok (.iload_n 2, 1) := by decide +kernel
theorem dX12_best_35 : decode cX12_best 35 = .ok (.invokevirtual 292, 3) := by decide +kernel
theorem dX12_best_38 : decode cX12_best 38 = .ok (.ireturn, 1) := by decide +kernel
theorem dX12_open_0 : decode cX12_open 0 = .ok (.iload_n 1, 1) := by decide +kernel
theorem dX12_open_1 : decode cX12_open 1 = .ok (.invokestatic 296, 3) := by decide +kernel
theorem dX12_open_4 : decode cX12_open 4 = .ok (.ifCond .ne 14, 3) := by decide +kernel
theorem dX12_open_7 : decode cX12_open 7 = .ok (.new 178, 3) := by decide +kernel
theorem dX12_open_10 : decode cX12_open 10 = .ok (.dup, 1) := by decide +kernel
theorem dX12_open_11 : decode cX12_open 11 = .ok (.ldc_w 299, 3) := by decide +kernel
theorem dX12_open_14 : decode cX12_open 14 = .ok (.invokespecial 182, 3) := by decide +kernel
theorem dX12_open_17 : decode cX12_open 17 = .ok (.athrow, 1) := by decide +kernel
theorem dX12_open_18 : decode cX12_open 18 = .ok (.aload_n 0, 1) := by decide +kernel
theorem dX12_open_19 : decode cX12_open 19 = .ok (.getfield 65, 3) := by decide +kernel
theorem dX12_open_22 : decode cX12_open 22 = .ok (.iload_n 1, 1) := by decide +kernel
theorem dX12_open_23 : decode cX12_open 23 = .ok (.aaload, 1) := by decide +kernel
theorem dX12_open_24 : decode cX12_open 24 = .ok (.astore_n 3, 1) := by decide +kernel
theorem dX12_open_25 : decode cX12_open 25 = .ok (.aload_n 3, 1) := by decide +kernel
theorem dX12_open_26 : decode cX12_open 26 = .ok (.getfield 301, 3) := by decide +kernel
theorem dX12_open_29 : decode cX12_open 29 = .ok (.istore 4, 2) := by decide +kernel
theorem dX12_open_31 : decode cX12_open 31 = .ok (.iload_n 2, 1) := by decide +kernel
theorem dX12_open_32 : decode cX12_open 32 = .ok (.ifCond .eq 10, 3) := by decide +kernel
theorem dX12_open_35 : decode cX12_open 35 = .ok (.aload_n 3, 1) := by decide +kernel
theorem dX12_open_36 : decode cX12_open 36 = .ok (.invokevirtual 304, 3) := by decide +kernel
theorem dX12_open_39 : decode cX12_open 39 = .ok (.goto 8, 3) := by decide +kernel
theorem dX12_open_42 : decode cX12_open 42 = .ok (.aload_n 3, 1) := by decide +kernel
theorem dX12_open_43 : decode cX12_open 43 = .ok (.iconst 0, 1) := by decide +kernel
theorem dX12_open_44 : decode cX12_open 44 = .ok (.putfield 301, 3) := by decide +kernel
theorem dX12_open_47 : decode cX12_open 47 = .ok (.iload 4, 2) := by decide +kernel
theorem dX12_open_49 : decode cX12_open 49 = .ok (.ireturn, 1) := by decide +kernel
theorem dX12_next_0 : decode cX12_next 0 = .ok (.iload_n 1, 1) := by decide +kernel
theorem dX12_next_1 : decode cX12_next 1 = .ok (.invokestatic 296, 3) := by decide +kernel
theorem dX12_next_4 : decode cX12_next 4 = .ok (.ifCond .ne 14, 3) := by decide +kernel
theorem dX12_next_7 : decode cX12_next 7 = .ok (.new 178, 3) := by decide +kernel
theorem dX12_next_10 : decode cX12_next 10 = .ok (.dup, 1) := by decide +kernel
theorem dX12_next_11 : decode cX12_next 11 = .ok (.ldc_w 299, 3) := by decide +kernel
theorem dX12_next_14 : decode cX12_next 14 = .ok (.invokespecial 182, 3) := by decide +kernel
theorem dX12_next_17 : decode cX12_next 17 = .ok (.athrow, 1) := by decide +kernel
theorem dX12_next_18 : decode cX12_next 18 = .ok (.aload_n 0, 1) := by decide +kernel
theorem dX12_next_19 : decode cX12_next 19 = .ok (.getfield 65, 3) := by decide +kernel
theorem dX12_next_22 : decode cX12_next 22 = .ok (.iload_n 1, 1) := by decide +kernel
theorem dX12_next_23 : decode cX12_next 23 = .ok (.aaload, 1) := by decide +kernel
theorem dX12_next_24 : decode cX12_next 24 = .ok (.astore_n 2, 1) := by decide +kernel
theorem dX12_next_25 : decode cX12_next 25 = .ok (.aload_n 2, 1) := by decide +kernel
theorem dX12_next_26 : decode cX12_next 26 = .ok (.getfield 301, 3) := by decide +kernel
theorem dX12_next_29 : decode cX12_next 29 = .ok (.ifCond .ne 14, 3) := by decide +kernel
theorem dX12_next_32 : decode cX12_next 32 = .ok (.new 189, 3) := by decide +kernel
theorem dX12_next_35 : decode cX12_next 35 = .ok (.dup, 1) := by decide +kernel
theorem dX12_next_36 : decode cX12_next 36 = .ok (.ldc_w 307, 3) := by decide +kernel
theorem dX12_next_39 : decode cX12_next 39 = .ok (.invokespecial 193, 3) := by decide +kernel
theorem dX12_next_42 : decode cX12_next 42 = .ok (.athrow, 1) := by decide +kernel
theorem dX12_next_43 : decode cX12_next 43 = .ok (.aload_n 0, 1) := by decide +kernel
theorem dX12_next_44 : decode cX12_next 44 = .ok (.getfield 28, 3) := by decide +kernel
theorem dX12_next_47 : decode cX12_next 47 = .ok (.aload_n 2, 1) := by decide +kernel
theorem dX12_next_48 : decode cX12_next 48 = .ok (.getfield 309, 3) := by decide +kernel
theorem dX12_next_51 : decode cX12_next 51 = .ok (.invokevirtual 312, 3) := by decide +kernel
theorem dX12_next_54 : decode cX12_next 54 = .ok (.istore_n 3, 1) := by decide +kernel
theorem dX12_next_55 : decode cX12_next 55 = .ok (.aload_n 0, 1) := by decide +kernel
theorem dX12_next_56 : decode cX12_next 56 = .ok (.getfield 50, 3) := by decide +kernel
theorem dX12_next_59 : decode cX12_next 59 = .ok (.iload_n 3, 1) := by decide +kernel
theorem dX12_next_60 : decode cX12_next 60 = .ok (.invokevirtual 315, 3) := by decide +kernel
theorem dX12_next_63 : decode cX12_next 63 = .ok (.aload_n 2, 1) := by decide +kernel
theorem dX12_next_64 : decode cX12_next 64 = .ok (.aload_n 0, 1) := by decide +kernel
theorem dX12_next_65 : decode cX12_next 65 = .ok (.getfield 50, 3) := by decide +kernel
theorem dX12_next_68 : decode cX12_next 68 = .ok (.getfield 318, 3) := by decide +kernel
theorem dX12_next_71 : decode cX12_next 71 = .ok (.iload_n 3, 1) := by decide +kernel
theorem dX12_next_72 : decode cX12_next 72 = .ok (.invokevirtual 322, 3) := by decide +kernel
theorem dX12_next_75 : decode cX12_next 75 = .ok (.aload_n 0, 1) := by decide +kernel
theorem dX12_next_76 : decode cX12_next 76 = .ok (.getfield 50, 3) := by decide +kernel
theorem dX12_next_79 : decode cX12_next 79 = .ok (.getfield 318, 3) := by decide +kernel
theorem dX12_next_82 : decode cX12_next 82 = .ok (.getfield 326, 3) := by decide +kernel
theorem dX12_next_85 : decode cX12_next 85 = .ok (.ireturn, 1) := by decide +kernel
theorem dX12_reader_0 : decode cX12_reader 0 = .ok (.iload_n 1, 1) := by decide +kernel
theorem dX12_reader_1 : decode cX12_reader 1 = .ok (.invokestatic 296, 3) := by decide +kernel
theorem dX12_reader_4 : decode cX12_reader 4 = .ok (.ifCond .ne 14, 3) := by decide +kernel
theorem dX12_reader_7 : decode cX12_reader 7 = .ok (.new 178, 3) := by decide +kernel
theorem dX12_reader_10 : decode cX12_reader 10 = .ok (.dup, 1) := by decide +kernel
theorem dX12_reader_11 : decode cX12_reader 11 = .ok (.ldc_w 299, 3) := by decide +kernel
theorem dX12_reader_14 : decode cX12_reader 14 = .ok (.invokespecial 182, 3) := by decide +kernel
theorem dX12_reader_17 : decode cX12_reader 17 = .ok (.athrow, 1) := by decide +kernel
theorem dX12_reader_18 : decode cX12_reader 18 = .ok (.aload_n 0, 1) := by decide +kernel
theorem dX12_reader_19 : decode cX12_reader 19 = .ok (.getfield 65, 3) := by decide +kernel
theorem dX12_reader_22 : decode cX12_reader 22 = .ok (.iload_n 1, 1) := by decide +kernel
theorem dX12_reader_23 : decode cX12_reader 23 = .ok (.aaload, 1) := by decide +kernel
theorem dX12_reader_24 : decode cX12_reader 24 = .ok (.astore_n 3, 1) := by decide +kernel
theorem dX12_reader_25 : decode cX12_reader 25 = .ok (.iload_n 2, 1) := by decide +kernel
theorem dX12_reader_26 : decode cX12_reader 26 = .ok (.tableswitch 58 0 3 #[30, 43, 48, 53], 30) := by decide +kernel
theorem dX12_reader_56 : decode cX12_reader 56 = .ok (.aload_n 3, 1) := by decide +kernel
theorem dX12_reader_57 : decode cX12_reader 57 = .ok (.getfield 301, 3) := by decide +kernel
theorem dX12_reader_60 : decode cX12_reader 60 = .ok (.ifCond .eq 7, 3) := by decide +kernel
theorem dX12_reader_63 : decode cX12_reader 63 = .ok (.iconst 1, 1) := by decide +kernel
theorem dX12_reader_64 : decode cX12_reader 64 = .ok (.goto 4, 3) := by decide +kernel
theorem dX12_reader_67 : decode cX12_reader 67 = .ok (.iconst 0, 1) := by decide +kernel
theorem dX12_reader_68 : decode cX12_reader 68 = .ok (.ireturn, 1) := by decide +kernel
theorem dX12_reader_69 : decode cX12_reader 69 = .ok (.aload_n 3, 1) := by decide +kernel
theorem dX12_reader_70 : decode cX12_reader 70 = .ok (.getfield 309, 3) := by decide +kernel
theorem dX12_reader_73 : decode cX12_reader 73 = .ok (.ireturn, 1) := by decide +kernel
theorem dX12_reader_74 : decode cX12_reader 74 = .ok (.aload_n 3, 1) := by decide +kernel
theorem dX12_reader_75 : decode cX12_reader 75 = .ok (.getfield 329, 3) := by decide +kernel
theorem dX12_reader_78 : decode cX12_reader 78 = .ok (.ireturn, 1) := by decide +kernel
theorem dX12_reader_79 : decode cX12_reader 79 = .ok (.aload_n 3, 1) := by decide +kernel
theorem dX12_reader_80 : decode cX12_reader 80 = .ok (.getfield 332, 3) := by decide +kernel
theorem dX12_reader_83 : decode cX12_reader 83 = .ok (.ireturn, 1) := by decide +kernel
theorem dX12_reader_84 : decode cX12_reader 84 = .ok (.new 144, 3) := by decide +kernel
theorem dX12_reader_87 : decode cX12_reader 87 = .ok (.dup, 1) := by decide +kernel
theorem dX12_reader_88 : decode cX12_reader 88 = .ok (.ldc 146, 2) := by decide +kernel
theorem dX12_reader_90 : decode cX12_reader 90 = .ok (.invokespecial 148, 3) := by decide +kernel
theorem dX12_reader_93 : decode cX12_reader 93 = .ok (.athrow, 1) := by decide +kernel
theorem dX12_batch_0 : decode cX12_batch 0 = .ok (.iload_n 1, 1) := by decide +kernel
theorem dX12_batch_1 : decode cX12_batch 1 = .ok (.invokestatic 296, 3) := by decide +kernel
theorem dX12_batch_4 : decode cX12_batch 4 = .ok (.ifCond .ne 14, 3) := by decide +kernel
theorem dX12_batch_7 : decode cX12_batch 7 = .ok (.new 178, 3) := by decide +kernel
theorem dX12_batch_10 : decode cX12_batch 10 = .ok (.dup, 1) := by decide +kernel
theorem dX12_batch_11 : decode cX12_batch 11 = .ok (.ldc_w 299, 3) := by decide +kernel
theorem dX12_batch_14 : decode cX12_batch 14 = .ok (.invokespecial 182, 3) := by decide +kernel
theorem dX12_batch_17 : decode cX12_batch 17 = .ok (.athrow, 1) := by decide +kernel
theorem dX12_batch_18 : decode cX12_batch 18 = .ok (.aload_n 0, 1) := by decide +kernel
theorem dX12_batch_19 : decode cX12_batch 19 = .ok (.getfield 65, 3) := by decide +kernel
theorem dX12_batch_22 : decode cX12_batch 22 = .ok (.iload_n 1, 1) := by decide +kernel
theorem dX12_batch_23 : decode cX12_batch 23 = .ok (.aaload, 1) := by decide +kernel
theorem dX12_batch_24 : decode cX12_batch 24 = .ok (.astore_n 3, 1) := by decide +kernel
theorem dX12_batch_25 : decode cX12_batch 25 = .ok (.iload_n 2, 1) := by decide +kernel
theorem dX12_batch_26 : decode cX12_batch 26 = .ok (.ifCond .lt 20, 3) := by decide +kernel
theorem dX12_batch_29 : decode cX12_batch 29 = .ok (.iload_n 2, 1) := by decide +kernel
theorem dX12_batch_30 : decode cX12_batch 30 = .ok (.aload_n 3, 1) := by decide +kernel
theorem dX12_batch_31 : decode cX12_batch 31 = .ok (.getfield 332, 3) := by decide +kernel
theorem dX12_batch_34 : decode cX12_batch 34 = .ok (.if_icmp .ge 12, 3) := by decide +kernel
theorem dX12_batch_37 : decode cX12_batch 37 = .ok (.aload_n 3, 1) := by decide +kernel
theorem dX12_batch_38 : decode cX12_batch 38 = .ok (.getfield 333, 3) := by decide +kernel
theorem dX12_batch_41 : decode cX12_batch 41 = .ok (.iload_n 2, 1) := by decide +kernel
theorem dX12_batch_42 : decode cX12_batch 42 = .ok (.iaload, 1) := by decide +kernel
theorem dX12_batch_43 : decode cX12_batch 43 = .ok (.goto 4, 3) := by decide +kernel
theorem dX12_batch_46 : decode cX12_batch 46 = .ok (.iconst (-1), 1) := by decide +kernel
theorem dX12_batch_47 : decode cX12_batch 47 = .ok (.ireturn, 1) := by decide +kernel
theorem dX12_image_0 : decode cX12_image 0 = .ok (.aload_n 0, 1) := by decide +kernel
theorem dX12_image_1 : decode cX12_image 1 = .ok (.getfield 35, 3) := by decide +kernel
theorem dX12_image_4 : decode cX12_image 4 = .ok (.aload_n 0, 1) := by decide +kernel
theorem dX12_image_5 : decode cX12_image 5 = .ok (.getfield 28, 3) := by decide +kernel
theorem dX12_image_8 : decode cX12_image 8 = .ok (.invokevirtual 92, 3) := by decide +kernel
theorem dX12_image_11 : decode cX12_image 11 = .ok (.aload_n 0, 1) := by decide +kernel
theorem dX12_image_12 : decode cX12_image 12 = .ok (.iconst 1, 1) := by decide +kernel
theorem dX12_image_13 : decode cX12_image 13 = .ok (.putfield 69, 3) := by decide +kernel
theorem dX12_image_16 : decode cX12_image 16 = .ok (.return_, 1) := by decide +kernel
theorem dX12_back_0 : decode cX12_back 0 = .ok (.aload_n 0, 1) := by decide +kernel
theorem dX12_back_1 : decode cX12_back 1 = .ok (.getfield 69, 3) := by decide +kernel
theorem dX12_back_4 : decode cX12_back 4 = .ok (.ifCond .ne 5, 3) := by decide +kernel
theorem dX12_back_7 : decode cX12_back 7 = .ok (.iconst 0, 1) := by decide +kernel
theorem dX12_back_8 : decode cX12_back 8 = .ok (.ireturn, 1) := by decide +kernel
theorem dX12_back_9 : decode cX12_back 9 = .ok (.aload_n 0, 1) := by decide +kernel
theorem dX12_back_10 : decode cX12_back 10 = .ok (.getfield 28, 3) := by decide +kernel
theorem dX12_back_13 : decode cX12_back 13 = .ok (.aload_n 0, 1) := by decide +kernel
theorem dX12_back_14 : decode cX12_back 14 = .ok (.getfield 35, 3) := by decide +kernel
theorem dX12_back_17 : decode cX12_back 17 = .ok (.invokevirtual 92, 3) := by decide +kernel
theorem dX12_back_20 : decode cX12_back 20 = .ok (.aload_n 0, 1) := by decide +kernel
theorem dX12_back_21 : decode cX12_back 21 = .ok (.getfield 41, 3) := by decide +kernel
theorem dX12_back_24 : decode cX12_back 24 = .ok (.invokevirtual 105, 3) := by decide +kernel
theorem dX12_back_27 : decode cX12_back 27 = .ok (.aload_n 0, 1) := by decide +kernel
theorem dX12_back_28 : decode cX12_back 28 = .ok (.invokevirtual 334, 3) := by decide +kernel
theorem dX12_back_31 : decode cX12_back 31 = .ok (.iconst 1, 1) := by decide +kernel
theorem dX12_back_32 : decode cX12_back 32 = .ok (.ireturn, 1) := by decide +kernel
theorem dX12_count_0 : decode cX12_count 0 = .ok (.iload_n 1, 1) := by decide +kernel
theorem dX12_count_1 : decode cX12_count 1 = .ok (.tableswitch 136 0 8 #[51, 59, 71, 79, 88, 96, 104, 112, 128], 51) := by decide +kernel
theorem dX12_count_52 : decode cX12_count 52 = .ok (.aload_n 0, 1) := by decide +kernel
theorem dX12_count_53 : decode cX12_count 53 = .ok (.getfield 28, 3) := by decide +kernel
theorem dX12_count_56 : decode cX12_count 56 = .ok (.invokevirtual 337, 3) := by decide +kernel
theorem dX12_count_59 : decode cX12_count 59 = .ok (.ireturn, 1) := by decide +kernel
theorem dX12_count_60 : decode cX12_count 60 = .ok (.bipush 40, 2) := by decide +kernel
theorem dX12_count_62 : decode cX12_count 62 = .ok (.aload_n 0, 1) := by decide +kernel
theorem dX12_count_63 : decode cX12_count 63 = .ok (.getfield 28, 3) := by decide +kernel
theorem dX12_count_66 : decode cX12_count 66 = .ok (.iconst 0, 1) := by decide +kernel
theorem dX12_count_67 : decode cX12_count 67 = .ok (.invokevirtual 340, 3) := by decide +kernel
theorem dX12_count_70 : decode cX12_count 70 = .ok (.isub, 1) := by decide +kernel
theorem dX12_count_71 : decode cX12_count 71 = .ok (.ireturn, 1) := by decide +kernel
theorem dX12_count_72 : decode cX12_count 72 = .ok (.aload_n 0, 1) := by decide +kernel
theorem dX12_count_73 : decode cX12_count 73 = .ok (.getfield 28, 3) := by decide +kernel
theorem dX12_count_76 : decode cX12_count 76 = .ok (.getfield 343, 3) := by decide +kernel
theorem dX12_count_79 : decode cX12_count 79 = .ok (.ireturn, 1) := by decide +kernel
theorem dX12_count_80 : decode cX12_count 80 = .ok (.aload_n 0, 1) := by decide +kernel
theorem dX12_count_81 : decode cX12_count 81 = .ok (.getfield 28, 3) := by decide +kernel
theorem dX12_count_84 : decode cX12_count 84 = .ok (.iconst 1, 1) := by decide +kernel
theorem dX12_count_85 : decode cX12_count 85 = .ok (.invokevirtual 340, 3) := by decide +kernel
theorem dX12_count_88 : decode cX12_count 88 = .ok (.ireturn, 1) := by decide +kernel
theorem dX12_count_89 : decode cX12_count 89 = .ok (.aload_n 0, 1) := by decide +kernel
theorem dX12_count_90 : decode cX12_count 90 = .ok (.getfield 28, 3) := by decide +kernel
theorem dX12_count_93 : decode cX12_count 93 = .ok (.invokevirtual 346, 3) := by decide +kernel
theorem dX12_count_96 : decode cX12_count 96 = .ok (.ireturn, 1) := by decide +kernel
theorem dX12_count_97 : decode cX12_count 97 = .ok (.aload_n 0, 1) := by decide +kernel
theorem dX12_count_98 : decode cX12_count 98 = .ok (.getfield 28, 3) := by decide +kernel
theorem dX12_count_101 : decode cX12_count 101 = .ok (.getfield 349, 3) := by decide +kernel
theorem dX12_count_104 : decode cX12_count 104 = .ok (.ireturn, 1) := by decide +kernel
theorem dX12_count_105 : decode cX12_count 105 = .ok (.aload_n 0, 1) := by decide +kernel
theorem dX12_count_106 : decode cX12_count 106 = .ok (.getfield 28, 3) := by decide +kernel
theorem dX12_count_109 : decode cX12_count 109 = .ok (.getfield 352, 3) := by decide +kernel
theorem dX12_count_112 : decode cX12_count 112 = .ok (.ireturn, 1) := by decide +kernel
theorem dX12_count_113 : decode cX12_count 113 = .ok (.aload_n 0, 1) := by decide +kernel
theorem dX12_count_114 : decode cX12_count 114 = .ok (.getfield 28, 3) := by decide +kernel
theorem dX12_count_117 : decode cX12_count 117 = .ok (.getfield 355, 3) := by decide +kernel
theorem dX12_count_120 : decode cX12_count 120 = .ok (.ifCond .eq 7, 3) := by decide +kernel
theorem dX12_count_123 : decode cX12_count 123 = .ok (.iconst 1, 1) := by decide +kernel
theorem dX12_count_124 : decode cX12_count 124 = .ok (.goto 4, 3) := by decide +kernel
theorem dX12_count_127 : decode cX12_count 127 = .ok (.iconst 0, 1) := by decide +kernel
theorem dX12_count_128 : decode cX12_count 128 = .ok (.ireturn, 1) := by decide +kernel
theorem dX12_count_129 : decode cX12_count 129 = .ok (.aload_n 0, 1) := by decide +kernel
theorem dX12_count_130 : decode cX12_count 130 = .ok (.getfield 41, 3) := by decide +kernel
theorem dX12_count_133 : decode cX12_count 133 = .ok (.getfield 186, 3) := by decide +kernel
theorem dX12_count_136 : decode cX12_count 136 = .ok (.ireturn, 1) := by decide +kernel
theorem dX12_count_137 : decode cX12_count 137 = .ok (.iconst (-1), 1) := by decide +kernel
theorem dX12_count_138 : decode cX12_count 138 = .ok (.ireturn, 1) := by decide +kernel
theorem dX12_isBlock_0 : decode cX12_isBlock 0 = .ok (.iload_n 0, 1) := by decide +kernel
theorem dX12_isBlock_1 : decode cX12_isBlock 1 = .ok (.ifCond .lt 13, 3) := by decide +kernel
theorem dX12_isBlock_4 : decode cX12_isBlock 4 = .ok (.iload_n 0, 1) := by decide +kernel
theorem dX12_isBlock_5 : decode cX12_isBlock 5 = .ok (.bipush 40, 2) := by decide +kernel
theorem dX12_isBlock_7 : decode cX12_isBlock 7 = .ok (.if_icmp .ge 7, 3) := by decide +kernel
theorem dX12_isBlock_10 : decode cX12_isBlock 10 = .ok (.iconst 1, 1) := by decide +kernel
theorem dX12_isBlock_11 : decode cX12_isBlock 11 = .ok (.goto 4, 3) := by decide +kernel
theorem dX12_isBlock_14 : decode cX12_isBlock 14 = .ok (.iconst 0, 1) := by decide +kernel
theorem dX12_isBlock_15 : decode cX12_isBlock 15 = .ok (.ireturn, 1) := by decide +kernel
theorem dX12_isSlot_0 : decode cX12_isSlot 0 = .ok (.iload_n 0, 1) := by decide +kernel
theorem dX12_isSlot_1 : decode cX12_isSlot 1 = .ok (.ifCond .lt 13, 3) := by decide +kernel
theorem dX12_isSlot_4 : decode cX12_isSlot 4 = .ok (.iload_n 0, 1) := by decide +kernel
theorem dX12_isSlot_5 : decode cX12_isSlot 5 = .ok (.bipush 6, 2) := by decide +kernel
theorem dX12_isSlot_7 : decode cX12_isSlot 7 = .ok (.if_icmp .ge 7, 3) := by decide +kernel
theorem dX12_isSlot_10 : decode cX12_isSlot 10 = .ok (.iconst 1, 1) := by decide +kernel
theorem dX12_isSlot_11 : decode cX12_isSlot 11 = .ok (.goto 4, 3) := by decide +kernel
theorem dX12_isSlot_14 : decode cX12_isSlot 14 = .ok (.iconst 0, 1) := by decide +kernel
theorem dX12_isSlot_15 : decode cX12_isSlot 15 = .ok (.ireturn, 1) := by decide +kernel
theorem dX12_isReader_0 : decode cX12_isReader 0 = .ok (.iload_n 0, 1) := by decide +kernel
theorem dX12_isReader_1 : decode cX12_isReader 1 = .ok (.ifCond .lt 12, 3) := by decide +kernel
theorem dX12_isReader_4 : decode cX12_isReader 4 = .ok (.iload_n 0, 1) := by decide +kernel
theorem dX12_isReader_5 : decode cX12_isReader 5 = .ok (.iconst 4, 1) := by decide +kernel
theorem dX12_isReader_6 : decode cX12_isReader 6 = .ok (.if_icmp .ge 7, 3) := by decide +kernel
theorem dX12_isReader_9 : decode cX12_isReader 9 = .ok (.iconst 1, 1) := by decide +kernel
theorem dX12_isReader_10 : decode cX12_isReader 10 = .ok (.goto 4, 3) := by decide +kernel
theorem dX12_isReader_13 : decode cX12_isReader 13 = .ok (.iconst 0, 1) := by decide +kernel
theorem dX12_isReader_14 : decode cX12_isReader 14 = .ok (.ireturn, 1) := by decide +kernel
theorem dX12_isKey_0 : decode cX12_isKey 0 = .ok (.iload_n 0, 1) := by decide +kernel
theorem dX12_isKey_1 : decode cX12_isKey 1 = .ok (.ifCond .lt 14, 3) := by decide +kernel
theorem dX12_isKey_4 : decode cX12_isKey 4 = .ok (.iload_n 0, 1) := by decide +kernel
theorem dX12_isKey_5 : decode cX12_isKey 5 = .ok (.ldc_w 358, 3) := by decide +kernel
theorem dX12_isKey_8 : decode cX12_isKey 8 = .ok (.if_icmp .gt 7, 3) := by decide +kernel
theorem dX12_isKey_11 : decode cX12_isKey 11 = .ok (.iconst 1, 1) := by decide +kernel
theorem dX12_isKey_12 : decode cX12_isKey 12 = .ok (.goto 4, 3) := by decide +kernel
theorem dX12_isKey_15 : decode cX12_isKey 15 = .ok (.iconst 0, 1) := by decide +kernel
theorem dX12_isKey_16 : decode cX12_isKey 16 = .ok (.ireturn, 1) := by decide +kernel
theorem dX12_codeAt_0 : decode cX12_codeAt 0 = .ok (.lload_n 0, 1) := by decide +kernel
theorem dX12_codeAt_1 : decode cX12_codeAt 1 = .ok (.bipush 8, 2) := by decide +kernel
theorem dX12_codeAt_3 : decode cX12_codeAt 3 = .ok (.bipush 7, 2) := by decide +kernel
theorem dX12_codeAt_5 : decode cX12_codeAt 5 = .ok (.iload_n 2, 1) := by decide +kernel
theorem dX12_codeAt_6 : decode cX12_codeAt 6 = .ok (.isub, 1) := by decide +kernel
theorem dX12_codeAt_7 : decode cX12_codeAt 7 = .ok (.imul, 1) := by decide +kernel
theorem dX12_codeAt_8 : decode cX12_codeAt 8 = .ok (.lushr, 1) := by decide +kernel
theorem dX12_codeAt_9 : decode cX12_codeAt 9 = .ok (.l2i, 1) := by decide +kernel
theorem dX12_codeAt_10 : decode cX12_codeAt 10 = .ok (.sipush 255, 3) := by decide +kernel
theorem dX12_codeAt_13 : decode cX12_codeAt 13 = .ok (.iand, 1) := by decide +kernel
theorem dX12_codeAt_14 : decode cX12_codeAt 14 = .ok (.ireturn, 1) := by decide +kernel
theorem dX12_lettersOf_0 : decode cX12_lettersOf 0 = .ok (.iconst 0, 1) := by decide +kernel
theorem dX12_lettersOf_1 : decode cX12_lettersOf 1 = .ok (.istore_n 2, 1) := by decide +kernel
theorem dX12_lettersOf_2 : decode cX12_lettersOf 2 = .ok (.iconst 0, 1) := by decide +kernel
theorem dX12_lettersOf_3 : decode cX12_lettersOf 3 = .ok (.istore_n 3, 1) := by decide +kernel
theorem dX12_lettersOf_4 : decode cX12_lettersOf 4 = .ok (.iload_n 3, 1) := by decide +kernel
theorem dX12_lettersOf_5 : decode cX12_lettersOf 5 = .ok (.bipush 8, 2) := by decide +kernel
theorem dX12_lettersOf_7 : decode cX12_lettersOf 7 = .ok (.if_icmp .ge 20, 3) := by decide +kernel
theorem dX12_lettersOf_10 : decode cX12_lettersOf 10 = .ok (.lload_n 0, 1) := by decide +kernel
theorem dX12_lettersOf_11 : decode cX12_lettersOf 11 = .ok (.iload_n 3, 1) := by decide +kernel
theorem dX12_lettersOf_12 : decode cX12_lettersOf 12 = .ok (.invokestatic 252, 3) := by decide +kernel
theorem dX12_lettersOf_15 : decode cX12_lettersOf 15 = .ok (.ifCond .eq 6, 3) := by decide +kernel
theorem dX12_lettersOf_18 : decode cX12_lettersOf 18 = .ok (.iinc 2 1, 3) := by decide +kernel
theorem dX12_lettersOf_21 : decode cX12_lettersOf 21 = .ok (.iinc 3 1, 3) := by decide +kernel
theorem dX12_lettersOf_24 : decode cX12_lettersOf 24 = .ok (.goto (-20), 3) := by decide +kernel
theorem dX12_lettersOf_27 : decode cX12_lettersOf 27 = .ok (.iload_n 2, 1) := by decide +kernel
theorem dX12_lettersOf_28 : decode cX12_lettersOf 28 = .ok (.ireturn, 1) := by decide +kernel
theorem dX12_stirred_0 : decode cX12_stirred 0 = .ok (.bipush 31, 2) := by decide +kernel
theorem dX12_stirred_2 : decode cX12_stirred 2 = .ok (.iload_n 0, 1) := by decide +kernel
theorem dX12_stirred_3 : decode cX12_stirred 3 = .ok (.imul, 1) := by decide +kernel
theorem dX12_stirred_4 : decode cX12_stirred 4 = .ok (.iload_n 1, 1) := by decide +kernel
theorem dX12_stirred_5 : decode cX12_stirred 5 = .ok (.iadd, 1) := by decide +kernel
theorem dX12_stirred_6 : decode cX12_stirred 6 = .ok (.ldc_w 358, 3) := by decide +kernel
theorem dX12_stirred_9 : decode cX12_stirred 9 = .ok (.iand, 1) := by decide +kernel
theorem dX12_stirred_10 : decode cX12_stirred 10 = .ok (.istore_n 2, 1) := by decide +kernel
theorem dX12_stirred_11 : decode cX12_stirred 11 = .ok (.iload_n 2, 1) := by decide +kernel
theorem dX12_stirred_12 : decode cX12_stirred 12 = .ok (.iload_n 2, 1) := by decide +kernel
theorem dX12_stirred_13 : decode cX12_stirred 13 = .ok (.bipush 7, 2) := by decide +kernel
theorem dX12_stirred_15 : decode cX12_stirred 15 = .ok (.ishr, 1) := by decide +kernel
theorem dX12_stirred_16 : decode cX12_stirred 16 = .ok (.ixor, 1) := by decide +kernel
theorem dX12_stirred_17 : decode cX12_stirred 17 = .ok (.ireturn, 1) := by decide +kernel
theorem dX12_hashBy_0 : decode cX12_hashBy 0 = .ok (.iload_n 2, 1) := by decide +kernel
theorem dX12_hashBy_1 : decode cX12_hashBy 1 = .ok (.istore 5, 2) := by decide +kernel
theorem dX12_hashBy_3 : decode cX12_hashBy 3 = .ok (.iconst 0, 1) := by decide +kernel
theorem dX12_hashBy_4 : decode cX12_hashBy 4 = .ok (.istore 6, 2) := by decide +kernel
theorem dX12_hashBy_6 : decode cX12_hashBy 6 = .ok (.iload 6, 2) := by decide +kernel
theorem dX12_hashBy_8 : decode cX12_hashBy 8 = .ok (.bipush 8, 2) := by decide +kernel
theorem dX12_hashBy_10 : decode cX12_hashBy 10 = .ok (.if_icmp .ge 47, 3) := by decide +kernel
theorem dX12_hashBy_13 : decode cX12_hashBy 13 = .ok (.lload_n 0, 1) := by decide +kernel
theorem dX12_hashBy_14 : decode cX12_hashBy 14 = .ok (.iload 6, 2) := by decide +kernel
theorem dX12_hashBy_16 : decode cX12_hashBy 16 = .ok (.invokestatic 252, 3) := by decide +kernel
theorem dX12_hashBy_19 : decode cX12_hashBy 19 = .ok (.istore 7, 2) := by decide +kernel
theorem dX12_hashBy_21 : decode cX12_hashBy 21 = .ok (.iload 7, 2) := by decide +kernel
theorem dX12_hashBy_23 : decode cX12_hashBy 23 = .ok (.ifCond .ne 6, 3) := by decide +kernel
theorem dX12_hashBy_26 : decode cX12_hashBy 26 = .ok (.goto 31, 3) := by decide +kernel
theorem dX12_hashBy_29 : decode cX12_hashBy 29 = .ok (.iload 5, 2) := by decide +kernel
theorem dX12_hashBy_31 : decode cX12_hashBy 31 = .ok (.iload 4, 2) := by decide +kernel
theorem dX12_hashBy_33 : decode cX12_hashBy 33 = .ok (.ifCond .eq 11, 3) := by decide +kernel
theorem dX12_hashBy_36 : decode cX12_hashBy 36 = .ok (.iload 7, 2) := by decide +kernel
theorem dX12_hashBy_38 : decode cX12_hashBy 38 = .ok (.bipush 32, 2) := by decide +kernel
theorem dX12_hashBy_40 : decode cX12_hashBy 40 = .ok (.ior, 1) := by decide +kernel
theorem dX12_hashBy_41 : decode cX12_hashBy 41 = .ok (.goto 5, 3) := by decide +kernel
theorem dX12_hashBy_44 : decode cX12_hashBy 44 = .ok (.iload 7, 2) := by decide +kernel
theorem dX12_hashBy_46 : decode cX12_hashBy 46 = .ok (.invokestatic 359, 3) := by decide +kernel
theorem dX12_hashBy_49 : decode cX12_hashBy 49 = .ok (.istore 5, 2) := by decide +kernel
theorem dX12_hashBy_51 : decode cX12_hashBy 51 = .ok (.iinc 6 1, 3) := by decide +kernel
theorem dX12_hashBy_54 : decode cX12_hashBy 54 = .ok (.goto (-48), 3) := by decide +kernel
theorem dX12_hashBy_57 : decode cX12_hashBy 57 = .ok (.iload 5, 2) := by decide +kernel
theorem dX12_hashBy_59 : decode cX12_hashBy 59 = .ok (.iconst 1, 1) := by decide +kernel
theorem dX12_hashBy_60 : decode cX12_hashBy 60 = .ok (.iload_n 3, 1) := by decide +kernel
theorem dX12_hashBy_61 : decode cX12_hashBy 61 = .ok (.ishl, 1) := by decide +kernel
theorem dX12_hashBy_62 : decode cX12_hashBy 62 = .ok (.iconst 1, 1) := by decide +kernel
theorem dX12_hashBy_63 : decode cX12_hashBy 63 = .ok (.isub, 1) := by decide +kernel
theorem dX12_hashBy_64 : decode cX12_hashBy 64 = .ok (.iand, 1) := by decide +kernel
theorem dX12_hashBy_65 : decode cX12_hashBy 65 = .ok (.ireturn, 1) := by decide +kernel
theorem dX12_areOne_0 : decode cX12_areOne 0 = .ok (.iload 4, 2) := by decide +kernel
theorem dX12_areOne_2 : decode cX12_areOne 2 = .ok (.ifCond .eq 25, 3) := by decide +kernel
theorem dX12_areOne_5 : decode cX12_areOne 5 = .ok (.lload_n 0, 1) := by decide +kernel
theorem dX12_areOne_6 : decode cX12_areOne 6 = .ok (.ldc2_w 362, 3) := by decide +kernel
theorem dX12_areOne_9 : decode cX12_areOne 9 = .ok (.lor, 1) := by decide +kernel
theorem dX12_areOne_10 : decode cX12_areOne 10 = .ok (.lload_n 2, 1) := by decide +kernel
theorem dX12_areOne_11 : decode cX12_areOne 11 = .ok (.ldc2_w 362, 3) := by decide +kernel
theorem dX12_areOne_14 : decode cX12_areOne 14 = .ok (.lor, 1) := by decide +kernel
theorem dX12_areOne_15 : decode cX12_areOne 15 = .ok (.lcmp, 1) := by decide +kernel
theorem dX12_areOne_16 : decode cX12_areOne 16 = .ok (.ifCond .ne 7, 3) := by decide +kernel
theorem dX12_areOne_19 : decode cX12_areOne 19 = .ok (.iconst 1, 1) := by decide +kernel
theorem dX12_areOne_20 : decode cX12_areOne 20 = .ok (.goto 18, 3) := by decide +kernel
theorem dX12_areOne_23 : decode cX12_areOne 23 = .ok (.iconst 0, 1) := by decide +kernel
theorem dX12_areOne_24 : decode cX12_areOne 24 = .ok (.goto 14, 3) := by decide +kernel
theorem dX12_areOne_27 : decode cX12_areOne 27 = .ok (.lload_n 0, 1) := by decide +kernel
theorem dX12_areOne_28 : decode cX12_areOne 28 = .ok (.lload_n 2, 1) := by decide +kernel
theorem dX12_areOne_29 : decode cX12_areOne 29 = .ok (.lcmp, 1) := by decide +kernel
theorem dX12_areOne_30 : decode cX12_areOne 30 = .ok (.ifCond .ne 7, 3) := by decide +kernel
theorem dX12_areOne_33 : decode cX12_areOne 33 = .ok (.iconst 1, 1) := by decide +kernel
theorem dX12_areOne_34 : decode cX12_areOne 34 = .ok (.goto 4, 3) := by decide +kernel
theorem dX12_areOne_37 : decode cX12_areOne 37 = .ok (.iconst 0, 1) := by decide +kernel
theorem dX12_areOne_38 : decode cX12_areOne 38 = .ok (.ireturn, 1) := by decide +kernel
theorem dX12_groupsOf_0 : decode cX12_groupsOf 0 = .ok (.iload_n 0, 1) := by decide +kernel
theorem dX12_groupsOf_1 : decode cX12_groupsOf 1 = .ok (.iconst 4, 1) := by decide +kernel
theorem dX12_groupsOf_2 : decode cX12_groupsOf 2 = .ok (.iadd, 1) := by decide +kernel
theorem dX12_groupsOf_3 : decode cX12_groupsOf 3 = .ok (.iconst 1, 1) := by decide +kernel
theorem dX12_groupsOf_4 : decode cX12_groupsOf 4 = .ok (.isub, 1) := by decide +kernel
theorem dX12_groupsOf_5 : decode cX12_groupsOf 5 = .ok (.iconst 4, 1) := by decide +kernel
theorem dX12_groupsOf_6 : decode cX12_groupsOf 6 = .ok (.idiv, 1) := by decide +kernel
theorem dX12_groupsOf_7 : decode cX12_groupsOf 7 = .ok (.ireturn, 1) := by decide +kernel
theorem dX12_nameTold_0 : decode cX12_nameTold 0 = .ok (.aload_n 0, 1) := by decide +kernel
theorem dX12_nameTold_1 : decode cX12_nameTold 1 = .ok (.getfield 21, 3) := by decide +kernel
theorem dX12_nameTold_4 : decode cX12_nameTold 4 = .ok (.iload_n 1, 1) := by decide +kernel
theorem dX12_nameTold_5 : decode cX12_nameTold 5 = .ok (.invokevirtual 89, 3) := by decide +kernel
theorem dX12_nameTold_8 : decode cX12_nameTold 8 = .ok (.aload_n 0, 1) := by decide +kernel
theorem dX12_nameTold_9 : decode cX12_nameTold 9 = .ok (.getfield 21, 3) := by decide +kernel
theorem dX12_nameTold_12 : decode cX12_nameTold 12 = .ok (.invokevirtual 130, 3) := by decide +kernel
theorem dX12_nameTold_15 : decode cX12_nameTold 15 = .ok (.lstore_n 2, 1) := by decide +kernel
theorem dX12_nameTold_16 : decode cX12_nameTold 16 = .ok (.aload_n 0, 1) := by decide +kernel
theorem dX12_nameTold_17 : decode cX12_nameTold 17 = .ok (.getfield 21, 3) := by decide +kernel
theorem dX12_nameTold_20 : decode cX12_nameTold 20 = .ok (.invokevirtual 134, 3) := by decide +kernel
theorem dX12_nameTold_23 : decode cX12_nameTold 23 = .ok (.ifCond .ne 13, 3) := by decide +kernel
theorem dX12_nameTold_26 : decode cX12_nameTold 26 = .ok (.new 98, 3) := by decide +kernel
theorem dX12_nameTold_29 : decode cX12_nameTold 29 = .ok (.dup, 1) := by decide +kernel
theorem dX12_nameTold_30 : decode cX12_nameTold 30 = .ok (.ldc 100, 2) := by decide +kernel
theorem dX12_nameTold_32 : decode cX12_nameTold 32 = .ok (.invokespecial 102, 3) := by decide +kernel
theorem dX12_nameTold_35 : decode cX12_nameTold 35 = .ok (.athrow, 1) := by decide +kernel
theorem dX12_nameTold_36 : decode cX12_nameTold 36 = .ok (.lload_n 2, 1) := by decide +kernel
theorem dX12_nameTold_37 : decode cX12_nameTold 37 = .ok (.lreturn, 1) := by decide +kernel
theorem dX12_doByCall_0 : decode cX12_doByCall 0 = .ok (.aload_n 0, 1) := by decide +kernel
theorem dX12_doByCall_1 : decode cX12_doByCall 1 = .ok (.aload_n 0, 1) := by decide +kernel
theorem dX12_doByCall_2 : decode cX12_doByCall 2 = .ok (.getfield 50, 3) := by decide +kernel
theorem dX12_doByCall_5 : decode cX12_doByCall 5 = .ok (.aload_n 1, 1) := by decide +kernel
theorem dX12_doByCall_6 : decode cX12_doByCall 6 = .ok (.lload_n 2, 1) := by decide +kernel
theorem dX12_doByCall_7 : decode cX12_doByCall 7 = .ok (.lload 4, 2) := by decide +kernel
theorem dX12_doByCall_9 : decode cX12_doByCall 9 = .ok (.iload 6, 2) := by decide +kernel
theorem dX12_doByCall_11 : decode cX12_doByCall 11 = .ok (.invokevirtual 364, 3) := by decide +kernel
theorem dX12_doByCall_14 : decode cX12_doByCall 14 = .ok (.putfield 73, 3) := by decide +kernel
theorem dX12_doByCall_17 : decode cX12_doByCall 17 = .ok (.aload_n 0, 1) := by decide +kernel
theorem dX12_doByCall_18 : decode cX12_doByCall 18 = .ok (.getfield 73, 3) := by decide +kernel
theorem dX12_doByCall_21 : decode cX12_doByCall 21 = .ok (.ifCond .eq 14, 3) := by decide +kernel
theorem dX12_doByCall_24 : decode cX12_doByCall 24 = .ok (.new 189, 3) := by decide +kernel
theorem dX12_doByCall_27 : decode cX12_doByCall 27 = .ok (.dup, 1) := by decide +kernel
theorem dX12_doByCall_28 : decode cX12_doByCall 28 = .ok (.ldc_w 367, 3) := by decide +kernel
theorem dX12_doByCall_31 : decode cX12_doByCall 31 = .ok (.invokespecial 193, 3) := by decide +kernel
theorem dX12_doByCall_34 : decode cX12_doByCall 34 = .ok (.athrow, 1) := by decide +kernel
theorem dX12_doByCall_35 : decode cX12_doByCall 35 = .ok (.aload_n 0, 1) := by decide +kernel
theorem dX12_doByCall_36 : decode cX12_doByCall 36 = .ok (.getfield 41, 3) := by decide +kernel
theorem dX12_doByCall_39 : decode cX12_doByCall 39 = .ok (.aload_n 0, 1) := by decide +kernel
theorem dX12_doByCall_40 : decode cX12_doByCall 40 = .ok (.getfield 28, 3) := by decide +kernel
theorem dX12_doByCall_43 : decode cX12_doByCall 43 = .ok (.invokevirtual 369, 3) := by decide +kernel
theorem dX12_doByCall_46 : decode cX12_doByCall 46 = .ok (.aload_n 0, 1) := by decide +kernel
theorem dX12_doByCall_47 : decode cX12_doByCall 47 = .ok (.getfield 50, 3) := by decide +kernel
theorem dX12_doByCall_50 : decode cX12_doByCall 50 = .ok (.aload_n 1, 1) := by decide +kernel
theorem dX12_doByCall_51 : decode cX12_doByCall 51 = .ok (.lload_n 2, 1) := by decide +kernel
theorem dX12_doByCall_52 : decode cX12_doByCall 52 = .ok (.lload 4, 2) := by decide +kernel
theorem dX12_doByCall_54 : decode cX12_doByCall 54 = .ok (.iload 6, 2) := by decide +kernel
theorem dX12_doByCall_56 : decode cX12_doByCall 56 = .ok (.invokevirtual 372, 3) := by decide +kernel
theorem dX12_doByCall_59 : decode cX12_doByCall 59 = .ok (.istore 7, 2) := by decide +kernel
theorem dX12_doByCall_61 : decode cX12_doByCall 61 = .ok (.aload_n 1, 1) := by decide +kernel
theorem dX12_doByCall_62 : decode cX12_doByCall 62 = .ok (.getfield 375, 3) := by decide +kernel
theorem dX12_doByCall_65 : decode cX12_doByCall 65 = .ok (.ifCond .eq 7, 3) := by decide +kernel
theorem dX12_doByCall_68 : decode cX12_doByCall 68 = .ok (.aload_n 0, 1) := by decide +kernel
theorem dX12_doByCall_69 : decode cX12_doByCall 69 = .ok (.invokevirtual 334, 3) := by decide +kernel
theorem dX12_doByCall_72 : decode cX12_doByCall 72 = .ok (.iload 7, 2) := by decide +kernel
theorem dX12_doByCall_74 : decode cX12_doByCall 74 = .ok (.ireturn, 1) := by decide +kernel
theorem dX12_doText_0 : decode cX12_doText 0 = .ok (.aload_n 0, 1) := by decide +kernel
theorem dX12_doText_1 : decode cX12_doText 1 = .ok (.getfield 21, 3) := by decide +kernel
theorem dX12_doText_4 : decode cX12_doText 4 = .ok (.invokevirtual 378, 3) := by decide +kernel
theorem dX12_doText_7 : decode cX12_doText 7 = .ok (.ifCond .eq 5, 3) := by decide +kernel
theorem dX12_doText_10 : decode cX12_doText 10 = .ok (.iconst 0, 1) := by decide +kernel
theorem dX12_doText_11 : decode cX12_doText 11 = .ok (.ireturn, 1) := by decide +kernel
theorem dX12_doText_12 : decode cX12_doText 12 = .ok (.iconst 0, 1) := by decide +kernel
theorem dX12_doText_13 : decode cX12_doText 13 = .ok (.istore_n 1, 1) := by decide +kernel
theorem dX12_doText_14 : decode cX12_doText 14 = .ok (.iconst 1, 1) := by decide +kernel
theorem dX12_doText_15 : decode cX12_doText 15 = .ok (.istore_n 2, 1) := by decide +kernel
theorem dX12_doText_16 : decode cX12_doText 16 = .ok (.iload_n 2, 1) := by decide +kernel
theorem dX12_doText_17 : decode cX12_doText 17 = .ok (.bipush 14, 2) := by decide +kernel
theorem dX12_doText_19 : decode cX12_doText 19 = .ok (.if_icmp .gt 158, 3) := by decide +kernel
theorem dX12_doText_22 : decode cX12_doText 22 = .ok (.aload_n 0, 1) := by decide +kernel
theorem dX12_doText_23 : decode cX12_doText 23 = .ok (.getfield 21, 3) := by decide +kernel
theorem dX12_doText_26 : decode cX12_doText 26 = .ok (.invokevirtual 381, 3) := by decide +kernel
theorem dX12_doText_29 : decode cX12_doText 29 = .ok (.ifCond .ne 5, 3) := by decide +kernel
theorem dX12_doText_32 : decode cX12_doText 32 = .ok (.iconst (-1), 1) := by decide +kernel
theorem dX12_doText_33 : decode cX12_doText 33 = .ok (.ireturn, 1) := by decide +kernel
theorem dX12_doText_34 : decode cX12_doText 34 = .ok (.aload_n 0, 1) := by decide +kernel
theorem dX12_doText_35 : decode cX12_doText 35 = .ok (.getfield 50, 3) := by decide +kernel
theorem dX12_doText_38 : decode cX12_doText 38 = .ok (.aload_n 0, 1) := by decide +kernel
theorem dX12_doText_39 : decode cX12_doText 39 = .ok (.getfield 21, 3) := by decide +kernel
theorem dX12_doText_42 : decode cX12_doText 42 = .ok (.getfield 384, 3) := by decide +kernel
theorem dX12_doText_45 : decode cX12_doText 45 = .ok (.aload_n 0, 1) := by decide +kernel
theorem dX12_doText_46 : decode cX12_doText 46 = .ok (.getfield 21, 3) := by decide +kernel
theorem dX12_doText_49 : decode cX12_doText 49 = .ok (.getfield 387, 3) := by decide +kernel
theorem dX12_doText_52 : decode cX12_doText 52 = .ok (.aload_n 0, 1) := by decide +kernel
theorem dX12_doText_53 : decode cX12_doText 53 = .ok (.getfield 21, 3) := by decide +kernel
theorem dX12_doText_56 : decode cX12_doText 56 = .ok (.getfield 391, 3) := by decide +kernel
theorem dX12_doText_59 : decode cX12_doText 59 = .ok (.aload_n 0, 1) := by decide +kernel
theorem dX12_doText_60 : decode cX12_doText 60 = .ok (.getfield 21, 3) := by decide +kernel
theorem dX12_doText_63 : decode cX12_doText 63 = .ok (.getfield 394, 3) := by decide +kernel
theorem dX12_doText_66 : decode cX12_doText 66 = .ok (.invokevirtual 364, 3) := by decide +kernel
theorem dX12_doText_69 : decode cX12_doText 69 = .ok (.istore_n 3, 1) := by decide +kernel
theorem dX12_doText_70 : decode cX12_doText 70 = .ok (.iload_n 3, 1) := by decide +kernel
theorem dX12_doText_71 : decode cX12_doText 71 = .ok (.ifCond .eq 24, 3) := by decide +kernel
theorem dX12_doText_74 : decode cX12_doText 74 = .ok (.aload_n 0, 1) := by decide +kernel
theorem dX12_doText_75 : decode cX12_doText 75 = .ok (.iload_n 3, 1) := by decide +kernel
theorem dX12_doText_76 : decode cX12_doText 76 = .ok (.putfield 73, 3) := by decide +kernel
theorem dX12_doText_79 : decode cX12_doText 79 = .ok (.aload_n 0, 1) := by decide +kernel
theorem dX12_doText_80 : decode cX12_doText 80 = .ok (.getfield 21, 3) := by decide +kernel
theorem dX12_doText_83 : decode cX12_doText 83 = .ok (.aload_n 0, 1) := by decide +kernel
theorem dX12_doText_84 : decode cX12_doText 84 = .ok (.getfield 21, 3) := by decide +kernel
theorem dX12_doText_87 : decode cX12_doText 87 = .ok (.getfield 397, 3) := by decide +kernel
theorem dX12_doText_90 : decode cX12_doText 90 = .ok (.invokevirtual 400, 3) := by decide +kernel
theorem dX12_doText_93 : decode cX12_doText 93 = .ok (.iconst (-1), 1) := by decide +kernel
theorem dX12_doText_94 : decode cX12_doText 94 = .ok (.ireturn, 1) := by decide +kernel
theorem dX12_doText_95 : decode cX12_doText 95 = .ok (.aload_n 0, 1) := by decide +kernel
theorem dX12_doText_96 : decode cX12_doText 96 = .ok (.getfield 50, 3) := by decide +kernel
theorem dX12_doText_99 : decode cX12_doText 99 = .ok (.aload_n 0, 1) := by decide +kernel
theorem dX12_doText_100 : decode cX12_doText 100 = .ok (.getfield 21, 3) := by decide +kernel
theorem dX12_doText_103 : decode cX12_doText 103 = .ok (.getfield 384, 3) := by decide +kernel
theorem dX12_doText_106 : decode cX12_doText 106 = .ok (.aload_n 0, 1) := by decide +kernel
theorem dX12_doText_107 : decode cX12_doText 107 = .ok (.getfield 21, 3) := by decide +kernel
theorem dX12_doText_110 : decode cX12_doText 110 = .ok (.getfield 387, 3) := by decide +kernel
theorem dX12_doText_113 : decode cX12_doText 113 = .ok (.aload_n 0, 1) := by decide +kernel
theorem dX12_doText_114 : decode cX12_doText 114 = .ok (.getfield 21, 3) := by decide +kernel
theorem dX12_doText_117 : decode cX12_doText 117 = .ok (.getfield 391, 3) := by decide +kernel
theorem dX12_doText_120 : decode cX12_doText 120 = .ok (.aload_n 0, 1) := by decide +kernel
theorem dX12_doText_121 : decode cX12_doText 121 = .ok (.getfield 21, 3) := by decide +kernel
theorem dX12_doText_124 : decode cX12_doText 124 = .ok (.getfield 394, 3) := by decide +kernel
theorem dX12_doText_127 : decode cX12_doText 127 = .ok (.invokevirtual 372, 3) := by decide +kernel
theorem dX12_doText_130 : decode cX12_doText 130 = .ok (.pop, 1) := by decide +kernel
theorem dX12_doText_131 : decode cX12_doText 131 = .ok (.iload_n 1, 1) := by decide +kernel
theorem dX12_doText_132 : decode cX12_doText 132 = .ok (.ifCond .ne 16, 3) := by decide +kernel
theorem dX12_doText_135 : decode cX12_doText 135 = .ok (.aload_n 0, 1) := by decide +kernel
theorem dX12_doText_136 : decode cX12_doText 136 = .ok (.getfield 21, 3) := by decide +kernel
theorem dX12_doText_139 : decode cX12_doText 139 = .ok (.getfield 384, 3) := by decide +kernel
theorem dX12_doText_142 : decode cX12_doText 142 = .ok (.getfield 375, 3) := by decide +kernel
theorem dX12_doText_145 : decode cX12_doText 145 = .ok (.ifCond .eq 7, 3) := by decide +kernel
theorem dX12_doText_148 : decode cX12_doText 148 = .ok (.iconst 1, 1) := by decide +kernel
theorem dX12_doText_149 : decode cX12_doText 149 = .ok (.goto 4, 3) := by decide +kernel
theorem dX12_doText_152 : decode cX12_doText 152 = .ok (.iconst 0, 1) := by decide +kernel
theorem dX12_doText_153 : decode cX12_doText 153 = .ok (.istore_n 1, 1) := by decide +kernel
theorem dX12_doText_154 : decode cX12_doText 154 = .ok (.aload_n 0, 1) := by decide +kernel
theorem dX12_doText_155 : decode cX12_doText 155 = .ok (.getfield 21, 3) := by decide +kernel
theorem dX12_doText_158 : decode cX12_doText 158 = .ok (.invokevirtual 403, 3) := by decide +kernel
theorem dX12_doText_161 : decode cX12_doText 161 = .ok (.ifCond .ne 10, 3) := by decide +kernel
theorem dX12_doText_164 : decode cX12_doText 164 = .ok (.aload_n 0, 1) := by decide +kernel
theorem dX12_doText_165 : decode cX12_doText 165 = .ok (.iload_n 1, 1) := by decide +kernel
theorem dX12_doText_166 : decode cX12_doText 166 = .ok (.iload_n 2, 1) := by decide +kernel
theorem dX12_doText_167 : decode cX12_doText 167 = .ok (.invokevirtual 406, 3) := by decide +kernel
theorem dX12_doText_170 : decode cX12_doText 170 = .ok (.ireturn, 1) := by decide +kernel
theorem dX12_doText_171 : decode cX12_doText 171 = .ok (.iinc 2 1, 3) := by decide +kernel
theorem dX12_doText_174 : decode cX12_doText 174 = .ok (.goto (-158), 3) := by decide +kernel
theorem dX12_doText_177 : decode cX12_doText 177 = .ok (.aload_n 0, 1) := by decide +kernel
theorem dX12_doText_178 : decode cX12_doText 178 = .ok (.getfield 21, 3) := by decide +kernel
theorem dX12_doText_181 : decode cX12_doText 181 = .ok (.invokevirtual 410, 3) := by decide +kernel
theorem dX12_doText_184 : decode cX12_doText 184 = .ok (.aload_n 0, 1) := by decide +kernel
theorem dX12_doText_185 : decode cX12_doText 185 = .ok (.getfield 21, 3) := by decide +kernel
theorem dX12_doText_188 : decode cX12_doText 188 = .ok (.aload_n 0, 1) := by decide +kernel
theorem dX12_doText_189 : decode cX12_doText 189 = .ok (.getfield 21, 3) := by decide +kernel
theorem dX12_doText_192 : decode cX12_doText 192 = .ok (.getfield 413, 3) := by decide +kernel
theorem dX12_doText_195 : decode cX12_doText 195 = .ok (.invokevirtual 400, 3) := by decide +kernel
theorem dX12_doText_198 : decode cX12_doText 198 = .ok (.iconst (-1), 1) := by decide +kernel
theorem dX12_doText_199 : decode cX12_doText 199 = .ok (.ireturn, 1) := by decide +kernel
theorem dX12_endText_0 : decode cX12_endText 0 = .ok (.aload_n 0, 1) := by decide +kernel
theorem dX12_endText_1 : decode cX12_endText 1 = .ok (.getfield 21, 3) := by decide +kernel
theorem dX12_endText_4 : decode cX12_endText 4 = .ok (.invokevirtual 134, 3) := by decide +kernel
theorem dX12_endText_7 : decode cX12_endText 7 = .ok (.ifCond .ne 5, 3) := by decide +kernel
theorem dX12_endText_10 : decode cX12_endText 10 = .ok (.iconst (-1), 1) := by decide +kernel
theorem dX12_endText_11 : decode cX12_endText 11 = .ok (.ireturn, 1) := by decide +kernel
theorem dX12_endText_12 : decode cX12_endText 12 = .ok (.iload_n 1, 1) := by decide +kernel
theorem dX12_endText_13 : decode cX12_endText 13 = .ok (.ifCond .eq 7, 3) := by decide +kernel
theorem dX12_endText_16 : decode cX12_endText 16 = .ok (.aload_n 0, 1) := by decide +kernel
theorem dX12_endText_17 : decode cX12_endText 17 = .ok (.invokevirtual 334, 3) := by decide +kernel
theorem dX12_endText_20 : decode cX12_endText 20 = .ok (.iload_n 2, 1) := by decide +kernel
theorem dX12_endText_21 : decode cX12_endText 21 = .ok (.ireturn, 1) := by decide +kernel
theorem dX12_closeReaders_0 : decode cX12_closeReaders 0 = .ok (.iconst 0, 1) := by decide +kernel
theorem dX12_closeReaders_1 : decode cX12_closeReaders 1 = .ok (.istore_n 1, 1) := by decide +kernel
theorem dX12_closeReaders_2 : decode cX12_closeReaders 2 = .ok (.iload_n 1, 1) := by decide +kernel
theorem dX12_closeReaders_3 : decode cX12_closeReaders 3 = .ok (.iconst 4, 1) := by decide +kernel
theorem dX12_closeReaders_4 : decode cX12_closeReaders 4 = .ok (.if_icmp .ge 19, 3) := by decide +kernel
theorem dX12_closeReaders_7 : decode cX12_closeReaders 7 = .ok (.aload_n 0, 1) := by decide +kernel
theorem dX12_closeReaders_8 : decode cX12_closeReaders 8 = .ok (.getfield 65, 3) := by decide +kernel
theorem dX12_closeReaders_11 : decode cX12_closeReaders 11 = .ok (.iload_n 1, 1) := by decide +kernel
theorem dX12_closeReaders_12 : decode cX12_closeReaders 12 = .ok (.aaload, 1) := by decide +kernel
theorem dX12_closeReaders_13 : decode cX12_closeReaders 13 = .ok (.iconst 0, 1) := by decide +kernel
theorem dX12_closeReaders_14 : decode cX12_closeReaders 14 = .ok (.putfield 301, 3) := by decide +kernel
theorem dX12_closeReaders_17 : decode cX12_closeReaders 17 = .ok (.iinc 1 1, 3) := by decide +kernel
theorem dX12_closeReaders_20 : decode cX12_closeReaders 20 = .ok (.goto (-18), 3) := by decide +kernel
theorem dX12_closeReaders_23 : decode cX12_closeReaders 23 = .ok (.return_, 1) := by decide +kernel
