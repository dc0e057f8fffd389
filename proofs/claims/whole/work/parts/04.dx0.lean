theorem dX1_takesNumber_0 : decode cX1_takesNumber 0 = .ok (.aload_n 0, 1) := by decide +kernel
theorem dX1_takesNumber_1 : decode cX1_takesNumber 1 = .ok (.getfield 63, 3) := by decide +kernel
theorem dX1_takesNumber_4 : decode cX1_takesNumber 4 = .ok (.iconst (-1), 1) := by decide +kernel
theorem dX1_takesNumber_5 : decode cX1_takesNumber 5 = .ok (.if_icmp .eq 7, 3) := by decide +kernel
theorem dX1_takesNumber_8 : decode cX1_takesNumber 8 = .ok (.iconst 1, 1) := by decide +kernel
theorem dX1_takesNumber_9 : decode cX1_takesNumber 9 = .ok (.goto 4, 3) := by decide +kernel
theorem dX1_takesNumber_12 : decode cX1_takesNumber 12 = .ok (.iconst 0, 1) := by decide +kernel
theorem dX1_takesNumber_13 : decode cX1_takesNumber 13 = .ok (.ireturn, 1) := by decide +kernel
theorem dX2_init_0 : decode cX2_init 0 = .ok (.aload_n 0, 1) := by decide +kernel
theorem dX2_init_1 : decode cX2_init 1 = .ok (.invokespecial 3, 3) := by decide +kernel
theorem dX2_init_4 : decode cX2_init 4 = .ok (.aload_n 0, 1) := by decide +kernel
theorem dX2_init_5 : decode cX2_init 5 = .ok (.bipush 60, 2) := by decide +kernel
theorem dX2_init_7 : decode cX2_init 7 = .ok (.newarray .int, 2) := by decide +kernel
theorem dX2_init_9 : decode cX2_init 9 = .ok (.putfield 9, 3) := by decide +kernel
theorem dX2_init_12 : decode cX2_init 12 = .ok (.aload_n 0, 1) := by decide +kernel
theorem dX2_init_13 : decode cX2_init 13 = .ok (.iconst 0, 1) := by decide +kernel
theorem dX2_init_14 : decode cX2_init 14 = .ok (.putfield 15, 3) := by decide +kernel
theorem dX2_init_17 : decode cX2_init 17 = .ok (.aload_n 0, 1) := by decide +kernel
theorem dX2_init_18 : decode cX2_init 18 = .ok (.iconst 0, 1) := by decide +kernel
theorem dX2_init_19 : decode cX2_init 19 = .ok (.putfield 19, 3) := by decide +kernel
theorem dX2_init_22 : decode cX2_init 22 = .ok (.aload_n 0, 1) := by decide +kernel
theorem dX2_init_23 : decode cX2_init 23 = .ok (.iconst 0, 1) := by decide +kernel
theorem dX2_init_24 : decode cX2_init 24 = .ok (.putfield 23, 3) := by decide +kernel
theorem dX2_init_27 : decode cX2_init 27 = .ok (.aload_n 0, 1) := by decide +kernel
theorem dX2_init_28 : decode cX2_init 28 = .ok (.iconst 0, 1) := by decide +kernel
theorem dX2_init_29 : decode cX2_init 29 = .ok (.putfield 26, 3) := by decide +kernel
theorem dX2_init_32 : decode cX2_init 32 = .ok (.return_, 1) := by decide +kernel
theorem dX2_restart_0 : decode cX2_restart 0 = .ok (.aload_n 0, 1) := by decide +kernel
theorem dX2_restart_1 : decode cX2_restart 1 = .ok (.iconst 1, 1) := by decide +kernel
theorem dX2_restart_2 : decode cX2_restart 2 = .ok (.putfield 15, 3) := by decide +kernel
theorem dX2_restart_5 : decode cX2_restart 5 = .ok (.aload_n 0, 1) := by decide +kernel
theorem dX2_restart_6 : decode cX2_restart 6 = .ok (.iconst 0, 1) := by decide +kernel
theorem dX2_restart_7 : decode cX2_restart 7 = .ok (.putfield 19, 3) := by decide +kernel
theorem dX2_restart_10 : decode cX2_restart 10 = .ok (.aload_n 0, 1) := by decide +kernel
theorem dX2_restart_11 : decode cX2_restart 11 = .ok (.iconst 0, 1) := by decide +kernel
theorem dX2_restart_12 : decode cX2_restart 12 = .ok (.putfield 23, 3) := by decide +kernel
theorem dX2_restart_15 : decode cX2_restart 15 = .ok (.aload_n 0, 1) := by decide +kernel
theorem dX2_restart_16 : decode cX2_restart 16 = .ok (.iconst 0, 1) := by decide +kernel
theorem dX2_restart_17 : decode cX2_restart 17 = .ok (.putfield 26, 3) := by decide +kernel
theorem dX2_restart_20 : decode cX2_restart 20 = .ok (.return_, 1) := by decide +kernel
theorem dX2_take_0 : decode cX2_take 0 = .ok (.aload_n 0, 1) := by decide +kernel
theorem dX2_take_1 : decode cX2_take 1 = .ok (.aload_n 1, 1) := by decide +kernel
theorem dX2_take_2 : decode cX2_take 2 = .ok (.getfield 29, 3) := by decide +kernel
theorem dX2_take_5 : decode cX2_take 5 = .ok (.bipush 60, 2) := by decide +kernel
theorem dX2_take_7 : decode cX2_take 7 = .ok (.invokestatic 32, 3) := by decide +kernel
theorem dX2_take_10 : decode cX2_take 10 = .ok (.putfield 26, 3) := by decide +kernel
theorem dX2_take_13 : decode cX2_take 13 = .ok (.iconst 0, 1) := by decide +kernel
theorem dX2_take_14 : decode cX2_take 14 = .ok (.istore_n 3, 1) := by decide +kernel
theorem dX2_take_15 : decode cX2_take 15 = .ok (.iload_n 3, 1) := by decide +kernel
theorem dX2_take_16 : decode cX2_take 16 = .ok (.aload_n 0, 1) := by decide +kernel
theorem dX2_take_17 : decode cX2_take 17 = .ok (.getfield 26, 3) := by decide +kernel
theorem dX2_take_20 : decode cX2_take 20 = .ok (.if_icmp .ge 21, 3) := by decide +kernel
theorem dX2_take_23 : decode cX2_take 23 = .ok (.aload_n 0, 1) := by decide +kernel
theorem dX2_take_24 : decode cX2_take 24 = .ok (.getfield 9, 3) := by decide +kernel
theorem dX2_take_27 : decode cX2_take 27 = .ok (.iload_n 3, 1) := by decide +kernel
theorem dX2_take_28 : decode cX2_take 28 = .ok (.aload_n 1, 1) := by decide +kernel
theorem dX2_take_29 : decode cX2_take 29 = .ok (.getfield 38, 3) := by decide +kernel
theorem dX2_take_32 : decode cX2_take 32 = .ok (.iload_n 3, 1) := by decide +kernel
theorem dX2_take_33 : decode cX2_take 33 = .ok (.iaload, 1) := by decide +kernel
theorem dX2_take_34 : decode cX2_take 34 = .ok (.iastore, 1) := by decide +kernel
theorem dX2_take_35 : decode cX2_take 35 = .ok (.iinc 3 1, 3) := by decide +kernel
theorem dX2_take_38 : decode cX2_take 38 = .ok (.goto (-23), 3) := by decide +kernel
theorem dX2_take_41 : decode cX2_take 41 = .ok (.aload_n 1, 1) := by decide +kernel
theorem dX2_take_42 : decode cX2_take 42 = .ok (.getfield 29, 3) := by decide +kernel
theorem dX2_take_45 : decode cX2_take 45 = .ok (.ifCond .le 23, 3) := by decide +kernel
theorem dX2_take_48 : decode cX2_take 48 = .ok (.aload_n 0, 1) := by decide +kernel
theorem dX2_take_49 : decode cX2_take 49 = .ok (.dup, 1) := by decide +kernel
theorem dX2_take_50 : decode cX2_take 50 = .ok (.getfield 23, 3) := by decide +kernel
theorem dX2_take_53 : decode cX2_take 53 = .ok (.aload_n 1, 1) := by decide +kernel
theorem dX2_take_54 : decode cX2_take 54 = .ok (.getfield 29, 3) := by decide +kernel
theorem dX2_take_57 : decode cX2_take 57 = .ok (.iadd, 1) := by decide +kernel
theorem dX2_take_58 : decode cX2_take 58 = .ok (.putfield 23, 3) := by decide +kernel
theorem dX2_take_61 : decode cX2_take 61 = .ok (.aload_n 0, 1) := by decide +kernel
theorem dX2_take_62 : decode cX2_take 62 = .ok (.iload_n 2, 1) := by decide +kernel
theorem dX2_take_63 : decode cX2_take 63 = .ok (.iconst 1, 1) := by decide +kernel
theorem dX2_take_64 : decode cX2_take 64 = .ok (.iadd, 1) := by decide +kernel
theorem dX2_take_65 : decode cX2_take 65 = .ok (.putfield 19, 3) := by decide +kernel
theorem dX2_take_68 : decode cX2_take 68 = .ok (.return_, 1) := by decide +kernel
theorem dX3_init_0 : decode cX3_init 0 = .ok (.aload_n 0, 1) := by decide +kernel
theorem dX3_init_1 : decode cX3_init 1 = .ok (.invokespecial 3, 3) := by decide +kernel
theorem dX3_init_4 : decode cX3_init 4 = .ok (.aload_n 0, 1) := by decide +kernel
theorem dX3_init_5 : decode cX3_init 5 = .ok (.bipush 8, 2) := by decide +kernel
theorem dX3_init_7 : decode cX3_init 7 = .ok (.anewarray 9, 3) := by decide +kernel
theorem dX3_init_10 : decode cX3_init 10 = .ok (.putfield 11, 3) := by decide +kernel
theorem dX3_init_13 : decode cX3_init 13 = .ok (.aload_n 0, 1) := by decide +kernel
theorem dX3_init_14 : decode cX3_init 14 = .ok (.iconst 0, 1) := by decide +kernel
theorem dX3_init_15 : decode cX3_init 15 = .ok (.putfield 17, 3) := by decide +kernel
theorem dX3_init_18 : decode cX3_init 18 = .ok (.aload_n 0, 1) := by decide +kernel
theorem dX3_init_19 : decode cX3_init 19 = .ok (.iconst 0, 1) := by decide +kernel
theorem dX3_init_20 : decode cX3_init 20 = .ok (.putfield 21, 3) := by decide +kernel
theorem dX3_init_23 : decode cX3_init 23 = .ok (.iconst 0, 1) := by decide +kernel
theorem dX3_init_24 : decode cX3_init 24 = .ok (.istore_n 1, 1) := by decide +kernel
theorem dX3_init_25 : decode cX3_init 25 = .ok (.iload_n 1, 1) := by decide +kernel
theorem dX3_init_26 : decode cX3_init 26 = .ok (.bipush 8, 2) := by decide +kernel
theorem dX3_init_28 : decode cX3_init 28 = .ok (.if_icmp .ge 22, 3) := by decide +kernel
theorem dX3_init_31 : decode cX3_init 31 = .ok (.aload_n 0, 1) := by decide +kernel
theorem dX3_init_32 : decode cX3_init 32 = .ok (.getfield 11, 3) := by decide +kernel
theorem dX3_init_35 : decode cX3_init 35 = .ok (.iload_n 1, 1) := by decide +kernel
theorem dX3_init_36 : decode cX3_init 36 = .ok (.new 9, 3) := by decide +kernel
theorem dX3_init_39 : decode cX3_init 39 = .ok (.dup, 1) := by decide +kernel
theorem dX3_init_40 : decode cX3_init 40 = .ok (.invokespecial 24, 3) := by decide +kernel
theorem dX3_init_43 : decode cX3_init 43 = .ok (.aastore, 1) := by decide +kernel
theorem dX3_init_44 : decode cX3_init 44 = .ok (.iinc 1 1, 3) := by decide +kernel
theorem dX3_init_47 : decode cX3_init 47 = .ok (.goto (-22), 3) := by decide +kernel
theorem dX3_init_50 : decode cX3_init 50 = .ok (.return_, 1) := by decide +kernel
theorem dX3_remember_0 : decode cX3_remember 0 = .ok (.aload_n 0, 1) := by decide +kernel
theorem dX3_remember_1 : decode cX3_remember 1 = .ok (.getfield 11, 3) := by decide +kernel
theorem dX3_remember_4 : decode cX3_remember 4 = .ok (.aload_n 0, 1) := by decide +kernel
theorem dX3_remember_5 : decode cX3_remember 5 = .ok (.getfield 21, 3) := by decide +kernel
theorem dX3_remember_8 : decode cX3_remember 8 = .ok (.aaload, 1) := by decide +kernel
theorem dX3_remember_9 : decode cX3_remember 9 = .ok (.aload_n 1, 1) := by decide +kernel
theorem dX3_remember_10 : decode cX3_remember 10 = .ok (.invokevirtual 25, 3) := by decide +kernel
theorem dX3_remember_13 : decode cX3_remember 13 = .ok (.aload_n 0, 1) := by decide +kernel
theorem dX3_remember_14 : decode cX3_remember 14 = .ok (.aload_n 0, 1) := by decide +kernel
theorem dX3_remember_15 : decode cX3_remember 15 = .ok (.getfield 21, 3) := by decide +kernel
theorem dX3_remember_18 : decode cX3_remember 18 = .ok (.iconst 1, 1) := by decide +kernel
theorem dX3_remember_19 : decode cX3_remember 19 = .ok (.iadd, 1) := by decide +kernel
theorem dX3_remember_20 : decode cX3_remember 20 = .ok (.bipush 8, 2) := by decide +kernel
theorem dX3_remember_22 : decode cX3_remember 22 = .ok (.irem, 1) := by decide +kernel
theorem dX3_remember_23 : decode cX3_remember 23 = .ok (.putfield 21, 3) := by decide +kernel
theorem dX3_remember_26 : decode cX3_remember 26 = .ok (.aload_n 0, 1) := by decide +kernel
theorem dX3_remember_27 : decode cX3_remember 27 = .ok (.aload_n 0, 1) := by decide +kernel
theorem dX3_remember_28 : decode cX3_remember 28 = .ok (.getfield 17, 3) := by decide +kernel
theorem dX3_remember_31 : decode cX3_remember 31 = .ok (.iconst 1, 1) := by decide +kernel
theorem dX3_remember_32 : decode cX3_remember 32 = .ok (.iadd, 1) := by decide +kernel
theorem dX3_remember_33 : decode cX3_remember 33 = .ok (.bipush 8, 2) := by decide +kernel
theorem dX3_remember_35 : decode cX3_remember 35 = .ok (.invokestatic 29, 3) := by decide +kernel
theorem dX3_remember_38 : decode cX3_remember 38 = .ok (.putfield 17, 3) := by decide +kernel
theorem dX3_remember_41 : decode cX3_remember 41 = .ok (.return_, 1) := by decide +kernel
theorem dX3_takeBack_0 : decode cX3_takeBack 0 = .ok (.aload_n 0, 1) := by decide +kernel
theorem dX3_takeBack_1 : decode cX3_takeBack 1 = .ok (.aload_n 0, 1) := by decide +kernel
theorem dX3_takeBack_2 : decode cX3_takeBack 2 = .ok (.getfield 21, 3) := by decide +kernel
theorem dX3_takeBack_5 : decode cX3_takeBack 5 = .ok (.bipush 8, 2) := by decide +kernel
theorem dX3_takeBack_7 : decode cX3_takeBack 7 = .ok (.iadd, 1) := by decide +kernel
theorem dX3_takeBack_8 : decode cX3_takeBack 8 = .ok (.iconst 1, 1) := by decide +kernel
theorem dX3_takeBack_9 : decode cX3_takeBack 9 = .ok (.isub, 1) := by decide +kernel
theorem dX3_takeBack_10 : decode cX3_takeBack 10 = .ok (.bipush 8, 2) := by decide +kernel
theorem dX3_takeBack_12 : decode cX3_takeBack 12 = .ok (.irem, 1) := by decide +kernel
theorem dX3_takeBack_13 : decode cX3_takeBack 13 = .ok (.putfield 21, 3) := by decide +kernel
theorem dX3_takeBack_16 : decode cX3_takeBack 16 = .ok (.aload_n 1, 1) := by decide +kernel
theorem dX3_takeBack_17 : decode cX3_takeBack 17 = .ok (.aload_n 0, 1) := by decide +kernel
theorem dX3_takeBack_18 : decode cX3_takeBack 18 = .ok (.getfield 11, 3) := by decide +kernel
theorem dX3_takeBack_21 : decode cX3_takeBack 21 = .ok (.aload_n 0, 1) := by decide +kernel
theorem dX3_takeBack_22 : decode cX3_takeBack 22 = .ok (.getfield 21, 3) := by decide +kernel
theorem dX3_takeBack_25 : decode cX3_takeBack 25 = .ok (.aaload, 1) := by decide +kernel
theorem dX3_takeBack_26 : decode cX3_takeBack 26 = .ok (.invokevirtual 25, 3) := by decide +kernel
theorem dX3_takeBack_29 : decode cX3_takeBack 29 = .ok (.aload_n 0, 1) := by decide +kernel
theorem dX3_takeBack_30 : decode cX3_takeBack 30 = .ok (.dup, 1) := by decide +kernel
theorem dX3_takeBack_31 : decode cX3_takeBack 31 = .ok (.getfield 17, 3) := by decide +kernel
theorem dX3_takeBack_34 : decode cX3_takeBack 34 = .ok (.iconst 1, 1) := by decide +kernel
theorem dX3_takeBack_35 : decode cX3_takeBack 35 = .ok (.isub, 1) := by decide +kernel
theorem dX3_takeBack_36 : decode cX3_takeBack 36 = .ok (.putfield 17, 3) := by decide +kernel
theorem dX3_takeBack_39 : decode cX3_takeBack 39 = .ok (.return_, 1) := by decide +kernel
theorem dX3_forget_0 : decode cX3_forget 0 = .ok (.aload_n 0, 1) := by decide +kernel
theorem dX3_forget_1 : decode cX3_forget 1 = .ok (.iconst 0, 1) := by decide +kernel
theorem dX3_forget_2 : decode cX3_forget 2 = .ok (.putfield 17, 3) := by decide +kernel
theorem dX3_forget_5 : decode cX3_forget 5 = .ok (.return_, 1) := by decide +kernel
theorem dX4_init_0 : decode cX4_init 0 = .ok (.aload_n 0, 1) := by decide +kernel
theorem dX4_init_1 : decode cX4_init 1 = .ok (.invokespecial 3, 3) := by decide +kernel
theorem dX4_init_4 : decode cX4_init 4 = .ok (.aload_n 0, 1) := by decide +kernel
theorem dX4_init_5 : decode cX4_init 5 = .ok (.new 9, 3) := by decide +kernel
theorem dX4_init_8 : decode cX4_init 8 = .ok (.dup, 1) := by decide +kernel
theorem dX4_init_9 : decode cX4_init 9 = .ok (.invokespecial 11, 3) := by decide +kernel
theorem dX4_init_12 : decode cX4_init 12 = .ok (.putfield 12, 3) := by decide +kernel
theorem dX4_init_15 : decode cX4_init 15 = .ok (.aload_n 0, 1) := by decide +kernel
theorem dX4_init_16 : decode cX4_init 16 = .ok (.new 18, 3) := by decide +kernel
theorem dX4_init_19 : decode cX4_init 19 = .ok (.dup, 1) := by decide +kernel
theorem dX4_init_20 : decode cX4_init 20 = .ok (.invokespecial 20, 3) := by decide +kernel
theorem dX4_init_23 : decode cX4_init 23 = .ok (.putfield 21, 3) := by decide +kernel
theorem dX4_init_26 : decode cX4_init 26 = .ok (.aload_n 0, 1) := by decide +kernel
theorem dX4_init_27 : decode cX4_init 27 = .ok (.new 25, 3) := by decide +kernel
theorem dX4_init_30 : decode cX4_init 30 = .ok (.dup, 1) := by decide +kernel
theorem dX4_init_31 : decode cX4_init 31 = .ok (.invokespecial 27, 3) := by decide +kernel
theorem dX4_init_34 : decode cX4_init 34 = .ok (.putfield 28, 3) := by decide +kernel
theorem dX4_init_37 : decode cX4_init 37 = .ok (.aload_n 0, 1) := by decide +kernel
theorem dX4_init_38 : decode cX4_init 38 = .ok (.iconst 0, 1) := by decide +kernel
theorem dX4_init_39 : decode cX4_init 39 = .ok (.putfield 32, 3) := by decide +kernel
theorem dX4_init_42 : decode cX4_init 42 = .ok (.aload_n 0, 1) := by decide +kernel
theorem dX4_init_43 : decode cX4_init 43 = .ok (.aload_n 1, 1) := by decide +kernel
theorem dX4_init_44 : decode cX4_init 44 = .ok (.putfield 36, 3) := by decide +kernel
theorem dX4_init_47 : decode cX4_init 47 = .ok (.return_, 1) := by decide +kernel
theorem dX4_trace_0 : decode cX4_trace 0 = .ok (.aload_n 0, 1) := by decide +kernel
theorem dX4_trace_1 : decode cX4_trace 1 = .ok (.getfield 12, 3) := by decide +kernel
theorem dX4_trace_4 : decode cX4_trace 4 = .ok (.aload_n 0, 1) := by decide +kernel
theorem dX4_trace_5 : decode cX4_trace 5 = .ok (.getfield 36, 3) := by decide +kernel
theorem dX4_trace_8 : decode cX4_trace 8 = .ok (.invokevirtual 40, 3) := by decide +kernel
theorem dX4_trace_11 : decode cX4_trace 11 = .ok (.aload_n 0, 1) := by decide +kernel
theorem dX4_trace_12 : decode cX4_trace 12 = .ok (.getfield 21, 3) := by decide +kernel
theorem dX4_trace_15 : decode cX4_trace 15 = .ok (.aload_n 0, 1) := by decide +kernel
theorem dX4_trace_16 : decode cX4_trace 16 = .ok (.getfield 36, 3) := by decide +kernel
theorem dX4_trace_19 : decode cX4_trace 19 = .ok (.aload_n 0, 1) := by decide +kernel
theorem dX4_trace_20 : decode cX4_trace 20 = .ok (.getfield 12, 3) := by decide +kernel
theorem dX4_trace_23 : decode cX4_trace 23 = .ok (.iload_n 1, 1) := by decide +kernel
theorem dX4_trace_24 : decode cX4_trace 24 = .ok (.invokevirtual 44, 3) := by decide +kernel
theorem dX4_trace_27 : decode cX4_trace 27 = .ok (.return_, 1) := by decide +kernel
theorem dX4_look_0 : decode cX4_look 0 = .ok (.aload_n 0, 1) := by decide +kernel
theorem dX4_look_1 : decode cX4_look 1 = .ok (.getfield 36, 3) := by decide +kernel
theorem dX4_look_4 : decode cX4_look 4 = .ok (.invokevirtual 48, 3) := by decide +kernel
theorem dX4_look_7 : decode cX4_look 7 = .ok (.ifCond .le 9, 3) := by decide +kernel
theorem dX4_look_10 : decode cX4_look 10 = .ok (.aload_n 0, 1) := by decide +kernel
theorem dX4_look_11 : decode cX4_look 11 = .ok (.lload_n 1, 1) := by decide +kernel
theorem dX4_look_12 : decode cX4_look 12 = .ok (.invokevirtual 54, 3) := by decide +kernel
theorem dX4_look_15 : decode cX4_look 15 = .ok (.ireturn, 1) := by decide +kernel
theorem dX4_look_16 : decode cX4_look 16 = .ok (.aload_n 0, 1) := by decide +kernel
theorem dX4_look_17 : decode cX4_look 17 = .ok (.aload_n 0, 1) := by decide +kernel
theorem dX4_look_18 : decode cX4_look 18 = .ok (.getfield 36, 3) := by decide +kernel
theorem dX4_look_21 : decode cX4_look 21 = .ok (.lload_n 1, 1) := by decide +kernel
theorem dX4_look_22 : decode cX4_look 22 = .ok (.invokevirtual 58, 3) := by decide +kernel
theorem dX4_look_25 : decode cX4_look 25 = .ok (.invokevirtual 61, 3) := by decide +kernel
theorem dX4_look_28 : decode cX4_look 28 = .ok (.aload_n 0, 1) := by decide +kernel
theorem dX4_look_29 : decode cX4_look 29 = .ok (.aload_n 0, 1) := by decide +kernel
theorem dX4_look_30 : decode cX4_look 30 = .ok (.getfield 21, 3) := by decide +kernel
theorem dX4_look_33 : decode cX4_look 33 = .ok (.getfield 64, 3) := by decide +kernel
theorem dX4_look_36 : decode cX4_look 36 = .ok (.putfield 32, 3) := by decide +kernel
theorem dX4_look_39 : decode cX4_look 39 = .ok (.aload_n 0, 1) := by decide +kernel
theorem dX4_look_40 : decode cX4_look 40 = .ok (.getfield 21, 3) := by decide +kernel
theorem dX4_look_43 : decode cX4_look 43 = .ok (.getfield 64, 3) := by decide +kernel
theorem dX4_look_46 : decode cX4_look 46 = .ok (.istore_n 3, 1) := by decide +kernel
theorem dX4_look_47 : decode cX4_look 47 = .ok (.iload_n 3, 1) := by decide +kernel
theorem dX4_look_48 : decode cX4_look 48 = .ok (.aload_n 0, 1) := by decide +kernel
theorem dX4_look_49 : decode cX4_look 49 = .ok (.getfield 21, 3) := by decide +kernel
theorem dX4_look_52 : decode cX4_look 52 = .ok (.getfield 67, 3) := by decide +kernel
theorem dX4_look_55 : decode cX4_look 55 = .ok (.if_icmp .ge 44, 3) := by decide +kernel
theorem dX4_look_58 : decode cX4_look 58 = .ok (.aload_n 0, 1) := by decide +kernel
theorem dX4_look_59 : decode cX4_look 59 = .ok (.dup, 1) := by decide +kernel
theorem dX4_look_60 : decode cX4_look 60 = .ok (.getfield 32, 3) := by decide +kernel
theorem dX4_look_63 : decode cX4_look 63 = .ok (.iconst 1, 1) := by decide +kernel
theorem dX4_look_64 : decode cX4_look 64 = .ok (.iadd, 1) := by decide +kernel
theorem dX4_look_65 : decode cX4_look 65 = .ok (.putfield 32, 3) := by decide +kernel
theorem dX4_look_68 : decode cX4_look 68 = .ok (.aload_n 0, 1) := by decide +kernel
theorem dX4_look_69 : decode cX4_look 69 = .ok (.aload_n 0, 1) := by decide +kernel
theorem dX4_look_70 : decode cX4_look 70 = .ok (.getfield 21, 3) := by decide +kernel
theorem dX4_look_73 : decode cX4_look 73 = .ok (.getfield 70, 3) := by decide +kernel
theorem dX4_look_76 : decode cX4_look 76 = .ok (.iload_n 3, 1) := by decide +kernel
theorem dX4_look_77 : decode cX4_look 77 = .ok (.iaload, 1) := by decide +kernel
theorem dX4_look_78 : decode cX4_look 78 = .ok (.lload_n 1, 1) := by decide +kernel
theorem dX4_look_79 : decode cX4_look 79 = .ok (.invokevirtual 74, 3) := by decide +kernel
theorem dX4_look_82 : decode cX4_look 82 = .ok (.istore 4, 2) := by decide +kernel
theorem dX4_look_84 : decode cX4_look 84 = .ok (.iload 4, 2) := by decide +kernel
theorem dX4_look_86 : decode cX4_look 86 = .ok (.iconst (-1), 1) := by decide +kernel
theorem dX4_look_87 : decode cX4_look 87 = .ok (.if_icmp .eq 6, 3) := by decide +kernel
theorem dX4_look_90 : decode cX4_look 90 = .ok (.iload 4, 2) := by decide +kernel
theorem dX4_look_92 : decode cX4_look 92 = .ok (.ireturn, 1) := by decide +kernel
theorem dX4_look_93 : decode cX4_look 93 = .ok (.iinc 3 1, 3) := by decide +kernel
theorem dX4_look_96 : decode cX4_look 96 = .ok (.goto (-49), 3) := by decide +kernel
theorem dX4_look_99 : decode cX4_look 99 = .ok (.iconst (-1), 1) := by decide +kernel
theorem dX4_look_100 : decode cX4_look 100 = .ok (.ireturn, 1) := by decide +kernel
theorem dX4_lookEverywhere_0 : decode cX4_lookEverywhere 0 = .ok (.aload_n 0, 1) := by decide +kernel
theorem dX4_lookEverywhere_1 : decode cX4_lookEverywhere 1 = .ok (.iconst 1, 1) := by decide +kernel
theorem dX4_lookEverywhere_2 : decode cX4_lookEverywhere 2 = .ok (.putfield 32, 3) := by decide +kernel
theorem dX4_lookEverywhere_5 : decode cX4_lookEverywhere 5 = .ok (.iconst 0, 1) := by decide +kernel
theorem dX4_lookEverywhere_6 : decode cX4_lookEverywhere 6 = .ok (.istore_n 3, 1) := by decide +kernel
theorem dX4_lookEverywhere_7 : decode cX4_lookEverywhere 7 = .ok (.iload_n 3, 1) := by decide +kernel
theorem dX4_lookEverywhere_8 : decode cX4_lookEverywhere 8 = .ok (.bipush 40, 2) := by decide +kernel
theorem dX4_lookEverywhere_10 : decode cX4_lookEverywhere 10 = .ok (.if_icmp .ge 49, 3) := by decide +kernel
theorem dX4_lookEverywhere_13 : decode cX4_lookEverywhere 13 = .ok (.aload_n 0, 1) := by decide +kernel
theorem dX4_lookEverywhere_14 : decode cX4_lookEverywhere 14 = .ok (.getfield 36, 3) := by decide +kernel
theorem dX4_lookEverywhere_17 : decode cX4_lookEverywhere 17 = .ok (.getfield 78, 3) := by decide +kernel
theorem dX4_lookEverywhere_20 : decode cX4_lookEverywhere 20 = .ok (.iload_n 3, 1) := by decide +kernel
theorem dX4_lookEverywhere_21 : decode cX4_lookEverywhere 21 = .ok (.iaload, 1) := by decide +kernel
theorem dX4_lookEverywhere_22 : decode cX4_lookEverywhere 22 = .ok (.iconst 1, 1) := by decide +kernel
theorem dX4_lookEverywhere_23 : decode cX4_lookEverywhere 23 = .ok (.if_icmp .ne 30, 3) := by decide +kernel
theorem dX4_lookEverywhere_26 : decode cX4_lookEverywhere 26 = .ok (.aload_n 0, 1) := by decide +kernel
theorem dX4_lookEverywhere_27 : decode cX4_lookEverywhere 27 = .ok (.dup, 1) := by decide +kernel
theorem dX4_lookEverywhere_28 : decode cX4_lookEverywhere 28 = .ok (.getfield 32, 3) := by decide +kernel
theorem dX4_lookEverywhere_31 : decode cX4_lookEverywhere 31 = .ok (.iconst 1, 1) := by decide +kernel
theorem dX4_lookEverywhere_32 : decode cX4_lookEverywhere 32 = .ok (.iadd, 1) := by decide +kernel
theorem dX4_lookEverywhere_33 : decode cX4_lookEverywhere 33 = .ok (.putfield 32, 3) := by decide +kernel
theorem dX4_lookEverywhere_36 : decode cX4_lookEverywhere 36 = .ok (.aload_n 0, 1) := by decide +kernel
theorem dX4_lookEverywhere_37 : decode cX4_lookEverywhere 37 = .ok (.iload_n 3, 1) := by decide +kernel
theorem dX4_lookEverywhere_38 : decode cX4_lookEverywhere 38 = .ok (.lload_n 1, 1) := by decide +kernel
theorem dX4_lookEverywhere_39 : decode cX4_lookEverywhere 39 = .ok (.invokevirtual 74, 3) := by decide +kernel
theorem dX4_lookEverywhere_42 : decode cX4_lookEverywhere 42 = .ok (.istore 4, 2) := by decide +kernel
theorem dX4_lookEverywhere_44 : decode cX4_lookEverywhere 44 = .ok (.iload 4, 2) := by decide +kernel
theorem dX4_lookEverywhere_46 : decode cX4_lookEverywhere 46 = .ok (.iconst (-1), 1) := by decide +kernel
theorem dX4_lookEverywhere_47 : decode cX4_lookEverywhere 47 = .ok (.if_icmp .eq 6, 3) := by decide +kernel
theorem dX4_lookEverywhere_50 : decode cX4_lookEverywhere 50 = .ok (.iload 4, 2) := by decide +kernel
theorem dX4_lookEverywhere_52 : decode cX4_lookEverywhere 52 = .ok (.ireturn, 1) := by decide +kernel
theorem dX4_lookEverywhere_53 : decode cX4_lookEverywhere 53 = .ok (.iinc 3 1, 3) := by decide +kernel
theorem dX4_lookEverywhere_56 : decode cX4_lookEverywhere 56 = .ok (.goto (-49), 3) := by decide +kernel
theorem dX4_lookEverywhere_59 : decode cX4_lookEverywhere 59 = .ok (.iconst (-1), 1) := by decide +kernel
theorem dX4_lookEverywhere_60 : decode cX4_lookEverywhere 60 = .ok (.ireturn, 1) := by decide +kernel
theorem dX4_lookInto_0 : decode cX4_lookInto 0 = .ok (.iload_n 1, 1) := by decide +kernel
theorem dX4_lookInto_1 : decode cX4_lookInto 1 = .ok (.bipush 6, 2) := by decide +kernel
theorem dX4_lookInto_3 : decode cX4_lookInto 3 = .ok (.imul, 1) := by decide +kernel
theorem dX4_lookInto_4 : decode cX4_lookInto 4 = .ok (.istore 4, 2) := by decide +kernel
theorem dX4_lookInto_6 : decode cX4_lookInto 6 = .ok (.iload 4, 2) := by decide +kernel
theorem dX4_lookInto_8 : decode cX4_lookInto 8 = .ok (.iload_n 1, 1) := by decide +kernel
theorem dX4_lookInto_9 : decode cX4_lookInto 9 = .ok (.bipush 6, 2) := by decide +kernel
theorem dX4_lookInto_11 : decode cX4_lookInto 11 = .ok (.imul, 1) := by decide +kernel
theorem dX4_lookInto_12 : decode cX4_lookInto 12 = .ok (.bipush 6, 2) := by decide +kernel
theorem dX4_lookInto_14 : decode cX4_lookInto 14 = .ok (.iadd, 1) := by decide +kernel
theorem dX4_lookInto_15 : decode cX4_lookInto 15 = .ok (.if_icmp .ge 51, 3) := by decide +kernel
theorem dX4_lookInto_18 : decode cX4_lookInto 18 = .ok (.aload_n 0, 1) := by decide +kernel
theorem dX4_lookInto_19 : decode cX4_lookInto 19 = .ok (.getfield 36, 3) := by decide +kernel
theorem dX4_lookInto_22 : decode cX4_lookInto 22 = .ok (.getfield 81, 3) := by decide +kernel
theorem dX4_lookInto_25 : decode cX4_lookInto 25 = .ok (.iload 4, 2) := by decide +kernel
theorem dX4_lookInto_27 : decode cX4_lookInto 27 = .ok (.laload, 1) := by decide +kernel
theorem dX4_lookInto_28 : decode cX4_lookInto 28 = .ok (.lconst 0, 1) := by decide +kernel
theorem dX4_lookInto_29 : decode cX4_lookInto 29 = .ok (.lcmp, 1) := by decide +kernel
theorem dX4_lookInto_30 : decode cX4_lookInto 30 = .ok (.ifCond .eq 30, 3) := by decide +kernel
theorem dX4_lookInto_33 : decode cX4_lookInto 33 = .ok (.aload_n 0, 1) := by decide +kernel
theorem dX4_lookInto_34 : decode cX4_lookInto 34 = .ok (.getfield 36, 3) := by decide +kernel
theorem dX4_lookInto_37 : decode cX4_lookInto 37 = .ok (.getfield 81, 3) := by decide +kernel
theorem dX4_lookInto_40 : decode cX4_lookInto 40 = .ok (.iload 4, 2) := by decide +kernel
theorem dX4_lookInto_42 : decode cX4_lookInto 42 = .ok (.laload, 1) := by decide +kernel
theorem dX4_lookInto_43 : decode cX4_lookInto 43 = .ok (.lload_n 2, 1) := by decide +kernel
theorem dX4_lookInto_44 : decode cX4_lookInto 44 = .ok (.aload_n 0, 1) := by decide +kernel
theorem dX4_lookInto_45 : decode cX4_lookInto 45 = .ok (.getfield 36, 3) := by decide +kernel
theorem dX4_lookInto_48 : decode cX4_lookInto 48 = .ok (.getfield 85, 3) := by decide +kernel
theorem dX4_lookInto_51 : decode cX4_lookInto 51 = .ok (.invokestatic 89, 3) := by decide +kernel
theorem dX4_lookInto_54 : decode cX4_lookInto 54 = .ok (.ifCond .eq 6, 3) := by decide +kernel
theorem dX4_lookInto_57 : decode cX4_lookInto 57 = .ok (.iload 4, 2) := by decide +kernel
theorem dX4_lookInto_59 : decode cX4_lookInto 59 = .ok (.ireturn, 1) := by decide +kernel
theorem dX4_lookInto_60 : decode cX4_lookInto 60 = .ok (.iinc 4 1, 3) := by decide +kernel
theorem dX4_lookInto_63 : decode cX4_lookInto 63 = .ok (.goto (-57), 3) := by decide +kernel
theorem dX4_lookInto_66 : decode cX4_lookInto 66 = .ok (.iconst (-1), 1) := by decide +kernel
theorem dX4_lookInto_67 : decode cX4_lookInto 67 = .ok (.ireturn, 1) := by decide +kernel
theorem dX4_whereabouts_0 : decode cX4_whereabouts 0 = .ok (.aload_n 0, 1) := by decide +kernel
theorem dX4_whereabouts_1 : decode cX4_whereabouts 1 = .ok (.lload_n 1, 1) := by decide +kernel
theorem dX4_whereabouts_2 : decode cX4_whereabouts 2 = .ok (.invokevirtual 93, 3) := by decide +kernel
theorem dX4_whereabouts_5 : decode cX4_whereabouts 5 = .ok (.istore 4, 2) := by decide +kernel
theorem dX4_whereabouts_7 : decode cX4_whereabouts 7 = .ok (.iload_n 3, 1) := by decide +kernel
theorem dX4_whereabouts_8 : decode cX4_whereabouts 8 = .ok (.iconst 1, 1) := by decide +kernel
theorem dX4_whereabouts_9 : decode cX4_whereabouts 9 = .ok (.if_icmp .ne 8, 3) := by decide +kernel
theorem dX4_whereabouts_12 : decode cX4_whereabouts 12 = .ok (.aload_n 0, 1) := by decide +kernel
theorem dX4_whereabouts_13 : decode cX4_whereabouts 13 = .ok (.getfield 32, 3) := by decide +kernel
theorem dX4_whereabouts_16 : decode cX4_whereabouts 16 = .ok (.ireturn, 1) := by decide +kernel
theorem dX4_whereabouts_17 : decode cX4_whereabouts 17 = .ok (.iload 4, 2) := by decide +kernel
theorem dX4_whereabouts_19 : decode cX4_whereabouts 19 = .ok (.iconst (-1), 1) := by decide +kernel
theorem dX4_whereabouts_20 : decode cX4_whereabouts 20 = .ok (.if_icmp .ne 5, 3) := by decide +kernel
theorem dX4_whereabouts_23 : decode cX4_whereabouts 23 = .ok (.iconst (-1), 1) := by decide +kernel
theorem dX4_whereabouts_24 : decode cX4_whereabouts 24 = .ok (.ireturn, 1) := by decide +kernel
theorem dX4_whereabouts_25 : decode cX4_whereabouts 25 = .ok (.iload_n 3, 1) := by decide +kernel
theorem dX4_whereabouts_26 : decode cX4_whereabouts 26 = .ok (.ifCond .ne 16, 3) := by decide +kernel
theorem dX4_whereabouts_29 : decode cX4_whereabouts 29 = .ok (.aload_n 0, 1) := by decide +kernel
theorem dX4_whereabouts_30 : decode cX4_whereabouts 30 = .ok (.getfield 36, 3) := by decide +kernel
theorem dX4_whereabouts_33 : decode cX4_whereabouts 33 = .ok (.getfield 96, 3) := by decide +kernel
theorem dX4_whereabouts_36 : decode cX4_whereabouts 36 = .ok (.iload 4, 2) := by decide +kernel
theorem dX4_whereabouts_38 : decode cX4_whereabouts 38 = .ok (.iaload, 1) := by decide +kernel
theorem dX4_whereabouts_39 : decode cX4_whereabouts 39 = .ok (.goto 21, 3) := by decide +kernel
theorem dX4_whereabouts_42 : decode cX4_whereabouts 42 = .ok (.iload_n 3, 1) := by decide +kernel
theorem dX4_whereabouts_43 : decode cX4_whereabouts 43 = .ok (.iconst 2, 1) := by decide +kernel
theorem dX4_whereabouts_44 : decode cX4_whereabouts 44 = .ok (.if_icmp .ne 11, 3) := by decide +kernel
theorem dX4_whereabouts_47 : decode cX4_whereabouts 47 = .ok (.iload 4, 2) := by decide +kernel
theorem dX4_whereabouts_49 : decode cX4_whereabouts 49 = .ok (.bipush 6, 2) := by decide +kernel
theorem dX4_whereabouts_51 : decode cX4_whereabouts 51 = .ok (.idiv, 1) := by decide +kernel
theorem dX4_whereabouts_52 : decode cX4_whereabouts 52 = .ok (.goto 8, 3) := by decide +kernel
theorem dX4_whereabouts_55 : decode cX4_whereabouts 55 = .ok (.iload 4, 2) := by decide +kernel
theorem dX4_whereabouts_57 : decode cX4_whereabouts 57 = .ok (.bipush 6, 2) := by decide +kernel
theorem dX4_whereabouts_59 : decode cX4_whereabouts 59 = .ok (.irem, 1) := by decide +kernel
theorem dX4_whereabouts_60 : decode cX4_whereabouts 60 = .ok (.ireturn, 1) := by decide +kernel
theorem dX4_refusalOf_0 : decode cX4_refusalOf 0 = .ok (.getstatic 99, 3) := by decide +kernel
theorem dX4_refusalOf_3 : decode cX4_refusalOf 3 = .ok (.aload_n 1, 1) := by decide +kernel
theorem dX4_refusalOf_4 : decode cX4_refusalOf 4 = .ok (.invokevirtual 104, 3) := by decide +kernel
theorem dX4_refusalOf_7 : decode cX4_refusalOf 7 = .ok (.iaload, 1) := by decide +kernel
theorem dX4_refusalOf_8 : decode cX4_refusalOf 8 = .ok (.tableswitch 109 1 5 #[36, 42, 57, 65, 85], 36) := by decide +kernel
theorem dX4_refusalOf_44 : decode cX4_refusalOf 44 = .ok (.aload_n 0, 1) := by decide +kernel
theorem dX4_refusalOf_45 : decode cX4_refusalOf 45 = .ok (.lload_n 2, 1) := by decide +kernel
theorem dX4_refusalOf_46 : decode cX4_refusalOf 46 = .ok (.invokevirtual 109, 3) := by decide +kernel
theorem dX4_refusalOf_49 : decode cX4_refusalOf 49 = .ok (.ireturn, 1) := by decide +kernel
theorem dX4_refusalOf_50 : decode cX4_refusalOf 50 = .ok (.aload_n 0, 1) := by decide +kernel
theorem dX4_refusalOf_51 : decode cX4_refusalOf 51 = .ok (.lload_n 2, 1) := by decide +kernel
theorem dX4_refusalOf_52 : decode cX4_refusalOf 52 = .ok (.invokevirtual 93, 3) := by decide +kernel
theorem dX4_refusalOf_55 : decode cX4_refusalOf 55 = .ok (.iconst (-1), 1) := by decide +kernel
theorem dX4_refusalOf_56 : decode cX4_refusalOf 56 = .ok (.if_icmp .ne 7, 3) := by decide +kernel
theorem dX4_refusalOf_59 : decode cX4_refusalOf 59 = .ok (.iconst 4, 1) := by decide +kernel
theorem dX4_refusalOf_60 : decode cX4_refusalOf 60 = .ok (.goto 4, 3) := by decide +kernel
theorem dX4_refusalOf_63 : decode cX4_refusalOf 63 = .ok (.iconst 0, 1) := by decide +kernel
theorem dX4_refusalOf_64 : decode cX4_refusalOf 64 = .ok (.ireturn, 1) := by decide +kernel
theorem dX4_refusalOf_65 : decode cX4_refusalOf 65 = .ok (.aload_n 0, 1) := by decide +kernel
theorem dX4_refusalOf_66 : decode cX4_refusalOf 66 = .ok (.lload_n 2, 1) := by decide +kernel
theorem dX4_refusalOf_67 : decode cX4_refusalOf 67 = .ok (.lload 4, 2) := by decide +kernel
theorem dX4_refusalOf_69 : decode cX4_refusalOf 69 = .ok (.invokevirtual 112, 3) := by decide +kernel
theorem dX4_refusalOf_72 : decode cX4_refusalOf 72 = .ok (.ireturn, 1) := by decide +kernel
theorem dX4_refusalOf_73 : decode cX4_refusalOf 73 = .ok (.aload_n 0, 1) := by decide +kernel
theorem dX4_refusalOf_74 : decode cX4_refusalOf 74 = .ok (.getfield 36, 3) := by decide +kernel
theorem dX4_refusalOf_77 : decode cX4_refusalOf 77 = .ok (.getfield 78, 3) := by decide +kernel
theorem dX4_refusalOf_80 : decode cX4_refusalOf 80 = .ok (.iload 6, 2) := by decide +kernel
theorem dX4_refusalOf_82 : decode cX4_refusalOf 82 = .ok (.iaload, 1) := by decide +kernel
theorem dX4_refusalOf_83 : decode cX4_refusalOf 83 = .ok (.iconst 2, 1) := by decide +kernel
theorem dX4_refusalOf_84 : decode cX4_refusalOf 84 = .ok (.if_icmp .ne 7, 3) := by decide +kernel
theorem dX4_refusalOf_87 : decode cX4_refusalOf 87 = .ok (.iconst 0, 1) := by decide +kernel
theorem dX4_refusalOf_88 : decode cX4_refusalOf 88 = .ok (.goto 4, 3) := by decide +kernel
theorem dX4_refusalOf_91 : decode cX4_refusalOf 91 = .ok (.iconst 5, 1) := by decide +kernel
theorem dX4_refusalOf_92 : decode cX4_refusalOf 92 = .ok (.ireturn, 1) := by decide +kernel
theorem dX4_refusalOf_93 : decode cX4_refusalOf 93 = .ok (.aload_n 0, 1) := by decide +kernel
theorem dX4_refusalOf_94 : decode cX4_refusalOf 94 = .ok (.invokevirtual 116, 3) := by decide +kernel
theorem dX4_refusalOf_97 : decode cX4_refusalOf 97 = .ok (.ifCond .eq 7, 3) := by decide +kernel
theorem dX4_refusalOf_100 : decode cX4_refusalOf 100 = .ok (.iconst 3, 1) := by decide +kernel
theorem dX4_refusalOf_101 : decode cX4_refusalOf 101 = .ok (.goto 15, 3) := by decide +kernel
theorem dX4_refusalOf_104 : decode cX4_refusalOf 104 = .ok (.aload_n 0, 1) := by decide +kernel
theorem dX4_refusalOf_105 : decode cX4_refusalOf 105 = .ok (.invokevirtual 120, 3) := by decide +kernel
theorem dX4_refusalOf_108 : decode cX4_refusalOf 108 = .ok (.ifCond .eq 7, 3) := by decide +kernel
theorem dX4_refusalOf_111 : decode cX4_refusalOf 111 = .ok (.iconst 1, 1) := by decide +kernel
theorem dX4_refusalOf_112 : decode cX4_refusalOf 112 = .ok (.goto 4, 3) := by decide +kernel
theorem dX4_refusalOf_115 : decode cX4_refusalOf 115 = .ok (.iconst 0, 1) := by decide +kernel
theorem dX4_refusalOf_116 : decode cX4_refusalOf 116 = .ok (.ireturn, 1) := by decide +kernel
theorem dX4_refusalOf_117 : decode cX4_refusalOf 117 = .ok (.aload_n 0, 1) := by decide +kernel
theorem dX4_refusalOf_118 : decode cX4_refusalOf 118 = .ok (.invokevirtual 116, 3) := by decide +kernel
theorem dX4_refusalOf_121 : decode cX4_refusalOf 121 = .ok (.ifCond .eq 7, 3) := by decide +kernel
theorem dX4_refusalOf_124 : decode cX4_refusalOf 124 = .ok (.iconst 3, 1) := by decide +kernel
theorem dX4_refusalOf_125 : decode cX4_refusalOf 125 = .ok (.goto 4, 3) := by decide +kernel
theorem dX4_refusalOf_128 : decode cX4_refusalOf 128 = .ok (.iconst 0, 1) := by decide +kernel
theorem dX4_refusalOf_129 : decode cX4_refusalOf 129 = .ok (.ireturn, 1) := by decide +kernel
theorem dX4_refusalOfPut_0 : decode cX4_refusalOfPut 0 = .ok (.aload_n 0, 1) := by decide +kernel
theorem dX4_refusalOfPut_1 : decode cX4_refusalOfPut 1 = .ok (.lload_n 1, 1) := by decide +kernel
theorem dX4_refusalOfPut_2 : decode cX4_refusalOfPut 2 = .ok (.invokevirtual 93, 3) := by decide +kernel
theorem dX4_refusalOfPut_5 : decode cX4_refusalOfPut 5 = .ok (.iconst (-1), 1) := by decide +kernel
theorem dX4_refusalOfPut_6 : decode cX4_refusalOfPut 6 = .ok (.if_icmp .eq 5, 3) := by decide +kernel
theorem dX4_refusalOfPut_9 : decode cX4_refusalOfPut 9 = .ok (.iconst 1, 1) := by decide +kernel
theorem dX4_refusalOfPut_10 : decode cX4_refusalOfPut 10 = .ok (.ireturn, 1) := by decide +kernel
theorem dX4_refusalOfPut_11 : decode cX4_refusalOfPut 11 = .ok (.aload_n 0, 1) := by decide +kernel
theorem dX4_refusalOfPut_12 : decode cX4_refusalOfPut 12 = .ok (.getfield 36, 3) := by decide +kernel
theorem dX4_refusalOfPut_15 : decode cX4_refusalOfPut 15 = .ok (.invokevirtual 48, 3) := by decide +kernel
theorem dX4_refusalOfPut_18 : decode cX4_refusalOfPut 18 = .ok (.ifCond .le 5, 3) := by decide +kernel
theorem dX4_refusalOfPut_21 : decode cX4_refusalOfPut 21 = .ok (.iconst 2, 1) := by decide +kernel
theorem dX4_refusalOfPut_22 : decode cX4_refusalOfPut 22 = .ok (.ireturn, 1) := by decide +kernel
theorem dX4_refusalOfPut_23 : decode cX4_refusalOfPut 23 = .ok (.aload_n 0, 1) := by decide +kernel
theorem dX4_refusalOfPut_24 : decode cX4_refusalOfPut 24 = .ok (.lload_n 1, 1) := by decide +kernel
theorem dX4_refusalOfPut_25 : decode cX4_refusalOfPut 25 = .ok (.invokevirtual 123, 3) := by decide +kernel
theorem dX4_refusalOfPut_28 : decode cX4_refusalOfPut 28 = .ok (.iconst (-1), 1) := by decide +kernel
theorem dX4_refusalOfPut_29 : decode cX4_refusalOfPut 29 = .ok (.if_icmp .ne 7, 3) := by decide +kernel
theorem dX4_refusalOfPut_32 : decode cX4_refusalOfPut 32 = .ok (.iconst 3, 1) := by decide +kernel
theorem dX4_refusalOfPut_33 : decode cX4_refusalOfPut 33 = .ok (.goto 4, 3) := by decide +kernel
theorem dX4_refusalOfPut_36 : decode cX4_refusalOfPut 36 = .ok (.iconst 0, 1) := by decide +kernel
theorem dX4_refusalOfPut_37 : decode cX4_refusalOfPut 37 = .ok (.ireturn, 1) := by decide +kernel
theorem dX4_refusalOfTurn_0 : decode cX4_refusalOfTurn 0 = .ok (.aload_n 0, 1) := by decide +kernel
theorem dX4_refusalOfTurn_1 : decode cX4_refusalOfTurn 1 = .ok (.lload_n 1, 1) := by decide +kernel
theorem dX4_refusalOfTurn_2 : decode cX4_refusalOfTurn 2 = .ok (.invokevirtual 93, 3) := by decide +kernel
theorem dX4_refusalOfTurn_5 : decode cX4_refusalOfTurn 5 = .ok (.istore 5, 2) := by decide +kernel
theorem dX4_refusalOfTurn_7 : decode cX4_refusalOfTurn 7 = .ok (.iload 5, 2) := by decide +kernel
theorem dX4_refusalOfTurn_9 : decode cX4_refusalOfTurn 9 = .ok (.iconst (-1), 1) := by decide +kernel
theorem dX4_refusalOfTurn_10 : decode cX4_refusalOfTurn 10 = .ok (.if_icmp .ne 5, 3) := by decide +kernel
theorem dX4_refusalOfTurn_13 : decode cX4_refusalOfTurn 13 = .ok (.iconst 4, 1) := by decide +kernel
theorem dX4_refusalOfTurn_14 : decode cX4_refusalOfTurn 14 = .ok (.ireturn, 1) := by decide +kernel
theorem dX4_refusalOfTurn_15 : decode cX4_refusalOfTurn 15 = .ok (.aload_n 0, 1) := by decide +kernel
theorem dX4_refusalOfTurn_16 : decode cX4_refusalOfTurn 16 = .ok (.lload_n 3, 1) := by decide +kernel
theorem dX4_refusalOfTurn_17 : decode cX4_refusalOfTurn 17 = .ok (.invokevirtual 93, 3) := by decide +kernel
theorem dX4_refusalOfTurn_20 : decode cX4_refusalOfTurn 20 = .ok (.istore 6, 2) := by decide +kernel
theorem dX4_refusalOfTurn_22 : decode cX4_refusalOfTurn 22 = .ok (.iload 6, 2) := by decide +kernel
theorem dX4_refusalOfTurn_24 : decode cX4_refusalOfTurn 24 = .ok (.iconst (-1), 1) := by decide +kernel
theorem dX4_refusalOfTurn_25 : decode cX4_refusalOfTurn 25 = .ok (.if_icmp .eq 12, 3) := by decide +kernel
theorem dX4_refusalOfTurn_28 : decode cX4_refusalOfTurn 28 = .ok (.iload 6, 2) := by decide +kernel
theorem dX4_refusalOfTurn_30 : decode cX4_refusalOfTurn 30 = .ok (.iload 5, 2) := by decide +kernel
theorem dX4_refusalOfTurn_32 : decode cX4_refusalOfTurn 32 = .ok (.if_icmp .eq 5, 3) := by decide +kernel
theorem dX4_refusalOfTurn_35 : decode cX4_refusalOfTurn 35 = .ok (.iconst 1, 1) := by decide +kernel
theorem dX4_refusalOfTurn_36 : decode cX4_refusalOfTurn 36 = .ok (.ireturn, 1) := by decide +kernel
theorem dX4_refusalOfTurn_37 : decode cX4_refusalOfTurn 37 = .ok (.aload_n 0, 1) := by decide +kernel
theorem dX4_refusalOfTurn_38 : decode cX4_refusalOfTurn 38 = .ok (.getfield 36, 3) := by decide +kernel
theorem dX4_refusalOfTurn_41 : decode cX4_refusalOfTurn 41 = .ok (.invokevirtual 48, 3) := by decide +kernel
theorem dX4_refusalOfTurn_44 : decode cX4_refusalOfTurn 44 = .ok (.ifCond .le 5, 3) := by decide +kernel
theorem dX4_refusalOfTurn_47 : decode cX4_refusalOfTurn 47 = .ok (.iconst 2, 1) := by decide +kernel
theorem dX4_refusalOfTurn_48 : decode cX4_refusalOfTurn 48 = .ok (.ireturn, 1) := by decide +kernel
theorem dX4_refusalOfTurn_49 : decode cX4_refusalOfTurn 49 = .ok (.aload_n 0, 1) := by decide +kernel
theorem dX4_refusalOfTurn_50 : decode cX4_refusalOfTurn 50 = .ok (.getfield 36, 3) := by decide +kernel
theorem dX4_refusalOfTurn_53 : decode cX4_refusalOfTurn 53 = .ok (.getfield 81, 3) := by decide +kernel
theorem dX4_refusalOfTurn_56 : decode cX4_refusalOfTurn 56 = .ok (.iload 5, 2) := by decide +kernel
theorem dX4_refusalOfTurn_58 : decode cX4_refusalOfTurn 58 = .ok (.laload, 1) := by decide +kernel
theorem dX4_refusalOfTurn_59 : decode cX4_refusalOfTurn 59 = .ok (.lstore 7, 2) := by decide +kernel
theorem dX4_refusalOfTurn_61 : decode cX4_refusalOfTurn 61 = .ok (.aload_n 0, 1) := by decide +kernel
theorem dX4_refusalOfTurn_62 : decode cX4_refusalOfTurn 62 = .ok (.getfield 36, 3) := by decide +kernel
theorem dX4_refusalOfTurn_65 : decode cX4_refusalOfTurn 65 = .ok (.getfield 81, 3) := by decide +kernel
theorem dX4_refusalOfTurn_68 : decode cX4_refusalOfTurn 68 = .ok (.iload 5, 2) := by decide +kernel
theorem dX4_refusalOfTurn_70 : decode cX4_refusalOfTurn 70 = .ok (.lconst 0, 1) := by decide +kernel
theorem dX4_refusalOfTurn_71 : decode cX4_refusalOfTurn 71 = .ok (.lastore, 1) := by decide +kernel
theorem dX4_refusalOfTurn_72 : decode cX4_refusalOfTurn 72 = .ok (.aload_n 0, 1) := by decide +kernel
theorem dX4_refusalOfTurn_73 : decode cX4_refusalOfTurn 73 = .ok (.lload_n 3, 1) := by decide +kernel
theorem dX4_refusalOfTurn_74 : decode cX4_refusalOfTurn 74 = .ok (.invokevirtual 123, 3) := by decide +kernel
theorem dX4_refusalOfTurn_77 : decode cX4_refusalOfTurn 77 = .ok (.istore 9, 2) := by decide +kernel
theorem dX4_refusalOfTurn_79 : decode cX4_refusalOfTurn 79 = .ok (.aload_n 0, 1) := by decide +kernel
theorem dX4_refusalOfTurn_80 : decode cX4_refusalOfTurn 80 = .ok (.getfield 36, 3) := by decide +kernel
theorem dX4_refusalOfTurn_83 : decode cX4_refusalOfTurn 83 = .ok (.getfield 81, 3) := by decide +kernel
theorem dX4_refusalOfTurn_86 : decode cX4_refusalOfTurn 86 = .ok (.iload 5, 2) := by decide +kernel
theorem dX4_refusalOfTurn_88 : decode cX4_refusalOfTurn 88 = .ok (.lload 7, 2) := by decide +kernel
theorem dX4_refusalOfTurn_90 : decode cX4_refusalOfTurn 90 = .ok (.lastore, 1) := by decide +kernel
theorem dX4_refusalOfTurn_91 : decode cX4_refusalOfTurn 91 = .ok (.iload 9, 2) := by decide +kernel
theorem dX4_refusalOfTurn_93 : decode cX4_refusalOfTurn 93 = .ok (.iconst (-1), 1) := by decide +kernel
theorem dX4_refusalOfTurn_94 : decode cX4_refusalOfTurn 94 = .ok (.if_icmp .ne 7, 3) := by decide +kernel
theorem dX4_refusalOfTurn_97 : decode cX4_refusalOfTurn 97 = .ok (.iconst 3, 1) := by decide +kernel
theorem dX4_refusalOfTurn_98 : decode cX4_refusalOfTurn 98 = .ok (.goto 4, 3) := by decide +kernel
theorem dX4_refusalOfTurn_101 : decode cX4_refusalOfTurn 101 = .ok (.iconst 0, 1) := by decide +kernel
theorem dX4_refusalOfTurn_102 : decode cX4_refusalOfTurn 102 = .ok (.ireturn, 1) := by decide +kernel
theorem dX4_isTooMuchToBuild_0 : decode cX4_isTooMuchToBuild 0 = .ok (.aload_n 0, 1) := by decide +kernel
theorem dX4_isTooMuchToBuild_1 : decode cX4_isTooMuchToBuild 1 = .ok (.getfield 36, 3) := by decide +kernel
theorem dX4_isTooMuchToBuild_4 : decode cX4_isTooMuchToBuild 4 = .ok (.invokevirtual 126, 3) := by decide +kernel
theorem dX4_isTooMuchToBuild_7 : decode cX4_isTooMuchToBuild 7 = .ok (.bipush 80, 2) := by decide +kernel
theorem dX4_isTooMuchToBuild_9 : decode cX4_isTooMuchToBuild 9 = .ok (.if_icmp .le 7, 3) := by decide +kernel
theorem dX4_isTooMuchToBuild_12 : decode cX4_isTooMuchToBuild 12 = .ok (.iconst 1, 1) := by decide +kernel
theorem dX4_isTooMuchToBuild_13 : decode cX4_isTooMuchToBuild 13 = .ok (.goto 4, 3) := by decide +kernel
theorem dX4_isTooMuchToBuild_16 : decode cX4_isTooMuchToBuild 16 = .ok (.iconst 0, 1) := by decide +kernel
theorem dX4_isTooMuchToBuild_17 : decode cX4_isTooMuchToBuild 17 = .ok (.ireturn, 1) := by decide +kernel
theorem dX4_wouldFoldMeet_0 : decode cX4_wouldFoldMeet 0 = .ok (.aload_n 0, 1) := by decide +kernel
theorem dX4_wouldFoldMeet_1 : decode cX4_wouldFoldMeet 1 = .ok (.getfield 28, 3) := by decide +kernel
theorem dX4_wouldFoldMeet_4 : decode cX4_wouldFoldMeet 4 = .ok (.iconst 0, 1) := by decide +kernel
theorem dX4_wouldFoldMeet_5 : decode cX4_wouldFoldMeet 5 = .ok (.putfield 129, 3) := by decide +kernel
theorem dX4_wouldFoldMeet_8 : decode cX4_wouldFoldMeet 8 = .ok (.iconst 0, 1) := by decide +kernel
theorem dX4_wouldFoldMeet_9 : decode cX4_wouldFoldMeet 9 = .ok (.istore_n 1, 1) := by decide +kernel
theorem dX4_wouldFoldMeet_10 : decode cX4_wouldFoldMeet 10 = .ok (.iload_n 1, 1) := by decide +kernel
theorem dX4_wouldFoldMeet_11 : decode cX4_wouldFoldMeet 11 = .ok (.sipush 240, 3) := by decide +kernel
theorem dX4_wouldFoldMeet_14 : decode cX4_wouldFoldMeet 14 = .ok (.if_icmp .ge 45, 3) := by decide +kernel
theorem dX4_wouldFoldMeet_17 : decode cX4_wouldFoldMeet 17 = .ok (.aload_n 0, 1) := by decide +kernel
theorem dX4_wouldFoldMeet_18 : decode cX4_wouldFoldMeet 18 = .ok (.getfield 36, 3) := by decide +kernel
theorem dX4_wouldFoldMeet_21 : decode cX4_wouldFoldMeet 21 = .ok (.getfield 81, 3) := by decide +kernel
theorem dX4_wouldFoldMeet_24 : decode cX4_wouldFoldMeet 24 = .ok (.iload_n 1, 1) := by decide +kernel
theorem dX4_wouldFoldMeet_25 : decode cX4_wouldFoldMeet 25 = .ok (.laload, 1) := by decide +kernel
theorem dX4_wouldFoldMeet_26 : decode cX4_wouldFoldMeet 26 = .ok (.lconst 0, 1) := by decide +kernel
theorem dX4_wouldFoldMeet_27 : decode cX4_wouldFoldMeet 27 = .ok (.lcmp, 1) := by decide +kernel
theorem dX4_wouldFoldMeet_28 : decode cX4_wouldFoldMeet 28 = .ok (.ifCond .eq 25, 3) := by decide +kernel
theorem dX4_wouldFoldMeet_31 : decode cX4_wouldFoldMeet 31 = .ok (.aload_n 0, 1) := by decide +kernel
theorem dX4_wouldFoldMeet_32 : decode cX4_wouldFoldMeet 32 = .ok (.getfield 28, 3) := by decide +kernel
theorem dX4_wouldFoldMeet_35 : decode cX4_wouldFoldMeet 35 = .ok (.aload_n 0, 1) := by decide +kernel
theorem dX4_wouldFoldMeet_36 : decode cX4_wouldFoldMeet 36 = .ok (.getfield 36, 3) := by decide +kernel
theorem dX4_wouldFoldMeet_39 : decode cX4_wouldFoldMeet 39 = .ok (.getfield 81, 3) := by decide +kernel
theorem dX4_wouldFoldMeet_42 : decode cX4_wouldFoldMeet 42 = .ok (.iload_n 1, 1) := by decide +kernel
theorem dX4_wouldFoldMeet_43 : decode cX4_wouldFoldMeet 43 = .ok (.laload, 1) := by decide +kernel
theorem dX4_wouldFoldMeet_44 : decode cX4_wouldFoldMeet 44 = .ok (.ldc2_w 130, 3) := by decide +kernel
theorem dX4_wouldFoldMeet_47 : decode cX4_wouldFoldMeet 47 = .ok (.lor, 1) := by decide +kernel
theorem dX4_wouldFoldMeet_48 : decode cX4_wouldFoldMeet 48 = .ok (.iconst 0, 1) := by decide +kernel
theorem dX4_wouldFoldMeet_49 : decode cX4_wouldFoldMeet 49 = .ok (.iconst 0, 1) := by decide +kernel
theorem dX4_wouldFoldMeet_50 : decode cX4_wouldFoldMeet 50 = .ok (.invokevirtual 132, 3) := by decide +kernel
theorem dX4_wouldFoldMeet_53 : decode cX4_wouldFoldMeet 53 = .ok (.iinc 1 1, 3) := by decide +kernel
theorem dX4_wouldFoldMeet_56 : decode cX4_wouldFoldMeet 56 = .ok (.goto (-46), 3) := by decide +kernel
theorem dX4_wouldFoldMeet_59 : decode cX4_wouldFoldMeet 59 = .ok (.iconst 1, 1) := by decide +kernel
theorem dX4_wouldFoldMeet_60 : decode cX4_wouldFoldMeet 60 = .ok (.istore_n 1, 1) := by decide +kernel
theorem dX4_wouldFoldMeet_61 : decode cX4_wouldFoldMeet 61 = .ok (.iload_n 1, 1) := by decide +kernel
theorem dX4_wouldFoldMeet_62 : decode cX4_wouldFoldMeet 62 = .ok (.aload_n 0, 1) := by decide +kernel
theorem dX4_wouldFoldMeet_63 : decode cX4_wouldFoldMeet 63 = .ok (.getfield 28, 3) := by decide +kernel
theorem dX4_wouldFoldMeet_66 : decode cX4_wouldFoldMeet 66 = .ok (.getfield 129, 3) := by decide +kernel
theorem dX4_wouldFoldMeet_69 : decode cX4_wouldFoldMeet 69 = .ok (.if_icmp .ge 35, 3) := by decide +kernel
theorem dX4_wouldFoldMeet_72 : decode cX4_wouldFoldMeet 72 = .ok (.aload_n 0, 1) := by decide +kernel
theorem dX4_wouldFoldMeet_73 : decode cX4_wouldFoldMeet 73 = .ok (.getfield 28, 3) := by decide +kernel
theorem dX4_wouldFoldMeet_76 : decode cX4_wouldFoldMeet 76 = .ok (.getfield 136, 3) := by decide +kernel
theorem dX4_wouldFoldMeet_79 : decode cX4_wouldFoldMeet 79 = .ok (.iload_n 1, 1) := by decide +kernel
theorem dX4_wouldFoldMeet_80 : decode cX4_wouldFoldMeet 80 = .ok (.laload, 1) := by decide +kernel
theorem dX4_wouldFoldMeet_81 : decode cX4_wouldFoldMeet 81 = .ok (.aload_n 0, 1) := by decide +kernel
theorem dX4_wouldFoldMeet_82 : decode cX4_wouldFoldMeet 82 = .ok (.getfield 28, 3) := by decide +kernel
theorem dX4_wouldFoldMeet_85 : decode cX4_wouldFoldMeet 85 = .ok (.getfield 136, 3) := by decide +kernel
theorem dX4_wouldFoldMeet_88 : decode cX4_wouldFoldMeet 88 = .ok (.iload_n 1, 1) := by decide +kernel
theorem dX4_wouldFoldMeet_89 : decode cX4_wouldFoldMeet 89 = .ok (.iconst 1, 1) := by decide +kernel
theorem dX4_wouldFoldMeet_90 : decode cX4_wouldFoldMeet 90 = .ok (.isub, 1) := by decide +kernel
theorem dX4_wouldFoldMeet_91 : decode cX4_wouldFoldMeet 91 = .ok (.laload, 1) := by decide +kernel
theorem dX4_wouldFoldMeet_92 : decode cX4_wouldFoldMeet 92 = .ok (.lcmp, 1) := by decide +kernel
theorem dX4_wouldFoldMeet_93 : decode cX4_wouldFoldMeet 93 = .ok (.ifCond .ne 5, 3) := by decide +kernel
theorem dX4_wouldFoldMeet_96 : decode cX4_wouldFoldMeet 96 = .ok (.iconst 1, 1) := by decide +kernel
theorem dX4_wouldFoldMeet_97 : decode cX4_wouldFoldMeet 97 = .ok (.ireturn, 1) := by decide +kernel
theorem dX4_wouldFoldMeet_98 : decode cX4_wouldFoldMeet 98 = .ok (.iinc 1 1, 3) := by decide +kernel
theorem dX4_wouldFoldMeet_101 : decode cX4_wouldFoldMeet 101 = .ok (.goto (-40), 3) := by decide +kernel
theorem dX4_wouldFoldMeet_104 : decode cX4_wouldFoldMeet 104 = .ok (.iconst 0, 1) := by decide +kernel
theorem dX4_wouldFoldMeet_105 : decode cX4_wouldFoldMeet 105 = .ok (.ireturn, 1) := by decide +kernel
theorem dX4_blocksFor_0 : decode cX4_blocksFor 0 = .ok (.aload_n 0, 1) := by decide +kernel
theorem dX4_blocksFor_1 : decode cX4_blocksFor 1 = .ok (.aload_n 0, 1) := by decide +kernel
theorem dX4_blocksFor_2 : decode cX4_blocksFor 2 = .ok (.getfield 36, 3) := by decide +kernel
theorem dX4_blocksFor_5 : decode cX4_blocksFor 5 = .ok (.lload_n 1, 1) := by decide +kernel
theorem dX4_blocksFor_6 : decode cX4_blocksFor 6 = .ok (.invokevirtual 58, 3) := by decide +kernel
theorem dX4_blocksFor_9 : decode cX4_blocksFor 9 = .ok (.invokevirtual 61, 3) := by decide +kernel
theorem dX4_blocksFor_12 : decode cX4_blocksFor 12 = .ok (.aload_n 0, 1) := by decide +kernel
theorem dX4_blocksFor_13 : decode cX4_blocksFor 13 = .ok (.invokevirtual 137, 3) := by decide +kernel
theorem dX4_blocksFor_16 : decode cX4_blocksFor 16 = .ok (.iconst (-1), 1) := by decide +kernel
theorem dX4_blocksFor_17 : decode cX4_blocksFor 17 = .ok (.if_icmp .eq 5, 3) := by decide +kernel
theorem dX4_blocksFor_20 : decode cX4_blocksFor 20 = .ok (.iconst 0, 1) := by decide +kernel
theorem dX4_blocksFor_21 : decode cX4_blocksFor 21 = .ok (.ireturn, 1) := by decide +kernel
theorem dX4_blocksFor_22 : decode cX4_blocksFor 22 = .ok (.aload_n 0, 1) := by decide +kernel
theorem dX4_blocksFor_23 : decode cX4_blocksFor 23 = .ok (.getfield 36, 3) := by decide +kernel
theorem dX4_blocksFor_26 : decode cX4_blocksFor 26 = .ok (.getfield 140, 3) := by decide +kernel
theorem dX4_blocksFor_29 : decode cX4_blocksFor 29 = .ok (.ifCond .ne 5, 3) := by decide +kernel
theorem dX4_blocksFor_32 : decode cX4_blocksFor 32 = .ok (.iconst 2, 1) := by decide +kernel
theorem dX4_blocksFor_33 : decode cX4_blocksFor 33 = .ok (.ireturn, 1) := by decide +kernel
theorem dX4_blocksFor_34 : decode cX4_blocksFor 34 = .ok (.aload_n 0, 1) := by decide +kernel
theorem dX4_blocksFor_35 : decode cX4_blocksFor 35 = .ok (.getfield 36, 3) := by decide +kernel
theorem dX4_blocksFor_38 : decode cX4_blocksFor 38 = .ok (.getfield 143, 3) := by decide +kernel
theorem dX4_blocksFor_41 : decode cX4_blocksFor 41 = .ok (.aload_n 0, 1) := by decide +kernel
theorem dX4_blocksFor_42 : decode cX4_blocksFor 42 = .ok (.getfield 21, 3) := by decide +kernel
theorem dX4_blocksFor_45 : decode cX4_blocksFor 45 = .ok (.invokevirtual 146, 3) := by decide +kernel
theorem dX4_blocksFor_48 : decode cX4_blocksFor 48 = .ok (.iaload, 1) := by decide +kernel
theorem dX4_blocksFor_49 : decode cX4_blocksFor 49 = .ok (.iconst 5, 1) := by decide +kernel
theorem dX4_blocksFor_50 : decode cX4_blocksFor 50 = .ok (.if_icmp .ge 5, 3) := by decide +kernel
theorem dX4_blocksFor_53 : decode cX4_blocksFor 53 = .ok (.iconst 1, 1) := by decide +kernel
theorem dX4_blocksFor_54 : decode cX4_blocksFor 54 = .ok (.ireturn, 1) := by decide +kernel
theorem dX4_blocksFor_55 : decode cX4_blocksFor 55 = .ok (.aload_n 0, 1) := by decide +kernel
theorem dX4_blocksFor_56 : decode cX4_blocksFor 56 = .ok (.getfield 36, 3) := by decide +kernel
theorem dX4_blocksFor_59 : decode cX4_blocksFor 59 = .ok (.getfield 140, 3) := by decide +kernel
theorem dX4_blocksFor_62 : decode cX4_blocksFor 62 = .ok (.iconst 1, 1) := by decide +kernel
theorem dX4_blocksFor_63 : decode cX4_blocksFor 63 = .ok (.if_icmp .ne 5, 3) := by decide +kernel
theorem dX4_blocksFor_66 : decode cX4_blocksFor 66 = .ok (.iconst 3, 1) := by decide +kernel
theorem dX4_blocksFor_67 : decode cX4_blocksFor 67 = .ok (.ireturn, 1) := by decide +kernel
theorem dX4_blocksFor_68 : decode cX4_blocksFor 68 = .ok (.aload_n 0, 1) := by decide +kernel
theorem dX4_blocksFor_69 : decode cX4_blocksFor 69 = .ok (.getfield 36, 3) := by decide +kernel
theorem dX4_blocksFor_72 : decode cX4_blocksFor 72 = .ok (.getfield 143, 3) := by decide +kernel
theorem dX4_blocksFor_75 : decode cX4_blocksFor 75 = .ok (.iconst 0, 1) := by decide +kernel
theorem dX4_blocksFor_76 : decode cX4_blocksFor 76 = .ok (.iaload, 1) := by decide +kernel
theorem dX4_blocksFor_77 : decode cX4_blocksFor 77 = .ok (.iconst 5, 1) := by decide +kernel
theorem dX4_blocksFor_78 : decode cX4_blocksFor 78 = .ok (.if_icmp .ge 7, 3) := by decide +kernel
theorem dX4_blocksFor_81 : decode cX4_blocksFor 81 = .ok (.iconst 2, 1) := by decide +kernel
theorem dX4_blocksFor_82 : decode cX4_blocksFor 82 = .ok (.goto 4, 3) := by decide +kernel
theorem dX4_blocksFor_85 : decode cX4_blocksFor 85 = .ok (.iconst (-1), 1) := by decide +kernel
theorem dX4_blocksFor_86 : decode cX4_blocksFor 86 = .ok (.ireturn, 1) := by decide +kernel
theorem dX4_spotOnWay_0 : decode cX4_spotOnWay 0 = .ok (.aload_n 0, 1) := by decide +kernel
theorem dX4_spotOnWay_1 : decode cX4_spotOnWay 1 = .ok (.getfield 21, 3) := by decide +kernel
theorem dX4_spotOnWay_4 : decode cX4_spotOnWay 4 = .ok (.getfield 64, 3) := by decide +kernel
theorem dX4_spotOnWay_7 : decode cX4_spotOnWay 7 = .ok (.istore_n 1, 1) := by decide +kernel
theorem dX4_spotOnWay_8 : decode cX4_spotOnWay 8 = .ok (.iload_n 1, 1) := by decide +kernel
theorem dX4_spotOnWay_9 : decode cX4_spotOnWay 9 = .ok (.aload_n 0, 1) := by decide +kernel
theorem dX4_spotOnWay_10 : decode cX4_spotOnWay 10 = .ok (.getfield 21, 3) := by decide +kernel
theorem dX4_spotOnWay_13 : decode cX4_spotOnWay 13 = .ok (.getfield 67, 3) := by decide +kernel
theorem dX4_spotOnWay_16 : decode cX4_spotOnWay 16 = .ok (.if_icmp .ge 46, 3) := by decide +kernel
theorem dX4_spotOnWay_19 : decode cX4_spotOnWay 19 = .ok (.aload_n 0, 1) := by decide +kernel
theorem dX4_spotOnWay_20 : decode cX4_spotOnWay 20 = .ok (.getfield 36, 3) := by decide +kernel
theorem dX4_spotOnWay_23 : decode cX4_spotOnWay 23 = .ok (.aload_n 0, 1) := by decide +kernel
theorem dX4_spotOnWay_24 : decode cX4_spotOnWay 24 = .ok (.getfield 21, 3) := by decide +kernel
theorem dX4_spotOnWay_27 : decode cX4_spotOnWay 27 = .ok (.getfield 70, 3) := by decide +kernel
theorem dX4_spotOnWay_30 : decode cX4_spotOnWay 30 = .ok (.iload_n 1, 1) := by decide +kernel
theorem dX4_spotOnWay_31 : decode cX4_spotOnWay 31 = .ok (.iaload, 1) := by decide +kernel
theorem dX4_spotOnWay_32 : decode cX4_spotOnWay 32 = .ok (.invokevirtual 149, 3) := by decide +kernel
theorem dX4_spotOnWay_35 : decode cX4_spotOnWay 35 = .ok (.istore_n 2, 1) := by decide +kernel
theorem dX4_spotOnWay_36 : decode cX4_spotOnWay 36 = .ok (.iload_n 2, 1) := by decide +kernel
theorem dX4_spotOnWay_37 : decode cX4_spotOnWay 37 = .ok (.iconst (-1), 1) := by decide +kernel
theorem dX4_spotOnWay_38 : decode cX4_spotOnWay 38 = .ok (.if_icmp .eq 18, 3) := by decide +kernel
theorem dX4_spotOnWay_41 : decode cX4_spotOnWay 41 = .ok (.aload_n 0, 1) := by decide +kernel
theorem dX4_spotOnWay_42 : decode cX4_spotOnWay 42 = .ok (.getfield 21, 3) := by decide +kernel
theorem dX4_spotOnWay_45 : decode cX4_spotOnWay 45 = .ok (.getfield 70, 3) := by decide +kernel
theorem dX4_spotOnWay_48 : decode cX4_spotOnWay 48 = .ok (.iload_n 1, 1) := by decide +kernel
theorem dX4_spotOnWay_49 : decode cX4_spotOnWay 49 = .ok (.iaload, 1) := by decide +kernel
theorem dX4_spotOnWay_50 : decode cX4_spotOnWay 50 = .ok (.bipush 6, 2) := by decide +kernel
theorem dX4_spotOnWay_52 : decode cX4_spotOnWay 52 = .ok (.imul, 1) := by decide +kernel
theorem dX4_spotOnWay_53 : decode cX4_spotOnWay 53 = .ok (.iload_n 2, 1) := by decide +kernel
theorem dX4_spotOnWay_54 : decode cX4_spotOnWay 54 = .ok (.iadd, 1) := by decide +kernel
theorem dX4_spotOnWay_55 : decode cX4_spotOnWay 55 = .ok (.ireturn, 1) := by decide +kernel
theorem dX4_spotOnWay_56 : decode cX4_spotOnWay 56 = .ok (.iinc 1 1, 3) := by decide +kernel
theorem dX4_spotOnWay_59 : decode cX4_spotOnWay 59 = .ok (.goto (-51), 3) := by decide +kernel
theorem dX4_spotOnWay_62 : decode cX4_spotOnWay 62 = .ok (.iconst (-1), 1) := by decide +kernel
theorem dX4_spotOnWay_63 : decode cX4_spotOnWay 63 = .ok (.ireturn, 1) := by decide +kernel
theorem dX4_carryOut_0 : decode cX4_carryOut 0 = .ok (.getstatic 99, 3) := by decide +kernel
theorem dX4_carryOut_3 : decode cX4_carryOut 3 = .ok (.aload_n 1, 1) := by decide +kernel
theorem dX4_carryOut_4 : decode cX4_carryOut 4 = .ok (.invokevirtual 104, 3) := by decide +kernel
theorem dX4_carryOut_7 : decode cX4_carryOut 7 = .ok (.iaload, 1) := by decide +kernel
theorem dX4_carryOut_8 : decode cX4_carryOut 8 = .ok (.tableswitch 108 1 6 #[40, 48, 54, 73, 108, 92], 40) := by decide +kernel
theorem dX4_carryOut_48 : decode cX4_carryOut 48 = .ok (.aload_n 0, 1) := by decide +kernel
theorem dX4_carryOut_49 : decode cX4_carryOut 49 = .ok (.lload_n 2, 1) := by decide +kernel
theorem dX4_carryOut_50 : decode cX4_carryOut 50 = .ok (.iload 6, 2) := by decide +kernel
theorem dX4_carryOut_52 : decode cX4_carryOut 52 = .ok (.invokevirtual 153, 3) := by decide +kernel
theorem dX4_carryOut_55 : decode cX4_carryOut 55 = .ok (.ireturn, 1) := by decide +kernel
theorem dX4_carryOut_56 : decode cX4_carryOut 56 = .ok (.aload_n 0, 1) := by decide +kernel
theorem dX4_carryOut_57 : decode cX4_carryOut 57 = .ok (.lload_n 2, 1) := by decide +kernel
theorem dX4_carryOut_58 : decode cX4_carryOut 58 = .ok (.invokevirtual 157, 3) := by decide +kernel
theorem dX4_carryOut_61 : decode cX4_carryOut 61 = .ok (.ireturn, 1) := by decide +kernel
theorem dX4_carryOut_62 : decode cX4_carryOut 62 = .ok (.aload_n 0, 1) := by decide +kernel
theorem dX4_carryOut_63 : decode cX4_carryOut 63 = .ok (.lload_n 2, 1) := by decide +kernel
theorem dX4_carryOut_64 : decode cX4_carryOut 64 = .ok (.invokevirtual 157, 3) := by decide +kernel
theorem dX4_carryOut_67 : decode cX4_carryOut 67 = .ok (.istore 7, 2) := by decide +kernel
theorem dX4_carryOut_69 : decode cX4_carryOut 69 = .ok (.aload_n 0, 1) := by decide +kernel
theorem dX4_carryOut_70 : decode cX4_carryOut 70 = .ok (.lload 4, 2) := by decide +kernel
theorem dX4_carryOut_72 : decode cX4_carryOut 72 = .ok (.iload 7, 2) := by decide +kernel
theorem dX4_carryOut_74 : decode cX4_carryOut 74 = .ok (.invokevirtual 153, 3) := by decide +kernel
theorem dX4_carryOut_77 : decode cX4_carryOut 77 = .ok (.pop, 1) := by decide +kernel
theorem dX4_carryOut_78 : decode cX4_carryOut 78 = .ok (.iload 7, 2) := by decide +kernel
theorem dX4_carryOut_80 : decode cX4_carryOut 80 = .ok (.ireturn, 1) := by decide +kernel
theorem dX4_carryOut_81 : decode cX4_carryOut 81 = .ok (.aload_n 0, 1) := by decide +kernel
theorem dX4_carryOut_82 : decode cX4_carryOut 82 = .ok (.getfield 36, 3) := by decide +kernel
theorem dX4_carryOut_85 : decode cX4_carryOut 85 = .ok (.getfield 160, 3) := by decide +kernel
theorem dX4_carryOut_88 : decode cX4_carryOut 88 = .ok (.iload 6, 2) := by decide +kernel
theorem dX4_carryOut_90 : decode cX4_carryOut 90 = .ok (.iconst 1, 1) := by decide +kernel
theorem dX4_carryOut_91 : decode cX4_carryOut 91 = .ok (.iastore, 1) := by decide +kernel
theorem dX4_carryOut_92 : decode cX4_carryOut 92 = .ok (.aload_n 0, 1) := by decide +kernel
theorem dX4_carryOut_93 : decode cX4_carryOut 93 = .ok (.getfield 36, 3) := by decide +kernel
theorem dX4_carryOut_96 : decode cX4_carryOut 96 = .ok (.invokevirtual 48, 3) := by decide +kernel
theorem dX4_carryOut_99 : decode cX4_carryOut 99 = .ok (.ireturn, 1) := by decide +kernel
theorem dX4_carryOut_100 : decode cX4_carryOut 100 = .ok (.aload_n 0, 1) := by decide +kernel
theorem dX4_carryOut_101 : decode cX4_carryOut 101 = .ok (.invokevirtual 163, 3) := by decide +kernel
theorem dX4_carryOut_104 : decode cX4_carryOut 104 = .ok (.bipush 40, 2) := by decide +kernel
theorem dX4_carryOut_106 : decode cX4_carryOut 106 = .ok (.aload_n 0, 1) := by decide +kernel
theorem dX4_carryOut_107 : decode cX4_carryOut 107 = .ok (.getfield 36, 3) := by decide +kernel
theorem dX4_carryOut_110 : decode cX4_carryOut 110 = .ok (.iconst 0, 1) := by decide +kernel
theorem dX4_carryOut_111 : decode cX4_carryOut 111 = .ok (.invokevirtual 166, 3) := by decide +kernel
theorem dX4_carryOut_114 : decode cX4_carryOut 114 = .ok (.isub, 1) := by decide +kernel
theorem dX4_carryOut_115 : decode cX4_carryOut 115 = .ok (.ireturn, 1) := by decide +kernel
theorem dX4_carryOut_116 : decode cX4_carryOut 116 = .ok (.aload_n 0, 1) := by decide +kernel
theorem dX4_carryOut_117 : decode cX4_carryOut 117 = .ok (.aload_n 1, 1) := by decide +kernel
theorem dX4_carryOut_118 : decode cX4_carryOut 118 = .ok (.iload 6, 2) := by decide +kernel
theorem dX4_carryOut_120 : decode cX4_carryOut 120 = .ok (.invokevirtual 169, 3) := by decide +kernel
theorem dX4_carryOut_123 : decode cX4_carryOut 123 = .ok (.istore 8, 2) := by decide +kernel
theorem dX4_carryOut_125 : decode cX4_carryOut 125 = .ok (.aload_n 0, 1) := by decide +kernel
theorem dX4_carryOut_126 : decode cX4_carryOut 126 = .ok (.invokevirtual 163, 3) := by decide +kernel
theorem dX4_carryOut_129 : decode cX4_carryOut 129 = .ok (.iload 8, 2) := by decide +kernel
theorem dX4_carryOut_131 : decode cX4_carryOut 131 = .ok (.ireturn, 1) := by decide +kernel
theorem dX4_retune_0 : decode cX4_retune 0 = .ok (.aload_n 0, 1) := by decide +kernel
theorem dX4_retune_1 : decode cX4_retune 1 = .ok (.getfield 36, 3) := by decide +kernel
theorem dX4_retune_4 : decode cX4_retune 4 = .ok (.getfield 85, 3) := by decide +kernel
theorem dX4_retune_7 : decode cX4_retune 7 = .ok (.ifCond .eq 7, 3) := by decide +kernel
theorem dX4_retune_10 : decode cX4_retune 10 = .ok (.iconst 1, 1) := by decide +kernel
theorem dX4_retune_11 : decode cX4_retune 11 = .ok (.goto 4, 3) := by decide +kernel
theorem dX4_retune_14 : decode cX4_retune 14 = .ok (.iconst 0, 1) := by decide +kernel
theorem dX4_retune_15 : decode cX4_retune 15 = .ok (.istore_n 3, 1) := by decide +kernel
theorem dX4_retune_16 : decode cX4_retune 16 = .ok (.aload_n 1, 1) := by decide +kernel
theorem dX4_retune_17 : decode cX4_retune 17 = .ok (.getstatic 173, 3) := by decide +kernel
theorem dX4_retune_20 : decode cX4_retune 20 = .ok (.if_acmp .ne 22, 3) := by decide +kernel
theorem dX4_retune_23 : decode cX4_retune 23 = .ok (.aload_n 0, 1) := by decide +kernel
theorem dX4_retune_24 : decode cX4_retune 24 = .ok (.getfield 36, 3) := by decide +kernel
theorem dX4_retune_27 : decode cX4_retune 27 = .ok (.getfield 177, 3) := by decide +kernel
theorem dX4_retune_30 : decode cX4_retune 30 = .ok (.istore_n 3, 1) := by decide +kernel
theorem dX4_retune_31 : decode cX4_retune 31 = .ok (.aload_n 0, 1) := by decide +kernel
theorem dX4_retune_32 : decode cX4_retune 32 = .ok (.getfield 36, 3) := by decide +kernel
theorem dX4_retune_35 : decode cX4_retune 35 = .ok (.iload_n 2, 1) := by decide +kernel
theorem dX4_retune_36 : decode cX4_retune 36 = .ok (.putfield 177, 3) := by decide +kernel
theorem dX4_retune_39 : decode cX4_retune 39 = .ok (.goto 48, 3) := by decide +kernel
theorem dX4_retune_42 : decode cX4_retune 42 = .ok (.aload_n 1, 1) := by decide +kernel
theorem dX4_retune_43 : decode cX4_retune 43 = .ok (.getstatic 180, 3) := by decide +kernel
theorem dX4_retune_46 : decode cX4_retune 46 = .ok (.if_acmp .ne 22, 3) := by decide +kernel
theorem dX4_retune_49 : decode cX4_retune 49 = .ok (.aload_n 0, 1) := by decide +kernel
theorem dX4_retune_50 : decode cX4_retune 50 = .ok (.getfield 36, 3) := by decide +kernel
theorem dX4_retune_53 : decode cX4_retune 53 = .ok (.getfield 183, 3) := by decide +kernel
theorem dX4_retune_56 : decode cX4_retune 56 = .ok (.istore_n 3, 1) := by decide +kernel
theorem dX4_retune_57 : decode cX4_retune 57 = .ok (.aload_n 0, 1) := by decide +kernel
theorem dX4_retune_58 : decode cX4_retune 58 = .ok (.getfield 36, 3) := by decide +kernel
theorem dX4_retune_61 : decode cX4_retune 61 = .ok (.iload_n 2, 1) := by decide +kernel
theorem dX4_retune_62 : decode cX4_retune 62 = .ok (.putfield 183, 3) := by decide +kernel
theorem dX4_retune_65 : decode cX4_retune 65 = .ok (.goto 22, 3) := by decide +kernel
theorem dX4_retune_68 : decode cX4_retune 68 = .ok (.aload_n 0, 1) := by decide +kernel
theorem dX4_retune_69 : decode cX4_retune 69 = .ok (.getfield 36, 3) := by decide +kernel
theorem dX4_retune_72 : decode cX4_retune 72 = .ok (.aload_n 1, 1) := by decide +kernel
theorem dX4_retune_73 : decode cX4_retune 73 = .ok (.getstatic 186, 3) := by decide +kernel
theorem dX4_retune_76 : decode cX4_retune 76 = .ok (.if_acmp .ne 7, 3) := by decide +kernel
theorem dX4_retune_79 : decode cX4_retune 79 = .ok (.iconst 1, 1) := by decide +kernel
theorem dX4_retune_80 : decode cX4_retune 80 = .ok (.goto 4, 3) := by decide +kernel
theorem dX4_retune_83 : decode cX4_retune 83 = .ok (.iconst 0, 1) := by decide +kernel
theorem dX4_retune_84 : decode cX4_retune 84 = .ok (.putfield 85, 3) := by decide +kernel
theorem dX4_retune_87 : decode cX4_retune 87 = .ok (.iload_n 3, 1) := by decide +kernel
theorem dX4_retune_88 : decode cX4_retune 88 = .ok (.ireturn, 1) := by decide +kernel
theorem dX4_removeEntry_0 : decode cX4_removeEntry 0 = .ok (.aload_n 0, 1) := by decide +kernel
theorem dX4_removeEntry_1 : decode cX4_removeEntry 1 = .ok (.lload_n 1, 1) := by decide +kernel
theorem dX4_removeEntry_2 : decode cX4_removeEntry 2 = .ok (.invokevirtual 93, 3) := by decide +kernel
theorem dX4_removeEntry_5 : decode cX4_removeEntry 5 = .ok (.istore_n 3, 1) := by decide +kernel
theorem dX4_removeEntry_6 : decode cX4_removeEntry 6 = .ok (.iload_n 3, 1) := by decide +kernel
theorem dX4_removeEntry_7 : decode cX4_removeEntry 7 = .ok (.iconst (-1), 1) := by decide +kernel
theorem dX4_removeEntry_8 : decode cX4_removeEntry 8 = .ok (.if_icmp .ne 5, 3) := by decide +kernel
theorem dX4_removeEntry_11 : decode cX4_removeEntry 11 = .ok (.iconst (-1), 1) := by decide +kernel
theorem dX4_removeEntry_12 : decode cX4_removeEntry 12 = .ok (.ireturn, 1) := by decide +kernel
theorem dX4_removeEntry_13 : decode cX4_removeEntry 13 = .ok (.aload_n 0, 1) := by decide +kernel
theorem dX4_removeEntry_14 : decode cX4_removeEntry 14 = .ok (.getfield 36, 3) := by decide +kernel
theorem dX4_removeEntry_17 : decode cX4_removeEntry 17 = .ok (.getfield 81, 3) := by decide +kernel
theorem dX4_removeEntry_20 : decode cX4_removeEntry 20 = .ok (.iload_n 3, 1) := by decide +kernel
theorem dX4_removeEntry_21 : decode cX4_removeEntry 21 = .ok (.lconst 0, 1) := by decide +kernel
theorem dX4_removeEntry_22 : decode cX4_removeEntry 22 = .ok (.lastore, 1) := by decide +kernel
theorem dX4_removeEntry_23 : decode cX4_removeEntry 23 = .ok (.aload_n 0, 1) := by decide +kernel
theorem dX4_removeEntry_24 : decode cX4_removeEntry 24 = .ok (.getfield 36, 3) := by decide +kernel
theorem dX4_removeEntry_27 : decode cX4_removeEntry 27 = .ok (.getfield 96, 3) := by decide +kernel
theorem dX4_removeEntry_30 : decode cX4_removeEntry 30 = .ok (.iload_n 3, 1) := by decide +kernel
theorem dX4_removeEntry_31 : decode cX4_removeEntry 31 = .ok (.iaload, 1) := by decide +kernel
theorem dX4_removeEntry_32 : decode cX4_removeEntry 32 = .ok (.ireturn, 1) := by decide +kernel
theorem dX4_placeEntry_0 : decode cX4_placeEntry 0 = .ok (.aload_n 0, 1) := by decide +kernel
theorem dX4_placeEntry_1 : decode cX4_placeEntry 1 = .ok (.lload_n 1, 1) := by decide +kernel
theorem dX4_placeEntry_2 : decode cX4_placeEntry 2 = .ok (.invokevirtual 123, 3) := by decide +kernel
theorem dX4_placeEntry_5 : decode cX4_placeEntry 5 = .ok (.istore 4, 2) := by decide +kernel
theorem dX4_placeEntry_7 : decode cX4_placeEntry 7 = .ok (.aload_n 0, 1) := by decide +kernel
theorem dX4_placeEntry_8 : decode cX4_placeEntry 8 = .ok (.invokevirtual 137, 3) := by decide +kernel
theorem dX4_placeEntry_11 : decode cX4_placeEntry 11 = .ok (.istore 5, 2) := by decide +kernel
theorem dX4_placeEntry_13 : decode cX4_placeEntry 13 = .ok (.aload_n 0, 1) := by decide +kernel
theorem dX4_placeEntry_14 : decode cX4_placeEntry 14 = .ok (.getfield 36, 3) := by decide +kernel
theorem dX4_placeEntry_17 : decode cX4_placeEntry 17 = .ok (.lload_n 1, 1) := by decide +kernel
theorem dX4_placeEntry_18 : decode cX4_placeEntry 18 = .ok (.invokevirtual 58, 3) := by decide +kernel
theorem dX4_placeEntry_21 : decode cX4_placeEntry 21 = .ok (.istore 6, 2) := by decide +kernel
theorem dX4_placeEntry_23 : decode cX4_placeEntry 23 = .ok (.iload 5, 2) := by decide +kernel
theorem dX4_placeEntry_25 : decode cX4_placeEntry 25 = .ok (.iconst (-1), 1) := by decide +kernel
theorem dX4_placeEntry_26 : decode cX4_placeEntry 26 = .ok (.if_icmp .eq 19, 3) := by decide +kernel
theorem dX4_placeEntry_29 : decode cX4_placeEntry 29 = .ok (.aload_n 0, 1) := by decide +kernel
theorem dX4_placeEntry_30 : decode cX4_placeEntry 30 = .ok (.getfield 36, 3) := by decide +kernel
theorem dX4_placeEntry_33 : decode cX4_placeEntry 33 = .ok (.iload 5, 2) := by decide +kernel
theorem dX4_placeEntry_35 : decode cX4_placeEntry 35 = .ok (.lload_n 1, 1) := by decide +kernel
theorem dX4_placeEntry_36 : decode cX4_placeEntry 36 = .ok (.iload_n 3, 1) := by decide +kernel
theorem dX4_placeEntry_37 : decode cX4_placeEntry 37 = .ok (.iload 6, 2) := by decide +kernel
theorem dX4_placeEntry_39 : decode cX4_placeEntry 39 = .ok (.invokevirtual 189, 3) := by decide +kernel
theorem dX4_placeEntry_42 : decode cX4_placeEntry 42 = .ok (.goto 39, 3) := by decide +kernel
theorem dX4_placeEntry_45 : decode cX4_placeEntry 45 = .ok (.iload 4, 2) := by decide +kernel
theorem dX4_placeEntry_47 : decode cX4_placeEntry 47 = .ok (.iconst (-1), 1) := by decide +kernel
theorem dX4_placeEntry_48 : decode cX4_placeEntry 48 = .ok (.if_icmp .eq 33, 3) := by decide +kernel
theorem dX4_placeEntry_51 : decode cX4_placeEntry 51 = .ok (.aload_n 0, 1) := by decide +kernel
theorem dX4_placeEntry_52 : decode cX4_placeEntry 52 = .ok (.aload_n 0, 1) := by decide +kernel
theorem dX4_placeEntry_53 : decode cX4_placeEntry 53 = .ok (.getfield 21, 3) := by decide +kernel
theorem dX4_placeEntry_56 : decode cX4_placeEntry 56 = .ok (.invokevirtual 193, 3) := by decide +kernel
theorem dX4_placeEntry_59 : decode cX4_placeEntry 59 = .ok (.invokevirtual 196, 3) := by decide +kernel
theorem dX4_placeEntry_62 : decode cX4_placeEntry 62 = .ok (.aload_n 0, 1) := by decide +kernel
theorem dX4_placeEntry_63 : decode cX4_placeEntry 63 = .ok (.getfield 28, 3) := by decide +kernel
theorem dX4_placeEntry_66 : decode cX4_placeEntry 66 = .ok (.lload_n 1, 1) := by decide +kernel
theorem dX4_placeEntry_67 : decode cX4_placeEntry 67 = .ok (.iload_n 3, 1) := by decide +kernel
theorem dX4_placeEntry_68 : decode cX4_placeEntry 68 = .ok (.iload 6, 2) := by decide +kernel
theorem dX4_placeEntry_70 : decode cX4_placeEntry 70 = .ok (.invokevirtual 132, 3) := by decide +kernel
theorem dX4_placeEntry_73 : decode cX4_placeEntry 73 = .ok (.aload_n 0, 1) := by decide +kernel
theorem dX4_placeEntry_74 : decode cX4_placeEntry 74 = .ok (.invokevirtual 199, 3) := by decide +kernel
theorem dX4_placeEntry_77 : decode cX4_placeEntry 77 = .ok (.aload_n 0, 1) := by decide +kernel
theorem dX4_placeEntry_78 : decode cX4_placeEntry 78 = .ok (.invokevirtual 202, 3) := by decide +kernel
theorem dX4_placeEntry_81 : decode cX4_placeEntry 81 = .ok (.iload 4, 2) := by decide +kernel
theorem dX4_placeEntry_83 : decode cX4_placeEntry 83 = .ok (.ireturn, 1) := by decide +kernel
theorem dX4_poolOfLeaf_0 : decode cX4_poolOfLeaf 0 = .ok (.aload_n 0, 1) := by decide +kernel
theorem dX4_poolOfLeaf_1 : decode cX4_poolOfLeaf 1 = .ok (.getfield 28, 3) := by decide +kernel
theorem dX4_poolOfLeaf_4 : decode cX4_poolOfLeaf 4 = .ok (.iconst 0, 1) := by decide +kernel
theorem dX4_poolOfLeaf_5 : decode cX4_poolOfLeaf 5 = .ok (.putfield 129, 3) := by decide +kernel
theorem dX4_poolOfLeaf_8 : decode cX4_poolOfLeaf 8 = .ok (.iload_n 1, 1) := by decide +kernel
theorem dX4_poolOfLeaf_9 : decode cX4_poolOfLeaf 9 = .ok (.bipush 6, 2) := by decide +kernel
theorem dX4_poolOfLeaf_11 : decode cX4_poolOfLeaf 11 = .ok (.imul, 1) := by decide +kernel
theorem dX4_poolOfLeaf_12 : decode cX4_poolOfLeaf 12 = .ok (.istore_n 2, 1) := by decide +kernel
theorem dX4_poolOfLeaf_13 : decode cX4_poolOfLeaf 13 = .ok (.iload_n 2, 1) := by decide +kernel
theorem dX4_poolOfLeaf_14 : decode cX4_poolOfLeaf 14 = .ok (.iload_n 1, 1) := by decide +kernel
theorem dX4_poolOfLeaf_15 : decode cX4_poolOfLeaf 15 = .ok (.bipush 6, 2) := by decide +kernel
theorem dX4_poolOfLeaf_17 : decode cX4_poolOfLeaf 17 = .ok (.imul, 1) := by decide +kernel
theorem dX4_poolOfLeaf_18 : decode cX4_poolOfLeaf 18 = .ok (.bipush 6, 2) := by decide +kernel
theorem dX4_poolOfLeaf_20 : decode cX4_poolOfLeaf 20 = .ok (.iadd, 1) := by decide +kernel
theorem dX4_poolOfLeaf_21 : decode cX4_poolOfLeaf 21 = .ok (.if_icmp .ge 43, 3) := by decide +kernel
theorem dX4_poolOfLeaf_24 : decode cX4_poolOfLeaf 24 = .ok (.aload_n 0, 1) := by decide +kernel
theorem dX4_poolOfLeaf_25 : decode cX4_poolOfLeaf 25 = .ok (.getfield 28, 3) := by decide +kernel
theorem dX4_poolOfLeaf_28 : decode cX4_poolOfLeaf 28 = .ok (.aload_n 0, 1) := by decide +kernel
theorem dX4_poolOfLeaf_29 : decode cX4_poolOfLeaf 29 = .ok (.getfield 36, 3) := by decide +kernel
theorem dX4_poolOfLeaf_32 : decode cX4_poolOfLeaf 32 = .ok (.getfield 81, 3) := by decide +kernel
theorem dX4_poolOfLeaf_35 : decode cX4_poolOfLeaf 35 = .ok (.iload_n 2, 1) := by decide +kernel
theorem dX4_poolOfLeaf_36 : decode cX4_poolOfLeaf 36 = .ok (.laload, 1) := by decide +kernel
theorem dX4_poolOfLeaf_37 : decode cX4_poolOfLeaf 37 = .ok (.aload_n 0, 1) := by decide +kernel
theorem dX4_poolOfLeaf_38 : decode cX4_poolOfLeaf 38 = .ok (.getfield 36, 3) := by decide +kernel
theorem dX4_poolOfLeaf_41 : decode cX4_poolOfLeaf 41 = .ok (.getfield 96, 3) := by decide +kernel
theorem dX4_poolOfLeaf_44 : decode cX4_poolOfLeaf 44 = .ok (.iload_n 2, 1) := by decide +kernel
theorem dX4_poolOfLeaf_45 : decode cX4_poolOfLeaf 45 = .ok (.iaload, 1) := by decide +kernel
theorem dX4_poolOfLeaf_46 : decode cX4_poolOfLeaf 46 = .ok (.aload_n 0, 1) := by decide +kernel
theorem dX4_poolOfLeaf_47 : decode cX4_poolOfLeaf 47 = .ok (.getfield 36, 3) := by decide +kernel
theorem dX4_poolOfLeaf_50 : decode cX4_poolOfLeaf 50 = .ok (.getfield 205, 3) := by decide +kernel
theorem dX4_poolOfLeaf_53 : decode cX4_poolOfLeaf 53 = .ok (.iload_n 2, 1) := by decide +kernel
theorem dX4_poolOfLeaf_54 : decode cX4_poolOfLeaf 54 = .ok (.iaload, 1) := by decide +kernel
theorem dX4_poolOfLeaf_55 : decode cX4_poolOfLeaf 55 = .ok (.invokevirtual 132, 3) := by decide +kernel
theorem dX4_poolOfLeaf_58 : decode cX4_poolOfLeaf 58 = .ok (.iinc 2 1, 3) := by decide +kernel
theorem dX4_poolOfLeaf_61 : decode cX4_poolOfLeaf 61 = .ok (.goto (-48), 3) := by decide +kernel
theorem dX4_poolOfLeaf_64 : decode cX4_poolOfLeaf 64 = .ok (.return_, 1) := by decide +kernel
theorem dX4_splitLeaf_0 : decode cX4_splitLeaf 0 = .ok (.aload_n 0, 1) := by decide +kernel
theorem dX4_splitLeaf_1 : decode cX4_splitLeaf 1 = .ok (.getfield 28, 3) := by decide +kernel
theorem dX4_splitLeaf_4 : decode cX4_splitLeaf 4 = .ok (.getfield 208, 3) := by decide +kernel
theorem dX4_splitLeaf_7 : decode cX4_splitLeaf 7 = .ok (.iconst 3, 1) := by decide +kernel
theorem dX4_splitLeaf_8 : decode cX4_splitLeaf 8 = .ok (.iaload, 1) := by decide +kernel
theorem dX4_splitLeaf_9 : decode cX4_splitLeaf 9 = .ok (.istore_n 1, 1) := by decide +kernel
theorem dX4_splitLeaf_10 : decode cX4_splitLeaf 10 = .ok (.aload_n 0, 1) := by decide +kernel
theorem dX4_splitLeaf_11 : decode cX4_splitLeaf 11 = .ok (.getfield 28, 3) := by decide +kernel
theorem dX4_splitLeaf_14 : decode cX4_splitLeaf 14 = .ok (.iconst 3, 1) := by decide +kernel
theorem dX4_splitLeaf_15 : decode cX4_splitLeaf 15 = .ok (.invokevirtual 209, 3) := by decide +kernel
theorem dX4_splitLeaf_18 : decode cX4_splitLeaf 18 = .ok (.istore_n 2, 1) := by decide +kernel
theorem dX4_splitLeaf_19 : decode cX4_splitLeaf 19 = .ok (.aload_n 0, 1) := by decide +kernel
theorem dX4_splitLeaf_20 : decode cX4_splitLeaf 20 = .ok (.getfield 36, 3) := by decide +kernel
theorem dX4_splitLeaf_23 : decode cX4_splitLeaf 23 = .ok (.iconst 1, 1) := by decide +kernel
theorem dX4_splitLeaf_24 : decode cX4_splitLeaf 24 = .ok (.invokevirtual 212, 3) := by decide +kernel
theorem dX4_splitLeaf_27 : decode cX4_splitLeaf 27 = .ok (.istore_n 3, 1) := by decide +kernel
theorem dX4_splitLeaf_28 : decode cX4_splitLeaf 28 = .ok (.aload_n 0, 1) := by decide +kernel
theorem dX4_splitLeaf_29 : decode cX4_splitLeaf 29 = .ok (.getfield 36, 3) := by decide +kernel
theorem dX4_splitLeaf_32 : decode cX4_splitLeaf 32 = .ok (.iload_n 3, 1) := by decide +kernel
theorem dX4_splitLeaf_33 : decode cX4_splitLeaf 33 = .ok (.aload_n 0, 1) := by decide +kernel
theorem dX4_splitLeaf_34 : decode cX4_splitLeaf 34 = .ok (.getfield 28, 3) := by decide +kernel
theorem dX4_splitLeaf_37 : decode cX4_splitLeaf 37 = .ok (.iconst 3, 1) := by decide +kernel
theorem dX4_splitLeaf_38 : decode cX4_splitLeaf 38 = .ok (.aload_n 0, 1) := by decide +kernel
theorem dX4_splitLeaf_39 : decode cX4_splitLeaf 39 = .ok (.getfield 28, 3) := by decide +kernel
theorem dX4_splitLeaf_42 : decode cX4_splitLeaf 42 = .ok (.getfield 129, 3) := by decide +kernel
theorem dX4_splitLeaf_45 : decode cX4_splitLeaf 45 = .ok (.invokevirtual 215, 3) := by decide +kernel
theorem dX4_splitLeaf_48 : decode cX4_splitLeaf 48 = .ok (.aload_n 0, 1) := by decide +kernel
theorem dX4_splitLeaf_49 : decode cX4_splitLeaf 49 = .ok (.getfield 21, 3) := by decide +kernel
theorem dX4_splitLeaf_52 : decode cX4_splitLeaf 52 = .ok (.getfield 64, 3) := by decide +kernel
theorem dX4_splitLeaf_55 : decode cX4_splitLeaf 55 = .ok (.ifCond .ne 41, 3) := by decide +kernel
theorem dX4_splitLeaf_58 : decode cX4_splitLeaf 58 = .ok (.aload_n 0, 1) := by decide +kernel
theorem dX4_splitLeaf_59 : decode cX4_splitLeaf 59 = .ok (.getfield 36, 3) := by decide +kernel
theorem dX4_splitLeaf_62 : decode cX4_splitLeaf 62 = .ok (.iconst 1, 1) := by decide +kernel
theorem dX4_splitLeaf_63 : decode cX4_splitLeaf 63 = .ok (.invokevirtual 212, 3) := by decide +kernel
theorem dX4_splitLeaf_66 : decode cX4_splitLeaf 66 = .ok (.istore 4, 2) := by decide +kernel
theorem dX4_splitLeaf_68 : decode cX4_splitLeaf 68 = .ok (.aload_n 0, 1) := by decide +kernel
theorem dX4_splitLeaf_69 : decode cX4_splitLeaf 69 = .ok (.getfield 36, 3) := by decide +kernel
theorem dX4_splitLeaf_72 : decode cX4_splitLeaf 72 = .ok (.iload 4, 2) := by decide +kernel
theorem dX4_splitLeaf_74 : decode cX4_splitLeaf 74 = .ok (.aload_n 0, 1) := by decide +kernel
theorem dX4_splitLeaf_75 : decode cX4_splitLeaf 75 = .ok (.getfield 28, 3) := by decide +kernel
theorem dX4_splitLeaf_78 : decode cX4_splitLeaf 78 = .ok (.iconst 0, 1) := by decide +kernel
theorem dX4_splitLeaf_79 : decode cX4_splitLeaf 79 = .ok (.iconst 3, 1) := by decide +kernel
theorem dX4_splitLeaf_80 : decode cX4_splitLeaf 80 = .ok (.invokevirtual 215, 3) := by decide +kernel
theorem dX4_splitLeaf_83 : decode cX4_splitLeaf 83 = .ok (.aload_n 0, 1) := by decide +kernel
theorem dX4_splitLeaf_84 : decode cX4_splitLeaf 84 = .ok (.getfield 36, 3) := by decide +kernel
theorem dX4_splitLeaf_87 : decode cX4_splitLeaf 87 = .ok (.iload 4, 2) := by decide +kernel
theorem dX4_splitLeaf_89 : decode cX4_splitLeaf 89 = .ok (.iload_n 3, 1) := by decide +kernel
theorem dX4_splitLeaf_90 : decode cX4_splitLeaf 90 = .ok (.iload_n 1, 1) := by decide +kernel
theorem dX4_splitLeaf_91 : decode cX4_splitLeaf 91 = .ok (.iload_n 2, 1) := by decide +kernel
theorem dX4_splitLeaf_92 : decode cX4_splitLeaf 92 = .ok (.invokevirtual 219, 3) := by decide +kernel
theorem dX4_splitLeaf_95 : decode cX4_splitLeaf 95 = .ok (.return_, 1) := by decide +kernel
theorem dX4_splitLeaf_96 : decode cX4_splitLeaf 96 = .ok (.aload_n 0, 1) := by decide +kernel
theorem dX4_splitLeaf_97 : decode cX4_splitLeaf 97 = .ok (.getfield 36, 3) := by decide +kernel
theorem dX4_splitLeaf_100 : decode cX4_splitLeaf 100 = .ok (.aload_n 0, 1) := by decide +kernel
theorem dX4_splitLeaf_101 : decode cX4_splitLeaf 101 = .ok (.getfield 21, 3) := by decide +kernel
theorem dX4_splitLeaf_104 : decode cX4_splitLeaf 104 = .ok (.invokevirtual 193, 3) := by decide +kernel
theorem dX4_splitLeaf_107 : decode cX4_splitLeaf 107 = .ok (.aload_n 0, 1) := by decide +kernel
theorem dX4_splitLeaf_108 : decode cX4_splitLeaf 108 = .ok (.getfield 28, 3) := by decide +kernel
theorem dX4_splitLeaf_111 : decode cX4_splitLeaf 111 = .ok (.iconst 0, 1) := by decide +kernel
theorem dX4_splitLeaf_112 : decode cX4_splitLeaf 112 = .ok (.iconst 3, 1) := by decide +kernel
theorem dX4_splitLeaf_113 : decode cX4_splitLeaf 113 = .ok (.invokevirtual 215, 3) := by decide +kernel
theorem dX4_splitLeaf_116 : decode cX4_splitLeaf 116 = .ok (.aload_n 0, 1) := by decide +kernel
theorem dX4_splitLeaf_117 : decode cX4_splitLeaf 117 = .ok (.getfield 36, 3) := by decide +kernel
theorem dX4_splitLeaf_120 : decode cX4_splitLeaf 120 = .ok (.aload_n 0, 1) := by decide +kernel
theorem dX4_splitLeaf_121 : decode cX4_splitLeaf 121 = .ok (.getfield 21, 3) := by decide +kernel
theorem dX4_splitLeaf_124 : decode cX4_splitLeaf 124 = .ok (.invokevirtual 146, 3) := by decide +kernel
theorem dX4_splitLeaf_127 : decode cX4_splitLeaf 127 = .ok (.aload_n 0, 1) := by decide +kernel
theorem dX4_splitLeaf_128 : decode cX4_splitLeaf 128 = .ok (.getfield 21, 3) := by decide +kernel
theorem dX4_splitLeaf_131 : decode cX4_splitLeaf 131 = .ok (.getfield 223, 3) := by decide +kernel
theorem dX4_splitLeaf_134 : decode cX4_splitLeaf 134 = .ok (.aload_n 0, 1) := by decide +kernel
theorem dX4_splitLeaf_135 : decode cX4_splitLeaf 135 = .ok (.getfield 21, 3) := by decide +kernel
theorem dX4_splitLeaf_138 : decode cX4_splitLeaf 138 = .ok (.getfield 64, 3) := by decide +kernel
theorem dX4_splitLeaf_141 : decode cX4_splitLeaf 141 = .ok (.iconst 1, 1) := by decide +kernel
theorem dX4_splitLeaf_142 : decode cX4_splitLeaf 142 = .ok (.isub, 1) := by decide +kernel
theorem dX4_splitLeaf_143 : decode cX4_splitLeaf 143 = .ok (.iaload, 1) := by decide +kernel
theorem dX4_splitLeaf_144 : decode cX4_splitLeaf 144 = .ok (.iconst 1, 1) := by decide +kernel
theorem dX4_splitLeaf_145 : decode cX4_splitLeaf 145 = .ok (.iadd, 1) := by decide +kernel
theorem dX4_splitLeaf_146 : decode cX4_splitLeaf 146 = .ok (.iload_n 1, 1) := by decide +kernel
theorem dX4_splitLeaf_147 : decode cX4_splitLeaf 147 = .ok (.iload_n 2, 1) := by decide +kernel
theorem dX4_splitLeaf_148 : decode cX4_splitLeaf 148 = .ok (.iload_n 3, 1) := by decide +kernel
theorem dX4_splitLeaf_149 : decode cX4_splitLeaf 149 = .ok (.invokevirtual 226, 3) := by decide +kernel
theorem dX4_splitLeaf_152 : decode cX4_splitLeaf 152 = .ok (.return_, 1) := by decide +kernel
theorem dX4_splitIndex_0 : decode cX4_splitIndex 0 = .ok (.aload_n 0, 1) := by decide +kernel
theorem dX4_splitIndex_1 : decode cX4_splitIndex 1 = .ok (.getfield 21, 3) := by decide +kernel
theorem dX4_splitIndex_4 : decode cX4_splitIndex 4 = .ok (.invokevirtual 146, 3) := by decide +kernel
theorem dX4_splitIndex_7 : decode cX4_splitIndex 7 = .ok (.istore_n 1, 1) := by decide +kernel
theorem dX4_splitIndex_8 : decode cX4_splitIndex 8 = .ok (.aload_n 0, 1) := by decide +kernel
theorem dX4_splitIndex_9 : decode cX4_splitIndex 9 = .ok (.getfield 36, 3) := by decide +kernel
theorem dX4_splitIndex_12 : decode cX4_splitIndex 12 = .ok (.getfield 143, 3) := by decide +kernel
theorem dX4_splitIndex_15 : decode cX4_splitIndex 15 = .ok (.iload_n 1, 1) := by decide +kernel
theorem dX4_splitIndex_16 : decode cX4_splitIndex 16 = .ok (.iaload, 1) := by decide +kernel
theorem dX4_splitIndex_17 : decode cX4_splitIndex 17 = .ok (.iconst 5, 1) := by decide +kernel
theorem dX4_splitIndex_18 : decode cX4_splitIndex 18 = .ok (.if_icmp .gt 4, 3) := by decide +kernel
theorem dX4_splitIndex_21 : decode cX4_splitIndex 21 = .ok (.return_, 1) := by decide +kernel
theorem dX4_splitIndex_22 : decode cX4_splitIndex 22 = .ok (.aload_n 0, 1) := by decide +kernel
theorem dX4_splitIndex_23 : decode cX4_splitIndex 23 = .ok (.getfield 36, 3) := by decide +kernel
theorem dX4_splitIndex_26 : decode cX4_splitIndex 26 = .ok (.iconst 2, 1) := by decide +kernel
theorem dX4_splitIndex_27 : decode cX4_splitIndex 27 = .ok (.invokevirtual 212, 3) := by decide +kernel
theorem dX4_splitIndex_30 : decode cX4_splitIndex 30 = .ok (.istore_n 2, 1) := by decide +kernel
theorem dX4_splitIndex_31 : decode cX4_splitIndex 31 = .ok (.aload_n 0, 1) := by decide +kernel
theorem dX4_splitIndex_32 : decode cX4_splitIndex 32 = .ok (.getfield 36, 3) := by decide +kernel
theorem dX4_splitIndex_35 : decode cX4_splitIndex 35 = .ok (.iload_n 1, 1) := by decide +kernel
theorem dX4_splitIndex_36 : decode cX4_splitIndex 36 = .ok (.iconst 3, 1) := by decide +kernel
theorem dX4_splitIndex_37 : decode cX4_splitIndex 37 = .ok (.bipush 6, 2) := by decide +kernel
theorem dX4_splitIndex_39 : decode cX4_splitIndex 39 = .ok (.iload_n 2, 1) := by decide +kernel
theorem dX4_splitIndex_40 : decode cX4_splitIndex 40 = .ok (.invokevirtual 230, 3) := by decide +kernel
theorem dX4_splitIndex_43 : decode cX4_splitIndex 43 = .ok (.aload_n 0, 1) := by decide +kernel
theorem dX4_splitIndex_44 : decode cX4_splitIndex 44 = .ok (.getfield 36, 3) := by decide +kernel
theorem dX4_splitIndex_47 : decode cX4_splitIndex 47 = .ok (.getfield 233, 3) := by decide +kernel
theorem dX4_splitIndex_50 : decode cX4_splitIndex 50 = .ok (.iload_n 2, 1) := by decide +kernel
theorem dX4_splitIndex_51 : decode cX4_splitIndex 51 = .ok (.bipush 6, 2) := by decide +kernel
theorem dX4_splitIndex_53 : decode cX4_splitIndex 53 = .ok (.imul, 1) := by decide +kernel
theorem dX4_splitIndex_54 : decode cX4_splitIndex 54 = .ok (.iaload, 1) := by decide +kernel
theorem dX4_splitIndex_55 : decode cX4_splitIndex 55 = .ok (.istore_n 3, 1) := by decide +kernel
theorem dX4_splitIndex_56 : decode cX4_splitIndex 56 = .ok (.aload_n 0, 1) := by decide +kernel
theorem dX4_splitIndex_57 : decode cX4_splitIndex 57 = .ok (.getfield 36, 3) := by decide +kernel
theorem dX4_splitIndex_60 : decode cX4_splitIndex 60 = .ok (.getfield 236, 3) := by decide +kernel
theorem dX4_splitIndex_63 : decode cX4_splitIndex 63 = .ok (.iload_n 2, 1) := by decide +kernel
theorem dX4_splitIndex_64 : decode cX4_splitIndex 64 = .ok (.bipush 6, 2) := by decide +kernel
theorem dX4_splitIndex_66 : decode cX4_splitIndex 66 = .ok (.imul, 1) := by decide +kernel
theorem dX4_splitIndex_67 : decode cX4_splitIndex 67 = .ok (.iaload, 1) := by decide +kernel
theorem dX4_splitIndex_68 : decode cX4_splitIndex 68 = .ok (.istore 4, 2) := by decide +kernel
theorem dX4_splitIndex_70 : decode cX4_splitIndex 70 = .ok (.iload_n 1, 1) := by decide +kernel
theorem dX4_splitIndex_71 : decode cX4_splitIndex 71 = .ok (.ifCond .ne 41, 3) := by decide +kernel
theorem dX4_splitIndex_74 : decode cX4_splitIndex 74 = .ok (.aload_n 0, 1) := by decide +kernel
theorem dX4_splitIndex_75 : decode cX4_splitIndex 75 = .ok (.getfield 36, 3) := by decide +kernel
theorem dX4_splitIndex_78 : decode cX4_splitIndex 78 = .ok (.iconst 2, 1) := by decide +kernel
theorem dX4_splitIndex_79 : decode cX4_splitIndex 79 = .ok (.invokevirtual 212, 3) := by decide +kernel
theorem dX4_splitIndex_82 : decode cX4_splitIndex 82 = .ok (.istore 5, 2) := by decide +kernel
theorem dX4_splitIndex_84 : decode cX4_splitIndex 84 = .ok (.aload_n 0, 1) := by decide +kernel
theorem dX4_splitIndex_85 : decode cX4_splitIndex 85 = .ok (.getfield 36, 3) := by decide +kernel
theorem dX4_splitIndex_88 : decode cX4_splitIndex 88 = .ok (.iconst 0, 1) := by decide +kernel
theorem dX4_splitIndex_89 : decode cX4_splitIndex 89 = .ok (.iconst 0, 1) := by decide +kernel
theorem dX4_splitIndex_90 : decode cX4_splitIndex 90 = .ok (.iconst 3, 1) := by decide +kernel
theorem dX4_splitIndex_91 : decode cX4_splitIndex 91 = .ok (.iload 5, 2) := by decide +kernel
theorem dX4_splitIndex_93 : decode cX4_splitIndex 93 = .ok (.invokevirtual 230, 3) := by decide +kernel
theorem dX4_splitIndex_96 : decode cX4_splitIndex 96 = .ok (.aload_n 0, 1) := by decide +kernel
theorem dX4_splitIndex_97 : decode cX4_splitIndex 97 = .ok (.getfield 36, 3) := by decide +kernel
theorem dX4_splitIndex_100 : decode cX4_splitIndex 100 = .ok (.iload 5, 2) := by decide +kernel
theorem dX4_splitIndex_102 : decode cX4_splitIndex 102 = .ok (.iload_n 2, 1) := by decide +kernel
theorem dX4_splitIndex_103 : decode cX4_splitIndex 103 = .ok (.iload_n 3, 1) := by decide +kernel
theorem dX4_splitIndex_104 : decode cX4_splitIndex 104 = .ok (.iload 4, 2) := by decide +kernel
theorem dX4_splitIndex_106 : decode cX4_splitIndex 106 = .ok (.invokevirtual 219, 3) := by decide +kernel
theorem dX4_splitIndex_109 : decode cX4_splitIndex 109 = .ok (.goto 36, 3) := by decide +kernel
theorem dX4_splitIndex_112 : decode cX4_splitIndex 112 = .ok (.aload_n 0, 1) := by decide +kernel
theorem dX4_splitIndex_113 : decode cX4_splitIndex 113 = .ok (.getfield 36, 3) := by decide +kernel
theorem dX4_splitIndex_116 : decode cX4_splitIndex 116 = .ok (.getfield 143, 3) := by decide +kernel
theorem dX4_splitIndex_119 : decode cX4_splitIndex 119 = .ok (.iload_n 1, 1) := by decide +kernel
theorem dX4_splitIndex_120 : decode cX4_splitIndex 120 = .ok (.iconst 3, 1) := by decide +kernel
theorem dX4_splitIndex_121 : decode cX4_splitIndex 121 = .ok (.iastore, 1) := by decide +kernel
theorem dX4_splitIndex_122 : decode cX4_splitIndex 122 = .ok (.aload_n 0, 1) := by decide +kernel
theorem dX4_splitIndex_123 : decode cX4_splitIndex 123 = .ok (.getfield 36, 3) := by decide +kernel
theorem dX4_splitIndex_126 : decode cX4_splitIndex 126 = .ok (.iconst 0, 1) := by decide +kernel
theorem dX4_splitIndex_127 : decode cX4_splitIndex 127 = .ok (.aload_n 0, 1) := by decide +kernel
theorem dX4_splitIndex_128 : decode cX4_splitIndex 128 = .ok (.getfield 21, 3) := by decide +kernel
theorem dX4_splitIndex_131 : decode cX4_splitIndex 131 = .ok (.getfield 223, 3) := by decide +kernel
theorem dX4_splitIndex_134 : decode cX4_splitIndex 134 = .ok (.iconst 0, 1) := by decide +kernel
theorem dX4_splitIndex_135 : decode cX4_splitIndex 135 = .ok (.iaload, 1) := by decide +kernel
theorem dX4_splitIndex_136 : decode cX4_splitIndex 136 = .ok (.iconst 1, 1) := by decide +kernel
theorem dX4_splitIndex_137 : decode cX4_splitIndex 137 = .ok (.iadd, 1) := by decide +kernel
theorem dX4_splitIndex_138 : decode cX4_splitIndex 138 = .ok (.iload_n 3, 1) := by decide +kernel
theorem dX4_splitIndex_139 : decode cX4_splitIndex 139 = .ok (.iload 4, 2) := by decide +kernel
theorem dX4_splitIndex_141 : decode cX4_splitIndex 141 = .ok (.iload_n 2, 1) := by decide +kernel
theorem dX4_splitIndex_142 : decode cX4_splitIndex 142 = .ok (.invokevirtual 226, 3) := by decide +kernel
theorem dX4_splitIndex_145 : decode cX4_splitIndex 145 = .ok (.return_, 1) := by decide +kernel
theorem dX4_poolOfHash_0 : decode cX4_poolOfHash 0 = .ok (.aload_n 0, 1) := by decide +kernel
theorem dX4_poolOfHash_1 : decode cX4_poolOfHash 1 = .ok (.getfield 28, 3) := by decide +kernel
theorem dX4_poolOfHash_4 : decode cX4_poolOfHash 4 = .ok (.iconst 0, 1) := by decide +kernel
theorem dX4_poolOfHash_5 : decode cX4_poolOfHash 5 = .ok (.putfield 129, 3) := by decide +kernel
theorem dX4_poolOfHash_8 : decode cX4_poolOfHash 8 = .ok (.iconst 0, 1) := by decide +kernel
theorem dX4_poolOfHash_9 : decode cX4_poolOfHash 9 = .ok (.istore_n 2, 1) := by decide +kernel
theorem dX4_poolOfHash_10 : decode cX4_poolOfHash 10 = .ok (.iload_n 2, 1) := by decide +kernel
theorem dX4_poolOfHash_11 : decode cX4_poolOfHash 11 = .ok (.sipush 240, 3) := by decide +kernel
theorem dX4_poolOfHash_14 : decode cX4_poolOfHash 14 = .ok (.if_icmp .ge 62, 3) := by decide +kernel
theorem dX4_poolOfHash_17 : decode cX4_poolOfHash 17 = .ok (.aload_n 0, 1) := by decide +kernel
theorem dX4_poolOfHash_18 : decode cX4_poolOfHash 18 = .ok (.getfield 36, 3) := by decide +kernel
theorem dX4_poolOfHash_21 : decode cX4_poolOfHash 21 = .ok (.getfield 81, 3) := by decide +kernel
theorem dX4_poolOfHash_24 : decode cX4_poolOfHash 24 = .ok (.iload_n 2, 1) := by decide +kernel
theorem dX4_poolOfHash_25 : decode cX4_poolOfHash 25 = .ok (.laload, 1) := by decide +kernel
theorem dX4_poolOfHash_26 : decode cX4_poolOfHash 26 = .ok (.lconst 0, 1) := by decide +kernel
theorem dX4_poolOfHash_27 : decode cX4_poolOfHash 27 = .ok (.lcmp, 1) := by decide +kernel
theorem dX4_poolOfHash_28 : decode cX4_poolOfHash 28 = .ok (.ifCond .eq 42, 3) := by decide +kernel
theorem dX4_poolOfHash_31 : decode cX4_poolOfHash 31 = .ok (.aload_n 0, 1) := by decide +kernel
theorem dX4_poolOfHash_32 : decode cX4_poolOfHash 32 = .ok (.getfield 36, 3) := by decide +kernel
theorem dX4_poolOfHash_35 : decode cX4_poolOfHash 35 = .ok (.getfield 205, 3) := by decide +kernel
theorem dX4_poolOfHash_38 : decode cX4_poolOfHash 38 = .ok (.iload_n 2, 1) := by decide +kernel
theorem dX4_poolOfHash_39 : decode cX4_poolOfHash 39 = .ok (.iaload, 1) := by decide +kernel
theorem dX4_poolOfHash_40 : decode cX4_poolOfHash 40 = .ok (.iload_n 1, 1) := by decide +kernel
theorem dX4_poolOfHash_41 : decode cX4_poolOfHash 41 = .ok (.if_icmp .ne 29, 3) := by decide +kernel
theorem dX4_poolOfHash_44 : decode cX4_poolOfHash 44 = .ok (.aload_n 0, 1) := by decide +kernel
theorem dX4_poolOfHash_45 : decode cX4_poolOfHash 45 = .ok (.getfield 28, 3) := by decide +kernel
theorem dX4_poolOfHash_48 : decode cX4_poolOfHash 48 = .ok (.aload_n 0, 1) := by decide +kernel
theorem dX4_poolOfHash_49 : decode cX4_poolOfHash 49 = .ok (.getfield 36, 3) := by decide +kernel
theorem dX4_poolOfHash_52 : decode cX4_poolOfHash 52 = .ok (.getfield 81, 3) := by decide +kernel
theorem dX4_poolOfHash_55 : decode cX4_poolOfHash 55 = .ok (.iload_n 2, 1) := by decide +kernel
theorem dX4_poolOfHash_56 : decode cX4_poolOfHash 56 = .ok (.laload, 1) := by decide +kernel
theorem dX4_poolOfHash_57 : decode cX4_poolOfHash 57 = .ok (.aload_n 0, 1) := by decide +kernel
theorem dX4_poolOfHash_58 : decode cX4_poolOfHash 58 = .ok (.getfield 36, 3) := by decide +kernel
theorem dX4_poolOfHash_61 : decode cX4_poolOfHash 61 = .ok (.getfield 96, 3) := by decide +kernel
theorem dX4_poolOfHash_64 : decode cX4_poolOfHash 64 = .ok (.iload_n 2, 1) := by decide +kernel
theorem dX4_poolOfHash_65 : decode cX4_poolOfHash 65 = .ok (.iaload, 1) := by decide +kernel
theorem dX4_poolOfHash_66 : decode cX4_poolOfHash 66 = .ok (.iload_n 1, 1) := by decide +kernel
theorem dX4_poolOfHash_67 : decode cX4_poolOfHash 67 = .ok (.invokevirtual 132, 3) := by decide +kernel
theorem dX4_poolOfHash_70 : decode cX4_poolOfHash 70 = .ok (.iinc 2 1, 3) := by decide +kernel
theorem dX4_poolOfHash_73 : decode cX4_poolOfHash 73 = .ok (.goto (-63), 3) := by decide +kernel
theorem dX4_poolOfHash_76 : decode cX4_poolOfHash 76 = .ok (.return_, 1) := by decide +kernel
theorem dX4_layAnew_0 : decode cX4_layAnew 0 = .ok (.aload_n 0, 1) := by decide +kernel
theorem dX4_layAnew_1 : decode cX4_layAnew 1 = .ok (.getfield 28, 3) := by decide +kernel
theorem dX4_layAnew_4 : decode cX4_layAnew 4 = .ok (.iconst 0, 1) := by decide +kernel
theorem dX4_layAnew_5 : decode cX4_layAnew 5 = .ok (.putfield 129, 3) := by decide +kernel
theorem dX4_layAnew_8 : decode cX4_layAnew 8 = .ok (.iconst 0, 1) := by decide +kernel
theorem dX4_layAnew_9 : decode cX4_layAnew 9 = .ok (.istore_n 1, 1) := by decide +kernel
theorem dX4_layAnew_10 : decode cX4_layAnew 10 = .ok (.iload_n 1, 1) := by decide +kernel
theorem dX4_layAnew_11 : decode cX4_layAnew 11 = .ok (.sipush 240, 3) := by decide +kernel
theorem dX4_layAnew_14 : decode cX4_layAnew 14 = .ok (.if_icmp .ge 64, 3) := by decide +kernel
theorem dX4_layAnew_17 : decode cX4_layAnew 17 = .ok (.aload_n 0, 1) := by decide +kernel
theorem dX4_layAnew_18 : decode cX4_layAnew 18 = .ok (.getfield 36, 3) := by decide +kernel
theorem dX4_layAnew_21 : decode cX4_layAnew 21 = .ok (.getfield 81, 3) := by decide +kernel
theorem dX4_layAnew_24 : decode cX4_layAnew 24 = .ok (.iload_n 1, 1) := by decide +kernel
theorem dX4_layAnew_25 : decode cX4_layAnew 25 = .ok (.laload, 1) := by decide +kernel
theorem dX4_layAnew_26 : decode cX4_layAnew 26 = .ok (.lconst 0, 1) := by decide +kernel
theorem dX4_layAnew_27 : decode cX4_layAnew 27 = .ok (.lcmp, 1) := by decide +kernel
theorem dX4_layAnew_28 : decode cX4_layAnew 28 = .ok (.ifCond .eq 44, 3) := by decide +kernel
theorem dX4_layAnew_31 : decode cX4_layAnew 31 = .ok (.aload_n 0, 1) := by decide +kernel
theorem dX4_layAnew_32 : decode cX4_layAnew 32 = .ok (.getfield 28, 3) := by decide +kernel
theorem dX4_layAnew_35 : decode cX4_layAnew 35 = .ok (.aload_n 0, 1) := by decide +kernel
theorem dX4_layAnew_36 : decode cX4_layAnew 36 = .ok (.getfield 36, 3) := by decide +kernel
theorem dX4_layAnew_39 : decode cX4_layAnew 39 = .ok (.getfield 81, 3) := by decide +kernel
theorem dX4_layAnew_42 : decode cX4_layAnew 42 = .ok (.iload_n 1, 1) := by decide +kernel
theorem dX4_layAnew_43 : decode cX4_layAnew 43 = .ok (.laload, 1) := by decide +kernel
theorem dX4_layAnew_44 : decode cX4_layAnew 44 = .ok (.aload_n 0, 1) := by decide +kernel
theorem dX4_layAnew_45 : decode cX4_layAnew 45 = .ok (.getfield 36, 3) := by decide +kernel
theorem dX4_layAnew_48 : decode cX4_layAnew 48 = .ok (.getfield 96, 3) := by decide +kernel
theorem dX4_layAnew_51 : decode cX4_layAnew 51 = .ok (.iload_n 1, 1) := by decide +kernel
theorem dX4_layAnew_52 : decode cX4_layAnew 52 = .ok (.iaload, 1) := by decide +kernel
theorem dX4_layAnew_53 : decode cX4_layAnew 53 = .ok (.aload_n 0, 1) := by decide +kernel
theorem dX4_layAnew_54 : decode cX4_layAnew 54 = .ok (.getfield 36, 3) := by decide +kernel
theorem dX4_layAnew_57 : decode cX4_layAnew 57 = .ok (.aload_n 0, 1) := by decide +kernel
theorem dX4_layAnew_58 : decode cX4_layAnew 58 = .ok (.getfield 36, 3) := by decide +kernel
theorem dX4_layAnew_61 : decode cX4_layAnew 61 = .ok (.getfield 81, 3) := by decide +kernel
theorem dX4_layAnew_64 : decode cX4_layAnew 64 = .ok (.iload_n 1, 1) := by decide +kernel
theorem dX4_layAnew_65 : decode cX4_layAnew 65 = .ok (.laload, 1) := by decide +kernel
theorem dX4_layAnew_66 : decode cX4_layAnew 66 = .ok (.invokevirtual 58, 3) := by decide +kernel
theorem dX4_layAnew_69 : decode cX4_layAnew 69 = .ok (.invokevirtual 132, 3) := by decide +kernel
theorem dX4_layAnew_72 : decode cX4_layAnew 72 = .ok (.iinc 1 1, 3) := by decide +kernel
theorem dX4_layAnew_75 : decode cX4_layAnew 75 = .ok (.goto (-65), 3) := by decide +kernel
theorem dX4_layAnew_78 : decode cX4_layAnew 78 = .ok (.aload_n 0, 1) := by decide +kernel
theorem dX4_layAnew_79 : decode cX4_layAnew 79 = .ok (.getfield 36, 3) := by decide +kernel
theorem dX4_layAnew_82 : decode cX4_layAnew 82 = .ok (.invokevirtual 239, 3) := by decide +kernel
theorem dX4_layAnew_85 : decode cX4_layAnew 85 = .ok (.aload_n 0, 1) := by decide +kernel
theorem dX4_layAnew_86 : decode cX4_layAnew 86 = .ok (.getfield 28, 3) := by decide +kernel
theorem dX4_layAnew_89 : decode cX4_layAnew 89 = .ok (.getfield 129, 3) := by decide +kernel
theorem dX4_layAnew_92 : decode cX4_layAnew 92 = .ok (.invokestatic 242, 3) := by decide +kernel
theorem dX4_layAnew_95 : decode cX4_layAnew 95 = .ok (.istore_n 1, 1) := by decide +kernel
theorem dX4_layAnew_96 : decode cX4_layAnew 96 = .ok (.iload_n 1, 1) := by decide +kernel
theorem dX4_layAnew_97 : decode cX4_layAnew 97 = .ok (.iconst 1, 1) := by decide +kernel
theorem dX4_layAnew_98 : decode cX4_layAnew 98 = .ok (.if_icmp .gt 32, 3) := by decide +kernel
theorem dX4_layAnew_101 : decode cX4_layAnew 101 = .ok (.aload_n 0, 1) := by decide +kernel
theorem dX4_layAnew_102 : decode cX4_layAnew 102 = .ok (.getfield 36, 3) := by decide +kernel
theorem dX4_layAnew_105 : decode cX4_layAnew 105 = .ok (.iconst 0, 1) := by decide +kernel
theorem dX4_layAnew_106 : decode cX4_layAnew 106 = .ok (.putfield 140, 3) := by decide +kernel
theorem dX4_layAnew_109 : decode cX4_layAnew 109 = .ok (.aload_n 0, 1) := by decide +kernel
theorem dX4_layAnew_110 : decode cX4_layAnew 110 = .ok (.getfield 36, 3) := by decide +kernel
theorem dX4_layAnew_113 : decode cX4_layAnew 113 = .ok (.iconst 0, 1) := by decide +kernel
theorem dX4_layAnew_114 : decode cX4_layAnew 114 = .ok (.aload_n 0, 1) := by decide +kernel
theorem dX4_layAnew_115 : decode cX4_layAnew 115 = .ok (.getfield 28, 3) := by decide +kernel
theorem dX4_layAnew_118 : decode cX4_layAnew 118 = .ok (.iconst 0, 1) := by decide +kernel
theorem dX4_layAnew_119 : decode cX4_layAnew 119 = .ok (.aload_n 0, 1) := by decide +kernel
theorem dX4_layAnew_120 : decode cX4_layAnew 120 = .ok (.getfield 28, 3) := by decide +kernel
theorem dX4_layAnew_123 : decode cX4_layAnew 123 = .ok (.getfield 129, 3) := by decide +kernel
theorem dX4_layAnew_126 : decode cX4_layAnew 126 = .ok (.invokevirtual 215, 3) := by decide +kernel
theorem dX4_layAnew_129 : decode cX4_layAnew 129 = .ok (.return_, 1) := by decide +kernel
theorem dX4_layAnew_130 : decode cX4_layAnew 130 = .ok (.iconst 0, 1) := by decide +kernel
theorem dX4_layAnew_131 : decode cX4_layAnew 131 = .ok (.istore_n 2, 1) := by decide +kernel
theorem dX4_layAnew_132 : decode cX4_layAnew 132 = .ok (.iload_n 2, 1) := by decide +kernel
theorem dX4_layAnew_133 : decode cX4_layAnew 133 = .ok (.iload_n 1, 1) := by decide +kernel
theorem dX4_layAnew_134 : decode cX4_layAnew 134 = .ok (.if_icmp .ge 31, 3) := by decide +kernel
theorem dX4_layAnew_137 : decode cX4_layAnew 137 = .ok (.aload_n 0, 1) := by decide +kernel
theorem dX4_layAnew_138 : decode cX4_layAnew 138 = .ok (.getfield 36, 3) := by decide +kernel
theorem dX4_layAnew_141 : decode cX4_layAnew 141 = .ok (.iconst 1, 1) := by decide +kernel
theorem dX4_layAnew_142 : decode cX4_layAnew 142 = .ok (.iload_n 2, 1) := by decide +kernel
theorem dX4_layAnew_143 : decode cX4_layAnew 143 = .ok (.iadd, 1) := by decide +kernel
theorem dX4_layAnew_144 : decode cX4_layAnew 144 = .ok (.aload_n 0, 1) := by decide +kernel
theorem dX4_layAnew_145 : decode cX4_layAnew 145 = .ok (.getfield 28, 3) := by decide +kernel
theorem dX4_layAnew_148 : decode cX4_layAnew 148 = .ok (.iload_n 2, 1) := by decide +kernel
theorem dX4_layAnew_149 : decode cX4_layAnew 149 = .ok (.iconst 4, 1) := by decide +kernel
theorem dX4_layAnew_150 : decode cX4_layAnew 150 = .ok (.imul, 1) := by decide +kernel
theorem dX4_layAnew_151 : decode cX4_layAnew 151 = .ok (.iload_n 2, 1) := by decide +kernel
theorem dX4_layAnew_152 : decode cX4_layAnew 152 = .ok (.iconst 4, 1) := by decide +kernel
theorem dX4_layAnew_153 : decode cX4_layAnew 153 = .ok (.imul, 1) := by decide +kernel
theorem dX4_layAnew_154 : decode cX4_layAnew 154 = .ok (.iconst 4, 1) := by decide +kernel
theorem dX4_layAnew_155 : decode cX4_layAnew 155 = .ok (.iadd, 1) := by decide +kernel
theorem dX4_layAnew_156 : decode cX4_layAnew 156 = .ok (.invokevirtual 215, 3) := by decide +kernel
theorem dX4_layAnew_159 : decode cX4_layAnew 159 = .ok (.iinc 2 1, 3) := by decide +kernel
theorem dX4_layAnew_162 : decode cX4_layAnew 162 = .ok (.goto (-30), 3) := by decide +kernel
theorem dX4_layAnew_165 : decode cX4_layAnew 165 = .ok (.aload_n 0, 1) := by decide +kernel
theorem dX4_layAnew_166 : decode cX4_layAnew 166 = .ok (.iload_n 1, 1) := by decide +kernel
theorem dX4_layAnew_167 : decode cX4_layAnew 167 = .ok (.invokevirtual 245, 3) := by decide +kernel
theorem dX4_layAnew_170 : decode cX4_layAnew 170 = .ok (.return_, 1) := by decide +kernel
theorem dX4_layIndexes_0 : decode cX4_layIndexes 0 = .ok (.aload_n 0, 1) := by decide +kernel
theorem dX4_layIndexes_1 : decode cX4_layIndexes 1 = .ok (.getfield 36, 3) := by decide +kernel
theorem dX4_layIndexes_4 : decode cX4_layIndexes 4 = .ok (.getfield 78, 3) := by decide +kernel
theorem dX4_layIndexes_7 : decode cX4_layIndexes 7 = .ok (.iconst 0, 1) := by decide +kernel
theorem dX4_layIndexes_8 : decode cX4_layIndexes 8 = .ok (.iconst 2, 1) := by decide +kernel
theorem dX4_layIndexes_9 : decode cX4_layIndexes 9 = .ok (.iastore, 1) := by decide +kernel
theorem dX4_layIndexes_10 : decode cX4_layIndexes 10 = .ok (.iload_n 1, 1) := by decide +kernel
theorem dX4_layIndexes_11 : decode cX4_layIndexes 11 = .ok (.iconst 5, 1) := by decide +kernel
theorem dX4_layIndexes_12 : decode cX4_layIndexes 12 = .ok (.if_icmp .gt 19, 3) := by decide +kernel
theorem dX4_layIndexes_15 : decode cX4_layIndexes 15 = .ok (.aload_n 0, 1) := by decide +kernel
theorem dX4_layIndexes_16 : decode cX4_layIndexes 16 = .ok (.getfield 36, 3) := by decide +kernel
theorem dX4_layIndexes_19 : decode cX4_layIndexes 19 = .ok (.iconst 1, 1) := by decide +kernel
theorem dX4_layIndexes_20 : decode cX4_layIndexes 20 = .ok (.putfield 140, 3) := by decide +kernel
theorem dX4_layIndexes_23 : decode cX4_layIndexes 23 = .ok (.aload_n 0, 1) := by decide +kernel
theorem dX4_layIndexes_24 : decode cX4_layIndexes 24 = .ok (.iconst 0, 1) := by decide +kernel
theorem dX4_layIndexes_25 : decode cX4_layIndexes 25 = .ok (.iconst 0, 1) := by decide +kernel
theorem dX4_layIndexes_26 : decode cX4_layIndexes 26 = .ok (.iload_n 1, 1) := by decide +kernel
theorem dX4_layIndexes_27 : decode cX4_layIndexes 27 = .ok (.invokevirtual 248, 3) := by decide +kernel
theorem dX4_layIndexes_30 : decode cX4_layIndexes 30 = .ok (.return_, 1) := by decide +kernel
theorem dX4_layIndexes_31 : decode cX4_layIndexes 31 = .ok (.aload_n 0, 1) := by decide +kernel
theorem dX4_layIndexes_32 : decode cX4_layIndexes 32 = .ok (.getfield 36, 3) := by decide +kernel
theorem dX4_layIndexes_35 : decode cX4_layIndexes 35 = .ok (.iconst 2, 1) := by decide +kernel
theorem dX4_layIndexes_36 : decode cX4_layIndexes 36 = .ok (.putfield 140, 3) := by decide +kernel
theorem dX4_layIndexes_39 : decode cX4_layIndexes 39 = .ok (.iload_n 1, 1) := by decide +kernel
theorem dX4_layIndexes_40 : decode cX4_layIndexes 40 = .ok (.invokestatic 242, 3) := by decide +kernel
theorem dX4_layIndexes_43 : decode cX4_layIndexes 43 = .ok (.istore_n 2, 1) := by decide +kernel
theorem dX4_layIndexes_44 : decode cX4_layIndexes 44 = .ok (.iconst 0, 1) := by decide +kernel
theorem dX4_layIndexes_45 : decode cX4_layIndexes 45 = .ok (.istore_n 3, 1) := by decide +kernel
theorem dX4_layIndexes_46 : decode cX4_layIndexes 46 = .ok (.iload_n 3, 1) := by decide +kernel
theorem dX4_layIndexes_47 : decode cX4_layIndexes 47 = .ok (.iload_n 2, 1) := by decide +kernel
theorem dX4_layIndexes_48 : decode cX4_layIndexes 48 = .ok (.if_icmp .ge 76, 3) := by decide +kernel
theorem dX4_layIndexes_51 : decode cX4_layIndexes 51 = .ok (.iconst 1, 1) := by decide +kernel
theorem dX4_layIndexes_52 : decode cX4_layIndexes 52 = .ok (.iload_n 1, 1) := by decide +kernel
theorem dX4_layIndexes_53 : decode cX4_layIndexes 53 = .ok (.iadd, 1) := by decide +kernel
theorem dX4_layIndexes_54 : decode cX4_layIndexes 54 = .ok (.iload_n 3, 1) := by decide +kernel
theorem dX4_layIndexes_55 : decode cX4_layIndexes 55 = .ok (.iadd, 1) := by decide +kernel
theorem dX4_layIndexes_56 : decode cX4_layIndexes 56 = .ok (.istore 4, 2) := by decide +kernel
theorem dX4_layIndexes_58 : decode cX4_layIndexes 58 = .ok (.iload_n 3, 1) := by decide +kernel
theorem dX4_layIndexes_59 : decode cX4_layIndexes 59 = .ok (.iconst 4, 1) := by decide +kernel
theorem dX4_layIndexes_60 : decode cX4_layIndexes 60 = .ok (.imul, 1) := by decide +kernel
theorem dX4_layIndexes_61 : decode cX4_layIndexes 61 = .ok (.istore 5, 2) := by decide +kernel
theorem dX4_layIndexes_63 : decode cX4_layIndexes 63 = .ok (.aload_n 0, 1) := by decide +kernel
theorem dX4_layIndexes_64 : decode cX4_layIndexes 64 = .ok (.getfield 36, 3) := by decide +kernel
theorem dX4_layIndexes_67 : decode cX4_layIndexes 67 = .ok (.getfield 78, 3) := by decide +kernel
theorem dX4_layIndexes_70 : decode cX4_layIndexes 70 = .ok (.iload 4, 2) := by decide +kernel
theorem dX4_layIndexes_72 : decode cX4_layIndexes 72 = .ok (.iconst 2, 1) := by decide +kernel
theorem dX4_layIndexes_73 : decode cX4_layIndexes 73 = .ok (.iastore, 1) := by decide +kernel
theorem dX4_layIndexes_74 : decode cX4_layIndexes 74 = .ok (.aload_n 0, 1) := by decide +kernel
theorem dX4_layIndexes_75 : decode cX4_layIndexes 75 = .ok (.iload 4, 2) := by decide +kernel
theorem dX4_layIndexes_77 : decode cX4_layIndexes 77 = .ok (.iload 5, 2) := by decide +kernel
theorem dX4_layIndexes_79 : decode cX4_layIndexes 79 = .ok (.iload 5, 2) := by decide +kernel
theorem dX4_layIndexes_81 : decode cX4_layIndexes 81 = .ok (.iconst 4, 1) := by decide +kernel
theorem dX4_layIndexes_82 : decode cX4_layIndexes 82 = .ok (.iadd, 1) := by decide +kernel
theorem dX4_layIndexes_83 : decode cX4_layIndexes 83 = .ok (.iload_n 1, 1) := by decide +kernel
theorem dX4_layIndexes_84 : decode cX4_layIndexes 84 = .ok (.invokestatic 252, 3) := by decide +kernel
theorem dX4_layIndexes_87 : decode cX4_layIndexes 87 = .ok (.invokevirtual 248, 3) := by decide +kernel
theorem dX4_layIndexes_90 : decode cX4_layIndexes 90 = .ok (.aload_n 0, 1) := by decide +kernel
theorem dX4_layIndexes_91 : decode cX4_layIndexes 91 = .ok (.getfield 36, 3) := by decide +kernel
theorem dX4_layIndexes_94 : decode cX4_layIndexes 94 = .ok (.iconst 0, 1) := by decide +kernel
theorem dX4_layIndexes_95 : decode cX4_layIndexes 95 = .ok (.iload_n 3, 1) := by decide +kernel
theorem dX4_layIndexes_96 : decode cX4_layIndexes 96 = .ok (.aload_n 0, 1) := by decide +kernel
theorem dX4_layIndexes_97 : decode cX4_layIndexes 97 = .ok (.iload 5, 2) := by decide +kernel
theorem dX4_layIndexes_99 : decode cX4_layIndexes 99 = .ok (.invokevirtual 258, 3) := by decide +kernel
theorem dX4_layIndexes_102 : decode cX4_layIndexes 102 = .ok (.aload_n 0, 1) := by decide +kernel
theorem dX4_layIndexes_103 : decode cX4_layIndexes 103 = .ok (.getfield 28, 3) := by decide +kernel
theorem dX4_layIndexes_106 : decode cX4_layIndexes 106 = .ok (.iload 5, 2) := by decide +kernel
theorem dX4_layIndexes_108 : decode cX4_layIndexes 108 = .ok (.iconst 4, 1) := by decide +kernel
theorem dX4_layIndexes_109 : decode cX4_layIndexes 109 = .ok (.imul, 1) := by decide +kernel
theorem dX4_layIndexes_110 : decode cX4_layIndexes 110 = .ok (.invokevirtual 209, 3) := by decide +kernel
theorem dX4_layIndexes_113 : decode cX4_layIndexes 113 = .ok (.iload 4, 2) := by decide +kernel
theorem dX4_layIndexes_115 : decode cX4_layIndexes 115 = .ok (.invokevirtual 226, 3) := by decide +kernel
theorem dX4_layIndexes_118 : decode cX4_layIndexes 118 = .ok (.iinc 3 1, 3) := by decide +kernel
theorem dX4_layIndexes_121 : decode cX4_layIndexes 121 = .ok (.goto (-75), 3) := by decide +kernel
theorem dX4_layIndexes_124 : decode cX4_layIndexes 124 = .ok (.return_, 1) := by decide +kernel
theorem dX4_layRows_0 : decode cX4_layRows 0 = .ok (.iload_n 2, 1) := by decide +kernel
theorem dX4_layRows_1 : decode cX4_layRows 1 = .ok (.istore 4, 2) := by decide +kernel
theorem dX4_layRows_3 : decode cX4_layRows 3 = .ok (.iload 4, 2) := by decide +kernel
theorem dX4_layRows_5 : decode cX4_layRows 5 = .ok (.iload_n 3, 1) := by decide +kernel
theorem dX4_layRows_6 : decode cX4_layRows 6 = .ok (.if_icmp .ge 42, 3) := by decide +kernel
theorem dX4_layRows_9 : decode cX4_layRows 9 = .ok (.aload_n 0, 1) := by decide +kernel
theorem dX4_layRows_10 : decode cX4_layRows 10 = .ok (.getfield 36, 3) := by decide +kernel
theorem dX4_layRows_13 : decode cX4_layRows 13 = .ok (.iload_n 1, 1) := by decide +kernel
theorem dX4_layRows_14 : decode cX4_layRows 14 = .ok (.iload 4, 2) := by decide +kernel
theorem dX4_layRows_16 : decode cX4_layRows 16 = .ok (.iload_n 2, 1) := by decide +kernel
theorem dX4_layRows_17 : decode cX4_layRows 17 = .ok (.isub, 1) := by decide +kernel
theorem dX4_layRows_18 : decode cX4_layRows 18 = .ok (.aload_n 0, 1) := by decide +kernel
theorem dX4_layRows_19 : decode cX4_layRows 19 = .ok (.iload 4, 2) := by decide +kernel
theorem dX4_layRows_21 : decode cX4_layRows 21 = .ok (.invokevirtual 258, 3) := by decide +kernel
theorem dX4_layRows_24 : decode cX4_layRows 24 = .ok (.aload_n 0, 1) := by decide +kernel
theorem dX4_layRows_25 : decode cX4_layRows 25 = .ok (.getfield 28, 3) := by decide +kernel
theorem dX4_layRows_28 : decode cX4_layRows 28 = .ok (.iload 4, 2) := by decide +kernel
theorem dX4_layRows_30 : decode cX4_layRows 30 = .ok (.iconst 4, 1) := by decide +kernel
theorem dX4_layRows_31 : decode cX4_layRows 31 = .ok (.imul, 1) := by decide +kernel
theorem dX4_layRows_32 : decode cX4_layRows 32 = .ok (.invokevirtual 209, 3) := by decide +kernel
theorem dX4_layRows_35 : decode cX4_layRows 35 = .ok (.iconst 1, 1) := by decide +kernel
theorem dX4_layRows_36 : decode cX4_layRows 36 = .ok (.iload 4, 2) := by decide +kernel
theorem dX4_layRows_38 : decode cX4_layRows 38 = .ok (.iadd, 1) := by decide +kernel
theorem dX4_layRows_39 : decode cX4_layRows 39 = .ok (.invokevirtual 226, 3) := by decide +kernel
theorem dX4_layRows_42 : decode cX4_layRows 42 = .ok (.iinc 4 1, 3) := by decide +kernel
theorem dX4_layRows_45 : decode cX4_layRows 45 = .ok (.goto (-42), 3) := by decide +kernel
theorem dX4_layRows_48 : decode cX4_layRows 48 = .ok (.return_, 1) := by decide +kernel
theorem dX4_limitOfLaid_0 : decode cX4_limitOfLaid 0 = .ok (.iload_n 1, 1) := by decide +kernel
theorem dX4_limitOfLaid_1 : decode cX4_limitOfLaid 1 = .ok (.ifCond .ne 7, 3) := by decide +kernel
theorem dX4_limitOfLaid_4 : decode cX4_limitOfLaid 4 = .ok (.iconst 0, 1) := by decide +kernel
theorem dX4_limitOfLaid_5 : decode cX4_limitOfLaid 5 = .ok (.goto 14, 3) := by decide +kernel
theorem dX4_limitOfLaid_8 : decode cX4_limitOfLaid 8 = .ok (.aload_n 0, 1) := by decide +kernel
theorem dX4_limitOfLaid_9 : decode cX4_limitOfLaid 9 = .ok (.getfield 28, 3) := by decide +kernel
theorem dX4_limitOfLaid_12 : decode cX4_limitOfLaid 12 = .ok (.getfield 208, 3) := by decide +kernel
theorem dX4_limitOfLaid_15 : decode cX4_limitOfLaid 15 = .ok (.iload_n 1, 1) := by decide +kernel
theorem dX4_limitOfLaid_16 : decode cX4_limitOfLaid 16 = .ok (.iconst 4, 1) := by decide +kernel
theorem dX4_limitOfLaid_17 : decode cX4_limitOfLaid 17 = .ok (.imul, 1) := by decide +kernel
theorem dX4_limitOfLaid_18 : decode cX4_limitOfLaid 18 = .ok (.iaload, 1) := by decide +kernel
theorem dX4_limitOfLaid_19 : decode cX4_limitOfLaid 19 = .ok (.ireturn, 1) := by decide +kernel
theorem dX5_init_0 : decode cX5_init 0 = .ok (.aload_n 0, 1) := by decide +kernel
theorem dX5_init_1 : decode cX5_init 1 = .ok (.invokespecial 3, 3) := by decide +kernel
theorem dX5_init_4 : decode cX5_init 4 = .ok (.aload_n 0, 1) := by decide +kernel
theorem dX5_init_5 : decode cX5_init 5 = .ok (.bipush 40, 2) := by decide +kernel
theorem dX5_init_7 : decode cX5_init 7 = .ok (.newarray .int, 2) := by decide +kernel
theorem dX5_init_9 : decode cX5_init 9 = .ok (.putfield 9, 3) := by decide +kernel
theorem dX5_init_12 : decode cX5_init 12 = .ok (.aload_n 0, 1) := by decide +kernel
theorem dX5_init_13 : decode cX5_init 13 = .ok (.bipush 40, 2) := by decide +kernel
theorem dX5_init_15 : decode cX5_init 15 = .ok (.newarray .int, 2) := by decide +kernel
theorem dX5_init_17 : decode cX5_init 17 = .ok (.putfield 15, 3) := by decide +kernel
theorem dX5_init_20 : decode cX5_init 20 = .ok (.aload_n 0, 1) := by decide +kernel
theorem dX5_init_21 : decode cX5_init 21 = .ok (.bipush 40, 2) := by decide +kernel
theorem dX5_init_23 : decode cX5_init 23 = .ok (.newarray .int, 2) := by decide +kernel
theorem dX5_init_25 : decode cX5_init 25 = .ok (.putfield 18, 3) := by decide +kernel
theorem dX5_init_28 : decode cX5_init 28 = .ok (.aload_n 0, 1) := by decide +kernel
theorem dX5_init_29 : decode cX5_init 29 = .ok (.iconst 0, 1) := by decide +kernel
theorem dX5_init_30 : decode cX5_init 30 = .ok (.putfield 21, 3) := by decide +kernel
theorem dX5_init_33 : decode cX5_init 33 = .ok (.return_, 1) := by decide +kernel
theorem dX5_gather_0 : decode cX5_gather 0 = .ok (.aload_n 0, 1) := by decide +kernel
theorem dX5_gather_1 : decode cX5_gather 1 = .ok (.iconst 0, 1) := by decide +kernel
theorem dX5_gather_2 : decode cX5_gather 2 = .ok (.putfield 21, 3) := by decide +kernel
theorem dX5_gather_5 : decode cX5_gather 5 = .ok (.aload_n 1, 1) := by decide +kernel
theorem dX5_gather_6 : decode cX5_gather 6 = .ok (.getfield 25, 3) := by decide +kernel
theorem dX5_gather_9 : decode cX5_gather 9 = .ok (.ifCond .ne 32, 3) := by decide +kernel
theorem dX5_gather_12 : decode cX5_gather 12 = .ok (.aload_n 0, 1) := by decide +kernel
theorem dX5_gather_13 : decode cX5_gather 13 = .ok (.getfield 9, 3) := by decide +kernel
theorem dX5_gather_16 : decode cX5_gather 16 = .ok (.iconst 0, 1) := by decide +kernel
theorem dX5_gather_17 : decode cX5_gather 17 = .ok (.iconst 0, 1) := by decide +kernel
theorem dX5_gather_18 : decode cX5_gather 18 = .ok (.iastore, 1) := by decide +kernel
theorem dX5_gather_19 : decode cX5_gather 19 = .ok (.aload_n 0, 1) := by decide +kernel
theorem dX5_gather_20 : decode cX5_gather 20 = .ok (.getfield 15, 3) := by decide +kernel
theorem dX5_gather_23 : decode cX5_gather 23 = .ok (.iconst 0, 1) := by decide +kernel
theorem dX5_gather_24 : decode cX5_gather 24 = .ok (.iconst 0, 1) := by decide +kernel
theorem dX5_gather_25 : decode cX5_gather 25 = .ok (.iastore, 1) := by decide +kernel
theorem dX5_gather_26 : decode cX5_gather 26 = .ok (.aload_n 0, 1) := by decide +kernel
theorem dX5_gather_27 : decode cX5_gather 27 = .ok (.getfield 18, 3) := by decide +kernel
theorem dX5_gather_30 : decode cX5_gather 30 = .ok (.iconst 0, 1) := by decide +kernel
theorem dX5_gather_31 : decode cX5_gather 31 = .ok (.iconst 0, 1) := by decide +kernel
theorem dX5_gather_32 : decode cX5_gather 32 = .ok (.iastore, 1) := by decide +kernel
theorem dX5_gather_33 : decode cX5_gather 33 = .ok (.aload_n 0, 1) := by decide +kernel
theorem dX5_gather_34 : decode cX5_gather 34 = .ok (.iconst 1, 1) := by decide +kernel
theorem dX5_gather_35 : decode cX5_gather 35 = .ok (.putfield 21, 3) := by decide +kernel
theorem dX5_gather_38 : decode cX5_gather 38 = .ok (.goto 51, 3) := by decide +kernel
theorem dX5_gather_41 : decode cX5_gather 41 = .ok (.aload_n 1, 1) := by decide +kernel
theorem dX5_gather_42 : decode cX5_gather 42 = .ok (.getfield 25, 3) := by decide +kernel
theorem dX5_gather_45 : decode cX5_gather 45 = .ok (.iconst 1, 1) := by decide +kernel
theorem dX5_gather_46 : decode cX5_gather 46 = .ok (.if_icmp .ne 12, 3) := by decide +kernel
theorem dX5_gather_49 : decode cX5_gather 49 = .ok (.aload_n 0, 1) := by decide +kernel
theorem dX5_gather_50 : decode cX5_gather 50 = .ok (.aload_n 1, 1) := by decide +kernel
theorem dX5_gather_51 : decode cX5_gather 51 = .ok (.iconst 0, 1) := by decide +kernel
theorem dX5_gather_52 : decode cX5_gather 52 = .ok (.invokevirtual 30, 3) := by decide +kernel
theorem dX5_gather_55 : decode cX5_gather 55 = .ok (.goto 34, 3) := by decide +kernel
theorem dX5_gather_58 : decode cX5_gather 58 = .ok (.iconst 0, 1) := by decide +kernel
theorem dX5_gather_59 : decode cX5_gather 59 = .ok (.istore_n 2, 1) := by decide +kernel
theorem dX5_gather_60 : decode cX5_gather 60 = .ok (.iload_n 2, 1) := by decide +kernel
theorem dX5_gather_61 : decode cX5_gather 61 = .ok (.aload_n 1, 1) := by decide +kernel
theorem dX5_gather_62 : decode cX5_gather 62 = .ok (.getfield 34, 3) := by decide +kernel
theorem dX5_gather_65 : decode cX5_gather 65 = .ok (.iconst 0, 1) := by decide +kernel
theorem dX5_gather_66 : decode cX5_gather 66 = .ok (.iaload, 1) := by decide +kernel
theorem dX5_gather_67 : decode cX5_gather 67 = .ok (.if_icmp .ge 22, 3) := by decide +kernel
theorem dX5_gather_70 : decode cX5_gather 70 = .ok (.aload_n 0, 1) := by decide +kernel
theorem dX5_gather_71 : decode cX5_gather 71 = .ok (.aload_n 1, 1) := by decide +kernel
theorem dX5_gather_72 : decode cX5_gather 72 = .ok (.aload_n 1, 1) := by decide +kernel
theorem dX5_gather_73 : decode cX5_gather 73 = .ok (.getfield 37, 3) := by decide +kernel
theorem dX5_gather_76 : decode cX5_gather 76 = .ok (.iconst 0, 1) := by decide +kernel
theorem dX5_gather_77 : decode cX5_gather 77 = .ok (.iload_n 2, 1) := by decide +kernel
theorem dX5_gather_78 : decode cX5_gather 78 = .ok (.iadd, 1) := by decide +kernel
theorem dX5_gather_79 : decode cX5_gather 79 = .ok (.iaload, 1) := by decide +kernel
theorem dX5_gather_80 : decode cX5_gather 80 = .ok (.invokevirtual 30, 3) := by decide +kernel
theorem dX5_gather_83 : decode cX5_gather 83 = .ok (.iinc 2 1, 3) := by decide +kernel
theorem dX5_gather_86 : decode cX5_gather 86 = .ok (.goto (-26), 3) := by decide +kernel
theorem dX5_gather_89 : decode cX5_gather 89 = .ok (.return_, 1) := by decide +kernel
theorem dX5_placeOf_0 : decode cX5_placeOf 0 = .ok (.iconst 0, 1) := by decide +kernel
theorem dX5_placeOf_1 : decode cX5_placeOf 1 = .ok (.istore_n 2, 1) := by decide +kernel
theorem dX5_placeOf_2 : decode cX5_placeOf 2 = .ok (.iconst 0, 1) := by decide +kernel
theorem dX5_placeOf_3 : decode cX5_placeOf 3 = .ok (.istore_n 3, 1) := by decide +kernel
theorem dX5_placeOf_4 : decode cX5_placeOf 4 = .ok (.iload_n 3, 1) := by decide +kernel
theorem dX5_placeOf_5 : decode cX5_placeOf 5 = .ok (.aload_n 0, 1) := by decide +kernel
theorem dX5_placeOf_6 : decode cX5_placeOf 6 = .ok (.getfield 21, 3) := by decide +kernel
theorem dX5_placeOf_9 : decode cX5_placeOf 9 = .ok (.if_icmp .ge 21, 3) := by decide +kernel
theorem dX5_placeOf_12 : decode cX5_placeOf 12 = .ok (.aload_n 0, 1) := by decide +kernel
theorem dX5_placeOf_13 : decode cX5_placeOf 13 = .ok (.getfield 9, 3) := by decide +kernel
theorem dX5_placeOf_16 : decode cX5_placeOf 16 = .ok (.iload_n 3, 1) := by decide +kernel
theorem dX5_placeOf_17 : decode cX5_placeOf 17 = .ok (.iaload, 1) := by decide +kernel
theorem dX5_placeOf_18 : decode cX5_placeOf 18 = .ok (.iload_n 1, 1) := by decide +kernel
theorem dX5_placeOf_19 : decode cX5_placeOf 19 = .ok (.if_icmp .ne 5, 3) := by decide +kernel
theorem dX5_placeOf_22 : decode cX5_placeOf 22 = .ok (.iload_n 3, 1) := by decide +kernel
theorem dX5_placeOf_23 : decode cX5_placeOf 23 = .ok (.istore_n 2, 1) := by decide +kernel
theorem dX5_placeOf_24 : decode cX5_placeOf 24 = .ok (.iinc 3 1, 3) := by decide +kernel
theorem dX5_placeOf_27 : decode cX5_placeOf 27 = .ok (.goto (-23), 3) := by decide +kernel
theorem dX5_placeOf_30 : decode cX5_placeOf 30 = .ok (.iload_n 2, 1) := by decide +kernel
theorem dX5_placeOf_31 : decode cX5_placeOf 31 = .ok (.ireturn, 1) := by decide +kernel
theorem dX5_addRowsOf_0 : decode cX5_addRowsOf 0 = .ok (.iconst 0, 1) := by decide +kernel
theorem dX5_addRowsOf_1 : decode cX5_addRowsOf 1 = .ok (.istore_n 3, 1) := by decide +kernel
theorem dX5_addRowsOf_2 : decode cX5_addRowsOf 2 = .ok (.iload_n 3, 1) := by decide +kernel
theorem dX5_addRowsOf_3 : decode cX5_addRowsOf 3 = .ok (.aload_n 1, 1) := by decide +kernel
theorem dX5_addRowsOf_4 : decode cX5_addRowsOf 4 = .ok (.getfield 34, 3) := by decide +kernel
theorem dX5_addRowsOf_7 : decode cX5_addRowsOf 7 = .ok (.iload_n 2, 1) := by decide +kernel
theorem dX5_addRowsOf_8 : decode cX5_addRowsOf 8 = .ok (.iaload, 1) := by decide +kernel
theorem dX5_addRowsOf_9 : decode cX5_addRowsOf 9 = .ok (.if_icmp .ge 84, 3) := by decide +kernel
theorem dX5_addRowsOf_12 : decode cX5_addRowsOf 12 = .ok (.aload_n 0, 1) := by decide +kernel
theorem dX5_addRowsOf_13 : decode cX5_addRowsOf 13 = .ok (.getfield 21, 3) := by decide +kernel
theorem dX5_addRowsOf_16 : decode cX5_addRowsOf 16 = .ok (.bipush 40, 2) := by decide +kernel
theorem dX5_addRowsOf_18 : decode cX5_addRowsOf 18 = .ok (.if_icmp .ge 75, 3) := by decide +kernel
theorem dX5_addRowsOf_21 : decode cX5_addRowsOf 21 = .ok (.iload_n 2, 1) := by decide +kernel
theorem dX5_addRowsOf_22 : decode cX5_addRowsOf 22 = .ok (.bipush 6, 2) := by decide +kernel
theorem dX5_addRowsOf_24 : decode cX5_addRowsOf 24 = .ok (.imul, 1) := by decide +kernel
theorem dX5_addRowsOf_25 : decode cX5_addRowsOf 25 = .ok (.iload_n 3, 1) := by decide +kernel
theorem dX5_addRowsOf_26 : decode cX5_addRowsOf 26 = .ok (.iadd, 1) := by decide +kernel
theorem dX5_addRowsOf_27 : decode cX5_addRowsOf 27 = .ok (.istore 4, 2) := by decide +kernel
theorem dX5_addRowsOf_29 : decode cX5_addRowsOf 29 = .ok (.aload_n 0, 1) := by decide +kernel
theorem dX5_addRowsOf_30 : decode cX5_addRowsOf 30 = .ok (.getfield 9, 3) := by decide +kernel
theorem dX5_addRowsOf_33 : decode cX5_addRowsOf 33 = .ok (.aload_n 0, 1) := by decide +kernel
theorem dX5_addRowsOf_34 : decode cX5_addRowsOf 34 = .ok (.getfield 21, 3) := by decide +kernel
theorem dX5_addRowsOf_37 : decode cX5_addRowsOf 37 = .ok (.aload_n 1, 1) := by decide +kernel
theorem dX5_addRowsOf_38 : decode cX5_addRowsOf 38 = .ok (.getfield 37, 3) := by decide +kernel
theorem dX5_addRowsOf_41 : decode cX5_addRowsOf 41 = .ok (.iload 4, 2) := by decide +kernel
theorem dX5_addRowsOf_43 : decode cX5_addRowsOf 43 = .ok (.iaload, 1) := by decide +kernel
theorem dX5_addRowsOf_44 : decode cX5_addRowsOf 44 = .ok (.iastore, 1) := by decide +kernel
theorem dX5_addRowsOf_45 : decode cX5_addRowsOf 45 = .ok (.aload_n 0, 1) := by decide +kernel
theorem dX5_addRowsOf_46 : decode cX5_addRowsOf 46 = .ok (.getfield 15, 3) := by decide +kernel
theorem dX5_addRowsOf_49 : decode cX5_addRowsOf 49 = .ok (.aload_n 0, 1) := by decide +kernel
theorem dX5_addRowsOf_50 : decode cX5_addRowsOf 50 = .ok (.getfield 21, 3) := by decide +kernel
theorem dX5_addRowsOf_53 : decode cX5_addRowsOf 53 = .ok (.aload_n 1, 1) := by decide +kernel
theorem dX5_addRowsOf_54 : decode cX5_addRowsOf 54 = .ok (.getfield 40, 3) := by decide +kernel
theorem dX5_addRowsOf_57 : decode cX5_addRowsOf 57 = .ok (.iload 4, 2) := by decide +kernel
theorem dX5_addRowsOf_59 : decode cX5_addRowsOf 59 = .ok (.iaload, 1) := by decide +kernel
theorem dX5_addRowsOf_60 : decode cX5_addRowsOf 60 = .ok (.iastore, 1) := by decide +kernel
theorem dX5_addRowsOf_61 : decode cX5_addRowsOf 61 = .ok (.aload_n 0, 1) := by decide +kernel
theorem dX5_addRowsOf_62 : decode cX5_addRowsOf 62 = .ok (.getfield 18, 3) := by decide +kernel
theorem dX5_addRowsOf_65 : decode cX5_addRowsOf 65 = .ok (.aload_n 0, 1) := by decide +kernel
theorem dX5_addRowsOf_66 : decode cX5_addRowsOf 66 = .ok (.getfield 21, 3) := by decide +kernel
theorem dX5_addRowsOf_69 : decode cX5_addRowsOf 69 = .ok (.aload_n 1, 1) := by decide +kernel
theorem dX5_addRowsOf_70 : decode cX5_addRowsOf 70 = .ok (.getfield 41, 3) := by decide +kernel
theorem dX5_addRowsOf_73 : decode cX5_addRowsOf 73 = .ok (.iload 4, 2) := by decide +kernel
theorem dX5_addRowsOf_75 : decode cX5_addRowsOf 75 = .ok (.iaload, 1) := by decide +kernel
theorem dX5_addRowsOf_76 : decode cX5_addRowsOf 76 = .ok (.iastore, 1) := by decide +kernel
theorem dX5_addRowsOf_77 : decode cX5_addRowsOf 77 = .ok (.aload_n 0, 1) := by decide +kernel
theorem dX5_addRowsOf_78 : decode cX5_addRowsOf 78 = .ok (.dup, 1) := by decide +kernel
theorem dX5_addRowsOf_79 : decode cX5_addRowsOf 79 = .ok (.getfield 21, 3) := by decide +kernel
theorem dX5_addRowsOf_82 : decode cX5_addRowsOf 82 = .ok (.iconst 1, 1) := by decide +kernel
theorem dX5_addRowsOf_83 : decode cX5_addRowsOf 83 = .ok (.iadd, 1) := by decide +kernel
theorem dX5_addRowsOf_84 : decode cX5_addRowsOf 84 = .ok (.putfield 21, 3) := by decide +kernel
theorem dX5_addRowsOf_87 : decode cX5_addRowsOf 87 = .ok (.iinc 3 1, 3) := by decide +kernel
theorem dX5_addRowsOf_90 : decode cX5_addRowsOf 90 = .ok (.goto (-88), 3) := by decide +kernel
theorem dX5_addRowsOf_93 : decode cX5_addRowsOf 93 = .ok (.return_, 1) := by decide +kernel
theorem dX6_init_0 : decode cX6_init 0 = .ok (.aload_n 0, 1) := by decide +kernel
theorem dX6_init_1 : decode cX6_init 1 = .ok (.invokespecial 3, 3) := by decide +kernel
theorem dX6_init_4 : decode cX6_init 4 = .ok (.aload_n 0, 1) := by decide +kernel
theorem dX6_init_5 : decode cX6_init 5 = .ok (.sipush 240, 3) := by decide +kernel
theorem dX6_init_8 : decode cX6_init 8 = .ok (.newarray .long, 2) := by decide +kernel
theorem dX6_init_10 : decode cX6_init 10 = .ok (.putfield 9, 3) := by decide +kernel
theorem dX6_init_13 : decode cX6_init 13 = .ok (.aload_n 0, 1) := by decide +kernel
theorem dX6_init_14 : decode cX6_init 14 = .ok (.sipush 240, 3) := by decide +kernel
theorem dX6_init_17 : decode cX6_init 17 = .ok (.newarray .int, 2) := by decide +kernel
theorem dX6_init_19 : decode cX6_init 19 = .ok (.putfield 15, 3) := by decide +kernel
theorem dX6_init_22 : decode cX6_init 22 = .ok (.aload_n 0, 1) := by decide +kernel
theorem dX6_init_23 : decode cX6_init 23 = .ok (.sipush 240, 3) := by decide +kernel
theorem dX6_init_26 : decode cX6_init 26 = .ok (.newarray .int, 2) := by decide +kernel
theorem dX6_init_28 : decode cX6_init 28 = .ok (.putfield 19, 3) := by decide +kernel
theorem dX6_init_31 : decode cX6_init 31 = .ok (.aload_n 0, 1) := by decide +kernel
theorem dX6_init_32 : decode cX6_init 32 = .ok (.iconst 0, 1) := by decide +kernel
theorem dX6_init_33 : decode cX6_init 33 = .ok (.putfield 22, 3) := by decide +kernel
theorem dX6_init_36 : decode cX6_init 36 = .ok (.return_, 1) := by decide +kernel
theorem dX6_add_0 : decode cX6_add 0 = .ok (.aload_n 0, 1) := by decide +kernel
theorem dX6_add_1 : decode cX6_add 1 = .ok (.getfield 22, 3) := by decide +kernel
theorem dX6_add_4 : decode cX6_add 4 = .ok (.sipush 240, 3) := by decide +kernel
theorem dX6_add_7 : decode cX6_add 7 = .ok (.if_icmp .lt 4, 3) := by decide +kernel
theorem dX6_add_10 : decode cX6_add 10 = .ok (.return_, 1) := by decide +kernel
theorem dX6_add_11 : decode cX6_add 11 = .ok (.aload_n 0, 1) := by decide +kernel
theorem dX6_add_12 : decode cX6_add 12 = .ok (.getfield 22, 3) := by decide +kernel
theorem dX6_add_15 : decode cX6_add 15 = .ok (.istore 5, 2) := by decide +kernel
theorem dX6_add_17 : decode cX6_add 17 = .ok (.aload_n 0, 1) := by decide +kernel
theorem dX6_add_18 : decode cX6_add 18 = .ok (.getfield 22, 3) := by decide +kernel
theorem dX6_add_21 : decode cX6_add 21 = .ok (.iconst 1, 1) := by decide +kernel
theorem dX6_add_22 : decode cX6_add 22 = .ok (.isub, 1) := by decide +kernel
theorem dX6_add_23 : decode cX6_add 23 = .ok (.istore 6, 2) := by decide +kernel
theorem dX6_add_25 : decode cX6_add 25 = .ok (.iload 6, 2) := by decide +kernel
theorem dX6_add_27 : decode cX6_add 27 = .ok (.ifCond .lt 73, 3) := by decide +kernel
theorem dX6_add_30 : decode cX6_add 30 = .ok (.aload_n 0, 1) := by decide +kernel
theorem dX6_add_31 : decode cX6_add 31 = .ok (.iload 4, 2) := by decide +kernel
theorem dX6_add_33 : decode cX6_add 33 = .ok (.lload_n 1, 1) := by decide +kernel
theorem dX6_add_34 : decode cX6_add 34 = .ok (.iload 6, 2) := by decide +kernel
theorem dX6_add_36 : decode cX6_add 36 = .ok (.invokevirtual 26, 3) := by decide +kernel
theorem dX6_add_39 : decode cX6_add 39 = .ok (.ifCond .eq 61, 3) := by decide +kernel
theorem dX6_add_42 : decode cX6_add 42 = .ok (.aload_n 0, 1) := by decide +kernel
theorem dX6_add_43 : decode cX6_add 43 = .ok (.getfield 9, 3) := by decide +kernel
theorem dX6_add_46 : decode cX6_add 46 = .ok (.iload 6, 2) := by decide +kernel
theorem dX6_add_48 : decode cX6_add 48 = .ok (.iconst 1, 1) := by decide +kernel
theorem dX6_add_49 : decode cX6_add 49 = .ok (.iadd, 1) := by decide +kernel
theorem dX6_add_50 : decode cX6_add 50 = .ok (.aload_n 0, 1) := by decide +kernel
theorem dX6_add_51 : decode cX6_add 51 = .ok (.getfield 9, 3) := by decide +kernel
theorem dX6_add_54 : decode cX6_add 54 = .ok (.iload 6, 2) := by decide +kernel
theorem dX6_add_56 : decode cX6_add 56 = .ok (.laload, 1) := by decide +kernel
theorem dX6_add_57 : decode cX6_add 57 = .ok (.lastore, 1) := by decide +kernel
theorem dX6_add_58 : decode cX6_add 58 = .ok (.aload_n 0, 1) := by decide +kernel
theorem dX6_add_59 : decode cX6_add 59 = .ok (.getfield 15, 3) := by decide +kernel
theorem dX6_add_62 : decode cX6_add 62 = .ok (.iload 6, 2) := by decide +kernel
theorem dX6_add_64 : decode cX6_add 64 = .ok (.iconst 1, 1) := by decide +kernel
theorem dX6_add_65 : decode cX6_add 65 = .ok (.iadd, 1) := by decide +kernel
theorem dX6_add_66 : decode cX6_add 66 = .ok (.aload_n 0, 1) := by decide +kernel
theorem dX6_add_67 : decode cX6_add 67 = .ok (.getfield 15, 3) := by decide +kernel
theorem dX6_add_70 : decode cX6_add 70 = .ok (.iload 6, 2) := by decide +kernel
theorem dX6_add_72 : decode cX6_add 72 = .ok (.iaload, 1) := by decide +kernel
theorem dX6_add_73 : decode cX6_add 73 = .ok (.iastore, 1) := by decide +kernel
theorem dX6_add_74 : decode cX6_add 74 = .ok (.aload_n 0, 1) := by decide +kernel
theorem dX6_add_75 : decode cX6_add 75 = .ok (.getfield 19, 3) := by decide +kernel
theorem dX6_add_78 : decode cX6_add 78 = .ok (.iload 6, 2) := by decide +kernel
theorem dX6_add_80 : decode cX6_add 80 = .ok (.iconst 1, 1) := by decide +kernel
theorem dX6_add_81 : decode cX6_add 81 = .ok (.iadd, 1) := by decide +kernel
theorem dX6_add_82 : decode cX6_add 82 = .ok (.aload_n 0, 1) := by decide +kernel
theorem dX6_add_83 : decode cX6_add 83 = .ok (.getfield 19, 3) := by decide +kernel
theorem dX6_add_86 : decode cX6_add 86 = .ok (.iload 6, 2) := by decide +kernel
theorem dX6_add_88 : decode cX6_add 88 = .ok (.iaload, 1) := by decide +kernel
theorem dX6_add_89 : decode cX6_add 89 = .ok (.iastore, 1) := by decide +kernel
theorem dX6_add_90 : decode cX6_add 90 = .ok (.iload 6, 2) := by decide +kernel
theorem dX6_add_92 : decode cX6_add 92 = .ok (.istore 5, 2) := by decide +kernel
theorem dX6_add_94 : decode cX6_add 94 = .ok (.iinc 6 (-1), 3) := by decide +kernel
theorem dX6_add_97 : decode cX6_add 97 = .ok (.goto (-72), 3) := by decide +kernel
theorem dX6_add_100 : decode cX6_add 100 = .ok (.aload_n 0, 1) := by decide +kernel
theorem dX6_add_101 : decode cX6_add 101 = .ok (.getfield 9, 3) := by decide +kernel
theorem dX6_add_104 : decode cX6_add 104 = .ok (.iload 5, 2) := by decide +kernel
theorem dX6_add_106 : decode cX6_add 106 = .ok (.lload_n 1, 1) := by decide +kernel
theorem dX6_add_107 : decode cX6_add 107 = .ok (.lastore, 1) := by decide +kernel
theorem dX6_add_108 : decode cX6_add 108 = .ok (.aload_n 0, 1) := by decide +kernel
theorem dX6_add_109 : decode cX6_add 109 = .ok (.getfield 15, 3) := by decide +kernel
theorem dX6_add_112 : decode cX6_add 112 = .ok (.iload 5, 2) := by decide +kernel
theorem dX6_add_114 : decode cX6_add 114 = .ok (.iload_n 3, 1) := by decide +kernel
theorem dX6_add_115 : decode cX6_add 115 = .ok (.iastore, 1) := by decide +kernel
theorem dX6_add_116 : decode cX6_add 116 = .ok (.aload_n 0, 1) := by decide +kernel
theorem dX6_add_117 : decode cX6_add 117 = .ok (.getfield 19, 3) := by decide +kernel
theorem dX6_add_120 : decode cX6_add 120 = .ok (.iload 5, 2) := by decide +kernel
theorem dX6_add_122 : decode cX6_add 122 = .ok (.iload 4, 2) := by decide +kernel
theorem dX6_add_124 : decode cX6_add 124 = .ok (.iastore, 1) := by decide +kernel
theorem dX6_add_125 : decode cX6_add 125 = .ok (.aload_n 0, 1) := by decide +kernel
theorem dX6_add_126 : decode cX6_add 126 = .ok (.dup, 1) := by decide +kernel
theorem dX6_add_127 : decode cX6_add 127 = .ok (.getfield 22, 3) := by decide +kernel
theorem dX6_add_130 : decode cX6_add 130 = .ok (.iconst 1, 1) := by decide +kernel
theorem dX6_add_131 : decode cX6_add 131 = .ok (.iadd, 1) := by decide +kernel
theorem dX6_add_132 : decode cX6_add 132 = .ok (.putfield 22, 3) := by decide +kernel
theorem dX6_add_135 : decode cX6_add 135 = .ok (.return_, 1) := by decide +kernel
theorem dX6_markAt_0 : decode cX6_markAt 0 = .ok (.iload_n 1, 1) := by decide +kernel
theorem dX6_markAt_1 : decode cX6_markAt 1 = .ok (.ifCond .le 24, 3) := by decide +kernel
theorem dX6_markAt_4 : decode cX6_markAt 4 = .ok (.aload_n 0, 1) := by decide +kernel
theorem dX6_markAt_5 : decode cX6_markAt 5 = .ok (.getfield 19, 3) := by decide +kernel
theorem dX6_markAt_8 : decode cX6_markAt 8 = .ok (.iload_n 1, 1) := by decide +kernel
theorem dX6_markAt_9 : decode cX6_markAt 9 = .ok (.iaload, 1) := by decide +kernel
theorem dX6_markAt_10 : decode cX6_markAt 10 = .ok (.aload_n 0, 1) := by decide +kernel
theorem dX6_markAt_11 : decode cX6_markAt 11 = .ok (.getfield 19, 3) := by decide +kernel
theorem dX6_markAt_14 : decode cX6_markAt 14 = .ok (.iload_n 1, 1) := by decide +kernel
theorem dX6_markAt_15 : decode cX6_markAt 15 = .ok (.iconst 1, 1) := by decide +kernel
theorem dX6_markAt_16 : decode cX6_markAt 16 = .ok (.isub, 1) := by decide +kernel
theorem dX6_markAt_17 : decode cX6_markAt 17 = .ok (.iaload, 1) := by decide +kernel
theorem dX6_markAt_18 : decode cX6_markAt 18 = .ok (.if_icmp .ne 7, 3) := by decide +kernel
theorem dX6_markAt_21 : decode cX6_markAt 21 = .ok (.iconst 1, 1) := by decide +kernel
theorem dX6_markAt_22 : decode cX6_markAt 22 = .ok (.goto 4, 3) := by decide +kernel
theorem dX6_markAt_25 : decode cX6_markAt 25 = .ok (.iconst 0, 1) := by decide +kernel
theorem dX6_markAt_26 : decode cX6_markAt 26 = .ok (.ireturn, 1) := by decide +kernel
theorem dX6_isAhead_0 : decode cX6_isAhead 0 = .ok (.iload_n 1, 1) := by decide +kernel
theorem dX6_isAhead_1 : decode cX6_isAhead 1 = .ok (.aload_n 0, 1) := by decide +kernel
