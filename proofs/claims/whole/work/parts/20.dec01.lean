theorem d_Tape_read_0 : decode b_Tape_read 0 = .ok (.aload_n 0, 1) := by decide +kernel
theorem d_Tape_read_1 : decode b_Tape_read 1 = .ok (.iconst 0, 1) := by decide +kernel
theorem d_Tape_read_2 : decode b_Tape_read 2 = .ok (.putfield 31, 3) := by decide +kernel
theorem d_Tape_read_5 : decode b_Tape_read 5 = .ok (.aload_n 0, 1) := by decide +kernel
theorem d_Tape_read_6 : decode b_Tape_read 6 = .ok (.iconst 0, 1) := by decide +kernel
theorem d_Tape_read_7 : decode b_Tape_read 7 = .ok (.putfield 34, 3) := by decide +kernel
theorem d_Tape_read_10 : decode b_Tape_read 10 = .ok (.aload_n 0, 1) := by decide +kernel
theorem d_Tape_read_11 : decode b_Tape_read 11 = .ok (.iconst 0, 1) := by decide +kernel
theorem d_Tape_read_12 : decode b_Tape_read 12 = .ok (.putfield 37, 3) := by decide +kernel
theorem d_Tape_read_15 : decode b_Tape_read 15 = .ok (.aload_n 0, 1) := by decide +kernel
theorem d_Tape_read_16 : decode b_Tape_read 16 = .ok (.iconst 0, 1) := by decide +kernel
theorem d_Tape_read_17 : decode b_Tape_read 17 = .ok (.putfield 40, 3) := by decide +kernel
theorem d_Tape_read_20 : decode b_Tape_read 20 = .ok (.aload_n 0, 1) := by decide +kernel
theorem d_Tape_read_21 : decode b_Tape_read 21 = .ok (.iconst 1, 1) := by decide +kernel
theorem d_Tape_read_22 : decode b_Tape_read 22 = .ok (.putfield 43, 3) := by decide +kernel
theorem d_Tape_read_25 : decode b_Tape_read 25 = .ok (.aload_n 0, 1) := by decide +kernel
theorem d_Tape_read_26 : decode b_Tape_read 26 = .ok (.iconst 0, 1) := by decide +kernel
theorem d_Tape_read_27 : decode b_Tape_read 27 = .ok (.putfield 47, 3) := by decide +kernel
theorem d_Tape_read_30 : decode b_Tape_read 30 = .ok (.iconst 0, 1) := by decide +kernel
theorem d_Tape_read_31 : decode b_Tape_read 31 = .ok (.istore_n 1, 1) := by decide +kernel
theorem d_Tape_read_32 : decode b_Tape_read 32 = .ok (.iload_n 1, 1) := by decide +kernel
theorem d_Tape_read_33 : decode b_Tape_read 33 = .ok (.aload_n 0, 1) := by decide +kernel
theorem d_Tape_read_34 : decode b_Tape_read 34 = .ok (.getfield 23, 3) := by decide +kernel
theorem d_Tape_read_37 : decode b_Tape_read 37 = .ok (.if_icmp .ge 24, 3) := by decide +kernel
theorem d_Tape_read_40 : decode b_Tape_read 40 = .ok (.aload_n 0, 1) := by decide +kernel
theorem d_Tape_read_41 : decode b_Tape_read 41 = .ok (.aload_n 0, 1) := by decide +kernel
theorem d_Tape_read_42 : decode b_Tape_read 42 = .ok (.getfield 11, 3) := by decide +kernel
theorem d_Tape_read_45 : decode b_Tape_read 45 = .ok (.iload_n 1, 1) := by decide +kernel
theorem d_Tape_read_46 : decode b_Tape_read 46 = .ok (.iaload, 1) := by decide +kernel
theorem d_Tape_read_47 : decode b_Tape_read 47 = .ok (.invokevirtual 50, 3) := by decide +kernel
theorem d_Tape_read_50 : decode b_Tape_read 50 = .ok (.ifCond .ne 5, 3) := by decide +kernel
theorem d_Tape_read_53 : decode b_Tape_read 53 = .ok (.iload_n 1, 1) := by decide +kernel
theorem d_Tape_read_54 : decode b_Tape_read 54 = .ok (.ireturn, 1) := by decide +kernel
theorem d_Tape_read_55 : decode b_Tape_read 55 = .ok (.iinc 1 1, 3) := by decide +kernel
theorem d_Tape_read_58 : decode b_Tape_read 58 = .ok (.goto (-26), 3) := by decide +kernel
theorem d_Tape_read_61 : decode b_Tape_read 61 = .ok (.aload_n 0, 1) := by decide +kernel
theorem d_Tape_read_62 : decode b_Tape_read 62 = .ok (.getfield 43, 3) := by decide +kernel
theorem d_Tape_read_65 : decode b_Tape_read 65 = .ok (.ifCond .ne 10, 3) := by decide +kernel
theorem d_Tape_read_68 : decode b_Tape_read 68 = .ok (.aload_n 0, 1) := by decide +kernel
theorem d_Tape_read_69 : decode b_Tape_read 69 = .ok (.getfield 37, 3) := by decide +kernel
theorem d_Tape_read_72 : decode b_Tape_read 72 = .ok (.ifCond .le 8, 3) := by decide +kernel
theorem d_Tape_read_75 : decode b_Tape_read 75 = .ok (.aload_n 0, 1) := by decide +kernel
theorem d_Tape_read_76 : decode b_Tape_read 76 = .ok (.getfield 23, 3) := by decide +kernel
theorem d_Tape_read_79 : decode b_Tape_read 79 = .ok (.ireturn, 1) := by decide +kernel
theorem d_Tape_read_80 : decode b_Tape_read 80 = .ok (.aload_n 0, 1) := by decide +kernel
theorem d_Tape_read_81 : decode b_Tape_read 81 = .ok (.invokevirtual 54, 3) := by decide +kernel
theorem d_Tape_read_84 : decode b_Tape_read 84 = .ok (.iconst (-1), 1) := by decide +kernel
theorem d_Tape_read_85 : decode b_Tape_read 85 = .ok (.ireturn, 1) := by decide +kernel
theorem d_Top_law_0 : decode b_Top_law 0 = .ok (.aload_n 0, 1) := by decide +kernel
theorem d_Top_law_1 : decode b_Top_law 1 = .ok (.getfield 19, 3) := by decide +kernel
theorem d_Top_law_4 : decode b_Top_law 4 = .ok (.invokevirtual 143, 3) := by decide +kernel
theorem d_Top_law_7 : decode b_Top_law 7 = .ok (.istore_n 1, 1) := by decide +kernel
theorem d_Top_law_8 : decode b_Top_law 8 = .ok (.iload_n 1, 1) := by decide +kernel
theorem d_Top_law_9 : decode b_Top_law 9 = .ok (.iconst (-1), 1) := by decide +kernel
theorem d_Top_law_10 : decode b_Top_law 10 = .ok (.if_icmp .ne 14, 3) := by decide +kernel
theorem d_Top_law_13 : decode b_Top_law 13 = .ok (.aload_n 0, 1) := by decide +kernel
theorem d_Top_law_14 : decode b_Top_law 14 = .ok (.getfield 26, 3) := by decide +kernel
theorem d_Top_law_17 : decode b_Top_law 17 = .ok (.aload_n 0, 1) := by decide +kernel
theorem d_Top_law_18 : decode b_Top_law 18 = .ok (.getfield 19, 3) := by decide +kernel
theorem d_Top_law_21 : decode b_Top_law 21 = .ok (.invokevirtual 147, 3) := by decide +kernel
theorem d_Top_law_24 : decode b_Top_law 24 = .ok (.aload_n 0, 1) := by decide +kernel
theorem d_Top_law_25 : decode b_Top_law 25 = .ok (.getfield 19, 3) := by decide +kernel
theorem d_Top_law_28 : decode b_Top_law 28 = .ok (.invokevirtual 151, 3) := by decide +kernel
theorem d_Top_law_31 : decode b_Top_law 31 = .ok (.iload_n 1, 1) := by decide +kernel
theorem d_Top_law_32 : decode b_Top_law 32 = .ok (.iconst (-1), 1) := by decide +kernel
theorem d_Top_law_33 : decode b_Top_law 33 = .ok (.if_icmp .ne 7, 3) := by decide +kernel
theorem d_Top_law_36 : decode b_Top_law 36 = .ok (.iconst 1, 1) := by decide +kernel
theorem d_Top_law_37 : decode b_Top_law 37 = .ok (.goto 7, 3) := by decide +kernel
theorem d_Top_law_40 : decode b_Top_law 40 = .ok (.bipush (-100), 2) := by decide +kernel
theorem d_Top_law_42 : decode b_Top_law 42 = .ok (.iload_n 1, 1) := by decide +kernel
theorem d_Top_law_43 : decode b_Top_law 43 = .ok (.isub, 1) := by decide +kernel
theorem d_Top_law_44 : decode b_Top_law 44 = .ok (.ireturn, 1) := by decide +kernel
theorem d_Top_led_0 : decode b_Top_led 0 = .ok (.iload_n 1, 1) := by decide +kernel
theorem d_Top_led_1 : decode b_Top_led 1 = .ok (.iconst 4, 1) := by decide +kernel
theorem d_Top_led_2 : decode b_Top_led 2 = .ok (.if_icmp .ne 11, 3) := by decide +kernel
theorem d_Top_led_5 : decode b_Top_led 5 = .ok (.aload_n 0, 1) := by decide +kernel
theorem d_Top_led_6 : decode b_Top_led 6 = .ok (.getfield 10, 3) := by decide +kernel
theorem d_Top_led_9 : decode b_Top_led 9 = .ok (.invokevirtual 307, 3) := by decide +kernel
theorem d_Top_led_12 : decode b_Top_led 12 = .ok (.ireturn, 1) := by decide +kernel
theorem d_Top_led_13 : decode b_Top_led 13 = .ok (.iload_n 1, 1) := by decide +kernel
theorem d_Top_led_14 : decode b_Top_led 14 = .ok (.iconst 0, 1) := by decide +kernel
theorem d_Top_led_15 : decode b_Top_led 15 = .ok (.iconst 3, 1) := by decide +kernel
theorem d_Top_led_16 : decode b_Top_led 16 = .ok (.invokestatic 108, 3) := by decide +kernel
theorem d_Top_led_19 : decode b_Top_led 19 = .ok (.ifCond .eq 15, 3) := by decide +kernel
theorem d_Top_led_22 : decode b_Top_led 22 = .ok (.aload_n 0, 1) := by decide +kernel
theorem d_Top_led_23 : decode b_Top_led 23 = .ok (.getfield 67, 3) := by decide +kernel
theorem d_Top_led_26 : decode b_Top_led 26 = .ok (.getfield 310, 3) := by decide +kernel
theorem d_Top_led_29 : decode b_Top_led 29 = .ok (.iload_n 1, 1) := by decide +kernel
theorem d_Top_led_30 : decode b_Top_led 30 = .ok (.iaload, 1) := by decide +kernel
theorem d_Top_led_31 : decode b_Top_led 31 = .ok (.goto 4, 3) := by decide +kernel
theorem d_Top_led_34 : decode b_Top_led 34 = .ok (.iconst (-1), 1) := by decide +kernel
theorem d_Top_led_35 : decode b_Top_led 35 = .ok (.ireturn, 1) := by decide +kernel
theorem d_Rope_allDry_0 : decode b_Rope_allDry 0 = .ok (.iconst 0, 1) := by decide +kernel
theorem d_Rope_allDry_1 : decode b_Rope_allDry 1 = .ok (.istore_n 1, 1) := by decide +kernel
theorem d_Rope_allDry_2 : decode b_Rope_allDry 2 = .ok (.iconst 0, 1) := by decide +kernel
theorem d_Rope_allDry_3 : decode b_Rope_allDry 3 = .ok (.istore_n 2, 1) := by decide +kernel
theorem d_Rope_allDry_4 : decode b_Rope_allDry 4 = .ok (.iload_n 2, 1) := by decide +kernel
theorem d_Rope_allDry_5 : decode b_Rope_allDry 5 = .ok (.aload_n 0, 1) := by decide +kernel
theorem d_Rope_allDry_6 : decode b_Rope_allDry 6 = .ok (.getfield 30, 3) := by decide +kernel
theorem d_Rope_allDry_9 : decode b_Rope_allDry 9 = .ok (.if_icmp .ge 20, 3) := by decide +kernel
theorem d_Rope_allDry_12 : decode b_Rope_allDry 12 = .ok (.iload_n 1, 1) := by decide +kernel
theorem d_Rope_allDry_13 : decode b_Rope_allDry 13 = .ok (.aload_n 0, 1) := by decide +kernel
theorem d_Rope_allDry_14 : decode b_Rope_allDry 14 = .ok (.getfield 20, 3) := by decide +kernel
theorem d_Rope_allDry_17 : decode b_Rope_allDry 17 = .ok (.iload_n 2, 1) := by decide +kernel
theorem d_Rope_allDry_18 : decode b_Rope_allDry 18 = .ok (.iaload, 1) := by decide +kernel
theorem d_Rope_allDry_19 : decode b_Rope_allDry 19 = .ok (.invokestatic 46, 3) := by decide +kernel
theorem d_Rope_allDry_22 : decode b_Rope_allDry 22 = .ok (.istore_n 1, 1) := by decide +kernel
theorem d_Rope_allDry_23 : decode b_Rope_allDry 23 = .ok (.iinc 2 1, 3) := by decide +kernel
theorem d_Rope_allDry_26 : decode b_Rope_allDry 26 = .ok (.goto (-22), 3) := by decide +kernel
theorem d_Rope_allDry_29 : decode b_Rope_allDry 29 = .ok (.iload_n 1, 1) := by decide +kernel
theorem d_Rope_allDry_30 : decode b_Rope_allDry 30 = .ok (.ireturn, 1) := by decide +kernel
theorem d_Rope_loadAt_0 : decode b_Rope_loadAt 0 = .ok (.iconst 0, 1) := by decide +kernel
theorem d_Rope_loadAt_1 : decode b_Rope_loadAt 1 = .ok (.istore_n 3, 1) := by decide +kernel
theorem d_Rope_loadAt_2 : decode b_Rope_loadAt 2 = .ok (.iconst 0, 1) := by decide +kernel
theorem d_Rope_loadAt_3 : decode b_Rope_loadAt 3 = .ok (.istore 4, 2) := by decide +kernel
theorem d_Rope_loadAt_5 : decode b_Rope_loadAt 5 = .ok (.iload 4, 2) := by decide +kernel
theorem d_Rope_loadAt_7 : decode b_Rope_loadAt 7 = .ok (.iload_n 2, 1) := by decide +kernel
theorem d_Rope_loadAt_8 : decode b_Rope_loadAt 8 = .ok (.if_icmp .ge 42, 3) := by decide +kernel
theorem d_Rope_loadAt_11 : decode b_Rope_loadAt 11 = .ok (.iload_n 3, 1) := by decide +kernel
theorem d_Rope_loadAt_12 : decode b_Rope_loadAt 12 = .ok (.aload_n 0, 1) := by decide +kernel
theorem d_Rope_loadAt_13 : decode b_Rope_loadAt 13 = .ok (.getfield 20, 3) := by decide +kernel
theorem d_Rope_loadAt_16 : decode b_Rope_loadAt 16 = .ok (.iload 4, 2) := by decide +kernel
theorem d_Rope_loadAt_18 : decode b_Rope_loadAt 18 = .ok (.iaload, 1) := by decide +kernel
theorem d_Rope_loadAt_19 : decode b_Rope_loadAt 19 = .ok (.iload_n 1, 1) := by decide +kernel
theorem d_Rope_loadAt_20 : decode b_Rope_loadAt 20 = .ok (.if_icmp .le 21, 3) := by decide +kernel
theorem d_Rope_loadAt_23 : decode b_Rope_loadAt 23 = .ok (.aload_n 0, 1) := by decide +kernel
theorem d_Rope_loadAt_24 : decode b_Rope_loadAt 24 = .ok (.getfield 26, 3) := by decide +kernel
theorem d_Rope_loadAt_27 : decode b_Rope_loadAt 27 = .ok (.aload_n 0, 1) := by decide +kernel
theorem d_Rope_loadAt_28 : decode b_Rope_loadAt 28 = .ok (.getfield 11, 3) := by decide +kernel
theorem d_Rope_loadAt_31 : decode b_Rope_loadAt 31 = .ok (.iload 4, 2) := by decide +kernel
theorem d_Rope_loadAt_33 : decode b_Rope_loadAt 33 = .ok (.iaload, 1) := by decide +kernel
theorem d_Rope_loadAt_34 : decode b_Rope_loadAt 34 = .ok (.iconst 4, 1) := by decide +kernel
theorem d_Rope_loadAt_35 : decode b_Rope_loadAt 35 = .ok (.invokevirtual 66, 3) := by decide +kernel
theorem d_Rope_loadAt_38 : decode b_Rope_loadAt 38 = .ok (.goto 4, 3) := by decide +kernel
theorem d_Rope_loadAt_41 : decode b_Rope_loadAt 41 = .ok (.iconst 0, 1) := by decide +kernel
theorem d_Rope_loadAt_42 : decode b_Rope_loadAt 42 = .ok (.iadd, 1) := by decide +kernel
theorem d_Rope_loadAt_43 : decode b_Rope_loadAt 43 = .ok (.istore_n 3, 1) := by decide +kernel
theorem d_Rope_loadAt_44 : decode b_Rope_loadAt 44 = .ok (.iinc 4 1, 3) := by decide +kernel
theorem d_Rope_loadAt_47 : decode b_Rope_loadAt 47 = .ok (.goto (-42), 3) := by decide +kernel
theorem d_Rope_loadAt_50 : decode b_Rope_loadAt 50 = .ok (.iload_n 3, 1) := by decide +kernel
theorem d_Rope_loadAt_51 : decode b_Rope_loadAt 51 = .ok (.ireturn, 1) := by decide +kernel
theorem d_Rope_nextDry_0 : decode b_Rope_nextDry 0 = .ok (.ldc 52, 2) := by decide +kernel
theorem d_Rope_nextDry_2 : decode b_Rope_nextDry 2 = .ok (.istore_n 3, 1) := by decide +kernel
theorem d_Rope_nextDry_3 : decode b_Rope_nextDry 3 = .ok (.iconst 0, 1) := by decide +kernel
theorem d_Rope_nextDry_4 : decode b_Rope_nextDry 4 = .ok (.istore 4, 2) := by decide +kernel
theorem d_Rope_nextDry_6 : decode b_Rope_nextDry 6 = .ok (.iload 4, 2) := by decide +kernel
theorem d_Rope_nextDry_8 : decode b_Rope_nextDry 8 = .ok (.iload_n 2, 1) := by decide +kernel
theorem d_Rope_nextDry_9 : decode b_Rope_nextDry 9 = .ok (.if_icmp .ge 32, 3) := by decide +kernel
theorem d_Rope_nextDry_12 : decode b_Rope_nextDry 12 = .ok (.aload_n 0, 1) := by decide +kernel
theorem d_Rope_nextDry_13 : decode b_Rope_nextDry 13 = .ok (.getfield 20, 3) := by decide +kernel
theorem d_Rope_nextDry_16 : decode b_Rope_nextDry 16 = .ok (.iload 4, 2) := by decide +kernel
theorem d_Rope_nextDry_18 : decode b_Rope_nextDry 18 = .ok (.iaload, 1) := by decide +kernel
theorem d_Rope_nextDry_19 : decode b_Rope_nextDry 19 = .ok (.iload_n 1, 1) := by decide +kernel
theorem d_Rope_nextDry_20 : decode b_Rope_nextDry 20 = .ok (.if_icmp .le 15, 3) := by decide +kernel
theorem d_Rope_nextDry_23 : decode b_Rope_nextDry 23 = .ok (.iload_n 3, 1) := by decide +kernel
theorem d_Rope_nextDry_24 : decode b_Rope_nextDry 24 = .ok (.aload_n 0, 1) := by decide +kernel
theorem d_Rope_nextDry_25 : decode b_Rope_nextDry 25 = .ok (.getfield 20, 3) := by decide +kernel
theorem d_Rope_nextDry_28 : decode b_Rope_nextDry 28 = .ok (.iload 4, 2) := by decide +kernel
theorem d_Rope_nextDry_30 : decode b_Rope_nextDry 30 = .ok (.iaload, 1) := by decide +kernel
theorem d_Rope_nextDry_31 : decode b_Rope_nextDry 31 = .ok (.invokestatic 82, 3) := by decide +kernel
theorem d_Rope_nextDry_34 : decode b_Rope_nextDry 34 = .ok (.istore_n 3, 1) := by decide +kernel
theorem d_Rope_nextDry_35 : decode b_Rope_nextDry 35 = .ok (.iinc 4 1, 3) := by decide +kernel
theorem d_Rope_nextDry_38 : decode b_Rope_nextDry 38 = .ok (.goto (-32), 3) := by decide +kernel
theorem d_Rope_nextDry_41 : decode b_Rope_nextDry 41 = .ok (.iload_n 3, 1) := by decide +kernel
theorem d_Rope_nextDry_42 : decode b_Rope_nextDry 42 = .ok (.ldc 52, 2) := by decide +kernel
theorem d_Rope_nextDry_44 : decode b_Rope_nextDry 44 = .ok (.if_icmp .ne 7, 3) := by decide +kernel
theorem d_Rope_nextDry_47 : decode b_Rope_nextDry 47 = .ok (.iload_n 1, 1) := by decide +kernel
theorem d_Rope_nextDry_48 : decode b_Rope_nextDry 48 = .ok (.goto 4, 3) := by decide +kernel
theorem d_Rope_nextDry_51 : decode b_Rope_nextDry 51 = .ok (.iload_n 3, 1) := by decide +kernel
theorem d_Rope_nextDry_52 : decode b_Rope_nextDry 52 = .ok (.ireturn, 1) := by decide +kernel
theorem d_Rope_minuteFor_0 : decode b_Rope_minuteFor 0 = .ok (.aload_n 0, 1) := by decide +kernel
theorem d_Rope_minuteFor_1 : decode b_Rope_minuteFor 1 = .ok (.getfield 26, 3) := by decide +kernel
theorem d_Rope_minuteFor_4 : decode b_Rope_minuteFor 4 = .ok (.bipush 11, 2) := by decide +kernel
theorem d_Rope_minuteFor_6 : decode b_Rope_minuteFor 6 = .ok (.invokevirtual 69, 3) := by decide +kernel
theorem d_Rope_minuteFor_9 : decode b_Rope_minuteFor 9 = .ok (.iload_n 1, 1) := by decide +kernel
theorem d_Rope_minuteFor_10 : decode b_Rope_minuteFor 10 = .ok (.isub, 1) := by decide +kernel
theorem d_Rope_minuteFor_11 : decode b_Rope_minuteFor 11 = .ok (.istore_n 3, 1) := by decide +kernel
theorem d_Rope_minuteFor_12 : decode b_Rope_minuteFor 12 = .ok (.iload_n 2, 1) := by decide +kernel
theorem d_Rope_minuteFor_13 : decode b_Rope_minuteFor 13 = .ok (.ifCond .le 14, 3) := by decide +kernel
theorem d_Rope_minuteFor_16 : decode b_Rope_minuteFor 16 = .ok (.aload_n 0, 1) := by decide +kernel
theorem d_Rope_minuteFor_17 : decode b_Rope_minuteFor 17 = .ok (.getfield 17, 3) := by decide +kernel
theorem d_Rope_minuteFor_20 : decode b_Rope_minuteFor 20 = .ok (.iload_n 2, 1) := by decide +kernel
theorem d_Rope_minuteFor_21 : decode b_Rope_minuteFor 21 = .ok (.iconst 1, 1) := by decide +kernel
theorem d_Rope_minuteFor_22 : decode b_Rope_minuteFor 22 = .ok (.isub, 1) := by decide +kernel
theorem d_Rope_minuteFor_23 : decode b_Rope_minuteFor 23 = .ok (.iaload, 1) := by decide +kernel
theorem d_Rope_minuteFor_24 : decode b_Rope_minuteFor 24 = .ok (.goto 4, 3) := by decide +kernel
theorem d_Rope_minuteFor_27 : decode b_Rope_minuteFor 27 = .ok (.iconst 0, 1) := by decide +kernel
theorem d_Rope_minuteFor_28 : decode b_Rope_minuteFor 28 = .ok (.istore 4, 2) := by decide +kernel
theorem d_Rope_minuteFor_30 : decode b_Rope_minuteFor 30 = .ok (.iconst 0, 1) := by decide +kernel
theorem d_Rope_minuteFor_31 : decode b_Rope_minuteFor 31 = .ok (.istore 5, 2) := by decide +kernel
theorem d_Rope_minuteFor_33 : decode b_Rope_minuteFor 33 = .ok (.iload 5, 2) := by decide +kernel
theorem d_Rope_minuteFor_35 : decode b_Rope_minuteFor 35 = .ok (.iload_n 2, 1) := by decide +kernel
theorem d_Rope_minuteFor_36 : decode b_Rope_minuteFor 36 = .ok (.if_icmp .ge 29, 3) := by decide +kernel
theorem d_Rope_minuteFor_39 : decode b_Rope_minuteFor 39 = .ok (.aload_n 0, 1) := by decide +kernel
theorem d_Rope_minuteFor_40 : decode b_Rope_minuteFor 40 = .ok (.iload 4, 2) := by decide +kernel
theorem d_Rope_minuteFor_42 : decode b_Rope_minuteFor 42 = .ok (.iload_n 2, 1) := by decide +kernel
theorem d_Rope_minuteFor_43 : decode b_Rope_minuteFor 43 = .ok (.invokevirtual 76, 3) := by decide +kernel
theorem d_Rope_minuteFor_46 : decode b_Rope_minuteFor 46 = .ok (.iload_n 3, 1) := by decide +kernel
theorem d_Rope_minuteFor_47 : decode b_Rope_minuteFor 47 = .ok (.if_icmp .le 18, 3) := by decide +kernel
theorem d_Rope_minuteFor_50 : decode b_Rope_minuteFor 50 = .ok (.aload_n 0, 1) := by decide +kernel
theorem d_Rope_minuteFor_51 : decode b_Rope_minuteFor 51 = .ok (.iload 4, 2) := by decide +kernel
theorem d_Rope_minuteFor_53 : decode b_Rope_minuteFor 53 = .ok (.iload_n 2, 1) := by decide +kernel
theorem d_Rope_minuteFor_54 : decode b_Rope_minuteFor 54 = .ok (.invokevirtual 79, 3) := by decide +kernel
theorem d_Rope_minuteFor_57 : decode b_Rope_minuteFor 57 = .ok (.istore 4, 2) := by decide +kernel
theorem d_Rope_minuteFor_59 : decode b_Rope_minuteFor 59 = .ok (.iinc 5 1, 3) := by decide +kernel
theorem d_Rope_minuteFor_62 : decode b_Rope_minuteFor 62 = .ok (.goto (-29), 3) := by decide +kernel
theorem d_Rope_minuteFor_65 : decode b_Rope_minuteFor 65 = .ok (.iload 4, 2) := by decide +kernel
theorem d_Rope_minuteFor_67 : decode b_Rope_minuteFor 67 = .ok (.ireturn, 1) := by decide +kernel
theorem d_Rope_hangs_0 : decode b_Rope_hangs 0 = .ok (.aload_n 0, 1) := by decide +kernel
theorem d_Rope_hangs_1 : decode b_Rope_hangs 1 = .ok (.getfield 26, 3) := by decide +kernel
theorem d_Rope_hangs_4 : decode b_Rope_hangs 4 = .ok (.iload_n 1, 1) := by decide +kernel
theorem d_Rope_hangs_5 : decode b_Rope_hangs 5 = .ok (.iconst 4, 1) := by decide +kernel
theorem d_Rope_hangs_6 : decode b_Rope_hangs 6 = .ok (.invokevirtual 66, 3) := by decide +kernel
theorem d_Rope_hangs_9 : decode b_Rope_hangs 9 = .ok (.istore_n 3, 1) := by decide +kernel
theorem d_Rope_hangs_10 : decode b_Rope_hangs 10 = .ok (.iload_n 2, 1) := by decide +kernel
theorem d_Rope_hangs_11 : decode b_Rope_hangs 11 = .ok (.bipush 10, 2) := by decide +kernel
theorem d_Rope_hangs_13 : decode b_Rope_hangs 13 = .ok (.if_icmp .ge 16, 3) := by decide +kernel
theorem d_Rope_hangs_16 : decode b_Rope_hangs 16 = .ok (.iload_n 3, 1) := by decide +kernel
theorem d_Rope_hangs_17 : decode b_Rope_hangs 17 = .ok (.aload_n 0, 1) := by decide +kernel
theorem d_Rope_hangs_18 : decode b_Rope_hangs 18 = .ok (.getfield 26, 3) := by decide +kernel
theorem d_Rope_hangs_21 : decode b_Rope_hangs 21 = .ok (.bipush 11, 2) := by decide +kernel
theorem d_Rope_hangs_23 : decode b_Rope_hangs 23 = .ok (.invokevirtual 69, 3) := by decide +kernel
theorem d_Rope_hangs_26 : decode b_Rope_hangs 26 = .ok (.if_icmp .le 5, 3) := by decide +kernel
theorem d_Rope_hangs_29 : decode b_Rope_hangs 29 = .ok (.iconst 0, 1) := by decide +kernel
theorem d_Rope_hangs_30 : decode b_Rope_hangs 30 = .ok (.ireturn, 1) := by decide +kernel
theorem d_Rope_hangs_31 : decode b_Rope_hangs 31 = .ok (.aload_n 0, 1) := by decide +kernel
theorem d_Rope_hangs_32 : decode b_Rope_hangs 32 = .ok (.getfield 11, 3) := by decide +kernel
theorem d_Rope_hangs_35 : decode b_Rope_hangs 35 = .ok (.iload_n 2, 1) := by decide +kernel
theorem d_Rope_hangs_36 : decode b_Rope_hangs 36 = .ok (.iload_n 1, 1) := by decide +kernel
theorem d_Rope_hangs_37 : decode b_Rope_hangs 37 = .ok (.iastore, 1) := by decide +kernel
theorem d_Rope_hangs_38 : decode b_Rope_hangs 38 = .ok (.aload_n 0, 1) := by decide +kernel
theorem d_Rope_hangs_39 : decode b_Rope_hangs 39 = .ok (.getfield 17, 3) := by decide +kernel
theorem d_Rope_hangs_42 : decode b_Rope_hangs 42 = .ok (.iload_n 2, 1) := by decide +kernel
theorem d_Rope_hangs_43 : decode b_Rope_hangs 43 = .ok (.aload_n 0, 1) := by decide +kernel
theorem d_Rope_hangs_44 : decode b_Rope_hangs 44 = .ok (.iload_n 3, 1) := by decide +kernel
theorem d_Rope_hangs_45 : decode b_Rope_hangs 45 = .ok (.iload_n 2, 1) := by decide +kernel
theorem d_Rope_hangs_46 : decode b_Rope_hangs 46 = .ok (.invokevirtual 73, 3) := by decide +kernel
theorem d_Rope_hangs_49 : decode b_Rope_hangs 49 = .ok (.iastore, 1) := by decide +kernel
theorem d_Rope_hangs_50 : decode b_Rope_hangs 50 = .ok (.aload_n 0, 1) := by decide +kernel
theorem d_Rope_hangs_51 : decode b_Rope_hangs 51 = .ok (.getfield 20, 3) := by decide +kernel
theorem d_Rope_hangs_54 : decode b_Rope_hangs 54 = .ok (.iload_n 2, 1) := by decide +kernel
theorem d_Rope_hangs_55 : decode b_Rope_hangs 55 = .ok (.aload_n 0, 1) := by decide +kernel
theorem d_Rope_hangs_56 : decode b_Rope_hangs 56 = .ok (.getfield 17, 3) := by decide +kernel
theorem d_Rope_hangs_59 : decode b_Rope_hangs 59 = .ok (.iload_n 2, 1) := by decide +kernel
theorem d_Rope_hangs_60 : decode b_Rope_hangs 60 = .ok (.iaload, 1) := by decide +kernel
theorem d_Rope_hangs_61 : decode b_Rope_hangs 61 = .ok (.aload_n 0, 1) := by decide +kernel
theorem d_Rope_hangs_62 : decode b_Rope_hangs 62 = .ok (.getfield 26, 3) := by decide +kernel
theorem d_Rope_hangs_65 : decode b_Rope_hangs 65 = .ok (.iload_n 1, 1) := by decide +kernel
theorem d_Rope_hangs_66 : decode b_Rope_hangs 66 = .ok (.iconst 5, 1) := by decide +kernel
theorem d_Rope_hangs_67 : decode b_Rope_hangs 67 = .ok (.invokevirtual 66, 3) := by decide +kernel
theorem d_Rope_hangs_70 : decode b_Rope_hangs 70 = .ok (.bipush 10, 2) := by decide +kernel
theorem d_Rope_hangs_72 : decode b_Rope_hangs 72 = .ok (.imul, 1) := by decide +kernel
theorem d_Rope_hangs_73 : decode b_Rope_hangs 73 = .ok (.iadd, 1) := by decide +kernel
theorem d_Rope_hangs_74 : decode b_Rope_hangs 74 = .ok (.iastore, 1) := by decide +kernel
theorem d_Rope_hangs_75 : decode b_Rope_hangs 75 = .ok (.iconst 1, 1) := by decide +kernel
theorem d_Rope_hangs_76 : decode b_Rope_hangs 76 = .ok (.ireturn, 1) := by decide +kernel
theorem d_Rope_hang_0 : decode b_Rope_hang 0 = .ok (.aload_n 0, 1) := by decide +kernel
theorem d_Rope_hang_1 : decode b_Rope_hang 1 = .ok (.iconst 0, 1) := by decide +kernel
theorem d_Rope_hang_2 : decode b_Rope_hang 2 = .ok (.putfield 30, 3) := by decide +kernel
theorem d_Rope_hang_5 : decode b_Rope_hang 5 = .ok (.iconst 0, 1) := by decide +kernel
theorem d_Rope_hang_6 : decode b_Rope_hang 6 = .ok (.istore_n 2, 1) := by decide +kernel
theorem d_Rope_hang_7 : decode b_Rope_hang 7 = .ok (.iload_n 2, 1) := by decide +kernel
theorem d_Rope_hang_8 : decode b_Rope_hang 8 = .ok (.aload_n 0, 1) := by decide +kernel
theorem d_Rope_hang_9 : decode b_Rope_hang 9 = .ok (.getfield 26, 3) := by decide +kernel
theorem d_Rope_hang_12 : decode b_Rope_hang 12 = .ok (.getfield 34, 3) := by decide +kernel
theorem d_Rope_hang_15 : decode b_Rope_hang 15 = .ok (.if_icmp .ge 40, 3) := by decide +kernel
theorem d_Rope_hang_18 : decode b_Rope_hang 18 = .ok (.iload_n 1, 1) := by decide +kernel
theorem d_Rope_hang_19 : decode b_Rope_hang 19 = .ok (.iload_n 2, 1) := by decide +kernel
theorem d_Rope_hang_20 : decode b_Rope_hang 20 = .ok (.invokestatic 39, 3) := by decide +kernel
theorem d_Rope_hang_23 : decode b_Rope_hang 23 = .ok (.ifCond .eq 26, 3) := by decide +kernel
theorem d_Rope_hang_26 : decode b_Rope_hang 26 = .ok (.aload_n 0, 1) := by decide +kernel
theorem d_Rope_hang_27 : decode b_Rope_hang 27 = .ok (.iload_n 2, 1) := by decide +kernel
theorem d_Rope_hang_28 : decode b_Rope_hang 28 = .ok (.aload_n 0, 1) := by decide +kernel
theorem d_Rope_hang_29 : decode b_Rope_hang 29 = .ok (.getfield 30, 3) := by decide +kernel
theorem d_Rope_hang_32 : decode b_Rope_hang 32 = .ok (.invokevirtual 43, 3) := by decide +kernel
theorem d_Rope_hang_35 : decode b_Rope_hang 35 = .ok (.ifCond .ne 4, 3) := by decide +kernel
theorem d_Rope_hang_38 : decode b_Rope_hang 38 = .ok (.return_, 1) := by decide +kernel
theorem d_Rope_hang_39 : decode b_Rope_hang 39 = .ok (.aload_n 0, 1) := by decide +kernel
theorem d_Rope_hang_40 : decode b_Rope_hang 40 = .ok (.dup, 1) := by decide +kernel
theorem d_Rope_hang_41 : decode b_Rope_hang 41 = .ok (.getfield 30, 3) := by decide +kernel
theorem d_Rope_hang_44 : decode b_Rope_hang 44 = .ok (.iconst 1, 1) := by decide +kernel
theorem d_Rope_hang_45 : decode b_Rope_hang 45 = .ok (.iadd, 1) := by decide +kernel
theorem d_Rope_hang_46 : decode b_Rope_hang 46 = .ok (.putfield 30, 3) := by decide +kernel
theorem d_Rope_hang_49 : decode b_Rope_hang 49 = .ok (.iinc 2 1, 3) := by decide +kernel
theorem d_Rope_hang_52 : decode b_Rope_hang 52 = .ok (.goto (-45), 3) := by decide +kernel
theorem d_Rope_hang_55 : decode b_Rope_hang 55 = .ok (.return_, 1) := by decide +kernel
theorem d_Rope_placeOf_0 : decode b_Rope_placeOf 0 = .ok (.iconst 0, 1) := by decide +kernel
theorem d_Rope_placeOf_1 : decode b_Rope_placeOf 1 = .ok (.istore_n 2, 1) := by decide +kernel
theorem d_Rope_placeOf_2 : decode b_Rope_placeOf 2 = .ok (.iload_n 2, 1) := by decide +kernel
theorem d_Rope_placeOf_3 : decode b_Rope_placeOf 3 = .ok (.aload_n 0, 1) := by decide +kernel
theorem d_Rope_placeOf_4 : decode b_Rope_placeOf 4 = .ok (.getfield 30, 3) := by decide +kernel
theorem d_Rope_placeOf_7 : decode b_Rope_placeOf 7 = .ok (.if_icmp .ge 21, 3) := by decide +kernel
theorem d_Rope_placeOf_10 : decode b_Rope_placeOf 10 = .ok (.aload_n 0, 1) := by decide +kernel
theorem d_Rope_placeOf_11 : decode b_Rope_placeOf 11 = .ok (.getfield 11, 3) := by decide +kernel
theorem d_Rope_placeOf_14 : decode b_Rope_placeOf 14 = .ok (.iload_n 2, 1) := by decide +kernel
theorem d_Rope_placeOf_15 : decode b_Rope_placeOf 15 = .ok (.iaload, 1) := by decide +kernel
theorem d_Rope_placeOf_16 : decode b_Rope_placeOf 16 = .ok (.iload_n 1, 1) := by decide +kernel
theorem d_Rope_placeOf_17 : decode b_Rope_placeOf 17 = .ok (.if_icmp .ne 5, 3) := by decide +kernel
theorem d_Rope_placeOf_20 : decode b_Rope_placeOf 20 = .ok (.iload_n 2, 1) := by decide +kernel
theorem d_Rope_placeOf_21 : decode b_Rope_placeOf 21 = .ok (.ireturn, 1) := by decide +kernel
theorem d_Rope_placeOf_22 : decode b_Rope_placeOf 22 = .ok (.iinc 2 1, 3) := by decide +kernel
theorem d_Rope_placeOf_25 : decode b_Rope_placeOf 25 = .ok (.goto (-23), 3) := by decide +kernel
theorem d_Rope_placeOf_28 : decode b_Rope_placeOf 28 = .ok (.iconst (-1), 1) := by decide +kernel
theorem d_Rope_placeOf_29 : decode b_Rope_placeOf 29 = .ok (.ireturn, 1) := by decide +kernel
theorem d_Top_line_0 : decode b_Top_line 0 = .ok (.aload_n 0, 1) := by decide +kernel
theorem d_Top_line_1 : decode b_Top_line 1 = .ok (.iload_n 1, 1) := by decide +kernel
theorem d_Top_line_2 : decode b_Top_line 2 = .ok (.invokevirtual 160, 3) := by decide +kernel
theorem d_Top_line_5 : decode b_Top_line 5 = .ok (.ifCond .eq 20, 3) := by decide +kernel
theorem d_Top_line_8 : decode b_Top_line 8 = .ok (.aload_n 0, 1) := by decide +kernel
theorem d_Top_line_9 : decode b_Top_line 9 = .ok (.iload_n 2, 1) := by decide +kernel
theorem d_Top_line_10 : decode b_Top_line 10 = .ok (.invokevirtual 207, 3) := by decide +kernel
theorem d_Top_line_13 : decode b_Top_line 13 = .ok (.ifCond .eq 12, 3) := by decide +kernel
theorem d_Top_line_16 : decode b_Top_line 16 = .ok (.iload_n 3, 1) := by decide +kernel
theorem d_Top_line_17 : decode b_Top_line 17 = .ok (.iconst 0, 1) := by decide +kernel
theorem d_Top_line_18 : decode b_Top_line 18 = .ok (.iconst 1, 1) := by decide +kernel
theorem d_Top_line_19 : decode b_Top_line 19 = .ok (.invokestatic 108, 3) := by decide +kernel
theorem d_Top_line_22 : decode b_Top_line 22 = .ok (.ifCond .ne 5, 3) := by decide +kernel
theorem d_Top_line_25 : decode b_Top_line 25 = .ok (.iconst (-1), 1) := by decide +kernel
theorem d_Top_line_26 : decode b_Top_line 26 = .ok (.ireturn, 1) := by decide +kernel
theorem d_Top_line_27 : decode b_Top_line 27 = .ok (.aload_n 0, 1) := by decide +kernel
theorem d_Top_line_28 : decode b_Top_line 28 = .ok (.getfield 60, 3) := by decide +kernel
theorem d_Top_line_31 : decode b_Top_line 31 = .ok (.iload_n 1, 1) := by decide +kernel
theorem d_Top_line_32 : decode b_Top_line 32 = .ok (.invokevirtual 249, 3) := by decide +kernel
theorem d_Top_line_35 : decode b_Top_line 35 = .ok (.iload_n 2, 1) := by decide +kernel
theorem d_Top_line_36 : decode b_Top_line 36 = .ok (.iconst (-1), 1) := by decide +kernel
theorem d_Top_line_37 : decode b_Top_line 37 = .ok (.if_icmp .ne 30, 3) := by decide +kernel
theorem d_Top_line_40 : decode b_Top_line 40 = .ok (.aload_n 0, 1) := by decide +kernel
theorem d_Top_line_41 : decode b_Top_line 41 = .ok (.getfield 60, 3) := by decide +kernel
theorem d_Top_line_44 : decode b_Top_line 44 = .ok (.getfield 252, 3) := by decide +kernel
theorem d_Top_line_47 : decode b_Top_line 47 = .ok (.iload_n 1, 1) := by decide +kernel
theorem d_Top_line_48 : decode b_Top_line 48 = .ok (.invokestatic 210, 3) := by decide +kernel
theorem d_Top_line_51 : decode b_Top_line 51 = .ok (.if_icmp .ne 13, 3) := by decide +kernel
theorem d_Top_line_54 : decode b_Top_line 54 = .ok (.aload_n 0, 1) := by decide +kernel
theorem d_Top_line_55 : decode b_Top_line 55 = .ok (.getfield 60, 3) := by decide +kernel
theorem d_Top_line_58 : decode b_Top_line 58 = .ok (.invokevirtual 255, 3) := by decide +kernel
theorem d_Top_line_61 : decode b_Top_line 61 = .ok (.goto 5, 3) := by decide +kernel
theorem d_Top_line_64 : decode b_Top_line 64 = .ok (.bipush (-2), 2) := by decide +kernel
theorem d_Top_line_66 : decode b_Top_line 66 = .ok (.ireturn, 1) := by decide +kernel
theorem d_Top_line_67 : decode b_Top_line 67 = .ok (.aload_n 0, 1) := by decide +kernel
theorem d_Top_line_68 : decode b_Top_line 68 = .ok (.getfield 60, 3) := by decide +kernel
theorem d_Top_line_71 : decode b_Top_line 71 = .ok (.iload_n 2, 1) := by decide +kernel
theorem d_Top_line_72 : decode b_Top_line 72 = .ok (.invokevirtual 258, 3) := by decide +kernel
theorem d_Top_line_75 : decode b_Top_line 75 = .ok (.istore 4, 2) := by decide +kernel
theorem d_Top_line_77 : decode b_Top_line 77 = .ok (.iload 4, 2) := by decide +kernel
theorem d_Top_line_79 : decode b_Top_line 79 = .ok (.iconst (-1), 1) := by decide +kernel
theorem d_Top_line_80 : decode b_Top_line 80 = .ok (.if_icmp .ne 6, 3) := by decide +kernel
theorem d_Top_line_83 : decode b_Top_line 83 = .ok (.bipush (-2), 2) := by decide +kernel
theorem d_Top_line_85 : decode b_Top_line 85 = .ok (.ireturn, 1) := by decide +kernel
theorem d_Top_line_86 : decode b_Top_line 86 = .ok (.iload_n 3, 1) := by decide +kernel
theorem d_Top_line_87 : decode b_Top_line 87 = .ok (.ifCond .ne 16, 3) := by decide +kernel
theorem d_Top_line_90 : decode b_Top_line 90 = .ok (.aload_n 0, 1) := by decide +kernel
theorem d_Top_line_91 : decode b_Top_line 91 = .ok (.getfield 60, 3) := by decide +kernel
theorem d_Top_line_94 : decode b_Top_line 94 = .ok (.getfield 261, 3) := by decide +kernel
theorem d_Top_line_97 : decode b_Top_line 97 = .ok (.iload 4, 2) := by decide +kernel
theorem d_Top_line_99 : decode b_Top_line 99 = .ok (.iaload, 1) := by decide +kernel
theorem d_Top_line_100 : decode b_Top_line 100 = .ok (.goto 13, 3) := by decide +kernel
theorem d_Top_line_103 : decode b_Top_line 103 = .ok (.aload_n 0, 1) := by decide +kernel
theorem d_Top_line_104 : decode b_Top_line 104 = .ok (.getfield 60, 3) := by decide +kernel
theorem d_Top_line_107 : decode b_Top_line 107 = .ok (.getfield 265, 3) := by decide +kernel
theorem d_Top_line_110 : decode b_Top_line 110 = .ok (.iload 4, 2) := by decide +kernel
theorem d_Top_line_112 : decode b_Top_line 112 = .ok (.iaload, 1) := by decide +kernel
theorem d_Top_line_113 : decode b_Top_line 113 = .ok (.ireturn, 1) := by decide +kernel
theorem d_Basket_numberAt_0 : decode b_Basket_numberAt 0 = .ok (.iload_n 1, 1) := by decide +kernel
theorem d_Basket_numberAt_1 : decode b_Basket_numberAt 1 = .ok (.ifCond .lt 21, 3) := by decide +kernel
theorem d_Basket_numberAt_4 : decode b_Basket_numberAt 4 = .ok (.iload_n 1, 1) := by decide +kernel
theorem d_Basket_numberAt_5 : decode b_Basket_numberAt 5 = .ok (.aload_n 0, 1) := by decide +kernel
theorem d_Basket_numberAt_6 : decode b_Basket_numberAt 6 = .ok (.getfield 11, 3) := by decide +kernel
theorem d_Basket_numberAt_9 : decode b_Basket_numberAt 9 = .ok (.arraylength, 1) := by decide +kernel
theorem d_Basket_numberAt_10 : decode b_Basket_numberAt 10 = .ok (.if_icmp .ge 12, 3) := by decide +kernel
theorem d_Basket_numberAt_13 : decode b_Basket_numberAt 13 = .ok (.aload_n 0, 1) := by decide +kernel
theorem d_Basket_numberAt_14 : decode b_Basket_numberAt 14 = .ok (.getfield 11, 3) := by decide +kernel
theorem d_Basket_numberAt_17 : decode b_Basket_numberAt 17 = .ok (.iload_n 1, 1) := by decide +kernel
theorem d_Basket_numberAt_18 : decode b_Basket_numberAt 18 = .ok (.iaload, 1) := by decide +kernel
theorem d_Basket_numberAt_19 : decode b_Basket_numberAt 19 = .ok (.goto 4, 3) := by decide +kernel
theorem d_Basket_numberAt_22 : decode b_Basket_numberAt 22 = .ok (.iconst 0, 1) := by decide +kernel
theorem d_Basket_numberAt_23 : decode b_Basket_numberAt 23 = .ok (.ireturn, 1) := by decide +kernel
theorem d_Changes_forgetFirst_0 : decode b_Changes_forgetFirst 0 = .ok (.aload_n 0, 1) := by decide +kernel
theorem d_Changes_forgetFirst_1 : decode b_Changes_forgetFirst 1 = .ok (.getfield 9, 3) := by decide +kernel
theorem d_Changes_forgetFirst_4 : decode b_Changes_forgetFirst 4 = .ok (.iconst 1, 1) := by decide +kernel
theorem d_Changes_forgetFirst_5 : decode b_Changes_forgetFirst 5 = .ok (.aload_n 0, 1) := by decide +kernel
theorem d_Changes_forgetFirst_6 : decode b_Changes_forgetFirst 6 = .ok (.getfield 9, 3) := by decide +kernel
theorem d_Changes_forgetFirst_9 : decode b_Changes_forgetFirst 9 = .ok (.iconst 0, 1) := by decide +kernel
theorem d_Changes_forgetFirst_10 : decode b_Changes_forgetFirst 10 = .ok (.bipush 39, 2) := by decide +kernel
theorem d_Changes_forgetFirst_12 : decode b_Changes_forgetFirst 12 = .ok (.invokestatic 29, 3) := by decide +kernel
theorem d_Changes_forgetFirst_15 : decode b_Changes_forgetFirst 15 = .ok (.aload_n 0, 1) := by decide +kernel
theorem d_Changes_forgetFirst_16 : decode b_Changes_forgetFirst 16 = .ok (.getfield 13, 3) := by decide +kernel
theorem d_Changes_forgetFirst_19 : decode b_Changes_forgetFirst 19 = .ok (.iconst 1, 1) := by decide +kernel
theorem d_Changes_forgetFirst_20 : decode b_Changes_forgetFirst 20 = .ok (.aload_n 0, 1) := by decide +kernel
theorem d_Changes_forgetFirst_21 : decode b_Changes_forgetFirst 21 = .ok (.getfield 13, 3) := by decide +kernel
theorem d_Changes_forgetFirst_24 : decode b_Changes_forgetFirst 24 = .ok (.iconst 0, 1) := by decide +kernel
theorem d_Changes_forgetFirst_25 : decode b_Changes_forgetFirst 25 = .ok (.bipush 39, 2) := by decide +kernel
theorem d_Changes_forgetFirst_27 : decode b_Changes_forgetFirst 27 = .ok (.invokestatic 29, 3) := by decide +kernel
theorem d_Changes_forgetFirst_30 : decode b_Changes_forgetFirst 30 = .ok (.aload_n 0, 1) := by decide +kernel
theorem d_Changes_forgetFirst_31 : decode b_Changes_forgetFirst 31 = .ok (.getfield 16, 3) := by decide +kernel
theorem d_Changes_forgetFirst_34 : decode b_Changes_forgetFirst 34 = .ok (.iconst 1, 1) := by decide +kernel
theorem d_Changes_forgetFirst_35 : decode b_Changes_forgetFirst 35 = .ok (.aload_n 0, 1) := by decide +kernel
theorem d_Changes_forgetFirst_36 : decode b_Changes_forgetFirst 36 = .ok (.getfield 16, 3) := by decide +kernel
theorem d_Changes_forgetFirst_39 : decode b_Changes_forgetFirst 39 = .ok (.iconst 0, 1) := by decide +kernel
theorem d_Changes_forgetFirst_40 : decode b_Changes_forgetFirst 40 = .ok (.bipush 39, 2) := by decide +kernel
theorem d_Changes_forgetFirst_42 : decode b_Changes_forgetFirst 42 = .ok (.invokestatic 29, 3) := by decide +kernel
theorem d_Changes_forgetFirst_45 : decode b_Changes_forgetFirst 45 = .ok (.aload_n 0, 1) := by decide +kernel
theorem d_Changes_forgetFirst_46 : decode b_Changes_forgetFirst 46 = .ok (.bipush 39, 2) := by decide +kernel
theorem d_Changes_forgetFirst_48 : decode b_Changes_forgetFirst 48 = .ok (.putfield 19, 3) := by decide +kernel
theorem d_Changes_forgetFirst_51 : decode b_Changes_forgetFirst 51 = .ok (.return_, 1) := by decide +kernel
theorem d_Changes_add_0 : decode b_Changes_add 0 = .ok (.aload_n 0, 1) := by decide +kernel
theorem d_Changes_add_1 : decode b_Changes_add 1 = .ok (.getfield 19, 3) := by decide +kernel
theorem d_Changes_add_4 : decode b_Changes_add 4 = .ok (.bipush 40, 2) := by decide +kernel
theorem d_Changes_add_6 : decode b_Changes_add 6 = .ok (.if_icmp .lt 7, 3) := by decide +kernel
theorem d_Changes_add_9 : decode b_Changes_add 9 = .ok (.aload_n 0, 1) := by decide +kernel
theorem d_Changes_add_10 : decode b_Changes_add 10 = .ok (.invokevirtual 23, 3) := by decide +kernel
theorem d_Changes_add_13 : decode b_Changes_add 13 = .ok (.aload_n 0, 1) := by decide +kernel
theorem d_Changes_add_14 : decode b_Changes_add 14 = .ok (.getfield 9, 3) := by decide +kernel
theorem d_Changes_add_17 : decode b_Changes_add 17 = .ok (.aload_n 0, 1) := by decide +kernel
theorem d_Changes_add_18 : decode b_Changes_add 18 = .ok (.getfield 19, 3) := by decide +kernel
theorem d_Changes_add_21 : decode b_Changes_add 21 = .ok (.iload_n 1, 1) := by decide +kernel
theorem d_Changes_add_22 : decode b_Changes_add 22 = .ok (.iastore, 1) := by decide +kernel
theorem d_Changes_add_23 : decode b_Changes_add 23 = .ok (.aload_n 0, 1) := by decide +kernel
theorem d_Changes_add_24 : decode b_Changes_add 24 = .ok (.getfield 13, 3) := by decide +kernel
theorem d_Changes_add_27 : decode b_Changes_add 27 = .ok (.aload_n 0, 1) := by decide +kernel
theorem d_Changes_add_28 : decode b_Changes_add 28 = .ok (.getfield 19, 3) := by decide +kernel
theorem d_Changes_add_31 : decode b_Changes_add 31 = .ok (.iload_n 2, 1) := by decide +kernel
theorem d_Changes_add_32 : decode b_Changes_add 32 = .ok (.iastore, 1) := by decide +kernel
theorem d_Changes_add_33 : decode b_Changes_add 33 = .ok (.aload_n 0, 1) := by decide +kernel
theorem d_Changes_add_34 : decode b_Changes_add 34 = .ok (.getfield 16, 3) := by decide +kernel
theorem d_Changes_add_37 : decode b_Changes_add 37 = .ok (.aload_n 0, 1) := by decide +kernel
theorem d_Changes_add_38 : decode b_Changes_add 38 = .ok (.getfield 19, 3) := by decide +kernel
theorem d_Changes_add_41 : decode b_Changes_add 41 = .ok (.iload_n 3, 1) := by decide +kernel
theorem d_Changes_add_42 : decode b_Changes_add 42 = .ok (.iastore, 1) := by decide +kernel
theorem d_Changes_add_43 : decode b_Changes_add 43 = .ok (.aload_n 0, 1) := by decide +kernel
theorem d_Changes_add_44 : decode b_Changes_add 44 = .ok (.dup, 1) := by decide +kernel
theorem d_Changes_add_45 : decode b_Changes_add 45 = .ok (.getfield 19, 3) := by decide +kernel
theorem d_Changes_add_48 : decode b_Changes_add 48 = .ok (.iconst 1, 1) := by decide +kernel
theorem d_Changes_add_49 : decode b_Changes_add 49 = .ok (.iadd, 1) := by decide +kernel
theorem d_Changes_add_50 : decode b_Changes_add 50 = .ok (.putfield 19, 3) := by decide +kernel
theorem d_Changes_add_53 : decode b_Changes_add 53 = .ok (.aload_n 0, 1) := by decide +kernel
theorem d_Changes_add_54 : decode b_Changes_add 54 = .ok (.iconst 0, 1) := by decide +kernel
theorem d_Changes_add_55 : decode b_Changes_add 55 = .ok (.putfield 26, 3) := by decide +kernel
theorem d_Changes_add_58 : decode b_Changes_add 58 = .ok (.return_, 1) := by decide +kernel
theorem d_Top_mend_0 : decode b_Top_mend 0 = .ok (.aload_n 0, 1) := by decide +kernel
theorem d_Top_mend_1 : decode b_Top_mend 1 = .ok (.getfield 10, 3) := by decide +kernel
theorem d_Top_mend_4 : decode b_Top_mend 4 = .ok (.iload_n 1, 1) := by decide +kernel
theorem d_Top_mend_5 : decode b_Top_mend 5 = .ok (.iload_n 2, 1) := by decide +kernel
theorem d_Top_mend_6 : decode b_Top_mend 6 = .ok (.invokevirtual 120, 3) := by decide +kernel
theorem d_Top_mend_9 : decode b_Top_mend 9 = .ok (.istore 4, 2) := by decide +kernel
theorem d_Top_mend_11 : decode b_Top_mend 11 = .ok (.iload 4, 2) := by decide +kernel
theorem d_Top_mend_13 : decode b_Top_mend 13 = .ok (.ifCond .lt 11, 3) := by decide +kernel
theorem d_Top_mend_16 : decode b_Top_mend 16 = .ok (.iload_n 2, 1) := by decide +kernel
theorem d_Top_mend_17 : decode b_Top_mend 17 = .ok (.iload_n 3, 1) := by decide +kernel
theorem d_Top_mend_18 : decode b_Top_mend 18 = .ok (.invokestatic 92, 3) := by decide +kernel
theorem d_Top_mend_21 : decode b_Top_mend 21 = .ok (.ifCond .ne 5, 3) := by decide +kernel
theorem d_Top_mend_24 : decode b_Top_mend 24 = .ok (.iconst (-1), 1) := by decide +kernel
theorem d_Top_mend_25 : decode b_Top_mend 25 = .ok (.ireturn, 1) := by decide +kernel
theorem d_Top_mend_26 : decode b_Top_mend 26 = .ok (.aload_n 0, 1) := by decide +kernel
theorem d_Top_mend_27 : decode b_Top_mend 27 = .ok (.getfield 10, 3) := by decide +kernel
theorem d_Top_mend_30 : decode b_Top_mend 30 = .ok (.iload 4, 2) := by decide +kernel
theorem d_Top_mend_32 : decode b_Top_mend 32 = .ok (.invokevirtual 123, 3) := by decide +kernel
theorem d_Top_mend_35 : decode b_Top_mend 35 = .ok (.istore 5, 2) := by decide +kernel
theorem d_Top_mend_37 : decode b_Top_mend 37 = .ok (.iload 5, 2) := by decide +kernel
theorem d_Top_mend_39 : decode b_Top_mend 39 = .ok (.iload_n 3, 1) := by decide +kernel
theorem d_Top_mend_40 : decode b_Top_mend 40 = .ok (.if_icmp .eq 25, 3) := by decide +kernel
theorem d_Top_mend_43 : decode b_Top_mend 43 = .ok (.aload_n 0, 1) := by decide +kernel
theorem d_Top_mend_44 : decode b_Top_mend 44 = .ok (.getfield 10, 3) := by decide +kernel
theorem d_Top_mend_47 : decode b_Top_mend 47 = .ok (.iload 4, 2) := by decide +kernel
theorem d_Top_mend_49 : decode b_Top_mend 49 = .ok (.iload_n 3, 1) := by decide +kernel
theorem d_Top_mend_50 : decode b_Top_mend 50 = .ok (.invokevirtual 127, 3) := by decide +kernel
theorem d_Top_mend_53 : decode b_Top_mend 53 = .ok (.aload_n 0, 1) := by decide +kernel
theorem d_Top_mend_54 : decode b_Top_mend 54 = .ok (.getfield 74, 3) := by decide +kernel
theorem d_Top_mend_57 : decode b_Top_mend 57 = .ok (.iload 4, 2) := by decide +kernel
theorem d_Top_mend_59 : decode b_Top_mend 59 = .ok (.iload 5, 2) := by decide +kernel
theorem d_Top_mend_61 : decode b_Top_mend 61 = .ok (.iload_n 3, 1) := by decide +kernel
theorem d_Top_mend_62 : decode b_Top_mend 62 = .ok (.invokevirtual 131, 3) := by decide +kernel
theorem d_Top_mend_65 : decode b_Top_mend 65 = .ok (.iload 5, 2) := by decide +kernel
theorem d_Top_mend_67 : decode b_Top_mend 67 = .ok (.ireturn, 1) := by decide +kernel
theorem d_Basket_stateOf_0 : decode b_Basket_stateOf 0 = .ok (.aload_n 0, 1) := by decide +kernel
theorem d_Basket_stateOf_1 : decode b_Basket_stateOf 1 = .ok (.iload_n 1, 1) := by decide +kernel
theorem d_Basket_stateOf_2 : decode b_Basket_stateOf 2 = .ok (.invokevirtual 49, 3) := by decide +kernel
theorem d_Basket_stateOf_5 : decode b_Basket_stateOf 5 = .ok (.ifCond .ne 5, 3) := by decide +kernel
theorem d_Basket_stateOf_8 : decode b_Basket_stateOf 8 = .ok (.iconst (-1), 1) := by decide +kernel
theorem d_Basket_stateOf_9 : decode b_Basket_stateOf 9 = .ok (.ireturn, 1) := by decide +kernel
theorem d_Basket_stateOf_10 : decode b_Basket_stateOf 10 = .ok (.iload_n 2, 1) := by decide +kernel
theorem d_Basket_stateOf_11 : decode b_Basket_stateOf 11 = .ok (.bipush 12, 2) := by decide +kernel
theorem d_Basket_stateOf_13 : decode b_Basket_stateOf 13 = .ok (.if_icmp .ne 10, 3) := by decide +kernel
theorem d_Basket_stateOf_16 : decode b_Basket_stateOf 16 = .ok (.aload_n 0, 1) := by decide +kernel
theorem d_Basket_stateOf_17 : decode b_Basket_stateOf 17 = .ok (.getfield 15, 3) := by decide +kernel
theorem d_Basket_stateOf_20 : decode b_Basket_stateOf 20 = .ok (.iload_n 1, 1) := by decide +kernel
theorem d_Basket_stateOf_21 : decode b_Basket_stateOf 21 = .ok (.iaload, 1) := by decide +kernel
theorem d_Basket_stateOf_22 : decode b_Basket_stateOf 22 = .ok (.ireturn, 1) := by decide +kernel
theorem d_Basket_stateOf_23 : decode b_Basket_stateOf 23 = .ok (.aload_n 0, 1) := by decide +kernel
theorem d_Basket_stateOf_24 : decode b_Basket_stateOf 24 = .ok (.getfield 18, 3) := by decide +kernel
theorem d_Basket_stateOf_27 : decode b_Basket_stateOf 27 = .ok (.iload_n 1, 1) := by decide +kernel
theorem d_Basket_stateOf_28 : decode b_Basket_stateOf 28 = .ok (.baload, 1) := by decide +kernel
theorem d_Basket_stateOf_29 : decode b_Basket_stateOf 29 = .ok (.ifCond .eq 7, 3) := by decide +kernel
theorem d_Basket_stateOf_32 : decode b_Basket_stateOf 32 = .ok (.iconst 1, 1) := by decide +kernel
theorem d_Basket_stateOf_33 : decode b_Basket_stateOf 33 = .ok (.goto 4, 3) := by decide +kernel
theorem d_Basket_stateOf_36 : decode b_Basket_stateOf 36 = .ok (.iconst 0, 1) := by decide +kernel
theorem d_Basket_stateOf_37 : decode b_Basket_stateOf 37 = .ok (.ireturn, 1) := by decide +kernel
theorem d_Top_of_0 : decode b_Top_of 0 = .ok (.iload_n 2, 1) := by decide +kernel
theorem d_Top_of_1 : decode b_Top_of 1 = .ok (.bipush 12, 2) := by decide +kernel
theorem d_Top_of_3 : decode b_Top_of 3 = .ok (.if_icmp .eq 9, 3) := by decide +kernel
theorem d_Top_of_6 : decode b_Top_of 6 = .ok (.iload_n 2, 1) := by decide +kernel
theorem d_Top_of_7 : decode b_Top_of 7 = .ok (.bipush 13, 2) := by decide +kernel
theorem d_Top_of_9 : decode b_Top_of 9 = .ok (.if_icmp .ne 28, 3) := by decide +kernel
theorem d_Top_of_12 : decode b_Top_of 12 = .ok (.aload_n 0, 1) := by decide +kernel
theorem d_Top_of_13 : decode b_Top_of 13 = .ok (.getfield 10, 3) := by decide +kernel
theorem d_Top_of_16 : decode b_Top_of 16 = .ok (.iload_n 1, 1) := by decide +kernel
theorem d_Top_of_17 : decode b_Top_of 17 = .ok (.invokevirtual 134, 3) := by decide +kernel
theorem d_Top_of_20 : decode b_Top_of 20 = .ok (.ifCond .eq 15, 3) := by decide +kernel
theorem d_Top_of_23 : decode b_Top_of 23 = .ok (.aload_n 0, 1) := by decide +kernel
theorem d_Top_of_24 : decode b_Top_of 24 = .ok (.getfield 10, 3) := by decide +kernel
theorem d_Top_of_27 : decode b_Top_of 27 = .ok (.iload_n 1, 1) := by decide +kernel
theorem d_Top_of_28 : decode b_Top_of 28 = .ok (.iload_n 2, 1) := by decide +kernel
theorem d_Top_of_29 : decode b_Top_of 29 = .ok (.invokevirtual 137, 3) := by decide +kernel
theorem d_Top_of_32 : decode b_Top_of 32 = .ok (.goto 4, 3) := by decide +kernel
theorem d_Top_of_35 : decode b_Top_of 35 = .ok (.iconst (-1), 1) := by decide +kernel
theorem d_Top_of_36 : decode b_Top_of 36 = .ok (.ireturn, 1) := by decide +kernel
theorem d_Top_of_37 : decode b_Top_of 37 = .ok (.aload_n 0, 1) := by decide +kernel
theorem d_Top_of_38 : decode b_Top_of 38 = .ok (.getfield 10, 3) := by decide +kernel
theorem d_Top_of_41 : decode b_Top_of 41 = .ok (.iload_n 1, 1) := by decide +kernel
theorem d_Top_of_42 : decode b_Top_of 42 = .ok (.iload_n 2, 1) := by decide +kernel
theorem d_Top_of_43 : decode b_Top_of 43 = .ok (.invokevirtual 120, 3) := by decide +kernel
theorem d_Top_of_46 : decode b_Top_of 46 = .ok (.istore_n 3, 1) := by decide +kernel
theorem d_Top_of_47 : decode b_Top_of 47 = .ok (.iload_n 3, 1) := by decide +kernel
theorem d_Top_of_48 : decode b_Top_of 48 = .ok (.ifCond .ge 7, 3) := by decide +kernel
theorem d_Top_of_51 : decode b_Top_of 51 = .ok (.iconst (-1), 1) := by decide +kernel
theorem d_Top_of_52 : decode b_Top_of 52 = .ok (.goto 11, 3) := by decide +kernel
theorem d_Top_of_55 : decode b_Top_of 55 = .ok (.aload_n 0, 1) := by decide +kernel
theorem d_Top_of_56 : decode b_Top_of 56 = .ok (.getfield 10, 3) := by decide +kernel
theorem d_Top_of_59 : decode b_Top_of 59 = .ok (.iload_n 3, 1) := by decide +kernel
theorem d_Top_of_60 : decode b_Top_of 60 = .ok (.invokevirtual 123, 3) := by decide +kernel
theorem d_Top_of_63 : decode b_Top_of 63 = .ok (.ireturn, 1) := by decide +kernel
theorem d_Rope_arrange_0 : decode b_Rope_arrange 0 = .ok (.iload_n 3, 1) := by decide +kernel
theorem d_Rope_arrange_1 : decode b_Rope_arrange 1 = .ok (.aload_n 0, 1) := by decide +kernel
theorem d_Rope_arrange_2 : decode b_Rope_arrange 2 = .ok (.getfield 53, 3) := by decide +kernel
theorem d_Rope_arrange_5 : decode b_Rope_arrange 5 = .ok (.if_icmp .ge 9, 3) := by decide +kernel
theorem d_Rope_arrange_8 : decode b_Rope_arrange 8 = .ok (.iload_n 2, 1) := by decide +kernel
theorem d_Rope_arrange_9 : decode b_Rope_arrange 9 = .ok (.bipush 6, 2) := by decide +kernel
theorem d_Rope_arrange_11 : decode b_Rope_arrange 11 = .ok (.if_icmp .le 4, 3) := by decide +kernel
theorem d_Rope_arrange_14 : decode b_Rope_arrange 14 = .ok (.return_, 1) := by decide +kernel
theorem d_Rope_arrange_15 : decode b_Rope_arrange 15 = .ok (.iload_n 1, 1) := by decide +kernel
theorem d_Rope_arrange_16 : decode b_Rope_arrange 16 = .ok (.ifCond .ne 23, 3) := by decide +kernel
theorem d_Rope_arrange_19 : decode b_Rope_arrange 19 = .ok (.aload_n 0, 1) := by decide +kernel
theorem d_Rope_arrange_20 : decode b_Rope_arrange 20 = .ok (.iload_n 3, 1) := by decide +kernel
theorem d_Rope_arrange_21 : decode b_Rope_arrange 21 = .ok (.putfield 53, 3) := by decide +kernel
theorem d_Rope_arrange_24 : decode b_Rope_arrange 24 = .ok (.aload_n 0, 1) := by decide +kernel
theorem d_Rope_arrange_25 : decode b_Rope_arrange 25 = .ok (.getfield 11, 3) := by decide +kernel
theorem d_Rope_arrange_28 : decode b_Rope_arrange 28 = .ok (.iconst 0, 1) := by decide +kernel
theorem d_Rope_arrange_29 : decode b_Rope_arrange 29 = .ok (.aload_n 0, 1) := by decide +kernel
theorem d_Rope_arrange_30 : decode b_Rope_arrange 30 = .ok (.getfield 23, 3) := by decide +kernel
theorem d_Rope_arrange_33 : decode b_Rope_arrange 33 = .ok (.iconst 0, 1) := by decide +kernel
theorem d_Rope_arrange_34 : decode b_Rope_arrange 34 = .ok (.iload_n 2, 1) := by decide +kernel
theorem d_Rope_arrange_35 : decode b_Rope_arrange 35 = .ok (.invokestatic 60, 3) := by decide +kernel
theorem d_Rope_arrange_38 : decode b_Rope_arrange 38 = .ok (.return_, 1) := by decide +kernel
theorem d_Rope_arrange_39 : decode b_Rope_arrange 39 = .ok (.iconst 0, 1) := by decide +kernel
theorem d_Rope_arrange_40 : decode b_Rope_arrange 40 = .ok (.istore 4, 2) := by decide +kernel
theorem d_Rope_arrange_42 : decode b_Rope_arrange 42 = .ok (.iload 4, 2) := by decide +kernel
theorem d_Rope_arrange_44 : decode b_Rope_arrange 44 = .ok (.aload_n 0, 1) := by decide +kernel
theorem d_Rope_arrange_45 : decode b_Rope_arrange 45 = .ok (.getfield 26, 3) := by decide +kernel
theorem d_Rope_arrange_48 : decode b_Rope_arrange 48 = .ok (.getfield 34, 3) := by decide +kernel
theorem d_Rope_arrange_51 : decode b_Rope_arrange 51 = .ok (.if_icmp .ge 53, 3) := by decide +kernel
theorem d_Rope_arrange_54 : decode b_Rope_arrange 54 = .ok (.iload_n 1, 1) := by decide +kernel
theorem d_Rope_arrange_55 : decode b_Rope_arrange 55 = .ok (.iload 4, 2) := by decide +kernel
theorem d_Rope_arrange_57 : decode b_Rope_arrange 57 = .ok (.invokestatic 39, 3) := by decide +kernel
theorem d_Rope_arrange_60 : decode b_Rope_arrange 60 = .ok (.ifCond .eq 38, 3) := by decide +kernel
theorem d_Rope_arrange_63 : decode b_Rope_arrange 63 = .ok (.aload_n 0, 1) := by decide +kernel
theorem d_Rope_arrange_64 : decode b_Rope_arrange 64 = .ok (.iload 4, 2) := by decide +kernel
theorem d_Rope_arrange_66 : decode b_Rope_arrange 66 = .ok (.iload_n 2, 1) := by decide +kernel
theorem d_Rope_arrange_67 : decode b_Rope_arrange 67 = .ok (.invokevirtual 43, 3) := by decide +kernel
theorem d_Rope_arrange_70 : decode b_Rope_arrange 70 = .ok (.ifCond .eq 28, 3) := by decide +kernel
theorem d_Rope_arrange_73 : decode b_Rope_arrange 73 = .ok (.aload_n 0, 1) := by decide +kernel
theorem d_Rope_arrange_74 : decode b_Rope_arrange 74 = .ok (.iload_n 1, 1) := by decide +kernel
theorem d_Rope_arrange_75 : decode b_Rope_arrange 75 = .ok (.iconst 1, 1) := by decide +kernel
theorem d_Rope_arrange_76 : decode b_Rope_arrange 76 = .ok (.iload 4, 2) := by decide +kernel
theorem d_Rope_arrange_78 : decode b_Rope_arrange 78 = .ok (.ishl, 1) := by decide +kernel
theorem d_Rope_arrange_79 : decode b_Rope_arrange 79 = .ok (.iconst (-1), 1) := by decide +kernel
theorem d_Rope_arrange_80 : decode b_Rope_arrange 80 = .ok (.ixor, 1) := by decide +kernel
theorem d_Rope_arrange_81 : decode b_Rope_arrange 81 = .ok (.iand, 1) := by decide +kernel
theorem d_Rope_arrange_82 : decode b_Rope_arrange 82 = .ok (.iload_n 2, 1) := by decide +kernel
theorem d_Rope_arrange_83 : decode b_Rope_arrange 83 = .ok (.iconst 1, 1) := by decide +kernel
theorem d_Rope_arrange_84 : decode b_Rope_arrange 84 = .ok (.iadd, 1) := by decide +kernel
theorem d_Rope_arrange_85 : decode b_Rope_arrange 85 = .ok (.iload_n 3, 1) := by decide +kernel
theorem d_Rope_arrange_86 : decode b_Rope_arrange 86 = .ok (.aload_n 0, 1) := by decide +kernel
theorem d_Rope_arrange_87 : decode b_Rope_arrange 87 = .ok (.getfield 20, 3) := by decide +kernel
theorem d_Rope_arrange_90 : decode b_Rope_arrange 90 = .ok (.iload_n 2, 1) := by decide +kernel
theorem d_Rope_arrange_91 : decode b_Rope_arrange 91 = .ok (.iaload, 1) := by decide +kernel
theorem d_Rope_arrange_92 : decode b_Rope_arrange 92 = .ok (.invokestatic 46, 3) := by decide +kernel
theorem d_Rope_arrange_95 : decode b_Rope_arrange 95 = .ok (.invokevirtual 56, 3) := by decide +kernel
theorem d_Rope_arrange_98 : decode b_Rope_arrange 98 = .ok (.iinc 4 1, 3) := by decide +kernel
theorem d_Rope_arrange_101 : decode b_Rope_arrange 101 = .ok (.goto (-59), 3) := by decide +kernel
theorem d_Rope_arrange_104 : decode b_Rope_arrange 104 = .ok (.return_, 1) := by decide +kernel
theorem d_Rope_findOrder_0 : decode b_Rope_findOrder 0 = .ok (.aload_n 0, 1) := by decide +kernel
theorem d_Rope_findOrder_1 : decode b_Rope_findOrder 1 = .ok (.ldc 52, 2) := by decide +kernel
theorem d_Rope_findOrder_3 : decode b_Rope_findOrder 3 = .ok (.putfield 53, 3) := by decide +kernel
theorem d_Rope_findOrder_6 : decode b_Rope_findOrder 6 = .ok (.aload_n 0, 1) := by decide +kernel
theorem d_Rope_findOrder_7 : decode b_Rope_findOrder 7 = .ok (.iload_n 1, 1) := by decide +kernel
theorem d_Rope_findOrder_8 : decode b_Rope_findOrder 8 = .ok (.iconst 0, 1) := by decide +kernel
theorem d_Rope_findOrder_9 : decode b_Rope_findOrder 9 = .ok (.iconst 0, 1) := by decide +kernel
theorem d_Rope_findOrder_10 : decode b_Rope_findOrder 10 = .ok (.invokevirtual 56, 3) := by decide +kernel
theorem d_Rope_findOrder_13 : decode b_Rope_findOrder 13 = .ok (.aload_n 0, 1) := by decide +kernel
theorem d_Rope_findOrder_14 : decode b_Rope_findOrder 14 = .ok (.getfield 53, 3) := by decide +kernel
theorem d_Rope_findOrder_17 : decode b_Rope_findOrder 17 = .ok (.ldc 52, 2) := by decide +kernel
theorem d_Rope_findOrder_19 : decode b_Rope_findOrder 19 = .ok (.if_icmp .eq 7, 3) := by decide +kernel
theorem d_Rope_findOrder_22 : decode b_Rope_findOrder 22 = .ok (.iconst 1, 1) := by decide +kernel
theorem d_Rope_findOrder_23 : decode b_Rope_findOrder 23 = .ok (.goto 4, 3) := by decide +kernel
theorem d_Rope_findOrder_26 : decode b_Rope_findOrder 26 = .ok (.iconst 0, 1) := by decide +kernel
theorem d_Rope_findOrder_27 : decode b_Rope_findOrder 27 = .ok (.ireturn, 1) := by decide +kernel
theorem d_Top_order_0 : decode b_Top_order 0 = .ok (.aload_n 0, 1) := by decide +kernel
theorem d_Top_order_1 : decode b_Top_order 1 = .ok (.iload_n 1, 1) := by decide +kernel
theorem d_Top_order_2 : decode b_Top_order 2 = .ok (.invokevirtual 160, 3) := by decide +kernel
theorem d_Top_order_5 : decode b_Top_order 5 = .ok (.ifCond .eq 8, 3) := by decide +kernel
theorem d_Top_order_8 : decode b_Top_order 8 = .ok (.iload_n 2, 1) := by decide +kernel
theorem d_Top_order_9 : decode b_Top_order 9 = .ok (.iconst (-1), 1) := by decide +kernel
theorem d_Top_order_10 : decode b_Top_order 10 = .ok (.if_icmp .ge 5, 3) := by decide +kernel
theorem d_Top_order_13 : decode b_Top_order 13 = .ok (.iconst (-1), 1) := by decide +kernel
theorem d_Top_order_14 : decode b_Top_order 14 = .ok (.ireturn, 1) := by decide +kernel
theorem d_Top_order_15 : decode b_Top_order 15 = .ok (.iload_n 1, 1) := by decide +kernel
theorem d_Top_order_16 : decode b_Top_order 16 = .ok (.invokestatic 210, 3) := by decide +kernel
theorem d_Top_order_19 : decode b_Top_order 19 = .ok (.istore_n 3, 1) := by decide +kernel
theorem d_Top_order_20 : decode b_Top_order 20 = .ok (.iload_n 3, 1) := by decide +kernel
theorem d_Top_order_21 : decode b_Top_order 21 = .ok (.bipush 6, 2) := by decide +kernel
theorem d_Top_order_23 : decode b_Top_order 23 = .ok (.if_icmp .le 6, 3) := by decide +kernel
theorem d_Top_order_26 : decode b_Top_order 26 = .ok (.bipush (-5), 2) := by decide +kernel
theorem d_Top_order_28 : decode b_Top_order 28 = .ok (.ireturn, 1) := by decide +kernel
theorem d_Top_order_29 : decode b_Top_order 29 = .ok (.iload_n 2, 1) := by decide +kernel
theorem d_Top_order_30 : decode b_Top_order 30 = .ok (.iload_n 3, 1) := by decide +kernel
theorem d_Top_order_31 : decode b_Top_order 31 = .ok (.if_icmp .ge 14, 3) := by decide +kernel
theorem d_Top_order_34 : decode b_Top_order 34 = .ok (.aload_n 0, 1) := by decide +kernel
theorem d_Top_order_35 : decode b_Top_order 35 = .ok (.getfield 60, 3) := by decide +kernel
theorem d_Top_order_38 : decode b_Top_order 38 = .ok (.iload_n 1, 1) := by decide +kernel
theorem d_Top_order_39 : decode b_Top_order 39 = .ok (.invokevirtual 271, 3) := by decide +kernel
theorem d_Top_order_42 : decode b_Top_order 42 = .ok (.ifCond .ne 6, 3) := by decide +kernel
theorem d_Top_order_45 : decode b_Top_order 45 = .ok (.bipush (-2), 2) := by decide +kernel
theorem d_Top_order_47 : decode b_Top_order 47 = .ok (.ireturn, 1) := by decide +kernel
theorem d_Top_order_48 : decode b_Top_order 48 = .ok (.iload_n 2, 1) := by decide +kernel
theorem d_Top_order_49 : decode b_Top_order 49 = .ok (.iconst (-1), 1) := by decide +kernel
theorem d_Top_order_50 : decode b_Top_order 50 = .ok (.if_icmp .ne 13, 3) := by decide +kernel
theorem d_Top_order_53 : decode b_Top_order 53 = .ok (.aload_n 0, 1) := by decide +kernel
theorem d_Top_order_54 : decode b_Top_order 54 = .ok (.getfield 60, 3) := by decide +kernel
theorem d_Top_order_57 : decode b_Top_order 57 = .ok (.getfield 274, 3) := by decide +kernel
theorem d_Top_order_60 : decode b_Top_order 60 = .ok (.goto 12, 3) := by decide +kernel
theorem d_Top_order_63 : decode b_Top_order 63 = .ok (.aload_n 0, 1) := by decide +kernel
theorem d_Top_order_64 : decode b_Top_order 64 = .ok (.getfield 60, 3) := by decide +kernel
theorem d_Top_order_67 : decode b_Top_order 67 = .ok (.getfield 277, 3) := by decide +kernel
theorem d_Top_order_70 : decode b_Top_order 70 = .ok (.iload_n 2, 1) := by decide +kernel
theorem d_Top_order_71 : decode b_Top_order 71 = .ok (.iaload, 1) := by decide +kernel
theorem d_Top_order_72 : decode b_Top_order 72 = .ok (.ireturn, 1) := by decide +kernel
theorem d_Shelf_lowest_0 : decode b_Shelf_lowest 0 = .ok (.aload_n 0, 1) := by decide +kernel
theorem d_Shelf_lowest_1 : decode b_Shelf_lowest 1 = .ok (.getfield 15, 3) := by decide +kernel
theorem d_Shelf_lowest_4 : decode b_Shelf_lowest 4 = .ok (.tableswitch 62 0 4 #[36, 41, 46, 62, 50], 36) := by decide +kernel
theorem d_Shelf_lowest_40 : decode b_Shelf_lowest 40 = .ok (.lload_n 1, 1) := by decide +kernel
theorem d_Shelf_lowest_41 : decode b_Shelf_lowest 41 = .ok (.l2i, 1) := by decide +kernel
theorem d_Shelf_lowest_42 : decode b_Shelf_lowest 42 = .ok (.i2b, 1) := by decide +kernel
theorem d_Shelf_lowest_43 : decode b_Shelf_lowest 43 = .ok (.i2l, 1) := by decide +kernel
theorem d_Shelf_lowest_44 : decode b_Shelf_lowest 44 = .ok (.lreturn, 1) := by decide +kernel
theorem d_Shelf_lowest_45 : decode b_Shelf_lowest 45 = .ok (.lload_n 1, 1) := by decide +kernel
theorem d_Shelf_lowest_46 : decode b_Shelf_lowest 46 = .ok (.l2i, 1) := by decide +kernel
theorem d_Shelf_lowest_47 : decode b_Shelf_lowest 47 = .ok (.i2s, 1) := by decide +kernel
theorem d_Shelf_lowest_48 : decode b_Shelf_lowest 48 = .ok (.i2l, 1) := by decide +kernel
theorem d_Shelf_lowest_49 : decode b_Shelf_lowest 49 = .ok (.lreturn, 1) := by decide +kernel
theorem d_Shelf_lowest_50 : decode b_Shelf_lowest 50 = .ok (.lload_n 1, 1) := by decide +kernel
theorem d_Shelf_lowest_51 : decode b_Shelf_lowest 51 = .ok (.l2i, 1) := by decide +kernel
theorem d_Shelf_lowest_52 : decode b_Shelf_lowest 52 = .ok (.i2l, 1) := by decide +kernel
theorem d_Shelf_lowest_53 : decode b_Shelf_lowest 53 = .ok (.lreturn, 1) := by decide +kernel
theorem d_Shelf_lowest_54 : decode b_Shelf_lowest 54 = .ok (.lload_n 1, 1) := by decide +kernel
theorem d_Shelf_lowest_55 : decode b_Shelf_lowest 55 = .ok (.lconst 0, 1) := by decide +kernel
theorem d_Shelf_lowest_56 : decode b_Shelf_lowest 56 = .ok (.lcmp, 1) := by decide +kernel
theorem d_Shelf_lowest_57 : decode b_Shelf_lowest 57 = .ok (.ifCond .ne 7, 3) := by decide +kernel
theorem d_Shelf_lowest_60 : decode b_Shelf_lowest 60 = .ok (.lconst 0, 1) := by decide +kernel
theorem d_Shelf_lowest_61 : decode b_Shelf_lowest 61 = .ok (.goto 4, 3) := by decide +kernel
theorem d_Shelf_lowest_64 : decode b_Shelf_lowest 64 = .ok (.lconst 1, 1) := by decide +kernel
theorem d_Shelf_lowest_65 : decode b_Shelf_lowest 65 = .ok (.lreturn, 1) := by decide +kernel
theorem d_Shelf_lowest_66 : decode b_Shelf_lowest 66 = .ok (.lload_n 1, 1) := by decide +kernel
theorem d_Shelf_lowest_67 : decode b_Shelf_lowest 67 = .ok (.lreturn, 1) := by decide +kernel
theorem d_Shelf_write_0 : decode b_Shelf_write 0 = .ok (.aload_n 0, 1) := by decide +kernel
theorem d_Shelf_write_1 : decode b_Shelf_write 1 = .ok (.iload_n 1, 1) := by decide +kernel
theorem d_Shelf_write_2 : decode b_Shelf_write 2 = .ok (.invokevirtual 42, 3) := by decide +kernel
theorem d_Shelf_write_5 : decode b_Shelf_write 5 = .ok (.ifCond .eq 14, 3) := by decide +kernel
theorem d_Shelf_write_8 : decode b_Shelf_write 8 = .ok (.aload_n 0, 1) := by decide +kernel
theorem d_Shelf_write_9 : decode b_Shelf_write 9 = .ok (.getfield 11, 3) := by decide +kernel
theorem d_Shelf_write_12 : decode b_Shelf_write 12 = .ok (.iload_n 1, 1) := by decide +kernel
theorem d_Shelf_write_13 : decode b_Shelf_write 13 = .ok (.aload_n 0, 1) := by decide +kernel
theorem d_Shelf_write_14 : decode b_Shelf_write 14 = .ok (.lload_n 2, 1) := by decide +kernel
theorem d_Shelf_write_15 : decode b_Shelf_write 15 = .ok (.invokevirtual 46, 3) := by decide +kernel
theorem d_Shelf_write_18 : decode b_Shelf_write 18 = .ok (.lastore, 1) := by decide +kernel
theorem d_Shelf_write_19 : decode b_Shelf_write 19 = .ok (.return_, 1) := by decide +kernel
theorem d_Top_put_0 : decode b_Top_put 0 = .ok (.aload_n 0, 1) := by decide +kernel
theorem d_Top_put_1 : decode b_Top_put 1 = .ok (.iload_n 1, 1) := by decide +kernel
theorem d_Top_put_2 : decode b_Top_put 2 = .ok (.iload_n 2, 1) := by decide +kernel
theorem d_Top_put_3 : decode b_Top_put 3 = .ok (.invokevirtual 354, 3) := by decide +kernel
theorem d_Top_put_6 : decode b_Top_put 6 = .ok (.istore 5, 2) := by decide +kernel
theorem d_Top_put_8 : decode b_Top_put 8 = .ok (.iload 5, 2) := by decide +kernel
theorem d_Top_put_10 : decode b_Top_put 10 = .ok (.ifCond .eq 6, 3) := by decide +kernel
theorem d_Top_put_13 : decode b_Top_put 13 = .ok (.iload 5, 2) := by decide +kernel
theorem d_Top_put_15 : decode b_Top_put 15 = .ok (.ireturn, 1) := by decide +kernel
theorem d_Top_put_16 : decode b_Top_put 16 = .ok (.aload_n 0, 1) := by decide +kernel
theorem d_Top_put_17 : decode b_Top_put 17 = .ok (.getfield 87, 3) := by decide +kernel
theorem d_Top_put_20 : decode b_Top_put 20 = .ok (.iload_n 1, 1) := by decide +kernel
theorem d_Top_put_21 : decode b_Top_put 21 = .ok (.aaload, 1) := by decide +kernel
theorem d_Top_put_22 : decode b_Top_put 22 = .ok (.iload_n 2, 1) := by decide +kernel
theorem d_Top_put_23 : decode b_Top_put 23 = .ok (.lload_n 3, 1) := by decide +kernel
theorem d_Top_put_24 : decode b_Top_put 24 = .ok (.invokevirtual 357, 3) := by decide +kernel
theorem d_Top_put_27 : decode b_Top_put 27 = .ok (.iconst 1, 1) := by decide +kernel
theorem d_Top_put_28 : decode b_Top_put 28 = .ok (.ireturn, 1) := by decide +kernel
theorem d_Rope_hangingAt_0 : decode b_Rope_hangingAt 0 = .ok (.iconst 0, 1) := by decide +kernel
theorem d_Rope_hangingAt_1 : decode b_Rope_hangingAt 1 = .ok (.istore_n 2, 1) := by decide +kernel
theorem d_Rope_hangingAt_2 : decode b_Rope_hangingAt 2 = .ok (.iconst 0, 1) := by decide +kernel
theorem d_Rope_hangingAt_3 : decode b_Rope_hangingAt 3 = .ok (.istore_n 3, 1) := by decide +kernel
theorem d_Rope_hangingAt_4 : decode b_Rope_hangingAt 4 = .ok (.iload_n 3, 1) := by decide +kernel
theorem d_Rope_hangingAt_5 : decode b_Rope_hangingAt 5 = .ok (.aload_n 0, 1) := by decide +kernel
theorem d_Rope_hangingAt_6 : decode b_Rope_hangingAt 6 = .ok (.getfield 30, 3) := by decide +kernel
theorem d_Rope_hangingAt_9 : decode b_Rope_hangingAt 9 = .ok (.if_icmp .ge 40, 3) := by decide +kernel
theorem d_Rope_hangingAt_12 : decode b_Rope_hangingAt 12 = .ok (.aload_n 0, 1) := by decide +kernel
theorem d_Rope_hangingAt_13 : decode b_Rope_hangingAt 13 = .ok (.getfield 17, 3) := by decide +kernel
theorem d_Rope_hangingAt_16 : decode b_Rope_hangingAt 16 = .ok (.iload_n 3, 1) := by decide +kernel
theorem d_Rope_hangingAt_17 : decode b_Rope_hangingAt 17 = .ok (.iaload, 1) := by decide +kernel
theorem d_Rope_hangingAt_18 : decode b_Rope_hangingAt 18 = .ok (.iload_n 1, 1) := by decide +kernel
theorem d_Rope_hangingAt_19 : decode b_Rope_hangingAt 19 = .ok (.if_icmp .gt 24, 3) := by decide +kernel
theorem d_Rope_hangingAt_22 : decode b_Rope_hangingAt 22 = .ok (.iload_n 1, 1) := by decide +kernel
theorem d_Rope_hangingAt_23 : decode b_Rope_hangingAt 23 = .ok (.aload_n 0, 1) := by decide +kernel
theorem d_Rope_hangingAt_24 : decode b_Rope_hangingAt 24 = .ok (.getfield 20, 3) := by decide +kernel
theorem d_Rope_hangingAt_27 : decode b_Rope_hangingAt 27 = .ok (.iload_n 3, 1) := by decide +kernel
theorem d_Rope_hangingAt_28 : decode b_Rope_hangingAt 28 = .ok (.iaload, 1) := by decide +kernel
theorem d_Rope_hangingAt_29 : decode b_Rope_hangingAt 29 = .ok (.if_icmp .ge 14, 3) := by decide +kernel
theorem d_Rope_hangingAt_32 : decode b_Rope_hangingAt 32 = .ok (.iload_n 2, 1) := by decide +kernel
theorem d_Rope_hangingAt_33 : decode b_Rope_hangingAt 33 = .ok (.iconst 1, 1) := by decide +kernel
theorem d_Rope_hangingAt_34 : decode b_Rope_hangingAt 34 = .ok (.aload_n 0, 1) := by decide +kernel
theorem d_Rope_hangingAt_35 : decode b_Rope_hangingAt 35 = .ok (.getfield 11, 3) := by decide +kernel
theorem d_Rope_hangingAt_38 : decode b_Rope_hangingAt 38 = .ok (.iload_n 3, 1) := by decide +kernel
theorem d_Rope_hangingAt_39 : decode b_Rope_hangingAt 39 = .ok (.iaload, 1) := by decide +kernel
theorem d_Rope_hangingAt_40 : decode b_Rope_hangingAt 40 = .ok (.ishl, 1) := by decide +kernel
theorem d_Rope_hangingAt_41 : decode b_Rope_hangingAt 41 = .ok (.ior, 1) := by decide +kernel
theorem d_Rope_hangingAt_42 : decode b_Rope_hangingAt 42 = .ok (.istore_n 2, 1) := by decide +kernel
theorem d_Rope_hangingAt_43 : decode b_Rope_hangingAt 43 = .ok (.iinc 3 1, 3) := by decide +kernel
theorem d_Rope_hangingAt_46 : decode b_Rope_hangingAt 46 = .ok (.goto (-42), 3) := by decide +kernel
theorem d_Rope_hangingAt_49 : decode b_Rope_hangingAt 49 = .ok (.iload_n 2, 1) := by decide +kernel
theorem d_Rope_hangingAt_50 : decode b_Rope_hangingAt 50 = .ok (.ireturn, 1) := by decide +kernel
theorem d_Top_rain_0 : decode b_Top_rain 0 = .ok (.aload_n 0, 1) := by decide +kernel
theorem d_Top_rain_1 : decode b_Top_rain 1 = .ok (.iload_n 1, 1) := by decide +kernel
theorem d_Top_rain_2 : decode b_Top_rain 2 = .ok (.invokevirtual 160, 3) := by decide +kernel
theorem d_Top_rain_5 : decode b_Top_rain 5 = .ok (.ifCond .eq 14, 3) := by decide +kernel
theorem d_Top_rain_8 : decode b_Top_rain 8 = .ok (.iload_n 2, 1) := by decide +kernel
theorem d_Top_rain_9 : decode b_Top_rain 9 = .ok (.iconst 0, 1) := by decide +kernel
theorem d_Top_rain_10 : decode b_Top_rain 10 = .ok (.sipush 999, 3) := by decide +kernel
theorem d_Top_rain_13 : decode b_Top_rain 13 = .ok (.invokestatic 108, 3) := by decide +kernel
theorem d_Top_rain_16 : decode b_Top_rain 16 = .ok (.ifCond .ne 5, 3) := by decide +kernel
theorem d_Top_rain_19 : decode b_Top_rain 19 = .ok (.iconst (-1), 1) := by decide +kernel
theorem d_Top_rain_20 : decode b_Top_rain 20 = .ok (.ireturn, 1) := by decide +kernel
theorem d_Top_rain_21 : decode b_Top_rain 21 = .ok (.aload_n 0, 1) := by decide +kernel
theorem d_Top_rain_22 : decode b_Top_rain 22 = .ok (.getfield 60, 3) := by decide +kernel
theorem d_Top_rain_25 : decode b_Top_rain 25 = .ok (.iload_n 1, 1) := by decide +kernel
theorem d_Top_rain_26 : decode b_Top_rain 26 = .ok (.invokevirtual 249, 3) := by decide +kernel
theorem d_Top_rain_29 : decode b_Top_rain 29 = .ok (.aload_n 0, 1) := by decide +kernel
theorem d_Top_rain_30 : decode b_Top_rain 30 = .ok (.getfield 60, 3) := by decide +kernel
theorem d_Top_rain_33 : decode b_Top_rain 33 = .ok (.iload_n 2, 1) := by decide +kernel
theorem d_Top_rain_34 : decode b_Top_rain 34 = .ok (.invokevirtual 268, 3) := by decide +kernel
theorem d_Top_rain_37 : decode b_Top_rain 37 = .ok (.ireturn, 1) := by decide +kernel
theorem d_Changes_doAgain_0 : decode b_Changes_doAgain 0 = .ok (.aload_n 0, 1) := by decide +kernel
theorem d_Changes_doAgain_1 : decode b_Changes_doAgain 1 = .ok (.getfield 26, 3) := by decide +kernel
theorem d_Changes_doAgain_4 : decode b_Changes_doAgain 4 = .ok (.ifCond .le 54, 3) := by decide +kernel
theorem d_Changes_doAgain_7 : decode b_Changes_doAgain 7 = .ok (.aload_n 0, 1) := by decide +kernel
theorem d_Changes_doAgain_8 : decode b_Changes_doAgain 8 = .ok (.getfield 19, 3) := by decide +kernel
theorem d_Changes_doAgain_11 : decode b_Changes_doAgain 11 = .ok (.bipush 40, 2) := by decide +kernel
theorem d_Changes_doAgain_13 : decode b_Changes_doAgain 13 = .ok (.if_icmp .ge 45, 3) := by decide +kernel
theorem d_Changes_doAgain_16 : decode b_Changes_doAgain 16 = .ok (.aload_n 1, 1) := by decide +kernel
theorem d_Changes_doAgain_17 : decode b_Changes_doAgain 17 = .ok (.aload_n 0, 1) := by decide +kernel
theorem d_Changes_doAgain_18 : decode b_Changes_doAgain 18 = .ok (.getfield 9, 3) := by decide +kernel
theorem d_Changes_doAgain_21 : decode b_Changes_doAgain 21 = .ok (.aload_n 0, 1) := by decide +kernel
theorem d_Changes_doAgain_22 : decode b_Changes_doAgain 22 = .ok (.getfield 19, 3) := by decide +kernel
theorem d_Changes_doAgain_25 : decode b_Changes_doAgain 25 = .ok (.iaload, 1) := by decide +kernel
theorem d_Changes_doAgain_26 : decode b_Changes_doAgain 26 = .ok (.aload_n 0, 1) := by decide +kernel
theorem d_Changes_doAgain_27 : decode b_Changes_doAgain 27 = .ok (.getfield 16, 3) := by decide +kernel
theorem d_Changes_doAgain_30 : decode b_Changes_doAgain 30 = .ok (.aload_n 0, 1) := by decide +kernel
theorem d_Changes_doAgain_31 : decode b_Changes_doAgain 31 = .ok (.getfield 19, 3) := by decide +kernel
theorem d_Changes_doAgain_34 : decode b_Changes_doAgain 34 = .ok (.iaload, 1) := by decide +kernel
theorem d_Changes_doAgain_35 : decode b_Changes_doAgain 35 = .ok (.invokevirtual 35, 3) := by decide +kernel
theorem d_Changes_doAgain_38 : decode b_Changes_doAgain 38 = .ok (.aload_n 0, 1) := by decide +kernel
theorem d_Changes_doAgain_39 : decode b_Changes_doAgain 39 = .ok (.dup, 1) := by decide +kernel
theorem d_Changes_doAgain_40 : decode b_Changes_doAgain 40 = .ok (.getfield 19, 3) := by decide +kernel
theorem d_Changes_doAgain_43 : decode b_Changes_doAgain 43 = .ok (.iconst 1, 1) := by decide +kernel
theorem d_Changes_doAgain_44 : decode b_Changes_doAgain 44 = .ok (.iadd, 1) := by decide +kernel
theorem d_Changes_doAgain_45 : decode b_Changes_doAgain 45 = .ok (.putfield 19, 3) := by decide +kernel
theorem d_Changes_doAgain_48 : decode b_Changes_doAgain 48 = .ok (.aload_n 0, 1) := by decide +kernel
theorem d_Changes_doAgain_49 : decode b_Changes_doAgain 49 = .ok (.dup, 1) := by decide +kernel
theorem d_Changes_doAgain_50 : decode b_Changes_doAgain 50 = .ok (.getfield 26, 3) := by decide +kernel
theorem d_Changes_doAgain_53 : decode b_Changes_doAgain 53 = .ok (.iconst 1, 1) := by decide +kernel
theorem d_Changes_doAgain_54 : decode b_Changes_doAgain 54 = .ok (.isub, 1) := by decide +kernel
theorem d_Changes_doAgain_55 : decode b_Changes_doAgain 55 = .ok (.putfield 26, 3) := by decide +kernel
theorem d_Changes_doAgain_58 : decode b_Changes_doAgain 58 = .ok (.return_, 1) := by decide +kernel
theorem d_Top_redo_0 : decode b_Top_redo 0 = .ok (.aload_n 0, 1) := by decide +kernel
theorem d_Top_redo_1 : decode b_Top_redo 1 = .ok (.getfield 74, 3) := by decide +kernel
theorem d_Top_redo_4 : decode b_Top_redo 4 = .ok (.getfield 328, 3) := by decide +kernel
theorem d_Top_redo_7 : decode b_Top_redo 7 = .ok (.ifCond .ne 6, 3) := by decide +kernel
theorem d_Top_redo_10 : decode b_Top_redo 10 = .ok (.bipush (-5), 2) := by decide +kernel
theorem d_Top_redo_12 : decode b_Top_redo 12 = .ok (.ireturn, 1) := by decide +kernel
theorem d_Top_redo_13 : decode b_Top_redo 13 = .ok (.aload_n 0, 1) := by decide +kernel
theorem d_Top_redo_14 : decode b_Top_redo 14 = .ok (.getfield 74, 3) := by decide +kernel
theorem d_Top_redo_17 : decode b_Top_redo 17 = .ok (.aload_n 0, 1) := by decide +kernel
theorem d_Top_redo_18 : decode b_Top_redo 18 = .ok (.getfield 10, 3) := by decide +kernel
theorem d_Top_redo_21 : decode b_Top_redo 21 = .ok (.invokevirtual 331, 3) := by decide +kernel
theorem d_Top_redo_24 : decode b_Top_redo 24 = .ok (.aload_n 0, 1) := by decide +kernel
theorem d_Top_redo_25 : decode b_Top_redo 25 = .ok (.getfield 74, 3) := by decide +kernel
theorem d_Top_redo_28 : decode b_Top_redo 28 = .ok (.getfield 328, 3) := by decide +kernel
theorem d_Top_redo_31 : decode b_Top_redo 31 = .ok (.ireturn, 1) := by decide +kernel
theorem d_Shelf_holdRow_0 : decode b_Shelf_holdRow 0 = .ok (.aload_n 0, 1) := by decide +kernel
theorem d_Shelf_holdRow_1 : decode b_Shelf_holdRow 1 = .ok (.iload_n 1, 1) := by decide +kernel
theorem d_Shelf_holdRow_2 : decode b_Shelf_holdRow 2 = .ok (.putfield 15, 3) := by decide +kernel
theorem d_Shelf_holdRow_5 : decode b_Shelf_holdRow 5 = .ok (.aload_n 0, 1) := by decide +kernel
theorem d_Shelf_holdRow_6 : decode b_Shelf_holdRow 6 = .ok (.iconst (-1), 1) := by decide +kernel
theorem d_Shelf_holdRow_7 : decode b_Shelf_holdRow 7 = .ok (.putfield 19, 3) := by decide +kernel
theorem d_Shelf_holdRow_10 : decode b_Shelf_holdRow 10 = .ok (.aload_n 0, 1) := by decide +kernel
theorem d_Shelf_holdRow_11 : decode b_Shelf_holdRow 11 = .ok (.iconst 0, 1) := by decide +kernel
theorem d_Shelf_holdRow_12 : decode b_Shelf_holdRow 12 = .ok (.iload_n 2, 1) := by decide +kernel
theorem d_Shelf_holdRow_13 : decode b_Shelf_holdRow 13 = .ok (.bipush 60, 2) := by decide +kernel
theorem d_Shelf_holdRow_15 : decode b_Shelf_holdRow 15 = .ok (.invokestatic 33, 3) := by decide +kernel
theorem d_Shelf_holdRow_18 : decode b_Shelf_holdRow 18 = .ok (.invokestatic 39, 3) := by decide +kernel
theorem d_Shelf_holdRow_21 : decode b_Shelf_holdRow 21 = .ok (.putfield 26, 3) := by decide +kernel
theorem d_Shelf_holdRow_24 : decode b_Shelf_holdRow 24 = .ok (.iconst 0, 1) := by decide +kernel
theorem d_Shelf_holdRow_25 : decode b_Shelf_holdRow 25 = .ok (.istore_n 3, 1) := by decide +kernel
theorem d_Shelf_holdRow_26 : decode b_Shelf_holdRow 26 = .ok (.iload_n 3, 1) := by decide +kernel
theorem d_Shelf_holdRow_27 : decode b_Shelf_holdRow 27 = .ok (.aload_n 0, 1) := by decide +kernel
theorem d_Shelf_holdRow_28 : decode b_Shelf_holdRow 28 = .ok (.getfield 26, 3) := by decide +kernel
theorem d_Shelf_holdRow_31 : decode b_Shelf_holdRow 31 = .ok (.if_icmp .ge 16, 3) := by decide +kernel
theorem d_Shelf_holdRow_34 : decode b_Shelf_holdRow 34 = .ok (.aload_n 0, 1) := by decide +kernel
theorem d_Shelf_holdRow_35 : decode b_Shelf_holdRow 35 = .ok (.getfield 11, 3) := by decide +kernel
theorem d_Shelf_holdRow_38 : decode b_Shelf_holdRow 38 = .ok (.iload_n 3, 1) := by decide +kernel
theorem d_Shelf_holdRow_39 : decode b_Shelf_holdRow 39 = .ok (.lconst 0, 1) := by decide +kernel
theorem d_Shelf_holdRow_40 : decode b_Shelf_holdRow 40 = .ok (.lastore, 1) := by decide +kernel
theorem d_Shelf_holdRow_41 : decode b_Shelf_holdRow 41 = .ok (.iinc 3 1, 3) := by decide +kernel
theorem d_Shelf_holdRow_44 : decode b_Shelf_holdRow 44 = .ok (.goto (-18), 3) := by decide +kernel
theorem d_Shelf_holdRow_47 : decode b_Shelf_holdRow 47 = .ok (.return_, 1) := by decide +kernel
theorem d_Top_row_0 : decode b_Top_row 0 = .ok (.iload_n 1, 1) := by decide +kernel
theorem d_Top_row_1 : decode b_Top_row 1 = .ok (.invokestatic 104, 3) := by decide +kernel
theorem d_Top_row_4 : decode b_Top_row 4 = .ok (.ifCond .eq 18, 3) := by decide +kernel
theorem d_Top_row_7 : decode b_Top_row 7 = .ok (.iload_n 2, 1) := by decide +kernel
theorem d_Top_row_8 : decode b_Top_row 8 = .ok (.iconst 0, 1) := by decide +kernel
theorem d_Top_row_9 : decode b_Top_row 9 = .ok (.iconst 4, 1) := by decide +kernel
theorem d_Top_row_10 : decode b_Top_row 10 = .ok (.invokestatic 108, 3) := by decide +kernel
theorem d_Top_row_13 : decode b_Top_row 13 = .ok (.ifCond .eq 9, 3) := by decide +kernel
theorem d_Top_row_16 : decode b_Top_row 16 = .ok (.iload_n 3, 1) := by decide +kernel
theorem d_Top_row_17 : decode b_Top_row 17 = .ok (.bipush 60, 2) := by decide +kernel
theorem d_Top_row_19 : decode b_Top_row 19 = .ok (.if_icmp .le 5, 3) := by decide +kernel
theorem d_Top_row_22 : decode b_Top_row 22 = .ok (.iconst (-1), 1) := by decide +kernel
theorem d_Top_row_23 : decode b_Top_row 23 = .ok (.ireturn, 1) := by decide +kernel
theorem d_Top_row_24 : decode b_Top_row 24 = .ok (.iload_n 3, 1) := by decide +kernel
theorem d_Top_row_25 : decode b_Top_row 25 = .ok (.ifCond .ge 6, 3) := by decide +kernel
theorem d_Top_row_28 : decode b_Top_row 28 = .ok (.bipush (-14), 2) := by decide +kernel
theorem d_Top_row_30 : decode b_Top_row 30 = .ok (.ireturn, 1) := by decide +kernel
theorem d_Top_row_31 : decode b_Top_row 31 = .ok (.aload_n 0, 1) := by decide +kernel
theorem d_Top_row_32 : decode b_Top_row 32 = .ok (.getfield 87, 3) := by decide +kernel
theorem d_Top_row_35 : decode b_Top_row 35 = .ok (.iload_n 1, 1) := by decide +kernel
theorem d_Top_row_36 : decode b_Top_row 36 = .ok (.aaload, 1) := by decide +kernel
theorem d_Top_row_37 : decode b_Top_row 37 = .ok (.iload_n 2, 1) := by decide +kernel
theorem d_Top_row_38 : decode b_Top_row 38 = .ok (.iload_n 3, 1) := by decide +kernel
theorem d_Top_row_39 : decode b_Top_row 39 = .ok (.invokevirtual 351, 3) := by decide +kernel
theorem d_Top_row_42 : decode b_Top_row 42 = .ok (.iconst 1, 1) := by decide +kernel
theorem d_Top_row_43 : decode b_Top_row 43 = .ok (.ireturn, 1) := by decide +kernel
theorem d_Top_run_0 : decode b_Top_run 0 = .ok (.aload_n 0, 1) := by decide +kernel
theorem d_Top_run_1 : decode b_Top_run 1 = .ok (.iload_n 1, 1) := by decide +kernel
theorem d_Top_run_2 : decode b_Top_run 2 = .ok (.invokevirtual 160, 3) := by decide +kernel
theorem d_Top_run_5 : decode b_Top_run 5 = .ok (.ifCond .eq 10, 3) := by decide +kernel
theorem d_Top_run_8 : decode b_Top_run 8 = .ok (.iload_n 2, 1) := by decide +kernel
theorem d_Top_run_9 : decode b_Top_run 9 = .ok (.invokestatic 163, 3) := by decide +kernel
theorem d_Top_run_12 : decode b_Top_run 12 = .ok (.ifCond .ne 5, 3) := by decide +kernel
theorem d_Top_run_15 : decode b_Top_run 15 = .ok (.iconst (-1), 1) := by decide +kernel
theorem d_Top_run_16 : decode b_Top_run 16 = .ok (.ireturn, 1) := by decide +kernel
theorem d_Top_run_17 : decode b_Top_run 17 = .ok (.aload_n 0, 1) := by decide +kernel
theorem d_Top_run_18 : decode b_Top_run 18 = .ok (.getfield 35, 3) := by decide +kernel
theorem d_Top_run_21 : decode b_Top_run 21 = .ok (.iload_n 1, 1) := by decide +kernel
theorem d_Top_run_22 : decode b_Top_run 22 = .ok (.iload_n 2, 1) := by decide +kernel
theorem d_Top_run_23 : decode b_Top_run 23 = .ok (.invokevirtual 166, 3) := by decide +kernel
theorem d_Top_run_26 : decode b_Top_run 26 = .ok (.iload_n 3, 1) := by decide +kernel
theorem d_Top_run_27 : decode b_Top_run 27 = .ok (.tableswitch 69 0 3 #[29, 37, 45, 53], 29) := by decide +kernel
theorem d_Top_run_56 : decode b_Top_run 56 = .ok (.aload_n 0, 1) := by decide +kernel
theorem d_Top_run_57 : decode b_Top_run 57 = .ok (.getfield 35, 3) := by decide +kernel
theorem d_Top_run_60 : decode b_Top_run 60 = .ok (.getfield 169, 3) := by decide +kernel
theorem d_Top_run_63 : decode b_Top_run 63 = .ok (.ireturn, 1) := by decide +kernel
theorem d_Top_run_64 : decode b_Top_run 64 = .ok (.aload_n 0, 1) := by decide +kernel
theorem d_Top_run_65 : decode b_Top_run 65 = .ok (.getfield 35, 3) := by decide +kernel
theorem d_Top_run_68 : decode b_Top_run 68 = .ok (.invokevirtual 173, 3) := by decide +kernel
theorem d_Top_run_71 : decode b_Top_run 71 = .ok (.ireturn, 1) := by decide +kernel
theorem d_Top_run_72 : decode b_Top_run 72 = .ok (.aload_n 0, 1) := by decide +kernel
theorem d_Top_run_73 : decode b_Top_run 73 = .ok (.getfield 35, 3) := by decide +kernel
theorem d_Top_run_76 : decode b_Top_run 76 = .ok (.invokevirtual 176, 3) := by decide +kernel
theorem d_Top_run_79 : decode b_Top_run 79 = .ok (.ireturn, 1) := by decide +kernel
theorem d_Top_run_80 : decode b_Top_run 80 = .ok (.aload_n 0, 1) := by decide +kernel
theorem d_Top_run_81 : decode b_Top_run 81 = .ok (.getfield 35, 3) := by decide +kernel
theorem d_Top_run_84 : decode b_Top_run 84 = .ok (.invokevirtual 179, 3) := by decide +kernel
theorem d_Top_run_87 : decode b_Top_run 87 = .ok (.ifCond .eq 7, 3) := by decide +kernel
theorem d_Top_run_90 : decode b_Top_run 90 = .ok (.iconst 1, 1) := by decide +kernel
theorem d_Top_run_91 : decode b_Top_run 91 = .ok (.goto 4, 3) := by decide +kernel
theorem d_Top_run_94 : decode b_Top_run 94 = .ok (.iconst 0, 1) := by decide +kernel
theorem d_Top_run_95 : decode b_Top_run 95 = .ok (.ireturn, 1) := by decide +kernel
theorem d_Top_run_96 : decode b_Top_run 96 = .ok (.iconst (-1), 1) := by decide +kernel
theorem d_Top_run_97 : decode b_Top_run 97 = .ok (.ireturn, 1) := by decide +kernel
theorem d_Top_safe_0 : decode b_Top_safe 0 = .ok (.aload_n 0, 1) := by decide +kernel
theorem d_Top_safe_1 : decode b_Top_safe 1 = .ok (.iload_n 1, 1) := by decide +kernel
theorem d_Top_safe_2 : decode b_Top_safe 2 = .ok (.invokevirtual 160, 3) := by decide +kernel
theorem d_Top_safe_5 : decode b_Top_safe 5 = .ok (.ifCond .eq 20, 3) := by decide +kernel
theorem d_Top_safe_8 : decode b_Top_safe 8 = .ok (.iload_n 2, 1) := by decide +kernel
theorem d_Top_safe_9 : decode b_Top_safe 9 = .ok (.invokestatic 163, 3) := by decide +kernel
theorem d_Top_safe_12 : decode b_Top_safe 12 = .ok (.ifCond .eq 13, 3) := by decide +kernel
theorem d_Top_safe_15 : decode b_Top_safe 15 = .ok (.iload_n 3, 1) := by decide +kernel
theorem d_Top_safe_16 : decode b_Top_safe 16 = .ok (.iconst 0, 1) := by decide +kernel
theorem d_Top_safe_17 : decode b_Top_safe 17 = .ok (.bipush 99, 2) := by decide +kernel
theorem d_Top_safe_19 : decode b_Top_safe 19 = .ok (.invokestatic 108, 3) := by decide +kernel
theorem d_Top_safe_22 : decode b_Top_safe 22 = .ok (.ifCond .ne 5, 3) := by decide +kernel
theorem d_Top_safe_25 : decode b_Top_safe 25 = .ok (.iconst (-1), 1) := by decide +kernel
theorem d_Top_safe_26 : decode b_Top_safe 26 = .ok (.ireturn, 1) := by decide +kernel
theorem d_Top_safe_27 : decode b_Top_safe 27 = .ok (.aload_n 0, 1) := by decide +kernel
theorem d_Top_safe_28 : decode b_Top_safe 28 = .ok (.getfield 35, 3) := by decide +kernel
theorem d_Top_safe_31 : decode b_Top_safe 31 = .ok (.iload_n 1, 1) := by decide +kernel
theorem d_Top_safe_32 : decode b_Top_safe 32 = .ok (.iload_n 2, 1) := by decide +kernel
theorem d_Top_safe_33 : decode b_Top_safe 33 = .ok (.invokevirtual 166, 3) := by decide +kernel
theorem d_Top_safe_36 : decode b_Top_safe 36 = .ok (.aload_n 0, 1) := by decide +kernel
theorem d_Top_safe_37 : decode b_Top_safe 37 = .ok (.getfield 35, 3) := by decide +kernel
theorem d_Top_safe_40 : decode b_Top_safe 40 = .ok (.iload_n 3, 1) := by decide +kernel
theorem d_Top_safe_41 : decode b_Top_safe 41 = .ok (.invokevirtual 188, 3) := by decide +kernel
theorem d_Top_safe_44 : decode b_Top_safe 44 = .ok (.ifCond .eq 7, 3) := by decide +kernel
theorem d_Top_safe_47 : decode b_Top_safe 47 = .ok (.iconst 1, 1) := by decide +kernel
theorem d_Top_safe_48 : decode b_Top_safe 48 = .ok (.goto 4, 3) := by decide +kernel
theorem d_Top_safe_51 : decode b_Top_safe 51 = .ok (.iconst 0, 1) := by decide +kernel
theorem d_Top_safe_52 : decode b_Top_safe 52 = .ok (.ireturn, 1) := by decide +kernel
theorem d_Top_shift_0 : decode b_Top_shift 0 = .ok (.iload_n 1, 1) := by decide +kernel
theorem d_Top_shift_1 : decode b_Top_shift 1 = .ok (.invokestatic 104, 3) := by decide +kernel
theorem d_Top_shift_4 : decode b_Top_shift 4 = .ok (.ifCond .eq 10, 3) := by decide +kernel
theorem d_Top_shift_7 : decode b_Top_shift 7 = .ok (.iload_n 3, 1) := by decide +kernel
theorem d_Top_shift_8 : decode b_Top_shift 8 = .ok (.invokestatic 104, 3) := by decide +kernel
theorem d_Top_shift_11 : decode b_Top_shift 11 = .ok (.ifCond .ne 5, 3) := by decide +kernel
theorem d_Top_shift_14 : decode b_Top_shift 14 = .ok (.iconst (-1), 1) := by decide +kernel
theorem d_Top_shift_15 : decode b_Top_shift 15 = .ok (.ireturn, 1) := by decide +kernel
theorem d_Top_shift_16 : decode b_Top_shift 16 = .ok (.aload_n 0, 1) := by decide +kernel
theorem d_Top_shift_17 : decode b_Top_shift 17 = .ok (.getfield 87, 3) := by decide +kernel
theorem d_Top_shift_20 : decode b_Top_shift 20 = .ok (.iload_n 1, 1) := by decide +kernel
theorem d_Top_shift_21 : decode b_Top_shift 21 = .ok (.aaload, 1) := by decide +kernel
theorem d_Top_shift_22 : decode b_Top_shift 22 = .ok (.astore 6, 2) := by decide +kernel
theorem d_Top_shift_24 : decode b_Top_shift 24 = .ok (.aload_n 0, 1) := by decide +kernel
theorem d_Top_shift_25 : decode b_Top_shift 25 = .ok (.getfield 87, 3) := by decide +kernel
theorem d_Top_shift_28 : decode b_Top_shift 28 = .ok (.iload_n 3, 1) := by decide +kernel
theorem d_Top_shift_29 : decode b_Top_shift 29 = .ok (.aaload, 1) := by decide +kernel
theorem d_Top_shift_30 : decode b_Top_shift 30 = .ok (.astore 7, 2) := by decide +kernel
theorem d_Top_shift_32 : decode b_Top_shift 32 = .ok (.aload 6, 2) := by decide +kernel
theorem d_Top_shift_34 : decode b_Top_shift 34 = .ok (.getfield 368, 3) := by decide +kernel
theorem d_Top_shift_37 : decode b_Top_shift 37 = .ok (.bipush (-2), 2) := by decide +kernel
theorem d_Top_shift_39 : decode b_Top_shift 39 = .ok (.if_icmp .eq 13, 3) := by decide +kernel
theorem d_Top_shift_42 : decode b_Top_shift 42 = .ok (.aload 7, 2) := by decide +kernel
theorem d_Top_shift_44 : decode b_Top_shift 44 = .ok (.getfield 368, 3) := by decide +kernel
theorem d_Top_shift_47 : decode b_Top_shift 47 = .ok (.bipush (-2), 2) := by decide +kernel
theorem d_Top_shift_49 : decode b_Top_shift 49 = .ok (.if_icmp .ne 6, 3) := by decide +kernel
theorem d_Top_shift_52 : decode b_Top_shift 52 = .ok (.bipush (-11), 2) := by decide +kernel
theorem d_Top_shift_54 : decode b_Top_shift 54 = .ok (.ireturn, 1) := by decide +kernel
theorem d_Top_shift_55 : decode b_Top_shift 55 = .ok (.aload 6, 2) := by decide +kernel
theorem d_Top_shift_57 : decode b_Top_shift 57 = .ok (.invokevirtual 371, 3) := by decide +kernel
theorem d_Top_shift_60 : decode b_Top_shift 60 = .ok (.ifCond .eq 16, 3) := by decide +kernel
theorem d_Top_shift_63 : decode b_Top_shift 63 = .ok (.aload 6, 2) := by decide +kernel
theorem d_Top_shift_65 : decode b_Top_shift 65 = .ok (.getfield 368, 3) := by decide +kernel
theorem d_Top_shift_68 : decode b_Top_shift 68 = .ok (.aload 7, 2) := by decide +kernel
theorem d_Top_shift_70 : decode b_Top_shift 70 = .ok (.getfield 368, 3) := by decide +kernel
theorem d_Top_shift_73 : decode b_Top_shift 73 = .ok (.if_icmp .eq 6, 3) := by decide +kernel
theorem d_Top_shift_76 : decode b_Top_shift 76 = .ok (.bipush (-12), 2) := by decide +kernel
theorem d_Top_shift_78 : decode b_Top_shift 78 = .ok (.ireturn, 1) := by decide +kernel
theorem d_Top_shift_79 : decode b_Top_shift 79 = .ok (.aload 6, 2) := by decide +kernel
theorem d_Top_shift_81 : decode b_Top_shift 81 = .ok (.iload_n 2, 1) := by decide +kernel
theorem d_Top_shift_82 : decode b_Top_shift 82 = .ok (.iload 5, 2) := by decide +kernel
theorem d_Top_shift_84 : decode b_Top_shift 84 = .ok (.invokevirtual 374, 3) := by decide +kernel
theorem d_Top_shift_87 : decode b_Top_shift 87 = .ok (.ifCond .eq 15, 3) := by decide +kernel
theorem d_Top_shift_90 : decode b_Top_shift 90 = .ok (.aload 7, 2) := by decide +kernel
theorem d_Top_shift_92 : decode b_Top_shift 92 = .ok (.iload 4, 2) := by decide +kernel
theorem d_Top_shift_94 : decode b_Top_shift 94 = .ok (.iload 5, 2) := by decide +kernel
theorem d_Top_shift_96 : decode b_Top_shift 96 = .ok (.invokevirtual 374, 3) := by decide +kernel
theorem d_Top_shift_99 : decode b_Top_shift 99 = .ok (.ifCond .ne 6, 3) := by decide +kernel
theorem d_Top_shift_102 : decode b_Top_shift 102 = .ok (.bipush (-13), 2) := by decide +kernel
theorem d_Top_shift_104 : decode b_Top_shift 104 = .ok (.ireturn, 1) := by decide +kernel
theorem d_Top_shift_105 : decode b_Top_shift 105 = .ok (.aload 6, 2) := by decide +kernel
theorem d_Top_shift_107 : decode b_Top_shift 107 = .ok (.getfield 360, 3) := by decide +kernel
theorem d_Top_shift_110 : decode b_Top_shift 110 = .ok (.iload_n 2, 1) := by decide +kernel
theorem d_Top_shift_111 : decode b_Top_shift 111 = .ok (.aload 7, 2) := by decide +kernel
theorem d_Top_shift_113 : decode b_Top_shift 113 = .ok (.getfield 360, 3) := by decide +kernel
theorem d_Top_shift_116 : decode b_Top_shift 116 = .ok (.iload 4, 2) := by decide +kernel
theorem d_Top_shift_118 : decode b_Top_shift 118 = .ok (.iload 5, 2) := by decide +kernel
theorem d_Top_shift_120 : decode b_Top_shift 120 = .ok (.invokestatic 377, 3) := by decide +kernel
theorem d_Top_shift_123 : decode b_Top_shift 123 = .ok (.iload 5, 2) := by decide +kernel
theorem d_Top_shift_125 : decode b_Top_shift 125 = .ok (.ireturn, 1) := by decide +kernel
theorem d_Tub_suppose_0 : decode b_Tub_suppose 0 = .ok (.aload_n 0, 1) := by decide +kernel
theorem d_Tub_suppose_1 : decode b_Tub_suppose 1 = .ok (.getfield 19, 3) := by decide +kernel
theorem d_Tub_suppose_4 : decode b_Tub_suppose 4 = .ok (.iload_n 1, 1) := by decide +kernel
theorem d_Tub_suppose_5 : decode b_Tub_suppose 5 = .ok (.invokevirtual 62, 3) := by decide +kernel
theorem d_Tub_suppose_8 : decode b_Tub_suppose 8 = .ok (.ifCond .eq 28, 3) := by decide +kernel
theorem d_Tub_suppose_11 : decode b_Tub_suppose 11 = .ok (.aload_n 0, 1) := by decide +kernel
theorem d_Tub_suppose_12 : decode b_Tub_suppose 12 = .ok (.getfield 9, 3) := by decide +kernel
theorem d_Tub_suppose_15 : decode b_Tub_suppose 15 = .ok (.iload_n 1, 1) := by decide +kernel
theorem d_Tub_suppose_16 : decode b_Tub_suppose 16 = .ok (.aload_n 0, 1) := by decide +kernel
theorem d_Tub_suppose_17 : decode b_Tub_suppose 17 = .ok (.iload_n 1, 1) := by decide +kernel
theorem d_Tub_suppose_18 : decode b_Tub_suppose 18 = .ok (.iload_n 2, 1) := by decide +kernel
theorem d_Tub_suppose_19 : decode b_Tub_suppose 19 = .ok (.aload_n 0, 1) := by decide +kernel
theorem d_Tub_suppose_20 : decode b_Tub_suppose 20 = .ok (.getfield 19, 3) := by decide +kernel
theorem d_Tub_suppose_23 : decode b_Tub_suppose 23 = .ok (.iload_n 1, 1) := by decide +kernel
theorem d_Tub_suppose_24 : decode b_Tub_suppose 24 = .ok (.iconst 2, 1) := by decide +kernel
theorem d_Tub_suppose_25 : decode b_Tub_suppose 25 = .ok (.invokevirtual 29, 3) := by decide +kernel
theorem d_Tub_suppose_28 : decode b_Tub_suppose 28 = .ok (.aload_n 0, 1) := by decide +kernel
theorem d_Tub_suppose_29 : decode b_Tub_suppose 29 = .ok (.getfield 15, 3) := by decide +kernel
theorem d_Tub_suppose_32 : decode b_Tub_suppose 32 = .ok (.invokevirtual 33, 3) := by decide +kernel
theorem d_Tub_suppose_35 : decode b_Tub_suppose 35 = .ok (.iastore, 1) := by decide +kernel
theorem d_Tub_suppose_36 : decode b_Tub_suppose 36 = .ok (.return_, 1) := by decide +kernel
theorem d_Top_sock_0 : decode b_Top_sock 0 = .ok (.aload_n 0, 1) := by decide +kernel
theorem d_Top_sock_1 : decode b_Top_sock 1 = .ok (.iload_n 1, 1) := by decide +kernel
theorem d_Top_sock_2 : decode b_Top_sock 2 = .ok (.iconst 1, 1) := by decide +kernel
theorem d_Top_sock_3 : decode b_Top_sock 3 = .ok (.invokevirtual 112, 3) := by decide +kernel
theorem d_Top_sock_6 : decode b_Top_sock 6 = .ok (.istore 5, 2) := by decide +kernel
theorem d_Top_sock_8 : decode b_Top_sock 8 = .ok (.iload 5, 2) := by decide +kernel
theorem d_Top_sock_10 : decode b_Top_sock 10 = .ok (.iconst (-1), 1) := by decide +kernel
theorem d_Top_sock_11 : decode b_Top_sock 11 = .ok (.if_icmp .eq 27, 3) := by decide +kernel
theorem d_Top_sock_14 : decode b_Top_sock 14 = .ok (.aload_n 0, 1) := by decide +kernel
theorem d_Top_sock_15 : decode b_Top_sock 15 = .ok (.iload_n 2, 1) := by decide +kernel
theorem d_Top_sock_16 : decode b_Top_sock 16 = .ok (.invokevirtual 160, 3) := by decide +kernel
theorem d_Top_sock_19 : decode b_Top_sock 19 = .ok (.ifCond .eq 19, 3) := by decide +kernel
theorem d_Top_sock_22 : decode b_Top_sock 22 = .ok (.iload_n 3, 1) := by decide +kernel
theorem d_Top_sock_23 : decode b_Top_sock 23 = .ok (.invokestatic 154, 3) := by decide +kernel
theorem d_Top_sock_26 : decode b_Top_sock 26 = .ok (.ifCond .eq 12, 3) := by decide +kernel
theorem d_Top_sock_29 : decode b_Top_sock 29 = .ok (.iload_n 2, 1) := by decide +kernel
theorem d_Top_sock_30 : decode b_Top_sock 30 = .ok (.iload 4, 2) := by decide +kernel
theorem d_Top_sock_32 : decode b_Top_sock 32 = .ok (.invokestatic 182, 3) := by decide +kernel
theorem d_Top_sock_35 : decode b_Top_sock 35 = .ok (.ifCond .ne 5, 3) := by decide +kernel
theorem d_Top_sock_38 : decode b_Top_sock 38 = .ok (.iconst (-1), 1) := by decide +kernel
theorem d_Top_sock_39 : decode b_Top_sock 39 = .ok (.ireturn, 1) := by decide +kernel
theorem d_Top_sock_40 : decode b_Top_sock 40 = .ok (.iload 5, 2) := by decide +kernel
theorem d_Top_sock_42 : decode b_Top_sock 42 = .ok (.ifCond .eq 6, 3) := by decide +kernel
theorem d_Top_sock_45 : decode b_Top_sock 45 = .ok (.iload 5, 2) := by decide +kernel
theorem d_Top_sock_47 : decode b_Top_sock 47 = .ok (.ireturn, 1) := by decide +kernel
theorem d_Top_sock_48 : decode b_Top_sock 48 = .ok (.aload_n 0, 1) := by decide +kernel
theorem d_Top_sock_49 : decode b_Top_sock 49 = .ok (.getfield 35, 3) := by decide +kernel
theorem d_Top_sock_52 : decode b_Top_sock 52 = .ok (.iload_n 3, 1) := by decide +kernel
theorem d_Top_sock_53 : decode b_Top_sock 53 = .ok (.invokevirtual 194, 3) := by decide +kernel
theorem d_Top_sock_56 : decode b_Top_sock 56 = .ok (.iconst 0, 1) := by decide +kernel
theorem d_Top_sock_57 : decode b_Top_sock 57 = .ok (.istore 6, 2) := by decide +kernel
theorem d_Top_sock_59 : decode b_Top_sock 59 = .ok (.iload 6, 2) := by decide +kernel
theorem d_Top_sock_61 : decode b_Top_sock 61 = .ok (.bipush 9, 2) := by decide +kernel
theorem d_Top_sock_63 : decode b_Top_sock 63 = .ok (.if_icmp .gt 48, 3) := by decide +kernel
theorem d_Top_sock_66 : decode b_Top_sock 66 = .ok (.aload_n 0, 1) := by decide +kernel
theorem d_Top_sock_67 : decode b_Top_sock 67 = .ok (.getfield 35, 3) := by decide +kernel
theorem d_Top_sock_70 : decode b_Top_sock 70 = .ok (.iload 4, 2) := by decide +kernel
theorem d_Top_sock_72 : decode b_Top_sock 72 = .ok (.iload 6, 2) := by decide +kernel
theorem d_Top_sock_74 : decode b_Top_sock 74 = .ok (.invokevirtual 290, 3) := by decide +kernel
theorem d_Top_sock_77 : decode b_Top_sock 77 = .ok (.aload_n 0, 1) := by decide +kernel
theorem d_Top_sock_78 : decode b_Top_sock 78 = .ok (.getfield 35, 3) := by decide +kernel
theorem d_Top_sock_81 : decode b_Top_sock 81 = .ok (.iload_n 2, 1) := by decide +kernel
theorem d_Top_sock_82 : decode b_Top_sock 82 = .ok (.iconst 0, 1) := by decide +kernel
theorem d_Top_sock_83 : decode b_Top_sock 83 = .ok (.invokevirtual 201, 3) := by decide +kernel
theorem d_Top_sock_86 : decode b_Top_sock 86 = .ok (.aload_n 0, 1) := by decide +kernel
theorem d_Top_sock_87 : decode b_Top_sock 87 = .ok (.aload_n 0, 1) := by decide +kernel
theorem d_Top_sock_88 : decode b_Top_sock 88 = .ok (.getfield 87, 3) := by decide +kernel
theorem d_Top_sock_91 : decode b_Top_sock 91 = .ok (.iload_n 1, 1) := by decide +kernel
theorem d_Top_sock_92 : decode b_Top_sock 92 = .ok (.aaload, 1) := by decide +kernel
theorem d_Top_sock_93 : decode b_Top_sock 93 = .ok (.iload_n 2, 1) := by decide +kernel
theorem d_Top_sock_94 : decode b_Top_sock 94 = .ok (.invokevirtual 280, 3) := by decide +kernel
theorem d_Top_sock_97 : decode b_Top_sock 97 = .ok (.bipush (-2), 2) := by decide +kernel
theorem d_Top_sock_99 : decode b_Top_sock 99 = .ok (.if_icmp .ne 6, 3) := by decide +kernel
theorem d_Top_sock_102 : decode b_Top_sock 102 = .ok (.iload 6, 2) := by decide +kernel
theorem d_Top_sock_104 : decode b_Top_sock 104 = .ok (.ireturn, 1) := by decide +kernel
theorem d_Top_sock_105 : decode b_Top_sock 105 = .ok (.iinc 6 1, 3) := by decide +kernel
theorem d_Top_sock_108 : decode b_Top_sock 108 = .ok (.goto (-49), 3) := by decide +kernel
theorem d_Top_sock_111 : decode b_Top_sock 111 = .ok (.bipush (-2), 2) := by decide +kernel
theorem d_Top_sock_113 : decode b_Top_sock 113 = .ok (.ireturn, 1) := by decide +kernel
theorem d_Plan_dayFor_0 : decode b_Plan_dayFor 0 = .ok (.bipush (-2), 2) := by decide +kernel
theorem d_Plan_dayFor_2 : decode b_Plan_dayFor 2 = .ok (.istore_n 2, 1) := by decide +kernel
theorem d_Plan_dayFor_3 : decode b_Plan_dayFor 3 = .ok (.iconst 0, 1) := by decide +kernel
theorem d_Plan_dayFor_4 : decode b_Plan_dayFor 4 = .ok (.istore_n 3, 1) := by decide +kernel
theorem d_Plan_dayFor_5 : decode b_Plan_dayFor 5 = .ok (.iload_n 3, 1) := by decide +kernel
theorem d_Plan_dayFor_6 : decode b_Plan_dayFor 6 = .ok (.aload_n 0, 1) := by decide +kernel
theorem d_Plan_dayFor_7 : decode b_Plan_dayFor 7 = .ok (.getfield 15, 3) := by decide +kernel
theorem d_Plan_dayFor_10 : decode b_Plan_dayFor 10 = .ok (.getfield 19, 3) := by decide +kernel
theorem d_Plan_dayFor_13 : decode b_Plan_dayFor 13 = .ok (.if_icmp .ge 51, 3) := by decide +kernel
theorem d_Plan_dayFor_16 : decode b_Plan_dayFor 16 = .ok (.aload_n 0, 1) := by decide +kernel
theorem d_Plan_dayFor_17 : decode b_Plan_dayFor 17 = .ok (.getfield 15, 3) := by decide +kernel
theorem d_Plan_dayFor_20 : decode b_Plan_dayFor 20 = .ok (.iload_n 3, 1) := by decide +kernel
theorem d_Plan_dayFor_21 : decode b_Plan_dayFor 21 = .ok (.bipush 6, 2) := by decide +kernel
theorem d_Plan_dayFor_23 : decode b_Plan_dayFor 23 = .ok (.invokevirtual 43, 3) := by decide +kernel
theorem d_Plan_dayFor_26 : decode b_Plan_dayFor 26 = .ok (.iload_n 1, 1) := by decide +kernel
theorem d_Plan_dayFor_27 : decode b_Plan_dayFor 27 = .ok (.if_icmp .ne 31, 3) := by decide +kernel
theorem d_Plan_dayFor_30 : decode b_Plan_dayFor 30 = .ok (.aload_n 0, 1) := by decide +kernel
theorem d_Plan_dayFor_31 : decode b_Plan_dayFor 31 = .ok (.getfield 9, 3) := by decide +kernel
theorem d_Plan_dayFor_34 : decode b_Plan_dayFor 34 = .ok (.iload_n 3, 1) := by decide +kernel
theorem d_Plan_dayFor_35 : decode b_Plan_dayFor 35 = .ok (.iaload, 1) := by decide +kernel
theorem d_Plan_dayFor_36 : decode b_Plan_dayFor 36 = .ok (.iconst (-1), 1) := by decide +kernel
theorem d_Plan_dayFor_37 : decode b_Plan_dayFor 37 = .ok (.if_icmp .ne 6, 3) := by decide +kernel
theorem d_Plan_dayFor_40 : decode b_Plan_dayFor 40 = .ok (.bipush (-2), 2) := by decide +kernel
theorem d_Plan_dayFor_42 : decode b_Plan_dayFor 42 = .ok (.ireturn, 1) := by decide +kernel
theorem d_Plan_dayFor_43 : decode b_Plan_dayFor 43 = .ok (.iload_n 2, 1) := by decide +kernel
theorem d_Plan_dayFor_44 : decode b_Plan_dayFor 44 = .ok (.aload_n 0, 1) := by decide +kernel
theorem d_Plan_dayFor_45 : decode b_Plan_dayFor 45 = .ok (.aload_n 0, 1) := by decide +kernel
theorem d_Plan_dayFor_46 : decode b_Plan_dayFor 46 = .ok (.getfield 9, 3) := by decide +kernel
theorem d_Plan_dayFor_49 : decode b_Plan_dayFor 49 = .ok (.iload_n 3, 1) := by decide +kernel
theorem d_Plan_dayFor_50 : decode b_Plan_dayFor 50 = .ok (.iaload, 1) := by decide +kernel
theorem d_Plan_dayFor_51 : decode b_Plan_dayFor 51 = .ok (.invokevirtual 39, 3) := by decide +kernel
theorem d_Plan_dayFor_54 : decode b_Plan_dayFor 54 = .ok (.invokestatic 51, 3) := by decide +kernel
theorem d_Plan_dayFor_57 : decode b_Plan_dayFor 57 = .ok (.istore_n 2, 1) := by decide +kernel
theorem d_Plan_dayFor_58 : decode b_Plan_dayFor 58 = .ok (.iinc 3 1, 3) := by decide +kernel
theorem d_Plan_dayFor_61 : decode b_Plan_dayFor 61 = .ok (.goto (-56), 3) := by decide +kernel
theorem d_Plan_dayFor_64 : decode b_Plan_dayFor 64 = .ok (.iload_n 2, 1) := by decide +kernel
theorem d_Plan_dayFor_65 : decode b_Plan_dayFor 65 = .ok (.ireturn, 1) := by decide +kernel
theorem d_Top_soon_0 : decode b_Top_soon 0 = .ok (.aload_n 0, 1) := by decide +kernel
theorem d_Top_soon_1 : decode b_Top_soon 1 = .ok (.iload_n 1, 1) := by decide +kernel
theorem d_Top_soon_2 : decode b_Top_soon 2 = .ok (.iconst 0, 1) := by decide +kernel
theorem d_Top_soon_3 : decode b_Top_soon 3 = .ok (.invokevirtual 112, 3) := by decide +kernel
theorem d_Top_soon_6 : decode b_Top_soon 6 = .ok (.istore_n 3, 1) := by decide +kernel
theorem d_Top_soon_7 : decode b_Top_soon 7 = .ok (.iload_n 3, 1) := by decide +kernel
theorem d_Top_soon_8 : decode b_Top_soon 8 = .ok (.iconst (-1), 1) := by decide +kernel
theorem d_Top_soon_9 : decode b_Top_soon 9 = .ok (.if_icmp .eq 12, 3) := by decide +kernel
theorem d_Top_soon_12 : decode b_Top_soon 12 = .ok (.bipush 6, 2) := by decide +kernel
theorem d_Top_soon_14 : decode b_Top_soon 14 = .ok (.iload_n 2, 1) := by decide +kernel
theorem d_Top_soon_15 : decode b_Top_soon 15 = .ok (.invokestatic 92, 3) := by decide +kernel
theorem d_Top_soon_18 : decode b_Top_soon 18 = .ok (.ifCond .ne 5, 3) := by decide +kernel
theorem d_Top_soon_21 : decode b_Top_soon 21 = .ok (.iconst (-1), 1) := by decide +kernel
theorem d_Top_soon_22 : decode b_Top_soon 22 = .ok (.ireturn, 1) := by decide +kernel
theorem d_Top_soon_23 : decode b_Top_soon 23 = .ok (.iload_n 3, 1) := by decide +kernel
theorem d_Top_soon_24 : decode b_Top_soon 24 = .ok (.ifCond .eq 5, 3) := by decide +kernel
theorem d_Top_soon_27 : decode b_Top_soon 27 = .ok (.iload_n 3, 1) := by decide +kernel
theorem d_Top_soon_28 : decode b_Top_soon 28 = .ok (.ireturn, 1) := by decide +kernel
theorem d_Top_soon_29 : decode b_Top_soon 29 = .ok (.aload_n 0, 1) := by decide +kernel
theorem d_Top_soon_30 : decode b_Top_soon 30 = .ok (.getfield 53, 3) := by decide +kernel
theorem d_Top_soon_33 : decode b_Top_soon 33 = .ok (.aload_n 0, 1) := by decide +kernel
theorem d_Top_soon_34 : decode b_Top_soon 34 = .ok (.getfield 87, 3) := by decide +kernel
theorem d_Top_soon_37 : decode b_Top_soon 37 = .ok (.iload_n 1, 1) := by decide +kernel
theorem d_Top_soon_38 : decode b_Top_soon 38 = .ok (.aaload, 1) := by decide +kernel
theorem d_Top_soon_39 : decode b_Top_soon 39 = .ok (.invokevirtual 234, 3) := by decide +kernel
theorem d_Top_soon_42 : decode b_Top_soon 42 = .ok (.aload_n 0, 1) := by decide +kernel
theorem d_Top_soon_43 : decode b_Top_soon 43 = .ok (.getfield 53, 3) := by decide +kernel
theorem d_Top_soon_46 : decode b_Top_soon 46 = .ok (.iload_n 2, 1) := by decide +kernel
theorem d_Top_soon_47 : decode b_Top_soon 47 = .ok (.invokevirtual 243, 3) := by decide +kernel
theorem d_Top_soon_50 : decode b_Top_soon 50 = .ok (.ireturn, 1) := by decide +kernel
theorem d_Plan_bestPair_0 : decode b_Plan_bestPair 0 = .ok (.aload_n 0, 1) := by decide +kernel
theorem d_Plan_bestPair_1 : decode b_Plan_bestPair 1 = .ok (.iconst 0, 1) := by decide +kernel
theorem d_Plan_bestPair_2 : decode b_Plan_bestPair 2 = .ok (.iconst 0, 1) := by decide +kernel
theorem d_Plan_bestPair_3 : decode b_Plan_bestPair 3 = .ok (.invokevirtual 56, 3) := by decide +kernel
theorem d_Plan_bestPair_6 : decode b_Plan_bestPair 6 = .ok (.istore_n 1, 1) := by decide +kernel
theorem d_Plan_bestPair_7 : decode b_Plan_bestPair 7 = .ok (.bipush (-2), 2) := by decide +kernel
theorem d_Plan_bestPair_9 : decode b_Plan_bestPair 9 = .ok (.istore_n 2, 1) := by decide +kernel
theorem d_Plan_bestPair_10 : decode b_Plan_bestPair 10 = .ok (.iconst 0, 1) := by decide +kernel
theorem d_Plan_bestPair_11 : decode b_Plan_bestPair 11 = .ok (.istore_n 3, 1) := by decide +kernel
theorem d_Plan_bestPair_12 : decode b_Plan_bestPair 12 = .ok (.iload_n 3, 1) := by decide +kernel
theorem d_Plan_bestPair_13 : decode b_Plan_bestPair 13 = .ok (.bipush 20, 2) := by decide +kernel
theorem d_Plan_bestPair_15 : decode b_Plan_bestPair 15 = .ok (.if_icmp .ge 53, 3) := by decide +kernel
theorem d_Plan_bestPair_18 : decode b_Plan_bestPair 18 = .ok (.iload_n 3, 1) := by decide +kernel
theorem d_Plan_bestPair_19 : decode b_Plan_bestPair 19 = .ok (.iconst 1, 1) := by decide +kernel
theorem d_Plan_bestPair_20 : decode b_Plan_bestPair 20 = .ok (.iadd, 1) := by decide +kernel
theorem d_Plan_bestPair_21 : decode b_Plan_bestPair 21 = .ok (.istore 4, 2) := by decide +kernel
theorem d_Plan_bestPair_23 : decode b_Plan_bestPair 23 = .ok (.iload 4, 2) := by decide +kernel
theorem d_Plan_bestPair_25 : decode b_Plan_bestPair 25 = .ok (.bipush 20, 2) := by decide +kernel
theorem d_Plan_bestPair_27 : decode b_Plan_bestPair 27 = .ok (.if_icmp .ge 35, 3) := by decide +kernel
theorem d_Plan_bestPair_30 : decode b_Plan_bestPair 30 = .ok (.aload_n 0, 1) := by decide +kernel
theorem d_Plan_bestPair_31 : decode b_Plan_bestPair 31 = .ok (.iload_n 3, 1) := by decide +kernel
theorem d_Plan_bestPair_32 : decode b_Plan_bestPair 32 = .ok (.iload 4, 2) := by decide +kernel
theorem d_Plan_bestPair_34 : decode b_Plan_bestPair 34 = .ok (.invokevirtual 56, 3) := by decide +kernel
theorem d_Plan_bestPair_37 : decode b_Plan_bestPair 37 = .ok (.istore 5, 2) := by decide +kernel
theorem d_Plan_bestPair_39 : decode b_Plan_bestPair 39 = .ok (.iload 5, 2) := by decide +kernel
theorem d_Plan_bestPair_41 : decode b_Plan_bestPair 41 = .ok (.iload_n 1, 1) := by decide +kernel
theorem d_Plan_bestPair_42 : decode b_Plan_bestPair 42 = .ok (.if_icmp .ge 14, 3) := by decide +kernel
theorem d_Plan_bestPair_45 : decode b_Plan_bestPair 45 = .ok (.iload 5, 2) := by decide +kernel
theorem d_Plan_bestPair_47 : decode b_Plan_bestPair 47 = .ok (.istore_n 1, 1) := by decide +kernel
theorem d_Plan_bestPair_48 : decode b_Plan_bestPair 48 = .ok (.bipush 20, 2) := by decide +kernel
theorem d_Plan_bestPair_50 : decode b_Plan_bestPair 50 = .ok (.iload_n 3, 1) := by decide +kernel
theorem d_Plan_bestPair_51 : decode b_Plan_bestPair 51 = .ok (.imul, 1) := by decide +kernel
theorem d_Plan_bestPair_52 : decode b_Plan_bestPair 52 = .ok (.iload 4, 2) := by decide +kernel
theorem d_Plan_bestPair_54 : decode b_Plan_bestPair 54 = .ok (.iadd, 1) := by decide +kernel
theorem d_Plan_bestPair_55 : decode b_Plan_bestPair 55 = .ok (.istore_n 2, 1) := by decide +kernel
theorem d_Plan_bestPair_56 : decode b_Plan_bestPair 56 = .ok (.iinc 4 1, 3) := by decide +kernel
theorem d_Plan_bestPair_59 : decode b_Plan_bestPair 59 = .ok (.goto (-36), 3) := by decide +kernel
theorem d_Plan_bestPair_62 : decode b_Plan_bestPair 62 = .ok (.iinc 3 1, 3) := by decide +kernel
theorem d_Plan_bestPair_65 : decode b_Plan_bestPair 65 = .ok (.goto (-53), 3) := by decide +kernel
theorem d_Plan_bestPair_68 : decode b_Plan_bestPair 68 = .ok (.iload_n 2, 1) := by decide +kernel
theorem d_Plan_bestPair_69 : decode b_Plan_bestPair 69 = .ok (.ireturn, 1) := by decide +kernel
theorem d_Top_swap_0 : decode b_Top_swap 0 = .ok (.aload_n 0, 1) := by decide +kernel
theorem d_Top_swap_1 : decode b_Top_swap 1 = .ok (.iload_n 1, 1) := by decide +kernel
theorem d_Top_swap_2 : decode b_Top_swap 2 = .ok (.iconst 0, 1) := by decide +kernel
theorem d_Top_swap_3 : decode b_Top_swap 3 = .ok (.invokevirtual 112, 3) := by decide +kernel
theorem d_Top_swap_6 : decode b_Top_swap 6 = .ok (.istore_n 2, 1) := by decide +kernel
theorem d_Top_swap_7 : decode b_Top_swap 7 = .ok (.iload_n 2, 1) := by decide +kernel
theorem d_Top_swap_8 : decode b_Top_swap 8 = .ok (.ifCond .eq 5, 3) := by decide +kernel
theorem d_Top_swap_11 : decode b_Top_swap 11 = .ok (.iload_n 2, 1) := by decide +kernel
theorem d_Top_swap_12 : decode b_Top_swap 12 = .ok (.ireturn, 1) := by decide +kernel
theorem d_Top_swap_13 : decode b_Top_swap 13 = .ok (.aload_n 0, 1) := by decide +kernel
theorem d_Top_swap_14 : decode b_Top_swap 14 = .ok (.getfield 53, 3) := by decide +kernel
theorem d_Top_swap_17 : decode b_Top_swap 17 = .ok (.aload_n 0, 1) := by decide +kernel
theorem d_Top_swap_18 : decode b_Top_swap 18 = .ok (.getfield 87, 3) := by decide +kernel
theorem d_Top_swap_21 : decode b_Top_swap 21 = .ok (.iload_n 1, 1) := by decide +kernel
theorem d_Top_swap_22 : decode b_Top_swap 22 = .ok (.aaload, 1) := by decide +kernel
theorem d_Top_swap_23 : decode b_Top_swap 23 = .ok (.invokevirtual 234, 3) := by decide +kernel
theorem d_Top_swap_26 : decode b_Top_swap 26 = .ok (.aload_n 0, 1) := by decide +kernel
theorem d_Top_swap_27 : decode b_Top_swap 27 = .ok (.getfield 53, 3) := by decide +kernel
theorem d_Top_swap_30 : decode b_Top_swap 30 = .ok (.invokevirtual 246, 3) := by decide +kernel
theorem d_Top_swap_33 : decode b_Top_swap 33 = .ok (.ireturn, 1) := by decide +kernel
theorem d_Socks_isUnder_0 : decode b_Socks_isUnder 0 = .ok (.iload_n 0, 1) := by decide +kernel
theorem d_Socks_isUnder_1 : decode b_Socks_isUnder 1 = .ok (.istore_n 2, 1) := by decide +kernel
theorem d_Socks_isUnder_2 : decode b_Socks_isUnder 2 = .ok (.iconst 0, 1) := by decide +kernel
theorem d_Socks_isUnder_3 : decode b_Socks_isUnder 3 = .ok (.istore_n 3, 1) := by decide +kernel
theorem d_Socks_isUnder_4 : decode b_Socks_isUnder 4 = .ok (.iload_n 3, 1) := by decide +kernel
theorem d_Socks_isUnder_5 : decode b_Socks_isUnder 5 = .ok (.bipush 7, 2) := by decide +kernel
theorem d_Socks_isUnder_7 : decode b_Socks_isUnder 7 = .ok (.if_icmp .gt 26, 3) := by decide +kernel
theorem d_Socks_isUnder_10 : decode b_Socks_isUnder 10 = .ok (.iload_n 2, 1) := by decide +kernel
theorem d_Socks_isUnder_11 : decode b_Socks_isUnder 11 = .ok (.ifCond .lt 22, 3) := by decide +kernel
theorem d_Socks_isUnder_14 : decode b_Socks_isUnder 14 = .ok (.iload_n 2, 1) := by decide +kernel
theorem d_Socks_isUnder_15 : decode b_Socks_isUnder 15 = .ok (.iload_n 1, 1) := by decide +kernel
theorem d_Socks_isUnder_16 : decode b_Socks_isUnder 16 = .ok (.if_icmp .ne 5, 3) := by decide +kernel
theorem d_Socks_isUnder_19 : decode b_Socks_isUnder 19 = .ok (.iconst 1, 1) := by decide +kernel
theorem d_Socks_isUnder_20 : decode b_Socks_isUnder 20 = .ok (.ireturn, 1) := by decide +kernel
theorem d_Socks_isUnder_21 : decode b_Socks_isUnder 21 = .ok (.getstatic 30, 3) := by decide +kernel
theorem d_Socks_isUnder_24 : decode b_Socks_isUnder 24 = .ok (.iload_n 2, 1) := by decide +kernel
theorem d_Socks_isUnder_25 : decode b_Socks_isUnder 25 = .ok (.iaload, 1) := by decide +kernel
theorem d_Socks_isUnder_26 : decode b_Socks_isUnder 26 = .ok (.istore_n 2, 1) := by decide +kernel
theorem d_Socks_isUnder_27 : decode b_Socks_isUnder 27 = .ok (.iinc 3 1, 3) := by decide +kernel
theorem d_Socks_isUnder_30 : decode b_Socks_isUnder 30 = .ok (.goto (-26), 3) := by decide +kernel
theorem d_Socks_isUnder_33 : decode b_Socks_isUnder 33 = .ok (.iconst 0, 1) := by decide +kernel
theorem d_Socks_isUnder_34 : decode b_Socks_isUnder 34 = .ok (.ireturn, 1) := by decide +kernel
theorem d_Top_taken_0 : decode b_Top_taken 0 = .ok (.iload_n 1, 1) := by decide +kernel
theorem d_Top_taken_1 : decode b_Top_taken 1 = .ok (.invokestatic 104, 3) := by decide +kernel
theorem d_Top_taken_4 : decode b_Top_taken 4 = .ok (.ifCond .eq 13, 3) := by decide +kernel
theorem d_Top_taken_7 : decode b_Top_taken 7 = .ok (.iload_n 2, 1) := by decide +kernel
theorem d_Top_taken_8 : decode b_Top_taken 8 = .ok (.iconst 0, 1) := by decide +kernel
theorem d_Top_taken_9 : decode b_Top_taken 9 = .ok (.bipush 7, 2) := by decide +kernel
theorem d_Top_taken_11 : decode b_Top_taken 11 = .ok (.invokestatic 108, 3) := by decide +kernel
theorem d_Top_taken_14 : decode b_Top_taken 14 = .ok (.ifCond .ne 5, 3) := by decide +kernel
theorem d_Top_taken_17 : decode b_Top_taken 17 = .ok (.iconst (-1), 1) := by decide +kernel
theorem d_Top_taken_18 : decode b_Top_taken 18 = .ok (.ireturn, 1) := by decide +kernel
theorem d_Top_taken_19 : decode b_Top_taken 19 = .ok (.aload_n 0, 1) := by decide +kernel
theorem d_Top_taken_20 : decode b_Top_taken 20 = .ok (.getfield 87, 3) := by decide +kernel
theorem d_Top_taken_23 : decode b_Top_taken 23 = .ok (.iload_n 1, 1) := by decide +kernel
theorem d_Top_taken_24 : decode b_Top_taken 24 = .ok (.aaload, 1) := by decide +kernel
theorem d_Top_taken_25 : decode b_Top_taken 25 = .ok (.astore_n 3, 1) := by decide +kernel
theorem d_Top_taken_26 : decode b_Top_taken 26 = .ok (.aload_n 3, 1) := by decide +kernel
theorem d_Top_taken_27 : decode b_Top_taken 27 = .ok (.getfield 368, 3) := by decide +kernel
theorem d_Top_taken_30 : decode b_Top_taken 30 = .ok (.bipush (-2), 2) := by decide +kernel
theorem d_Top_taken_32 : decode b_Top_taken 32 = .ok (.if_icmp .ne 6, 3) := by decide +kernel
theorem d_Top_taken_35 : decode b_Top_taken 35 = .ok (.bipush (-11), 2) := by decide +kernel
theorem d_Top_taken_37 : decode b_Top_taken 37 = .ok (.ireturn, 1) := by decide +kernel
theorem d_Top_taken_38 : decode b_Top_taken 38 = .ok (.aload_n 3, 1) := by decide +kernel
theorem d_Top_taken_39 : decode b_Top_taken 39 = .ok (.getfield 368, 3) := by decide +kernel
theorem d_Top_taken_42 : decode b_Top_taken 42 = .ok (.iconst (-1), 1) := by decide +kernel
theorem d_Top_taken_43 : decode b_Top_taken 43 = .ok (.if_icmp .ne 17, 3) := by decide +kernel
theorem d_Top_taken_46 : decode b_Top_taken 46 = .ok (.aload_n 0, 1) := by decide +kernel
theorem d_Top_taken_47 : decode b_Top_taken 47 = .ok (.getfield 81, 3) := by decide +kernel
theorem d_Top_taken_50 : decode b_Top_taken 50 = .ok (.aload_n 3, 1) := by decide +kernel
theorem d_Top_taken_51 : decode b_Top_taken 51 = .ok (.getfield 383, 3) := by decide +kernel
theorem d_Top_taken_54 : decode b_Top_taken 54 = .ok (.invokevirtual 345, 3) := by decide +kernel
theorem d_Top_taken_57 : decode b_Top_taken 57 = .ok (.ifCond .ne 6, 3) := by decide +kernel
theorem d_Top_taken_60 : decode b_Top_taken 60 = .ok (.bipush (-12), 2) := by decide +kernel
theorem d_Top_taken_62 : decode b_Top_taken 62 = .ok (.ireturn, 1) := by decide +kernel
theorem d_Top_taken_63 : decode b_Top_taken 63 = .ok (.aload_n 0, 1) := by decide +kernel
theorem d_Top_taken_64 : decode b_Top_taken 64 = .ok (.getfield 81, 3) := by decide +kernel
theorem d_Top_taken_67 : decode b_Top_taken 67 = .ok (.getfield 386, 3) := by decide +kernel
theorem d_Top_taken_70 : decode b_Top_taken 70 = .ok (.aload_n 3, 1) := by decide +kernel
theorem d_Top_taken_71 : decode b_Top_taken 71 = .ok (.getfield 383, 3) := by decide +kernel
theorem d_Top_taken_74 : decode b_Top_taken 74 = .ok (.iaload, 1) := by decide +kernel
theorem d_Top_taken_75 : decode b_Top_taken 75 = .ok (.istore 4, 2) := by decide +kernel
theorem d_Top_taken_77 : decode b_Top_taken 77 = .ok (.iload 4, 2) := by decide +kernel
theorem d_Top_taken_79 : decode b_Top_taken 79 = .ok (.iload_n 2, 1) := by decide +kernel
theorem d_Top_taken_80 : decode b_Top_taken 80 = .ok (.invokestatic 389, 3) := by decide +kernel
theorem d_Top_taken_83 : decode b_Top_taken 83 = .ok (.ifCond .eq 8, 3) := by decide +kernel
theorem d_Top_taken_86 : decode b_Top_taken 86 = .ok (.iload 4, 2) := by decide +kernel
theorem d_Top_taken_88 : decode b_Top_taken 88 = .ok (.goto 5, 3) := by decide +kernel
theorem d_Top_taken_91 : decode b_Top_taken 91 = .ok (.bipush (-12), 2) := by decide +kernel
theorem d_Top_taken_93 : decode b_Top_taken 93 = .ok (.ireturn, 1) := by decide +kernel
theorem d_Top_test_0 : decode b_Top_test 0 = .ok (.aload_n 0, 1) := by decide +kernel
theorem d_Top_test_1 : decode b_Top_test 1 = .ok (.iload_n 1, 1) := by decide +kernel
theorem d_Top_test_2 : decode b_Top_test 2 = .ok (.invokevirtual 160, 3) := by decide +kernel
theorem d_Top_test_5 : decode b_Top_test 5 = .ok (.ifCond .eq 17, 3) := by decide +kernel
theorem d_Top_test_8 : decode b_Top_test 8 = .ok (.iload_n 2, 1) := by decide +kernel
theorem d_Top_test_9 : decode b_Top_test 9 = .ok (.invokestatic 191, 3) := by decide +kernel
theorem d_Top_test_12 : decode b_Top_test 12 = .ok (.ifCond .eq 10, 3) := by decide +kernel
theorem d_Top_test_15 : decode b_Top_test 15 = .ok (.iload_n 2, 1) := by decide +kernel
theorem d_Top_test_16 : decode b_Top_test 16 = .ok (.bipush 100, 2) := by decide +kernel
theorem d_Top_test_18 : decode b_Top_test 18 = .ok (.irem, 1) := by decide +kernel
theorem d_Top_test_19 : decode b_Top_test 19 = .ok (.ifCond .ne 5, 3) := by decide +kernel
theorem d_Top_test_22 : decode b_Top_test 22 = .ok (.iconst (-1), 1) := by decide +kernel
theorem d_Top_test_23 : decode b_Top_test 23 = .ok (.ireturn, 1) := by decide +kernel
theorem d_Top_test_24 : decode b_Top_test 24 = .ok (.iconst 0, 1) := by decide +kernel
theorem d_Top_test_25 : decode b_Top_test 25 = .ok (.istore_n 3, 1) := by decide +kernel
theorem d_Top_test_26 : decode b_Top_test 26 = .ok (.iconst 0, 1) := by decide +kernel
theorem d_Top_test_27 : decode b_Top_test 27 = .ok (.istore 4, 2) := by decide +kernel
theorem d_Top_test_29 : decode b_Top_test 29 = .ok (.iload 4, 2) := by decide +kernel
theorem d_Top_test_31 : decode b_Top_test 31 = .ok (.aload_n 0, 1) := by decide +kernel
theorem d_Top_test_32 : decode b_Top_test 32 = .ok (.getfield 10, 3) := by decide +kernel
theorem d_Top_test_35 : decode b_Top_test 35 = .ok (.getfield 198, 3) := by decide +kernel
theorem d_Top_test_38 : decode b_Top_test 38 = .ok (.if_icmp .ge 58, 3) := by decide +kernel
theorem d_Top_test_41 : decode b_Top_test 41 = .ok (.iload_n 1, 1) := by decide +kernel
theorem d_Top_test_42 : decode b_Top_test 42 = .ok (.iload 4, 2) := by decide +kernel
theorem d_Top_test_44 : decode b_Top_test 44 = .ok (.invokestatic 182, 3) := by decide +kernel
theorem d_Top_test_47 : decode b_Top_test 47 = .ok (.ifCond .eq 43, 3) := by decide +kernel
theorem d_Top_test_50 : decode b_Top_test 50 = .ok (.aload_n 0, 1) := by decide +kernel
theorem d_Top_test_51 : decode b_Top_test 51 = .ok (.getfield 35, 3) := by decide +kernel
theorem d_Top_test_54 : decode b_Top_test 54 = .ok (.iload 4, 2) := by decide +kernel
theorem d_Top_test_56 : decode b_Top_test 56 = .ok (.iconst 3, 1) := by decide +kernel
theorem d_Top_test_57 : decode b_Top_test 57 = .ok (.invokevirtual 157, 3) := by decide +kernel
theorem d_Top_test_60 : decode b_Top_test 60 = .ok (.iload_n 2, 1) := by decide +kernel
theorem d_Top_test_61 : decode b_Top_test 61 = .ok (.bipush 100, 2) := by decide +kernel
theorem d_Top_test_63 : decode b_Top_test 63 = .ok (.irem, 1) := by decide +kernel
theorem d_Top_test_64 : decode b_Top_test 64 = .ok (.if_icmp .ge 26, 3) := by decide +kernel
theorem d_Top_test_67 : decode b_Top_test 67 = .ok (.aload_n 0, 1) := by decide +kernel
theorem d_Top_test_68 : decode b_Top_test 68 = .ok (.getfield 35, 3) := by decide +kernel
theorem d_Top_test_71 : decode b_Top_test 71 = .ok (.iload 4, 2) := by decide +kernel
theorem d_Top_test_73 : decode b_Top_test 73 = .ok (.iload_n 2, 1) := by decide +kernel
theorem d_Top_test_74 : decode b_Top_test 74 = .ok (.bipush 100, 2) := by decide +kernel
theorem d_Top_test_76 : decode b_Top_test 76 = .ok (.idiv, 1) := by decide +kernel
theorem d_Top_test_77 : decode b_Top_test 77 = .ok (.invokevirtual 157, 3) := by decide +kernel
theorem d_Top_test_80 : decode b_Top_test 80 = .ok (.ifCond .le 10, 3) := by decide +kernel
theorem d_Top_test_83 : decode b_Top_test 83 = .ok (.iload_n 3, 1) := by decide +kernel
theorem d_Top_test_84 : decode b_Top_test 84 = .ok (.iconst 1, 1) := by decide +kernel
theorem d_Top_test_85 : decode b_Top_test 85 = .ok (.iload 4, 2) := by decide +kernel
theorem d_Top_test_87 : decode b_Top_test 87 = .ok (.ishl, 1) := by decide +kernel
theorem d_Top_test_88 : decode b_Top_test 88 = .ok (.ior, 1) := by decide +kernel
theorem d_Top_test_89 : decode b_Top_test 89 = .ok (.istore_n 3, 1) := by decide +kernel
theorem d_Top_test_90 : decode b_Top_test 90 = .ok (.iinc 4 1, 3) := by decide +kernel
theorem d_Top_test_93 : decode b_Top_test 93 = .ok (.goto (-64), 3) := by decide +kernel
theorem d_Top_test_96 : decode b_Top_test 96 = .ok (.iload_n 3, 1) := by decide +kernel
theorem d_Top_test_97 : decode b_Top_test 97 = .ok (.ireturn, 1) := by decide +kernel
theorem d_Top_thing_0 : decode b_Top_thing 0 = .ok (.iconst 0, 1) := by decide +kernel
theorem d_Top_thing_1 : decode b_Top_thing 1 = .ok (.iload_n 1, 1) := by decide +kernel
theorem d_Top_thing_2 : decode b_Top_thing 2 = .ok (.invokestatic 92, 3) := by decide +kernel
theorem d_Top_thing_5 : decode b_Top_thing 5 = .ok (.ifCond .eq 11, 3) := by decide +kernel
theorem d_Top_thing_8 : decode b_Top_thing 8 = .ok (.iconst 4, 1) := by decide +kernel
theorem d_Top_thing_9 : decode b_Top_thing 9 = .ok (.iload_n 2, 1) := by decide +kernel
theorem d_Top_thing_10 : decode b_Top_thing 10 = .ok (.invokestatic 92, 3) := by decide +kernel
theorem d_Top_thing_13 : decode b_Top_thing 13 = .ok (.ifCond .ne 5, 3) := by decide +kernel
theorem d_Top_thing_16 : decode b_Top_thing 16 = .ok (.iconst (-1), 1) := by decide +kernel
theorem d_Top_thing_17 : decode b_Top_thing 17 = .ok (.ireturn, 1) := by decide +kernel
theorem d_Top_thing_18 : decode b_Top_thing 18 = .ok (.aload_n 0, 1) := by decide +kernel
theorem d_Top_thing_19 : decode b_Top_thing 19 = .ok (.getfield 10, 3) := by decide +kernel
theorem d_Top_thing_22 : decode b_Top_thing 22 = .ok (.invokevirtual 96, 3) := by decide +kernel
theorem d_Top_thing_25 : decode b_Top_thing 25 = .ok (.ifCond .eq 8, 3) := by decide +kernel
theorem d_Top_thing_28 : decode b_Top_thing 28 = .ok (.bipush (-3), 2) := by decide +kernel
theorem d_Top_thing_30 : decode b_Top_thing 30 = .ok (.goto 13, 3) := by decide +kernel
theorem d_Top_thing_33 : decode b_Top_thing 33 = .ok (.aload_n 0, 1) := by decide +kernel
theorem d_Top_thing_34 : decode b_Top_thing 34 = .ok (.getfield 10, 3) := by decide +kernel
theorem d_Top_thing_37 : decode b_Top_thing 37 = .ok (.iload_n 1, 1) := by decide +kernel
theorem d_Top_thing_38 : decode b_Top_thing 38 = .ok (.iconst 0, 1) := by decide +kernel
theorem d_Top_thing_39 : decode b_Top_thing 39 = .ok (.iload_n 2, 1) := by decide +kernel
theorem d_Top_thing_40 : decode b_Top_thing 40 = .ok (.invokevirtual 100, 3) := by decide +kernel
theorem d_Top_thing_43 : decode b_Top_thing 43 = .ok (.ireturn, 1) := by decide +kernel
theorem d_Top_things_0 : decode b_Top_things 0 = .ok (.iload_n 1, 1) := by decide +kernel
theorem d_Top_things_1 : decode b_Top_things 1 = .ok (.invokestatic 104, 3) := by decide +kernel
theorem d_Top_things_4 : decode b_Top_things 4 = .ok (.ifCond .eq 13, 3) := by decide +kernel
theorem d_Top_things_7 : decode b_Top_things 7 = .ok (.iload_n 3, 1) := by decide +kernel
theorem d_Top_things_8 : decode b_Top_things 8 = .ok (.iconst 1, 1) := by decide +kernel
theorem d_Top_things_9 : decode b_Top_things 9 = .ok (.bipush 10, 2) := by decide +kernel
theorem d_Top_things_11 : decode b_Top_things 11 = .ok (.invokestatic 108, 3) := by decide +kernel
theorem d_Top_things_14 : decode b_Top_things 14 = .ok (.ifCond .ne 5, 3) := by decide +kernel
theorem d_Top_things_17 : decode b_Top_things 17 = .ok (.iconst (-1), 1) := by decide +kernel
theorem d_Top_things_18 : decode b_Top_things 18 = .ok (.ireturn, 1) := by decide +kernel
theorem d_Top_things_19 : decode b_Top_things 19 = .ok (.aload_n 0, 1) := by decide +kernel
theorem d_Top_things_20 : decode b_Top_things 20 = .ok (.iload_n 1, 1) := by decide +kernel
theorem d_Top_things_21 : decode b_Top_things 21 = .ok (.iconst 0, 1) := by decide +kernel
theorem d_Top_things_22 : decode b_Top_things 22 = .ok (.invokevirtual 112, 3) := by decide +kernel
theorem d_Top_things_25 : decode b_Top_things 25 = .ok (.istore 4, 2) := by decide +kernel
theorem d_Top_things_27 : decode b_Top_things 27 = .ok (.iload 4, 2) := by decide +kernel
theorem d_Top_things_29 : decode b_Top_things 29 = .ok (.bipush (-11), 2) := by decide +kernel
theorem d_Top_things_31 : decode b_Top_things 31 = .ok (.if_icmp .ne 5, 3) := by decide +kernel
theorem d_Top_things_34 : decode b_Top_things 34 = .ok (.iconst 0, 1) := by decide +kernel
theorem d_Top_things_35 : decode b_Top_things 35 = .ok (.ireturn, 1) := by decide +kernel
theorem d_Top_things_36 : decode b_Top_things 36 = .ok (.iload 4, 2) := by decide +kernel
theorem d_Top_things_38 : decode b_Top_things 38 = .ok (.ifCond .ne 18, 3) := by decide +kernel
theorem d_Top_things_41 : decode b_Top_things 41 = .ok (.aload_n 0, 1) := by decide +kernel
theorem d_Top_things_42 : decode b_Top_things 42 = .ok (.aload_n 0, 1) := by decide +kernel
theorem d_Top_things_43 : decode b_Top_things 43 = .ok (.getfield 87, 3) := by decide +kernel
theorem d_Top_things_46 : decode b_Top_things 46 = .ok (.iload_n 1, 1) := by decide +kernel
theorem d_Top_things_47 : decode b_Top_things 47 = .ok (.aaload, 1) := by decide +kernel
theorem d_Top_things_48 : decode b_Top_things 48 = .ok (.iload_n 2, 1) := by decide +kernel
theorem d_Top_things_49 : decode b_Top_things 49 = .ok (.iload_n 3, 1) := by decide +kernel
theorem d_Top_things_50 : decode b_Top_things 50 = .ok (.invokevirtual 116, 3) := by decide +kernel
theorem d_Top_things_53 : decode b_Top_things 53 = .ok (.goto 5, 3) := by decide +kernel
theorem d_Top_things_56 : decode b_Top_things 56 = .ok (.iload 4, 2) := by decide +kernel
theorem d_Top_things_58 : decode b_Top_things 58 = .ok (.ireturn, 1) := by decide +kernel
theorem d_Top_throwAway_0 : decode b_Top_throwAway 0 = .ok (.aload_n 0, 1) := by decide +kernel
theorem d_Top_throwAway_1 : decode b_Top_throwAway 1 = .ok (.getfield 10, 3) := by decide +kernel
theorem d_Top_throwAway_4 : decode b_Top_throwAway 4 = .ok (.iload_n 1, 1) := by decide +kernel
theorem d_Top_throwAway_5 : decode b_Top_throwAway 5 = .ok (.invokevirtual 134, 3) := by decide +kernel
theorem d_Top_throwAway_8 : decode b_Top_throwAway 8 = .ok (.ifCond .ne 5, 3) := by decide +kernel
theorem d_Top_throwAway_11 : decode b_Top_throwAway 11 = .ok (.iconst (-1), 1) := by decide +kernel
theorem d_Top_throwAway_12 : decode b_Top_throwAway 12 = .ok (.ireturn, 1) := by decide +kernel
theorem d_Top_throwAway_13 : decode b_Top_throwAway 13 = .ok (.aload_n 0, 1) := by decide +kernel
theorem d_Top_throwAway_14 : decode b_Top_throwAway 14 = .ok (.getfield 10, 3) := by decide +kernel
theorem d_Top_throwAway_17 : decode b_Top_throwAway 17 = .ok (.getfield 303, 3) := by decide +kernel
theorem d_Top_throwAway_20 : decode b_Top_throwAway 20 = .ok (.iload_n 1, 1) := by decide +kernel
theorem d_Top_throwAway_21 : decode b_Top_throwAway 21 = .ok (.baload, 1) := by decide +kernel
theorem d_Top_throwAway_22 : decode b_Top_throwAway 22 = .ok (.ifCond .eq 6, 3) := by decide +kernel
theorem d_Top_throwAway_25 : decode b_Top_throwAway 25 = .ok (.bipush (-5), 2) := by decide +kernel
theorem d_Top_throwAway_27 : decode b_Top_throwAway 27 = .ok (.ireturn, 1) := by decide +kernel
theorem d_Top_throwAway_28 : decode b_Top_throwAway 28 = .ok (.aload_n 0, 1) := by decide +kernel
theorem d_Top_throwAway_29 : decode b_Top_throwAway 29 = .ok (.getfield 10, 3) := by decide +kernel
theorem d_Top_throwAway_32 : decode b_Top_throwAway 32 = .ok (.getfield 303, 3) := by decide +kernel
theorem d_Top_throwAway_35 : decode b_Top_throwAway 35 = .ok (.iload_n 1, 1) := by decide +kernel
theorem d_Top_throwAway_36 : decode b_Top_throwAway 36 = .ok (.iconst 1, 1) := by decide +kernel
theorem d_Top_throwAway_37 : decode b_Top_throwAway 37 = .ok (.bastore, 1) := by decide +kernel
theorem d_Top_throwAway_38 : decode b_Top_throwAway 38 = .ok (.aload_n 0, 1) := by decide +kernel
theorem d_Top_throwAway_39 : decode b_Top_throwAway 39 = .ok (.getfield 10, 3) := by decide +kernel
theorem d_Top_throwAway_42 : decode b_Top_throwAway 42 = .ok (.getfield 198, 3) := by decide +kernel
theorem d_Top_throwAway_45 : decode b_Top_throwAway 45 = .ok (.aload_n 0, 1) := by decide +kernel
theorem d_Top_throwAway_46 : decode b_Top_throwAway 46 = .ok (.getfield 10, 3) := by decide +kernel
theorem d_Top_throwAway_49 : decode b_Top_throwAway 49 = .ok (.invokevirtual 307, 3) := by decide +kernel
theorem d_Top_throwAway_52 : decode b_Top_throwAway 52 = .ok (.isub, 1) := by decide +kernel
theorem d_Top_throwAway_53 : decode b_Top_throwAway 53 = .ok (.ireturn, 1) := by decide +kernel
theorem d_Top_tint_0 : decode b_Top_tint 0 = .ok (.aload_n 0, 1) := by decide +kernel
theorem d_Top_tint_1 : decode b_Top_tint 1 = .ok (.iload_n 1, 1) := by decide +kernel
theorem d_Top_tint_2 : decode b_Top_tint 2 = .ok (.invokevirtual 160, 3) := by decide +kernel
theorem d_Top_tint_5 : decode b_Top_tint 5 = .ok (.ifCond .eq 18, 3) := by decide +kernel
theorem d_Top_tint_8 : decode b_Top_tint 8 = .ok (.iload_n 2, 1) := by decide +kernel
theorem d_Top_tint_9 : decode b_Top_tint 9 = .ok (.invokestatic 163, 3) := by decide +kernel
theorem d_Top_tint_12 : decode b_Top_tint 12 = .ok (.ifCond .eq 11, 3) := by decide +kernel
theorem d_Top_tint_15 : decode b_Top_tint 15 = .ok (.iload_n 1, 1) := by decide +kernel
theorem d_Top_tint_16 : decode b_Top_tint 16 = .ok (.iload_n 3, 1) := by decide +kernel
theorem d_Top_tint_17 : decode b_Top_tint 17 = .ok (.invokestatic 182, 3) := by decide +kernel
theorem d_Top_tint_20 : decode b_Top_tint 20 = .ok (.ifCond .ne 5, 3) := by decide +kernel
theorem d_Top_tint_23 : decode b_Top_tint 23 = .ok (.iconst (-1), 1) := by decide +kernel
theorem d_Top_tint_24 : decode b_Top_tint 24 = .ok (.ireturn, 1) := by decide +kernel
theorem d_Top_tint_25 : decode b_Top_tint 25 = .ok (.aload_n 0, 1) := by decide +kernel
theorem d_Top_tint_26 : decode b_Top_tint 26 = .ok (.getfield 35, 3) := by decide +kernel
theorem d_Top_tint_29 : decode b_Top_tint 29 = .ok (.iload_n 1, 1) := by decide +kernel
theorem d_Top_tint_30 : decode b_Top_tint 30 = .ok (.iload_n 2, 1) := by decide +kernel
theorem d_Top_tint_31 : decode b_Top_tint 31 = .ok (.invokevirtual 166, 3) := by decide +kernel
theorem d_Top_tint_34 : decode b_Top_tint 34 = .ok (.aload_n 0, 1) := by decide +kernel
theorem d_Top_tint_35 : decode b_Top_tint 35 = .ok (.getfield 35, 3) := by decide +kernel
theorem d_Top_tint_38 : decode b_Top_tint 38 = .ok (.iload_n 3, 1) := by decide +kernel
theorem d_Top_tint_39 : decode b_Top_tint 39 = .ok (.invokevirtual 185, 3) := by decide +kernel
theorem d_Top_tint_42 : decode b_Top_tint 42 = .ok (.ireturn, 1) := by decide +kernel
theorem d_Top_together_0 : decode b_Top_together 0 = .ok (.aload_n 0, 1) := by decide +kernel
theorem d_Top_together_1 : decode b_Top_together 1 = .ok (.getfield 10, 3) := by decide +kernel
theorem d_Top_together_4 : decode b_Top_together 4 = .ok (.iload_n 1, 1) := by decide +kernel
theorem d_Top_together_5 : decode b_Top_together 5 = .ok (.invokevirtual 134, 3) := by decide +kernel
theorem d_Top_together_8 : decode b_Top_together 8 = .ok (.ifCond .eq 10, 3) := by decide +kernel
theorem d_Top_together_11 : decode b_Top_together 11 = .ok (.iload_n 2, 1) := by decide +kernel
theorem d_Top_together_12 : decode b_Top_together 12 = .ok (.invokestatic 191, 3) := by decide +kernel
theorem d_Top_together_15 : decode b_Top_together 15 = .ok (.ifCond .ne 5, 3) := by decide +kernel
theorem d_Top_together_18 : decode b_Top_together 18 = .ok (.iconst (-1), 1) := by decide +kernel
theorem d_Top_together_19 : decode b_Top_together 19 = .ok (.ireturn, 1) := by decide +kernel
theorem d_Top_together_20 : decode b_Top_together 20 = .ok (.aload_n 0, 1) := by decide +kernel
theorem d_Top_together_21 : decode b_Top_together 21 = .ok (.getfield 35, 3) := by decide +kernel
theorem d_Top_together_24 : decode b_Top_together 24 = .ok (.iload_n 2, 1) := by decide +kernel
theorem d_Top_together_25 : decode b_Top_together 25 = .ok (.bipush 100, 2) := by decide +kernel
theorem d_Top_together_27 : decode b_Top_together 27 = .ok (.idiv, 1) := by decide +kernel
theorem d_Top_together_28 : decode b_Top_together 28 = .ok (.invokevirtual 194, 3) := by decide +kernel
theorem d_Top_together_31 : decode b_Top_together 31 = .ok (.iconst 0, 1) := by decide +kernel
theorem d_Top_together_32 : decode b_Top_together 32 = .ok (.istore_n 3, 1) := by decide +kernel
theorem d_Top_together_33 : decode b_Top_together 33 = .ok (.iconst 0, 1) := by decide +kernel
theorem d_Top_together_34 : decode b_Top_together 34 = .ok (.istore 4, 2) := by decide +kernel
theorem d_Top_together_36 : decode b_Top_together 36 = .ok (.iload 4, 2) := by decide +kernel
theorem d_Top_together_38 : decode b_Top_together 38 = .ok (.aload_n 0, 1) := by decide +kernel
theorem d_Top_together_39 : decode b_Top_together 39 = .ok (.getfield 10, 3) := by decide +kernel
theorem d_Top_together_42 : decode b_Top_together 42 = .ok (.getfield 198, 3) := by decide +kernel
theorem d_Top_together_45 : decode b_Top_together 45 = .ok (.if_icmp .ge 52, 3) := by decide +kernel
theorem d_Top_together_48 : decode b_Top_together 48 = .ok (.aload_n 0, 1) := by decide +kernel
theorem d_Top_together_49 : decode b_Top_together 49 = .ok (.getfield 35, 3) := by decide +kernel
theorem d_Top_together_52 : decode b_Top_together 52 = .ok (.iconst 1, 1) := by decide +kernel
theorem d_Top_together_53 : decode b_Top_together 53 = .ok (.iload_n 1, 1) := by decide +kernel
theorem d_Top_together_54 : decode b_Top_together 54 = .ok (.ishl, 1) := by decide +kernel
theorem d_Top_together_55 : decode b_Top_together 55 = .ok (.iconst 1, 1) := by decide +kernel
theorem d_Top_together_56 : decode b_Top_together 56 = .ok (.iload 4, 2) := by decide +kernel
theorem d_Top_together_58 : decode b_Top_together 58 = .ok (.ishl, 1) := by decide +kernel
theorem d_Top_together_59 : decode b_Top_together 59 = .ok (.ior, 1) := by decide +kernel
theorem d_Top_together_60 : decode b_Top_together 60 = .ok (.iconst 0, 1) := by decide +kernel
theorem d_Top_together_61 : decode b_Top_together 61 = .ok (.invokevirtual 201, 3) := by decide +kernel
theorem d_Top_together_64 : decode b_Top_together 64 = .ok (.iload 4, 2) := by decide +kernel
theorem d_Top_together_66 : decode b_Top_together 66 = .ok (.iload_n 1, 1) := by decide +kernel
theorem d_Top_together_67 : decode b_Top_together 67 = .ok (.if_icmp .eq 24, 3) := by decide +kernel
theorem d_Top_together_70 : decode b_Top_together 70 = .ok (.aload_n 0, 1) := by decide +kernel
theorem d_Top_together_71 : decode b_Top_together 71 = .ok (.getfield 35, 3) := by decide +kernel
theorem d_Top_together_74 : decode b_Top_together 74 = .ok (.iload_n 2, 1) := by decide +kernel
theorem d_Top_together_75 : decode b_Top_together 75 = .ok (.bipush 100, 2) := by decide +kernel
theorem d_Top_together_77 : decode b_Top_together 77 = .ok (.irem, 1) := by decide +kernel
theorem d_Top_together_78 : decode b_Top_together 78 = .ok (.invokevirtual 188, 3) := by decide +kernel
theorem d_Top_together_81 : decode b_Top_together 81 = .ok (.ifCond .eq 10, 3) := by decide +kernel
theorem d_Top_together_84 : decode b_Top_together 84 = .ok (.iload_n 3, 1) := by decide +kernel
theorem d_Top_together_85 : decode b_Top_together 85 = .ok (.iconst 1, 1) := by decide +kernel
theorem d_Top_together_86 : decode b_Top_together 86 = .ok (.iload 4, 2) := by decide +kernel
theorem d_Top_together_88 : decode b_Top_together 88 = .ok (.ishl, 1) := by decide +kernel
theorem d_Top_together_89 : decode b_Top_together 89 = .ok (.ior, 1) := by decide +kernel
theorem d_Top_together_90 : decode b_Top_together 90 = .ok (.istore_n 3, 1) := by decide +kernel
theorem d_Top_together_91 : decode b_Top_together 91 = .ok (.iinc 4 1, 3) := by decide +kernel
theorem d_Top_together_94 : decode b_Top_together 94 = .ok (.goto (-58), 3) := by decide +kernel
theorem d_Top_together_97 : decode b_Top_together 97 = .ok (.iload_n 3, 1) := by decide +kernel
theorem d_Top_together_98 : decode b_Top_together 98 = .ok (.ireturn, 1) := by decide +kernel
theorem d_Socks_kept_0 : decode b_Socks_kept 0 = .ok (.aload_n 0, 1) := by decide +kernel
theorem d_Socks_kept_1 : decode b_Socks_kept 1 = .ok (.getfield 33, 3) := by decide +kernel
theorem d_Socks_kept_4 : decode b_Socks_kept 4 = .ok (.bipush 24, 2) := by decide +kernel
theorem d_Socks_kept_6 : decode b_Socks_kept 6 = .ok (.invokestatic 36, 3) := by decide +kernel
theorem d_Socks_kept_9 : decode b_Socks_kept 9 = .ok (.ireturn, 1) := by decide +kernel
theorem d_Top_trace_0 : decode b_Top_trace 0 = .ok (.iload_n 1, 1) := by decide +kernel
theorem d_Top_trace_1 : decode b_Top_trace 1 = .ok (.iconst 0, 1) := by decide +kernel
theorem d_Top_trace_2 : decode b_Top_trace 2 = .ok (.aload_n 0, 1) := by decide +kernel
theorem d_Top_trace_3 : decode b_Top_trace 3 = .ok (.getfield 81, 3) := by decide +kernel
theorem d_Top_trace_6 : decode b_Top_trace 6 = .ok (.invokevirtual 339, 3) := by decide +kernel
theorem d_Top_trace_9 : decode b_Top_trace 9 = .ok (.iconst 1, 1) := by decide +kernel
theorem d_Top_trace_10 : decode b_Top_trace 10 = .ok (.isub, 1) := by decide +kernel
theorem d_Top_trace_11 : decode b_Top_trace 11 = .ok (.invokestatic 108, 3) := by decide +kernel
theorem d_Top_trace_14 : decode b_Top_trace 14 = .ok (.ifCond .eq 15, 3) := by decide +kernel
theorem d_Top_trace_17 : decode b_Top_trace 17 = .ok (.aload_n 0, 1) := by decide +kernel
theorem d_Top_trace_18 : decode b_Top_trace 18 = .ok (.getfield 81, 3) := by decide +kernel
theorem d_Top_trace_21 : decode b_Top_trace 21 = .ok (.getfield 342, 3) := by decide +kernel
theorem d_Top_trace_24 : decode b_Top_trace 24 = .ok (.iload_n 1, 1) := by decide +kernel
theorem d_Top_trace_25 : decode b_Top_trace 25 = .ok (.iaload, 1) := by decide +kernel
theorem d_Top_trace_26 : decode b_Top_trace 26 = .ok (.goto 4, 3) := by decide +kernel
theorem d_Top_trace_29 : decode b_Top_trace 29 = .ok (.iconst (-1), 1) := by decide +kernel
theorem d_Top_trace_30 : decode b_Top_trace 30 = .ok (.ireturn, 1) := by decide +kernel
theorem d_Changes_takeBack_0 : decode b_Changes_takeBack 0 = .ok (.aload_n 0, 1) := by decide +kernel
theorem d_Changes_takeBack_1 : decode b_Changes_takeBack 1 = .ok (.getfield 19, 3) := by decide +kernel
theorem d_Changes_takeBack_4 : decode b_Changes_takeBack 4 = .ok (.ifCond .le 45, 3) := by decide +kernel
theorem d_Changes_takeBack_7 : decode b_Changes_takeBack 7 = .ok (.aload_n 0, 1) := by decide +kernel
theorem d_Changes_takeBack_8 : decode b_Changes_takeBack 8 = .ok (.dup, 1) := by decide +kernel
theorem d_Changes_takeBack_9 : decode b_Changes_takeBack 9 = .ok (.getfield 19, 3) := by decide +kernel
theorem d_Changes_takeBack_12 : decode b_Changes_takeBack 12 = .ok (.iconst 1, 1) := by decide +kernel
theorem d_Changes_takeBack_13 : decode b_Changes_takeBack 13 = .ok (.isub, 1) := by decide +kernel
theorem d_Changes_takeBack_14 : decode b_Changes_takeBack 14 = .ok (.putfield 19, 3) := by decide +kernel
theorem d_Changes_takeBack_17 : decode b_Changes_takeBack 17 = .ok (.aload_n 0, 1) := by decide +kernel
theorem d_Changes_takeBack_18 : decode b_Changes_takeBack 18 = .ok (.dup, 1) := by decide +kernel
theorem d_Changes_takeBack_19 : decode b_Changes_takeBack 19 = .ok (.getfield 26, 3) := by decide +kernel
theorem d_Changes_takeBack_22 : decode b_Changes_takeBack 22 = .ok (.iconst 1, 1) := by decide +kernel
theorem d_Changes_takeBack_23 : decode b_Changes_takeBack 23 = .ok (.iadd, 1) := by decide +kernel
theorem d_Changes_takeBack_24 : decode b_Changes_takeBack 24 = .ok (.putfield 26, 3) := by decide +kernel
theorem d_Changes_takeBack_27 : decode b_Changes_takeBack 27 = .ok (.aload_n 1, 1) := by decide +kernel
theorem d_Changes_takeBack_28 : decode b_Changes_takeBack 28 = .ok (.aload_n 0, 1) := by decide +kernel
theorem d_Changes_takeBack_29 : decode b_Changes_takeBack 29 = .ok (.getfield 9, 3) := by decide +kernel
theorem d_Changes_takeBack_32 : decode b_Changes_takeBack 32 = .ok (.aload_n 0, 1) := by decide +kernel
theorem d_Changes_takeBack_33 : decode b_Changes_takeBack 33 = .ok (.getfield 19, 3) := by decide +kernel
theorem d_Changes_takeBack_36 : decode b_Changes_takeBack 36 = .ok (.iaload, 1) := by decide +kernel
theorem d_Changes_takeBack_37 : decode b_Changes_takeBack 37 = .ok (.aload_n 0, 1) := by decide +kernel
theorem d_Changes_takeBack_38 : decode b_Changes_takeBack 38 = .ok (.getfield 13, 3) := by decide +kernel
theorem d_Changes_takeBack_41 : decode b_Changes_takeBack 41 = .ok (.aload_n 0, 1) := by decide +kernel
theorem d_Changes_takeBack_42 : decode b_Changes_takeBack 42 = .ok (.getfield 19, 3) := by decide +kernel
theorem d_Changes_takeBack_45 : decode b_Changes_takeBack 45 = .ok (.iaload, 1) := by decide +kernel
theorem d_Changes_takeBack_46 : decode b_Changes_takeBack 46 = .ok (.invokevirtual 35, 3) := by decide +kernel
theorem d_Changes_takeBack_49 : decode b_Changes_takeBack 49 = .ok (.return_, 1) := by decide +kernel
theorem d_Top_undo_0 : decode b_Top_undo 0 = .ok (.aload_n 0, 1) := by decide +kernel
theorem d_Top_undo_1 : decode b_Top_undo 1 = .ok (.getfield 74, 3) := by decide +kernel
theorem d_Top_undo_4 : decode b_Top_undo 4 = .ok (.getfield 322, 3) := by decide +kernel
theorem d_Top_undo_7 : decode b_Top_undo 7 = .ok (.ifCond .ne 6, 3) := by decide +kernel
theorem d_Top_undo_10 : decode b_Top_undo 10 = .ok (.bipush (-5), 2) := by decide +kernel
theorem d_Top_undo_12 : decode b_Top_undo 12 = .ok (.ireturn, 1) := by decide +kernel
theorem d_Top_undo_13 : decode b_Top_undo 13 = .ok (.aload_n 0, 1) := by decide +kernel
theorem d_Top_undo_14 : decode b_Top_undo 14 = .ok (.getfield 74, 3) := by decide +kernel
theorem d_Top_undo_17 : decode b_Top_undo 17 = .ok (.aload_n 0, 1) := by decide +kernel
theorem d_Top_undo_18 : decode b_Top_undo 18 = .ok (.getfield 10, 3) := by decide +kernel
theorem d_Top_undo_21 : decode b_Top_undo 21 = .ok (.invokevirtual 325, 3) := by decide +kernel
theorem d_Top_undo_24 : decode b_Top_undo 24 = .ok (.aload_n 0, 1) := by decide +kernel
theorem d_Top_undo_25 : decode b_Top_undo 25 = .ok (.getfield 74, 3) := by decide +kernel
theorem d_Top_undo_28 : decode b_Top_undo 28 = .ok (.getfield 322, 3) := by decide +kernel
theorem d_Top_undo_31 : decode b_Top_undo 31 = .ok (.ireturn, 1) := by decide +kernel
theorem d_Deeds_washAll_0 : decode b_Deeds_washAll 0 = .ok (.aload_n 1, 1) := by decide +kernel
theorem d_Deeds_washAll_1 : decode b_Deeds_washAll 1 = .ok (.invokevirtual 36, 3) := by decide +kernel
theorem d_Deeds_washAll_4 : decode b_Deeds_washAll 4 = .ok (.istore_n 3, 1) := by decide +kernel
theorem d_Deeds_washAll_5 : decode b_Deeds_washAll 5 = .ok (.aload_n 0, 1) := by decide +kernel
theorem d_Deeds_washAll_6 : decode b_Deeds_washAll 6 = .ok (.getfield 11, 3) := by decide +kernel
theorem d_Deeds_washAll_9 : decode b_Deeds_washAll 9 = .ok (.iconst 0, 1) := by decide +kernel
theorem d_Deeds_washAll_10 : decode b_Deeds_washAll 10 = .ok (.dup2, 1) := by decide +kernel
theorem d_Deeds_washAll_11 : decode b_Deeds_washAll 11 = .ok (.iaload, 1) := by decide +kernel
theorem d_Deeds_washAll_12 : decode b_Deeds_washAll 12 = .ok (.iconst 1, 1) := by decide +kernel
theorem d_Deeds_washAll_13 : decode b_Deeds_washAll 13 = .ok (.iadd, 1) := by decide +kernel
theorem d_Deeds_washAll_14 : decode b_Deeds_washAll 14 = .ok (.iastore, 1) := by decide +kernel
theorem d_Deeds_washAll_15 : decode b_Deeds_washAll 15 = .ok (.aload_n 0, 1) := by decide +kernel
theorem d_Deeds_washAll_16 : decode b_Deeds_washAll 16 = .ok (.getfield 11, 3) := by decide +kernel
theorem d_Deeds_washAll_19 : decode b_Deeds_washAll 19 = .ok (.iconst 1, 1) := by decide +kernel
theorem d_Deeds_washAll_20 : decode b_Deeds_washAll 20 = .ok (.dup2, 1) := by decide +kernel
theorem d_Deeds_washAll_21 : decode b_Deeds_washAll 21 = .ok (.iaload, 1) := by decide +kernel
theorem d_Deeds_washAll_22 : decode b_Deeds_washAll 22 = .ok (.iload_n 3, 1) := by decide +kernel
theorem d_Deeds_washAll_23 : decode b_Deeds_washAll 23 = .ok (.iadd, 1) := by decide +kernel
theorem d_Deeds_washAll_24 : decode b_Deeds_washAll 24 = .ok (.iastore, 1) := by decide +kernel
theorem d_Deeds_washAll_25 : decode b_Deeds_washAll 25 = .ok (.aload_n 0, 1) := by decide +kernel
theorem d_Deeds_washAll_26 : decode b_Deeds_washAll 26 = .ok (.getfield 11, 3) := by decide +kernel
theorem d_Deeds_washAll_29 : decode b_Deeds_washAll 29 = .ok (.iconst 2, 1) := by decide +kernel
theorem d_Deeds_washAll_30 : decode b_Deeds_washAll 30 = .ok (.dup2, 1) := by decide +kernel
theorem d_Deeds_washAll_31 : decode b_Deeds_washAll 31 = .ok (.iaload, 1) := by decide +kernel
theorem d_Deeds_washAll_32 : decode b_Deeds_washAll 32 = .ok (.aload_n 1, 1) := by decide +kernel
theorem d_Deeds_washAll_33 : decode b_Deeds_washAll 33 = .ok (.invokevirtual 42, 3) := by decide +kernel
theorem d_Deeds_washAll_36 : decode b_Deeds_washAll 36 = .ok (.invokestatic 45, 3) := by decide +kernel
theorem d_Deeds_washAll_39 : decode b_Deeds_washAll 39 = .ok (.iadd, 1) := by decide +kernel
theorem d_Deeds_washAll_40 : decode b_Deeds_washAll 40 = .ok (.iastore, 1) := by decide +kernel
theorem d_Deeds_washAll_41 : decode b_Deeds_washAll 41 = .ok (.aload_n 0, 1) := by decide +kernel
theorem d_Deeds_washAll_42 : decode b_Deeds_washAll 42 = .ok (.getfield 11, 3) := by decide +kernel
theorem d_Deeds_washAll_45 : decode b_Deeds_washAll 45 = .ok (.iconst 3, 1) := by decide +kernel
theorem d_Deeds_washAll_46 : decode b_Deeds_washAll 46 = .ok (.dup2, 1) := by decide +kernel
theorem d_Deeds_washAll_47 : decode b_Deeds_washAll 47 = .ok (.iaload, 1) := by decide +kernel
theorem d_Deeds_washAll_48 : decode b_Deeds_washAll 48 = .ok (.iload_n 2, 1) := by decide +kernel
theorem d_Deeds_washAll_49 : decode b_Deeds_washAll 49 = .ok (.iadd, 1) := by decide +kernel
theorem d_Deeds_washAll_50 : decode b_Deeds_washAll 50 = .ok (.iastore, 1) := by decide +kernel
theorem d_Deeds_washAll_51 : decode b_Deeds_washAll 51 = .ok (.iconst 0, 1) := by decide +kernel
theorem d_Deeds_washAll_52 : decode b_Deeds_washAll 52 = .ok (.istore 4, 2) := by decide +kernel
theorem d_Deeds_washAll_54 : decode b_Deeds_washAll 54 = .ok (.iload 4, 2) := by decide +kernel
theorem d_Deeds_washAll_56 : decode b_Deeds_washAll 56 = .ok (.aload_n 0, 1) := by decide +kernel
theorem d_Deeds_washAll_57 : decode b_Deeds_washAll 57 = .ok (.getfield 32, 3) := by decide +kernel
theorem d_Deeds_washAll_60 : decode b_Deeds_washAll 60 = .ok (.getfield 51, 3) := by decide +kernel
theorem d_Deeds_washAll_63 : decode b_Deeds_washAll 63 = .ok (.if_icmp .ge 91, 3) := by decide +kernel
theorem d_Deeds_washAll_66 : decode b_Deeds_washAll 66 = .ok (.aload_n 1, 1) := by decide +kernel
theorem d_Deeds_washAll_67 : decode b_Deeds_washAll 67 = .ok (.getfield 56, 3) := by decide +kernel
theorem d_Deeds_washAll_70 : decode b_Deeds_washAll 70 = .ok (.iload 4, 2) := by decide +kernel
theorem d_Deeds_washAll_72 : decode b_Deeds_washAll 72 = .ok (.invokestatic 59, 3) := by decide +kernel
theorem d_Deeds_washAll_75 : decode b_Deeds_washAll 75 = .ok (.ifCond .eq 73, 3) := by decide +kernel
theorem d_Deeds_washAll_78 : decode b_Deeds_washAll 78 = .ok (.aload_n 0, 1) := by decide +kernel
theorem d_Deeds_washAll_79 : decode b_Deeds_washAll 79 = .ok (.getfield 32, 3) := by decide +kernel
theorem d_Deeds_washAll_82 : decode b_Deeds_washAll 82 = .ok (.getfield 63, 3) := by decide +kernel
theorem d_Deeds_washAll_85 : decode b_Deeds_washAll 85 = .ok (.iload 4, 2) := by decide +kernel
theorem d_Deeds_washAll_87 : decode b_Deeds_washAll 87 = .ok (.bipush 99, 2) := by decide +kernel
theorem d_Deeds_washAll_89 : decode b_Deeds_washAll 89 = .ok (.aload_n 0, 1) := by decide +kernel
theorem d_Deeds_washAll_90 : decode b_Deeds_washAll 90 = .ok (.getfield 32, 3) := by decide +kernel
theorem d_Deeds_washAll_93 : decode b_Deeds_washAll 93 = .ok (.getfield 63, 3) := by decide +kernel
theorem d_Deeds_washAll_96 : decode b_Deeds_washAll 96 = .ok (.iload 4, 2) := by decide +kernel
theorem d_Deeds_washAll_98 : decode b_Deeds_washAll 98 = .ok (.iaload, 1) := by decide +kernel
theorem d_Deeds_washAll_99 : decode b_Deeds_washAll 99 = .ok (.aload_n 1, 1) := by decide +kernel
theorem d_Deeds_washAll_100 : decode b_Deeds_washAll 100 = .ok (.iload 4, 2) := by decide +kernel
theorem d_Deeds_washAll_102 : decode b_Deeds_washAll 102 = .ok (.invokevirtual 66, 3) := by decide +kernel
theorem d_Deeds_washAll_105 : decode b_Deeds_washAll 105 = .ok (.iadd, 1) := by decide +kernel
theorem d_Deeds_washAll_106 : decode b_Deeds_washAll 106 = .ok (.invokestatic 69, 3) := by decide +kernel
theorem d_Deeds_washAll_109 : decode b_Deeds_washAll 109 = .ok (.iastore, 1) := by decide +kernel
theorem d_Deeds_washAll_110 : decode b_Deeds_washAll 110 = .ok (.aload_n 0, 1) := by decide +kernel
theorem d_Deeds_washAll_111 : decode b_Deeds_washAll 111 = .ok (.getfield 32, 3) := by decide +kernel
theorem d_Deeds_washAll_114 : decode b_Deeds_washAll 114 = .ok (.iload 4, 2) := by decide +kernel
theorem d_Deeds_washAll_116 : decode b_Deeds_washAll 116 = .ok (.iconst 2, 1) := by decide +kernel
theorem d_Deeds_washAll_117 : decode b_Deeds_washAll 117 = .ok (.invokevirtual 75, 3) := by decide +kernel
theorem d_Deeds_washAll_120 : decode b_Deeds_washAll 120 = .ok (.istore 5, 2) := by decide +kernel
theorem d_Deeds_washAll_122 : decode b_Deeds_washAll 122 = .ok (.aload_n 0, 1) := by decide +kernel
theorem d_Deeds_washAll_123 : decode b_Deeds_washAll 123 = .ok (.getfield 32, 3) := by decide +kernel
theorem d_Deeds_washAll_126 : decode b_Deeds_washAll 126 = .ok (.aload_n 0, 1) := by decide +kernel
theorem d_Deeds_washAll_127 : decode b_Deeds_washAll 127 = .ok (.getfield 32, 3) := by decide +kernel
theorem d_Deeds_washAll_130 : decode b_Deeds_washAll 130 = .ok (.iload 4, 2) := by decide +kernel
theorem d_Deeds_washAll_132 : decode b_Deeds_washAll 132 = .ok (.iconst 2, 1) := by decide +kernel
theorem d_Deeds_washAll_133 : decode b_Deeds_washAll 133 = .ok (.invokevirtual 78, 3) := by decide +kernel
theorem d_Deeds_washAll_136 : decode b_Deeds_washAll 136 = .ok (.bipush 99, 2) := by decide +kernel
theorem d_Deeds_washAll_138 : decode b_Deeds_washAll 138 = .ok (.iload 5, 2) := by decide +kernel
theorem d_Deeds_washAll_140 : decode b_Deeds_washAll 140 = .ok (.iconst 1, 1) := by decide +kernel
theorem d_Deeds_washAll_141 : decode b_Deeds_washAll 141 = .ok (.iadd, 1) := by decide +kernel
theorem d_Deeds_washAll_142 : decode b_Deeds_washAll 142 = .ok (.invokestatic 69, 3) := by decide +kernel
theorem d_Deeds_washAll_145 : decode b_Deeds_washAll 145 = .ok (.invokevirtual 81, 3) := by decide +kernel
theorem d_Deeds_washAll_148 : decode b_Deeds_washAll 148 = .ok (.iinc 4 1, 3) := by decide +kernel
theorem d_Deeds_washAll_151 : decode b_Deeds_washAll 151 = .ok (.goto (-97), 3) := by decide +kernel
theorem d_Deeds_washAll_154 : decode b_Deeds_washAll 154 = .ok (.iload_n 3, 1) := by decide +kernel
theorem d_Deeds_washAll_155 : decode b_Deeds_washAll 155 = .ok (.ireturn, 1) := by decide +kernel
theorem d_Top_wash_0 : decode b_Top_wash 0 = .ok (.aload_n 0, 1) := by decide +kernel
theorem d_Top_wash_1 : decode b_Top_wash 1 = .ok (.iload_n 1, 1) := by decide +kernel
theorem d_Top_wash_2 : decode b_Top_wash 2 = .ok (.invokevirtual 160, 3) := by decide +kernel
theorem d_Top_wash_5 : decode b_Top_wash 5 = .ok (.ifCond .eq 10, 3) := by decide +kernel
theorem d_Top_wash_8 : decode b_Top_wash 8 = .ok (.iload_n 2, 1) := by decide +kernel
theorem d_Top_wash_9 : decode b_Top_wash 9 = .ok (.invokestatic 163, 3) := by decide +kernel
theorem d_Top_wash_12 : decode b_Top_wash 12 = .ok (.ifCond .ne 5, 3) := by decide +kernel
theorem d_Top_wash_15 : decode b_Top_wash 15 = .ok (.iconst (-1), 1) := by decide +kernel
theorem d_Top_wash_16 : decode b_Top_wash 16 = .ok (.ireturn, 1) := by decide +kernel
theorem d_Top_wash_17 : decode b_Top_wash 17 = .ok (.aload_n 0, 1) := by decide +kernel
theorem d_Top_wash_18 : decode b_Top_wash 18 = .ok (.getfield 35, 3) := by decide +kernel
theorem d_Top_wash_21 : decode b_Top_wash 21 = .ok (.iload_n 1, 1) := by decide +kernel
theorem d_Top_wash_22 : decode b_Top_wash 22 = .ok (.iload_n 2, 1) := by decide +kernel
theorem d_Top_wash_23 : decode b_Top_wash 23 = .ok (.invokevirtual 166, 3) := by decide +kernel
theorem d_Top_wash_26 : decode b_Top_wash 26 = .ok (.aload_n 0, 1) := by decide +kernel
theorem d_Top_wash_27 : decode b_Top_wash 27 = .ok (.getfield 35, 3) := by decide +kernel
theorem d_Top_wash_30 : decode b_Top_wash 30 = .ok (.invokevirtual 179, 3) := by decide +kernel
theorem d_Top_wash_33 : decode b_Top_wash 33 = .ok (.ifCond .eq 21, 3) := by decide +kernel
theorem d_Top_wash_36 : decode b_Top_wash 36 = .ok (.aload_n 0, 1) := by decide +kernel
theorem d_Top_wash_37 : decode b_Top_wash 37 = .ok (.getfield 67, 3) := by decide +kernel
theorem d_Top_wash_40 : decode b_Top_wash 40 = .ok (.aload_n 0, 1) := by decide +kernel
theorem d_Top_wash_41 : decode b_Top_wash 41 = .ok (.getfield 35, 3) := by decide +kernel
theorem d_Top_wash_44 : decode b_Top_wash 44 = .ok (.iload_n 2, 1) := by decide +kernel
theorem d_Top_wash_45 : decode b_Top_wash 45 = .ok (.bipush 10, 2) := by decide +kernel
theorem d_Top_wash_47 : decode b_Top_wash 47 = .ok (.irem, 1) := by decide +kernel
theorem d_Top_wash_48 : decode b_Top_wash 48 = .ok (.invokevirtual 296, 3) := by decide +kernel
theorem d_Top_wash_51 : decode b_Top_wash 51 = .ok (.goto 5, 3) := by decide +kernel
theorem d_Top_wash_54 : decode b_Top_wash 54 = .ok (.bipush (-5), 2) := by decide +kernel
theorem d_Top_wash_56 : decode b_Top_wash 56 = .ok (.ireturn, 1) := by decide +kernel
theorem d_JI_numberOfTrailingZeros_0 : decode b_JI_numberOfTrailingZeros 0 = .ok (.iload_n 0, 1) := by decide +kernel
theorem d_JI_numberOfTrailingZeros_1 : decode b_JI_numberOfTrailingZeros 1 = .ok (.iconst (-1), 1) := by decide +kernel
theorem d_JI_numberOfTrailingZeros_2 : decode b_JI_numberOfTrailingZeros 2 = .ok (.ixor, 1) := by decide +kernel
theorem d_JI_numberOfTrailingZeros_3 : decode b_JI_numberOfTrailingZeros 3 = .ok (.iload_n 0, 1) := by decide +kernel
theorem d_JI_numberOfTrailingZeros_4 : decode b_JI_numberOfTrailingZeros 4 = .ok (.iconst 1, 1) := by decide +kernel
theorem d_JI_numberOfTrailingZeros_5 : decode b_JI_numberOfTrailingZeros 5 = .ok (.isub, 1) := by decide +kernel
theorem d_JI_numberOfTrailingZeros_6 : decode b_JI_numberOfTrailingZeros 6 = .ok (.iand, 1) := by decide +kernel
theorem d_JI_numberOfTrailingZeros_7 : decode b_JI_numberOfTrailingZeros 7 = .ok (.istore_n 0, 1) := by decide +kernel
theorem d_JI_numberOfTrailingZeros_8 : decode b_JI_numberOfTrailingZeros 8 = .ok (.iload_n 0, 1) := by decide +kernel
theorem d_JI_numberOfTrailingZeros_9 : decode b_JI_numberOfTrailingZeros 9 = .ok (.ifCond .gt 8, 3) := by decide +kernel
theorem d_JI_numberOfTrailingZeros_12 : decode b_JI_numberOfTrailingZeros 12 = .ok (.iload_n 0, 1) := by decide +kernel
theorem d_JI_numberOfTrailingZeros_13 : decode b_JI_numberOfTrailingZeros 13 = .ok (.bipush 32, 2) := by decide +kernel
theorem d_JI_numberOfTrailingZeros_15 : decode b_JI_numberOfTrailingZeros 15 = .ok (.iand, 1) := by decide +kernel
theorem d_JI_numberOfTrailingZeros_16 : decode b_JI_numberOfTrailingZeros 16 = .ok (.ireturn, 1) := by decide +kernel
theorem d_JI_numberOfTrailingZeros_17 : decode b_JI_numberOfTrailingZeros 17 = .ok (.iconst 1, 1) := by decide +kernel
theorem d_JI_numberOfTrailingZeros_18 : decode b_JI_numberOfTrailingZeros 18 = .ok (.istore_n 1, 1) := by decide +kernel
theorem d_JI_numberOfTrailingZeros_19 : decode b_JI_numberOfTrailingZeros 19 = .ok (.iload_n 0, 1) := by decide +kernel
theorem d_JI_numberOfTrailingZeros_20 : decode b_JI_numberOfTrailingZeros 20 = .ok (.ldc_w 264, 3) := by decide +kernel
theorem d_JI_numberOfTrailingZeros_23 : decode b_JI_numberOfTrailingZeros 23 = .ok (.if_icmp .le 11, 3) := by decide +kernel
theorem d_JI_numberOfTrailingZeros_26 : decode b_JI_numberOfTrailingZeros 26 = .ok (.iinc 1 16, 3) := by decide +kernel
theorem d_JI_numberOfTrailingZeros_29 : decode b_JI_numberOfTrailingZeros 29 = .ok (.iload_n 0, 1) := by decide +kernel
theorem d_JI_numberOfTrailingZeros_30 : decode b_JI_numberOfTrailingZeros 30 = .ok (.bipush 16, 2) := by decide +kernel
theorem d_JI_numberOfTrailingZeros_32 : decode b_JI_numberOfTrailingZeros 32 = .ok (.iushr, 1) := by decide +kernel
theorem d_JI_numberOfTrailingZeros_33 : decode b_JI_numberOfTrailingZeros 33 = .ok (.istore_n 0, 1) := by decide +kernel
theorem d_JI_numberOfTrailingZeros_34 : decode b_JI_numberOfTrailingZeros 34 = .ok (.iload_n 0, 1) := by decide +kernel
theorem d_JI_numberOfTrailingZeros_35 : decode b_JI_numberOfTrailingZeros 35 = .ok (.sipush 256, 3) := by decide +kernel
theorem d_JI_numberOfTrailingZeros_38 : decode b_JI_numberOfTrailingZeros 38 = .ok (.if_icmp .le 11, 3) := by decide +kernel
theorem d_JI_numberOfTrailingZeros_41 : decode b_JI_numberOfTrailingZeros 41 = .ok (.iinc 1 8, 3) := by decide +kernel
theorem d_JI_numberOfTrailingZeros_44 : decode b_JI_numberOfTrailingZeros 44 = .ok (.iload_n 0, 1) := by decide +kernel
theorem d_JI_numberOfTrailingZeros_45 : decode b_JI_numberOfTrailingZeros 45 = .ok (.bipush 8, 2) := by decide +kernel
theorem d_JI_numberOfTrailingZeros_47 : decode b_JI_numberOfTrailingZeros 47 = .ok (.iushr, 1) := by decide +kernel
theorem d_JI_numberOfTrailingZeros_48 : decode b_JI_numberOfTrailingZeros 48 = .ok (.istore_n 0, 1) := by decide +kernel
theorem d_JI_numberOfTrailingZeros_49 : decode b_JI_numberOfTrailingZeros 49 = .ok (.iload_n 0, 1) := by decide +kernel
theorem d_JI_numberOfTrailingZeros_50 : decode b_JI_numberOfTrailingZeros 50 = .ok (.bipush 16, 2) := by decide +kernel
theorem d_JI_numberOfTrailingZeros_52 : decode b_JI_numberOfTrailingZeros 52 = .ok (.if_icmp .le 10, 3) := by decide +kernel
theorem d_JI_numberOfTrailingZeros_55 : decode b_JI_numberOfTrailingZeros 55 = .ok (.iinc 1 4, 3) := by decide +kernel
theorem d_JI_numberOfTrailingZeros_58 : decode b_JI_numberOfTrailingZeros 58 = .ok (.iload_n 0, 1) := by decide +kernel
theorem d_JI_numberOfTrailingZeros_59 : decode b_JI_numberOfTrailingZeros 59 = .ok (.iconst 4, 1) := by decide +kernel
theorem d_JI_numberOfTrailingZeros_60 : decode b_JI_numberOfTrailingZeros 60 = .ok (.iushr, 1) := by decide +kernel
theorem d_JI_numberOfTrailingZeros_61 : decode b_JI_numberOfTrailingZeros 61 = .ok (.istore_n 0, 1) := by decide +kernel
theorem d_JI_numberOfTrailingZeros_62 : decode b_JI_numberOfTrailingZeros 62 = .ok (.iload_n 0, 1) := by decide +kernel
theorem d_JI_numberOfTrailingZeros_63 : decode b_JI_numberOfTrailingZeros 63 = .ok (.iconst 4, 1) := by decide +kernel
theorem d_JI_numberOfTrailingZeros_64 : decode b_JI_numberOfTrailingZeros 64 = .ok (.if_icmp .le 10, 3) := by decide +kernel
theorem d_JI_numberOfTrailingZeros_67 : decode b_JI_numberOfTrailingZeros 67 = .ok (.iinc 1 2, 3) := by decide +kernel
theorem d_JI_numberOfTrailingZeros_70 : decode b_JI_numberOfTrailingZeros 70 = .ok (.iload_n 0, 1) := by decide +kernel
theorem d_JI_numberOfTrailingZeros_71 : decode b_JI_numberOfTrailingZeros 71 = .ok (.iconst 2, 1) := by decide +kernel
theorem d_JI_numberOfTrailingZeros_72 : decode b_JI_numberOfTrailingZeros 72 = .ok (.iushr, 1) := by decide +kernel
theorem d_JI_numberOfTrailingZeros_73 : decode b_JI_numberOfTrailingZeros 73 = .ok (.istore_n 0, 1) := by decide +kernel
theorem d_JI_numberOfTrailingZeros_74 : decode b_JI_numberOfTrailingZeros 74 = .ok (.iload_n 1, 1) := by decide +kernel
theorem d_JI_numberOfTrailingZeros_75 : decode b_JI_numberOfTrailingZeros 75 = .ok (.iload_n 0, 1) := by decide +kernel
theorem d_JI_numberOfTrailingZeros_76 : decode b_JI_numberOfTrailingZeros 76 = .ok (.iconst 1, 1) := by decide +kernel
theorem d_JI_numberOfTrailingZeros_77 : decode b_JI_numberOfTrailingZeros 77 = .ok (.iushr, 1) := by decide +kernel
theorem d_JI_numberOfTrailingZeros_78 : decode b_JI_numberOfTrailingZeros 78 = .ok (.iadd, 1) := by decide +kernel
theorem d_JI_numberOfTrailingZeros_79 : decode b_JI_numberOfTrailingZeros 79 = .ok (.ireturn, 1) := by decide +kernel
theorem d_Top_which_0 : decode b_Top_which 0 = .ok (.aload_n 0, 1) := by decide +kernel
theorem d_Top_which_1 : decode b_Top_which 1 = .ok (.iload_n 1, 1) := by decide +kernel
theorem d_Top_which_2 : decode b_Top_which 2 = .ok (.iconst 1, 1) := by decide +kernel
theorem d_Top_which_3 : decode b_Top_which 3 = .ok (.invokevirtual 112, 3) := by decide +kernel
theorem d_Top_which_6 : decode b_Top_which 6 = .ok (.istore 5, 2) := by decide +kernel
theorem d_Top_which_8 : decode b_Top_which 8 = .ok (.iload 5, 2) := by decide +kernel
theorem d_Top_which_10 : decode b_Top_which 10 = .ok (.iconst (-1), 1) := by decide +kernel
theorem d_Top_which_11 : decode b_Top_which 11 = .ok (.if_icmp .eq 28, 3) := by decide +kernel
theorem d_Top_which_14 : decode b_Top_which 14 = .ok (.aload_n 0, 1) := by decide +kernel
theorem d_Top_which_15 : decode b_Top_which 15 = .ok (.iload_n 2, 1) := by decide +kernel
theorem d_Top_which_16 : decode b_Top_which 16 = .ok (.invokevirtual 160, 3) := by decide +kernel
theorem d_Top_which_19 : decode b_Top_which 19 = .ok (.ifCond .eq 20, 3) := by decide +kernel
theorem d_Top_which_22 : decode b_Top_which 22 = .ok (.iload_n 3, 1) := by decide +kernel
theorem d_Top_which_23 : decode b_Top_which 23 = .ok (.invokestatic 163, 3) := by decide +kernel
theorem d_Top_which_26 : decode b_Top_which 26 = .ok (.ifCond .eq 13, 3) := by decide +kernel
theorem d_Top_which_29 : decode b_Top_which 29 = .ok (.iload 4, 2) := by decide +kernel
theorem d_Top_which_31 : decode b_Top_which 31 = .ok (.iconst 0, 1) := by decide +kernel
theorem d_Top_which_32 : decode b_Top_which 32 = .ok (.iconst 1, 1) := by decide +kernel
theorem d_Top_which_33 : decode b_Top_which 33 = .ok (.invokestatic 108, 3) := by decide +kernel
theorem d_Top_which_36 : decode b_Top_which 36 = .ok (.ifCond .ne 5, 3) := by decide +kernel
theorem d_Top_which_39 : decode b_Top_which 39 = .ok (.iconst (-1), 1) := by decide +kernel
theorem d_Top_which_40 : decode b_Top_which 40 = .ok (.ireturn, 1) := by decide +kernel
theorem d_Top_which_41 : decode b_Top_which 41 = .ok (.iload 5, 2) := by decide +kernel
theorem d_Top_which_43 : decode b_Top_which 43 = .ok (.ifCond .eq 6, 3) := by decide +kernel
theorem d_Top_which_46 : decode b_Top_which 46 = .ok (.iload 5, 2) := by decide +kernel
theorem d_Top_which_48 : decode b_Top_which 48 = .ok (.ireturn, 1) := by decide +kernel
theorem d_Top_which_49 : decode b_Top_which 49 = .ok (.aload_n 0, 1) := by decide +kernel
theorem d_Top_which_50 : decode b_Top_which 50 = .ok (.aload_n 0, 1) := by decide +kernel
theorem d_Top_which_51 : decode b_Top_which 51 = .ok (.getfield 87, 3) := by decide +kernel
theorem d_Top_which_54 : decode b_Top_which 54 = .ok (.iload_n 1, 1) := by decide +kernel
theorem d_Top_which_55 : decode b_Top_which 55 = .ok (.aaload, 1) := by decide +kernel
theorem d_Top_which_56 : decode b_Top_which 56 = .ok (.iload_n 2, 1) := by decide +kernel
theorem d_Top_which_57 : decode b_Top_which 57 = .ok (.iload_n 3, 1) := by decide +kernel
theorem d_Top_which_58 : decode b_Top_which 58 = .ok (.invokevirtual 284, 3) := by decide +kernel
theorem d_Top_which_61 : decode b_Top_which 61 = .ok (.istore 6, 2) := by decide +kernel
theorem d_Top_which_63 : decode b_Top_which 63 = .ok (.iload 4, 2) := by decide +kernel
theorem d_Top_which_65 : decode b_Top_which 65 = .ok (.ifCond .ne 9, 3) := by decide +kernel
theorem d_Top_which_68 : decode b_Top_which 68 = .ok (.iload 6, 2) := by decide +kernel
theorem d_Top_which_70 : decode b_Top_which 70 = .ok (.invokestatic 210, 3) := by decide +kernel
theorem d_Top_which_73 : decode b_Top_which 73 = .ok (.ireturn, 1) := by decide +kernel
theorem d_Top_which_74 : decode b_Top_which 74 = .ok (.iload 6, 2) := by decide +kernel
theorem d_Top_which_76 : decode b_Top_which 76 = .ok (.ifCond .ne 8, 3) := by decide +kernel
theorem d_Top_which_79 : decode b_Top_which 79 = .ok (.bipush (-2), 2) := by decide +kernel
theorem d_Top_which_81 : decode b_Top_which 81 = .ok (.goto 8, 3) := by decide +kernel
theorem d_Top_which_84 : decode b_Top_which 84 = .ok (.iload 6, 2) := by decide +kernel
theorem d_Top_which_86 : decode b_Top_which 86 = .ok (.invokestatic 287, 3) := by decide +kernel
theorem d_Top_which_89 : decode b_Top_which 89 = .ok (.ireturn, 1) := by decide +kernel
theorem d_M_ran_0 : decode b_M_ran 0 = .ok (.aload_n 0, 1) := by decide +kernel
theorem d_M_ran_1 : decode b_M_ran 1 = .ok (.getfield 385, 3) := by decide +kernel
theorem d_M_ran_4 : decode b_M_ran 4 = .ok (.bipush 24, 2) := by decide +kernel
theorem d_M_ran_6 : decode b_M_ran 6 = .ok (.if_icmp .ge 13, 3) := by decide +kernel
theorem d_M_ran_9 : decode b_M_ran 9 = .ok (.aload_n 0, 1) := by decide +kernel
theorem d_M_ran_10 : decode b_M_ran 10 = .ok (.getfield 131, 3) := by decide +kernel
theorem d_M_ran_13 : decode b_M_ran 13 = .ok (.aload_n 0, 1) := by decide +kernel
theorem d_M_ran_14 : decode b_M_ran 14 = .ok (.getfield 385, 3) := by decide +kernel
theorem d_M_ran_17 : decode b_M_ran 17 = .ok (.iload_n 1, 1) := by decide +kernel
theorem d_M_ran_18 : decode b_M_ran 18 = .ok (.iastore, 1) := by decide +kernel
theorem d_M_ran_19 : decode b_M_ran 19 = .ok (.aload_n 0, 1) := by decide +kernel
theorem d_M_ran_20 : decode b_M_ran 20 = .ok (.dup, 1) := by decide +kernel
theorem d_M_ran_21 : decode b_M_ran 21 = .ok (.getfield 385, 3) := by decide +kernel
theorem d_M_ran_24 : decode b_M_ran 24 = .ok (.iconst 1, 1) := by decide +kernel
theorem d_M_ran_25 : decode b_M_ran 25 = .ok (.iadd, 1) := by decide +kernel
theorem d_M_ran_26 : decode b_M_ran 26 = .ok (.putfield 385, 3) := by decide +kernel
theorem d_M_ran_29 : decode b_M_ran 29 = .ok (.return_, 1) := by decide +kernel
theorem d_M_plainDries_0 : decode b_M_plainDries 0 = .ok (.aload_n 0, 1) := by decide +kernel
theorem d_M_plainDries_1 : decode b_M_plainDries 1 = .ok (.bipush 11, 2) := by decide +kernel
theorem d_M_plainDries_3 : decode b_M_plainDries 3 = .ok (.invokevirtual 388, 3) := by decide +kernel
theorem d_M_plainDries_6 : decode b_M_plainDries 6 = .ok (.iload_n 2, 1) := by decide +kernel
theorem d_M_plainDries_7 : decode b_M_plainDries 7 = .ok (.iload_n 1, 1) := by decide +kernel
theorem d_M_plainDries_8 : decode b_M_plainDries 8 = .ok (.ixor, 1) := by decide +kernel
theorem d_M_plainDries_9 : decode b_M_plainDries 9 = .ok (.ireturn, 1) := by decide +kernel
theorem d_M_jeansDries_0 : decode b_M_jeansDries 0 = .ok (.aload_n 0, 1) := by decide +kernel
theorem d_M_jeansDries_1 : decode b_M_jeansDries 1 = .ok (.bipush 40, 2) := by decide +kernel
theorem d_M_jeansDries_3 : decode b_M_jeansDries 3 = .ok (.invokevirtual 388, 3) := by decide +kernel
theorem d_M_jeansDries_6 : decode b_M_jeansDries 6 = .ok (.aload_n 0, 1) := by decide +kernel
theorem d_M_jeansDries_7 : decode b_M_jeansDries 7 = .ok (.iload_n 1, 1) := by decide +kernel
theorem d_M_jeansDries_8 : decode b_M_jeansDries 8 = .ok (.iload_n 2, 1) := by decide +kernel
theorem d_M_jeansDries_9 : decode b_M_jeansDries 9 = .ok (.invokevirtual 412, 3) := by decide +kernel
theorem d_M_jeansDries_12 : decode b_M_jeansDries 12 = .ok (.iconst 3, 1) := by decide +kernel
theorem d_M_jeansDries_13 : decode b_M_jeansDries 13 = .ok (.imul, 1) := by decide +kernel
theorem d_M_jeansDries_14 : decode b_M_jeansDries 14 = .ok (.ireturn, 1) := by decide +kernel
theorem d_M_plainRuns_0 : decode b_M_plainRuns 0 = .ok (.aload_n 0, 1) := by decide +kernel
theorem d_M_plainRuns_1 : decode b_M_plainRuns 1 = .ok (.iconst 1, 1) := by decide +kernel
theorem d_M_plainRuns_2 : decode b_M_plainRuns 2 = .ok (.invokevirtual 388, 3) := by decide +kernel
theorem d_M_plainRuns_5 : decode b_M_plainRuns 5 = .ok (.iload_n 2, 1) := by decide +kernel
theorem d_M_plainRuns_6 : decode b_M_plainRuns 6 = .ok (.iload_n 1, 1) := by decide +kernel
theorem d_M_plainRuns_7 : decode b_M_plainRuns 7 = .ok (.iadd, 1) := by decide +kernel
theorem d_M_plainRuns_8 : decode b_M_plainRuns 8 = .ok (.ireturn, 1) := by decide +kernel
theorem d_M_clothRuns_0 : decode b_M_clothRuns 0 = .ok (.aload_n 0, 1) := by decide +kernel
theorem d_M_clothRuns_1 : decode b_M_clothRuns 1 = .ok (.bipush 70, 2) := by decide +kernel
theorem d_M_clothRuns_3 : decode b_M_clothRuns 3 = .ok (.invokevirtual 388, 3) := by decide +kernel
theorem d_M_clothRuns_6 : decode b_M_clothRuns 6 = .ok (.aload_n 0, 1) := by decide +kernel
theorem d_M_clothRuns_7 : decode b_M_clothRuns 7 = .ok (.iload_n 1, 1) := by decide +kernel
theorem d_M_clothRuns_8 : decode b_M_clothRuns 8 = .ok (.iload_n 2, 1) := by decide +kernel
theorem d_M_clothRuns_9 : decode b_M_clothRuns 9 = .ok (.invokevirtual 391, 3) := by decide +kernel
theorem d_M_clothRuns_12 : decode b_M_clothRuns 12 = .ok (.iconst 2, 1) := by decide +kernel
theorem d_M_clothRuns_13 : decode b_M_clothRuns 13 = .ok (.imul, 1) := by decide +kernel
theorem d_M_clothRuns_14 : decode b_M_clothRuns 14 = .ok (.ireturn, 1) := by decide +kernel
theorem d_M_isUnder_0 : decode b_M_isUnder 0 = .ok (.iload_n 1, 1) := by decide +kernel
theorem d_M_isUnder_1 : decode b_M_isUnder 1 = .ok (.ifCond .eq 55, 3) := by decide +kernel
theorem d_M_isUnder_4 : decode b_M_isUnder 4 = .ok (.iload_n 0, 1) := by decide +kernel
theorem d_M_isUnder_5 : decode b_M_isUnder 5 = .ok (.iload_n 1, 1) := by decide +kernel
theorem d_M_isUnder_6 : decode b_M_isUnder 6 = .ok (.if_icmp .eq 50, 3) := by decide +kernel
theorem d_M_isUnder_9 : decode b_M_isUnder 9 = .ok (.iload_n 1, 1) := by decide +kernel
theorem d_M_isUnder_10 : decode b_M_isUnder 10 = .ok (.iconst 1, 1) := by decide +kernel
theorem d_M_isUnder_11 : decode b_M_isUnder 11 = .ok (.if_icmp .ne 8, 3) := by decide +kernel
theorem d_M_isUnder_14 : decode b_M_isUnder 14 = .ok (.iload_n 0, 1) := by decide +kernel
theorem d_M_isUnder_15 : decode b_M_isUnder 15 = .ok (.iconst 4, 1) := by decide +kernel
theorem d_M_isUnder_16 : decode b_M_isUnder 16 = .ok (.if_icmp .eq 40, 3) := by decide +kernel
theorem d_M_isUnder_19 : decode b_M_isUnder 19 = .ok (.iload_n 1, 1) := by decide +kernel
theorem d_M_isUnder_20 : decode b_M_isUnder 20 = .ok (.iconst 2, 1) := by decide +kernel
theorem d_M_isUnder_21 : decode b_M_isUnder 21 = .ok (.if_icmp .ne 13, 3) := by decide +kernel
theorem d_M_isUnder_24 : decode b_M_isUnder 24 = .ok (.iload_n 0, 1) := by decide +kernel
theorem d_M_isUnder_25 : decode b_M_isUnder 25 = .ok (.iconst 3, 1) := by decide +kernel
theorem d_M_isUnder_26 : decode b_M_isUnder 26 = .ok (.if_icmp .eq 30, 3) := by decide +kernel
theorem d_M_isUnder_29 : decode b_M_isUnder 29 = .ok (.iload_n 0, 1) := by decide +kernel
theorem d_M_isUnder_30 : decode b_M_isUnder 30 = .ok (.iconst 5, 1) := by decide +kernel
theorem d_M_isUnder_31 : decode b_M_isUnder 31 = .ok (.if_icmp .eq 25, 3) := by decide +kernel
theorem d_M_isUnder_34 : decode b_M_isUnder 34 = .ok (.iload_n 1, 1) := by decide +kernel
theorem d_M_isUnder_35 : decode b_M_isUnder 35 = .ok (.iconst 3, 1) := by decide +kernel
theorem d_M_isUnder_36 : decode b_M_isUnder 36 = .ok (.if_icmp .ne 8, 3) := by decide +kernel
theorem d_M_isUnder_39 : decode b_M_isUnder 39 = .ok (.iload_n 0, 1) := by decide +kernel
theorem d_M_isUnder_40 : decode b_M_isUnder 40 = .ok (.iconst 5, 1) := by decide +kernel
theorem d_M_isUnder_41 : decode b_M_isUnder 41 = .ok (.if_icmp .eq 15, 3) := by decide +kernel
theorem d_M_isUnder_44 : decode b_M_isUnder 44 = .ok (.iload_n 1, 1) := by decide +kernel
theorem d_M_isUnder_45 : decode b_M_isUnder 45 = .ok (.bipush 6, 2) := by decide +kernel
theorem d_M_isUnder_47 : decode b_M_isUnder 47 = .ok (.if_icmp .ne 13, 3) := by decide +kernel
theorem d_M_isUnder_50 : decode b_M_isUnder 50 = .ok (.iload_n 0, 1) := by decide +kernel
theorem d_M_isUnder_51 : decode b_M_isUnder 51 = .ok (.bipush 7, 2) := by decide +kernel
theorem d_M_isUnder_53 : decode b_M_isUnder 53 = .ok (.if_icmp .ne 7, 3) := by decide +kernel
theorem d_M_isUnder_56 : decode b_M_isUnder 56 = .ok (.iconst 1, 1) := by decide +kernel
theorem d_M_isUnder_57 : decode b_M_isUnder 57 = .ok (.goto 4, 3) := by decide +kernel
theorem d_M_isUnder_60 : decode b_M_isUnder 60 = .ok (.iconst 0, 1) := by decide +kernel
theorem d_M_isUnder_61 : decode b_M_isUnder 61 = .ok (.ireturn, 1) := by decide +kernel
theorem d_M_running_0 : decode b_M_running 0 = .ok (.aload_n 0, 1) := by decide +kernel
theorem d_M_running_1 : decode b_M_running 1 = .ok (.getfield 128, 3) := by decide +kernel
theorem d_M_running_4 : decode b_M_running 4 = .ok (.iload_n 1, 1) := by decide +kernel
theorem d_M_running_5 : decode b_M_running 5 = .ok (.iaload, 1) := by decide +kernel
theorem d_M_running_6 : decode b_M_running 6 = .ok (.iconst 1, 1) := by decide +kernel
theorem d_M_running_7 : decode b_M_running 7 = .ok (.invokestatic 394, 3) := by decide +kernel
theorem d_M_running_10 : decode b_M_running 10 = .ok (.ifCond .eq 18, 3) := by decide +kernel
theorem d_M_running_13 : decode b_M_running 13 = .ok (.aload_n 0, 1) := by decide +kernel
theorem d_M_running_14 : decode b_M_running 14 = .ok (.bipush 20, 2) := by decide +kernel
theorem d_M_running_16 : decode b_M_running 16 = .ok (.invokevirtual 388, 3) := by decide +kernel
theorem d_M_running_19 : decode b_M_running 19 = .ok (.aload_n 0, 1) := by decide +kernel
theorem d_M_running_20 : decode b_M_running 20 = .ok (.iload_n 1, 1) := by decide +kernel
theorem d_M_running_21 : decode b_M_running 21 = .ok (.iload_n 2, 1) := by decide +kernel
theorem d_M_running_22 : decode b_M_running 22 = .ok (.invokevirtual 391, 3) := by decide +kernel
theorem d_M_running_25 : decode b_M_running 25 = .ok (.iconst 3, 1) := by decide +kernel
theorem d_M_running_26 : decode b_M_running 26 = .ok (.iadd, 1) := by decide +kernel
theorem d_M_running_27 : decode b_M_running 27 = .ok (.ireturn, 1) := by decide +kernel
theorem d_M_running_28 : decode b_M_running 28 = .ok (.aload_n 0, 1) := by decide +kernel
theorem d_M_running_29 : decode b_M_running 29 = .ok (.getfield 128, 3) := by decide +kernel
theorem d_M_running_32 : decode b_M_running 32 = .ok (.iload_n 1, 1) := by decide +kernel
theorem d_M_running_33 : decode b_M_running 33 = .ok (.iaload, 1) := by decide +kernel
theorem d_M_running_34 : decode b_M_running 34 = .ok (.bipush 7, 2) := by decide +kernel
theorem d_M_running_36 : decode b_M_running 36 = .ok (.if_icmp .ne 18, 3) := by decide +kernel
theorem d_M_running_39 : decode b_M_running 39 = .ok (.aload_n 0, 1) := by decide +kernel
theorem d_M_running_40 : decode b_M_running 40 = .ok (.bipush 81, 2) := by decide +kernel
theorem d_M_running_42 : decode b_M_running 42 = .ok (.invokevirtual 388, 3) := by decide +kernel
theorem d_M_running_45 : decode b_M_running 45 = .ok (.aload_n 0, 1) := by decide +kernel
theorem d_M_running_46 : decode b_M_running 46 = .ok (.iload_n 1, 1) := by decide +kernel
theorem d_M_running_47 : decode b_M_running 47 = .ok (.iload_n 2, 1) := by decide +kernel
theorem d_M_running_48 : decode b_M_running 48 = .ok (.invokevirtual 397, 3) := by decide +kernel
theorem d_M_running_51 : decode b_M_running 51 = .ok (.iconst 1, 1) := by decide +kernel
theorem d_M_running_52 : decode b_M_running 52 = .ok (.isub, 1) := by decide +kernel
theorem d_M_running_53 : decode b_M_running 53 = .ok (.ireturn, 1) := by decide +kernel
theorem d_M_running_54 : decode b_M_running 54 = .ok (.aload_n 0, 1) := by decide +kernel
theorem d_M_running_55 : decode b_M_running 55 = .ok (.getfield 128, 3) := by decide +kernel
theorem d_M_running_58 : decode b_M_running 58 = .ok (.iload_n 1, 1) := by decide +kernel
theorem d_M_running_59 : decode b_M_running 59 = .ok (.iaload, 1) := by decide +kernel
theorem d_M_running_60 : decode b_M_running 60 = .ok (.bipush 6, 2) := by decide +kernel
theorem d_M_running_62 : decode b_M_running 62 = .ok (.if_icmp .ne 12, 3) := by decide +kernel
theorem d_M_running_65 : decode b_M_running 65 = .ok (.aload_n 0, 1) := by decide +kernel
theorem d_M_running_66 : decode b_M_running 66 = .ok (.iload_n 1, 1) := by decide +kernel
theorem d_M_running_67 : decode b_M_running 67 = .ok (.iload_n 2, 1) := by decide +kernel
theorem d_M_running_68 : decode b_M_running 68 = .ok (.invokevirtual 397, 3) := by decide +kernel
theorem d_M_running_71 : decode b_M_running 71 = .ok (.goto 9, 3) := by decide +kernel
theorem d_M_running_74 : decode b_M_running 74 = .ok (.aload_n 0, 1) := by decide +kernel
theorem d_M_running_75 : decode b_M_running 75 = .ok (.iload_n 1, 1) := by decide +kernel
theorem d_M_running_76 : decode b_M_running 76 = .ok (.iload_n 2, 1) := by decide +kernel
theorem d_M_running_77 : decode b_M_running 77 = .ok (.invokevirtual 391, 3) := by decide +kernel
theorem d_M_running_80 : decode b_M_running 80 = .ok (.ireturn, 1) := by decide +kernel
theorem d_M_drying_0 : decode b_M_drying 0 = .ok (.aload_n 0, 1) := by decide +kernel
theorem d_M_drying_1 : decode b_M_drying 1 = .ok (.getfield 128, 3) := by decide +kernel
theorem d_M_drying_4 : decode b_M_drying 4 = .ok (.iload_n 1, 1) := by decide +kernel
theorem d_M_drying_5 : decode b_M_drying 5 = .ok (.iaload, 1) := by decide +kernel
theorem d_M_drying_6 : decode b_M_drying 6 = .ok (.iconst 5, 1) := by decide +kernel
theorem d_M_drying_7 : decode b_M_drying 7 = .ok (.if_icmp .ne 25, 3) := by decide +kernel
theorem d_M_drying_10 : decode b_M_drying 10 = .ok (.aload_n 0, 1) := by decide +kernel
theorem d_M_drying_11 : decode b_M_drying 11 = .ok (.bipush 60, 2) := by decide +kernel
theorem d_M_drying_13 : decode b_M_drying 13 = .ok (.invokevirtual 388, 3) := by decide +kernel
theorem d_M_drying_16 : decode b_M_drying 16 = .ok (.aload_n 0, 1) := by decide +kernel
theorem d_M_drying_17 : decode b_M_drying 17 = .ok (.iload_n 1, 1) := by decide +kernel
theorem d_M_drying_18 : decode b_M_drying 18 = .ok (.iload_n 2, 1) := by decide +kernel
theorem d_M_drying_19 : decode b_M_drying 19 = .ok (.invokevirtual 415, 3) := by decide +kernel
theorem d_M_drying_22 : decode b_M_drying 22 = .ok (.istore_n 3, 1) := by decide +kernel
theorem d_M_drying_23 : decode b_M_drying 23 = .ok (.iload_n 3, 1) := by decide +kernel
theorem d_M_drying_24 : decode b_M_drying 24 = .ok (.aload_n 0, 1) := by decide +kernel
theorem d_M_drying_25 : decode b_M_drying 25 = .ok (.iload_n 1, 1) := by decide +kernel
theorem d_M_drying_26 : decode b_M_drying 26 = .ok (.iconst 2, 1) := by decide +kernel
theorem d_M_drying_27 : decode b_M_drying 27 = .ok (.invokevirtual 400, 3) := by decide +kernel
theorem d_M_drying_30 : decode b_M_drying 30 = .ok (.isub, 1) := by decide +kernel
theorem d_M_drying_31 : decode b_M_drying 31 = .ok (.ireturn, 1) := by decide +kernel
theorem d_M_drying_32 : decode b_M_drying 32 = .ok (.aload_n 0, 1) := by decide +kernel
theorem d_M_drying_33 : decode b_M_drying 33 = .ok (.getfield 128, 3) := by decide +kernel
theorem d_M_drying_36 : decode b_M_drying 36 = .ok (.iload_n 1, 1) := by decide +kernel
theorem d_M_drying_37 : decode b_M_drying 37 = .ok (.iaload, 1) := by decide +kernel
theorem d_M_drying_38 : decode b_M_drying 38 = .ok (.iconst 3, 1) := by decide +kernel
theorem d_M_drying_39 : decode b_M_drying 39 = .ok (.if_icmp .ne 12, 3) := by decide +kernel
theorem d_M_drying_42 : decode b_M_drying 42 = .ok (.aload_n 0, 1) := by decide +kernel
theorem d_M_drying_43 : decode b_M_drying 43 = .ok (.iload_n 1, 1) := by decide +kernel
theorem d_M_drying_44 : decode b_M_drying 44 = .ok (.iload_n 2, 1) := by decide +kernel
theorem d_M_drying_45 : decode b_M_drying 45 = .ok (.invokevirtual 415, 3) := by decide +kernel
theorem d_M_drying_48 : decode b_M_drying 48 = .ok (.goto 9, 3) := by decide +kernel
theorem d_M_drying_51 : decode b_M_drying 51 = .ok (.aload_n 0, 1) := by decide +kernel
theorem d_M_drying_52 : decode b_M_drying 52 = .ok (.iload_n 1, 1) := by decide +kernel
theorem d_M_drying_53 : decode b_M_drying 53 = .ok (.iload_n 2, 1) := by decide +kernel
theorem d_M_drying_54 : decode b_M_drying 54 = .ok (.invokevirtual 412, 3) := by decide +kernel
theorem d_M_drying_57 : decode b_M_drying 57 = .ok (.ireturn, 1) := by decide +kernel
theorem d_M_in_0 : decode b_M_in 0 = .ok (.iload_n 0, 1) := by decide +kernel
theorem d_M_in_1 : decode b_M_in 1 = .ok (.iload_n 1, 1) := by decide +kernel
theorem d_M_in_2 : decode b_M_in 2 = .ok (.if_icmp .lt 12, 3) := by decide +kernel
theorem d_M_in_5 : decode b_M_in 5 = .ok (.iload_n 0, 1) := by decide +kernel
theorem d_M_in_6 : decode b_M_in 6 = .ok (.iload_n 2, 1) := by decide +kernel
theorem d_M_in_7 : decode b_M_in 7 = .ok (.if_icmp .gt 7, 3) := by decide +kernel
theorem d_M_in_10 : decode b_M_in 10 = .ok (.iconst 1, 1) := by decide +kernel
theorem d_M_in_11 : decode b_M_in 11 = .ok (.goto 4, 3) := by decide +kernel
theorem d_M_in_14 : decode b_M_in 14 = .ok (.iconst 0, 1) := by decide +kernel
theorem d_M_in_15 : decode b_M_in 15 = .ok (.ireturn, 1) := by decide +kernel
theorem d_M_isBody_0 : decode b_M_isBody 0 = .ok (.iload_n 1, 1) := by decide +kernel
theorem d_M_isBody_1 : decode b_M_isBody 1 = .ok (.iconst 0, 1) := by decide +kernel
theorem d_M_isBody_2 : decode b_M_isBody 2 = .ok (.aload_n 0, 1) := by decide +kernel
theorem d_M_isBody_3 : decode b_M_isBody 3 = .ok (.getfield 382, 3) := by decide +kernel
theorem d_M_isBody_6 : decode b_M_isBody 6 = .ok (.iconst 1, 1) := by decide +kernel
theorem d_M_isBody_7 : decode b_M_isBody 7 = .ok (.isub, 1) := by decide +kernel
theorem d_M_isBody_8 : decode b_M_isBody 8 = .ok (.invokestatic 153, 3) := by decide +kernel
theorem d_M_isBody_11 : decode b_M_isBody 11 = .ok (.ireturn, 1) := by decide +kernel
theorem d_M_plainTints_0 : decode b_M_plainTints 0 = .ok (.aload_n 0, 1) := by decide +kernel
theorem d_M_plainTints_1 : decode b_M_plainTints 1 = .ok (.bipush 10, 2) := by decide +kernel
theorem d_M_plainTints_3 : decode b_M_plainTints 3 = .ok (.invokevirtual 388, 3) := by decide +kernel
theorem d_M_plainTints_6 : decode b_M_plainTints 6 = .ok (.aload_n 0, 1) := by decide +kernel
theorem d_M_plainTints_7 : decode b_M_plainTints 7 = .ok (.iload_n 1, 1) := by decide +kernel
theorem d_M_plainTints_8 : decode b_M_plainTints 8 = .ok (.iload_n 2, 1) := by decide +kernel
theorem d_M_plainTints_9 : decode b_M_plainTints 9 = .ok (.invokevirtual 400, 3) := by decide +kernel
theorem d_M_plainTints_12 : decode b_M_plainTints 12 = .ok (.iconst 2, 1) := by decide +kernel
theorem d_M_plainTints_13 : decode b_M_plainTints 13 = .ok (.imul, 1) := by decide +kernel
theorem d_M_plainTints_14 : decode b_M_plainTints 14 = .ok (.ireturn, 1) := by decide +kernel
theorem d_M_woolTints_0 : decode b_M_woolTints 0 = .ok (.aload_n 0, 1) := by decide +kernel
theorem d_M_woolTints_1 : decode b_M_woolTints 1 = .ok (.bipush 30, 2) := by decide +kernel
theorem d_M_woolTints_3 : decode b_M_woolTints 3 = .ok (.invokevirtual 388, 3) := by decide +kernel
theorem d_M_woolTints_6 : decode b_M_woolTints 6 = .ok (.aload_n 0, 1) := by decide +kernel
theorem d_M_woolTints_7 : decode b_M_woolTints 7 = .ok (.iload_n 1, 1) := by decide +kernel
theorem d_M_woolTints_8 : decode b_M_woolTints 8 = .ok (.iload_n 2, 1) := by decide +kernel
theorem d_M_woolTints_9 : decode b_M_woolTints 9 = .ok (.invokevirtual 403, 3) := by decide +kernel
theorem d_M_woolTints_12 : decode b_M_woolTints 12 = .ok (.ineg, 1) := by decide +kernel
theorem d_M_woolTints_13 : decode b_M_woolTints 13 = .ok (.ireturn, 1) := by decide +kernel
theorem d_M_tinting_0 : decode b_M_tinting 0 = .ok (.aload_n 0, 1) := by decide +kernel
theorem d_M_tinting_1 : decode b_M_tinting 1 = .ok (.getfield 128, 3) := by decide +kernel
theorem d_M_tinting_4 : decode b_M_tinting 4 = .ok (.iload_n 1, 1) := by decide +kernel
theorem d_M_tinting_5 : decode b_M_tinting 5 = .ok (.iaload, 1) := by decide +kernel
theorem d_M_tinting_6 : decode b_M_tinting 6 = .ok (.iconst 3, 1) := by decide +kernel
theorem d_M_tinting_7 : decode b_M_tinting 7 = .ok (.invokestatic 394, 3) := by decide +kernel
theorem d_M_tinting_10 : decode b_M_tinting 10 = .ok (.ifCond .eq 18, 3) := by decide +kernel
theorem d_M_tinting_13 : decode b_M_tinting 13 = .ok (.aload_n 0, 1) := by decide +kernel
theorem d_M_tinting_14 : decode b_M_tinting 14 = .ok (.bipush 41, 2) := by decide +kernel
theorem d_M_tinting_16 : decode b_M_tinting 16 = .ok (.invokevirtual 388, 3) := by decide +kernel
theorem d_M_tinting_19 : decode b_M_tinting 19 = .ok (.aload_n 0, 1) := by decide +kernel
theorem d_M_tinting_20 : decode b_M_tinting 20 = .ok (.iload_n 1, 1) := by decide +kernel
theorem d_M_tinting_21 : decode b_M_tinting 21 = .ok (.iload_n 2, 1) := by decide +kernel
theorem d_M_tinting_22 : decode b_M_tinting 22 = .ok (.iconst 1, 1) := by decide +kernel
theorem d_M_tinting_23 : decode b_M_tinting 23 = .ok (.iadd, 1) := by decide +kernel
theorem d_M_tinting_24 : decode b_M_tinting 24 = .ok (.invokevirtual 406, 3) := by decide +kernel
theorem d_M_tinting_27 : decode b_M_tinting 27 = .ok (.ireturn, 1) := by decide +kernel
theorem d_M_tinting_28 : decode b_M_tinting 28 = .ok (.aload_n 0, 1) := by decide +kernel
theorem d_M_tinting_29 : decode b_M_tinting 29 = .ok (.getfield 128, 3) := by decide +kernel
theorem d_M_tinting_32 : decode b_M_tinting 32 = .ok (.iload_n 1, 1) := by decide +kernel
theorem d_M_tinting_33 : decode b_M_tinting 33 = .ok (.iaload, 1) := by decide +kernel
theorem d_M_tinting_34 : decode b_M_tinting 34 = .ok (.bipush 7, 2) := by decide +kernel
theorem d_M_tinting_36 : decode b_M_tinting 36 = .ok (.if_icmp .ne 25, 3) := by decide +kernel
theorem d_M_tinting_39 : decode b_M_tinting 39 = .ok (.aload_n 0, 1) := by decide +kernel
theorem d_M_tinting_40 : decode b_M_tinting 40 = .ok (.bipush 80, 2) := by decide +kernel
theorem d_M_tinting_42 : decode b_M_tinting 42 = .ok (.invokevirtual 388, 3) := by decide +kernel
theorem d_M_tinting_45 : decode b_M_tinting 45 = .ok (.aload_n 0, 1) := by decide +kernel
theorem d_M_tinting_46 : decode b_M_tinting 46 = .ok (.iload_n 1, 1) := by decide +kernel
theorem d_M_tinting_47 : decode b_M_tinting 47 = .ok (.iload_n 2, 1) := by decide +kernel
theorem d_M_tinting_48 : decode b_M_tinting 48 = .ok (.invokevirtual 403, 3) := by decide +kernel
theorem d_M_tinting_51 : decode b_M_tinting 51 = .ok (.istore_n 3, 1) := by decide +kernel
theorem d_M_tinting_52 : decode b_M_tinting 52 = .ok (.iload_n 3, 1) := by decide +kernel
theorem d_M_tinting_53 : decode b_M_tinting 53 = .ok (.aload_n 0, 1) := by decide +kernel
theorem d_M_tinting_54 : decode b_M_tinting 54 = .ok (.iload_n 1, 1) := by decide +kernel
theorem d_M_tinting_55 : decode b_M_tinting 55 = .ok (.iconst 2, 1) := by decide +kernel
theorem d_M_tinting_56 : decode b_M_tinting 56 = .ok (.invokevirtual 409, 3) := by decide +kernel
theorem d_M_tinting_59 : decode b_M_tinting 59 = .ok (.iadd, 1) := by decide +kernel
theorem d_M_tinting_60 : decode b_M_tinting 60 = .ok (.ireturn, 1) := by decide +kernel
theorem d_M_tinting_61 : decode b_M_tinting 61 = .ok (.aload_n 0, 1) := by decide +kernel
theorem d_M_tinting_62 : decode b_M_tinting 62 = .ok (.getfield 128, 3) := by decide +kernel
theorem d_M_tinting_65 : decode b_M_tinting 65 = .ok (.iload_n 1, 1) := by decide +kernel
theorem d_M_tinting_66 : decode b_M_tinting 66 = .ok (.iaload, 1) := by decide +kernel
theorem d_M_tinting_67 : decode b_M_tinting 67 = .ok (.iconst 2, 1) := by decide +kernel
theorem d_M_tinting_68 : decode b_M_tinting 68 = .ok (.if_icmp .ne 12, 3) := by decide +kernel
theorem d_M_tinting_71 : decode b_M_tinting 71 = .ok (.aload_n 0, 1) := by decide +kernel
theorem d_M_tinting_72 : decode b_M_tinting 72 = .ok (.iload_n 1, 1) := by decide +kernel
theorem d_M_tinting_73 : decode b_M_tinting 73 = .ok (.iload_n 2, 1) := by decide +kernel
theorem d_M_tinting_74 : decode b_M_tinting 74 = .ok (.invokevirtual 406, 3) := by decide +kernel
theorem d_M_tinting_77 : decode b_M_tinting 77 = .ok (.goto 9, 3) := by decide +kernel
theorem d_M_tinting_80 : decode b_M_tinting 80 = .ok (.aload_n 0, 1) := by decide +kernel
theorem d_M_tinting_81 : decode b_M_tinting 81 = .ok (.iload_n 1, 1) := by decide +kernel
theorem d_M_tinting_82 : decode b_M_tinting 82 = .ok (.iload_n 2, 1) := by decide +kernel
theorem d_M_tinting_83 : decode b_M_tinting 83 = .ok (.invokevirtual 403, 3) := by decide +kernel
theorem d_M_tinting_86 : decode b_M_tinting 86 = .ok (.ireturn, 1) := by decide +kernel
theorem d_M_plainTells_0 : decode b_M_plainTells 0 = .ok (.aload_n 0, 1) := by decide +kernel
theorem d_M_plainTells_1 : decode b_M_plainTells 1 = .ok (.iconst 2, 1) := by decide +kernel
theorem d_M_plainTells_2 : decode b_M_plainTells 2 = .ok (.invokevirtual 388, 3) := by decide +kernel
theorem d_M_plainTells_5 : decode b_M_plainTells 5 = .ok (.aload_n 0, 1) := by decide +kernel
theorem d_M_plainTells_6 : decode b_M_plainTells 6 = .ok (.iload_n 1, 1) := by decide +kernel
theorem d_M_plainTells_7 : decode b_M_plainTells 7 = .ok (.iload_n 2, 1) := by decide +kernel
theorem d_M_plainTells_8 : decode b_M_plainTells 8 = .ok (.invokevirtual 418, 3) := by decide +kernel
theorem d_M_plainTells_11 : decode b_M_plainTells 11 = .ok (.istore_n 3, 1) := by decide +kernel
theorem d_M_plainTells_12 : decode b_M_plainTells 12 = .ok (.iload_n 3, 1) := by decide +kernel
theorem d_M_plainTells_13 : decode b_M_plainTells 13 = .ok (.aload_n 0, 1) := by decide +kernel
theorem d_M_plainTells_14 : decode b_M_plainTells 14 = .ok (.iload_n 1, 1) := by decide +kernel
theorem d_M_plainTells_15 : decode b_M_plainTells 15 = .ok (.iconst 1, 1) := by decide +kernel
theorem d_M_plainTells_16 : decode b_M_plainTells 16 = .ok (.invokevirtual 409, 3) := by decide +kernel
theorem d_M_plainTells_19 : decode b_M_plainTells 19 = .ok (.isub, 1) := by decide +kernel
theorem d_M_plainTells_20 : decode b_M_plainTells 20 = .ok (.ireturn, 1) := by decide +kernel
theorem d_M_telling_0 : decode b_M_telling 0 = .ok (.aload_n 0, 1) := by decide +kernel
theorem d_M_telling_1 : decode b_M_telling 1 = .ok (.getfield 128, 3) := by decide +kernel
theorem d_M_telling_4 : decode b_M_telling 4 = .ok (.iload_n 1, 1) := by decide +kernel
theorem d_M_telling_5 : decode b_M_telling 5 = .ok (.iaload, 1) := by decide +kernel
theorem d_M_telling_6 : decode b_M_telling 6 = .ok (.iconst 4, 1) := by decide +kernel
theorem d_M_telling_7 : decode b_M_telling 7 = .ok (.if_icmp .ne 18, 3) := by decide +kernel
theorem d_M_telling_10 : decode b_M_telling 10 = .ok (.aload_n 0, 1) := by decide +kernel
theorem d_M_telling_11 : decode b_M_telling 11 = .ok (.bipush 50, 2) := by decide +kernel
theorem d_M_telling_13 : decode b_M_telling 13 = .ok (.invokevirtual 388, 3) := by decide +kernel
theorem d_M_telling_16 : decode b_M_telling 16 = .ok (.aload_n 0, 1) := by decide +kernel
theorem d_M_telling_17 : decode b_M_telling 17 = .ok (.iload_n 1, 1) := by decide +kernel
theorem d_M_telling_18 : decode b_M_telling 18 = .ok (.iload_n 2, 1) := by decide +kernel
theorem d_M_telling_19 : decode b_M_telling 19 = .ok (.invokevirtual 421, 3) := by decide +kernel
theorem d_M_telling_22 : decode b_M_telling 22 = .ok (.iconst 5, 1) := by decide +kernel
theorem d_M_telling_23 : decode b_M_telling 23 = .ok (.ixor, 1) := by decide +kernel
theorem d_M_telling_24 : decode b_M_telling 24 = .ok (.ireturn, 1) := by decide +kernel
theorem d_M_telling_25 : decode b_M_telling 25 = .ok (.aload_n 0, 1) := by decide +kernel
theorem d_M_telling_26 : decode b_M_telling 26 = .ok (.getfield 128, 3) := by decide +kernel
theorem d_M_telling_29 : decode b_M_telling 29 = .ok (.iload_n 1, 1) := by decide +kernel
theorem d_M_telling_30 : decode b_M_telling 30 = .ok (.iaload, 1) := by decide +kernel
theorem d_M_telling_31 : decode b_M_telling 31 = .ok (.iconst 5, 1) := by decide +kernel
theorem d_M_telling_32 : decode b_M_telling 32 = .ok (.if_icmp .ne 18, 3) := by decide +kernel
theorem d_M_telling_35 : decode b_M_telling 35 = .ok (.aload_n 0, 1) := by decide +kernel
theorem d_M_telling_36 : decode b_M_telling 36 = .ok (.bipush 61, 2) := by decide +kernel
theorem d_M_telling_38 : decode b_M_telling 38 = .ok (.invokevirtual 388, 3) := by decide +kernel
theorem d_M_telling_41 : decode b_M_telling 41 = .ok (.aload_n 0, 1) := by decide +kernel
theorem d_M_telling_42 : decode b_M_telling 42 = .ok (.iload_n 1, 1) := by decide +kernel
theorem d_M_telling_43 : decode b_M_telling 43 = .ok (.iload_n 2, 1) := by decide +kernel
theorem d_M_telling_44 : decode b_M_telling 44 = .ok (.invokevirtual 421, 3) := by decide +kernel
theorem d_M_telling_47 : decode b_M_telling 47 = .ok (.iconst 1, 1) := by decide +kernel
theorem d_M_telling_48 : decode b_M_telling 48 = .ok (.iadd, 1) := by decide +kernel
theorem d_M_telling_49 : decode b_M_telling 49 = .ok (.ireturn, 1) := by decide +kernel
theorem d_M_telling_50 : decode b_M_telling 50 = .ok (.aload_n 0, 1) := by decide +kernel
theorem d_M_telling_51 : decode b_M_telling 51 = .ok (.iload_n 1, 1) := by decide +kernel
theorem d_M_telling_52 : decode b_M_telling 52 = .ok (.iload_n 2, 1) := by decide +kernel
theorem d_M_telling_53 : decode b_M_telling 53 = .ok (.invokevirtual 421, 3) := by decide +kernel
theorem d_M_telling_56 : decode b_M_telling 56 = .ok (.ireturn, 1) := by decide +kernel
theorem d_M_act_0 : decode b_M_act 0 = .ok (.aload_n 0, 1) := by decide +kernel
theorem d_M_act_1 : decode b_M_act 1 = .ok (.iconst 0, 1) := by decide +kernel
theorem d_M_act_2 : decode b_M_act 2 = .ok (.putfield 385, 3) := by decide +kernel
theorem d_M_act_5 : decode b_M_act 5 = .ok (.aload_n 0, 1) := by decide +kernel
theorem d_M_act_6 : decode b_M_act 6 = .ok (.iload_n 1, 1) := by decide +kernel
theorem d_M_act_7 : decode b_M_act 7 = .ok (.invokevirtual 424, 3) := by decide +kernel
theorem d_M_act_10 : decode b_M_act 10 = .ok (.ifCond .eq 12, 3) := by decide +kernel
theorem d_M_act_13 : decode b_M_act 13 = .ok (.iload_n 2, 1) := by decide +kernel
theorem d_M_act_14 : decode b_M_act 14 = .ok (.iconst 0, 1) := by decide +kernel
theorem d_M_act_15 : decode b_M_act 15 = .ok (.iconst 3, 1) := by decide +kernel
theorem d_M_act_16 : decode b_M_act 16 = .ok (.invokestatic 153, 3) := by decide +kernel
theorem d_M_act_19 : decode b_M_act 19 = .ok (.ifCond .ne 5, 3) := by decide +kernel
theorem d_M_act_22 : decode b_M_act 22 = .ok (.iconst 0, 1) := by decide +kernel
theorem d_M_act_23 : decode b_M_act 23 = .ok (.ireturn, 1) := by decide +kernel
theorem d_M_act_24 : decode b_M_act 24 = .ok (.iload_n 2, 1) := by decide +kernel
theorem d_M_act_25 : decode b_M_act 25 = .ok (.ifCond .ne 12, 3) := by decide +kernel
theorem d_M_act_28 : decode b_M_act 28 = .ok (.aload_n 0, 1) := by decide +kernel
theorem d_M_act_29 : decode b_M_act 29 = .ok (.iload_n 1, 1) := by decide +kernel
theorem d_M_act_30 : decode b_M_act 30 = .ok (.iload_n 3, 1) := by decide +kernel
theorem d_M_act_31 : decode b_M_act 31 = .ok (.invokevirtual 400, 3) := by decide +kernel
theorem d_M_act_34 : decode b_M_act 34 = .ok (.goto 37, 3) := by decide +kernel
theorem d_M_act_37 : decode b_M_act 37 = .ok (.iload_n 2, 1) := by decide +kernel
theorem d_M_act_38 : decode b_M_act 38 = .ok (.iconst 1, 1) := by decide +kernel
theorem d_M_act_39 : decode b_M_act 39 = .ok (.if_icmp .ne 12, 3) := by decide +kernel
theorem d_M_act_42 : decode b_M_act 42 = .ok (.aload_n 0, 1) := by decide +kernel
theorem d_M_act_43 : decode b_M_act 43 = .ok (.iload_n 1, 1) := by decide +kernel
theorem d_M_act_44 : decode b_M_act 44 = .ok (.iload_n 3, 1) := by decide +kernel
theorem d_M_act_45 : decode b_M_act 45 = .ok (.invokevirtual 418, 3) := by decide +kernel
theorem d_M_act_48 : decode b_M_act 48 = .ok (.goto 23, 3) := by decide +kernel
theorem d_M_act_51 : decode b_M_act 51 = .ok (.iload_n 2, 1) := by decide +kernel
theorem d_M_act_52 : decode b_M_act 52 = .ok (.iconst 2, 1) := by decide +kernel
theorem d_M_act_53 : decode b_M_act 53 = .ok (.if_icmp .ne 12, 3) := by decide +kernel
theorem d_M_act_56 : decode b_M_act 56 = .ok (.aload_n 0, 1) := by decide +kernel
theorem d_M_act_57 : decode b_M_act 57 = .ok (.iload_n 1, 1) := by decide +kernel
theorem d_M_act_58 : decode b_M_act 58 = .ok (.iload_n 3, 1) := by decide +kernel
theorem d_M_act_59 : decode b_M_act 59 = .ok (.invokevirtual 409, 3) := by decide +kernel
theorem d_M_act_62 : decode b_M_act 62 = .ok (.goto 9, 3) := by decide +kernel
theorem d_M_act_65 : decode b_M_act 65 = .ok (.aload_n 0, 1) := by decide +kernel
theorem d_M_act_66 : decode b_M_act 66 = .ok (.iload_n 1, 1) := by decide +kernel
theorem d_M_act_67 : decode b_M_act 67 = .ok (.iload_n 3, 1) := by decide +kernel
theorem d_M_act_68 : decode b_M_act 68 = .ok (.invokevirtual 427, 3) := by decide +kernel
theorem d_M_act_71 : decode b_M_act 71 = .ok (.ireturn, 1) := by decide +kernel
theorem d_M_addStep_0 : decode b_M_addStep 0 = .ok (.aload_n 0, 1) := by decide +kernel
theorem d_M_addStep_1 : decode b_M_addStep 1 = .ok (.getfield 63, 3) := by decide +kernel
theorem d_M_addStep_4 : decode b_M_addStep 4 = .ok (.sipush 130, 3) := by decide +kernel
theorem d_M_addStep_7 : decode b_M_addStep 7 = .ok (.aload_n 0, 1) := by decide +kernel
theorem d_M_addStep_8 : decode b_M_addStep 8 = .ok (.getfield 203, 3) := by decide +kernel
theorem d_M_addStep_11 : decode b_M_addStep 11 = .ok (.iadd, 1) := by decide +kernel
theorem d_M_addStep_12 : decode b_M_addStep 12 = .ok (.iload_n 1, 1) := by decide +kernel
theorem d_M_addStep_13 : decode b_M_addStep 13 = .ok (.i2b, 1) := by decide +kernel
theorem d_M_addStep_14 : decode b_M_addStep 14 = .ok (.bastore, 1) := by decide +kernel
theorem d_M_addStep_15 : decode b_M_addStep 15 = .ok (.aload_n 0, 1) := by decide +kernel
theorem d_M_addStep_16 : decode b_M_addStep 16 = .ok (.getfield 66, 3) := by decide +kernel
theorem d_M_addStep_19 : decode b_M_addStep 19 = .ok (.sipush 130, 3) := by decide +kernel
theorem d_M_addStep_22 : decode b_M_addStep 22 = .ok (.aload_n 0, 1) := by decide +kernel
theorem d_M_addStep_23 : decode b_M_addStep 23 = .ok (.getfield 203, 3) := by decide +kernel
theorem d_M_addStep_26 : decode b_M_addStep 26 = .ok (.iadd, 1) := by decide +kernel
theorem d_M_addStep_27 : decode b_M_addStep 27 = .ok (.iload_n 2, 1) := by decide +kernel
theorem d_M_addStep_28 : decode b_M_addStep 28 = .ok (.iastore, 1) := by decide +kernel
theorem d_M_addStep_29 : decode b_M_addStep 29 = .ok (.aload_n 0, 1) := by decide +kernel
theorem d_M_addStep_30 : decode b_M_addStep 30 = .ok (.dup, 1) := by decide +kernel
theorem d_M_addStep_31 : decode b_M_addStep 31 = .ok (.getfield 203, 3) := by decide +kernel
theorem d_M_addStep_34 : decode b_M_addStep 34 = .ok (.iconst 1, 1) := by decide +kernel
theorem d_M_addStep_35 : decode b_M_addStep 35 = .ok (.iadd, 1) := by decide +kernel
theorem d_M_addStep_36 : decode b_M_addStep 36 = .ok (.putfield 203, 3) := by decide +kernel
theorem d_M_addStep_39 : decode b_M_addStep 39 = .ok (.return_, 1) := by decide +kernel
theorem d_M_addThing_0 : decode b_M_addThing 0 = .ok (.aload_n 0, 1) := by decide +kernel
theorem d_M_addThing_1 : decode b_M_addThing 1 = .ok (.getfield 7, 3) := by decide +kernel
theorem d_M_addThing_4 : decode b_M_addThing 4 = .ok (.aload_n 0, 1) := by decide +kernel
theorem d_M_addThing_5 : decode b_M_addThing 5 = .ok (.getfield 150, 3) := by decide +kernel
theorem d_M_addThing_8 : decode b_M_addThing 8 = .ok (.iload_n 1, 1) := by decide +kernel
theorem d_M_addThing_9 : decode b_M_addThing 9 = .ok (.iastore, 1) := by decide +kernel
theorem d_M_addThing_10 : decode b_M_addThing 10 = .ok (.aload_n 0, 1) := by decide +kernel
theorem d_M_addThing_11 : decode b_M_addThing 11 = .ok (.getfield 13, 3) := by decide +kernel
theorem d_M_addThing_14 : decode b_M_addThing 14 = .ok (.aload_n 0, 1) := by decide +kernel
theorem d_M_addThing_15 : decode b_M_addThing 15 = .ok (.getfield 150, 3) := by decide +kernel
theorem d_M_addThing_18 : decode b_M_addThing 18 = .ok (.iload_n 2, 1) := by decide +kernel
theorem d_M_addThing_19 : decode b_M_addThing 19 = .ok (.iastore, 1) := by decide +kernel
theorem d_M_addThing_20 : decode b_M_addThing 20 = .ok (.aload_n 0, 1) := by decide +kernel
theorem d_M_addThing_21 : decode b_M_addThing 21 = .ok (.getfield 16, 3) := by decide +kernel
theorem d_M_addThing_24 : decode b_M_addThing 24 = .ok (.aload_n 0, 1) := by decide +kernel
theorem d_M_addThing_25 : decode b_M_addThing 25 = .ok (.getfield 150, 3) := by decide +kernel
theorem d_M_addThing_28 : decode b_M_addThing 28 = .ok (.iconst 0, 1) := by decide +kernel
theorem d_M_addThing_29 : decode b_M_addThing 29 = .ok (.iastore, 1) := by decide +kernel
theorem d_M_addThing_30 : decode b_M_addThing 30 = .ok (.aload_n 0, 1) := by decide +kernel
theorem d_M_addThing_31 : decode b_M_addThing 31 = .ok (.getfield 19, 3) := by decide +kernel
theorem d_M_addThing_34 : decode b_M_addThing 34 = .ok (.aload_n 0, 1) := by decide +kernel
theorem d_M_addThing_35 : decode b_M_addThing 35 = .ok (.getfield 150, 3) := by decide +kernel
theorem d_M_addThing_38 : decode b_M_addThing 38 = .ok (.bipush 6, 2) := by decide +kernel
theorem d_M_addThing_40 : decode b_M_addThing 40 = .ok (.iastore, 1) := by decide +kernel
theorem d_M_addThing_41 : decode b_M_addThing 41 = .ok (.aload_n 0, 1) := by decide +kernel
theorem d_M_addThing_42 : decode b_M_addThing 42 = .ok (.getfield 22, 3) := by decide +kernel
theorem d_M_addThing_45 : decode b_M_addThing 45 = .ok (.aload_n 0, 1) := by decide +kernel
theorem d_M_addThing_46 : decode b_M_addThing 46 = .ok (.getfield 150, 3) := by decide +kernel
theorem d_M_addThing_49 : decode b_M_addThing 49 = .ok (.iload_n 3, 1) := by decide +kernel
theorem d_M_addThing_50 : decode b_M_addThing 50 = .ok (.iastore, 1) := by decide +kernel
theorem d_M_addThing_51 : decode b_M_addThing 51 = .ok (.aload_n 0, 1) := by decide +kernel
theorem d_M_addThing_52 : decode b_M_addThing 52 = .ok (.getfield 25, 3) := by decide +kernel
theorem d_M_addThing_55 : decode b_M_addThing 55 = .ok (.aload_n 0, 1) := by decide +kernel
theorem d_M_addThing_56 : decode b_M_addThing 56 = .ok (.getfield 150, 3) := by decide +kernel
theorem d_M_addThing_59 : decode b_M_addThing 59 = .ok (.bipush 12, 2) := by decide +kernel
theorem d_M_addThing_61 : decode b_M_addThing 61 = .ok (.iastore, 1) := by decide +kernel
theorem d_M_addThing_62 : decode b_M_addThing 62 = .ok (.aload_n 0, 1) := by decide +kernel
theorem d_M_addThing_63 : decode b_M_addThing 63 = .ok (.getfield 28, 3) := by decide +kernel
theorem d_M_addThing_66 : decode b_M_addThing 66 = .ok (.aload_n 0, 1) := by decide +kernel
theorem d_M_addThing_67 : decode b_M_addThing 67 = .ok (.getfield 150, 3) := by decide +kernel
theorem d_M_addThing_70 : decode b_M_addThing 70 = .ok (.iconst 0, 1) := by decide +kernel
theorem d_M_addThing_71 : decode b_M_addThing 71 = .ok (.iastore, 1) := by decide +kernel
theorem d_M_addThing_72 : decode b_M_addThing 72 = .ok (.aload_n 0, 1) := by decide +kernel
theorem d_M_addThing_73 : decode b_M_addThing 73 = .ok (.getfield 31, 3) := by decide +kernel
theorem d_M_addThing_76 : decode b_M_addThing 76 = .ok (.aload_n 0, 1) := by decide +kernel
theorem d_M_addThing_77 : decode b_M_addThing 77 = .ok (.getfield 150, 3) := by decide +kernel
theorem d_M_addThing_80 : decode b_M_addThing 80 = .ok (.bipush 7, 2) := by decide +kernel
theorem d_M_addThing_82 : decode b_M_addThing 82 = .ok (.iastore, 1) := by decide +kernel
theorem d_M_addThing_83 : decode b_M_addThing 83 = .ok (.aload_n 0, 1) := by decide +kernel
theorem d_M_addThing_84 : decode b_M_addThing 84 = .ok (.getfield 106, 3) := by decide +kernel
theorem d_M_addThing_87 : decode b_M_addThing 87 = .ok (.aload_n 0, 1) := by decide +kernel
theorem d_M_addThing_88 : decode b_M_addThing 88 = .ok (.getfield 150, 3) := by decide +kernel
theorem d_M_addThing_91 : decode b_M_addThing 91 = .ok (.iconst 0, 1) := by decide +kernel
theorem d_M_addThing_92 : decode b_M_addThing 92 = .ok (.iastore, 1) := by decide +kernel
theorem d_M_addThing_93 : decode b_M_addThing 93 = .ok (.aload_n 0, 1) := by decide +kernel
theorem d_M_addThing_94 : decode b_M_addThing 94 = .ok (.getfield 109, 3) := by decide +kernel
theorem d_M_addThing_97 : decode b_M_addThing 97 = .ok (.aload_n 0, 1) := by decide +kernel
theorem d_M_addThing_98 : decode b_M_addThing 98 = .ok (.getfield 150, 3) := by decide +kernel
theorem d_M_addThing_101 : decode b_M_addThing 101 = .ok (.iconst 0, 1) := by decide +kernel
theorem d_M_addThing_102 : decode b_M_addThing 102 = .ok (.bastore, 1) := by decide +kernel
theorem d_M_addThing_103 : decode b_M_addThing 103 = .ok (.aload_n 0, 1) := by decide +kernel
theorem d_M_addThing_104 : decode b_M_addThing 104 = .ok (.dup, 1) := by decide +kernel
theorem d_M_addThing_105 : decode b_M_addThing 105 = .ok (.getfield 150, 3) := by decide +kernel
theorem d_M_addThing_108 : decode b_M_addThing 108 = .ok (.iconst 1, 1) := by decide +kernel
theorem d_M_addThing_109 : decode b_M_addThing 109 = .ok (.iadd, 1) := by decide +kernel
theorem d_M_addThing_110 : decode b_M_addThing 110 = .ok (.putfield 150, 3) := by decide +kernel
theorem d_M_addThing_113 : decode b_M_addThing 113 = .ok (.aload_n 0, 1) := by decide +kernel
theorem d_M_addThing_114 : decode b_M_addThing 114 = .ok (.getfield 150, 3) := by decide +kernel
theorem d_M_addThing_117 : decode b_M_addThing 117 = .ok (.iconst 1, 1) := by decide +kernel
theorem d_M_addThing_118 : decode b_M_addThing 118 = .ok (.isub, 1) := by decide +kernel
theorem d_M_addThing_119 : decode b_M_addThing 119 = .ok (.ireturn, 1) := by decide +kernel
theorem d_M_allDry_0 : decode b_M_allDry 0 = .ok (.iconst 0, 1) := by decide +kernel
theorem d_M_allDry_1 : decode b_M_allDry 1 = .ok (.istore_n 1, 1) := by decide +kernel
theorem d_M_allDry_2 : decode b_M_allDry 2 = .ok (.iconst 0, 1) := by decide +kernel
theorem d_M_allDry_3 : decode b_M_allDry 3 = .ok (.istore_n 2, 1) := by decide +kernel
theorem d_M_allDry_4 : decode b_M_allDry 4 = .ok (.iload_n 2, 1) := by decide +kernel
theorem d_M_allDry_5 : decode b_M_allDry 5 = .ok (.aload_n 0, 1) := by decide +kernel
theorem d_M_allDry_6 : decode b_M_allDry 6 = .ok (.getfield 343, 3) := by decide +kernel
theorem d_M_allDry_9 : decode b_M_allDry 9 = .ok (.if_icmp .ge 52, 3) := by decide +kernel
theorem d_M_allDry_12 : decode b_M_allDry 12 = .ok (.aload_n 0, 1) := by decide +kernel
theorem d_M_allDry_13 : decode b_M_allDry 13 = .ok (.getfield 97, 3) := by decide +kernel
theorem d_M_allDry_16 : decode b_M_allDry 16 = .ok (.aload_n 0, 1) := by decide +kernel
theorem d_M_allDry_17 : decode b_M_allDry 17 = .ok (.getfield 100, 3) := by decide +kernel
theorem d_M_allDry_20 : decode b_M_allDry 20 = .ok (.iload_n 2, 1) := by decide +kernel
theorem d_M_allDry_21 : decode b_M_allDry 21 = .ok (.iaload, 1) := by decide +kernel
theorem d_M_allDry_22 : decode b_M_allDry 22 = .ok (.iaload, 1) := by decide +kernel
theorem d_M_allDry_23 : decode b_M_allDry 23 = .ok (.ifCond .ge 5, 3) := by decide +kernel
theorem d_M_allDry_26 : decode b_M_allDry 26 = .ok (.iconst (-1), 1) := by decide +kernel
theorem d_M_allDry_27 : decode b_M_allDry 27 = .ok (.ireturn, 1) := by decide +kernel
theorem d_M_allDry_28 : decode b_M_allDry 28 = .ok (.aload_n 0, 1) := by decide +kernel
theorem d_M_allDry_29 : decode b_M_allDry 29 = .ok (.getfield 97, 3) := by decide +kernel
theorem d_M_allDry_32 : decode b_M_allDry 32 = .ok (.aload_n 0, 1) := by decide +kernel
theorem d_M_allDry_33 : decode b_M_allDry 33 = .ok (.getfield 100, 3) := by decide +kernel
theorem d_M_allDry_36 : decode b_M_allDry 36 = .ok (.iload_n 2, 1) := by decide +kernel
theorem d_M_allDry_37 : decode b_M_allDry 37 = .ok (.iaload, 1) := by decide +kernel
theorem d_M_allDry_38 : decode b_M_allDry 38 = .ok (.iaload, 1) := by decide +kernel
theorem d_M_allDry_39 : decode b_M_allDry 39 = .ok (.iload_n 1, 1) := by decide +kernel
theorem d_M_allDry_40 : decode b_M_allDry 40 = .ok (.if_icmp .le 15, 3) := by decide +kernel
theorem d_M_allDry_43 : decode b_M_allDry 43 = .ok (.aload_n 0, 1) := by decide +kernel
theorem d_M_allDry_44 : decode b_M_allDry 44 = .ok (.getfield 97, 3) := by decide +kernel
theorem d_M_allDry_47 : decode b_M_allDry 47 = .ok (.aload_n 0, 1) := by decide +kernel
theorem d_M_allDry_48 : decode b_M_allDry 48 = .ok (.getfield 100, 3) := by decide +kernel
theorem d_M_allDry_51 : decode b_M_allDry 51 = .ok (.iload_n 2, 1) := by decide +kernel
theorem d_M_allDry_52 : decode b_M_allDry 52 = .ok (.iaload, 1) := by decide +kernel
theorem d_M_allDry_53 : decode b_M_allDry 53 = .ok (.iaload, 1) := by decide +kernel
theorem d_M_allDry_54 : decode b_M_allDry 54 = .ok (.istore_n 1, 1) := by decide +kernel
theorem d_M_allDry_55 : decode b_M_allDry 55 = .ok (.iinc 2 1, 3) := by decide +kernel
theorem d_M_allDry_58 : decode b_M_allDry 58 = .ok (.goto (-54), 3) := by decide +kernel
theorem d_M_allDry_61 : decode b_M_allDry 61 = .ok (.iload_n 1, 1) := by decide +kernel
theorem d_M_allDry_62 : decode b_M_allDry 62 = .ok (.ireturn, 1) := by decide +kernel
theorem d_M_twoOf_0 : decode b_M_twoOf 0 = .ok (.iload_n 0, 1) := by decide +kernel
theorem d_M_twoOf_1 : decode b_M_twoOf 1 = .ok (.tableswitch 217 37 62 #[153, 203, 217, 217, 217, 127, 119, 217, 123, 217, 131, 217, 217, 217, 217, 217, 217, 217, 217, 217, 217, 217, 217, 170, 181, 192], 119) := by decide +kernel
theorem d_M_twoOf_120 : decode b_M_twoOf 120 = .ok (.iload_n 1, 1) := by decide +kernel
theorem d_M_twoOf_121 : decode b_M_twoOf 121 = .ok (.iload_n 2, 1) := by decide +kernel
theorem d_M_twoOf_122 : decode b_M_twoOf 122 = .ok (.iadd, 1) := by decide +kernel
theorem d_M_twoOf_123 : decode b_M_twoOf 123 = .ok (.ireturn, 1) := by decide +kernel
theorem d_M_twoOf_124 : decode b_M_twoOf 124 = .ok (.iload_n 1, 1) := by decide +kernel
theorem d_M_twoOf_125 : decode b_M_twoOf 125 = .ok (.iload_n 2, 1) := by decide +kernel
theorem d_M_twoOf_126 : decode b_M_twoOf 126 = .ok (.isub, 1) := by decide +kernel
theorem d_M_twoOf_127 : decode b_M_twoOf 127 = .ok (.ireturn, 1) := by decide +kernel
theorem d_M_twoOf_128 : decode b_M_twoOf 128 = .ok (.iload_n 1, 1) := by decide +kernel
theorem d_M_twoOf_129 : decode b_M_twoOf 129 = .ok (.iload_n 2, 1) := by decide +kernel
theorem d_M_twoOf_130 : decode b_M_twoOf 130 = .ok (.imul, 1) := by decide +kernel
theorem d_M_twoOf_131 : decode b_M_twoOf 131 = .ok (.ireturn, 1) := by decide +kernel
theorem d_M_twoOf_132 : decode b_M_twoOf 132 = .ok (.iload_n 2, 1) := by decide +kernel
theorem d_M_twoOf_133 : decode b_M_twoOf 133 = .ok (.ifCond .ne 7, 3) := by decide +kernel
theorem d_M_twoOf_136 : decode b_M_twoOf 136 = .ok (.iconst 0, 1) := by decide +kernel
theorem d_M_twoOf_137 : decode b_M_twoOf 137 = .ok (.goto 16, 3) := by decide +kernel
theorem d_M_twoOf_140 : decode b_M_twoOf 140 = .ok (.iload_n 2, 1) := by decide +kernel
theorem d_M_twoOf_141 : decode b_M_twoOf 141 = .ok (.iconst (-1), 1) := by decide +kernel
theorem d_M_twoOf_142 : decode b_M_twoOf 142 = .ok (.if_icmp .ne 8, 3) := by decide +kernel
theorem d_M_twoOf_145 : decode b_M_twoOf 145 = .ok (.iload_n 1, 1) := by decide +kernel
theorem d_M_twoOf_146 : decode b_M_twoOf 146 = .ok (.ineg, 1) := by decide +kernel
theorem d_M_twoOf_147 : decode b_M_twoOf 147 = .ok (.goto 6, 3) := by decide +kernel
theorem d_M_twoOf_150 : decode b_M_twoOf 150 = .ok (.iload_n 1, 1) := by decide +kernel
theorem d_M_twoOf_151 : decode b_M_twoOf 151 = .ok (.iload_n 2, 1) := by decide +kernel
theorem d_M_twoOf_152 : decode b_M_twoOf 152 = .ok (.idiv, 1) := by decide +kernel
theorem d_M_twoOf_153 : decode b_M_twoOf 153 = .ok (.ireturn, 1) := by decide +kernel
theorem d_M_twoOf_154 : decode b_M_twoOf 154 = .ok (.iload_n 2, 1) := by decide +kernel
theorem d_M_twoOf_155 : decode b_M_twoOf 155 = .ok (.ifCond .eq 8, 3) := by decide +kernel
theorem d_M_twoOf_158 : decode b_M_twoOf 158 = .ok (.iload_n 2, 1) := by decide +kernel
theorem d_M_twoOf_159 : decode b_M_twoOf 159 = .ok (.iconst (-1), 1) := by decide +kernel
theorem d_M_twoOf_160 : decode b_M_twoOf 160 = .ok (.if_icmp .ne 7, 3) := by decide +kernel
theorem d_M_twoOf_163 : decode b_M_twoOf 163 = .ok (.iconst 0, 1) := by decide +kernel
theorem d_M_twoOf_164 : decode b_M_twoOf 164 = .ok (.goto 6, 3) := by decide +kernel
theorem d_M_twoOf_167 : decode b_M_twoOf 167 = .ok (.iload_n 1, 1) := by decide +kernel
theorem d_M_twoOf_168 : decode b_M_twoOf 168 = .ok (.iload_n 2, 1) := by decide +kernel
theorem d_M_twoOf_169 : decode b_M_twoOf 169 = .ok (.irem, 1) := by decide +kernel
theorem d_M_twoOf_170 : decode b_M_twoOf 170 = .ok (.ireturn, 1) := by decide +kernel
theorem d_M_twoOf_171 : decode b_M_twoOf 171 = .ok (.iload_n 1, 1) := by decide +kernel
theorem d_M_twoOf_172 : decode b_M_twoOf 172 = .ok (.iload_n 2, 1) := by decide +kernel
theorem d_M_twoOf_173 : decode b_M_twoOf 173 = .ok (.if_icmp .ge 7, 3) := by decide +kernel
theorem d_M_twoOf_176 : decode b_M_twoOf 176 = .ok (.iconst 1, 1) := by decide +kernel
theorem d_M_twoOf_177 : decode b_M_twoOf 177 = .ok (.goto 4, 3) := by decide +kernel
theorem d_M_twoOf_180 : decode b_M_twoOf 180 = .ok (.iconst 0, 1) := by decide +kernel
theorem d_M_twoOf_181 : decode b_M_twoOf 181 = .ok (.ireturn, 1) := by decide +kernel
theorem d_M_twoOf_182 : decode b_M_twoOf 182 = .ok (.iload_n 1, 1) := by decide +kernel
theorem d_M_twoOf_183 : decode b_M_twoOf 183 = .ok (.iload_n 2, 1) := by decide +kernel
theorem d_M_twoOf_184 : decode b_M_twoOf 184 = .ok (.if_icmp .ne 7, 3) := by decide +kernel
theorem d_M_twoOf_187 : decode b_M_twoOf 187 = .ok (.iconst 1, 1) := by decide +kernel
theorem d_M_twoOf_188 : decode b_M_twoOf 188 = .ok (.goto 4, 3) := by decide +kernel
theorem d_M_twoOf_191 : decode b_M_twoOf 191 = .ok (.iconst 0, 1) := by decide +kernel
theorem d_M_twoOf_192 : decode b_M_twoOf 192 = .ok (.ireturn, 1) := by decide +kernel
theorem d_M_twoOf_193 : decode b_M_twoOf 193 = .ok (.iload_n 1, 1) := by decide +kernel
theorem d_M_twoOf_194 : decode b_M_twoOf 194 = .ok (.iload_n 2, 1) := by decide +kernel
theorem d_M_twoOf_195 : decode b_M_twoOf 195 = .ok (.if_icmp .le 7, 3) := by decide +kernel
theorem d_M_twoOf_198 : decode b_M_twoOf 198 = .ok (.iconst 1, 1) := by decide +kernel
theorem d_M_twoOf_199 : decode b_M_twoOf 199 = .ok (.goto 4, 3) := by decide +kernel
theorem d_M_twoOf_202 : decode b_M_twoOf 202 = .ok (.iconst 0, 1) := by decide +kernel
theorem d_M_twoOf_203 : decode b_M_twoOf 203 = .ok (.ireturn, 1) := by decide +kernel
theorem d_M_twoOf_204 : decode b_M_twoOf 204 = .ok (.iload_n 1, 1) := by decide +kernel
theorem d_M_twoOf_205 : decode b_M_twoOf 205 = .ok (.ifCond .eq 11, 3) := by decide +kernel
theorem d_M_twoOf_208 : decode b_M_twoOf 208 = .ok (.iload_n 2, 1) := by decide +kernel
theorem d_M_twoOf_209 : decode b_M_twoOf 209 = .ok (.ifCond .eq 7, 3) := by decide +kernel
theorem d_M_twoOf_212 : decode b_M_twoOf 212 = .ok (.iconst 1, 1) := by decide +kernel
theorem d_M_twoOf_213 : decode b_M_twoOf 213 = .ok (.goto 4, 3) := by decide +kernel
theorem d_M_twoOf_216 : decode b_M_twoOf 216 = .ok (.iconst 0, 1) := by decide +kernel
theorem d_M_twoOf_217 : decode b_M_twoOf 217 = .ok (.ireturn, 1) := by decide +kernel
theorem d_M_twoOf_218 : decode b_M_twoOf 218 = .ok (.iload_n 1, 1) := by decide +kernel
theorem d_M_twoOf_219 : decode b_M_twoOf 219 = .ok (.ifCond .ne 7, 3) := by decide +kernel
theorem d_M_twoOf_222 : decode b_M_twoOf 222 = .ok (.iload_n 2, 1) := by decide +kernel
theorem d_M_twoOf_223 : decode b_M_twoOf 223 = .ok (.ifCond .eq 7, 3) := by decide +kernel
theorem d_M_twoOf_226 : decode b_M_twoOf 226 = .ok (.iconst 1, 1) := by decide +kernel
theorem d_M_twoOf_227 : decode b_M_twoOf 227 = .ok (.goto 4, 3) := by decide +kernel
theorem d_M_twoOf_230 : decode b_M_twoOf 230 = .ok (.iconst 0, 1) := by decide +kernel
theorem d_M_twoOf_231 : decode b_M_twoOf 231 = .ok (.ireturn, 1) := by decide +kernel
theorem d_M_worked_0 : decode b_M_worked 0 = .ok (.iconst 0, 1) := by decide +kernel
theorem d_M_worked_1 : decode b_M_worked 1 = .ok (.istore 4, 2) := by decide +kernel
theorem d_M_worked_3 : decode b_M_worked 3 = .ok (.sipush 130, 3) := by decide +kernel
theorem d_M_worked_6 : decode b_M_worked 6 = .ok (.iload_n 1, 1) := by decide +kernel
theorem d_M_worked_7 : decode b_M_worked 7 = .ok (.imul, 1) := by decide +kernel
theorem d_M_worked_8 : decode b_M_worked 8 = .ok (.iload_n 2, 1) := by decide +kernel
theorem d_M_worked_9 : decode b_M_worked 9 = .ok (.iadd, 1) := by decide +kernel
theorem d_M_worked_10 : decode b_M_worked 10 = .ok (.istore 5, 2) := by decide +kernel
theorem d_M_worked_12 : decode b_M_worked 12 = .ok (.iload 5, 2) := by decide +kernel
theorem d_M_worked_14 : decode b_M_worked 14 = .ok (.sipush 130, 3) := by decide +kernel
theorem d_M_worked_17 : decode b_M_worked 17 = .ok (.iload_n 1, 1) := by decide +kernel
theorem d_M_worked_18 : decode b_M_worked 18 = .ok (.imul, 1) := by decide +kernel
theorem d_M_worked_19 : decode b_M_worked 19 = .ok (.iload_n 3, 1) := by decide +kernel
theorem d_M_worked_20 : decode b_M_worked 20 = .ok (.iadd, 1) := by decide +kernel
theorem d_M_worked_21 : decode b_M_worked 21 = .ok (.if_icmp .ge 167, 3) := by decide +kernel
theorem d_M_worked_24 : decode b_M_worked 24 = .ok (.aload_n 0, 1) := by decide +kernel
theorem d_M_worked_25 : decode b_M_worked 25 = .ok (.getfield 63, 3) := by decide +kernel
theorem d_M_worked_28 : decode b_M_worked 28 = .ok (.iload 5, 2) := by decide +kernel
theorem d_M_worked_30 : decode b_M_worked 30 = .ok (.baload, 1) := by decide +kernel
theorem d_M_worked_31 : decode b_M_worked 31 = .ok (.istore 6, 2) := by decide +kernel
theorem d_M_worked_33 : decode b_M_worked 33 = .ok (.iload 6, 2) := by decide +kernel
theorem d_M_worked_35 : decode b_M_worked 35 = .ok (.iconst 1, 1) := by decide +kernel
theorem d_M_worked_36 : decode b_M_worked 36 = .ok (.if_icmp .eq 9, 3) := by decide +kernel
theorem d_M_worked_39 : decode b_M_worked 39 = .ok (.iload 6, 2) := by decide +kernel
theorem d_M_worked_41 : decode b_M_worked 41 = .ok (.iconst 2, 1) := by decide +kernel
theorem d_M_worked_42 : decode b_M_worked 42 = .ok (.if_icmp .ne 44, 3) := by decide +kernel
theorem d_M_worked_45 : decode b_M_worked 45 = .ok (.aload_n 0, 1) := by decide +kernel
theorem d_M_worked_46 : decode b_M_worked 46 = .ok (.getfield 82, 3) := by decide +kernel
theorem d_M_worked_49 : decode b_M_worked 49 = .ok (.iload 4, 2) := by decide +kernel
theorem d_M_worked_51 : decode b_M_worked 51 = .ok (.iload 6, 2) := by decide +kernel
theorem d_M_worked_53 : decode b_M_worked 53 = .ok (.iconst 1, 1) := by decide +kernel
theorem d_M_worked_54 : decode b_M_worked 54 = .ok (.if_icmp .ne 13, 3) := by decide +kernel
theorem d_M_worked_57 : decode b_M_worked 57 = .ok (.aload_n 0, 1) := by decide +kernel
theorem d_M_worked_58 : decode b_M_worked 58 = .ok (.getfield 66, 3) := by decide +kernel
theorem d_M_worked_61 : decode b_M_worked 61 = .ok (.iload 5, 2) := by decide +kernel
theorem d_M_worked_63 : decode b_M_worked 63 = .ok (.iaload, 1) := by decide +kernel
theorem d_M_worked_64 : decode b_M_worked 64 = .ok (.goto 15, 3) := by decide +kernel
theorem d_M_worked_67 : decode b_M_worked 67 = .ok (.aload_n 0, 1) := by decide +kernel
theorem d_M_worked_68 : decode b_M_worked 68 = .ok (.getfield 79, 3) := by decide +kernel
theorem d_M_worked_71 : decode b_M_worked 71 = .ok (.aload_n 0, 1) := by decide +kernel
theorem d_M_worked_72 : decode b_M_worked 72 = .ok (.getfield 66, 3) := by decide +kernel
theorem d_M_worked_75 : decode b_M_worked 75 = .ok (.iload 5, 2) := by decide +kernel
theorem d_M_worked_77 : decode b_M_worked 77 = .ok (.iaload, 1) := by decide +kernel
theorem d_M_worked_78 : decode b_M_worked 78 = .ok (.iaload, 1) := by decide +kernel
theorem d_M_worked_79 : decode b_M_worked 79 = .ok (.iastore, 1) := by decide +kernel
theorem d_M_worked_80 : decode b_M_worked 80 = .ok (.iinc 4 1, 3) := by decide +kernel
theorem d_M_worked_83 : decode b_M_worked 83 = .ok (.goto 99, 3) := by decide +kernel
theorem d_M_worked_86 : decode b_M_worked 86 = .ok (.iload 6, 2) := by decide +kernel
theorem d_M_worked_88 : decode b_M_worked 88 = .ok (.iconst 3, 1) := by decide +kernel
theorem d_M_worked_89 : decode b_M_worked 89 = .ok (.if_icmp .ne 32, 3) := by decide +kernel
theorem d_M_worked_92 : decode b_M_worked 92 = .ok (.aload_n 0, 1) := by decide +kernel
theorem d_M_worked_93 : decode b_M_worked 93 = .ok (.getfield 82, 3) := by decide +kernel
theorem d_M_worked_96 : decode b_M_worked 96 = .ok (.iload 4, 2) := by decide +kernel
theorem d_M_worked_98 : decode b_M_worked 98 = .ok (.iconst 1, 1) := by decide +kernel
theorem d_M_worked_99 : decode b_M_worked 99 = .ok (.isub, 1) := by decide +kernel
theorem d_M_worked_100 : decode b_M_worked 100 = .ok (.aload_n 0, 1) := by decide +kernel
theorem d_M_worked_101 : decode b_M_worked 101 = .ok (.getfield 82, 3) := by decide +kernel
theorem d_M_worked_104 : decode b_M_worked 104 = .ok (.iload 4, 2) := by decide +kernel
theorem d_M_worked_106 : decode b_M_worked 106 = .ok (.iconst 1, 1) := by decide +kernel
theorem d_M_worked_107 : decode b_M_worked 107 = .ok (.isub, 1) := by decide +kernel
theorem d_M_worked_108 : decode b_M_worked 108 = .ok (.iaload, 1) := by decide +kernel
theorem d_M_worked_109 : decode b_M_worked 109 = .ok (.ifCond .ne 7, 3) := by decide +kernel
theorem d_M_worked_112 : decode b_M_worked 112 = .ok (.iconst 1, 1) := by decide +kernel
theorem d_M_worked_113 : decode b_M_worked 113 = .ok (.goto 4, 3) := by decide +kernel
theorem d_M_worked_116 : decode b_M_worked 116 = .ok (.iconst 0, 1) := by decide +kernel
theorem d_M_worked_117 : decode b_M_worked 117 = .ok (.iastore, 1) := by decide +kernel
theorem d_M_worked_118 : decode b_M_worked 118 = .ok (.goto 64, 3) := by decide +kernel
theorem d_M_worked_121 : decode b_M_worked 121 = .ok (.iload 6, 2) := by decide +kernel
theorem d_M_worked_123 : decode b_M_worked 123 = .ok (.iconst 4, 1) := by decide +kernel
theorem d_M_worked_124 : decode b_M_worked 124 = .ok (.if_icmp .ne 25, 3) := by decide +kernel
theorem d_M_worked_127 : decode b_M_worked 127 = .ok (.aload_n 0, 1) := by decide +kernel
theorem d_M_worked_128 : decode b_M_worked 128 = .ok (.getfield 82, 3) := by decide +kernel
theorem d_M_worked_131 : decode b_M_worked 131 = .ok (.iload 4, 2) := by decide +kernel
theorem d_M_worked_133 : decode b_M_worked 133 = .ok (.iconst 1, 1) := by decide +kernel
theorem d_M_worked_134 : decode b_M_worked 134 = .ok (.isub, 1) := by decide +kernel
theorem d_M_worked_135 : decode b_M_worked 135 = .ok (.aload_n 0, 1) := by decide +kernel
theorem d_M_worked_136 : decode b_M_worked 136 = .ok (.getfield 82, 3) := by decide +kernel
theorem d_M_worked_139 : decode b_M_worked 139 = .ok (.iload 4, 2) := by decide +kernel
theorem d_M_worked_141 : decode b_M_worked 141 = .ok (.iconst 1, 1) := by decide +kernel
theorem d_M_worked_142 : decode b_M_worked 142 = .ok (.isub, 1) := by decide +kernel
theorem d_M_worked_143 : decode b_M_worked 143 = .ok (.iaload, 1) := by decide +kernel
theorem d_M_worked_144 : decode b_M_worked 144 = .ok (.ineg, 1) := by decide +kernel
theorem d_M_worked_145 : decode b_M_worked 145 = .ok (.iastore, 1) := by decide +kernel
theorem d_M_worked_146 : decode b_M_worked 146 = .ok (.goto 36, 3) := by decide +kernel
theorem d_M_worked_149 : decode b_M_worked 149 = .ok (.iinc 4 (-1), 3) := by decide +kernel
theorem d_M_worked_152 : decode b_M_worked 152 = .ok (.aload_n 0, 1) := by decide +kernel
theorem d_M_worked_153 : decode b_M_worked 153 = .ok (.getfield 82, 3) := by decide +kernel
theorem d_M_worked_156 : decode b_M_worked 156 = .ok (.iload 4, 2) := by decide +kernel
theorem d_M_worked_158 : decode b_M_worked 158 = .ok (.iconst 1, 1) := by decide +kernel
theorem d_M_worked_159 : decode b_M_worked 159 = .ok (.isub, 1) := by decide +kernel
theorem d_M_worked_160 : decode b_M_worked 160 = .ok (.iload 6, 2) := by decide +kernel
theorem d_M_worked_162 : decode b_M_worked 162 = .ok (.aload_n 0, 1) := by decide +kernel
theorem d_M_worked_163 : decode b_M_worked 163 = .ok (.getfield 82, 3) := by decide +kernel
theorem d_M_worked_166 : decode b_M_worked 166 = .ok (.iload 4, 2) := by decide +kernel
theorem d_M_worked_168 : decode b_M_worked 168 = .ok (.iconst 1, 1) := by decide +kernel
theorem d_M_worked_169 : decode b_M_worked 169 = .ok (.isub, 1) := by decide +kernel
theorem d_M_worked_170 : decode b_M_worked 170 = .ok (.iaload, 1) := by decide +kernel
theorem d_M_worked_171 : decode b_M_worked 171 = .ok (.aload_n 0, 1) := by decide +kernel
theorem d_M_worked_172 : decode b_M_worked 172 = .ok (.getfield 82, 3) := by decide +kernel
theorem d_M_worked_175 : decode b_M_worked 175 = .ok (.iload 4, 2) := by decide +kernel
theorem d_M_worked_177 : decode b_M_worked 177 = .ok (.iaload, 1) := by decide +kernel
theorem d_M_worked_178 : decode b_M_worked 178 = .ok (.invokestatic 252, 3) := by decide +kernel
theorem d_M_worked_181 : decode b_M_worked 181 = .ok (.iastore, 1) := by decide +kernel
theorem d_M_worked_182 : decode b_M_worked 182 = .ok (.iinc 5 1, 3) := by decide +kernel
theorem d_M_worked_185 : decode b_M_worked 185 = .ok (.goto (-173), 3) := by decide +kernel
theorem d_M_worked_188 : decode b_M_worked 188 = .ok (.aload_n 0, 1) := by decide +kernel
theorem d_M_worked_189 : decode b_M_worked 189 = .ok (.getfield 82, 3) := by decide +kernel
theorem d_M_worked_192 : decode b_M_worked 192 = .ok (.iconst 0, 1) := by decide +kernel
theorem d_M_worked_193 : decode b_M_worked 193 = .ok (.iaload, 1) := by decide +kernel
theorem d_M_worked_194 : decode b_M_worked 194 = .ok (.ireturn, 1) := by decide +kernel
theorem d_M_givesText_0 : decode b_M_givesText 0 = .ok (.iconst 0, 1) := by decide +kernel
theorem d_M_givesText_1 : decode b_M_givesText 1 = .ok (.istore_n 2, 1) := by decide +kernel
theorem d_M_givesText_2 : decode b_M_givesText 2 = .ok (.bipush 61, 2) := by decide +kernel
theorem d_M_givesText_4 : decode b_M_givesText 4 = .ok (.iload_n 1, 1) := by decide +kernel
theorem d_M_givesText_5 : decode b_M_givesText 5 = .ok (.imul, 1) := by decide +kernel
theorem d_M_givesText_6 : decode b_M_givesText 6 = .ok (.istore_n 3, 1) := by decide +kernel
theorem d_M_givesText_7 : decode b_M_givesText 7 = .ok (.iload_n 3, 1) := by decide +kernel
theorem d_M_givesText_8 : decode b_M_givesText 8 = .ok (.bipush 61, 2) := by decide +kernel
theorem d_M_givesText_10 : decode b_M_givesText 10 = .ok (.iload_n 1, 1) := by decide +kernel
theorem d_M_givesText_11 : decode b_M_givesText 11 = .ok (.imul, 1) := by decide +kernel
theorem d_M_givesText_12 : decode b_M_givesText 12 = .ok (.aload_n 0, 1) := by decide +kernel
theorem d_M_givesText_13 : decode b_M_givesText 13 = .ok (.getfield 69, 3) := by decide +kernel
theorem d_M_givesText_16 : decode b_M_givesText 16 = .ok (.iload_n 1, 1) := by decide +kernel
theorem d_M_givesText_17 : decode b_M_givesText 17 = .ok (.iaload, 1) := by decide +kernel
theorem d_M_givesText_18 : decode b_M_givesText 18 = .ok (.iadd, 1) := by decide +kernel
theorem d_M_givesText_19 : decode b_M_givesText 19 = .ok (.if_icmp .ge 59, 3) := by decide +kernel
theorem d_M_givesText_22 : decode b_M_givesText 22 = .ok (.aload_n 0, 1) := by decide +kernel
theorem d_M_givesText_23 : decode b_M_givesText 23 = .ok (.getfield 72, 3) := by decide +kernel
theorem d_M_givesText_26 : decode b_M_givesText 26 = .ok (.iload_n 3, 1) := by decide +kernel
theorem d_M_givesText_27 : decode b_M_givesText 27 = .ok (.saload, 1) := by decide +kernel
theorem d_M_givesText_28 : decode b_M_givesText 28 = .ok (.iload_n 2, 1) := by decide +kernel
theorem d_M_givesText_29 : decode b_M_givesText 29 = .ok (.if_icmp .eq 18, 3) := by decide +kernel
theorem d_M_givesText_32 : decode b_M_givesText 32 = .ok (.aload_n 0, 1) := by decide +kernel
theorem d_M_givesText_33 : decode b_M_givesText 33 = .ok (.iload_n 1, 1) := by decide +kernel
theorem d_M_givesText_34 : decode b_M_givesText 34 = .ok (.iload_n 2, 1) := by decide +kernel
theorem d_M_givesText_35 : decode b_M_givesText 35 = .ok (.aload_n 0, 1) := by decide +kernel
theorem d_M_givesText_36 : decode b_M_givesText 36 = .ok (.getfield 72, 3) := by decide +kernel
theorem d_M_givesText_39 : decode b_M_givesText 39 = .ok (.iload_n 3, 1) := by decide +kernel
theorem d_M_givesText_40 : decode b_M_givesText 40 = .ok (.saload, 1) := by decide +kernel
theorem d_M_givesText_41 : decode b_M_givesText 41 = .ok (.invokevirtual 255, 3) := by decide +kernel
theorem d_M_givesText_44 : decode b_M_givesText 44 = .ok (.ifCond .eq 21, 3) := by decide +kernel
theorem d_M_givesText_47 : decode b_M_givesText 47 = .ok (.aload_n 0, 1) := by decide +kernel
theorem d_M_givesText_48 : decode b_M_givesText 48 = .ok (.iload_n 1, 1) := by decide +kernel
theorem d_M_givesText_49 : decode b_M_givesText 49 = .ok (.aload_n 0, 1) := by decide +kernel
theorem d_M_givesText_50 : decode b_M_givesText 50 = .ok (.getfield 72, 3) := by decide +kernel
theorem d_M_givesText_53 : decode b_M_givesText 53 = .ok (.iload_n 3, 1) := by decide +kernel
theorem d_M_givesText_54 : decode b_M_givesText 54 = .ok (.saload, 1) := by decide +kernel
theorem d_M_givesText_55 : decode b_M_givesText 55 = .ok (.aload_n 0, 1) := by decide +kernel
theorem d_M_givesText_56 : decode b_M_givesText 56 = .ok (.getfield 76, 3) := by decide +kernel
theorem d_M_givesText_59 : decode b_M_givesText 59 = .ok (.iload_n 3, 1) := by decide +kernel
theorem d_M_givesText_60 : decode b_M_givesText 60 = .ok (.saload, 1) := by decide +kernel
theorem d_M_givesText_61 : decode b_M_givesText 61 = .ok (.invokevirtual 255, 3) := by decide +kernel
theorem d_M_givesText_64 : decode b_M_givesText 64 = .ok (.ireturn, 1) := by decide +kernel
theorem d_M_givesText_65 : decode b_M_givesText 65 = .ok (.aload_n 0, 1) := by decide +kernel
theorem d_M_givesText_66 : decode b_M_givesText 66 = .ok (.getfield 76, 3) := by decide +kernel
theorem d_M_givesText_69 : decode b_M_givesText 69 = .ok (.iload_n 3, 1) := by decide +kernel
theorem d_M_givesText_70 : decode b_M_givesText 70 = .ok (.saload, 1) := by decide +kernel
theorem d_M_givesText_71 : decode b_M_givesText 71 = .ok (.istore_n 2, 1) := by decide +kernel
theorem d_M_givesText_72 : decode b_M_givesText 72 = .ok (.iinc 3 1, 3) := by decide +kernel
theorem d_M_givesText_75 : decode b_M_givesText 75 = .ok (.goto (-68), 3) := by decide +kernel
theorem d_M_givesText_78 : decode b_M_givesText 78 = .ok (.iconst 0, 1) := by decide +kernel
theorem d_M_givesText_79 : decode b_M_givesText 79 = .ok (.ireturn, 1) := by decide +kernel
theorem d_M_givesBy_0 : decode b_M_givesBy 0 = .ok (.aload_n 0, 1) := by decide +kernel
theorem d_M_givesBy_1 : decode b_M_givesBy 1 = .ok (.getfield 13, 3) := by decide +kernel
theorem d_M_givesBy_4 : decode b_M_givesBy 4 = .ok (.iload_n 1, 1) := by decide +kernel
theorem d_M_givesBy_5 : decode b_M_givesBy 5 = .ok (.iaload, 1) := by decide +kernel
theorem d_M_givesBy_6 : decode b_M_givesBy 6 = .ok (.iload_n 2, 1) := by decide +kernel
theorem d_M_givesBy_7 : decode b_M_givesBy 7 = .ok (.if_icmp .le 18, 3) := by decide +kernel
theorem d_M_givesBy_10 : decode b_M_givesBy 10 = .ok (.aload_n 0, 1) := by decide +kernel
theorem d_M_givesBy_11 : decode b_M_givesBy 11 = .ok (.getfield 13, 3) := by decide +kernel
theorem d_M_givesBy_14 : decode b_M_givesBy 14 = .ok (.iload_n 1, 1) := by decide +kernel
theorem d_M_givesBy_15 : decode b_M_givesBy 15 = .ok (.iaload, 1) := by decide +kernel
theorem d_M_givesBy_16 : decode b_M_givesBy 16 = .ok (.iload_n 2, 1) := by decide +kernel
theorem d_M_givesBy_17 : decode b_M_givesBy 17 = .ok (.isub, 1) := by decide +kernel
theorem d_M_givesBy_18 : decode b_M_givesBy 18 = .ok (.iload_n 3, 1) := by decide +kernel
theorem d_M_givesBy_19 : decode b_M_givesBy 19 = .ok (.imul, 1) := by decide +kernel
theorem d_M_givesBy_20 : decode b_M_givesBy 20 = .ok (.iconst 3, 1) := by decide +kernel
theorem d_M_givesBy_21 : decode b_M_givesBy 21 = .ok (.idiv, 1) := by decide +kernel
theorem d_M_givesBy_22 : decode b_M_givesBy 22 = .ok (.goto 4, 3) := by decide +kernel
theorem d_M_givesBy_25 : decode b_M_givesBy 25 = .ok (.iconst 0, 1) := by decide +kernel
theorem d_M_givesBy_26 : decode b_M_givesBy 26 = .ok (.istore 4, 2) := by decide +kernel
theorem d_M_givesBy_28 : decode b_M_givesBy 28 = .ok (.aload_n 0, 1) := by decide +kernel
theorem d_M_givesBy_29 : decode b_M_givesBy 29 = .ok (.getfield 261, 3) := by decide +kernel
theorem d_M_givesBy_32 : decode b_M_givesBy 32 = .ok (.ifCond .eq 72, 3) := by decide +kernel
theorem d_M_givesBy_35 : decode b_M_givesBy 35 = .ok (.aload_n 0, 1) := by decide +kernel
theorem d_M_givesBy_36 : decode b_M_givesBy 36 = .ok (.getfield 79, 3) := by decide +kernel
theorem d_M_givesBy_39 : decode b_M_givesBy 39 = .ok (.iconst 0, 1) := by decide +kernel
theorem d_M_givesBy_40 : decode b_M_givesBy 40 = .ok (.aload_n 0, 1) := by decide +kernel
theorem d_M_givesBy_41 : decode b_M_givesBy 41 = .ok (.getfield 13, 3) := by decide +kernel
theorem d_M_givesBy_44 : decode b_M_givesBy 44 = .ok (.iload_n 1, 1) := by decide +kernel
theorem d_M_givesBy_45 : decode b_M_givesBy 45 = .ok (.iaload, 1) := by decide +kernel
theorem d_M_givesBy_46 : decode b_M_givesBy 46 = .ok (.iastore, 1) := by decide +kernel
theorem d_M_givesBy_47 : decode b_M_givesBy 47 = .ok (.aload_n 0, 1) := by decide +kernel
theorem d_M_givesBy_48 : decode b_M_givesBy 48 = .ok (.getfield 79, 3) := by decide +kernel
theorem d_M_givesBy_51 : decode b_M_givesBy 51 = .ok (.iconst 1, 1) := by decide +kernel
theorem d_M_givesBy_52 : decode b_M_givesBy 52 = .ok (.iload_n 2, 1) := by decide +kernel
theorem d_M_givesBy_53 : decode b_M_givesBy 53 = .ok (.iastore, 1) := by decide +kernel
theorem d_M_givesBy_54 : decode b_M_givesBy 54 = .ok (.aload_n 0, 1) := by decide +kernel
theorem d_M_givesBy_55 : decode b_M_givesBy 55 = .ok (.getfield 79, 3) := by decide +kernel
theorem d_M_givesBy_58 : decode b_M_givesBy 58 = .ok (.iconst 2, 1) := by decide +kernel
theorem d_M_givesBy_59 : decode b_M_givesBy 59 = .ok (.iload_n 3, 1) := by decide +kernel
theorem d_M_givesBy_60 : decode b_M_givesBy 60 = .ok (.iastore, 1) := by decide +kernel
theorem d_M_givesBy_61 : decode b_M_givesBy 61 = .ok (.aload_n 0, 1) := by decide +kernel
theorem d_M_givesBy_62 : decode b_M_givesBy 62 = .ok (.getfield 79, 3) := by decide +kernel
theorem d_M_givesBy_65 : decode b_M_givesBy 65 = .ok (.iconst 3, 1) := by decide +kernel
theorem d_M_givesBy_66 : decode b_M_givesBy 66 = .ok (.aload_n 0, 1) := by decide +kernel
theorem d_M_givesBy_67 : decode b_M_givesBy 67 = .ok (.getfield 7, 3) := by decide +kernel
theorem d_M_givesBy_70 : decode b_M_givesBy 70 = .ok (.iload_n 1, 1) := by decide +kernel
theorem d_M_givesBy_71 : decode b_M_givesBy 71 = .ok (.iaload, 1) := by decide +kernel
theorem d_M_givesBy_72 : decode b_M_givesBy 72 = .ok (.iastore, 1) := by decide +kernel
theorem d_M_givesBy_73 : decode b_M_givesBy 73 = .ok (.aload_n 0, 1) := by decide +kernel
theorem d_M_givesBy_74 : decode b_M_givesBy 74 = .ok (.getfield 79, 3) := by decide +kernel
theorem d_M_givesBy_77 : decode b_M_givesBy 77 = .ok (.iconst 4, 1) := by decide +kernel
theorem d_M_givesBy_78 : decode b_M_givesBy 78 = .ok (.aload_n 0, 1) := by decide +kernel
theorem d_M_givesBy_79 : decode b_M_givesBy 79 = .ok (.getfield 22, 3) := by decide +kernel
theorem d_M_givesBy_82 : decode b_M_givesBy 82 = .ok (.iload_n 1, 1) := by decide +kernel
theorem d_M_givesBy_83 : decode b_M_givesBy 83 = .ok (.iaload, 1) := by decide +kernel
theorem d_M_givesBy_84 : decode b_M_givesBy 84 = .ok (.iastore, 1) := by decide +kernel
theorem d_M_givesBy_85 : decode b_M_givesBy 85 = .ok (.aload_n 0, 1) := by decide +kernel
theorem d_M_givesBy_86 : decode b_M_givesBy 86 = .ok (.getfield 79, 3) := by decide +kernel
theorem d_M_givesBy_89 : decode b_M_givesBy 89 = .ok (.iconst 5, 1) := by decide +kernel
theorem d_M_givesBy_90 : decode b_M_givesBy 90 = .ok (.aload_n 0, 1) := by decide +kernel
theorem d_M_givesBy_91 : decode b_M_givesBy 91 = .ok (.getfield 19, 3) := by decide +kernel
theorem d_M_givesBy_94 : decode b_M_givesBy 94 = .ok (.iload_n 1, 1) := by decide +kernel
theorem d_M_givesBy_95 : decode b_M_givesBy 95 = .ok (.iaload, 1) := by decide +kernel
theorem d_M_givesBy_96 : decode b_M_givesBy 96 = .ok (.iastore, 1) := by decide +kernel
theorem d_M_givesBy_97 : decode b_M_givesBy 97 = .ok (.aload_n 0, 1) := by decide +kernel
theorem d_M_givesBy_98 : decode b_M_givesBy 98 = .ok (.iconst 0, 1) := by decide +kernel
theorem d_M_givesBy_99 : decode b_M_givesBy 99 = .ok (.invokevirtual 265, 3) := by decide +kernel
theorem d_M_givesBy_102 : decode b_M_givesBy 102 = .ok (.istore 4, 2) := by decide +kernel
theorem d_M_givesBy_104 : decode b_M_givesBy 104 = .ok (.iload 4, 2) := by decide +kernel
theorem d_M_givesBy_106 : decode b_M_givesBy 106 = .ok (.ifCond .ge 7, 3) := by decide +kernel
theorem d_M_givesBy_109 : decode b_M_givesBy 109 = .ok (.iconst 0, 1) := by decide +kernel
theorem d_M_givesBy_110 : decode b_M_givesBy 110 = .ok (.goto 17, 3) := by decide +kernel
theorem d_M_givesBy_113 : decode b_M_givesBy 113 = .ok (.iload 4, 2) := by decide +kernel
theorem d_M_givesBy_115 : decode b_M_givesBy 115 = .ok (.bipush 99, 2) := by decide +kernel
theorem d_M_givesBy_117 : decode b_M_givesBy 117 = .ok (.if_icmp .le 8, 3) := by decide +kernel
theorem d_M_givesBy_120 : decode b_M_givesBy 120 = .ok (.bipush 99, 2) := by decide +kernel
theorem d_M_givesBy_122 : decode b_M_givesBy 122 = .ok (.goto 5, 3) := by decide +kernel
theorem d_M_givesBy_125 : decode b_M_givesBy 125 = .ok (.iload 4, 2) := by decide +kernel
theorem d_M_givesBy_127 : decode b_M_givesBy 127 = .ok (.ireturn, 1) := by decide +kernel
theorem d_M_isHeat_0 : decode b_M_isHeat 0 = .ok (.iload_n 0, 1) := by decide +kernel
theorem d_M_isHeat_1 : decode b_M_isHeat 1 = .ok (.iconst 3, 1) := by decide +kernel
theorem d_M_isHeat_2 : decode b_M_isHeat 2 = .ok (.bipush 9, 2) := by decide +kernel
theorem d_M_isHeat_4 : decode b_M_isHeat 4 = .ok (.invokestatic 153, 3) := by decide +kernel
theorem d_M_isHeat_7 : decode b_M_isHeat 7 = .ok (.ireturn, 1) := by decide +kernel
theorem d_M_isThing_0 : decode b_M_isThing 0 = .ok (.iload_n 1, 1) := by decide +kernel
theorem d_M_isThing_1 : decode b_M_isThing 1 = .ok (.iconst 0, 1) := by decide +kernel
theorem d_M_isThing_2 : decode b_M_isThing 2 = .ok (.aload_n 0, 1) := by decide +kernel
theorem d_M_isThing_3 : decode b_M_isThing 3 = .ok (.getfield 150, 3) := by decide +kernel
theorem d_M_isThing_6 : decode b_M_isThing 6 = .ok (.iconst 1, 1) := by decide +kernel
theorem d_M_isThing_7 : decode b_M_isThing 7 = .ok (.isub, 1) := by decide +kernel
theorem d_M_isThing_8 : decode b_M_isThing 8 = .ok (.invokestatic 153, 3) := by decide +kernel
theorem d_M_isThing_11 : decode b_M_isThing 11 = .ok (.ireturn, 1) := by decide +kernel
theorem d_M_alone_0 : decode b_M_alone 0 = .ok (.aload_n 0, 1) := by decide +kernel
theorem d_M_alone_1 : decode b_M_alone 1 = .ok (.iload_n 1, 1) := by decide +kernel
theorem d_M_alone_2 : decode b_M_alone 2 = .ok (.invokevirtual 181, 3) := by decide +kernel
theorem d_M_alone_5 : decode b_M_alone 5 = .ok (.ifCond .eq 10, 3) := by decide +kernel
theorem d_M_alone_8 : decode b_M_alone 8 = .ok (.iload_n 2, 1) := by decide +kernel
theorem d_M_alone_9 : decode b_M_alone 9 = .ok (.invokestatic 271, 3) := by decide +kernel
theorem d_M_alone_12 : decode b_M_alone 12 = .ok (.ifCond .ne 5, 3) := by decide +kernel
theorem d_M_alone_15 : decode b_M_alone 15 = .ok (.iconst (-1), 1) := by decide +kernel
theorem d_M_alone_16 : decode b_M_alone 16 = .ok (.ireturn, 1) := by decide +kernel
theorem d_M_alone_17 : decode b_M_alone 17 = .ok (.bipush 100, 2) := by decide +kernel
theorem d_M_alone_19 : decode b_M_alone 19 = .ok (.istore_n 3, 1) := by decide +kernel
theorem d_M_alone_20 : decode b_M_alone 20 = .ok (.iload_n 3, 1) := by decide +kernel
theorem d_M_alone_21 : decode b_M_alone 21 = .ok (.aload_n 0, 1) := by decide +kernel
theorem d_M_alone_22 : decode b_M_alone 22 = .ok (.getfield 16, 3) := by decide +kernel
theorem d_M_alone_25 : decode b_M_alone 25 = .ok (.iload_n 1, 1) := by decide +kernel
theorem d_M_alone_26 : decode b_M_alone 26 = .ok (.iaload, 1) := by decide +kernel
theorem d_M_alone_27 : decode b_M_alone 27 = .ok (.if_icmp .le 21, 3) := by decide +kernel
theorem d_M_alone_30 : decode b_M_alone 30 = .ok (.aload_n 0, 1) := by decide +kernel
theorem d_M_alone_31 : decode b_M_alone 31 = .ok (.iload_n 1, 1) := by decide +kernel
theorem d_M_alone_32 : decode b_M_alone 32 = .ok (.iload_n 3, 1) := by decide +kernel
theorem d_M_alone_33 : decode b_M_alone 33 = .ok (.iconst 1, 1) := by decide +kernel
theorem d_M_alone_34 : decode b_M_alone 34 = .ok (.isub, 1) := by decide +kernel
theorem d_M_alone_35 : decode b_M_alone 35 = .ok (.iload_n 2, 1) := by decide +kernel
theorem d_M_alone_36 : decode b_M_alone 36 = .ok (.invokevirtual 268, 3) := by decide +kernel
theorem d_M_alone_39 : decode b_M_alone 39 = .ok (.ifCond .ne 9, 3) := by decide +kernel
theorem d_M_alone_42 : decode b_M_alone 42 = .ok (.iinc 3 (-1), 3) := by decide +kernel
theorem d_M_alone_45 : decode b_M_alone 45 = .ok (.goto (-25), 3) := by decide +kernel
theorem d_M_alone_48 : decode b_M_alone 48 = .ok (.iload_n 3, 1) := by decide +kernel
theorem d_M_alone_49 : decode b_M_alone 49 = .ok (.bipush 99, 2) := by decide +kernel
theorem d_M_alone_51 : decode b_M_alone 51 = .ok (.if_icmp .le 8, 3) := by decide +kernel
theorem d_M_alone_54 : decode b_M_alone 54 = .ok (.bipush (-2), 2) := by decide +kernel
theorem d_M_alone_56 : decode b_M_alone 56 = .ok (.goto 11, 3) := by decide +kernel
theorem d_M_alone_59 : decode b_M_alone 59 = .ok (.iload_n 3, 1) := by decide +kernel
theorem d_M_alone_60 : decode b_M_alone 60 = .ok (.aload_n 0, 1) := by decide +kernel
theorem d_M_alone_61 : decode b_M_alone 61 = .ok (.getfield 16, 3) := by decide +kernel
theorem d_M_alone_64 : decode b_M_alone 64 = .ok (.iload_n 1, 1) := by decide +kernel
theorem d_M_alone_65 : decode b_M_alone 65 = .ok (.iaload, 1) := by decide +kernel
theorem d_M_alone_66 : decode b_M_alone 66 = .ok (.isub, 1) := by decide +kernel
theorem d_M_alone_67 : decode b_M_alone 67 = .ok (.ireturn, 1) := by decide +kernel
theorem d_M_areHeat_0 : decode b_M_areHeat 0 = .ok (.iload_n 0, 1) := by decide +kernel
theorem d_M_areHeat_1 : decode b_M_areHeat 1 = .ok (.ifCond .lt 25, 3) := by decide +kernel
theorem d_M_areHeat_4 : decode b_M_areHeat 4 = .ok (.iload_n 0, 1) := by decide +kernel
theorem d_M_areHeat_5 : decode b_M_areHeat 5 = .ok (.bipush 10, 2) := by decide +kernel
theorem d_M_areHeat_7 : decode b_M_areHeat 7 = .ok (.idiv, 1) := by decide +kernel
theorem d_M_areHeat_8 : decode b_M_areHeat 8 = .ok (.invokestatic 271, 3) := by decide +kernel
theorem d_M_areHeat_11 : decode b_M_areHeat 11 = .ok (.ifCond .eq 15, 3) := by decide +kernel
theorem d_M_areHeat_14 : decode b_M_areHeat 14 = .ok (.iload_n 0, 1) := by decide +kernel
theorem d_M_areHeat_15 : decode b_M_areHeat 15 = .ok (.bipush 10, 2) := by decide +kernel
theorem d_M_areHeat_17 : decode b_M_areHeat 17 = .ok (.irem, 1) := by decide +kernel
theorem d_M_areHeat_18 : decode b_M_areHeat 18 = .ok (.iconst 1, 1) := by decide +kernel
theorem d_M_areHeat_19 : decode b_M_areHeat 19 = .ok (.if_icmp .gt 7, 3) := by decide +kernel
theorem d_M_areHeat_22 : decode b_M_areHeat 22 = .ok (.iconst 1, 1) := by decide +kernel
theorem d_M_areHeat_23 : decode b_M_areHeat 23 = .ok (.goto 4, 3) := by decide +kernel
theorem d_M_areHeat_26 : decode b_M_areHeat 26 = .ok (.iconst 0, 1) := by decide +kernel
theorem d_M_areHeat_27 : decode b_M_areHeat 27 = .ok (.ireturn, 1) := by decide +kernel
theorem d_M_areMost_0 : decode b_M_areMost 0 = .ok (.iload_n 0, 1) := by decide +kernel
theorem d_M_areMost_1 : decode b_M_areMost 1 = .ok (.ifCond .lt 17, 3) := by decide +kernel
theorem d_M_areMost_4 : decode b_M_areMost 4 = .ok (.iload_n 0, 1) := by decide +kernel
theorem d_M_areMost_5 : decode b_M_areMost 5 = .ok (.bipush 100, 2) := by decide +kernel
theorem d_M_areMost_7 : decode b_M_areMost 7 = .ok (.idiv, 1) := by decide +kernel
theorem d_M_areMost_8 : decode b_M_areMost 8 = .ok (.invokestatic 271, 3) := by decide +kernel
theorem d_M_areMost_11 : decode b_M_areMost 11 = .ok (.ifCond .eq 7, 3) := by decide +kernel
theorem d_M_areMost_14 : decode b_M_areMost 14 = .ok (.iconst 1, 1) := by decide +kernel
theorem d_M_areMost_15 : decode b_M_areMost 15 = .ok (.goto 4, 3) := by decide +kernel
theorem d_M_areMost_18 : decode b_M_areMost 18 = .ok (.iconst 0, 1) := by decide +kernel
theorem d_M_areMost_19 : decode b_M_areMost 19 = .ok (.ireturn, 1) := by decide +kernel
theorem d_M_goesSo_0 : decode b_M_goesSo 0 = .ok (.iconst 0, 1) := by decide +kernel
theorem d_M_goesSo_1 : decode b_M_goesSo 1 = .ok (.istore_n 2, 1) := by decide +kernel
theorem d_M_goesSo_2 : decode b_M_goesSo 2 = .ok (.iconst 0, 1) := by decide +kernel
theorem d_M_goesSo_3 : decode b_M_goesSo 3 = .ok (.istore_n 3, 1) := by decide +kernel
theorem d_M_goesSo_4 : decode b_M_goesSo 4 = .ok (.iload_n 3, 1) := by decide +kernel
theorem d_M_goesSo_5 : decode b_M_goesSo 5 = .ok (.aload_n 0, 1) := by decide +kernel
theorem d_M_goesSo_6 : decode b_M_goesSo 6 = .ok (.getfield 150, 3) := by decide +kernel
theorem d_M_goesSo_9 : decode b_M_goesSo 9 = .ok (.if_icmp .ge 40, 3) := by decide +kernel
theorem d_M_goesSo_12 : decode b_M_goesSo 12 = .ok (.iload_n 1, 1) := by decide +kernel
theorem d_M_goesSo_13 : decode b_M_goesSo 13 = .ok (.iload_n 3, 1) := by decide +kernel
theorem d_M_goesSo_14 : decode b_M_goesSo 14 = .ok (.ishr, 1) := by decide +kernel
theorem d_M_goesSo_15 : decode b_M_goesSo 15 = .ok (.iconst 1, 1) := by decide +kernel
theorem d_M_goesSo_16 : decode b_M_goesSo 16 = .ok (.iand, 1) := by decide +kernel
theorem d_M_goesSo_17 : decode b_M_goesSo 17 = .ok (.ifCond .ne 6, 3) := by decide +kernel
theorem d_M_goesSo_20 : decode b_M_goesSo 20 = .ok (.goto 23, 3) := by decide +kernel
theorem d_M_goesSo_23 : decode b_M_goesSo 23 = .ok (.aload_n 0, 1) := by decide +kernel
theorem d_M_goesSo_24 : decode b_M_goesSo 24 = .ok (.getfield 109, 3) := by decide +kernel
theorem d_M_goesSo_27 : decode b_M_goesSo 27 = .ok (.iload_n 3, 1) := by decide +kernel
theorem d_M_goesSo_28 : decode b_M_goesSo 28 = .ok (.baload, 1) := by decide +kernel
theorem d_M_goesSo_29 : decode b_M_goesSo 29 = .ok (.ifCond .eq 5, 3) := by decide +kernel
theorem d_M_goesSo_32 : decode b_M_goesSo 32 = .ok (.iconst 0, 1) := by decide +kernel
theorem d_M_goesSo_33 : decode b_M_goesSo 33 = .ok (.ireturn, 1) := by decide +kernel
theorem d_M_goesSo_34 : decode b_M_goesSo 34 = .ok (.iload_n 2, 1) := by decide +kernel
theorem d_M_goesSo_35 : decode b_M_goesSo 35 = .ok (.aload_n 0, 1) := by decide +kernel
theorem d_M_goesSo_36 : decode b_M_goesSo 36 = .ok (.getfield 22, 3) := by decide +kernel
theorem d_M_goesSo_39 : decode b_M_goesSo 39 = .ok (.iload_n 3, 1) := by decide +kernel
theorem d_M_goesSo_40 : decode b_M_goesSo 40 = .ok (.iaload, 1) := by decide +kernel
theorem d_M_goesSo_41 : decode b_M_goesSo 41 = .ok (.iadd, 1) := by decide +kernel
theorem d_M_goesSo_42 : decode b_M_goesSo 42 = .ok (.istore_n 2, 1) := by decide +kernel
theorem d_M_goesSo_43 : decode b_M_goesSo 43 = .ok (.iinc 3 1, 3) := by decide +kernel
theorem d_M_goesSo_46 : decode b_M_goesSo 46 = .ok (.goto (-42), 3) := by decide +kernel
theorem d_M_goesSo_49 : decode b_M_goesSo 49 = .ok (.iload_n 2, 1) := by decide +kernel
theorem d_M_goesSo_50 : decode b_M_goesSo 50 = .ok (.aload_n 0, 1) := by decide +kernel
theorem d_M_goesSo_51 : decode b_M_goesSo 51 = .ok (.getfield 34, 3) := by decide +kernel
theorem d_M_goesSo_54 : decode b_M_goesSo 54 = .ok (.if_icmp .gt 7, 3) := by decide +kernel
theorem d_M_goesSo_57 : decode b_M_goesSo 57 = .ok (.iconst 1, 1) := by decide +kernel
theorem d_M_goesSo_58 : decode b_M_goesSo 58 = .ok (.goto 4, 3) := by decide +kernel
theorem d_M_goesSo_61 : decode b_M_goesSo 61 = .ok (.iconst 0, 1) := by decide +kernel
theorem d_M_goesSo_62 : decode b_M_goesSo 62 = .ok (.ireturn, 1) := by decide +kernel
theorem d_M_dyeOf_0 : decode b_M_dyeOf 0 = .ok (.aload_n 0, 1) := by decide +kernel
theorem d_M_dyeOf_1 : decode b_M_dyeOf 1 = .ok (.iload_n 1, 1) := by decide +kernel
theorem d_M_dyeOf_2 : decode b_M_dyeOf 2 = .ok (.aload_n 0, 1) := by decide +kernel
theorem d_M_dyeOf_3 : decode b_M_dyeOf 3 = .ok (.getfield 16, 3) := by decide +kernel
theorem d_M_dyeOf_6 : decode b_M_dyeOf 6 = .ok (.iload_n 1, 1) := by decide +kernel
theorem d_M_dyeOf_7 : decode b_M_dyeOf 7 = .ok (.iaload, 1) := by decide +kernel
theorem d_M_dyeOf_8 : decode b_M_dyeOf 8 = .ok (.iload_n 2, 1) := by decide +kernel
theorem d_M_dyeOf_9 : decode b_M_dyeOf 9 = .ok (.invokevirtual 268, 3) := by decide +kernel
theorem d_M_dyeOf_12 : decode b_M_dyeOf 12 = .ok (.ireturn, 1) := by decide +kernel
theorem d_M_loose_0 : decode b_M_loose 0 = .ok (.iload_n 3, 1) := by decide +kernel
theorem d_M_loose_1 : decode b_M_loose 1 = .ok (.ineg, 1) := by decide +kernel
theorem d_M_loose_2 : decode b_M_loose 2 = .ok (.istore 4, 2) := by decide +kernel
theorem d_M_loose_4 : decode b_M_loose 4 = .ok (.iconst 0, 1) := by decide +kernel
theorem d_M_loose_5 : decode b_M_loose 5 = .ok (.istore 5, 2) := by decide +kernel
theorem d_M_loose_7 : decode b_M_loose 7 = .ok (.iload 5, 2) := by decide +kernel
theorem d_M_loose_9 : decode b_M_loose 9 = .ok (.aload_n 0, 1) := by decide +kernel
theorem d_M_loose_10 : decode b_M_loose 10 = .ok (.getfield 150, 3) := by decide +kernel
theorem d_M_loose_13 : decode b_M_loose 13 = .ok (.if_icmp .ge 31, 3) := by decide +kernel
theorem d_M_loose_16 : decode b_M_loose 16 = .ok (.iload_n 1, 1) := by decide +kernel
theorem d_M_loose_17 : decode b_M_loose 17 = .ok (.iload 5, 2) := by decide +kernel
theorem d_M_loose_19 : decode b_M_loose 19 = .ok (.ishr, 1) := by decide +kernel
theorem d_M_loose_20 : decode b_M_loose 20 = .ok (.iconst 1, 1) := by decide +kernel
theorem d_M_loose_21 : decode b_M_loose 21 = .ok (.iand, 1) := by decide +kernel
theorem d_M_loose_22 : decode b_M_loose 22 = .ok (.iconst 1, 1) := by decide +kernel
theorem d_M_loose_23 : decode b_M_loose 23 = .ok (.if_icmp .ne 15, 3) := by decide +kernel
theorem d_M_loose_26 : decode b_M_loose 26 = .ok (.iload 4, 2) := by decide +kernel
theorem d_M_loose_28 : decode b_M_loose 28 = .ok (.aload_n 0, 1) := by decide +kernel
theorem d_M_loose_29 : decode b_M_loose 29 = .ok (.iload 5, 2) := by decide +kernel
theorem d_M_loose_31 : decode b_M_loose 31 = .ok (.iload_n 2, 1) := by decide +kernel
theorem d_M_loose_32 : decode b_M_loose 32 = .ok (.invokevirtual 274, 3) := by decide +kernel
theorem d_M_loose_35 : decode b_M_loose 35 = .ok (.iadd, 1) := by decide +kernel
theorem d_M_loose_36 : decode b_M_loose 36 = .ok (.istore 4, 2) := by decide +kernel
theorem d_M_loose_38 : decode b_M_loose 38 = .ok (.iinc 5 1, 3) := by decide +kernel
theorem d_M_loose_41 : decode b_M_loose 41 = .ok (.goto (-34), 3) := by decide +kernel
theorem d_M_loose_44 : decode b_M_loose 44 = .ok (.iload 4, 2) := by decide +kernel
theorem d_M_loose_46 : decode b_M_loose 46 = .ok (.ifCond .ge 7, 3) := by decide +kernel
theorem d_M_loose_49 : decode b_M_loose 49 = .ok (.iconst 0, 1) := by decide +kernel
theorem d_M_loose_50 : decode b_M_loose 50 = .ok (.goto 5, 3) := by decide +kernel
theorem d_M_loose_53 : decode b_M_loose 53 = .ok (.iload 4, 2) := by decide +kernel
theorem d_M_loose_55 : decode b_M_loose 55 = .ok (.ireturn, 1) := by decide +kernel
theorem d_M_spoilt_0 : decode b_M_spoilt 0 = .ok (.iconst 0, 1) := by decide +kernel
theorem d_M_spoilt_1 : decode b_M_spoilt 1 = .ok (.istore_n 3, 1) := by decide +kernel
theorem d_M_spoilt_2 : decode b_M_spoilt 2 = .ok (.iconst 0, 1) := by decide +kernel
theorem d_M_spoilt_3 : decode b_M_spoilt 3 = .ok (.istore 4, 2) := by decide +kernel
theorem d_M_spoilt_5 : decode b_M_spoilt 5 = .ok (.iload 4, 2) := by decide +kernel
theorem d_M_spoilt_7 : decode b_M_spoilt 7 = .ok (.aload_n 0, 1) := by decide +kernel
theorem d_M_spoilt_8 : decode b_M_spoilt 8 = .ok (.getfield 150, 3) := by decide +kernel
theorem d_M_spoilt_11 : decode b_M_spoilt 11 = .ok (.if_icmp .ge 37, 3) := by decide +kernel
theorem d_M_spoilt_14 : decode b_M_spoilt 14 = .ok (.iload_n 1, 1) := by decide +kernel
theorem d_M_spoilt_15 : decode b_M_spoilt 15 = .ok (.iload 4, 2) := by decide +kernel
theorem d_M_spoilt_17 : decode b_M_spoilt 17 = .ok (.ishr, 1) := by decide +kernel
theorem d_M_spoilt_18 : decode b_M_spoilt 18 = .ok (.iconst 1, 1) := by decide +kernel
theorem d_M_spoilt_19 : decode b_M_spoilt 19 = .ok (.iand, 1) := by decide +kernel
theorem d_M_spoilt_20 : decode b_M_spoilt 20 = .ok (.iconst 1, 1) := by decide +kernel
theorem d_M_spoilt_21 : decode b_M_spoilt 21 = .ok (.if_icmp .ne 21, 3) := by decide +kernel
theorem d_M_spoilt_24 : decode b_M_spoilt 24 = .ok (.aload_n 0, 1) := by decide +kernel
theorem d_M_spoilt_25 : decode b_M_spoilt 25 = .ok (.getfield 19, 3) := by decide +kernel
theorem d_M_spoilt_28 : decode b_M_spoilt 28 = .ok (.iload 4, 2) := by decide +kernel
theorem d_M_spoilt_30 : decode b_M_spoilt 30 = .ok (.iaload, 1) := by decide +kernel
theorem d_M_spoilt_31 : decode b_M_spoilt 31 = .ok (.iload_n 2, 1) := by decide +kernel
theorem d_M_spoilt_32 : decode b_M_spoilt 32 = .ok (.if_icmp .ge 10, 3) := by decide +kernel
theorem d_M_spoilt_35 : decode b_M_spoilt 35 = .ok (.iload_n 3, 1) := by decide +kernel
theorem d_M_spoilt_36 : decode b_M_spoilt 36 = .ok (.iconst 1, 1) := by decide +kernel
theorem d_M_spoilt_37 : decode b_M_spoilt 37 = .ok (.iload 4, 2) := by decide +kernel
theorem d_M_spoilt_39 : decode b_M_spoilt 39 = .ok (.ishl, 1) := by decide +kernel
theorem d_M_spoilt_40 : decode b_M_spoilt 40 = .ok (.ior, 1) := by decide +kernel
theorem d_M_spoilt_41 : decode b_M_spoilt 41 = .ok (.istore_n 3, 1) := by decide +kernel
theorem d_M_spoilt_42 : decode b_M_spoilt 42 = .ok (.iinc 4 1, 3) := by decide +kernel
theorem d_M_spoilt_45 : decode b_M_spoilt 45 = .ok (.goto (-40), 3) := by decide +kernel
theorem d_M_spoilt_48 : decode b_M_spoilt 48 = .ok (.iload_n 3, 1) := by decide +kernel
theorem d_M_spoilt_49 : decode b_M_spoilt 49 = .ok (.ireturn, 1) := by decide +kernel
theorem d_M_tinted_0 : decode b_M_tinted 0 = .ok (.iload_n 2, 1) := by decide +kernel
theorem d_M_tinted_1 : decode b_M_tinted 1 = .ok (.aload_n 0, 1) := by decide +kernel
theorem d_M_tinted_2 : decode b_M_tinted 2 = .ok (.iload_n 1, 1) := by decide +kernel
theorem d_M_tinted_3 : decode b_M_tinted 3 = .ok (.iload_n 3, 1) := by decide +kernel
theorem d_M_tinted_4 : decode b_M_tinted 4 = .ok (.invokevirtual 274, 3) := by decide +kernel
theorem d_M_tinted_7 : decode b_M_tinted 7 = .ok (.isub, 1) := by decide +kernel
theorem d_M_tinted_8 : decode b_M_tinted 8 = .ok (.istore 4, 2) := by decide +kernel
theorem d_M_tinted_10 : decode b_M_tinted 10 = .ok (.iload 4, 2) := by decide +kernel
theorem d_M_tinted_12 : decode b_M_tinted 12 = .ok (.ifCond .lt 13, 3) := by decide +kernel
theorem d_M_tinted_15 : decode b_M_tinted 15 = .ok (.aload_n 0, 1) := by decide +kernel
theorem d_M_tinted_16 : decode b_M_tinted 16 = .ok (.getfield 7, 3) := by decide +kernel
theorem d_M_tinted_19 : decode b_M_tinted 19 = .ok (.iload_n 1, 1) := by decide +kernel
theorem d_M_tinted_20 : decode b_M_tinted 20 = .ok (.iaload, 1) := by decide +kernel
theorem d_M_tinted_21 : decode b_M_tinted 21 = .ok (.iconst 3, 1) := by decide +kernel
theorem d_M_tinted_22 : decode b_M_tinted 22 = .ok (.if_icmp .ne 5, 3) := by decide +kernel
theorem d_M_tinted_25 : decode b_M_tinted 25 = .ok (.iconst 0, 1) := by decide +kernel
theorem d_M_tinted_26 : decode b_M_tinted 26 = .ok (.ireturn, 1) := by decide +kernel
theorem d_M_tinted_27 : decode b_M_tinted 27 = .ok (.aload_n 0, 1) := by decide +kernel
theorem d_M_tinted_28 : decode b_M_tinted 28 = .ok (.getfield 7, 3) := by decide +kernel
theorem d_M_tinted_31 : decode b_M_tinted 31 = .ok (.iload_n 1, 1) := by decide +kernel
theorem d_M_tinted_32 : decode b_M_tinted 32 = .ok (.iaload, 1) := by decide +kernel
theorem d_M_tinted_33 : decode b_M_tinted 33 = .ok (.ifCond .ne 8, 3) := by decide +kernel
theorem d_M_tinted_36 : decode b_M_tinted 36 = .ok (.iload 4, 2) := by decide +kernel
theorem d_M_tinted_38 : decode b_M_tinted 38 = .ok (.goto 25, 3) := by decide +kernel
theorem d_M_tinted_41 : decode b_M_tinted 41 = .ok (.aload_n 0, 1) := by decide +kernel
theorem d_M_tinted_42 : decode b_M_tinted 42 = .ok (.getfield 7, 3) := by decide +kernel
theorem d_M_tinted_45 : decode b_M_tinted 45 = .ok (.iload_n 1, 1) := by decide +kernel
theorem d_M_tinted_46 : decode b_M_tinted 46 = .ok (.iaload, 1) := by decide +kernel
theorem d_M_tinted_47 : decode b_M_tinted 47 = .ok (.iconst 1, 1) := by decide +kernel
theorem d_M_tinted_48 : decode b_M_tinted 48 = .ok (.if_icmp .ne 10, 3) := by decide +kernel
theorem d_M_tinted_51 : decode b_M_tinted 51 = .ok (.iload 4, 2) := by decide +kernel
theorem d_M_tinted_53 : decode b_M_tinted 53 = .ok (.iconst 2, 1) := by decide +kernel
theorem d_M_tinted_54 : decode b_M_tinted 54 = .ok (.idiv, 1) := by decide +kernel
theorem d_M_tinted_55 : decode b_M_tinted 55 = .ok (.goto 8, 3) := by decide +kernel
theorem d_M_tinted_58 : decode b_M_tinted 58 = .ok (.iload 4, 2) := by decide +kernel
theorem d_M_tinted_60 : decode b_M_tinted 60 = .ok (.bipush 10, 2) := by decide +kernel
theorem d_M_tinted_62 : decode b_M_tinted 62 = .ok (.idiv, 1) := by decide +kernel
theorem d_M_tinted_63 : decode b_M_tinted 63 = .ok (.ireturn, 1) := by decide +kernel
theorem d_M_isSafe_0 : decode b_M_isSafe 0 = .ok (.aload_n 0, 1) := by decide +kernel
theorem d_M_isSafe_1 : decode b_M_isSafe 1 = .ok (.iload_n 1, 1) := by decide +kernel
theorem d_M_isSafe_2 : decode b_M_isSafe 2 = .ok (.invokevirtual 283, 3) := by decide +kernel
theorem d_M_isSafe_5 : decode b_M_isSafe 5 = .ok (.ifCond .eq 12, 3) := by decide +kernel
theorem d_M_isSafe_8 : decode b_M_isSafe 8 = .ok (.aload_n 0, 1) := by decide +kernel
theorem d_M_isSafe_9 : decode b_M_isSafe 9 = .ok (.iload_n 1, 1) := by decide +kernel
theorem d_M_isSafe_10 : decode b_M_isSafe 10 = .ok (.iload_n 2, 1) := by decide +kernel
theorem d_M_isSafe_11 : decode b_M_isSafe 11 = .ok (.invokevirtual 286, 3) := by decide +kernel
theorem d_M_isSafe_14 : decode b_M_isSafe 14 = .ok (.ifCond .eq 5, 3) := by decide +kernel
theorem d_M_isSafe_17 : decode b_M_isSafe 17 = .ok (.iconst 0, 1) := by decide +kernel
theorem d_M_isSafe_18 : decode b_M_isSafe 18 = .ok (.ireturn, 1) := by decide +kernel
theorem d_M_isSafe_19 : decode b_M_isSafe 19 = .ok (.aload_n 0, 1) := by decide +kernel
theorem d_M_isSafe_20 : decode b_M_isSafe 20 = .ok (.iload_n 1, 1) := by decide +kernel
theorem d_M_isSafe_21 : decode b_M_isSafe 21 = .ok (.iload_n 2, 1) := by decide +kernel
theorem d_M_isSafe_22 : decode b_M_isSafe 22 = .ok (.iload_n 3, 1) := by decide +kernel
theorem d_M_isSafe_23 : decode b_M_isSafe 23 = .ok (.invokevirtual 277, 3) := by decide +kernel
theorem d_M_isSafe_26 : decode b_M_isSafe 26 = .ok (.istore 5, 2) := by decide +kernel
theorem d_M_isSafe_28 : decode b_M_isSafe 28 = .ok (.iconst 0, 1) := by decide +kernel
theorem d_M_isSafe_29 : decode b_M_isSafe 29 = .ok (.istore 6, 2) := by decide +kernel
theorem d_M_isSafe_31 : decode b_M_isSafe 31 = .ok (.iload 6, 2) := by decide +kernel
theorem d_M_isSafe_33 : decode b_M_isSafe 33 = .ok (.aload_n 0, 1) := by decide +kernel
theorem d_M_isSafe_34 : decode b_M_isSafe 34 = .ok (.getfield 150, 3) := by decide +kernel
theorem d_M_isSafe_37 : decode b_M_isSafe 37 = .ok (.if_icmp .ge 35, 3) := by decide +kernel
theorem d_M_isSafe_40 : decode b_M_isSafe 40 = .ok (.iload_n 1, 1) := by decide +kernel
theorem d_M_isSafe_41 : decode b_M_isSafe 41 = .ok (.iload 6, 2) := by decide +kernel
theorem d_M_isSafe_43 : decode b_M_isSafe 43 = .ok (.ishr, 1) := by decide +kernel
theorem d_M_isSafe_44 : decode b_M_isSafe 44 = .ok (.iconst 1, 1) := by decide +kernel
theorem d_M_isSafe_45 : decode b_M_isSafe 45 = .ok (.iand, 1) := by decide +kernel
theorem d_M_isSafe_46 : decode b_M_isSafe 46 = .ok (.iconst 1, 1) := by decide +kernel
theorem d_M_isSafe_47 : decode b_M_isSafe 47 = .ok (.if_icmp .ne 19, 3) := by decide +kernel
theorem d_M_isSafe_50 : decode b_M_isSafe 50 = .ok (.aload_n 0, 1) := by decide +kernel
theorem d_M_isSafe_51 : decode b_M_isSafe 51 = .ok (.iload 6, 2) := by decide +kernel
theorem d_M_isSafe_53 : decode b_M_isSafe 53 = .ok (.iload 5, 2) := by decide +kernel
theorem d_M_isSafe_55 : decode b_M_isSafe 55 = .ok (.iload_n 2, 1) := by decide +kernel
theorem d_M_isSafe_56 : decode b_M_isSafe 56 = .ok (.invokevirtual 280, 3) := by decide +kernel
theorem d_M_isSafe_59 : decode b_M_isSafe 59 = .ok (.iload 4, 2) := by decide +kernel
theorem d_M_isSafe_61 : decode b_M_isSafe 61 = .ok (.if_icmp .le 5, 3) := by decide +kernel
theorem d_M_isSafe_64 : decode b_M_isSafe 64 = .ok (.iconst 0, 1) := by decide +kernel
theorem d_M_isSafe_65 : decode b_M_isSafe 65 = .ok (.ireturn, 1) := by decide +kernel
theorem d_M_isSafe_66 : decode b_M_isSafe 66 = .ok (.iinc 6 1, 3) := by decide +kernel
theorem d_M_isSafe_69 : decode b_M_isSafe 69 = .ok (.goto (-38), 3) := by decide +kernel
theorem d_M_isSafe_72 : decode b_M_isSafe 72 = .ok (.iconst 1, 1) := by decide +kernel
theorem d_M_isSafe_73 : decode b_M_isSafe 73 = .ok (.ireturn, 1) := by decide +kernel
theorem d_M_areSafe_0 : decode b_M_areSafe 0 = .ok (.iconst 0, 1) := by decide +kernel
theorem d_M_areSafe_1 : decode b_M_areSafe 1 = .ok (.istore_n 3, 1) := by decide +kernel
theorem d_M_areSafe_2 : decode b_M_areSafe 2 = .ok (.iload_n 3, 1) := by decide +kernel
theorem d_M_areSafe_3 : decode b_M_areSafe 3 = .ok (.iload_n 1, 1) := by decide +kernel
theorem d_M_areSafe_4 : decode b_M_areSafe 4 = .ok (.if_icmp .ge 33, 3) := by decide +kernel
theorem d_M_areSafe_7 : decode b_M_areSafe 7 = .ok (.aload_n 0, 1) := by decide +kernel
theorem d_M_areSafe_8 : decode b_M_areSafe 8 = .ok (.aload_n 0, 1) := by decide +kernel
theorem d_M_areSafe_9 : decode b_M_areSafe 9 = .ok (.getfield 85, 3) := by decide +kernel
theorem d_M_areSafe_12 : decode b_M_areSafe 12 = .ok (.iload_n 3, 1) := by decide +kernel
theorem d_M_areSafe_13 : decode b_M_areSafe 13 = .ok (.iaload, 1) := by decide +kernel
theorem d_M_areSafe_14 : decode b_M_areSafe 14 = .ok (.iload_n 2, 1) := by decide +kernel
theorem d_M_areSafe_15 : decode b_M_areSafe 15 = .ok (.bipush 100, 2) := by decide +kernel
theorem d_M_areSafe_17 : decode b_M_areSafe 17 = .ok (.idiv, 1) := by decide +kernel
theorem d_M_areSafe_18 : decode b_M_areSafe 18 = .ok (.iconst 0, 1) := by decide +kernel
theorem d_M_areSafe_19 : decode b_M_areSafe 19 = .ok (.iload_n 2, 1) := by decide +kernel
theorem d_M_areSafe_20 : decode b_M_areSafe 20 = .ok (.bipush 100, 2) := by decide +kernel
theorem d_M_areSafe_22 : decode b_M_areSafe 22 = .ok (.irem, 1) := by decide +kernel
theorem d_M_areSafe_23 : decode b_M_areSafe 23 = .ok (.invokevirtual 301, 3) := by decide +kernel
theorem d_M_areSafe_26 : decode b_M_areSafe 26 = .ok (.ifCond .ne 5, 3) := by decide +kernel
theorem d_M_areSafe_29 : decode b_M_areSafe 29 = .ok (.iconst 0, 1) := by decide +kernel
theorem d_M_areSafe_30 : decode b_M_areSafe 30 = .ok (.ireturn, 1) := by decide +kernel
theorem d_M_areSafe_31 : decode b_M_areSafe 31 = .ok (.iinc 3 1, 3) := by decide +kernel
theorem d_M_areSafe_34 : decode b_M_areSafe 34 = .ok (.goto (-32), 3) := by decide +kernel
theorem d_M_areSafe_37 : decode b_M_areSafe 37 = .ok (.iconst 1, 1) := by decide +kernel
theorem d_M_areSafe_38 : decode b_M_areSafe 38 = .ok (.ireturn, 1) := by decide +kernel
theorem d_M_areThings_0 : decode b_M_areThings 0 = .ok (.iload_n 1, 1) := by decide +kernel
theorem d_M_areThings_1 : decode b_M_areThings 1 = .ok (.iconst 0, 1) := by decide +kernel
theorem d_M_areThings_2 : decode b_M_areThings 2 = .ok (.iconst 1, 1) := by decide +kernel
theorem d_M_areThings_3 : decode b_M_areThings 3 = .ok (.aload_n 0, 1) := by decide +kernel
theorem d_M_areThings_4 : decode b_M_areThings 4 = .ok (.getfield 150, 3) := by decide +kernel
theorem d_M_areThings_7 : decode b_M_areThings 7 = .ok (.ishl, 1) := by decide +kernel
theorem d_M_areThings_8 : decode b_M_areThings 8 = .ok (.iconst 1, 1) := by decide +kernel
theorem d_M_areThings_9 : decode b_M_areThings 9 = .ok (.isub, 1) := by decide +kernel
theorem d_M_areThings_10 : decode b_M_areThings 10 = .ok (.invokestatic 153, 3) := by decide +kernel
theorem d_M_areThings_13 : decode b_M_areThings 13 = .ok (.ireturn, 1) := by decide +kernel
theorem d_M_at_0 : decode b_M_at 0 = .ok (.aload_n 0, 1) := by decide +kernel
theorem d_M_at_1 : decode b_M_at 1 = .ok (.getfield 140, 3) := by decide +kernel
theorem d_M_at_4 : decode b_M_at 4 = .ok (.bipush 60, 2) := by decide +kernel
theorem d_M_at_6 : decode b_M_at 6 = .ok (.iload_n 1, 1) := by decide +kernel
theorem d_M_at_7 : decode b_M_at 7 = .ok (.imul, 1) := by decide +kernel
theorem d_M_at_8 : decode b_M_at 8 = .ok (.iload_n 2, 1) := by decide +kernel
theorem d_M_at_9 : decode b_M_at 9 = .ok (.iadd, 1) := by decide +kernel
theorem d_M_at_10 : decode b_M_at 10 = .ok (.laload, 1) := by decide +kernel
theorem d_M_at_11 : decode b_M_at 11 = .ok (.l2i, 1) := by decide +kernel
theorem d_M_at_12 : decode b_M_at 12 = .ok (.ireturn, 1) := by decide +kernel
theorem d_M_back_0 : decode b_M_back 0 = .ok (.aload_n 0, 1) := by decide +kernel
theorem d_M_back_1 : decode b_M_back 1 = .ok (.getfield 376, 3) := by decide +kernel
theorem d_M_back_4 : decode b_M_back 4 = .ok (.ifCond .ne 6, 3) := by decide +kernel
theorem d_M_back_7 : decode b_M_back 7 = .ok (.bipush (-5), 2) := by decide +kernel
theorem d_M_back_9 : decode b_M_back 9 = .ok (.ireturn, 1) := by decide +kernel
theorem d_M_back_10 : decode b_M_back 10 = .ok (.iconst 0, 1) := by decide +kernel
theorem d_M_back_11 : decode b_M_back 11 = .ok (.istore_n 1, 1) := by decide +kernel
theorem d_M_back_12 : decode b_M_back 12 = .ok (.iload_n 1, 1) := by decide +kernel
theorem d_M_back_13 : decode b_M_back 13 = .ok (.aload_n 0, 1) := by decide +kernel
theorem d_M_back_14 : decode b_M_back 14 = .ok (.getfield 150, 3) := by decide +kernel
theorem d_M_back_17 : decode b_M_back 17 = .ok (.if_icmp .ge 81, 3) := by decide +kernel
theorem d_M_back_20 : decode b_M_back 20 = .ok (.iload_n 1, 1) := by decide +kernel
theorem d_M_back_21 : decode b_M_back 21 = .ok (.aload_n 0, 1) := by decide +kernel
theorem d_M_back_22 : decode b_M_back 22 = .ok (.getfield 379, 3) := by decide +kernel
theorem d_M_back_25 : decode b_M_back 25 = .ok (.if_icmp .ge 15, 3) := by decide +kernel
theorem d_M_back_28 : decode b_M_back 28 = .ok (.aload_n 0, 1) := by decide +kernel
theorem d_M_back_29 : decode b_M_back 29 = .ok (.getfield 16, 3) := by decide +kernel
theorem d_M_back_32 : decode b_M_back 32 = .ok (.iload_n 1, 1) := by decide +kernel
theorem d_M_back_33 : decode b_M_back 33 = .ok (.aload_n 0, 1) := by decide +kernel
theorem d_M_back_34 : decode b_M_back 34 = .ok (.getfield 116, 3) := by decide +kernel
theorem d_M_back_37 : decode b_M_back 37 = .ok (.iload_n 1, 1) := by decide +kernel
theorem d_M_back_38 : decode b_M_back 38 = .ok (.iaload, 1) := by decide +kernel
theorem d_M_back_39 : decode b_M_back 39 = .ok (.iastore, 1) := by decide +kernel
theorem d_M_back_40 : decode b_M_back 40 = .ok (.aload_n 0, 1) := by decide +kernel
theorem d_M_back_41 : decode b_M_back 41 = .ok (.getfield 106, 3) := by decide +kernel
theorem d_M_back_44 : decode b_M_back 44 = .ok (.iload_n 1, 1) := by decide +kernel
theorem d_M_back_45 : decode b_M_back 45 = .ok (.iload_n 1, 1) := by decide +kernel
theorem d_M_back_46 : decode b_M_back 46 = .ok (.aload_n 0, 1) := by decide +kernel
theorem d_M_back_47 : decode b_M_back 47 = .ok (.getfield 379, 3) := by decide +kernel
theorem d_M_back_50 : decode b_M_back 50 = .ok (.if_icmp .ge 12, 3) := by decide +kernel
theorem d_M_back_53 : decode b_M_back 53 = .ok (.aload_n 0, 1) := by decide +kernel
theorem d_M_back_54 : decode b_M_back 54 = .ok (.getfield 119, 3) := by decide +kernel
theorem d_M_back_57 : decode b_M_back 57 = .ok (.iload_n 1, 1) := by decide +kernel
theorem d_M_back_58 : decode b_M_back 58 = .ok (.iaload, 1) := by decide +kernel
theorem d_M_back_59 : decode b_M_back 59 = .ok (.goto 4, 3) := by decide +kernel
theorem d_M_back_62 : decode b_M_back 62 = .ok (.iconst 0, 1) := by decide +kernel
theorem d_M_back_63 : decode b_M_back 63 = .ok (.iastore, 1) := by decide +kernel
theorem d_M_back_64 : decode b_M_back 64 = .ok (.aload_n 0, 1) := by decide +kernel
theorem d_M_back_65 : decode b_M_back 65 = .ok (.getfield 109, 3) := by decide +kernel
theorem d_M_back_68 : decode b_M_back 68 = .ok (.iload_n 1, 1) := by decide +kernel
theorem d_M_back_69 : decode b_M_back 69 = .ok (.iload_n 1, 1) := by decide +kernel
theorem d_M_back_70 : decode b_M_back 70 = .ok (.aload_n 0, 1) := by decide +kernel
theorem d_M_back_71 : decode b_M_back 71 = .ok (.getfield 379, 3) := by decide +kernel
theorem d_M_back_74 : decode b_M_back 74 = .ok (.if_icmp .ge 16, 3) := by decide +kernel
theorem d_M_back_77 : decode b_M_back 77 = .ok (.aload_n 0, 1) := by decide +kernel
theorem d_M_back_78 : decode b_M_back 78 = .ok (.getfield 122, 3) := by decide +kernel
theorem d_M_back_81 : decode b_M_back 81 = .ok (.iload_n 1, 1) := by decide +kernel
theorem d_M_back_82 : decode b_M_back 82 = .ok (.baload, 1) := by decide +kernel
theorem d_M_back_83 : decode b_M_back 83 = .ok (.ifCond .eq 7, 3) := by decide +kernel
theorem d_M_back_86 : decode b_M_back 86 = .ok (.iconst 1, 1) := by decide +kernel
theorem d_M_back_87 : decode b_M_back 87 = .ok (.goto 4, 3) := by decide +kernel
theorem d_M_back_90 : decode b_M_back 90 = .ok (.iconst 0, 1) := by decide +kernel
theorem d_M_back_91 : decode b_M_back 91 = .ok (.bastore, 1) := by decide +kernel
theorem d_M_back_92 : decode b_M_back 92 = .ok (.iinc 1 1, 3) := by decide +kernel
theorem d_M_back_95 : decode b_M_back 95 = .ok (.goto (-83), 3) := by decide +kernel
theorem d_M_back_98 : decode b_M_back 98 = .ok (.iconst 0, 1) := by decide +kernel
theorem d_M_back_99 : decode b_M_back 99 = .ok (.istore_n 1, 1) := by decide +kernel
theorem d_M_back_100 : decode b_M_back 100 = .ok (.iload_n 1, 1) := by decide +kernel
theorem d_M_back_101 : decode b_M_back 101 = .ok (.iconst 5, 1) := by decide +kernel
theorem d_M_back_102 : decode b_M_back 102 = .ok (.if_icmp .ge 21, 3) := by decide +kernel
theorem d_M_back_105 : decode b_M_back 105 = .ok (.aload_n 0, 1) := by decide +kernel
theorem d_M_back_106 : decode b_M_back 106 = .ok (.getfield 113, 3) := by decide +kernel
theorem d_M_back_109 : decode b_M_back 109 = .ok (.iload_n 1, 1) := by decide +kernel
theorem d_M_back_110 : decode b_M_back 110 = .ok (.aload_n 0, 1) := by decide +kernel
theorem d_M_back_111 : decode b_M_back 111 = .ok (.getfield 125, 3) := by decide +kernel
theorem d_M_back_114 : decode b_M_back 114 = .ok (.iload_n 1, 1) := by decide +kernel
theorem d_M_back_115 : decode b_M_back 115 = .ok (.iaload, 1) := by decide +kernel
theorem d_M_back_116 : decode b_M_back 116 = .ok (.iastore, 1) := by decide +kernel
theorem d_M_back_117 : decode b_M_back 117 = .ok (.iinc 1 1, 3) := by decide +kernel
theorem d_M_back_120 : decode b_M_back 120 = .ok (.goto (-20), 3) := by decide +kernel
theorem d_M_back_123 : decode b_M_back 123 = .ok (.aload_n 0, 1) := by decide +kernel
theorem d_M_back_124 : decode b_M_back 124 = .ok (.getfield 113, 3) := by decide +kernel
theorem d_M_back_127 : decode b_M_back 127 = .ok (.iconst 0, 1) := by decide +kernel
theorem d_M_back_128 : decode b_M_back 128 = .ok (.iaload, 1) := by decide +kernel
theorem d_M_back_129 : decode b_M_back 129 = .ok (.ireturn, 1) := by decide +kernel
theorem d_M_bitsOf_0 : decode b_M_bitsOf 0 = .ok (.iconst 0, 1) := by decide +kernel
theorem d_M_bitsOf_1 : decode b_M_bitsOf 1 = .ok (.istore_n 1, 1) := by decide +kernel
theorem d_M_bitsOf_2 : decode b_M_bitsOf 2 = .ok (.iload_n 0, 1) := by decide +kernel
theorem d_M_bitsOf_3 : decode b_M_bitsOf 3 = .ok (.istore_n 2, 1) := by decide +kernel
theorem d_M_bitsOf_4 : decode b_M_bitsOf 4 = .ok (.iload_n 2, 1) := by decide +kernel
theorem d_M_bitsOf_5 : decode b_M_bitsOf 5 = .ok (.ifCond .eq 15, 3) := by decide +kernel
theorem d_M_bitsOf_8 : decode b_M_bitsOf 8 = .ok (.iinc 1 1, 3) := by decide +kernel
theorem d_M_bitsOf_11 : decode b_M_bitsOf 11 = .ok (.iload_n 2, 1) := by decide +kernel
theorem d_M_bitsOf_12 : decode b_M_bitsOf 12 = .ok (.iload_n 2, 1) := by decide +kernel
theorem d_M_bitsOf_13 : decode b_M_bitsOf 13 = .ok (.iconst 1, 1) := by decide +kernel
theorem d_M_bitsOf_14 : decode b_M_bitsOf 14 = .ok (.isub, 1) := by decide +kernel
theorem d_M_bitsOf_15 : decode b_M_bitsOf 15 = .ok (.iand, 1) := by decide +kernel
theorem d_M_bitsOf_16 : decode b_M_bitsOf 16 = .ok (.istore_n 2, 1) := by decide +kernel
theorem d_M_bitsOf_17 : decode b_M_bitsOf 17 = .ok (.goto (-13), 3) := by decide +kernel
theorem d_M_bitsOf_20 : decode b_M_bitsOf 20 = .ok (.iload_n 1, 1) := by decide +kernel
theorem d_M_bitsOf_21 : decode b_M_bitsOf 21 = .ok (.ireturn, 1) := by decide +kernel
theorem d_M_bleach_0 : decode b_M_bleach 0 = .ok (.aload_n 0, 1) := by decide +kernel
theorem d_M_bleach_1 : decode b_M_bleach 1 = .ok (.iload_n 1, 1) := by decide +kernel
theorem d_M_bleach_2 : decode b_M_bleach 2 = .ok (.invokevirtual 181, 3) := by decide +kernel
theorem d_M_bleach_5 : decode b_M_bleach 5 = .ok (.ifCond .ne 5, 3) := by decide +kernel
theorem d_M_bleach_8 : decode b_M_bleach 8 = .ok (.iconst (-1), 1) := by decide +kernel
theorem d_M_bleach_9 : decode b_M_bleach 9 = .ok (.ireturn, 1) := by decide +kernel
theorem d_M_bleach_10 : decode b_M_bleach 10 = .ok (.aload_n 0, 1) := by decide +kernel
theorem d_M_bleach_11 : decode b_M_bleach 11 = .ok (.getfield 106, 3) := by decide +kernel
theorem d_M_bleach_14 : decode b_M_bleach 14 = .ok (.iload_n 1, 1) := by decide +kernel
theorem d_M_bleach_15 : decode b_M_bleach 15 = .ok (.iaload, 1) := by decide +kernel
theorem d_M_bleach_16 : decode b_M_bleach 16 = .ok (.istore_n 2, 1) := by decide +kernel
theorem d_M_bleach_17 : decode b_M_bleach 17 = .ok (.aload_n 0, 1) := by decide +kernel
theorem d_M_bleach_18 : decode b_M_bleach 18 = .ok (.getfield 106, 3) := by decide +kernel
theorem d_M_bleach_21 : decode b_M_bleach 21 = .ok (.iload_n 1, 1) := by decide +kernel
theorem d_M_bleach_22 : decode b_M_bleach 22 = .ok (.iconst 0, 1) := by decide +kernel
theorem d_M_bleach_23 : decode b_M_bleach 23 = .ok (.iastore, 1) := by decide +kernel
theorem d_M_bleach_24 : decode b_M_bleach 24 = .ok (.iload_n 2, 1) := by decide +kernel
theorem d_M_bleach_25 : decode b_M_bleach 25 = .ok (.ireturn, 1) := by decide +kernel
