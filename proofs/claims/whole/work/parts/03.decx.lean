theorem dX0_monthStart_0 : decode cX0_monthStart 0 = .ok (.iload_n 0, 1) := by decide +kernel
theorem dX0_monthStart_1 : decode cX0_monthStart 1 = .ok (.ifCond .lt 10, 3) := by decide +kernel
theorem dX0_monthStart_4 : decode cX0_monthStart 4 = .ok (.iload_n 0, 1) := by decide +kernel
theorem dX0_monthStart_5 : decode cX0_monthStart 5 = .ok (.sipush 336, 3) := by decide +kernel
theorem dX0_monthStart_8 : decode cX0_monthStart 8 = .ok (.if_icmp .le 5, 3) := by decide +kernel
theorem dX0_monthStart_11 : decode cX0_monthStart 11 = .ok (.iconst (-1), 1) := by decide +kernel
theorem dX0_monthStart_12 : decode cX0_monthStart 12 = .ok (.ireturn, 1) := by decide +kernel
theorem dX0_monthStart_13 : decode cX0_monthStart 13 = .ok (.iload_n 0, 1) := by decide +kernel
theorem dX0_monthStart_14 : decode cX0_monthStart 14 = .ok (.bipush 12, 2) := by decide +kernel
theorem dX0_monthStart_16 : decode cX0_monthStart 16 = .ok (.idiv, 1) := by decide +kernel
theorem dX0_monthStart_17 : decode cX0_monthStart 17 = .ok (.istore_n 1, 1) := by decide +kernel
theorem dX0_monthStart_18 : decode cX0_monthStart 18 = .ok (.iload_n 0, 1) := by decide +kernel
theorem dX0_monthStart_19 : decode cX0_monthStart 19 = .ok (.bipush 12, 2) := by decide +kernel
theorem dX0_monthStart_21 : decode cX0_monthStart 21 = .ok (.irem, 1) := by decide +kernel
theorem dX0_monthStart_22 : decode cX0_monthStart 22 = .ok (.istore_n 2, 1) := by decide +kernel
theorem dX0_monthStart_23 : decode cX0_monthStart 23 = .ok (.iload_n 1, 1) := by decide +kernel
theorem dX0_monthStart_24 : decode cX0_monthStart 24 = .ok (.iconst 4, 1) := by decide +kernel
theorem dX0_monthStart_25 : decode cX0_monthStart 25 = .ok (.irem, 1) := by decide +kernel
theorem dX0_monthStart_26 : decode cX0_monthStart 26 = .ok (.ifCond .ne 12, 3) := by decide +kernel
theorem dX0_monthStart_29 : decode cX0_monthStart 29 = .ok (.iload_n 2, 1) := by decide +kernel
theorem dX0_monthStart_30 : decode cX0_monthStart 30 = .ok (.iconst 1, 1) := by decide +kernel
theorem dX0_monthStart_31 : decode cX0_monthStart 31 = .ok (.if_icmp .le 7, 3) := by decide +kernel
theorem dX0_monthStart_34 : decode cX0_monthStart 34 = .ok (.iconst 1, 1) := by decide +kernel
theorem dX0_monthStart_35 : decode cX0_monthStart 35 = .ok (.goto 4, 3) := by decide +kernel
theorem dX0_monthStart_38 : decode cX0_monthStart 38 = .ok (.iconst 0, 1) := by decide +kernel
theorem dX0_monthStart_39 : decode cX0_monthStart 39 = .ok (.istore_n 3, 1) := by decide +kernel
theorem dX0_monthStart_40 : decode cX0_monthStart 40 = .ok (.iload_n 1, 1) := by decide +kernel
theorem dX0_monthStart_41 : decode cX0_monthStart 41 = .ok (.sipush 365, 3) := by decide +kernel
theorem dX0_monthStart_44 : decode cX0_monthStart 44 = .ok (.imul, 1) := by decide +kernel
theorem dX0_monthStart_45 : decode cX0_monthStart 45 = .ok (.iload_n 1, 1) := by decide +kernel
theorem dX0_monthStart_46 : decode cX0_monthStart 46 = .ok (.iconst 3, 1) := by decide +kernel
theorem dX0_monthStart_47 : decode cX0_monthStart 47 = .ok (.iadd, 1) := by decide +kernel
theorem dX0_monthStart_48 : decode cX0_monthStart 48 = .ok (.iconst 4, 1) := by decide +kernel
theorem dX0_monthStart_49 : decode cX0_monthStart 49 = .ok (.idiv, 1) := by decide +kernel
theorem dX0_monthStart_50 : decode cX0_monthStart 50 = .ok (.iadd, 1) := by decide +kernel
theorem dX0_monthStart_51 : decode cX0_monthStart 51 = .ok (.getstatic 9, 3) := by decide +kernel
theorem dX0_monthStart_54 : decode cX0_monthStart 54 = .ok (.iload_n 2, 1) := by decide +kernel
theorem dX0_monthStart_55 : decode cX0_monthStart 55 = .ok (.iaload, 1) := by decide +kernel
theorem dX0_monthStart_56 : decode cX0_monthStart 56 = .ok (.iadd, 1) := by decide +kernel
theorem dX0_monthStart_57 : decode cX0_monthStart 57 = .ok (.iload_n 3, 1) := by decide +kernel
theorem dX0_monthStart_58 : decode cX0_monthStart 58 = .ok (.iadd, 1) := by decide +kernel
theorem dX0_monthStart_59 : decode cX0_monthStart 59 = .ok (.ireturn, 1) := by decide +kernel
theorem dX0_yearOf_0 : decode cX0_yearOf 0 = .ok (.iload_n 0, 1) := by decide +kernel
theorem dX0_yearOf_1 : decode cX0_yearOf 1 = .ok (.sipush 1461, 3) := by decide +kernel
theorem dX0_yearOf_4 : decode cX0_yearOf 4 = .ok (.irem, 1) := by decide +kernel
theorem dX0_yearOf_5 : decode cX0_yearOf 5 = .ok (.istore_n 1, 1) := by decide +kernel
theorem dX0_yearOf_6 : decode cX0_yearOf 6 = .ok (.iload_n 0, 1) := by decide +kernel
theorem dX0_yearOf_7 : decode cX0_yearOf 7 = .ok (.sipush 1461, 3) := by decide +kernel
theorem dX0_yearOf_10 : decode cX0_yearOf 10 = .ok (.idiv, 1) := by decide +kernel
theorem dX0_yearOf_11 : decode cX0_yearOf 11 = .ok (.iconst 4, 1) := by decide +kernel
theorem dX0_yearOf_12 : decode cX0_yearOf 12 = .ok (.imul, 1) := by decide +kernel
theorem dX0_yearOf_13 : decode cX0_yearOf 13 = .ok (.iload_n 1, 1) := by decide +kernel
theorem dX0_yearOf_14 : decode cX0_yearOf 14 = .ok (.sipush 366, 3) := by decide +kernel
theorem dX0_yearOf_17 : decode cX0_yearOf 17 = .ok (.if_icmp .ge 7, 3) := by decide +kernel
theorem dX0_yearOf_20 : decode cX0_yearOf 20 = .ok (.iconst 0, 1) := by decide +kernel
theorem dX0_yearOf_21 : decode cX0_yearOf 21 = .ok (.goto 10, 3) := by decide +kernel
theorem dX0_yearOf_24 : decode cX0_yearOf 24 = .ok (.iload_n 1, 1) := by decide +kernel
theorem dX0_yearOf_25 : decode cX0_yearOf 25 = .ok (.iconst 1, 1) := by decide +kernel
theorem dX0_yearOf_26 : decode cX0_yearOf 26 = .ok (.isub, 1) := by decide +kernel
theorem dX0_yearOf_27 : decode cX0_yearOf 27 = .ok (.sipush 365, 3) := by decide +kernel
theorem dX0_yearOf_30 : decode cX0_yearOf 30 = .ok (.idiv, 1) := by decide +kernel
theorem dX0_yearOf_31 : decode cX0_yearOf 31 = .ok (.iadd, 1) := by decide +kernel
theorem dX0_yearOf_32 : decode cX0_yearOf 32 = .ok (.ireturn, 1) := by decide +kernel
theorem dX0_monthOf_0 : decode cX0_monthOf 0 = .ok (.iload_n 0, 1) := by decide +kernel
theorem dX0_monthOf_1 : decode cX0_monthOf 1 = .ok (.invokestatic 15, 3) := by decide +kernel
theorem dX0_monthOf_4 : decode cX0_monthOf 4 = .ok (.bipush 12, 2) := by decide +kernel
theorem dX0_monthOf_6 : decode cX0_monthOf 6 = .ok (.imul, 1) := by decide +kernel
theorem dX0_monthOf_7 : decode cX0_monthOf 7 = .ok (.istore_n 1, 1) := by decide +kernel
theorem dX0_monthOf_8 : decode cX0_monthOf 8 = .ok (.iconst 1, 1) := by decide +kernel
theorem dX0_monthOf_9 : decode cX0_monthOf 9 = .ok (.istore_n 2, 1) := by decide +kernel
theorem dX0_monthOf_10 : decode cX0_monthOf 10 = .ok (.iload_n 2, 1) := by decide +kernel
theorem dX0_monthOf_11 : decode cX0_monthOf 11 = .ok (.bipush 12, 2) := by decide +kernel
theorem dX0_monthOf_13 : decode cX0_monthOf 13 = .ok (.if_icmp .ge 22, 3) := by decide +kernel
theorem dX0_monthOf_16 : decode cX0_monthOf 16 = .ok (.iload_n 1, 1) := by decide +kernel
theorem dX0_monthOf_17 : decode cX0_monthOf 17 = .ok (.iconst 1, 1) := by decide +kernel
theorem dX0_monthOf_18 : decode cX0_monthOf 18 = .ok (.iadd, 1) := by decide +kernel
theorem dX0_monthOf_19 : decode cX0_monthOf 19 = .ok (.invokestatic 19, 3) := by decide +kernel
theorem dX0_monthOf_22 : decode cX0_monthOf 22 = .ok (.iload_n 0, 1) := by decide +kernel
theorem dX0_monthOf_23 : decode cX0_monthOf 23 = .ok (.if_icmp .gt 6, 3) := by decide +kernel
theorem dX0_monthOf_26 : decode cX0_monthOf 26 = .ok (.iinc 1 1, 3) := by decide +kernel
theorem dX0_monthOf_29 : decode cX0_monthOf 29 = .ok (.iinc 2 1, 3) := by decide +kernel
theorem dX0_monthOf_32 : decode cX0_monthOf 32 = .ok (.goto (-22), 3) := by decide +kernel
theorem dX0_monthOf_35 : decode cX0_monthOf 35 = .ok (.iload_n 1, 1) := by decide +kernel
theorem dX0_monthOf_36 : decode cX0_monthOf 36 = .ok (.ireturn, 1) := by decide +kernel
theorem dX0_weekday_0 : decode cX0_weekday 0 = .ok (.iload_n 0, 1) := by decide +kernel
theorem dX0_weekday_1 : decode cX0_weekday 1 = .ok (.iconst 5, 1) := by decide +kernel
theorem dX0_weekday_2 : decode cX0_weekday 2 = .ok (.iadd, 1) := by decide +kernel
theorem dX0_weekday_3 : decode cX0_weekday 3 = .ok (.bipush 7, 2) := by decide +kernel
theorem dX0_weekday_5 : decode cX0_weekday 5 = .ok (.irem, 1) := by decide +kernel
theorem dX0_weekday_6 : decode cX0_weekday 6 = .ok (.ireturn, 1) := by decide +kernel
theorem dX0_monday_0 : decode cX0_monday 0 = .ok (.iload_n 0, 1) := by decide +kernel
theorem dX0_monday_1 : decode cX0_monday 1 = .ok (.iload_n 0, 1) := by decide +kernel
theorem dX0_monday_2 : decode cX0_monday 2 = .ok (.invokestatic 22, 3) := by decide +kernel
theorem dX0_monday_5 : decode cX0_monday 5 = .ok (.isub, 1) := by decide +kernel
theorem dX0_monday_6 : decode cX0_monday 6 = .ok (.ireturn, 1) := by decide +kernel
theorem dX0_named_0 : decode cX0_named 0 = .ok (.iload_n 1, 1) := by decide +kernel
theorem dX0_named_1 : decode cX0_named 1 = .ok (.iload_n 0, 1) := by decide +kernel
theorem dX0_named_2 : decode cX0_named 2 = .ok (.iload_n 1, 1) := by decide +kernel
theorem dX0_named_3 : decode cX0_named 3 = .ok (.invokestatic 22, 3) := by decide +kernel
theorem dX0_named_6 : decode cX0_named 6 = .ok (.isub, 1) := by decide +kernel
theorem dX0_named_7 : decode cX0_named 7 = .ok (.bipush 7, 2) := by decide +kernel
theorem dX0_named_9 : decode cX0_named 9 = .ok (.iadd, 1) := by decide +kernel
theorem dX0_named_10 : decode cX0_named 10 = .ok (.bipush 7, 2) := by decide +kernel
theorem dX0_named_12 : decode cX0_named 12 = .ok (.irem, 1) := by decide +kernel
theorem dX0_named_13 : decode cX0_named 13 = .ok (.iadd, 1) := by decide +kernel
theorem dX0_named_14 : decode cX0_named 14 = .ok (.ireturn, 1) := by decide +kernel
theorem dX0_dayOf_0 : decode cX0_dayOf 0 = .ok (.iload_n 0, 1) := by decide +kernel
theorem dX0_dayOf_1 : decode cX0_dayOf 1 = .ok (.sipush 2000, 3) := by decide +kernel
theorem dX0_dayOf_4 : decode cX0_dayOf 4 = .ok (.if_icmp .lt 21, 3) := by decide +kernel
theorem dX0_dayOf_7 : decode cX0_dayOf 7 = .ok (.iload_n 0, 1) := by decide +kernel
theorem dX0_dayOf_8 : decode cX0_dayOf 8 = .ok (.sipush 2027, 3) := by decide +kernel
theorem dX0_dayOf_11 : decode cX0_dayOf 11 = .ok (.if_icmp .gt 14, 3) := by decide +kernel
theorem dX0_dayOf_14 : decode cX0_dayOf 14 = .ok (.iload_n 1, 1) := by decide +kernel
theorem dX0_dayOf_15 : decode cX0_dayOf 15 = .ok (.iconst 1, 1) := by decide +kernel
theorem dX0_dayOf_16 : decode cX0_dayOf 16 = .ok (.if_icmp .lt 9, 3) := by decide +kernel
theorem dX0_dayOf_19 : decode cX0_dayOf 19 = .ok (.iload_n 1, 1) := by decide +kernel
theorem dX0_dayOf_20 : decode cX0_dayOf 20 = .ok (.bipush 12, 2) := by decide +kernel
theorem dX0_dayOf_22 : decode cX0_dayOf 22 = .ok (.if_icmp .le 5, 3) := by decide +kernel
theorem dX0_dayOf_25 : decode cX0_dayOf 25 = .ok (.iconst (-1), 1) := by decide +kernel
theorem dX0_dayOf_26 : decode cX0_dayOf 26 = .ok (.ireturn, 1) := by decide +kernel
theorem dX0_dayOf_27 : decode cX0_dayOf 27 = .ok (.iload_n 0, 1) := by decide +kernel
theorem dX0_dayOf_28 : decode cX0_dayOf 28 = .ok (.sipush 2000, 3) := by decide +kernel
theorem dX0_dayOf_31 : decode cX0_dayOf 31 = .ok (.isub, 1) := by decide +kernel
theorem dX0_dayOf_32 : decode cX0_dayOf 32 = .ok (.bipush 12, 2) := by decide +kernel
theorem dX0_dayOf_34 : decode cX0_dayOf 34 = .ok (.imul, 1) := by decide +kernel
theorem dX0_dayOf_35 : decode cX0_dayOf 35 = .ok (.iload_n 1, 1) := by decide +kernel
theorem dX0_dayOf_36 : decode cX0_dayOf 36 = .ok (.iadd, 1) := by decide +kernel
theorem dX0_dayOf_37 : decode cX0_dayOf 37 = .ok (.iconst 1, 1) := by decide +kernel
theorem dX0_dayOf_38 : decode cX0_dayOf 38 = .ok (.isub, 1) := by decide +kernel
theorem dX0_dayOf_39 : decode cX0_dayOf 39 = .ok (.iload_n 2, 1) := by decide +kernel
theorem dX0_dayOf_40 : decode cX0_dayOf 40 = .ok (.invokestatic 25, 3) := by decide +kernel
theorem dX0_dayOf_43 : decode cX0_dayOf 43 = .ok (.ireturn, 1) := by decide +kernel
theorem dX0_dayInMonth_0 : decode cX0_dayInMonth 0 = .ok (.iload_n 0, 1) := by decide +kernel
theorem dX0_dayInMonth_1 : decode cX0_dayInMonth 1 = .ok (.ifCond .lt 21, 3) := by decide +kernel
theorem dX0_dayInMonth_4 : decode cX0_dayInMonth 4 = .ok (.iload_n 0, 1) := by decide +kernel
theorem dX0_dayInMonth_5 : decode cX0_dayInMonth 5 = .ok (.sipush 336, 3) := by decide +kernel
theorem dX0_dayInMonth_8 : decode cX0_dayInMonth 8 = .ok (.if_icmp .ge 14, 3) := by decide +kernel
theorem dX0_dayInMonth_11 : decode cX0_dayInMonth 11 = .ok (.iload_n 1, 1) := by decide +kernel
theorem dX0_dayInMonth_12 : decode cX0_dayInMonth 12 = .ok (.iconst 1, 1) := by decide +kernel
theorem dX0_dayInMonth_13 : decode cX0_dayInMonth 13 = .ok (.if_icmp .lt 9, 3) := by decide +kernel
theorem dX0_dayInMonth_16 : decode cX0_dayInMonth 16 = .ok (.iload_n 1, 1) := by decide +kernel
theorem dX0_dayInMonth_17 : decode cX0_dayInMonth 17 = .ok (.bipush 31, 2) := by decide +kernel
theorem dX0_dayInMonth_19 : decode cX0_dayInMonth 19 = .ok (.if_icmp .le 5, 3) := by decide +kernel
theorem dX0_dayInMonth_22 : decode cX0_dayInMonth 22 = .ok (.iconst (-1), 1) := by decide +kernel
theorem dX0_dayInMonth_23 : decode cX0_dayInMonth 23 = .ok (.ireturn, 1) := by decide +kernel
theorem dX0_dayInMonth_24 : decode cX0_dayInMonth 24 = .ok (.iload_n 0, 1) := by decide +kernel
theorem dX0_dayInMonth_25 : decode cX0_dayInMonth 25 = .ok (.invokestatic 19, 3) := by decide +kernel
theorem dX0_dayInMonth_28 : decode cX0_dayInMonth 28 = .ok (.iload_n 1, 1) := by decide +kernel
theorem dX0_dayInMonth_29 : decode cX0_dayInMonth 29 = .ok (.iadd, 1) := by decide +kernel
theorem dX0_dayInMonth_30 : decode cX0_dayInMonth 30 = .ok (.iconst 1, 1) := by decide +kernel
theorem dX0_dayInMonth_31 : decode cX0_dayInMonth 31 = .ok (.isub, 1) := by decide +kernel
theorem dX0_dayInMonth_32 : decode cX0_dayInMonth 32 = .ok (.istore_n 2, 1) := by decide +kernel
theorem dX0_dayInMonth_33 : decode cX0_dayInMonth 33 = .ok (.iload_n 2, 1) := by decide +kernel
theorem dX0_dayInMonth_34 : decode cX0_dayInMonth 34 = .ok (.iload_n 0, 1) := by decide +kernel
theorem dX0_dayInMonth_35 : decode cX0_dayInMonth 35 = .ok (.iconst 1, 1) := by decide +kernel
theorem dX0_dayInMonth_36 : decode cX0_dayInMonth 36 = .ok (.iadd, 1) := by decide +kernel
theorem dX0_dayInMonth_37 : decode cX0_dayInMonth 37 = .ok (.invokestatic 19, 3) := by decide +kernel
theorem dX0_dayInMonth_40 : decode cX0_dayInMonth 40 = .ok (.if_icmp .ge 14, 3) := by decide +kernel
theorem dX0_dayInMonth_43 : decode cX0_dayInMonth 43 = .ok (.iload_n 2, 1) := by decide +kernel
theorem dX0_dayInMonth_44 : decode cX0_dayInMonth 44 = .ok (.sipush 9999, 3) := by decide +kernel
theorem dX0_dayInMonth_47 : decode cX0_dayInMonth 47 = .ok (.if_icmp .gt 7, 3) := by decide +kernel
theorem dX0_dayInMonth_50 : decode cX0_dayInMonth 50 = .ok (.iload_n 2, 1) := by decide +kernel
theorem dX0_dayInMonth_51 : decode cX0_dayInMonth 51 = .ok (.goto 4, 3) := by decide +kernel
theorem dX0_dayInMonth_54 : decode cX0_dayInMonth 54 = .ok (.iconst (-1), 1) := by decide +kernel
theorem dX0_dayInMonth_55 : decode cX0_dayInMonth 55 = .ok (.ireturn, 1) := by decide +kernel
theorem dX0_move_0 : decode cX0_move 0 = .ok (.iload_n 1, 1) := by decide +kernel
theorem dX0_move_1 : decode cX0_move 1 = .ok (.iconst 1, 1) := by decide +kernel
theorem dX0_move_2 : decode cX0_move 2 = .ok (.if_icmp .ne 12, 3) := by decide +kernel
theorem dX0_move_5 : decode cX0_move 5 = .ok (.iload_n 0, 1) := by decide +kernel
theorem dX0_move_6 : decode cX0_move 6 = .ok (.bipush 7, 2) := by decide +kernel
theorem dX0_move_8 : decode cX0_move 8 = .ok (.iload_n 2, 1) := by decide +kernel
theorem dX0_move_9 : decode cX0_move 9 = .ok (.imul, 1) := by decide +kernel
theorem dX0_move_10 : decode cX0_move 10 = .ok (.iadd, 1) := by decide +kernel
theorem dX0_move_11 : decode cX0_move 11 = .ok (.goto 6, 3) := by decide +kernel
theorem dX0_move_14 : decode cX0_move 14 = .ok (.iload_n 0, 1) := by decide +kernel
theorem dX0_move_15 : decode cX0_move 15 = .ok (.iload_n 2, 1) := by decide +kernel
theorem dX0_move_16 : decode cX0_move 16 = .ok (.iadd, 1) := by decide +kernel
theorem dX0_move_17 : decode cX0_move 17 = .ok (.istore_n 3, 1) := by decide +kernel
theorem dX0_move_18 : decode cX0_move 18 = .ok (.iload_n 1, 1) := by decide +kernel
theorem dX0_move_19 : decode cX0_move 19 = .ok (.iconst 2, 1) := by decide +kernel
theorem dX0_move_20 : decode cX0_move 20 = .ok (.if_icmp .eq 8, 3) := by decide +kernel
theorem dX0_move_23 : decode cX0_move 23 = .ok (.iload_n 1, 1) := by decide +kernel
theorem dX0_move_24 : decode cX0_move 24 = .ok (.iconst 3, 1) := by decide +kernel
theorem dX0_move_25 : decode cX0_move 25 = .ok (.if_icmp .ne 72, 3) := by decide +kernel
theorem dX0_move_28 : decode cX0_move 28 = .ok (.iload_n 0, 1) := by decide +kernel
theorem dX0_move_29 : decode cX0_move 29 = .ok (.invokestatic 29, 3) := by decide +kernel
theorem dX0_move_32 : decode cX0_move 32 = .ok (.istore 4, 2) := by decide +kernel
theorem dX0_move_34 : decode cX0_move 34 = .ok (.iload 4, 2) := by decide +kernel
theorem dX0_move_36 : decode cX0_move 36 = .ok (.iload_n 1, 1) := by decide +kernel
theorem dX0_move_37 : decode cX0_move 37 = .ok (.iconst 3, 1) := by decide +kernel
theorem dX0_move_38 : decode cX0_move 38 = .ok (.if_icmp .ne 10, 3) := by decide +kernel
theorem dX0_move_41 : decode cX0_move 41 = .ok (.bipush 12, 2) := by decide +kernel
theorem dX0_move_43 : decode cX0_move 43 = .ok (.iload_n 2, 1) := by decide +kernel
theorem dX0_move_44 : decode cX0_move 44 = .ok (.imul, 1) := by decide +kernel
theorem dX0_move_45 : decode cX0_move 45 = .ok (.goto 4, 3) := by decide +kernel
theorem dX0_move_48 : decode cX0_move 48 = .ok (.iload_n 2, 1) := by decide +kernel
theorem dX0_move_49 : decode cX0_move 49 = .ok (.iadd, 1) := by decide +kernel
theorem dX0_move_50 : decode cX0_move 50 = .ok (.istore 5, 2) := by decide +kernel
theorem dX0_move_52 : decode cX0_move 52 = .ok (.iload 5, 2) := by decide +kernel
theorem dX0_move_54 : decode cX0_move 54 = .ok (.ifCond .lt 11, 3) := by decide +kernel
theorem dX0_move_57 : decode cX0_move 57 = .ok (.iload 5, 2) := by decide +kernel
theorem dX0_move_59 : decode cX0_move 59 = .ok (.sipush 336, 3) := by decide +kernel
theorem dX0_move_62 : decode cX0_move 62 = .ok (.if_icmp .lt 5, 3) := by decide +kernel
theorem dX0_move_65 : decode cX0_move 65 = .ok (.iconst (-1), 1) := by decide +kernel
theorem dX0_move_66 : decode cX0_move 66 = .ok (.ireturn, 1) := by decide +kernel
theorem dX0_move_67 : decode cX0_move 67 = .ok (.iload_n 0, 1) := by decide +kernel
theorem dX0_move_68 : decode cX0_move 68 = .ok (.iload 4, 2) := by decide +kernel
theorem dX0_move_70 : decode cX0_move 70 = .ok (.invokestatic 19, 3) := by decide +kernel
theorem dX0_move_73 : decode cX0_move 73 = .ok (.isub, 1) := by decide +kernel
theorem dX0_move_74 : decode cX0_move 74 = .ok (.istore 6, 2) := by decide +kernel
theorem dX0_move_76 : decode cX0_move 76 = .ok (.iload 5, 2) := by decide +kernel
theorem dX0_move_78 : decode cX0_move 78 = .ok (.invokestatic 19, 3) := by decide +kernel
theorem dX0_move_81 : decode cX0_move 81 = .ok (.iload 6, 2) := by decide +kernel
theorem dX0_move_83 : decode cX0_move 83 = .ok (.iadd, 1) := by decide +kernel
theorem dX0_move_84 : decode cX0_move 84 = .ok (.iload 5, 2) := by decide +kernel
theorem dX0_move_86 : decode cX0_move 86 = .ok (.iconst 1, 1) := by decide +kernel
theorem dX0_move_87 : decode cX0_move 87 = .ok (.iadd, 1) := by decide +kernel
theorem dX0_move_88 : decode cX0_move 88 = .ok (.invokestatic 19, 3) := by decide +kernel
theorem dX0_move_91 : decode cX0_move 91 = .ok (.iconst 1, 1) := by decide +kernel
theorem dX0_move_92 : decode cX0_move 92 = .ok (.isub, 1) := by decide +kernel
theorem dX0_move_93 : decode cX0_move 93 = .ok (.invokestatic 32, 3) := by decide +kernel
theorem dX0_move_96 : decode cX0_move 96 = .ok (.istore_n 3, 1) := by decide +kernel
theorem dX0_move_97 : decode cX0_move 97 = .ok (.iload_n 3, 1) := by decide +kernel
theorem dX0_move_98 : decode cX0_move 98 = .ok (.invokestatic 37, 3) := by decide +kernel
theorem dX0_move_101 : decode cX0_move 101 = .ok (.ifCond .eq 7, 3) := by decide +kernel
theorem dX0_move_104 : decode cX0_move 104 = .ok (.iload_n 3, 1) := by decide +kernel
theorem dX0_move_105 : decode cX0_move 105 = .ok (.goto 4, 3) := by decide +kernel
theorem dX0_move_108 : decode cX0_move 108 = .ok (.iconst (-1), 1) := by decide +kernel
theorem dX0_move_109 : decode cX0_move 109 = .ok (.ireturn, 1) := by decide +kernel
theorem dX1_init_0 : decode cX1_init 0 = .ok (.aload_n 0, 1) := by decide +kernel
theorem dX1_init_1 : decode cX1_init 1 = .ok (.invokespecial 3, 3) := by decide +kernel
theorem dX1_init_4 : decode cX1_init 4 = .ok (.aload_n 0, 1) := by decide +kernel
theorem dX1_init_5 : decode cX1_init 5 = .ok (.bipush 36, 2) := by decide +kernel
theorem dX1_init_7 : decode cX1_init 7 = .ok (.bipush 36, 2) := by decide +kernel
theorem dX1_init_9 : decode cX1_init 9 = .ok (.multianewarray 11 2, 4) := by decide +kernel
theorem dX1_init_13 : decode cX1_init 13 = .ok (.putfield 13, 3) := by decide +kernel
theorem dX1_init_16 : decode cX1_init 16 = .ok (.aload_n 0, 1) := by decide +kernel
theorem dX1_init_17 : decode cX1_init 17 = .ok (.bipush 6, 2) := by decide +kernel
theorem dX1_init_19 : decode cX1_init 19 = .ok (.newarray .int, 2) := by decide +kernel
theorem dX1_init_21 : decode cX1_init 21 = .ok (.putfield 16, 3) := by decide +kernel
theorem dX1_init_24 : decode cX1_init 24 = .ok (.aload_n 0, 1) := by decide +kernel
theorem dX1_init_25 : decode cX1_init 25 = .ok (.iconst 0, 1) := by decide +kernel
theorem dX1_init_26 : decode cX1_init 26 = .ok (.putfield 20, 3) := by decide +kernel
theorem dX1_init_29 : decode cX1_init 29 = .ok (.aload_n 0, 1) := by decide +kernel
theorem dX1_init_30 : decode cX1_init 30 = .ok (.iconst 0, 1) := by decide +kernel
theorem dX1_init_31 : decode cX1_init 31 = .ok (.putfield 24, 3) := by decide +kernel
theorem dX1_init_34 : decode cX1_init 34 = .ok (.return_, 1) := by decide +kernel
theorem dX1_find_0 : decode cX1_find 0 = .ok (.iconst 0, 1) := by decide +kernel
theorem dX1_find_1 : decode cX1_find 1 = .ok (.istore_n 2, 1) := by decide +kernel
theorem dX1_find_2 : decode cX1_find 2 = .ok (.iload_n 2, 1) := by decide +kernel
theorem dX1_find_3 : decode cX1_find 3 = .ok (.bipush 36, 2) := by decide +kernel
theorem dX1_find_5 : decode cX1_find 5 = .ok (.if_icmp .ge 32, 3) := by decide +kernel
theorem dX1_find_8 : decode cX1_find 8 = .ok (.iconst 0, 1) := by decide +kernel
theorem dX1_find_9 : decode cX1_find 9 = .ok (.istore_n 3, 1) := by decide +kernel
theorem dX1_find_10 : decode cX1_find 10 = .ok (.iload_n 3, 1) := by decide +kernel
theorem dX1_find_11 : decode cX1_find 11 = .ok (.bipush 36, 2) := by decide +kernel
theorem dX1_find_13 : decode cX1_find 13 = .ok (.if_icmp .ge 18, 3) := by decide +kernel
theorem dX1_find_16 : decode cX1_find 16 = .ok (.aload_n 0, 1) := by decide +kernel
theorem dX1_find_17 : decode cX1_find 17 = .ok (.getfield 13, 3) := by decide +kernel
theorem dX1_find_20 : decode cX1_find 20 = .ok (.iload_n 2, 1) := by decide +kernel
theorem dX1_find_21 : decode cX1_find 21 = .ok (.aaload, 1) := by decide +kernel
theorem dX1_find_22 : decode cX1_find 22 = .ok (.iload_n 3, 1) := by decide +kernel
theorem dX1_find_23 : decode cX1_find 23 = .ok (.iconst 0, 1) := by decide +kernel
theorem dX1_find_24 : decode cX1_find 24 = .ok (.iastore, 1) := by decide +kernel
theorem dX1_find_25 : decode cX1_find 25 = .ok (.iinc 3 1, 3) := by decide +kernel
theorem dX1_find_28 : decode cX1_find 28 = .ok (.goto (-18), 3) := by decide +kernel
theorem dX1_find_31 : decode cX1_find 31 = .ok (.iinc 2 1, 3) := by decide +kernel
theorem dX1_find_34 : decode cX1_find 34 = .ok (.goto (-32), 3) := by decide +kernel
theorem dX1_find_37 : decode cX1_find 37 = .ok (.iconst 0, 1) := by decide +kernel
theorem dX1_find_38 : decode cX1_find 38 = .ok (.istore_n 2, 1) := by decide +kernel
theorem dX1_find_39 : decode cX1_find 39 = .ok (.iload_n 2, 1) := by decide +kernel
theorem dX1_find_40 : decode cX1_find 40 = .ok (.aload_n 1, 1) := by decide +kernel
theorem dX1_find_41 : decode cX1_find 41 = .ok (.invokevirtual 27, 3) := by decide +kernel
theorem dX1_find_44 : decode cX1_find 44 = .ok (.if_icmp .ge 15, 3) := by decide +kernel
theorem dX1_find_47 : decode cX1_find 47 = .ok (.aload_n 0, 1) := by decide +kernel
theorem dX1_find_48 : decode cX1_find 48 = .ok (.aload_n 1, 1) := by decide +kernel
theorem dX1_find_49 : decode cX1_find 49 = .ok (.iload_n 2, 1) := by decide +kernel
theorem dX1_find_50 : decode cX1_find 50 = .ok (.invokevirtual 33, 3) := by decide +kernel
theorem dX1_find_53 : decode cX1_find 53 = .ok (.iinc 2 1, 3) := by decide +kernel
theorem dX1_find_56 : decode cX1_find 56 = .ok (.goto (-17), 3) := by decide +kernel
theorem dX1_find_59 : decode cX1_find 59 = .ok (.aload_n 0, 1) := by decide +kernel
theorem dX1_find_60 : decode cX1_find 60 = .ok (.iconst 0, 1) := by decide +kernel
theorem dX1_find_61 : decode cX1_find 61 = .ok (.putfield 24, 3) := by decide +kernel
theorem dX1_find_64 : decode cX1_find 64 = .ok (.iconst 1, 1) := by decide +kernel
theorem dX1_find_65 : decode cX1_find 65 = .ok (.istore_n 2, 1) := by decide +kernel
theorem dX1_find_66 : decode cX1_find 66 = .ok (.iload_n 2, 1) := by decide +kernel
theorem dX1_find_67 : decode cX1_find 67 = .ok (.bipush 10, 2) := by decide +kernel
theorem dX1_find_69 : decode cX1_find 69 = .ok (.if_icmp .gt 37, 3) := by decide +kernel
theorem dX1_find_72 : decode cX1_find 72 = .ok (.aload_n 0, 1) := by decide +kernel
theorem dX1_find_73 : decode cX1_find 73 = .ok (.getfield 24, 3) := by decide +kernel
theorem dX1_find_76 : decode cX1_find 76 = .ok (.ifCond .ne 30, 3) := by decide +kernel
theorem dX1_find_79 : decode cX1_find 79 = .ok (.aload_n 0, 1) := by decide +kernel
theorem dX1_find_80 : decode cX1_find 80 = .ok (.iconst 1, 1) := by decide +kernel
theorem dX1_find_81 : decode cX1_find 81 = .ok (.iload_n 2, 1) := by decide +kernel
theorem dX1_find_82 : decode cX1_find 82 = .ok (.ishl, 1) := by decide +kernel
theorem dX1_find_83 : decode cX1_find 83 = .ok (.iconst 1, 1) := by decide +kernel
theorem dX1_find_84 : decode cX1_find 84 = .ok (.isub, 1) := by decide +kernel
theorem dX1_find_85 : decode cX1_find 85 = .ok (.bipush 10, 2) := by decide +kernel
theorem dX1_find_87 : decode cX1_find 87 = .ok (.iload_n 2, 1) := by decide +kernel
theorem dX1_find_88 : decode cX1_find 88 = .ok (.isub, 1) := by decide +kernel
theorem dX1_find_89 : decode cX1_find 89 = .ok (.ishl, 1) := by decide +kernel
theorem dX1_find_90 : decode cX1_find 90 = .ok (.putfield 20, 3) := by decide +kernel
theorem dX1_find_93 : decode cX1_find 93 = .ok (.aload_n 0, 1) := by decide +kernel
theorem dX1_find_94 : decode cX1_find 94 = .ok (.aload_n 1, 1) := by decide +kernel
theorem dX1_find_95 : decode cX1_find 95 = .ok (.iconst 0, 1) := by decide +kernel
theorem dX1_find_96 : decode cX1_find 96 = .ok (.iconst 0, 1) := by decide +kernel
theorem dX1_find_97 : decode cX1_find 97 = .ok (.invokevirtual 37, 3) := by decide +kernel
theorem dX1_find_100 : decode cX1_find 100 = .ok (.iinc 2 1, 3) := by decide +kernel
theorem dX1_find_103 : decode cX1_find 103 = .ok (.goto (-37), 3) := by decide +kernel
theorem dX1_find_106 : decode cX1_find 106 = .ok (.return_, 1) := by decide +kernel
theorem dX1_heed_0 : decode cX1_heed 0 = .ok (.aload_n 1, 1) := by decide +kernel
theorem dX1_heed_1 : decode cX1_heed 1 = .ok (.iload_n 2, 1) := by decide +kernel
theorem dX1_heed_2 : decode cX1_heed 2 = .ok (.invokevirtual 41, 3) := by decide +kernel
theorem dX1_heed_5 : decode cX1_heed 5 = .ok (.istore_n 3, 1) := by decide +kernel
theorem dX1_heed_6 : decode cX1_heed 6 = .ok (.aload_n 1, 1) := by decide +kernel
theorem dX1_heed_7 : decode cX1_heed 7 = .ok (.iload_n 3, 1) := by decide +kernel
theorem dX1_heed_8 : decode cX1_heed 8 = .ok (.invokevirtual 45, 3) := by decide +kernel
theorem dX1_heed_11 : decode cX1_heed 11 = .ok (.ifCond .ne 4, 3) := by decide +kernel
theorem dX1_heed_14 : decode cX1_heed 14 = .ok (.return_, 1) := by decide +kernel
theorem dX1_heed_15 : decode cX1_heed 15 = .ok (.iload_n 3, 1) := by decide +kernel
theorem dX1_heed_16 : decode cX1_heed 16 = .ok (.bipush 10, 2) := by decide +kernel
theorem dX1_heed_18 : decode cX1_heed 18 = .ok (.idiv, 1) := by decide +kernel
theorem dX1_heed_19 : decode cX1_heed 19 = .ok (.bipush 10, 2) := by decide +kernel
theorem dX1_heed_21 : decode cX1_heed 21 = .ok (.irem, 1) := by decide +kernel
theorem dX1_heed_22 : decode cX1_heed 22 = .ok (.bipush 6, 2) := by decide +kernel
theorem dX1_heed_24 : decode cX1_heed 24 = .ok (.imul, 1) := by decide +kernel
theorem dX1_heed_25 : decode cX1_heed 25 = .ok (.istore 4, 2) := by decide +kernel
theorem dX1_heed_27 : decode cX1_heed 27 = .ok (.iload_n 3, 1) := by decide +kernel
theorem dX1_heed_28 : decode cX1_heed 28 = .ok (.bipush 10, 2) := by decide +kernel
theorem dX1_heed_30 : decode cX1_heed 30 = .ok (.irem, 1) := by decide +kernel
theorem dX1_heed_31 : decode cX1_heed 31 = .ok (.bipush 6, 2) := by decide +kernel
theorem dX1_heed_33 : decode cX1_heed 33 = .ok (.imul, 1) := by decide +kernel
theorem dX1_heed_34 : decode cX1_heed 34 = .ok (.istore 5, 2) := by decide +kernel
theorem dX1_heed_36 : decode cX1_heed 36 = .ok (.iconst 0, 1) := by decide +kernel
theorem dX1_heed_37 : decode cX1_heed 37 = .ok (.istore 6, 2) := by decide +kernel
theorem dX1_heed_39 : decode cX1_heed 39 = .ok (.iload 6, 2) := by decide +kernel
theorem dX1_heed_41 : decode cX1_heed 41 = .ok (.bipush 6, 2) := by decide +kernel
theorem dX1_heed_43 : decode cX1_heed 43 = .ok (.if_icmp .ge 82, 3) := by decide +kernel
theorem dX1_heed_46 : decode cX1_heed 46 = .ok (.aload_n 1, 1) := by decide +kernel
theorem dX1_heed_47 : decode cX1_heed 47 = .ok (.iload_n 3, 1) := by decide +kernel
theorem dX1_heed_48 : decode cX1_heed 48 = .ok (.iload 6, 2) := by decide +kernel
theorem dX1_heed_50 : decode cX1_heed 50 = .ok (.invokevirtual 49, 3) := by decide +kernel
theorem dX1_heed_53 : decode cX1_heed 53 = .ok (.istore 7, 2) := by decide +kernel
theorem dX1_heed_55 : decode cX1_heed 55 = .ok (.iconst 0, 1) := by decide +kernel
theorem dX1_heed_56 : decode cX1_heed 56 = .ok (.istore 8, 2) := by decide +kernel
theorem dX1_heed_58 : decode cX1_heed 58 = .ok (.iload 8, 2) := by decide +kernel
theorem dX1_heed_60 : decode cX1_heed 60 = .ok (.bipush 6, 2) := by decide +kernel
theorem dX1_heed_62 : decode cX1_heed 62 = .ok (.if_icmp .ge 57, 3) := by decide +kernel
theorem dX1_heed_65 : decode cX1_heed 65 = .ok (.iload 7, 2) := by decide +kernel
theorem dX1_heed_67 : decode cX1_heed 67 = .ok (.iload 8, 2) := by decide +kernel
theorem dX1_heed_69 : decode cX1_heed 69 = .ok (.invokestatic 53, 3) := by decide +kernel
theorem dX1_heed_72 : decode cX1_heed 72 = .ok (.ifCond .ne 41, 3) := by decide +kernel
theorem dX1_heed_75 : decode cX1_heed 75 = .ok (.aload_n 0, 1) := by decide +kernel
theorem dX1_heed_76 : decode cX1_heed 76 = .ok (.getfield 13, 3) := by decide +kernel
theorem dX1_heed_79 : decode cX1_heed 79 = .ok (.iload 4, 2) := by decide +kernel
theorem dX1_heed_81 : decode cX1_heed 81 = .ok (.iload 6, 2) := by decide +kernel
theorem dX1_heed_83 : decode cX1_heed 83 = .ok (.iadd, 1) := by decide +kernel
theorem dX1_heed_84 : decode cX1_heed 84 = .ok (.iload 5, 2) := by decide +kernel
theorem dX1_heed_86 : decode cX1_heed 86 = .ok (.iload 8, 2) := by decide +kernel
theorem dX1_heed_88 : decode cX1_heed 88 = .ok (.iadd, 1) := by decide +kernel
theorem dX1_heed_89 : decode cX1_heed 89 = .ok (.invokestatic 57, 3) := by decide +kernel
theorem dX1_heed_92 : decode cX1_heed 92 = .ok (.aaload, 1) := by decide +kernel
theorem dX1_heed_93 : decode cX1_heed 93 = .ok (.iload 4, 2) := by decide +kernel
theorem dX1_heed_95 : decode cX1_heed 95 = .ok (.iload 6, 2) := by decide +kernel
theorem dX1_heed_97 : decode cX1_heed 97 = .ok (.iadd, 1) := by decide +kernel
theorem dX1_heed_98 : decode cX1_heed 98 = .ok (.iload 5, 2) := by decide +kernel
theorem dX1_heed_100 : decode cX1_heed 100 = .ok (.iload 8, 2) := by decide +kernel
theorem dX1_heed_102 : decode cX1_heed 102 = .ok (.iadd, 1) := by decide +kernel
theorem dX1_heed_103 : decode cX1_heed 103 = .ok (.invokestatic 62, 3) := by decide +kernel
theorem dX1_heed_106 : decode cX1_heed 106 = .ok (.dup2, 1) := by decide +kernel
theorem dX1_heed_107 : decode cX1_heed 107 = .ok (.iaload, 1) := by decide +kernel
theorem dX1_heed_108 : decode cX1_heed 108 = .ok (.iconst 1, 1) := by decide +kernel
theorem dX1_heed_109 : decode cX1_heed 109 = .ok (.iload_n 2, 1) := by decide +kernel
theorem dX1_heed_110 : decode cX1_heed 110 = .ok (.ishl, 1) := by decide +kernel
theorem dX1_heed_111 : decode cX1_heed 111 = .ok (.ior, 1) := by decide +kernel
theorem dX1_heed_112 : decode cX1_heed 112 = .ok (.iastore, 1) := by decide +kernel
theorem dX1_heed_113 : decode cX1_heed 113 = .ok (.iinc 8 1, 3) := by decide +kernel
theorem dX1_heed_116 : decode cX1_heed 116 = .ok (.goto (-58), 3) := by decide +kernel
theorem dX1_heed_119 : decode cX1_heed 119 = .ok (.iinc 6 1, 3) := by decide +kernel
theorem dX1_heed_122 : decode cX1_heed 122 = .ok (.goto (-83), 3) := by decide +kernel
theorem dX1_heed_125 : decode cX1_heed 125 = .ok (.return_, 1) := by decide +kernel
theorem dX1_search_0 : decode cX1_search 0 = .ok (.aload_n 0, 1) := by decide +kernel
theorem dX1_search_1 : decode cX1_search 1 = .ok (.iload_n 3, 1) := by decide +kernel
theorem dX1_search_2 : decode cX1_search 2 = .ok (.invokevirtual 65, 3) := by decide +kernel
theorem dX1_search_5 : decode cX1_search 5 = .ok (.ifCond .eq 4, 3) := by decide +kernel
theorem dX1_search_8 : decode cX1_search 8 = .ok (.return_, 1) := by decide +kernel
theorem dX1_search_9 : decode cX1_search 9 = .ok (.iload_n 2, 1) := by decide +kernel
theorem dX1_search_10 : decode cX1_search 10 = .ok (.ifCond .lt 9, 3) := by decide +kernel
theorem dX1_search_13 : decode cX1_search 13 = .ok (.iload_n 2, 1) := by decide +kernel
theorem dX1_search_14 : decode cX1_search 14 = .ok (.bipush 6, 2) := by decide +kernel
theorem dX1_search_16 : decode cX1_search 16 = .ok (.if_icmp .lt 9, 3) := by decide +kernel
theorem dX1_search_19 : decode cX1_search 19 = .ok (.aload_n 0, 1) := by decide +kernel
theorem dX1_search_20 : decode cX1_search 20 = .ok (.iload_n 3, 1) := by decide +kernel
theorem dX1_search_21 : decode cX1_search 21 = .ok (.invokevirtual 68, 3) := by decide +kernel
theorem dX1_search_24 : decode cX1_search 24 = .ok (.return_, 1) := by decide +kernel
theorem dX1_search_25 : decode cX1_search 25 = .ok (.aload_n 0, 1) := by decide +kernel
theorem dX1_search_26 : decode cX1_search 26 = .ok (.getfield 16, 3) := by decide +kernel
theorem dX1_search_29 : decode cX1_search 29 = .ok (.iload_n 2, 1) := by decide +kernel
theorem dX1_search_30 : decode cX1_search 30 = .ok (.iload_n 2, 1) := by decide +kernel
theorem dX1_search_31 : decode cX1_search 31 = .ok (.bipush 6, 2) := by decide +kernel
theorem dX1_search_33 : decode cX1_search 33 = .ok (.imul, 1) := by decide +kernel
theorem dX1_search_34 : decode cX1_search 34 = .ok (.iastore, 1) := by decide +kernel
theorem dX1_search_35 : decode cX1_search 35 = .ok (.aload_n 1, 1) := by decide +kernel
theorem dX1_search_36 : decode cX1_search 36 = .ok (.iload_n 2, 1) := by decide +kernel
theorem dX1_search_37 : decode cX1_search 37 = .ok (.invokevirtual 72, 3) := by decide +kernel
theorem dX1_search_40 : decode cX1_search 40 = .ok (.ifCond .ne 13, 3) := by decide +kernel
theorem dX1_search_43 : decode cX1_search 43 = .ok (.aload_n 0, 1) := by decide +kernel
theorem dX1_search_44 : decode cX1_search 44 = .ok (.aload_n 1, 1) := by decide +kernel
theorem dX1_search_45 : decode cX1_search 45 = .ok (.iload_n 2, 1) := by decide +kernel
theorem dX1_search_46 : decode cX1_search 46 = .ok (.iconst 1, 1) := by decide +kernel
theorem dX1_search_47 : decode cX1_search 47 = .ok (.iadd, 1) := by decide +kernel
theorem dX1_search_48 : decode cX1_search 48 = .ok (.iload_n 3, 1) := by decide +kernel
theorem dX1_search_49 : decode cX1_search 49 = .ok (.invokevirtual 37, 3) := by decide +kernel
theorem dX1_search_52 : decode cX1_search 52 = .ok (.return_, 1) := by decide +kernel
theorem dX1_search_53 : decode cX1_search 53 = .ok (.iconst 0, 1) := by decide +kernel
theorem dX1_search_54 : decode cX1_search 54 = .ok (.istore 4, 2) := by decide +kernel
theorem dX1_search_56 : decode cX1_search 56 = .ok (.iload 4, 2) := by decide +kernel
theorem dX1_search_58 : decode cX1_search 58 = .ok (.bipush 6, 2) := by decide +kernel
theorem dX1_search_60 : decode cX1_search 60 = .ok (.if_icmp .ge 47, 3) := by decide +kernel
theorem dX1_search_63 : decode cX1_search 63 = .ok (.aload_n 1, 1) := by decide +kernel
theorem dX1_search_64 : decode cX1_search 64 = .ok (.iload_n 2, 1) := by decide +kernel
theorem dX1_search_65 : decode cX1_search 65 = .ok (.iload 4, 2) := by decide +kernel
theorem dX1_search_67 : decode cX1_search 67 = .ok (.invokevirtual 75, 3) := by decide +kernel
theorem dX1_search_70 : decode cX1_search 70 = .ok (.ifCond .eq 31, 3) := by decide +kernel
theorem dX1_search_73 : decode cX1_search 73 = .ok (.aload_n 0, 1) := by decide +kernel
theorem dX1_search_74 : decode cX1_search 74 = .ok (.getfield 16, 3) := by decide +kernel
theorem dX1_search_77 : decode cX1_search 77 = .ok (.iload_n 2, 1) := by decide +kernel
theorem dX1_search_78 : decode cX1_search 78 = .ok (.iload_n 2, 1) := by decide +kernel
theorem dX1_search_79 : decode cX1_search 79 = .ok (.bipush 6, 2) := by decide +kernel
theorem dX1_search_81 : decode cX1_search 81 = .ok (.imul, 1) := by decide +kernel
theorem dX1_search_82 : decode cX1_search 82 = .ok (.iload 4, 2) := by decide +kernel
theorem dX1_search_84 : decode cX1_search 84 = .ok (.iadd, 1) := by decide +kernel
theorem dX1_search_85 : decode cX1_search 85 = .ok (.iastore, 1) := by decide +kernel
theorem dX1_search_86 : decode cX1_search 86 = .ok (.aload_n 0, 1) := by decide +kernel
theorem dX1_search_87 : decode cX1_search 87 = .ok (.aload_n 1, 1) := by decide +kernel
theorem dX1_search_88 : decode cX1_search 88 = .ok (.iload_n 2, 1) := by decide +kernel
theorem dX1_search_89 : decode cX1_search 89 = .ok (.iconst 1, 1) := by decide +kernel
theorem dX1_search_90 : decode cX1_search 90 = .ok (.iadd, 1) := by decide +kernel
theorem dX1_search_91 : decode cX1_search 91 = .ok (.iload_n 3, 1) := by decide +kernel
theorem dX1_search_92 : decode cX1_search 92 = .ok (.aload_n 0, 1) := by decide +kernel
theorem dX1_search_93 : decode cX1_search 93 = .ok (.iload_n 2, 1) := by decide +kernel
theorem dX1_search_94 : decode cX1_search 94 = .ok (.invokevirtual 78, 3) := by decide +kernel
theorem dX1_search_97 : decode cX1_search 97 = .ok (.ior, 1) := by decide +kernel
theorem dX1_search_98 : decode cX1_search 98 = .ok (.invokevirtual 37, 3) := by decide +kernel
theorem dX1_search_101 : decode cX1_search 101 = .ok (.iinc 4 1, 3) := by decide +kernel
theorem dX1_search_104 : decode cX1_search 104 = .ok (.goto (-48), 3) := by decide +kernel
theorem dX1_search_107 : decode cX1_search 107 = .ok (.return_, 1) := by decide +kernel
theorem dX1_brokenWithThoseAhead_0 : decode cX1_brokenWithThoseAhead 0 = .ok (.iconst 0, 1) := by decide +kernel
theorem dX1_brokenWithThoseAhead_1 : decode cX1_brokenWithThoseAhead 1 = .ok (.istore_n 2, 1) := by decide +kernel
theorem dX1_brokenWithThoseAhead_2 : decode cX1_brokenWithThoseAhead 2 = .ok (.iconst 0, 1) := by decide +kernel
theorem dX1_brokenWithThoseAhead_3 : decode cX1_brokenWithThoseAhead 3 = .ok (.istore_n 3, 1) := by decide +kernel
theorem dX1_brokenWithThoseAhead_4 : decode cX1_brokenWithThoseAhead 4 = .ok (.iload_n 3, 1) := by decide +kernel
theorem dX1_brokenWithThoseAhead_5 : decode cX1_brokenWithThoseAhead 5 = .ok (.iload_n 1, 1) := by decide +kernel
theorem dX1_brokenWithThoseAhead_6 : decode cX1_brokenWithThoseAhead 6 = .ok (.if_icmp .ge 30, 3) := by decide +kernel
theorem dX1_brokenWithThoseAhead_9 : decode cX1_brokenWithThoseAhead 9 = .ok (.iload_n 2, 1) := by decide +kernel
theorem dX1_brokenWithThoseAhead_10 : decode cX1_brokenWithThoseAhead 10 = .ok (.aload_n 0, 1) := by decide +kernel
theorem dX1_brokenWithThoseAhead_11 : decode cX1_brokenWithThoseAhead 11 = .ok (.getfield 13, 3) := by decide +kernel
theorem dX1_brokenWithThoseAhead_14 : decode cX1_brokenWithThoseAhead 14 = .ok (.aload_n 0, 1) := by decide +kernel
theorem dX1_brokenWithThoseAhead_15 : decode cX1_brokenWithThoseAhead 15 = .ok (.getfield 16, 3) := by decide +kernel
theorem dX1_brokenWithThoseAhead_18 : decode cX1_brokenWithThoseAhead 18 = .ok (.iload_n 3, 1) := by decide +kernel
theorem dX1_brokenWithThoseAhead_19 : decode cX1_brokenWithThoseAhead 19 = .ok (.iaload, 1) := by decide +kernel
theorem dX1_brokenWithThoseAhead_20 : decode cX1_brokenWithThoseAhead 20 = .ok (.aaload, 1) := by decide +kernel
theorem dX1_brokenWithThoseAhead_21 : decode cX1_brokenWithThoseAhead 21 = .ok (.aload_n 0, 1) := by decide +kernel
theorem dX1_brokenWithThoseAhead_22 : decode cX1_brokenWithThoseAhead 22 = .ok (.getfield 16, 3) := by decide +kernel
theorem dX1_brokenWithThoseAhead_25 : decode cX1_brokenWithThoseAhead 25 = .ok (.iload_n 1, 1) := by decide +kernel
theorem dX1_brokenWithThoseAhead_26 : decode cX1_brokenWithThoseAhead 26 = .ok (.iaload, 1) := by decide +kernel
theorem dX1_brokenWithThoseAhead_27 : decode cX1_brokenWithThoseAhead 27 = .ok (.iaload, 1) := by decide +kernel
theorem dX1_brokenWithThoseAhead_28 : decode cX1_brokenWithThoseAhead 28 = .ok (.ior, 1) := by decide +kernel
theorem dX1_brokenWithThoseAhead_29 : decode cX1_brokenWithThoseAhead 29 = .ok (.istore_n 2, 1) := by decide +kernel
theorem dX1_brokenWithThoseAhead_30 : decode cX1_brokenWithThoseAhead 30 = .ok (.iinc 3 1, 3) := by decide +kernel
theorem dX1_brokenWithThoseAhead_33 : decode cX1_brokenWithThoseAhead 33 = .ok (.goto (-29), 3) := by decide +kernel
theorem dX1_brokenWithThoseAhead_36 : decode cX1_brokenWithThoseAhead 36 = .ok (.iload_n 2, 1) := by decide +kernel
theorem dX1_brokenWithThoseAhead_37 : decode cX1_brokenWithThoseAhead 37 = .ok (.ireturn, 1) := by decide +kernel
theorem dX1_isWorse_0 : decode cX1_isWorse 0 = .ok (.iload_n 1, 1) := by decide +kernel
theorem dX1_isWorse_1 : decode cX1_isWorse 1 = .ok (.invokestatic 81, 3) := by decide +kernel
theorem dX1_isWorse_4 : decode cX1_isWorse 4 = .ok (.istore_n 2, 1) := by decide +kernel
theorem dX1_isWorse_5 : decode cX1_isWorse 5 = .ok (.aload_n 0, 1) := by decide +kernel
theorem dX1_isWorse_6 : decode cX1_isWorse 6 = .ok (.getfield 20, 3) := by decide +kernel
theorem dX1_isWorse_9 : decode cX1_isWorse 9 = .ok (.invokestatic 81, 3) := by decide +kernel
theorem dX1_isWorse_12 : decode cX1_isWorse 12 = .ok (.istore_n 3, 1) := by decide +kernel
theorem dX1_isWorse_13 : decode cX1_isWorse 13 = .ok (.iload_n 2, 1) := by decide +kernel
theorem dX1_isWorse_14 : decode cX1_isWorse 14 = .ok (.iload_n 3, 1) := by decide +kernel
theorem dX1_isWorse_15 : decode cX1_isWorse 15 = .ok (.if_icmp .gt 16, 3) := by decide +kernel
theorem dX1_isWorse_18 : decode cX1_isWorse 18 = .ok (.iload_n 2, 1) := by decide +kernel
theorem dX1_isWorse_19 : decode cX1_isWorse 19 = .ok (.iload_n 3, 1) := by decide +kernel
theorem dX1_isWorse_20 : decode cX1_isWorse 20 = .ok (.if_icmp .ne 15, 3) := by decide +kernel
theorem dX1_isWorse_23 : decode cX1_isWorse 23 = .ok (.iload_n 1, 1) := by decide +kernel
theorem dX1_isWorse_24 : decode cX1_isWorse 24 = .ok (.aload_n 0, 1) := by decide +kernel
theorem dX1_isWorse_25 : decode cX1_isWorse 25 = .ok (.getfield 20, 3) := by decide +kernel
theorem dX1_isWorse_28 : decode cX1_isWorse 28 = .ok (.if_icmp .le 7, 3) := by decide +kernel
theorem dX1_isWorse_31 : decode cX1_isWorse 31 = .ok (.iconst 1, 1) := by decide +kernel
theorem dX1_isWorse_32 : decode cX1_isWorse 32 = .ok (.goto 4, 3) := by decide +kernel
theorem dX1_isWorse_35 : decode cX1_isWorse 35 = .ok (.iconst 0, 1) := by decide +kernel
theorem dX1_isWorse_36 : decode cX1_isWorse 36 = .ok (.ireturn, 1) := by decide +kernel
theorem dX1_arrive_0 : decode cX1_arrive 0 = .ok (.aload_n 0, 1) := by decide +kernel
theorem dX1_arrive_1 : decode cX1_arrive 1 = .ok (.iload_n 1, 1) := by decide +kernel
theorem dX1_arrive_2 : decode cX1_arrive 2 = .ok (.aload_n 0, 1) := by decide +kernel
theorem dX1_arrive_3 : decode cX1_arrive 3 = .ok (.getfield 20, 3) := by decide +kernel
theorem dX1_arrive_6 : decode cX1_arrive 6 = .ok (.if_icmp .ne 12, 3) := by decide +kernel
theorem dX1_arrive_9 : decode cX1_arrive 9 = .ok (.aload_n 0, 1) := by decide +kernel
theorem dX1_arrive_10 : decode cX1_arrive 10 = .ok (.getfield 24, 3) := by decide +kernel
theorem dX1_arrive_13 : decode cX1_arrive 13 = .ok (.iconst 1, 1) := by decide +kernel
theorem dX1_arrive_14 : decode cX1_arrive 14 = .ok (.iadd, 1) := by decide +kernel
theorem dX1_arrive_15 : decode cX1_arrive 15 = .ok (.goto 4, 3) := by decide +kernel
theorem dX1_arrive_18 : decode cX1_arrive 18 = .ok (.iconst 1, 1) := by decide +kernel
theorem dX1_arrive_19 : decode cX1_arrive 19 = .ok (.putfield 24, 3) := by decide +kernel
theorem dX1_arrive_22 : decode cX1_arrive 22 = .ok (.aload_n 0, 1) := by decide +kernel
theorem dX1_arrive_23 : decode cX1_arrive 23 = .ok (.iload_n 1, 1) := by decide +kernel
theorem dX1_arrive_24 : decode cX1_arrive 24 = .ok (.putfield 20, 3) := by decide +kernel
theorem dX1_arrive_27 : decode cX1_arrive 27 = .ok (.return_, 1) := by decide +kernel
theorem dX2_init_0 : decode cX2_init 0 = .ok (.aload_n 0, 1) := by decide +kernel
theorem dX2_init_1 : decode cX2_init 1 = .ok (.invokespecial 3, 3) := by decide +kernel
theorem dX2_init_4 : decode cX2_init 4 = .ok (.aload_n 0, 1) := by decide +kernel
theorem dX2_init_5 : decode cX2_init 5 = .ok (.new 9, 3) := by decide +kernel
theorem dX2_init_8 : decode cX2_init 8 = .ok (.dup, 1) := by decide +kernel
theorem dX2_init_9 : decode cX2_init 9 = .ok (.invokespecial 11, 3) := by decide +kernel
theorem dX2_init_12 : decode cX2_init 12 = .ok (.putfield 12, 3) := by decide +kernel
theorem dX2_init_15 : decode cX2_init 15 = .ok (.aload_n 0, 1) := by decide +kernel
theorem dX2_init_16 : decode cX2_init 16 = .ok (.new 9, 3) := by decide +kernel
theorem dX2_init_19 : decode cX2_init 19 = .ok (.dup, 1) := by decide +kernel
theorem dX2_init_20 : decode cX2_init 20 = .ok (.invokespecial 11, 3) := by decide +kernel
theorem dX2_init_23 : decode cX2_init 23 = .ok (.putfield 18, 3) := by decide +kernel
theorem dX2_init_26 : decode cX2_init 26 = .ok (.aload_n 0, 1) := by decide +kernel
theorem dX2_init_27 : decode cX2_init 27 = .ok (.new 9, 3) := by decide +kernel
theorem dX2_init_30 : decode cX2_init 30 = .ok (.dup, 1) := by decide +kernel
theorem dX2_init_31 : decode cX2_init 31 = .ok (.invokespecial 11, 3) := by decide +kernel
theorem dX2_init_34 : decode cX2_init 34 = .ok (.putfield 21, 3) := by decide +kernel
theorem dX2_init_37 : decode cX2_init 37 = .ok (.aload_n 0, 1) := by decide +kernel
theorem dX2_init_38 : decode cX2_init 38 = .ok (.new 9, 3) := by decide +kernel
theorem dX2_init_41 : decode cX2_init 41 = .ok (.dup, 1) := by decide +kernel
theorem dX2_init_42 : decode cX2_init 42 = .ok (.invokespecial 11, 3) := by decide +kernel
theorem dX2_init_45 : decode cX2_init 45 = .ok (.putfield 24, 3) := by decide +kernel
theorem dX2_init_48 : decode cX2_init 48 = .ok (.return_, 1) := by decide +kernel
theorem dX2_start_0 : decode cX2_start 0 = .ok (.aload_n 0, 1) := by decide +kernel
theorem dX2_start_1 : decode cX2_start 1 = .ok (.getfield 12, 3) := by decide +kernel
theorem dX2_start_4 : decode cX2_start 4 = .ok (.invokevirtual 27, 3) := by decide +kernel
theorem dX2_start_7 : decode cX2_start 7 = .ok (.return_, 1) := by decide +kernel
theorem dX2_answer_0 : decode cX2_answer 0 = .ok (.aload_n 0, 1) := by decide +kernel
theorem dX2_answer_1 : decode cX2_answer 1 = .ok (.getfield 12, 3) := by decide +kernel
theorem dX2_answer_4 : decode cX2_answer 4 = .ok (.getfield 30, 3) := by decide +kernel
theorem dX2_answer_7 : decode cX2_answer 7 = .ok (.ifCond .eq 7, 3) := by decide +kernel
theorem dX2_answer_10 : decode cX2_answer 10 = .ok (.sipush (-300), 3) := by decide +kernel
theorem dX2_answer_13 : decode cX2_answer 13 = .ok (.ireturn, 1) := by decide +kernel
theorem dX2_answer_14 : decode cX2_answer 14 = .ok (.aload_n 0, 1) := by decide +kernel
theorem dX2_answer_15 : decode cX2_answer 15 = .ok (.getfield 12, 3) := by decide +kernel
theorem dX2_answer_18 : decode cX2_answer 18 = .ok (.getfield 34, 3) := by decide +kernel
theorem dX2_answer_21 : decode cX2_answer 21 = .ok (.ifCond .ne 9, 3) := by decide +kernel
theorem dX2_answer_24 : decode cX2_answer 24 = .ok (.sipush (-200), 3) := by decide +kernel
theorem dX2_answer_27 : decode cX2_answer 27 = .ok (.goto 10, 3) := by decide +kernel
theorem dX2_answer_30 : decode cX2_answer 30 = .ok (.aload_n 0, 1) := by decide +kernel
theorem dX2_answer_31 : decode cX2_answer 31 = .ok (.getfield 12, 3) := by decide +kernel
theorem dX2_answer_34 : decode cX2_answer 34 = .ok (.getfield 34, 3) := by decide +kernel
theorem dX2_answer_37 : decode cX2_answer 37 = .ok (.ireturn, 1) := by decide +kernel
theorem dX2_gather_0 : decode cX2_gather 0 = .ok (.iconst 0, 1) := by decide +kernel
theorem dX2_gather_1 : decode cX2_gather 1 = .ok (.istore 4, 2) := by decide +kernel
theorem dX2_gather_3 : decode cX2_gather 3 = .ok (.iload 4, 2) := by decide +kernel
theorem dX2_gather_5 : decode cX2_gather 5 = .ok (.aload_n 1, 1) := by decide +kernel
theorem dX2_gather_6 : decode cX2_gather 6 = .ok (.getfield 38, 3) := by decide +kernel
theorem dX2_gather_9 : decode cX2_gather 9 = .ok (.if_icmp .ge 126, 3) := by decide +kernel
theorem dX2_gather_12 : decode cX2_gather 12 = .ok (.aload_n 1, 1) := by decide +kernel
theorem dX2_gather_13 : decode cX2_gather 13 = .ok (.iload 4, 2) := by decide +kernel
theorem dX2_gather_15 : decode cX2_gather 15 = .ok (.iconst 0, 1) := by decide +kernel
theorem dX2_gather_16 : decode cX2_gather 16 = .ok (.invokevirtual 41, 3) := by decide +kernel
theorem dX2_gather_19 : decode cX2_gather 19 = .ok (.istore 5, 2) := by decide +kernel
theorem dX2_gather_21 : decode cX2_gather 21 = .ok (.aload_n 1, 1) := by decide +kernel
theorem dX2_gather_22 : decode cX2_gather 22 = .ok (.iload 4, 2) := by decide +kernel
theorem dX2_gather_24 : decode cX2_gather 24 = .ok (.iconst 1, 1) := by decide +kernel
theorem dX2_gather_25 : decode cX2_gather 25 = .ok (.invokevirtual 41, 3) := by decide +kernel
theorem dX2_gather_28 : decode cX2_gather 28 = .ok (.istore 6, 2) := by decide +kernel
theorem dX2_gather_30 : decode cX2_gather 30 = .ok (.aload_n 1, 1) := by decide +kernel
theorem dX2_gather_31 : decode cX2_gather 31 = .ok (.iload 4, 2) := by decide +kernel
theorem dX2_gather_33 : decode cX2_gather 33 = .ok (.iconst 2, 1) := by decide +kernel
theorem dX2_gather_34 : decode cX2_gather 34 = .ok (.invokevirtual 41, 3) := by decide +kernel
theorem dX2_gather_37 : decode cX2_gather 37 = .ok (.istore 7, 2) := by decide +kernel
theorem dX2_gather_39 : decode cX2_gather 39 = .ok (.iload 5, 2) := by decide +kernel
theorem dX2_gather_41 : decode cX2_gather 41 = .ok (.bipush 6, 2) := by decide +kernel
theorem dX2_gather_43 : decode cX2_gather 43 = .ok (.if_icmp .gt 24, 3) := by decide +kernel
theorem dX2_gather_46 : decode cX2_gather 46 = .ok (.aload_n 0, 1) := by decide +kernel
theorem dX2_gather_47 : decode cX2_gather 47 = .ok (.getfield 18, 3) := by decide +kernel
theorem dX2_gather_50 : decode cX2_gather 50 = .ok (.invokevirtual 27, 3) := by decide +kernel
theorem dX2_gather_53 : decode cX2_gather 53 = .ok (.aload_n 0, 1) := by decide +kernel
theorem dX2_gather_54 : decode cX2_gather 54 = .ok (.iload 5, 2) := by decide +kernel
theorem dX2_gather_56 : decode cX2_gather 56 = .ok (.iload 6, 2) := by decide +kernel
theorem dX2_gather_58 : decode cX2_gather 58 = .ok (.iload 7, 2) := by decide +kernel
theorem dX2_gather_60 : decode cX2_gather 60 = .ok (.iload_n 2, 1) := by decide +kernel
theorem dX2_gather_61 : decode cX2_gather 61 = .ok (.invokevirtual 45, 3) := by decide +kernel
theorem dX2_gather_64 : decode cX2_gather 64 = .ok (.goto 65, 3) := by decide +kernel
theorem dX2_gather_67 : decode cX2_gather 67 = .ok (.iload 5, 2) := by decide +kernel
theorem dX2_gather_69 : decode cX2_gather 69 = .ok (.bipush 10, 2) := by decide +kernel
theorem dX2_gather_71 : decode cX2_gather 71 = .ok (.if_icmp .gt 31, 3) := by decide +kernel
theorem dX2_gather_74 : decode cX2_gather 74 = .ok (.aload_n 0, 1) := by decide +kernel
theorem dX2_gather_75 : decode cX2_gather 75 = .ok (.getfield 18, 3) := by decide +kernel
theorem dX2_gather_78 : decode cX2_gather 78 = .ok (.invokevirtual 27, 3) := by decide +kernel
theorem dX2_gather_81 : decode cX2_gather 81 = .ok (.aload_n 0, 1) := by decide +kernel
theorem dX2_gather_82 : decode cX2_gather 82 = .ok (.iload 5, 2) := by decide +kernel
theorem dX2_gather_84 : decode cX2_gather 84 = .ok (.iload 6, 2) := by decide +kernel
theorem dX2_gather_86 : decode cX2_gather 86 = .ok (.iload 7, 2) := by decide +kernel
theorem dX2_gather_88 : decode cX2_gather 88 = .ok (.aload_n 1, 1) := by decide +kernel
theorem dX2_gather_89 : decode cX2_gather 89 = .ok (.iload 4, 2) := by decide +kernel
theorem dX2_gather_91 : decode cX2_gather 91 = .ok (.iconst 3, 1) := by decide +kernel
theorem dX2_gather_92 : decode cX2_gather 92 = .ok (.invokevirtual 41, 3) := by decide +kernel
theorem dX2_gather_95 : decode cX2_gather 95 = .ok (.iload_n 2, 1) := by decide +kernel
theorem dX2_gather_96 : decode cX2_gather 96 = .ok (.invokevirtual 49, 3) := by decide +kernel
theorem dX2_gather_99 : decode cX2_gather 99 = .ok (.goto 30, 3) := by decide +kernel
theorem dX2_gather_102 : decode cX2_gather 102 = .ok (.iload 5, 2) := by decide +kernel
theorem dX2_gather_104 : decode cX2_gather 104 = .ok (.bipush 18, 2) := by decide +kernel
theorem dX2_gather_106 : decode cX2_gather 106 = .ok (.if_icmp .ge 16, 3) := by decide +kernel
theorem dX2_gather_109 : decode cX2_gather 109 = .ok (.aload_n 0, 1) := by decide +kernel
theorem dX2_gather_110 : decode cX2_gather 110 = .ok (.iload 5, 2) := by decide +kernel
theorem dX2_gather_112 : decode cX2_gather 112 = .ok (.iload 6, 2) := by decide +kernel
theorem dX2_gather_114 : decode cX2_gather 114 = .ok (.iload 7, 2) := by decide +kernel
theorem dX2_gather_116 : decode cX2_gather 116 = .ok (.invokevirtual 53, 3) := by decide +kernel
theorem dX2_gather_119 : decode cX2_gather 119 = .ok (.goto 10, 3) := by decide +kernel
theorem dX2_gather_122 : decode cX2_gather 122 = .ok (.aload_n 0, 1) := by decide +kernel
theorem dX2_gather_123 : decode cX2_gather 123 = .ok (.iload 5, 2) := by decide +kernel
theorem dX2_gather_125 : decode cX2_gather 125 = .ok (.iload_n 3, 1) := by decide +kernel
theorem dX2_gather_126 : decode cX2_gather 126 = .ok (.invokevirtual 57, 3) := by decide +kernel
theorem dX2_gather_129 : decode cX2_gather 129 = .ok (.iinc 4 1, 3) := by decide +kernel
theorem dX2_gather_132 : decode cX2_gather 132 = .ok (.goto (-129), 3) := by decide +kernel
theorem dX2_gather_135 : decode cX2_gather 135 = .ok (.return_, 1) := by decide +kernel
theorem dX2_addByDays_0 : decode cX2_addByDays 0 = .ok (.iload 4, 2) := by decide +kernel
theorem dX2_addByDays_2 : decode cX2_addByDays 2 = .ok (.invokestatic 61, 3) := by decide +kernel
theorem dX2_addByDays_5 : decode cX2_addByDays 5 = .ok (.istore 5, 2) := by decide +kernel
theorem dX2_addByDays_7 : decode cX2_addByDays 7 = .ok (.iload_n 1, 1) := by decide +kernel
theorem dX2_addByDays_8 : decode cX2_addByDays 8 = .ok (.tableswitch 194 0 6 #[44, 55, 66, 94, 106, 134, 163], 44) := by decide +kernel
theorem dX2_addByDays_52 : decode cX2_addByDays 52 = .ok (.aload_n 0, 1) := by decide +kernel
theorem dX2_addByDays_53 : decode cX2_addByDays 53 = .ok (.iload_n 2, 1) := by decide +kernel
theorem dX2_addByDays_54 : decode cX2_addByDays 54 = .ok (.iload_n 3, 1) := by decide +kernel
theorem dX2_addByDays_55 : decode cX2_addByDays 55 = .ok (.iload 4, 2) := by decide +kernel
theorem dX2_addByDays_57 : decode cX2_addByDays 57 = .ok (.invokevirtual 67, 3) := by decide +kernel
theorem dX2_addByDays_60 : decode cX2_addByDays 60 = .ok (.goto 142, 3) := by decide +kernel
theorem dX2_addByDays_63 : decode cX2_addByDays 63 = .ok (.aload_n 0, 1) := by decide +kernel
theorem dX2_addByDays_64 : decode cX2_addByDays 64 = .ok (.iload_n 2, 1) := by decide +kernel
theorem dX2_addByDays_65 : decode cX2_addByDays 65 = .ok (.iload_n 3, 1) := by decide +kernel
theorem dX2_addByDays_66 : decode cX2_addByDays 66 = .ok (.iload 4, 2) := by decide +kernel
theorem dX2_addByDays_68 : decode cX2_addByDays 68 = .ok (.invokevirtual 70, 3) := by decide +kernel
theorem dX2_addByDays_71 : decode cX2_addByDays 71 = .ok (.goto 131, 3) := by decide +kernel
theorem dX2_addByDays_74 : decode cX2_addByDays 74 = .ok (.aload_n 0, 1) := by decide +kernel
theorem dX2_addByDays_75 : decode cX2_addByDays 75 = .ok (.iload_n 2, 1) := by decide +kernel
theorem dX2_addByDays_76 : decode cX2_addByDays 76 = .ok (.iload 4, 2) := by decide +kernel
theorem dX2_addByDays_78 : decode cX2_addByDays 78 = .ok (.invokestatic 73, 3) := by decide +kernel
theorem dX2_addByDays_81 : decode cX2_addByDays 81 = .ok (.iconst 3, 1) := by decide +kernel
theorem dX2_addByDays_82 : decode cX2_addByDays 82 = .ok (.invokevirtual 76, 3) := by decide +kernel
theorem dX2_addByDays_85 : decode cX2_addByDays 85 = .ok (.aload_n 0, 1) := by decide +kernel
theorem dX2_addByDays_86 : decode cX2_addByDays 86 = .ok (.iload_n 2, 1) := by decide +kernel
theorem dX2_addByDays_87 : decode cX2_addByDays 87 = .ok (.iload 4, 2) := by decide +kernel
theorem dX2_addByDays_89 : decode cX2_addByDays 89 = .ok (.invokestatic 73, 3) := by decide +kernel
theorem dX2_addByDays_92 : decode cX2_addByDays 92 = .ok (.bipush 7, 2) := by decide +kernel
theorem dX2_addByDays_94 : decode cX2_addByDays 94 = .ok (.isub, 1) := by decide +kernel
theorem dX2_addByDays_95 : decode cX2_addByDays 95 = .ok (.iconst 1, 1) := by decide +kernel
theorem dX2_addByDays_96 : decode cX2_addByDays 96 = .ok (.invokevirtual 76, 3) := by decide +kernel
theorem dX2_addByDays_99 : decode cX2_addByDays 99 = .ok (.goto 103, 3) := by decide +kernel
theorem dX2_addByDays_102 : decode cX2_addByDays 102 = .ok (.aload_n 0, 1) := by decide +kernel
theorem dX2_addByDays_103 : decode cX2_addByDays 103 = .ok (.iload 5, 2) := by decide +kernel
theorem dX2_addByDays_105 : decode cX2_addByDays 105 = .ok (.iload_n 2, 1) := by decide +kernel
theorem dX2_addByDays_106 : decode cX2_addByDays 106 = .ok (.iadd, 1) := by decide +kernel
theorem dX2_addByDays_107 : decode cX2_addByDays 107 = .ok (.iconst 3, 1) := by decide +kernel
theorem dX2_addByDays_108 : decode cX2_addByDays 108 = .ok (.invokevirtual 76, 3) := by decide +kernel
theorem dX2_addByDays_111 : decode cX2_addByDays 111 = .ok (.goto 91, 3) := by decide +kernel
theorem dX2_addByDays_114 : decode cX2_addByDays 114 = .ok (.aload_n 0, 1) := by decide +kernel
theorem dX2_addByDays_115 : decode cX2_addByDays 115 = .ok (.iload 5, 2) := by decide +kernel
theorem dX2_addByDays_117 : decode cX2_addByDays 117 = .ok (.bipush 7, 2) := by decide +kernel
theorem dX2_addByDays_119 : decode cX2_addByDays 119 = .ok (.iadd, 1) := by decide +kernel
theorem dX2_addByDays_120 : decode cX2_addByDays 120 = .ok (.iload_n 2, 1) := by decide +kernel
theorem dX2_addByDays_121 : decode cX2_addByDays 121 = .ok (.iadd, 1) := by decide +kernel
theorem dX2_addByDays_122 : decode cX2_addByDays 122 = .ok (.iconst 3, 1) := by decide +kernel
theorem dX2_addByDays_123 : decode cX2_addByDays 123 = .ok (.invokevirtual 76, 3) := by decide +kernel
theorem dX2_addByDays_126 : decode cX2_addByDays 126 = .ok (.aload_n 0, 1) := by decide +kernel
theorem dX2_addByDays_127 : decode cX2_addByDays 127 = .ok (.iload_n 2, 1) := by decide +kernel
theorem dX2_addByDays_128 : decode cX2_addByDays 128 = .ok (.iload 4, 2) := by decide +kernel
theorem dX2_addByDays_130 : decode cX2_addByDays 130 = .ok (.iconst 1, 1) := by decide +kernel
theorem dX2_addByDays_131 : decode cX2_addByDays 131 = .ok (.iadd, 1) := by decide +kernel
theorem dX2_addByDays_132 : decode cX2_addByDays 132 = .ok (.invokestatic 73, 3) := by decide +kernel
theorem dX2_addByDays_135 : decode cX2_addByDays 135 = .ok (.iconst 2, 1) := by decide +kernel
theorem dX2_addByDays_136 : decode cX2_addByDays 136 = .ok (.invokevirtual 76, 3) := by decide +kernel
theorem dX2_addByDays_139 : decode cX2_addByDays 139 = .ok (.goto 63, 3) := by decide +kernel
theorem dX2_addByDays_142 : decode cX2_addByDays 142 = .ok (.aload_n 0, 1) := by decide +kernel
theorem dX2_addByDays_143 : decode cX2_addByDays 143 = .ok (.iload_n 2, 1) := by decide +kernel
theorem dX2_addByDays_144 : decode cX2_addByDays 144 = .ok (.iload 4, 2) := by decide +kernel
theorem dX2_addByDays_146 : decode cX2_addByDays 146 = .ok (.invokestatic 73, 3) := by decide +kernel
theorem dX2_addByDays_149 : decode cX2_addByDays 149 = .ok (.bipush 7, 2) := by decide +kernel
theorem dX2_addByDays_151 : decode cX2_addByDays 151 = .ok (.isub, 1) := by decide +kernel
theorem dX2_addByDays_152 : decode cX2_addByDays 152 = .ok (.iconst 3, 1) := by decide +kernel
theorem dX2_addByDays_153 : decode cX2_addByDays 153 = .ok (.invokevirtual 76, 3) := by decide +kernel
theorem dX2_addByDays_156 : decode cX2_addByDays 156 = .ok (.aload_n 0, 1) := by decide +kernel
theorem dX2_addByDays_157 : decode cX2_addByDays 157 = .ok (.iload 5, 2) := by decide +kernel
theorem dX2_addByDays_159 : decode cX2_addByDays 159 = .ok (.bipush 7, 2) := by decide +kernel
theorem dX2_addByDays_161 : decode cX2_addByDays 161 = .ok (.isub, 1) := by decide +kernel
theorem dX2_addByDays_162 : decode cX2_addByDays 162 = .ok (.iload_n 2, 1) := by decide +kernel
theorem dX2_addByDays_163 : decode cX2_addByDays 163 = .ok (.iadd, 1) := by decide +kernel
theorem dX2_addByDays_164 : decode cX2_addByDays 164 = .ok (.iconst 2, 1) := by decide +kernel
theorem dX2_addByDays_165 : decode cX2_addByDays 165 = .ok (.invokevirtual 76, 3) := by decide +kernel
theorem dX2_addByDays_168 : decode cX2_addByDays 168 = .ok (.goto 34, 3) := by decide +kernel
theorem dX2_addByDays_171 : decode cX2_addByDays 171 = .ok (.aload_n 0, 1) := by decide +kernel
theorem dX2_addByDays_172 : decode cX2_addByDays 172 = .ok (.iload_n 2, 1) := by decide +kernel
theorem dX2_addByDays_173 : decode cX2_addByDays 173 = .ok (.iload 4, 2) := by decide +kernel
theorem dX2_addByDays_175 : decode cX2_addByDays 175 = .ok (.iconst 1, 1) := by decide +kernel
theorem dX2_addByDays_176 : decode cX2_addByDays 176 = .ok (.iadd, 1) := by decide +kernel
theorem dX2_addByDays_177 : decode cX2_addByDays 177 = .ok (.invokestatic 73, 3) := by decide +kernel
theorem dX2_addByDays_180 : decode cX2_addByDays 180 = .ok (.bipush 7, 2) := by decide +kernel
theorem dX2_addByDays_182 : decode cX2_addByDays 182 = .ok (.iadd, 1) := by decide +kernel
theorem dX2_addByDays_183 : decode cX2_addByDays 183 = .ok (.iconst 3, 1) := by decide +kernel
theorem dX2_addByDays_184 : decode cX2_addByDays 184 = .ok (.invokevirtual 76, 3) := by decide +kernel
theorem dX2_addByDays_187 : decode cX2_addByDays 187 = .ok (.aload_n 0, 1) := by decide +kernel
theorem dX2_addByDays_188 : decode cX2_addByDays 188 = .ok (.iload 5, 2) := by decide +kernel
theorem dX2_addByDays_190 : decode cX2_addByDays 190 = .ok (.bipush 14, 2) := by decide +kernel
theorem dX2_addByDays_192 : decode cX2_addByDays 192 = .ok (.iadd, 1) := by decide +kernel
theorem dX2_addByDays_193 : decode cX2_addByDays 193 = .ok (.iload_n 2, 1) := by decide +kernel
theorem dX2_addByDays_194 : decode cX2_addByDays 194 = .ok (.iadd, 1) := by decide +kernel
theorem dX2_addByDays_195 : decode cX2_addByDays 195 = .ok (.iconst 2, 1) := by decide +kernel
theorem dX2_addByDays_196 : decode cX2_addByDays 196 = .ok (.invokevirtual 76, 3) := by decide +kernel
theorem dX2_addByDays_199 : decode cX2_addByDays 199 = .ok (.goto 3, 3) := by decide +kernel
theorem dX2_addByDays_202 : decode cX2_addByDays 202 = .ok (.return_, 1) := by decide +kernel
theorem dX2_addByMonths_0 : decode cX2_addByMonths 0 = .ok (.iload_n 1, 1) := by decide +kernel
theorem dX2_addByMonths_1 : decode cX2_addByMonths 1 = .ok (.tableswitch 91 7 10 #[31, 41, 52, 69], 31) := by decide +kernel
theorem dX2_addByMonths_32 : decode cX2_addByMonths 32 = .ok (.aload_n 0, 1) := by decide +kernel
theorem dX2_addByMonths_33 : decode cX2_addByMonths 33 = .ok (.iload_n 2, 1) := by decide +kernel
theorem dX2_addByMonths_34 : decode cX2_addByMonths 34 = .ok (.iload 5, 2) := by decide +kernel
theorem dX2_addByMonths_36 : decode cX2_addByMonths 36 = .ok (.invokevirtual 79, 3) := by decide +kernel
theorem dX2_addByMonths_39 : decode cX2_addByMonths 39 = .ok (.goto 53, 3) := by decide +kernel
theorem dX2_addByMonths_42 : decode cX2_addByMonths 42 = .ok (.aload_n 0, 1) := by decide +kernel
theorem dX2_addByMonths_43 : decode cX2_addByMonths 43 = .ok (.iload_n 2, 1) := by decide +kernel
theorem dX2_addByMonths_44 : decode cX2_addByMonths 44 = .ok (.iload_n 3, 1) := by decide +kernel
theorem dX2_addByMonths_45 : decode cX2_addByMonths 45 = .ok (.iload 5, 2) := by decide +kernel
theorem dX2_addByMonths_47 : decode cX2_addByMonths 47 = .ok (.invokevirtual 82, 3) := by decide +kernel
theorem dX2_addByMonths_50 : decode cX2_addByMonths 50 = .ok (.goto 42, 3) := by decide +kernel
theorem dX2_addByMonths_53 : decode cX2_addByMonths 53 = .ok (.aload_n 0, 1) := by decide +kernel
theorem dX2_addByMonths_54 : decode cX2_addByMonths 54 = .ok (.iload 4, 2) := by decide +kernel
theorem dX2_addByMonths_56 : decode cX2_addByMonths 56 = .ok (.iload_n 2, 1) := by decide +kernel
theorem dX2_addByMonths_57 : decode cX2_addByMonths 57 = .ok (.iconst 1, 1) := by decide +kernel
theorem dX2_addByMonths_58 : decode cX2_addByMonths 58 = .ok (.iadd, 1) := by decide +kernel
theorem dX2_addByMonths_59 : decode cX2_addByMonths 59 = .ok (.iload_n 3, 1) := by decide +kernel
theorem dX2_addByMonths_60 : decode cX2_addByMonths 60 = .ok (.invokestatic 85, 3) := by decide +kernel
theorem dX2_addByMonths_63 : decode cX2_addByMonths 63 = .ok (.iconst 3, 1) := by decide +kernel
theorem dX2_addByMonths_64 : decode cX2_addByMonths 64 = .ok (.invokevirtual 76, 3) := by decide +kernel
theorem dX2_addByMonths_67 : decode cX2_addByMonths 67 = .ok (.goto 25, 3) := by decide +kernel
theorem dX2_addByMonths_70 : decode cX2_addByMonths 70 = .ok (.aload_n 0, 1) := by decide +kernel
theorem dX2_addByMonths_71 : decode cX2_addByMonths 71 = .ok (.getfield 18, 3) := by decide +kernel
theorem dX2_addByMonths_74 : decode cX2_addByMonths 74 = .ok (.iload_n 2, 1) := by decide +kernel
theorem dX2_addByMonths_75 : decode cX2_addByMonths 75 = .ok (.sipush 2000, 3) := by decide +kernel
theorem dX2_addByMonths_78 : decode cX2_addByMonths 78 = .ok (.isub, 1) := by decide +kernel
theorem dX2_addByMonths_79 : decode cX2_addByMonths 79 = .ok (.bipush 12, 2) := by decide +kernel
theorem dX2_addByMonths_81 : decode cX2_addByMonths 81 = .ok (.imul, 1) := by decide +kernel
theorem dX2_addByMonths_82 : decode cX2_addByMonths 82 = .ok (.bipush 12, 2) := by decide +kernel
theorem dX2_addByMonths_84 : decode cX2_addByMonths 84 = .ok (.iconst 3, 1) := by decide +kernel
theorem dX2_addByMonths_85 : decode cX2_addByMonths 85 = .ok (.iconst 3, 1) := by decide +kernel
theorem dX2_addByMonths_86 : decode cX2_addByMonths 86 = .ok (.invokevirtual 89, 3) := by decide +kernel
theorem dX2_addByMonths_89 : decode cX2_addByMonths 89 = .ok (.goto 3, 3) := by decide +kernel
theorem dX2_addByMonths_92 : decode cX2_addByMonths 92 = .ok (.return_, 1) := by decide +kernel
theorem dX2_addDay_0 : decode cX2_addDay 0 = .ok (.aload_n 0, 1) := by decide +kernel
theorem dX2_addDay_1 : decode cX2_addDay 1 = .ok (.getfield 18, 3) := by decide +kernel
theorem dX2_addDay_4 : decode cX2_addDay 4 = .ok (.iload_n 1, 1) := by decide +kernel
theorem dX2_addDay_5 : decode cX2_addDay 5 = .ok (.iload_n 1, 1) := by decide +kernel
theorem dX2_addDay_6 : decode cX2_addDay 6 = .ok (.iconst 0, 1) := by decide +kernel
theorem dX2_addDay_7 : decode cX2_addDay 7 = .ok (.iload_n 2, 1) := by decide +kernel
theorem dX2_addDay_8 : decode cX2_addDay 8 = .ok (.invokevirtual 92, 3) := by decide +kernel
theorem dX2_addDay_11 : decode cX2_addDay 11 = .ok (.return_, 1) := by decide +kernel
theorem dX2_addUnitAt_0 : decode cX2_addUnitAt 0 = .ok (.aload_n 0, 1) := by decide +kernel
theorem dX2_addUnitAt_1 : decode cX2_addUnitAt 1 = .ok (.getfield 18, 3) := by decide +kernel
theorem dX2_addUnitAt_4 : decode cX2_addUnitAt 4 = .ok (.iload_n 1, 1) := by decide +kernel
theorem dX2_addUnitAt_5 : decode cX2_addUnitAt 5 = .ok (.iload_n 3, 1) := by decide +kernel
theorem dX2_addUnitAt_6 : decode cX2_addUnitAt 6 = .ok (.iload_n 2, 1) := by decide +kernel
theorem dX2_addUnitAt_7 : decode cX2_addUnitAt 7 = .ok (.iconst 3, 1) := by decide +kernel
theorem dX2_addUnitAt_8 : decode cX2_addUnitAt 8 = .ok (.invokevirtual 95, 3) := by decide +kernel
theorem dX2_addUnitAt_11 : decode cX2_addUnitAt 11 = .ok (.iload_n 1, 1) := by decide +kernel
theorem dX2_addUnitAt_12 : decode cX2_addUnitAt 12 = .ok (.iconst 1, 1) := by decide +kernel
theorem dX2_addUnitAt_13 : decode cX2_addUnitAt 13 = .ok (.if_icmp .ne 26, 3) := by decide +kernel
theorem dX2_addUnitAt_16 : decode cX2_addUnitAt 16 = .ok (.iload_n 2, 1) := by decide +kernel
theorem dX2_addUnitAt_17 : decode cX2_addUnitAt 17 = .ok (.ifCond .le 22, 3) := by decide +kernel
theorem dX2_addUnitAt_20 : decode cX2_addUnitAt 20 = .ok (.aload_n 0, 1) := by decide +kernel
theorem dX2_addUnitAt_21 : decode cX2_addUnitAt 21 = .ok (.getfield 18, 3) := by decide +kernel
theorem dX2_addUnitAt_24 : decode cX2_addUnitAt 24 = .ok (.iload_n 3, 1) := by decide +kernel
theorem dX2_addUnitAt_25 : decode cX2_addUnitAt 25 = .ok (.iconst 1, 1) := by decide +kernel
theorem dX2_addUnitAt_26 : decode cX2_addUnitAt 26 = .ok (.iadd, 1) := by decide +kernel
theorem dX2_addUnitAt_27 : decode cX2_addUnitAt 27 = .ok (.iload_n 3, 1) := by decide +kernel
theorem dX2_addUnitAt_28 : decode cX2_addUnitAt 28 = .ok (.bipush 7, 2) := by decide +kernel
theorem dX2_addUnitAt_30 : decode cX2_addUnitAt 30 = .ok (.iadd, 1) := by decide +kernel
theorem dX2_addUnitAt_31 : decode cX2_addUnitAt 31 = .ok (.iconst 1, 1) := by decide +kernel
theorem dX2_addUnitAt_32 : decode cX2_addUnitAt 32 = .ok (.iconst 1, 1) := by decide +kernel
theorem dX2_addUnitAt_33 : decode cX2_addUnitAt 33 = .ok (.invokevirtual 92, 3) := by decide +kernel
theorem dX2_addUnitAt_36 : decode cX2_addUnitAt 36 = .ok (.goto 28, 3) := by decide +kernel
theorem dX2_addUnitAt_39 : decode cX2_addUnitAt 39 = .ok (.iload_n 1, 1) := by decide +kernel
theorem dX2_addUnitAt_40 : decode cX2_addUnitAt 40 = .ok (.iconst 1, 1) := by decide +kernel
theorem dX2_addUnitAt_41 : decode cX2_addUnitAt 41 = .ok (.if_icmp .ne 23, 3) := by decide +kernel
theorem dX2_addUnitAt_44 : decode cX2_addUnitAt 44 = .ok (.iload_n 2, 1) := by decide +kernel
theorem dX2_addUnitAt_45 : decode cX2_addUnitAt 45 = .ok (.ifCond .ge 19, 3) := by decide +kernel
theorem dX2_addUnitAt_48 : decode cX2_addUnitAt 48 = .ok (.aload_n 0, 1) := by decide +kernel
theorem dX2_addUnitAt_49 : decode cX2_addUnitAt 49 = .ok (.getfield 18, 3) := by decide +kernel
theorem dX2_addUnitAt_52 : decode cX2_addUnitAt 52 = .ok (.iload_n 3, 1) := by decide +kernel
theorem dX2_addUnitAt_53 : decode cX2_addUnitAt 53 = .ok (.bipush 7, 2) := by decide +kernel
theorem dX2_addUnitAt_55 : decode cX2_addUnitAt 55 = .ok (.isub, 1) := by decide +kernel
theorem dX2_addUnitAt_56 : decode cX2_addUnitAt 56 = .ok (.iload_n 3, 1) := by decide +kernel
theorem dX2_addUnitAt_57 : decode cX2_addUnitAt 57 = .ok (.iconst 1, 1) := by decide +kernel
theorem dX2_addUnitAt_58 : decode cX2_addUnitAt 58 = .ok (.isub, 1) := by decide +kernel
theorem dX2_addUnitAt_59 : decode cX2_addUnitAt 59 = .ok (.iconst 1, 1) := by decide +kernel
theorem dX2_addUnitAt_60 : decode cX2_addUnitAt 60 = .ok (.iconst 1, 1) := by decide +kernel
theorem dX2_addUnitAt_61 : decode cX2_addUnitAt 61 = .ok (.invokevirtual 92, 3) := by decide +kernel
theorem dX2_addUnitAt_64 : decode cX2_addUnitAt 64 = .ok (.return_, 1) := by decide +kernel
theorem dX2_addMoved_0 : decode cX2_addMoved 0 = .ok (.iload_n 3, 1) := by decide +kernel
theorem dX2_addMoved_1 : decode cX2_addMoved 1 = .ok (.iload_n 1, 1) := by decide +kernel
theorem dX2_addMoved_2 : decode cX2_addMoved 2 = .ok (.iload_n 2, 1) := by decide +kernel
theorem dX2_addMoved_3 : decode cX2_addMoved 3 = .ok (.invokestatic 98, 3) := by decide +kernel
theorem dX2_addMoved_6 : decode cX2_addMoved 6 = .ok (.istore 4, 2) := by decide +kernel
theorem dX2_addMoved_8 : decode cX2_addMoved 8 = .ok (.iload 4, 2) := by decide +kernel
theorem dX2_addMoved_10 : decode cX2_addMoved 10 = .ok (.iconst (-1), 1) := by decide +kernel
theorem dX2_addMoved_11 : decode cX2_addMoved 11 = .ok (.if_icmp .ne 4, 3) := by decide +kernel
theorem dX2_addMoved_14 : decode cX2_addMoved 14 = .ok (.return_, 1) := by decide +kernel
theorem dX2_addMoved_15 : decode cX2_addMoved 15 = .ok (.aload_n 0, 1) := by decide +kernel
theorem dX2_addMoved_16 : decode cX2_addMoved 16 = .ok (.iload 4, 2) := by decide +kernel
theorem dX2_addMoved_18 : decode cX2_addMoved 18 = .ok (.iconst 3, 1) := by decide +kernel
theorem dX2_addMoved_19 : decode cX2_addMoved 19 = .ok (.invokevirtual 76, 3) := by decide +kernel
theorem dX2_addMoved_22 : decode cX2_addMoved 22 = .ok (.iload_n 1, 1) := by decide +kernel
theorem dX2_addMoved_23 : decode cX2_addMoved 23 = .ok (.ifCond .eq 15, 3) := by decide +kernel
theorem dX2_addMoved_26 : decode cX2_addMoved 26 = .ok (.aload_n 0, 1) := by decide +kernel
theorem dX2_addMoved_27 : decode cX2_addMoved 27 = .ok (.getfield 18, 3) := by decide +kernel
theorem dX2_addMoved_30 : decode cX2_addMoved 30 = .ok (.iload_n 1, 1) := by decide +kernel
theorem dX2_addMoved_31 : decode cX2_addMoved 31 = .ok (.iload 4, 2) := by decide +kernel
theorem dX2_addMoved_33 : decode cX2_addMoved 33 = .ok (.iconst 0, 1) := by decide +kernel
theorem dX2_addMoved_34 : decode cX2_addMoved 34 = .ok (.iconst 1, 1) := by decide +kernel
theorem dX2_addMoved_35 : decode cX2_addMoved 35 = .ok (.invokevirtual 95, 3) := by decide +kernel
theorem dX2_addMoved_38 : decode cX2_addMoved 38 = .ok (.return_, 1) := by decide +kernel
theorem dX2_addMonthName_0 : decode cX2_addMonthName 0 = .ok (.iload_n 2, 1) := by decide +kernel
theorem dX2_addMonthName_1 : decode cX2_addMonthName 1 = .ok (.invokestatic 101, 3) := by decide +kernel
theorem dX2_addMonthName_4 : decode cX2_addMonthName 4 = .ok (.bipush 12, 2) := by decide +kernel
theorem dX2_addMonthName_6 : decode cX2_addMonthName 6 = .ok (.imul, 1) := by decide +kernel
theorem dX2_addMonthName_7 : decode cX2_addMonthName 7 = .ok (.iload_n 1, 1) := by decide +kernel
theorem dX2_addMonthName_8 : decode cX2_addMonthName 8 = .ok (.iadd, 1) := by decide +kernel
theorem dX2_addMonthName_9 : decode cX2_addMonthName 9 = .ok (.istore_n 3, 1) := by decide +kernel
theorem dX2_addMonthName_10 : decode cX2_addMonthName 10 = .ok (.iload_n 3, 1) := by decide +kernel
theorem dX2_addMonthName_11 : decode cX2_addMonthName 11 = .ok (.iconst 1, 1) := by decide +kernel
theorem dX2_addMonthName_12 : decode cX2_addMonthName 12 = .ok (.iadd, 1) := by decide +kernel
theorem dX2_addMonthName_13 : decode cX2_addMonthName 13 = .ok (.invokestatic 104, 3) := by decide +kernel
theorem dX2_addMonthName_16 : decode cX2_addMonthName 16 = .ok (.iload_n 2, 1) := by decide +kernel
theorem dX2_addMonthName_17 : decode cX2_addMonthName 17 = .ok (.if_icmp .gt 7, 3) := by decide +kernel
theorem dX2_addMonthName_20 : decode cX2_addMonthName 20 = .ok (.iconst 1, 1) := by decide +kernel
theorem dX2_addMonthName_21 : decode cX2_addMonthName 21 = .ok (.goto 4, 3) := by decide +kernel
theorem dX2_addMonthName_24 : decode cX2_addMonthName 24 = .ok (.iconst 0, 1) := by decide +kernel
theorem dX2_addMonthName_25 : decode cX2_addMonthName 25 = .ok (.istore 4, 2) := by decide +kernel
theorem dX2_addMonthName_27 : decode cX2_addMonthName 27 = .ok (.iload_n 3, 1) := by decide +kernel
theorem dX2_addMonthName_28 : decode cX2_addMonthName 28 = .ok (.invokestatic 104, 3) := by decide +kernel
theorem dX2_addMonthName_31 : decode cX2_addMonthName 31 = .ok (.iload_n 2, 1) := by decide +kernel
theorem dX2_addMonthName_32 : decode cX2_addMonthName 32 = .ok (.if_icmp .ge 7, 3) := by decide +kernel
theorem dX2_addMonthName_35 : decode cX2_addMonthName 35 = .ok (.iconst 1, 1) := by decide +kernel
theorem dX2_addMonthName_36 : decode cX2_addMonthName 36 = .ok (.goto 4, 3) := by decide +kernel
theorem dX2_addMonthName_39 : decode cX2_addMonthName 39 = .ok (.iconst 0, 1) := by decide +kernel
theorem dX2_addMonthName_40 : decode cX2_addMonthName 40 = .ok (.istore 5, 2) := by decide +kernel
theorem dX2_addMonthName_42 : decode cX2_addMonthName 42 = .ok (.aload_n 0, 1) := by decide +kernel
theorem dX2_addMonthName_43 : decode cX2_addMonthName 43 = .ok (.getfield 18, 3) := by decide +kernel
theorem dX2_addMonthName_46 : decode cX2_addMonthName 46 = .ok (.iload_n 3, 1) := by decide +kernel
theorem dX2_addMonthName_47 : decode cX2_addMonthName 47 = .ok (.bipush 12, 2) := by decide +kernel
theorem dX2_addMonthName_49 : decode cX2_addMonthName 49 = .ok (.iload 4, 2) := by decide +kernel
theorem dX2_addMonthName_51 : decode cX2_addMonthName 51 = .ok (.imul, 1) := by decide +kernel
theorem dX2_addMonthName_52 : decode cX2_addMonthName 52 = .ok (.iadd, 1) := by decide +kernel
theorem dX2_addMonthName_53 : decode cX2_addMonthName 53 = .ok (.iconst 1, 1) := by decide +kernel
theorem dX2_addMonthName_54 : decode cX2_addMonthName 54 = .ok (.iconst 2, 1) := by decide +kernel
theorem dX2_addMonthName_55 : decode cX2_addMonthName 55 = .ok (.iconst 3, 1) := by decide +kernel
theorem dX2_addMonthName_56 : decode cX2_addMonthName 56 = .ok (.invokevirtual 89, 3) := by decide +kernel
theorem dX2_addMonthName_59 : decode cX2_addMonthName 59 = .ok (.aload_n 0, 1) := by decide +kernel
theorem dX2_addMonthName_60 : decode cX2_addMonthName 60 = .ok (.getfield 18, 3) := by decide +kernel
theorem dX2_addMonthName_63 : decode cX2_addMonthName 63 = .ok (.iload_n 3, 1) := by decide +kernel
theorem dX2_addMonthName_64 : decode cX2_addMonthName 64 = .ok (.bipush 12, 2) := by decide +kernel
theorem dX2_addMonthName_66 : decode cX2_addMonthName 66 = .ok (.iconst 1, 1) := by decide +kernel
theorem dX2_addMonthName_67 : decode cX2_addMonthName 67 = .ok (.iload 5, 2) := by decide +kernel
theorem dX2_addMonthName_69 : decode cX2_addMonthName 69 = .ok (.isub, 1) := by decide +kernel
theorem dX2_addMonthName_70 : decode cX2_addMonthName 70 = .ok (.imul, 1) := by decide +kernel
theorem dX2_addMonthName_71 : decode cX2_addMonthName 71 = .ok (.isub, 1) := by decide +kernel
theorem dX2_addMonthName_72 : decode cX2_addMonthName 72 = .ok (.iconst 1, 1) := by decide +kernel
theorem dX2_addMonthName_73 : decode cX2_addMonthName 73 = .ok (.iconst 2, 1) := by decide +kernel
theorem dX2_addMonthName_74 : decode cX2_addMonthName 74 = .ok (.iconst 2, 1) := by decide +kernel
theorem dX2_addMonthName_75 : decode cX2_addMonthName 75 = .ok (.invokevirtual 89, 3) := by decide +kernel
theorem dX2_addMonthName_78 : decode cX2_addMonthName 78 = .ok (.return_, 1) := by decide +kernel
theorem dX2_addMonthAndN_0 : decode cX2_addMonthAndN 0 = .ok (.iconst (-1), 1) := by decide +kernel
theorem dX2_addMonthAndN_1 : decode cX2_addMonthAndN 1 = .ok (.istore 4, 2) := by decide +kernel
theorem dX2_addMonthAndN_3 : decode cX2_addMonthAndN 3 = .ok (.iconst (-1), 1) := by decide +kernel
theorem dX2_addMonthAndN_4 : decode cX2_addMonthAndN 4 = .ok (.istore 5, 2) := by decide +kernel
theorem dX2_addMonthAndN_6 : decode cX2_addMonthAndN 6 = .ok (.iload_n 1, 1) := by decide +kernel
theorem dX2_addMonthAndN_7 : decode cX2_addMonthAndN 7 = .ok (.istore 6, 2) := by decide +kernel
theorem dX2_addMonthAndN_9 : decode cX2_addMonthAndN 9 = .ok (.iload 6, 2) := by decide +kernel
theorem dX2_addMonthAndN_11 : decode cX2_addMonthAndN 11 = .ok (.sipush 336, 3) := by decide +kernel
theorem dX2_addMonthAndN_14 : decode cX2_addMonthAndN 14 = .ok (.if_icmp .ge 49, 3) := by decide +kernel
theorem dX2_addMonthAndN_17 : decode cX2_addMonthAndN 17 = .ok (.iload 6, 2) := by decide +kernel
theorem dX2_addMonthAndN_19 : decode cX2_addMonthAndN 19 = .ok (.iload_n 2, 1) := by decide +kernel
theorem dX2_addMonthAndN_20 : decode cX2_addMonthAndN 20 = .ok (.invokestatic 107, 3) := by decide +kernel
theorem dX2_addMonthAndN_23 : decode cX2_addMonthAndN 23 = .ok (.istore 7, 2) := by decide +kernel
theorem dX2_addMonthAndN_25 : decode cX2_addMonthAndN 25 = .ok (.iload 7, 2) := by decide +kernel
theorem dX2_addMonthAndN_27 : decode cX2_addMonthAndN 27 = .ok (.iconst (-1), 1) := by decide +kernel
theorem dX2_addMonthAndN_28 : decode cX2_addMonthAndN 28 = .ok (.if_icmp .ne 6, 3) := by decide +kernel
theorem dX2_addMonthAndN_31 : decode cX2_addMonthAndN 31 = .ok (.goto 26, 3) := by decide +kernel
theorem dX2_addMonthAndN_34 : decode cX2_addMonthAndN 34 = .ok (.iload 7, 2) := by decide +kernel
theorem dX2_addMonthAndN_36 : decode cX2_addMonthAndN 36 = .ok (.iload_n 3, 1) := by decide +kernel
theorem dX2_addMonthAndN_37 : decode cX2_addMonthAndN 37 = .ok (.if_icmp .ge 10, 3) := by decide +kernel
theorem dX2_addMonthAndN_40 : decode cX2_addMonthAndN 40 = .ok (.iload 7, 2) := by decide +kernel
theorem dX2_addMonthAndN_42 : decode cX2_addMonthAndN 42 = .ok (.istore 5, 2) := by decide +kernel
theorem dX2_addMonthAndN_44 : decode cX2_addMonthAndN 44 = .ok (.goto 13, 3) := by decide +kernel
theorem dX2_addMonthAndN_47 : decode cX2_addMonthAndN 47 = .ok (.iload 4, 2) := by decide +kernel
theorem dX2_addMonthAndN_49 : decode cX2_addMonthAndN 49 = .ok (.iconst (-1), 1) := by decide +kernel
theorem dX2_addMonthAndN_50 : decode cX2_addMonthAndN 50 = .ok (.if_icmp .ne 7, 3) := by decide +kernel
theorem dX2_addMonthAndN_53 : decode cX2_addMonthAndN 53 = .ok (.iload 7, 2) := by decide +kernel
theorem dX2_addMonthAndN_55 : decode cX2_addMonthAndN 55 = .ok (.istore 4, 2) := by decide +kernel
theorem dX2_addMonthAndN_57 : decode cX2_addMonthAndN 57 = .ok (.iinc 6 12, 3) := by decide +kernel
theorem dX2_addMonthAndN_60 : decode cX2_addMonthAndN 60 = .ok (.goto (-51), 3) := by decide +kernel
theorem dX2_addMonthAndN_63 : decode cX2_addMonthAndN 63 = .ok (.aload_n 0, 1) := by decide +kernel
theorem dX2_addMonthAndN_64 : decode cX2_addMonthAndN 64 = .ok (.iload 4, 2) := by decide +kernel
theorem dX2_addMonthAndN_66 : decode cX2_addMonthAndN 66 = .ok (.iconst 3, 1) := by decide +kernel
theorem dX2_addMonthAndN_67 : decode cX2_addMonthAndN 67 = .ok (.invokevirtual 76, 3) := by decide +kernel
theorem dX2_addMonthAndN_70 : decode cX2_addMonthAndN 70 = .ok (.aload_n 0, 1) := by decide +kernel
theorem dX2_addMonthAndN_71 : decode cX2_addMonthAndN 71 = .ok (.iload 5, 2) := by decide +kernel
theorem dX2_addMonthAndN_73 : decode cX2_addMonthAndN 73 = .ok (.iconst 2, 1) := by decide +kernel
theorem dX2_addMonthAndN_74 : decode cX2_addMonthAndN 74 = .ok (.invokevirtual 76, 3) := by decide +kernel
theorem dX2_addMonthAndN_77 : decode cX2_addMonthAndN 77 = .ok (.return_, 1) := by decide +kernel
theorem dX2_change_0 : decode cX2_change 0 = .ok (.aload_n 0, 1) := by decide +kernel
theorem dX2_change_1 : decode cX2_change 1 = .ok (.getfield 24, 3) := by decide +kernel
theorem dX2_change_4 : decode cX2_change 4 = .ok (.invokevirtual 27, 3) := by decide +kernel
theorem dX2_change_7 : decode cX2_change 7 = .ok (.iconst 0, 1) := by decide +kernel
theorem dX2_change_8 : decode cX2_change 8 = .ok (.istore 4, 2) := by decide +kernel
theorem dX2_change_10 : decode cX2_change 10 = .ok (.iload 4, 2) := by decide +kernel
theorem dX2_change_12 : decode cX2_change 12 = .ok (.aload_n 0, 1) := by decide +kernel
theorem dX2_change_13 : decode cX2_change 13 = .ok (.getfield 18, 3) := by decide +kernel
theorem dX2_change_16 : decode cX2_change 16 = .ok (.getfield 34, 3) := by decide +kernel
theorem dX2_change_19 : decode cX2_change 19 = .ok (.if_icmp .ge 178, 3) := by decide +kernel
theorem dX2_change_22 : decode cX2_change 22 = .ok (.aload_n 0, 1) := by decide +kernel
theorem dX2_change_23 : decode cX2_change 23 = .ok (.getfield 18, 3) := by decide +kernel
theorem dX2_change_26 : decode cX2_change 26 = .ok (.iload 4, 2) := by decide +kernel
theorem dX2_change_28 : decode cX2_change 28 = .ok (.iconst 0, 1) := by decide +kernel
theorem dX2_change_29 : decode cX2_change 29 = .ok (.invokevirtual 110, 3) := by decide +kernel
theorem dX2_change_32 : decode cX2_change 32 = .ok (.istore 5, 2) := by decide +kernel
theorem dX2_change_34 : decode cX2_change 34 = .ok (.aload_n 0, 1) := by decide +kernel
theorem dX2_change_35 : decode cX2_change 35 = .ok (.getfield 18, 3) := by decide +kernel
theorem dX2_change_38 : decode cX2_change 38 = .ok (.iload 4, 2) := by decide +kernel
theorem dX2_change_40 : decode cX2_change 40 = .ok (.iconst 1, 1) := by decide +kernel
theorem dX2_change_41 : decode cX2_change 41 = .ok (.invokevirtual 110, 3) := by decide +kernel
theorem dX2_change_44 : decode cX2_change 44 = .ok (.istore 6, 2) := by decide +kernel
theorem dX2_change_46 : decode cX2_change 46 = .ok (.aload_n 0, 1) := by decide +kernel
theorem dX2_change_47 : decode cX2_change 47 = .ok (.getfield 18, 3) := by decide +kernel
theorem dX2_change_50 : decode cX2_change 50 = .ok (.iload 4, 2) := by decide +kernel
theorem dX2_change_52 : decode cX2_change 52 = .ok (.iconst 3, 1) := by decide +kernel
theorem dX2_change_53 : decode cX2_change 53 = .ok (.invokevirtual 110, 3) := by decide +kernel
theorem dX2_change_56 : decode cX2_change 56 = .ok (.istore 7, 2) := by decide +kernel
theorem dX2_change_58 : decode cX2_change 58 = .ok (.iload_n 1, 1) := by decide +kernel
theorem dX2_change_59 : decode cX2_change 59 = .ok (.bipush 11, 2) := by decide +kernel
theorem dX2_change_61 : decode cX2_change 61 = .ok (.if_icmp .eq 9, 3) := by decide +kernel
theorem dX2_change_64 : decode cX2_change 64 = .ok (.iload_n 1, 1) := by decide +kernel
theorem dX2_change_65 : decode cX2_change 65 = .ok (.bipush 12, 2) := by decide +kernel
theorem dX2_change_67 : decode cX2_change 67 = .ok (.if_icmp .ne 46, 3) := by decide +kernel
theorem dX2_change_70 : decode cX2_change 70 = .ok (.iload_n 1, 1) := by decide +kernel
theorem dX2_change_71 : decode cX2_change 71 = .ok (.bipush 11, 2) := by decide +kernel
theorem dX2_change_73 : decode cX2_change 73 = .ok (.if_icmp .ne 13, 3) := by decide +kernel
theorem dX2_change_76 : decode cX2_change 76 = .ok (.iload 6, 2) := by decide +kernel
theorem dX2_change_78 : decode cX2_change 78 = .ok (.iload_n 2, 1) := by decide +kernel
theorem dX2_change_79 : decode cX2_change 79 = .ok (.iload_n 3, 1) := by decide +kernel
theorem dX2_change_80 : decode cX2_change 80 = .ok (.invokestatic 98, 3) := by decide +kernel
theorem dX2_change_83 : decode cX2_change 83 = .ok (.goto 11, 3) := by decide +kernel
theorem dX2_change_86 : decode cX2_change 86 = .ok (.iload 5, 2) := by decide +kernel
theorem dX2_change_88 : decode cX2_change 88 = .ok (.iload_n 2, 1) := by decide +kernel
theorem dX2_change_89 : decode cX2_change 89 = .ok (.iload_n 3, 1) := by decide +kernel
theorem dX2_change_90 : decode cX2_change 90 = .ok (.ineg, 1) := by decide +kernel
theorem dX2_change_91 : decode cX2_change 91 = .ok (.invokestatic 98, 3) := by decide +kernel
theorem dX2_change_94 : decode cX2_change 94 = .ok (.istore 8, 2) := by decide +kernel
theorem dX2_change_96 : decode cX2_change 96 = .ok (.aload_n 0, 1) := by decide +kernel
theorem dX2_change_97 : decode cX2_change 97 = .ok (.getfield 24, 3) := by decide +kernel
theorem dX2_change_100 : decode cX2_change 100 = .ok (.iload 8, 2) := by decide +kernel
theorem dX2_change_102 : decode cX2_change 102 = .ok (.iload 8, 2) := by decide +kernel
theorem dX2_change_104 : decode cX2_change 104 = .ok (.iconst 0, 1) := by decide +kernel
theorem dX2_change_105 : decode cX2_change 105 = .ok (.iload 7, 2) := by decide +kernel
theorem dX2_change_107 : decode cX2_change 107 = .ok (.invokevirtual 92, 3) := by decide +kernel
theorem dX2_change_110 : decode cX2_change 110 = .ok (.goto 81, 3) := by decide +kernel
theorem dX2_change_113 : decode cX2_change 113 = .ok (.iload_n 1, 1) := by decide +kernel
theorem dX2_change_114 : decode cX2_change 114 = .ok (.bipush 16, 2) := by decide +kernel
theorem dX2_change_116 : decode cX2_change 116 = .ok (.if_icmp .eq 9, 3) := by decide +kernel
theorem dX2_change_119 : decode cX2_change 119 = .ok (.iload_n 1, 1) := by decide +kernel
theorem dX2_change_120 : decode cX2_change 120 = .ok (.bipush 17, 2) := by decide +kernel
theorem dX2_change_122 : decode cX2_change 122 = .ok (.if_icmp .ne 62, 3) := by decide +kernel
theorem dX2_change_125 : decode cX2_change 125 = .ok (.iload_n 1, 1) := by decide +kernel
theorem dX2_change_126 : decode cX2_change 126 = .ok (.bipush 16, 2) := by decide +kernel
theorem dX2_change_128 : decode cX2_change 128 = .ok (.if_icmp .ne 12, 3) := by decide +kernel
theorem dX2_change_131 : decode cX2_change 131 = .ok (.iload_n 2, 1) := by decide +kernel
theorem dX2_change_132 : decode cX2_change 132 = .ok (.iload 5, 2) := by decide +kernel
theorem dX2_change_134 : decode cX2_change 134 = .ok (.invokestatic 73, 3) := by decide +kernel
theorem dX2_change_137 : decode cX2_change 137 = .ok (.goto 14, 3) := by decide +kernel
theorem dX2_change_140 : decode cX2_change 140 = .ok (.iload_n 2, 1) := by decide +kernel
theorem dX2_change_141 : decode cX2_change 141 = .ok (.iload 6, 2) := by decide +kernel
theorem dX2_change_143 : decode cX2_change 143 = .ok (.iconst 1, 1) := by decide +kernel
theorem dX2_change_144 : decode cX2_change 144 = .ok (.iadd, 1) := by decide +kernel
theorem dX2_change_145 : decode cX2_change 145 = .ok (.invokestatic 73, 3) := by decide +kernel
theorem dX2_change_148 : decode cX2_change 148 = .ok (.bipush 7, 2) := by decide +kernel
theorem dX2_change_150 : decode cX2_change 150 = .ok (.isub, 1) := by decide +kernel
theorem dX2_change_151 : decode cX2_change 151 = .ok (.istore 8, 2) := by decide +kernel
theorem dX2_change_153 : decode cX2_change 153 = .ok (.iload 8, 2) := by decide +kernel
theorem dX2_change_155 : decode cX2_change 155 = .ok (.iload 5, 2) := by decide +kernel
theorem dX2_change_157 : decode cX2_change 157 = .ok (.if_icmp .lt 24, 3) := by decide +kernel
theorem dX2_change_160 : decode cX2_change 160 = .ok (.iload 8, 2) := by decide +kernel
theorem dX2_change_162 : decode cX2_change 162 = .ok (.iload 6, 2) := by decide +kernel
theorem dX2_change_164 : decode cX2_change 164 = .ok (.if_icmp .gt 17, 3) := by decide +kernel
theorem dX2_change_167 : decode cX2_change 167 = .ok (.aload_n 0, 1) := by decide +kernel
theorem dX2_change_168 : decode cX2_change 168 = .ok (.getfield 24, 3) := by decide +kernel
theorem dX2_change_171 : decode cX2_change 171 = .ok (.iload 8, 2) := by decide +kernel
theorem dX2_change_173 : decode cX2_change 173 = .ok (.iload 8, 2) := by decide +kernel
theorem dX2_change_175 : decode cX2_change 175 = .ok (.iconst 0, 1) := by decide +kernel
theorem dX2_change_176 : decode cX2_change 176 = .ok (.iload 7, 2) := by decide +kernel
theorem dX2_change_178 : decode cX2_change 178 = .ok (.invokevirtual 92, 3) := by decide +kernel
theorem dX2_change_181 : decode cX2_change 181 = .ok (.goto 10, 3) := by decide +kernel
theorem dX2_change_184 : decode cX2_change 184 = .ok (.aload_n 0, 1) := by decide +kernel
theorem dX2_change_185 : decode cX2_change 185 = .ok (.iload_n 1, 1) := by decide +kernel
theorem dX2_change_186 : decode cX2_change 186 = .ok (.iload 4, 2) := by decide +kernel
theorem dX2_change_188 : decode cX2_change 188 = .ok (.invokevirtual 113, 3) := by decide +kernel
theorem dX2_change_191 : decode cX2_change 191 = .ok (.iinc 4 1, 3) := by decide +kernel
theorem dX2_change_194 : decode cX2_change 194 = .ok (.goto (-184), 3) := by decide +kernel
theorem dX2_change_197 : decode cX2_change 197 = .ok (.aload_n 0, 1) := by decide +kernel
theorem dX2_change_198 : decode cX2_change 198 = .ok (.getfield 24, 3) := by decide +kernel
theorem dX2_change_201 : decode cX2_change 201 = .ok (.astore 4, 2) := by decide +kernel
theorem dX2_change_203 : decode cX2_change 203 = .ok (.aload_n 0, 1) := by decide +kernel
theorem dX2_change_204 : decode cX2_change 204 = .ok (.aload_n 0, 1) := by decide +kernel
theorem dX2_change_205 : decode cX2_change 205 = .ok (.getfield 18, 3) := by decide +kernel
theorem dX2_change_208 : decode cX2_change 208 = .ok (.putfield 24, 3) := by decide +kernel
theorem dX2_change_211 : decode cX2_change 211 = .ok (.aload_n 0, 1) := by decide +kernel
theorem dX2_change_212 : decode cX2_change 212 = .ok (.aload 4, 2) := by decide +kernel
theorem dX2_change_214 : decode cX2_change 214 = .ok (.putfield 18, 3) := by decide +kernel
theorem dX2_change_217 : decode cX2_change 217 = .ok (.return_, 1) := by decide +kernel
theorem dX2_addThird_0 : decode cX2_addThird 0 = .ok (.aload_n 0, 1) := by decide +kernel
theorem dX2_addThird_1 : decode cX2_addThird 1 = .ok (.getfield 18, 3) := by decide +kernel
theorem dX2_addThird_4 : decode cX2_addThird 4 = .ok (.iload_n 2, 1) := by decide +kernel
theorem dX2_addThird_5 : decode cX2_addThird 5 = .ok (.iconst 0, 1) := by decide +kernel
theorem dX2_addThird_6 : decode cX2_addThird 6 = .ok (.invokevirtual 110, 3) := by decide +kernel
theorem dX2_addThird_9 : decode cX2_addThird 9 = .ok (.istore_n 3, 1) := by decide +kernel
theorem dX2_addThird_10 : decode cX2_addThird 10 = .ok (.aload_n 0, 1) := by decide +kernel
theorem dX2_addThird_11 : decode cX2_addThird 11 = .ok (.getfield 18, 3) := by decide +kernel
theorem dX2_addThird_14 : decode cX2_addThird 14 = .ok (.iload_n 2, 1) := by decide +kernel
theorem dX2_addThird_15 : decode cX2_addThird 15 = .ok (.iconst 1, 1) := by decide +kernel
theorem dX2_addThird_16 : decode cX2_addThird 16 = .ok (.invokevirtual 110, 3) := by decide +kernel
theorem dX2_addThird_19 : decode cX2_addThird 19 = .ok (.istore 4, 2) := by decide +kernel
theorem dX2_addThird_21 : decode cX2_addThird 21 = .ok (.iload 4, 2) := by decide +kernel
theorem dX2_addThird_23 : decode cX2_addThird 23 = .ok (.iload_n 3, 1) := by decide +kernel
theorem dX2_addThird_24 : decode cX2_addThird 24 = .ok (.isub, 1) := by decide +kernel
theorem dX2_addThird_25 : decode cX2_addThird 25 = .ok (.iconst 1, 1) := by decide +kernel
theorem dX2_addThird_26 : decode cX2_addThird 26 = .ok (.iadd, 1) := by decide +kernel
theorem dX2_addThird_27 : decode cX2_addThird 27 = .ok (.iconst 3, 1) := by decide +kernel
theorem dX2_addThird_28 : decode cX2_addThird 28 = .ok (.idiv, 1) := by decide +kernel
theorem dX2_addThird_29 : decode cX2_addThird 29 = .ok (.istore 5, 2) := by decide +kernel
theorem dX2_addThird_31 : decode cX2_addThird 31 = .ok (.iload 5, 2) := by decide +kernel
theorem dX2_addThird_33 : decode cX2_addThird 33 = .ok (.ifCond .ne 4, 3) := by decide +kernel
theorem dX2_addThird_36 : decode cX2_addThird 36 = .ok (.return_, 1) := by decide +kernel
theorem dX2_addThird_37 : decode cX2_addThird 37 = .ok (.iload_n 1, 1) := by decide +kernel
theorem dX2_addThird_38 : decode cX2_addThird 38 = .ok (.bipush 13, 2) := by decide +kernel
theorem dX2_addThird_40 : decode cX2_addThird 40 = .ok (.if_icmp .ne 14, 3) := by decide +kernel
theorem dX2_addThird_43 : decode cX2_addThird 43 = .ok (.iload_n 3, 1) := by decide +kernel
theorem dX2_addThird_44 : decode cX2_addThird 44 = .ok (.iload 5, 2) := by decide +kernel
theorem dX2_addThird_46 : decode cX2_addThird 46 = .ok (.iadd, 1) := by decide +kernel
theorem dX2_addThird_47 : decode cX2_addThird 47 = .ok (.iconst 1, 1) := by decide +kernel
theorem dX2_addThird_48 : decode cX2_addThird 48 = .ok (.isub, 1) := by decide +kernel
theorem dX2_addThird_49 : decode cX2_addThird 49 = .ok (.istore 4, 2) := by decide +kernel
theorem dX2_addThird_51 : decode cX2_addThird 51 = .ok (.goto 32, 3) := by decide +kernel
theorem dX2_addThird_54 : decode cX2_addThird 54 = .ok (.iload_n 1, 1) := by decide +kernel
theorem dX2_addThird_55 : decode cX2_addThird 55 = .ok (.bipush 15, 2) := by decide +kernel
theorem dX2_addThird_57 : decode cX2_addThird 57 = .ok (.if_icmp .ne 14, 3) := by decide +kernel
theorem dX2_addThird_60 : decode cX2_addThird 60 = .ok (.iload 4, 2) := by decide +kernel
theorem dX2_addThird_62 : decode cX2_addThird 62 = .ok (.iload 5, 2) := by decide +kernel
theorem dX2_addThird_64 : decode cX2_addThird 64 = .ok (.isub, 1) := by decide +kernel
theorem dX2_addThird_65 : decode cX2_addThird 65 = .ok (.iconst 1, 1) := by decide +kernel
theorem dX2_addThird_66 : decode cX2_addThird 66 = .ok (.iadd, 1) := by decide +kernel
theorem dX2_addThird_67 : decode cX2_addThird 67 = .ok (.istore_n 3, 1) := by decide +kernel
theorem dX2_addThird_68 : decode cX2_addThird 68 = .ok (.goto 15, 3) := by decide +kernel
theorem dX2_addThird_71 : decode cX2_addThird 71 = .ok (.iload_n 3, 1) := by decide +kernel
theorem dX2_addThird_72 : decode cX2_addThird 72 = .ok (.iload 5, 2) := by decide +kernel
theorem dX2_addThird_74 : decode cX2_addThird 74 = .ok (.iadd, 1) := by decide +kernel
theorem dX2_addThird_75 : decode cX2_addThird 75 = .ok (.istore_n 3, 1) := by decide +kernel
theorem dX2_addThird_76 : decode cX2_addThird 76 = .ok (.iload 4, 2) := by decide +kernel
theorem dX2_addThird_78 : decode cX2_addThird 78 = .ok (.iload 5, 2) := by decide +kernel
theorem dX2_addThird_80 : decode cX2_addThird 80 = .ok (.isub, 1) := by decide +kernel
theorem dX2_addThird_81 : decode cX2_addThird 81 = .ok (.istore 4, 2) := by decide +kernel
theorem dX2_addThird_83 : decode cX2_addThird 83 = .ok (.aload_n 0, 1) := by decide +kernel
theorem dX2_addThird_84 : decode cX2_addThird 84 = .ok (.getfield 24, 3) := by decide +kernel
theorem dX2_addThird_87 : decode cX2_addThird 87 = .ok (.iload_n 3, 1) := by decide +kernel
theorem dX2_addThird_88 : decode cX2_addThird 88 = .ok (.iload 4, 2) := by decide +kernel
theorem dX2_addThird_90 : decode cX2_addThird 90 = .ok (.aload_n 0, 1) := by decide +kernel
theorem dX2_addThird_91 : decode cX2_addThird 91 = .ok (.getfield 18, 3) := by decide +kernel
theorem dX2_addThird_94 : decode cX2_addThird 94 = .ok (.iload_n 2, 1) := by decide +kernel
theorem dX2_addThird_95 : decode cX2_addThird 95 = .ok (.iconst 2, 1) := by decide +kernel
theorem dX2_addThird_96 : decode cX2_addThird 96 = .ok (.invokevirtual 110, 3) := by decide +kernel
theorem dX2_addThird_99 : decode cX2_addThird 99 = .ok (.aload_n 0, 1) := by decide +kernel
theorem dX2_addThird_100 : decode cX2_addThird 100 = .ok (.getfield 18, 3) := by decide +kernel
theorem dX2_addThird_103 : decode cX2_addThird 103 = .ok (.iload_n 2, 1) := by decide +kernel
theorem dX2_addThird_104 : decode cX2_addThird 104 = .ok (.iconst 3, 1) := by decide +kernel
theorem dX2_addThird_105 : decode cX2_addThird 105 = .ok (.invokevirtual 110, 3) := by decide +kernel
theorem dX2_addThird_108 : decode cX2_addThird 108 = .ok (.invokevirtual 92, 3) := by decide +kernel
theorem dX2_addThird_111 : decode cX2_addThird 111 = .ok (.return_, 1) := by decide +kernel
theorem dX2_close_0 : decode cX2_close 0 = .ok (.iload_n 1, 1) := by decide +kernel
theorem dX2_close_1 : decode cX2_close 1 = .ok (.bipush 18, 2) := by decide +kernel
theorem dX2_close_3 : decode cX2_close 3 = .ok (.if_icmp .ne 24, 3) := by decide +kernel
theorem dX2_close_6 : decode cX2_close 6 = .ok (.aload_n 0, 1) := by decide +kernel
theorem dX2_close_7 : decode cX2_close 7 = .ok (.getfield 18, 3) := by decide +kernel
theorem dX2_close_10 : decode cX2_close 10 = .ok (.astore_n 3, 1) := by decide +kernel
theorem dX2_close_11 : decode cX2_close 11 = .ok (.aload_n 0, 1) := by decide +kernel
theorem dX2_close_12 : decode cX2_close 12 = .ok (.aload_n 0, 1) := by decide +kernel
theorem dX2_close_13 : decode cX2_close 13 = .ok (.getfield 21, 3) := by decide +kernel
theorem dX2_close_16 : decode cX2_close 16 = .ok (.putfield 18, 3) := by decide +kernel
theorem dX2_close_19 : decode cX2_close 19 = .ok (.aload_n 0, 1) := by decide +kernel
theorem dX2_close_20 : decode cX2_close 20 = .ok (.aload_n 3, 1) := by decide +kernel
theorem dX2_close_21 : decode cX2_close 21 = .ok (.putfield 21, 3) := by decide +kernel
theorem dX2_close_24 : decode cX2_close 24 = .ok (.goto 87, 3) := by decide +kernel
theorem dX2_close_27 : decode cX2_close 27 = .ok (.iload_n 1, 1) := by decide +kernel
theorem dX2_close_28 : decode cX2_close 28 = .ok (.bipush 19, 2) := by decide +kernel
theorem dX2_close_30 : decode cX2_close 30 = .ok (.if_icmp .ne 11, 3) := by decide +kernel
theorem dX2_close_33 : decode cX2_close 33 = .ok (.aload_n 0, 1) := by decide +kernel
theorem dX2_close_34 : decode cX2_close 34 = .ok (.iload_n 2, 1) := by decide +kernel
theorem dX2_close_35 : decode cX2_close 35 = .ok (.invokevirtual 116, 3) := by decide +kernel
theorem dX2_close_38 : decode cX2_close 38 = .ok (.goto 73, 3) := by decide +kernel
theorem dX2_close_41 : decode cX2_close 41 = .ok (.iconst 0, 1) := by decide +kernel
theorem dX2_close_42 : decode cX2_close 42 = .ok (.istore_n 3, 1) := by decide +kernel
theorem dX2_close_43 : decode cX2_close 43 = .ok (.iload_n 3, 1) := by decide +kernel
theorem dX2_close_44 : decode cX2_close 44 = .ok (.aload_n 0, 1) := by decide +kernel
theorem dX2_close_45 : decode cX2_close 45 = .ok (.getfield 18, 3) := by decide +kernel
theorem dX2_close_48 : decode cX2_close 48 = .ok (.getfield 34, 3) := by decide +kernel
theorem dX2_close_51 : decode cX2_close 51 = .ok (.if_icmp .ge 60, 3) := by decide +kernel
theorem dX2_close_54 : decode cX2_close 54 = .ok (.aload_n 0, 1) := by decide +kernel
theorem dX2_close_55 : decode cX2_close 55 = .ok (.getfield 18, 3) := by decide +kernel
theorem dX2_close_58 : decode cX2_close 58 = .ok (.iload_n 3, 1) := by decide +kernel
theorem dX2_close_59 : decode cX2_close 59 = .ok (.iconst 3, 1) := by decide +kernel
theorem dX2_close_60 : decode cX2_close 60 = .ok (.invokevirtual 110, 3) := by decide +kernel
theorem dX2_close_63 : decode cX2_close 63 = .ok (.iload_n 2, 1) := by decide +kernel
theorem dX2_close_64 : decode cX2_close 64 = .ok (.invokestatic 120, 3) := by decide +kernel
theorem dX2_close_67 : decode cX2_close 67 = .ok (.istore 4, 2) := by decide +kernel
theorem dX2_close_69 : decode cX2_close 69 = .ok (.aload_n 0, 1) := by decide +kernel
theorem dX2_close_70 : decode cX2_close 70 = .ok (.getfield 12, 3) := by decide +kernel
theorem dX2_close_73 : decode cX2_close 73 = .ok (.aload_n 0, 1) := by decide +kernel
theorem dX2_close_74 : decode cX2_close 74 = .ok (.getfield 18, 3) := by decide +kernel
theorem dX2_close_77 : decode cX2_close 77 = .ok (.iload_n 3, 1) := by decide +kernel
theorem dX2_close_78 : decode cX2_close 78 = .ok (.iconst 0, 1) := by decide +kernel
theorem dX2_close_79 : decode cX2_close 79 = .ok (.invokevirtual 110, 3) := by decide +kernel
theorem dX2_close_82 : decode cX2_close 82 = .ok (.aload_n 0, 1) := by decide +kernel
theorem dX2_close_83 : decode cX2_close 83 = .ok (.getfield 18, 3) := by decide +kernel
theorem dX2_close_86 : decode cX2_close 86 = .ok (.iload_n 3, 1) := by decide +kernel
theorem dX2_close_87 : decode cX2_close 87 = .ok (.iconst 1, 1) := by decide +kernel
theorem dX2_close_88 : decode cX2_close 88 = .ok (.invokevirtual 110, 3) := by decide +kernel
theorem dX2_close_91 : decode cX2_close 91 = .ok (.aload_n 0, 1) := by decide +kernel
theorem dX2_close_92 : decode cX2_close 92 = .ok (.getfield 18, 3) := by decide +kernel
theorem dX2_close_95 : decode cX2_close 95 = .ok (.iload_n 3, 1) := by decide +kernel
theorem dX2_close_96 : decode cX2_close 96 = .ok (.iconst 2, 1) := by decide +kernel
theorem dX2_close_97 : decode cX2_close 97 = .ok (.invokevirtual 110, 3) := by decide +kernel
theorem dX2_close_100 : decode cX2_close 100 = .ok (.iload 4, 2) := by decide +kernel
theorem dX2_close_102 : decode cX2_close 102 = .ok (.invokevirtual 125, 3) := by decide +kernel
theorem dX2_close_105 : decode cX2_close 105 = .ok (.iinc 3 1, 3) := by decide +kernel
theorem dX2_close_108 : decode cX2_close 108 = .ok (.goto (-65), 3) := by decide +kernel
theorem dX2_close_111 : decode cX2_close 111 = .ok (.return_, 1) := by decide +kernel
theorem dX2_join_0 : decode cX2_join 0 = .ok (.iconst 0, 1) := by decide +kernel
theorem dX2_join_1 : decode cX2_join 1 = .ok (.istore_n 2, 1) := by decide +kernel
theorem dX2_join_2 : decode cX2_join 2 = .ok (.iload_n 2, 1) := by decide +kernel
theorem dX2_join_3 : decode cX2_join 3 = .ok (.aload_n 0, 1) := by decide +kernel
theorem dX2_join_4 : decode cX2_join 4 = .ok (.getfield 21, 3) := by decide +kernel
theorem dX2_join_7 : decode cX2_join 7 = .ok (.getfield 34, 3) := by decide +kernel
theorem dX2_join_10 : decode cX2_join 10 = .ok (.if_icmp .ge 122, 3) := by decide +kernel
theorem dX2_join_13 : decode cX2_join 13 = .ok (.iconst 0, 1) := by decide +kernel
theorem dX2_join_14 : decode cX2_join 14 = .ok (.istore_n 3, 1) := by decide +kernel
theorem dX2_join_15 : decode cX2_join 15 = .ok (.iload_n 3, 1) := by decide +kernel
theorem dX2_join_16 : decode cX2_join 16 = .ok (.aload_n 0, 1) := by decide +kernel
theorem dX2_join_17 : decode cX2_join 17 = .ok (.getfield 18, 3) := by decide +kernel
theorem dX2_join_20 : decode cX2_join 20 = .ok (.getfield 34, 3) := by decide +kernel
theorem dX2_join_23 : decode cX2_join 23 = .ok (.if_icmp .ge 103, 3) := by decide +kernel
theorem dX2_join_26 : decode cX2_join 26 = .ok (.aload_n 0, 1) := by decide +kernel
theorem dX2_join_27 : decode cX2_join 27 = .ok (.getfield 21, 3) := by decide +kernel
theorem dX2_join_30 : decode cX2_join 30 = .ok (.iload_n 2, 1) := by decide +kernel
theorem dX2_join_31 : decode cX2_join 31 = .ok (.iconst 0, 1) := by decide +kernel
theorem dX2_join_32 : decode cX2_join 32 = .ok (.invokevirtual 110, 3) := by decide +kernel
theorem dX2_join_35 : decode cX2_join 35 = .ok (.istore 4, 2) := by decide +kernel
theorem dX2_join_37 : decode cX2_join 37 = .ok (.aload_n 0, 1) := by decide +kernel
theorem dX2_join_38 : decode cX2_join 38 = .ok (.getfield 18, 3) := by decide +kernel
theorem dX2_join_41 : decode cX2_join 41 = .ok (.iload_n 3, 1) := by decide +kernel
theorem dX2_join_42 : decode cX2_join 42 = .ok (.iconst 1, 1) := by decide +kernel
theorem dX2_join_43 : decode cX2_join 43 = .ok (.invokevirtual 110, 3) := by decide +kernel
theorem dX2_join_46 : decode cX2_join 46 = .ok (.istore 5, 2) := by decide +kernel
theorem dX2_join_48 : decode cX2_join 48 = .ok (.iload 4, 2) := by decide +kernel
theorem dX2_join_50 : decode cX2_join 50 = .ok (.iload 5, 2) := by decide +kernel
theorem dX2_join_52 : decode cX2_join 52 = .ok (.if_icmp .gt 68, 3) := by decide +kernel
theorem dX2_join_55 : decode cX2_join 55 = .ok (.aload_n 0, 1) := by decide +kernel
theorem dX2_join_56 : decode cX2_join 56 = .ok (.getfield 21, 3) := by decide +kernel
theorem dX2_join_59 : decode cX2_join 59 = .ok (.iload_n 2, 1) := by decide +kernel
theorem dX2_join_60 : decode cX2_join 60 = .ok (.iconst 2, 1) := by decide +kernel
theorem dX2_join_61 : decode cX2_join 61 = .ok (.invokevirtual 110, 3) := by decide +kernel
theorem dX2_join_64 : decode cX2_join 64 = .ok (.aload_n 0, 1) := by decide +kernel
theorem dX2_join_65 : decode cX2_join 65 = .ok (.getfield 18, 3) := by decide +kernel
theorem dX2_join_68 : decode cX2_join 68 = .ok (.iload_n 3, 1) := by decide +kernel
theorem dX2_join_69 : decode cX2_join 69 = .ok (.iconst 2, 1) := by decide +kernel
theorem dX2_join_70 : decode cX2_join 70 = .ok (.invokevirtual 110, 3) := by decide +kernel
theorem dX2_join_73 : decode cX2_join 73 = .ok (.invokestatic 128, 3) := by decide +kernel
theorem dX2_join_76 : decode cX2_join 76 = .ok (.istore 6, 2) := by decide +kernel
theorem dX2_join_78 : decode cX2_join 78 = .ok (.aload_n 0, 1) := by decide +kernel
theorem dX2_join_79 : decode cX2_join 79 = .ok (.getfield 21, 3) := by decide +kernel
theorem dX2_join_82 : decode cX2_join 82 = .ok (.iload_n 2, 1) := by decide +kernel
theorem dX2_join_83 : decode cX2_join 83 = .ok (.iconst 3, 1) := by decide +kernel
theorem dX2_join_84 : decode cX2_join 84 = .ok (.invokevirtual 110, 3) := by decide +kernel
theorem dX2_join_87 : decode cX2_join 87 = .ok (.aload_n 0, 1) := by decide +kernel
theorem dX2_join_88 : decode cX2_join 88 = .ok (.getfield 18, 3) := by decide +kernel
theorem dX2_join_91 : decode cX2_join 91 = .ok (.iload_n 3, 1) := by decide +kernel
theorem dX2_join_92 : decode cX2_join 92 = .ok (.iconst 3, 1) := by decide +kernel
theorem dX2_join_93 : decode cX2_join 93 = .ok (.invokevirtual 110, 3) := by decide +kernel
theorem dX2_join_96 : decode cX2_join 96 = .ok (.invokestatic 120, 3) := by decide +kernel
theorem dX2_join_99 : decode cX2_join 99 = .ok (.istore 7, 2) := by decide +kernel
theorem dX2_join_101 : decode cX2_join 101 = .ok (.aload_n 0, 1) := by decide +kernel
theorem dX2_join_102 : decode cX2_join 102 = .ok (.getfield 12, 3) := by decide +kernel
theorem dX2_join_105 : decode cX2_join 105 = .ok (.iload 4, 2) := by decide +kernel
theorem dX2_join_107 : decode cX2_join 107 = .ok (.iload 5, 2) := by decide +kernel
theorem dX2_join_109 : decode cX2_join 109 = .ok (.iload 6, 2) := by decide +kernel
theorem dX2_join_111 : decode cX2_join 111 = .ok (.iload 7, 2) := by decide +kernel
theorem dX2_join_113 : decode cX2_join 113 = .ok (.iload_n 1, 1) := by decide +kernel
theorem dX2_join_114 : decode cX2_join 114 = .ok (.invokestatic 120, 3) := by decide +kernel
theorem dX2_join_117 : decode cX2_join 117 = .ok (.invokevirtual 125, 3) := by decide +kernel
theorem dX2_join_120 : decode cX2_join 120 = .ok (.iinc 3 1, 3) := by decide +kernel
theorem dX2_join_123 : decode cX2_join 123 = .ok (.goto (-108), 3) := by decide +kernel
theorem dX2_join_126 : decode cX2_join 126 = .ok (.iinc 2 1, 3) := by decide +kernel
theorem dX2_join_129 : decode cX2_join 129 = .ok (.goto (-127), 3) := by decide +kernel
theorem dX2_join_132 : decode cX2_join 132 = .ok (.return_, 1) := by decide +kernel
theorem dX3_init_0 : decode cX3_init 0 = .ok (.aload_n 0, 1) := by decide +kernel
theorem dX3_init_1 : decode cX3_init 1 = .ok (.invokespecial 1, 3) := by decide +kernel
theorem dX3_init_4 : decode cX3_init 4 = .ok (.aload_n 0, 1) := by decide +kernel
theorem dX3_init_5 : decode cX3_init 5 = .ok (.bipush 8, 2) := by decide +kernel
theorem dX3_init_7 : decode cX3_init 7 = .ok (.sipush 170, 3) := by decide +kernel
theorem dX3_init_10 : decode cX3_init 10 = .ok (.multianewarray 11 2, 4) := by decide +kernel
theorem dX3_init_14 : decode cX3_init 14 = .ok (.putfield 13, 3) := by decide +kernel
theorem dX3_init_17 : decode cX3_init 17 = .ok (.aload_n 0, 1) := by decide +kernel
theorem dX3_init_18 : decode cX3_init 18 = .ok (.iconst 0, 1) := by decide +kernel
theorem dX3_init_19 : decode cX3_init 19 = .ok (.putfield 16, 3) := by decide +kernel
theorem dX3_init_22 : decode cX3_init 22 = .ok (.aload_n 0, 1) := by decide +kernel
theorem dX3_init_23 : decode cX3_init 23 = .ok (.iconst 0, 1) := by decide +kernel
theorem dX3_init_24 : decode cX3_init 24 = .ok (.putfield 20, 3) := by decide +kernel
theorem dX3_init_27 : decode cX3_init 27 = .ok (.return_, 1) := by decide +kernel
theorem dX3_push_0 : decode cX3_push 0 = .ok (.aload_n 1, 1) := by decide +kernel
theorem dX3_push_1 : decode cX3_push 1 = .ok (.ifnull 11, 3) := by decide +kernel
theorem dX3_push_4 : decode cX3_push 4 = .ok (.aload_n 1, 1) := by decide +kernel
theorem dX3_push_5 : decode cX3_push 5 = .ok (.arraylength, 1) := by decide +kernel
theorem dX3_push_6 : decode cX3_push 6 = .ok (.sipush 170, 3) := by decide +kernel
theorem dX3_push_9 : decode cX3_push 9 = .ok (.if_icmp .eq 4, 3) := by decide +kernel
theorem dX3_push_12 : decode cX3_push 12 = .ok (.return_, 1) := by decide +kernel
theorem dX3_push_13 : decode cX3_push 13 = .ok (.aload_n 1, 1) := by decide +kernel
theorem dX3_push_14 : decode cX3_push 14 = .ok (.iconst 0, 1) := by decide +kernel
theorem dX3_push_15 : decode cX3_push 15 = .ok (.aload_n 0, 1) := by decide +kernel
theorem dX3_push_16 : decode cX3_push 16 = .ok (.getfield 13, 3) := by decide +kernel
theorem dX3_push_19 : decode cX3_push 19 = .ok (.aload_n 0, 1) := by decide +kernel
theorem dX3_push_20 : decode cX3_push 20 = .ok (.getfield 16, 3) := by decide +kernel
theorem dX3_push_23 : decode cX3_push 23 = .ok (.bipush 7, 2) := by decide +kernel
theorem dX3_push_25 : decode cX3_push 25 = .ok (.iand, 1) := by decide +kernel
theorem dX3_push_26 : decode cX3_push 26 = .ok (.aaload, 1) := by decide +kernel
theorem dX3_push_27 : decode cX3_push 27 = .ok (.iconst 0, 1) := by decide +kernel
theorem dX3_push_28 : decode cX3_push 28 = .ok (.sipush 170, 3) := by decide +kernel
theorem dX3_push_31 : decode cX3_push 31 = .ok (.invokestatic 23, 3) := by decide +kernel
theorem dX3_push_34 : decode cX3_push 34 = .ok (.aload_n 0, 1) := by decide +kernel
theorem dX3_push_35 : decode cX3_push 35 = .ok (.aload_n 0, 1) := by decide +kernel
theorem dX3_push_36 : decode cX3_push 36 = .ok (.getfield 16, 3) := by decide +kernel
theorem dX3_push_39 : decode cX3_push 39 = .ok (.iconst 1, 1) := by decide +kernel
theorem dX3_push_40 : decode cX3_push 40 = .ok (.iadd, 1) := by decide +kernel
theorem dX3_push_41 : decode cX3_push 41 = .ok (.bipush 7, 2) := by decide +kernel
theorem dX3_push_43 : decode cX3_push 43 = .ok (.iand, 1) := by decide +kernel
theorem dX3_push_44 : decode cX3_push 44 = .ok (.putfield 16, 3) := by decide +kernel
theorem dX3_push_47 : decode cX3_push 47 = .ok (.aload_n 0, 1) := by decide +kernel
theorem dX3_push_48 : decode cX3_push 48 = .ok (.aload_n 0, 1) := by decide +kernel
theorem dX3_push_49 : decode cX3_push 49 = .ok (.getfield 20, 3) := by decide +kernel
theorem dX3_push_52 : decode cX3_push 52 = .ok (.iconst 1, 1) := by decide +kernel
theorem dX3_push_53 : decode cX3_push 53 = .ok (.iadd, 1) := by decide +kernel
theorem dX3_push_54 : decode cX3_push 54 = .ok (.bipush 8, 2) := by decide +kernel
theorem dX3_push_56 : decode cX3_push 56 = .ok (.invokestatic 29, 3) := by decide +kernel
theorem dX3_push_59 : decode cX3_push 59 = .ok (.putfield 20, 3) := by decide +kernel
theorem dX3_push_62 : decode cX3_push 62 = .ok (.return_, 1) := by decide +kernel
theorem dX3_pop_0 : decode cX3_pop 0 = .ok (.aload_n 0, 1) := by decide +kernel
theorem dX3_pop_1 : decode cX3_pop 1 = .ok (.getfield 20, 3) := by decide +kernel
theorem dX3_pop_4 : decode cX3_pop 4 = .ok (.ifCond .eq 15, 3) := by decide +kernel
theorem dX3_pop_7 : decode cX3_pop 7 = .ok (.aload_n 1, 1) := by decide +kernel
theorem dX3_pop_8 : decode cX3_pop 8 = .ok (.ifnull 11, 3) := by decide +kernel
theorem dX3_pop_11 : decode cX3_pop 11 = .ok (.aload_n 1, 1) := by decide +kernel
theorem dX3_pop_12 : decode cX3_pop 12 = .ok (.arraylength, 1) := by decide +kernel
theorem dX3_pop_13 : decode cX3_pop 13 = .ok (.sipush 170, 3) := by decide +kernel
theorem dX3_pop_16 : decode cX3_pop 16 = .ok (.if_icmp .eq 4, 3) := by decide +kernel
theorem dX3_pop_19 : decode cX3_pop 19 = .ok (.return_, 1) := by decide +kernel
theorem dX3_pop_20 : decode cX3_pop 20 = .ok (.aload_n 0, 1) := by decide +kernel
theorem dX3_pop_21 : decode cX3_pop 21 = .ok (.aload_n 0, 1) := by decide +kernel
theorem dX3_pop_22 : decode cX3_pop 22 = .ok (.getfield 16, 3) := by decide +kernel
theorem dX3_pop_25 : decode cX3_pop 25 = .ok (.iconst 1, 1) := by decide +kernel
theorem dX3_pop_26 : decode cX3_pop 26 = .ok (.isub, 1) := by decide +kernel
theorem dX3_pop_27 : decode cX3_pop 27 = .ok (.bipush 7, 2) := by decide +kernel
theorem dX3_pop_29 : decode cX3_pop 29 = .ok (.iand, 1) := by decide +kernel
theorem dX3_pop_30 : decode cX3_pop 30 = .ok (.putfield 16, 3) := by decide +kernel
theorem dX3_pop_33 : decode cX3_pop 33 = .ok (.aload_n 0, 1) := by decide +kernel
theorem dX3_pop_34 : decode cX3_pop 34 = .ok (.getfield 13, 3) := by decide +kernel
theorem dX3_pop_37 : decode cX3_pop 37 = .ok (.aload_n 0, 1) := by decide +kernel
theorem dX3_pop_38 : decode cX3_pop 38 = .ok (.getfield 16, 3) := by decide +kernel
theorem dX3_pop_41 : decode cX3_pop 41 = .ok (.bipush 7, 2) := by decide +kernel
theorem dX3_pop_43 : decode cX3_pop 43 = .ok (.iand, 1) := by decide +kernel
theorem dX3_pop_44 : decode cX3_pop 44 = .ok (.aaload, 1) := by decide +kernel
theorem dX3_pop_45 : decode cX3_pop 45 = .ok (.iconst 0, 1) := by decide +kernel
theorem dX3_pop_46 : decode cX3_pop 46 = .ok (.aload_n 1, 1) := by decide +kernel
theorem dX3_pop_47 : decode cX3_pop 47 = .ok (.iconst 0, 1) := by decide +kernel
theorem dX3_pop_48 : decode cX3_pop 48 = .ok (.sipush 170, 3) := by decide +kernel
theorem dX3_pop_51 : decode cX3_pop 51 = .ok (.invokestatic 23, 3) := by decide +kernel
theorem dX3_pop_54 : decode cX3_pop 54 = .ok (.aload_n 0, 1) := by decide +kernel
theorem dX3_pop_55 : decode cX3_pop 55 = .ok (.dup, 1) := by decide +kernel
theorem dX3_pop_56 : decode cX3_pop 56 = .ok (.getfield 20, 3) := by decide +kernel
theorem dX3_pop_59 : decode cX3_pop 59 = .ok (.iconst 1, 1) := by decide +kernel
theorem dX3_pop_60 : decode cX3_pop 60 = .ok (.isub, 1) := by decide +kernel
theorem dX3_pop_61 : decode cX3_pop 61 = .ok (.putfield 20, 3) := by decide +kernel
theorem dX3_pop_64 : decode cX3_pop 64 = .ok (.return_, 1) := by decide +kernel
theorem dX3_clear_0 : decode cX3_clear 0 = .ok (.aload_n 0, 1) := by decide +kernel
theorem dX3_clear_1 : decode cX3_clear 1 = .ok (.iconst 0, 1) := by decide +kernel
theorem dX3_clear_2 : decode cX3_clear 2 = .ok (.putfield 20, 3) := by decide +kernel
theorem dX3_clear_5 : decode cX3_clear 5 = .ok (.return_, 1) := by decide +kernel
theorem dX4_init_0 : decode cX4_init 0 = .ok (.aload_n 0, 1) := by decide +kernel
theorem dX4_init_1 : decode cX4_init 1 = .ok (.invokespecial 3, 3) := by decide +kernel
theorem dX4_init_4 : decode cX4_init 4 = .ok (.aload_n 0, 1) := by decide +kernel
theorem dX4_init_5 : decode cX4_init 5 = .ok (.new 9, 3) := by decide +kernel
theorem dX4_init_8 : decode cX4_init 8 = .ok (.dup, 1) := by decide +kernel
theorem dX4_init_9 : decode cX4_init 9 = .ok (.invokespecial 11, 3) := by decide +kernel
theorem dX4_init_12 : decode cX4_init 12 = .ok (.putfield 12, 3) := by decide +kernel
theorem dX4_init_15 : decode cX4_init 15 = .ok (.aload_n 0, 1) := by decide +kernel
theorem dX4_init_16 : decode cX4_init 16 = .ok (.sipush 320, 3) := by decide +kernel
theorem dX4_init_19 : decode cX4_init 19 = .ok (.newarray .int, 2) := by decide +kernel
theorem dX4_init_21 : decode cX4_init 21 = .ok (.putfield 18, 3) := by decide +kernel
theorem dX4_init_24 : decode cX4_init 24 = .ok (.aload_n 0, 1) := by decide +kernel
theorem dX4_init_25 : decode cX4_init 25 = .ok (.iconst 0, 1) := by decide +kernel
theorem dX4_init_26 : decode cX4_init 26 = .ok (.putfield 22, 3) := by decide +kernel
theorem dX4_init_29 : decode cX4_init 29 = .ok (.aload_n 0, 1) := by decide +kernel
theorem dX4_init_30 : decode cX4_init 30 = .ok (.sipush 320, 3) := by decide +kernel
theorem dX4_init_33 : decode cX4_init 33 = .ok (.newarray .int, 2) := by decide +kernel
theorem dX4_init_35 : decode cX4_init 35 = .ok (.putfield 26, 3) := by decide +kernel
theorem dX4_init_38 : decode cX4_init 38 = .ok (.aload_n 0, 1) := by decide +kernel
theorem dX4_init_39 : decode cX4_init 39 = .ok (.iconst 0, 1) := by decide +kernel
theorem dX4_init_40 : decode cX4_init 40 = .ok (.putfield 29, 3) := by decide +kernel
theorem dX4_init_43 : decode cX4_init 43 = .ok (.return_, 1) := by decide +kernel
theorem dX4_step_0 : decode cX4_step 0 = .ok (.iload_n 1, 1) := by decide +kernel
theorem dX4_step_1 : decode cX4_step 1 = .ok (.ifCond .lt 31, 3) := by decide +kernel
theorem dX4_step_4 : decode cX4_step 4 = .ok (.iload_n 1, 1) := by decide +kernel
theorem dX4_step_5 : decode cX4_step 5 = .ok (.bipush 80, 2) := by decide +kernel
theorem dX4_step_7 : decode cX4_step 7 = .ok (.if_icmp .ge 25, 3) := by decide +kernel
theorem dX4_step_10 : decode cX4_step 10 = .ok (.iload_n 2, 1) := by decide +kernel
theorem dX4_step_11 : decode cX4_step 11 = .ok (.ifCond .lt 21, 3) := by decide +kernel
theorem dX4_step_14 : decode cX4_step 14 = .ok (.iload_n 2, 1) := by decide +kernel
theorem dX4_step_15 : decode cX4_step 15 = .ok (.iconst 4, 1) := by decide +kernel
theorem dX4_step_16 : decode cX4_step 16 = .ok (.if_icmp .ge 16, 3) := by decide +kernel
theorem dX4_step_19 : decode cX4_step 19 = .ok (.aload_n 0, 1) := by decide +kernel
theorem dX4_step_20 : decode cX4_step 20 = .ok (.getfield 18, 3) := by decide +kernel
theorem dX4_step_23 : decode cX4_step 23 = .ok (.iload_n 1, 1) := by decide +kernel
theorem dX4_step_24 : decode cX4_step 24 = .ok (.iconst 4, 1) := by decide +kernel
theorem dX4_step_25 : decode cX4_step 25 = .ok (.imul, 1) := by decide +kernel
theorem dX4_step_26 : decode cX4_step 26 = .ok (.iload_n 2, 1) := by decide +kernel
theorem dX4_step_27 : decode cX4_step 27 = .ok (.iadd, 1) := by decide +kernel
theorem dX4_step_28 : decode cX4_step 28 = .ok (.iaload, 1) := by decide +kernel
theorem dX4_step_29 : decode cX4_step 29 = .ok (.goto 4, 3) := by decide +kernel
theorem dX4_step_32 : decode cX4_step 32 = .ok (.iconst 0, 1) := by decide +kernel
theorem dX4_step_33 : decode cX4_step 33 = .ok (.ireturn, 1) := by decide +kernel
theorem dX4_parse_0 : decode cX4_parse 0 = .ok (.aload_n 0, 1) := by decide +kernel
theorem dX4_parse_1 : decode cX4_parse 1 = .ok (.iconst 0, 1) := by decide +kernel
theorem dX4_parse_2 : decode cX4_parse 2 = .ok (.putfield 22, 3) := by decide +kernel
theorem dX4_parse_5 : decode cX4_parse 5 = .ok (.aload_n 0, 1) := by decide +kernel
theorem dX4_parse_6 : decode cX4_parse 6 = .ok (.getfield 12, 3) := by decide +kernel
theorem dX4_parse_9 : decode cX4_parse 9 = .ok (.aload_n 1, 1) := by decide +kernel
theorem dX4_parse_10 : decode cX4_parse 10 = .ok (.invokevirtual 32, 3) := by decide +kernel
theorem dX4_parse_13 : decode cX4_parse 13 = .ok (.aload_n 0, 1) := by decide +kernel
theorem dX4_parse_14 : decode cX4_parse 14 = .ok (.invokevirtual 36, 3) := by decide +kernel
theorem dX4_parse_17 : decode cX4_parse 17 = .ok (.istore_n 2, 1) := by decide +kernel
theorem dX4_parse_18 : decode cX4_parse 18 = .ok (.iconst 0, 1) := by decide +kernel
theorem dX4_parse_19 : decode cX4_parse 19 = .ok (.istore_n 3, 1) := by decide +kernel
theorem dX4_parse_20 : decode cX4_parse 20 = .ok (.iload_n 3, 1) := by decide +kernel
theorem dX4_parse_21 : decode cX4_parse 21 = .ok (.bipush 80, 2) := by decide +kernel
theorem dX4_parse_23 : decode cX4_parse 23 = .ok (.if_icmp .ge 37, 3) := by decide +kernel
theorem dX4_parse_26 : decode cX4_parse 26 = .ok (.iload_n 2, 1) := by decide +kernel
theorem dX4_parse_27 : decode cX4_parse 27 = .ok (.ifCond .eq 33, 3) := by decide +kernel
theorem dX4_parse_30 : decode cX4_parse 30 = .ok (.aload_n 0, 1) := by decide +kernel
theorem dX4_parse_31 : decode cX4_parse 31 = .ok (.getfield 12, 3) := by decide +kernel
theorem dX4_parse_34 : decode cX4_parse 34 = .ok (.getfield 40, 3) := by decide +kernel
theorem dX4_parse_37 : decode cX4_parse 37 = .ok (.bipush 39, 2) := by decide +kernel
theorem dX4_parse_39 : decode cX4_parse 39 = .ok (.if_icmp .ne 21, 3) := by decide +kernel
theorem dX4_parse_42 : decode cX4_parse 42 = .ok (.aload_n 0, 1) := by decide +kernel
theorem dX4_parse_43 : decode cX4_parse 43 = .ok (.getfield 12, 3) := by decide +kernel
theorem dX4_parse_46 : decode cX4_parse 46 = .ok (.invokevirtual 43, 3) := by decide +kernel
theorem dX4_parse_49 : decode cX4_parse 49 = .ok (.aload_n 0, 1) := by decide +kernel
theorem dX4_parse_50 : decode cX4_parse 50 = .ok (.invokevirtual 36, 3) := by decide +kernel
theorem dX4_parse_53 : decode cX4_parse 53 = .ok (.istore_n 2, 1) := by decide +kernel
theorem dX4_parse_54 : decode cX4_parse 54 = .ok (.iinc 3 1, 3) := by decide +kernel
theorem dX4_parse_57 : decode cX4_parse 57 = .ok (.goto (-37), 3) := by decide +kernel
theorem dX4_parse_60 : decode cX4_parse 60 = .ok (.iload_n 2, 1) := by decide +kernel
theorem dX4_parse_61 : decode cX4_parse 61 = .ok (.ifCond .eq 19, 3) := by decide +kernel
theorem dX4_parse_64 : decode cX4_parse 64 = .ok (.aload_n 0, 1) := by decide +kernel
theorem dX4_parse_65 : decode cX4_parse 65 = .ok (.getfield 12, 3) := by decide +kernel
theorem dX4_parse_68 : decode cX4_parse 68 = .ok (.getfield 40, 3) := by decide +kernel
theorem dX4_parse_71 : decode cX4_parse 71 = .ok (.bipush 41, 2) := by decide +kernel
theorem dX4_parse_73 : decode cX4_parse 73 = .ok (.if_icmp .ne 7, 3) := by decide +kernel
theorem dX4_parse_76 : decode cX4_parse 76 = .ok (.iconst (-1), 1) := by decide +kernel
theorem dX4_parse_77 : decode cX4_parse 77 = .ok (.goto 10, 3) := by decide +kernel
theorem dX4_parse_80 : decode cX4_parse 80 = .ok (.aload_n 0, 1) := by decide +kernel
theorem dX4_parse_81 : decode cX4_parse 81 = .ok (.getfield 12, 3) := by decide +kernel
theorem dX4_parse_84 : decode cX4_parse 84 = .ok (.getfield 46, 3) := by decide +kernel
theorem dX4_parse_87 : decode cX4_parse 87 = .ok (.ireturn, 1) := by decide +kernel
theorem dX4_readPart_0 : decode cX4_readPart 0 = .ok (.aload_n 0, 1) := by decide +kernel
theorem dX4_readPart_1 : decode cX4_readPart 1 = .ok (.invokevirtual 49, 3) := by decide +kernel
theorem dX4_readPart_4 : decode cX4_readPart 4 = .ok (.ifCond .ne 5, 3) := by decide +kernel
theorem dX4_readPart_7 : decode cX4_readPart 7 = .ok (.iconst 0, 1) := by decide +kernel
theorem dX4_readPart_8 : decode cX4_readPart 8 = .ok (.ireturn, 1) := by decide +kernel
theorem dX4_readPart_9 : decode cX4_readPart 9 = .ok (.aload_n 0, 1) := by decide +kernel
theorem dX4_readPart_10 : decode cX4_readPart 10 = .ok (.getfield 12, 3) := by decide +kernel
theorem dX4_readPart_13 : decode cX4_readPart 13 = .ok (.getfield 40, 3) := by decide +kernel
theorem dX4_readPart_16 : decode cX4_readPart 16 = .ok (.bipush 38, 2) := by decide +kernel
theorem dX4_readPart_18 : decode cX4_readPart 18 = .ok (.if_icmp .eq 15, 3) := by decide +kernel
theorem dX4_readPart_21 : decode cX4_readPart 21 = .ok (.aload_n 0, 1) := by decide +kernel
theorem dX4_readPart_22 : decode cX4_readPart 22 = .ok (.bipush 20, 2) := by decide +kernel
theorem dX4_readPart_24 : decode cX4_readPart 24 = .ok (.iconst 0, 1) := by decide +kernel
theorem dX4_readPart_25 : decode cX4_readPart 25 = .ok (.iconst 0, 1) := by decide +kernel
theorem dX4_readPart_26 : decode cX4_readPart 26 = .ok (.iconst 0, 1) := by decide +kernel
theorem dX4_readPart_27 : decode cX4_readPart 27 = .ok (.invokevirtual 52, 3) := by decide +kernel
theorem dX4_readPart_30 : decode cX4_readPart 30 = .ok (.pop, 1) := by decide +kernel
theorem dX4_readPart_31 : decode cX4_readPart 31 = .ok (.iconst 1, 1) := by decide +kernel
theorem dX4_readPart_32 : decode cX4_readPart 32 = .ok (.ireturn, 1) := by decide +kernel
theorem dX4_readPart_33 : decode cX4_readPart 33 = .ok (.aload_n 0, 1) := by decide +kernel
theorem dX4_readPart_34 : decode cX4_readPart 34 = .ok (.getfield 12, 3) := by decide +kernel
theorem dX4_readPart_37 : decode cX4_readPart 37 = .ok (.invokevirtual 43, 3) := by decide +kernel
theorem dX4_readPart_40 : decode cX4_readPart 40 = .ok (.aload_n 0, 1) := by decide +kernel
theorem dX4_readPart_41 : decode cX4_readPart 41 = .ok (.bipush 18, 2) := by decide +kernel
theorem dX4_readPart_43 : decode cX4_readPart 43 = .ok (.iconst 0, 1) := by decide +kernel
theorem dX4_readPart_44 : decode cX4_readPart 44 = .ok (.iconst 0, 1) := by decide +kernel
theorem dX4_readPart_45 : decode cX4_readPart 45 = .ok (.iconst 0, 1) := by decide +kernel
theorem dX4_readPart_46 : decode cX4_readPart 46 = .ok (.invokevirtual 52, 3) := by decide +kernel
theorem dX4_readPart_49 : decode cX4_readPart 49 = .ok (.pop, 1) := by decide +kernel
theorem dX4_readPart_50 : decode cX4_readPart 50 = .ok (.aload_n 0, 1) := by decide +kernel
theorem dX4_readPart_51 : decode cX4_readPart 51 = .ok (.invokevirtual 49, 3) := by decide +kernel
theorem dX4_readPart_54 : decode cX4_readPart 54 = .ok (.ifCond .ne 5, 3) := by decide +kernel
theorem dX4_readPart_57 : decode cX4_readPart 57 = .ok (.iconst 0, 1) := by decide +kernel
theorem dX4_readPart_58 : decode cX4_readPart 58 = .ok (.ireturn, 1) := by decide +kernel
theorem dX4_readPart_59 : decode cX4_readPart 59 = .ok (.aload_n 0, 1) := by decide +kernel
theorem dX4_readPart_60 : decode cX4_readPart 60 = .ok (.bipush 19, 2) := by decide +kernel
theorem dX4_readPart_62 : decode cX4_readPart 62 = .ok (.iconst 0, 1) := by decide +kernel
theorem dX4_readPart_63 : decode cX4_readPart 63 = .ok (.iconst 0, 1) := by decide +kernel
theorem dX4_readPart_64 : decode cX4_readPart 64 = .ok (.iconst 0, 1) := by decide +kernel
theorem dX4_readPart_65 : decode cX4_readPart 65 = .ok (.invokevirtual 52, 3) := by decide +kernel
theorem dX4_readPart_68 : decode cX4_readPart 68 = .ok (.pop, 1) := by decide +kernel
theorem dX4_readPart_69 : decode cX4_readPart 69 = .ok (.iconst 1, 1) := by decide +kernel
theorem dX4_readPart_70 : decode cX4_readPart 70 = .ok (.ireturn, 1) := by decide +kernel
theorem dX4_readSpan_0 : decode cX4_readSpan 0 = .ok (.aload_n 0, 1) := by decide +kernel
theorem dX4_readSpan_1 : decode cX4_readSpan 1 = .ok (.iconst 0, 1) := by decide +kernel
theorem dX4_readSpan_2 : decode cX4_readSpan 2 = .ok (.putfield 29, 3) := by decide +kernel
theorem dX4_readSpan_5 : decode cX4_readSpan 5 = .ok (.iconst 1, 1) := by decide +kernel
theorem dX4_readSpan_6 : decode cX4_readSpan 6 = .ok (.istore_n 1, 1) := by decide +kernel
theorem dX4_readSpan_7 : decode cX4_readSpan 7 = .ok (.iconst 0, 1) := by decide +kernel
theorem dX4_readSpan_8 : decode cX4_readSpan 8 = .ok (.istore_n 2, 1) := by decide +kernel
theorem dX4_readSpan_9 : decode cX4_readSpan 9 = .ok (.iload_n 2, 1) := by decide +kernel
theorem dX4_readSpan_10 : decode cX4_readSpan 10 = .ok (.bipush 80, 2) := by decide +kernel
theorem dX4_readSpan_12 : decode cX4_readSpan 12 = .ok (.if_icmp .ge 19, 3) := by decide +kernel
theorem dX4_readSpan_15 : decode cX4_readSpan 15 = .ok (.iload_n 1, 1) := by decide +kernel
theorem dX4_readSpan_16 : decode cX4_readSpan 16 = .ok (.iconst 1, 1) := by decide +kernel
theorem dX4_readSpan_17 : decode cX4_readSpan 17 = .ok (.if_icmp .ne 14, 3) := by decide +kernel
theorem dX4_readSpan_20 : decode cX4_readSpan 20 = .ok (.aload_n 0, 1) := by decide +kernel
theorem dX4_readSpan_21 : decode cX4_readSpan 21 = .ok (.invokevirtual 56, 3) := by decide +kernel
theorem dX4_readSpan_24 : decode cX4_readSpan 24 = .ok (.istore_n 1, 1) := by decide +kernel
theorem dX4_readSpan_25 : decode cX4_readSpan 25 = .ok (.iinc 2 1, 3) := by decide +kernel
theorem dX4_readSpan_28 : decode cX4_readSpan 28 = .ok (.goto (-19), 3) := by decide +kernel
theorem dX4_readSpan_31 : decode cX4_readSpan 31 = .ok (.iload_n 1, 1) := by decide +kernel
theorem dX4_readSpan_32 : decode cX4_readSpan 32 = .ok (.iconst 2, 1) := by decide +kernel
theorem dX4_readSpan_33 : decode cX4_readSpan 33 = .ok (.if_icmp .eq 5, 3) := by decide +kernel
theorem dX4_readSpan_36 : decode cX4_readSpan 36 = .ok (.iconst 0, 1) := by decide +kernel
theorem dX4_readSpan_37 : decode cX4_readSpan 37 = .ok (.ireturn, 1) := by decide +kernel
theorem dX4_readSpan_38 : decode cX4_readSpan 38 = .ok (.aload_n 0, 1) := by decide +kernel
theorem dX4_readSpan_39 : decode cX4_readSpan 39 = .ok (.getfield 29, 3) := by decide +kernel
theorem dX4_readSpan_42 : decode cX4_readSpan 42 = .ok (.iconst 1, 1) := by decide +kernel
theorem dX4_readSpan_43 : decode cX4_readSpan 43 = .ok (.isub, 1) := by decide +kernel
theorem dX4_readSpan_44 : decode cX4_readSpan 44 = .ok (.istore_n 2, 1) := by decide +kernel
theorem dX4_readSpan_45 : decode cX4_readSpan 45 = .ok (.iload_n 2, 1) := by decide +kernel
theorem dX4_readSpan_46 : decode cX4_readSpan 46 = .ok (.ifCond .lt 41, 3) := by decide +kernel
theorem dX4_readSpan_49 : decode cX4_readSpan 49 = .ok (.iload_n 2, 1) := by decide +kernel
theorem dX4_readSpan_50 : decode cX4_readSpan 50 = .ok (.iconst 4, 1) := by decide +kernel
theorem dX4_readSpan_51 : decode cX4_readSpan 51 = .ok (.imul, 1) := by decide +kernel
theorem dX4_readSpan_52 : decode cX4_readSpan 52 = .ok (.istore_n 3, 1) := by decide +kernel
theorem dX4_readSpan_53 : decode cX4_readSpan 53 = .ok (.aload_n 0, 1) := by decide +kernel
theorem dX4_readSpan_54 : decode cX4_readSpan 54 = .ok (.aload_n 0, 1) := by decide +kernel
theorem dX4_readSpan_55 : decode cX4_readSpan 55 = .ok (.getfield 26, 3) := by decide +kernel
theorem dX4_readSpan_58 : decode cX4_readSpan 58 = .ok (.iload_n 3, 1) := by decide +kernel
theorem dX4_readSpan_59 : decode cX4_readSpan 59 = .ok (.iaload, 1) := by decide +kernel
theorem dX4_readSpan_60 : decode cX4_readSpan 60 = .ok (.aload_n 0, 1) := by decide +kernel
theorem dX4_readSpan_61 : decode cX4_readSpan 61 = .ok (.getfield 26, 3) := by decide +kernel
theorem dX4_readSpan_64 : decode cX4_readSpan 64 = .ok (.iload_n 3, 1) := by decide +kernel
theorem dX4_readSpan_65 : decode cX4_readSpan 65 = .ok (.iconst 1, 1) := by decide +kernel
theorem dX4_readSpan_66 : decode cX4_readSpan 66 = .ok (.iadd, 1) := by decide +kernel
theorem dX4_readSpan_67 : decode cX4_readSpan 67 = .ok (.iaload, 1) := by decide +kernel
theorem dX4_readSpan_68 : decode cX4_readSpan 68 = .ok (.aload_n 0, 1) := by decide +kernel
theorem dX4_readSpan_69 : decode cX4_readSpan 69 = .ok (.getfield 26, 3) := by decide +kernel
theorem dX4_readSpan_72 : decode cX4_readSpan 72 = .ok (.iload_n 3, 1) := by decide +kernel
theorem dX4_readSpan_73 : decode cX4_readSpan 73 = .ok (.iconst 2, 1) := by decide +kernel
theorem dX4_readSpan_74 : decode cX4_readSpan 74 = .ok (.iadd, 1) := by decide +kernel
theorem dX4_readSpan_75 : decode cX4_readSpan 75 = .ok (.iaload, 1) := by decide +kernel
theorem dX4_readSpan_76 : decode cX4_readSpan 76 = .ok (.iconst 0, 1) := by decide +kernel
theorem dX4_readSpan_77 : decode cX4_readSpan 77 = .ok (.invokevirtual 52, 3) := by decide +kernel
theorem dX4_readSpan_80 : decode cX4_readSpan 80 = .ok (.pop, 1) := by decide +kernel
theorem dX4_readSpan_81 : decode cX4_readSpan 81 = .ok (.iinc 2 (-1), 3) := by decide +kernel
theorem dX4_readSpan_84 : decode cX4_readSpan 84 = .ok (.goto (-39), 3) := by decide +kernel
theorem dX4_readSpan_87 : decode cX4_readSpan 87 = .ok (.iconst 1, 1) := by decide +kernel
theorem dX4_readSpan_88 : decode cX4_readSpan 88 = .ok (.ireturn, 1) := by decide +kernel
theorem dX4_readStep_0 : decode cX4_readStep 0 = .ok (.aload_n 0, 1) := by decide +kernel
theorem dX4_readStep_1 : decode cX4_readStep 1 = .ok (.getfield 12, 3) := by decide +kernel
theorem dX4_readStep_4 : decode cX4_readStep 4 = .ok (.invokevirtual 60, 3) := by decide +kernel
theorem dX4_readStep_7 : decode cX4_readStep 7 = .ok (.ifCond .eq 8, 3) := by decide +kernel
theorem dX4_readStep_10 : decode cX4_readStep 10 = .ok (.aload_n 0, 1) := by decide +kernel
theorem dX4_readStep_11 : decode cX4_readStep 11 = .ok (.invokevirtual 63, 3) := by decide +kernel
theorem dX4_readStep_14 : decode cX4_readStep 14 = .ok (.ireturn, 1) := by decide +kernel
theorem dX4_readStep_15 : decode cX4_readStep 15 = .ok (.aload_n 0, 1) := by decide +kernel
theorem dX4_readStep_16 : decode cX4_readStep 16 = .ok (.getfield 12, 3) := by decide +kernel
theorem dX4_readStep_19 : decode cX4_readStep 19 = .ok (.invokevirtual 66, 3) := by decide +kernel
theorem dX4_readStep_22 : decode cX4_readStep 22 = .ok (.ifCond .eq 8, 3) := by decide +kernel
theorem dX4_readStep_25 : decode cX4_readStep 25 = .ok (.aload_n 0, 1) := by decide +kernel
theorem dX4_readStep_26 : decode cX4_readStep 26 = .ok (.invokevirtual 69, 3) := by decide +kernel
theorem dX4_readStep_29 : decode cX4_readStep 29 = .ok (.ireturn, 1) := by decide +kernel
theorem dX4_readStep_30 : decode cX4_readStep 30 = .ok (.aload_n 0, 1) := by decide +kernel
theorem dX4_readStep_31 : decode cX4_readStep 31 = .ok (.getfield 12, 3) := by decide +kernel
theorem dX4_readStep_34 : decode cX4_readStep 34 = .ok (.invokevirtual 72, 3) := by decide +kernel
theorem dX4_readStep_37 : decode cX4_readStep 37 = .ok (.ifCond .eq 8, 3) := by decide +kernel
theorem dX4_readStep_40 : decode cX4_readStep 40 = .ok (.aload_n 0, 1) := by decide +kernel
theorem dX4_readStep_41 : decode cX4_readStep 41 = .ok (.invokevirtual 75, 3) := by decide +kernel
theorem dX4_readStep_44 : decode cX4_readStep 44 = .ok (.ireturn, 1) := by decide +kernel
theorem dX4_readStep_45 : decode cX4_readStep 45 = .ok (.aload_n 0, 1) := by decide +kernel
theorem dX4_readStep_46 : decode cX4_readStep 46 = .ok (.getfield 12, 3) := by decide +kernel
theorem dX4_readStep_49 : decode cX4_readStep 49 = .ok (.invokevirtual 78, 3) := by decide +kernel
theorem dX4_readStep_52 : decode cX4_readStep 52 = .ok (.ifCond .ne 5, 3) := by decide +kernel
theorem dX4_readStep_55 : decode cX4_readStep 55 = .ok (.iconst 0, 1) := by decide +kernel
theorem dX4_readStep_56 : decode cX4_readStep 56 = .ok (.ireturn, 1) := by decide +kernel
theorem dX4_readStep_57 : decode cX4_readStep 57 = .ok (.aload_n 0, 1) := by decide +kernel
theorem dX4_readStep_58 : decode cX4_readStep 58 = .ok (.getfield 12, 3) := by decide +kernel
theorem dX4_readStep_61 : decode cX4_readStep 61 = .ok (.getfield 40, 3) := by decide +kernel
theorem dX4_readStep_64 : decode cX4_readStep 64 = .ok (.istore_n 1, 1) := by decide +kernel
theorem dX4_readStep_65 : decode cX4_readStep 65 = .ok (.aload_n 0, 1) := by decide +kernel
theorem dX4_readStep_66 : decode cX4_readStep 66 = .ok (.getfield 12, 3) := by decide +kernel
theorem dX4_readStep_69 : decode cX4_readStep 69 = .ok (.invokevirtual 43, 3) := by decide +kernel
theorem dX4_readStep_72 : decode cX4_readStep 72 = .ok (.iload_n 1, 1) := by decide +kernel
theorem dX4_readStep_73 : decode cX4_readStep 73 = .ok (.tableswitch 144 23 33 #[59, 68, 77, 86, 105, 112, 121, 130, 139, 91, 98], 59) := by decide +kernel
theorem dX4_readStep_132 : decode cX4_readStep 132 = .ok (.aload_n 0, 1) := by decide +kernel
theorem dX4_readStep_133 : decode cX4_readStep 133 = .ok (.bipush 13, 2) := by decide +kernel
theorem dX4_readStep_135 : decode cX4_readStep 135 = .ok (.iconst 0, 1) := by decide +kernel
theorem dX4_readStep_136 : decode cX4_readStep 136 = .ok (.iconst 0, 1) := by decide +kernel
theorem dX4_readStep_137 : decode cX4_readStep 137 = .ok (.invokevirtual 81, 3) := by decide +kernel
theorem dX4_readStep_140 : decode cX4_readStep 140 = .ok (.ireturn, 1) := by decide +kernel
theorem dX4_readStep_141 : decode cX4_readStep 141 = .ok (.aload_n 0, 1) := by decide +kernel
theorem dX4_readStep_142 : decode cX4_readStep 142 = .ok (.bipush 14, 2) := by decide +kernel
theorem dX4_readStep_144 : decode cX4_readStep 144 = .ok (.iconst 0, 1) := by decide +kernel
theorem dX4_readStep_145 : decode cX4_readStep 145 = .ok (.iconst 0, 1) := by decide +kernel
theorem dX4_readStep_146 : decode cX4_readStep 146 = .ok (.invokevirtual 81, 3) := by decide +kernel
theorem dX4_readStep_149 : decode cX4_readStep 149 = .ok (.ireturn, 1) := by decide +kernel
theorem dX4_readStep_150 : decode cX4_readStep 150 = .ok (.aload_n 0, 1) := by decide +kernel
theorem dX4_readStep_151 : decode cX4_readStep 151 = .ok (.bipush 15, 2) := by decide +kernel
theorem dX4_readStep_153 : decode cX4_readStep 153 = .ok (.iconst 0, 1) := by decide +kernel
theorem dX4_readStep_154 : decode cX4_readStep 154 = .ok (.iconst 0, 1) := by decide +kernel
theorem dX4_readStep_155 : decode cX4_readStep 155 = .ok (.invokevirtual 81, 3) := by decide +kernel
theorem dX4_readStep_158 : decode cX4_readStep 158 = .ok (.ireturn, 1) := by decide +kernel
theorem dX4_readStep_159 : decode cX4_readStep 159 = .ok (.aload_n 0, 1) := by decide +kernel
theorem dX4_readStep_160 : decode cX4_readStep 160 = .ok (.invokevirtual 85, 3) := by decide +kernel
theorem dX4_readStep_163 : decode cX4_readStep 163 = .ok (.ireturn, 1) := by decide +kernel
theorem dX4_readStep_164 : decode cX4_readStep 164 = .ok (.aload_n 0, 1) := by decide +kernel
theorem dX4_readStep_165 : decode cX4_readStep 165 = .ok (.iconst 3, 1) := by decide +kernel
theorem dX4_readStep_166 : decode cX4_readStep 166 = .ok (.iconst 0, 1) := by decide +kernel
theorem dX4_readStep_167 : decode cX4_readStep 167 = .ok (.invokevirtual 88, 3) := by decide +kernel
theorem dX4_readStep_170 : decode cX4_readStep 170 = .ok (.ireturn, 1) := by decide +kernel
theorem dX4_readStep_171 : decode cX4_readStep 171 = .ok (.aload_n 0, 1) := by decide +kernel
theorem dX4_readStep_172 : decode cX4_readStep 172 = .ok (.iconst 4, 1) := by decide +kernel
theorem dX4_readStep_173 : decode cX4_readStep 173 = .ok (.iconst 1, 1) := by decide +kernel
theorem dX4_readStep_174 : decode cX4_readStep 174 = .ok (.invokevirtual 88, 3) := by decide +kernel
theorem dX4_readStep_177 : decode cX4_readStep 177 = .ok (.ireturn, 1) := by decide +kernel
theorem dX4_readStep_178 : decode cX4_readStep 178 = .ok (.aload_n 0, 1) := by decide +kernel
theorem dX4_readStep_179 : decode cX4_readStep 179 = .ok (.iconst 5, 1) := by decide +kernel
theorem dX4_readStep_180 : decode cX4_readStep 180 = .ok (.iconst (-1), 1) := by decide +kernel
theorem dX4_readStep_181 : decode cX4_readStep 181 = .ok (.invokevirtual 88, 3) := by decide +kernel
theorem dX4_readStep_184 : decode cX4_readStep 184 = .ok (.ireturn, 1) := by decide +kernel
theorem dX4_readStep_185 : decode cX4_readStep 185 = .ok (.aload_n 0, 1) := by decide +kernel
theorem dX4_readStep_186 : decode cX4_readStep 186 = .ok (.iconst 0, 1) := by decide +kernel
theorem dX4_readStep_187 : decode cX4_readStep 187 = .ok (.iconst 0, 1) := by decide +kernel
theorem dX4_readStep_188 : decode cX4_readStep 188 = .ok (.iconst 0, 1) := by decide +kernel
theorem dX4_readStep_189 : decode cX4_readStep 189 = .ok (.iconst 0, 1) := by decide +kernel
theorem dX4_readStep_190 : decode cX4_readStep 190 = .ok (.invokevirtual 52, 3) := by decide +kernel
theorem dX4_readStep_193 : decode cX4_readStep 193 = .ok (.ireturn, 1) := by decide +kernel
theorem dX4_readStep_194 : decode cX4_readStep 194 = .ok (.aload_n 0, 1) := by decide +kernel
theorem dX4_readStep_195 : decode cX4_readStep 195 = .ok (.iconst 0, 1) := by decide +kernel
theorem dX4_readStep_196 : decode cX4_readStep 196 = .ok (.iconst 0, 1) := by decide +kernel
theorem dX4_readStep_197 : decode cX4_readStep 197 = .ok (.iconst 1, 1) := by decide +kernel
theorem dX4_readStep_198 : decode cX4_readStep 198 = .ok (.iconst 0, 1) := by decide +kernel
theorem dX4_readStep_199 : decode cX4_readStep 199 = .ok (.invokevirtual 52, 3) := by decide +kernel
theorem dX4_readStep_202 : decode cX4_readStep 202 = .ok (.ireturn, 1) := by decide +kernel
theorem dX4_readStep_203 : decode cX4_readStep 203 = .ok (.aload_n 0, 1) := by decide +kernel
theorem dX4_readStep_204 : decode cX4_readStep 204 = .ok (.iconst 0, 1) := by decide +kernel
theorem dX4_readStep_205 : decode cX4_readStep 205 = .ok (.iconst 0, 1) := by decide +kernel
theorem dX4_readStep_206 : decode cX4_readStep 206 = .ok (.iconst (-1), 1) := by decide +kernel
theorem dX4_readStep_207 : decode cX4_readStep 207 = .ok (.iconst 0, 1) := by decide +kernel
theorem dX4_readStep_208 : decode cX4_readStep 208 = .ok (.invokevirtual 52, 3) := by decide +kernel
theorem dX4_readStep_211 : decode cX4_readStep 211 = .ok (.ireturn, 1) := by decide +kernel
theorem dX4_readStep_212 : decode cX4_readStep 212 = .ok (.aload_n 0, 1) := by decide +kernel
theorem dX4_readStep_213 : decode cX4_readStep 213 = .ok (.invokevirtual 92, 3) := by decide +kernel
theorem dX4_readStep_216 : decode cX4_readStep 216 = .ok (.ireturn, 1) := by decide +kernel
theorem dX4_readStep_217 : decode cX4_readStep 217 = .ok (.iconst 0, 1) := by decide +kernel
theorem dX4_readStep_218 : decode cX4_readStep 218 = .ok (.ireturn, 1) := by decide +kernel
theorem dX4_readFromNumber_0 : decode cX4_readFromNumber 0 = .ok (.aload_n 0, 1) := by decide +kernel
theorem dX4_readFromNumber_1 : decode cX4_readFromNumber 1 = .ok (.getfield 12, 3) := by decide +kernel
theorem dX4_readFromNumber_4 : decode cX4_readFromNumber 4 = .ok (.invokevirtual 95, 3) := by decide +kernel
theorem dX4_readFromNumber_7 : decode cX4_readFromNumber 7 = .ok (.istore_n 1, 1) := by decide +kernel
theorem dX4_readFromNumber_8 : decode cX4_readFromNumber 8 = .ok (.aload_n 0, 1) := by decide +kernel
theorem dX4_readFromNumber_9 : decode cX4_readFromNumber 9 = .ok (.getfield 12, 3) := by decide +kernel
theorem dX4_readFromNumber_12 : decode cX4_readFromNumber 12 = .ok (.sipush 2000, 3) := by decide +kernel
theorem dX4_readFromNumber_15 : decode cX4_readFromNumber 15 = .ok (.sipush 2027, 3) := by decide +kernel
theorem dX4_readFromNumber_18 : decode cX4_readFromNumber 18 = .ok (.invokevirtual 98, 3) := by decide +kernel
theorem dX4_readFromNumber_21 : decode cX4_readFromNumber 21 = .ok (.ifCond .eq 20, 3) := by decide +kernel
theorem dX4_readFromNumber_24 : decode cX4_readFromNumber 24 = .ok (.aload_n 0, 1) := by decide +kernel
theorem dX4_readFromNumber_25 : decode cX4_readFromNumber 25 = .ok (.getfield 12, 3) := by decide +kernel
theorem dX4_readFromNumber_28 : decode cX4_readFromNumber 28 = .ok (.invokevirtual 43, 3) := by decide +kernel
theorem dX4_readFromNumber_31 : decode cX4_readFromNumber 31 = .ok (.aload_n 0, 1) := by decide +kernel
theorem dX4_readFromNumber_32 : decode cX4_readFromNumber 32 = .ok (.bipush 10, 2) := by decide +kernel
theorem dX4_readFromNumber_34 : decode cX4_readFromNumber 34 = .ok (.iload_n 1, 1) := by decide +kernel
theorem dX4_readFromNumber_35 : decode cX4_readFromNumber 35 = .ok (.iconst 0, 1) := by decide +kernel
theorem dX4_readFromNumber_36 : decode cX4_readFromNumber 36 = .ok (.iconst 0, 1) := by decide +kernel
theorem dX4_readFromNumber_37 : decode cX4_readFromNumber 37 = .ok (.invokevirtual 52, 3) := by decide +kernel
theorem dX4_readFromNumber_40 : decode cX4_readFromNumber 40 = .ok (.ireturn, 1) := by decide +kernel
theorem dX4_readFromNumber_41 : decode cX4_readFromNumber 41 = .ok (.aload_n 0, 1) := by decide +kernel
theorem dX4_readFromNumber_42 : decode cX4_readFromNumber 42 = .ok (.getfield 12, 3) := by decide +kernel
theorem dX4_readFromNumber_45 : decode cX4_readFromNumber 45 = .ok (.iconst 1, 1) := by decide +kernel
theorem dX4_readFromNumber_46 : decode cX4_readFromNumber 46 = .ok (.bipush 99, 2) := by decide +kernel
theorem dX4_readFromNumber_48 : decode cX4_readFromNumber 48 = .ok (.invokevirtual 98, 3) := by decide +kernel
theorem dX4_readFromNumber_51 : decode cX4_readFromNumber 51 = .ok (.ifCond .ne 5, 3) := by decide +kernel
theorem dX4_readFromNumber_54 : decode cX4_readFromNumber 54 = .ok (.iconst 0, 1) := by decide +kernel
theorem dX4_readFromNumber_55 : decode cX4_readFromNumber 55 = .ok (.ireturn, 1) := by decide +kernel
theorem dX4_readFromNumber_56 : decode cX4_readFromNumber 56 = .ok (.aload_n 0, 1) := by decide +kernel
theorem dX4_readFromNumber_57 : decode cX4_readFromNumber 57 = .ok (.getfield 12, 3) := by decide +kernel
theorem dX4_readFromNumber_60 : decode cX4_readFromNumber 60 = .ok (.invokevirtual 43, 3) := by decide +kernel
theorem dX4_readFromNumber_63 : decode cX4_readFromNumber 63 = .ok (.aload_n 0, 1) := by decide +kernel
theorem dX4_readFromNumber_64 : decode cX4_readFromNumber 64 = .ok (.getfield 12, 3) := by decide +kernel
theorem dX4_readFromNumber_67 : decode cX4_readFromNumber 67 = .ok (.invokevirtual 102, 3) := by decide +kernel
theorem dX4_readFromNumber_70 : decode cX4_readFromNumber 70 = .ok (.ifCond .ne 5, 3) := by decide +kernel
theorem dX4_readFromNumber_73 : decode cX4_readFromNumber 73 = .ok (.iconst 0, 1) := by decide +kernel
theorem dX4_readFromNumber_74 : decode cX4_readFromNumber 74 = .ok (.ireturn, 1) := by decide +kernel
theorem dX4_readFromNumber_75 : decode cX4_readFromNumber 75 = .ok (.aload_n 0, 1) := by decide +kernel
theorem dX4_readFromNumber_76 : decode cX4_readFromNumber 76 = .ok (.getfield 12, 3) := by decide +kernel
theorem dX4_readFromNumber_79 : decode cX4_readFromNumber 79 = .ok (.getfield 40, 3) := by decide +kernel
theorem dX4_readFromNumber_82 : decode cX4_readFromNumber 82 = .ok (.istore_n 2, 1) := by decide +kernel
theorem dX4_readFromNumber_83 : decode cX4_readFromNumber 83 = .ok (.aload_n 0, 1) := by decide +kernel
theorem dX4_readFromNumber_84 : decode cX4_readFromNumber 84 = .ok (.getfield 12, 3) := by decide +kernel
theorem dX4_readFromNumber_87 : decode cX4_readFromNumber 87 = .ok (.invokevirtual 43, 3) := by decide +kernel
theorem dX4_readFromNumber_90 : decode cX4_readFromNumber 90 = .ok (.aload_n 0, 1) := by decide +kernel
theorem dX4_readFromNumber_91 : decode cX4_readFromNumber 91 = .ok (.getfield 12, 3) := by decide +kernel
theorem dX4_readFromNumber_94 : decode cX4_readFromNumber 94 = .ok (.getfield 40, 3) := by decide +kernel
theorem dX4_readFromNumber_97 : decode cX4_readFromNumber 97 = .ok (.istore_n 3, 1) := by decide +kernel
theorem dX4_readFromNumber_98 : decode cX4_readFromNumber 98 = .ok (.iload_n 3, 1) := by decide +kernel
theorem dX4_readFromNumber_99 : decode cX4_readFromNumber 99 = .ok (.bipush 35, 2) := by decide +kernel
theorem dX4_readFromNumber_101 : decode cX4_readFromNumber 101 = .ok (.if_icmp .eq 17, 3) := by decide +kernel
theorem dX4_readFromNumber_104 : decode cX4_readFromNumber 104 = .ok (.iload_n 3, 1) := by decide +kernel
theorem dX4_readFromNumber_105 : decode cX4_readFromNumber 105 = .ok (.bipush 36, 2) := by decide +kernel
theorem dX4_readFromNumber_107 : decode cX4_readFromNumber 107 = .ok (.if_icmp .eq 11, 3) := by decide +kernel
theorem dX4_readFromNumber_110 : decode cX4_readFromNumber 110 = .ok (.iload_n 3, 1) := by decide +kernel
theorem dX4_readFromNumber_111 : decode cX4_readFromNumber 111 = .ok (.bipush 37, 2) := by decide +kernel
theorem dX4_readFromNumber_113 : decode cX4_readFromNumber 113 = .ok (.if_icmp .eq 5, 3) := by decide +kernel
theorem dX4_readFromNumber_116 : decode cX4_readFromNumber 116 = .ok (.iconst 0, 1) := by decide +kernel
theorem dX4_readFromNumber_117 : decode cX4_readFromNumber 117 = .ok (.ireturn, 1) := by decide +kernel
theorem dX4_readFromNumber_118 : decode cX4_readFromNumber 118 = .ok (.aload_n 0, 1) := by decide +kernel
theorem dX4_readFromNumber_119 : decode cX4_readFromNumber 119 = .ok (.getfield 12, 3) := by decide +kernel
theorem dX4_readFromNumber_122 : decode cX4_readFromNumber 122 = .ok (.invokevirtual 43, 3) := by decide +kernel
theorem dX4_readFromNumber_125 : decode cX4_readFromNumber 125 = .ok (.iload_n 3, 1) := by decide +kernel
theorem dX4_readFromNumber_126 : decode cX4_readFromNumber 126 = .ok (.bipush 37, 2) := by decide +kernel
theorem dX4_readFromNumber_128 : decode cX4_readFromNumber 128 = .ok (.if_icmp .ne 13, 3) := by decide +kernel
theorem dX4_readFromNumber_131 : decode cX4_readFromNumber 131 = .ok (.aload_n 0, 1) := by decide +kernel
theorem dX4_readFromNumber_132 : decode cX4_readFromNumber 132 = .ok (.iconst 1, 1) := by decide +kernel
theorem dX4_readFromNumber_133 : decode cX4_readFromNumber 133 = .ok (.iload_n 2, 1) := by decide +kernel
theorem dX4_readFromNumber_134 : decode cX4_readFromNumber 134 = .ok (.iload_n 1, 1) := by decide +kernel
theorem dX4_readFromNumber_135 : decode cX4_readFromNumber 135 = .ok (.ineg, 1) := by decide +kernel
theorem dX4_readFromNumber_136 : decode cX4_readFromNumber 136 = .ok (.iconst 0, 1) := by decide +kernel
theorem dX4_readFromNumber_137 : decode cX4_readFromNumber 137 = .ok (.invokevirtual 52, 3) := by decide +kernel
theorem dX4_readFromNumber_140 : decode cX4_readFromNumber 140 = .ok (.ireturn, 1) := by decide +kernel
theorem dX4_readFromNumber_141 : decode cX4_readFromNumber 141 = .ok (.aload_n 0, 1) := by decide +kernel
theorem dX4_readFromNumber_142 : decode cX4_readFromNumber 142 = .ok (.iload_n 3, 1) := by decide +kernel
theorem dX4_readFromNumber_143 : decode cX4_readFromNumber 143 = .ok (.bipush 35, 2) := by decide +kernel
theorem dX4_readFromNumber_145 : decode cX4_readFromNumber 145 = .ok (.if_icmp .ne 8, 3) := by decide +kernel
theorem dX4_readFromNumber_148 : decode cX4_readFromNumber 148 = .ok (.bipush 11, 2) := by decide +kernel
theorem dX4_readFromNumber_150 : decode cX4_readFromNumber 150 = .ok (.goto 5, 3) := by decide +kernel
theorem dX4_readFromNumber_153 : decode cX4_readFromNumber 153 = .ok (.bipush 12, 2) := by decide +kernel
theorem dX4_readFromNumber_155 : decode cX4_readFromNumber 155 = .ok (.iload_n 2, 1) := by decide +kernel
theorem dX4_readFromNumber_156 : decode cX4_readFromNumber 156 = .ok (.iload_n 1, 1) := by decide +kernel
theorem dX4_readFromNumber_157 : decode cX4_readFromNumber 157 = .ok (.invokevirtual 81, 3) := by decide +kernel
theorem dX4_readFromNumber_160 : decode cX4_readFromNumber 160 = .ok (.ireturn, 1) := by decide +kernel
theorem dX4_readBehindIn_0 : decode cX4_readBehindIn 0 = .ok (.aload_n 0, 1) := by decide +kernel
theorem dX4_readBehindIn_1 : decode cX4_readBehindIn 1 = .ok (.getfield 12, 3) := by decide +kernel
theorem dX4_readBehindIn_4 : decode cX4_readBehindIn 4 = .ok (.iconst 1, 1) := by decide +kernel
theorem dX4_readBehindIn_5 : decode cX4_readBehindIn 5 = .ok (.bipush 99, 2) := by decide +kernel
theorem dX4_readBehindIn_7 : decode cX4_readBehindIn 7 = .ok (.invokevirtual 98, 3) := by decide +kernel
theorem dX4_readBehindIn_10 : decode cX4_readBehindIn 10 = .ok (.ifCond .ne 5, 3) := by decide +kernel
theorem dX4_readBehindIn_13 : decode cX4_readBehindIn 13 = .ok (.iconst 0, 1) := by decide +kernel
theorem dX4_readBehindIn_14 : decode cX4_readBehindIn 14 = .ok (.ireturn, 1) := by decide +kernel
theorem dX4_readBehindIn_15 : decode cX4_readBehindIn 15 = .ok (.aload_n 0, 1) := by decide +kernel
theorem dX4_readBehindIn_16 : decode cX4_readBehindIn 16 = .ok (.getfield 12, 3) := by decide +kernel
theorem dX4_readBehindIn_19 : decode cX4_readBehindIn 19 = .ok (.invokevirtual 95, 3) := by decide +kernel
theorem dX4_readBehindIn_22 : decode cX4_readBehindIn 22 = .ok (.istore_n 1, 1) := by decide +kernel
theorem dX4_readBehindIn_23 : decode cX4_readBehindIn 23 = .ok (.aload_n 0, 1) := by decide +kernel
theorem dX4_readBehindIn_24 : decode cX4_readBehindIn 24 = .ok (.getfield 12, 3) := by decide +kernel
theorem dX4_readBehindIn_27 : decode cX4_readBehindIn 27 = .ok (.invokevirtual 43, 3) := by decide +kernel
theorem dX4_readBehindIn_30 : decode cX4_readBehindIn 30 = .ok (.aload_n 0, 1) := by decide +kernel
theorem dX4_readBehindIn_31 : decode cX4_readBehindIn 31 = .ok (.getfield 12, 3) := by decide +kernel
theorem dX4_readBehindIn_34 : decode cX4_readBehindIn 34 = .ok (.invokevirtual 102, 3) := by decide +kernel
theorem dX4_readBehindIn_37 : decode cX4_readBehindIn 37 = .ok (.ifCond .ne 5, 3) := by decide +kernel
theorem dX4_readBehindIn_40 : decode cX4_readBehindIn 40 = .ok (.iconst 0, 1) := by decide +kernel
theorem dX4_readBehindIn_41 : decode cX4_readBehindIn 41 = .ok (.ireturn, 1) := by decide +kernel
theorem dX4_readBehindIn_42 : decode cX4_readBehindIn 42 = .ok (.aload_n 0, 1) := by decide +kernel
theorem dX4_readBehindIn_43 : decode cX4_readBehindIn 43 = .ok (.getfield 12, 3) := by decide +kernel
theorem dX4_readBehindIn_46 : decode cX4_readBehindIn 46 = .ok (.getfield 40, 3) := by decide +kernel
theorem dX4_readBehindIn_49 : decode cX4_readBehindIn 49 = .ok (.istore_n 2, 1) := by decide +kernel
theorem dX4_readBehindIn_50 : decode cX4_readBehindIn 50 = .ok (.aload_n 0, 1) := by decide +kernel
theorem dX4_readBehindIn_51 : decode cX4_readBehindIn 51 = .ok (.getfield 12, 3) := by decide +kernel
theorem dX4_readBehindIn_54 : decode cX4_readBehindIn 54 = .ok (.invokevirtual 43, 3) := by decide +kernel
theorem dX4_readBehindIn_57 : decode cX4_readBehindIn 57 = .ok (.aload_n 0, 1) := by decide +kernel
theorem dX4_readBehindIn_58 : decode cX4_readBehindIn 58 = .ok (.iconst 1, 1) := by decide +kernel
theorem dX4_readBehindIn_59 : decode cX4_readBehindIn 59 = .ok (.iload_n 2, 1) := by decide +kernel
theorem dX4_readBehindIn_60 : decode cX4_readBehindIn 60 = .ok (.iload_n 1, 1) := by decide +kernel
theorem dX4_readBehindIn_61 : decode cX4_readBehindIn 61 = .ok (.iconst 0, 1) := by decide +kernel
theorem dX4_readBehindIn_62 : decode cX4_readBehindIn 62 = .ok (.invokevirtual 52, 3) := by decide +kernel
theorem dX4_readBehindIn_65 : decode cX4_readBehindIn 65 = .ok (.ireturn, 1) := by decide +kernel
theorem dX4_readFromDayName_0 : decode cX4_readFromDayName 0 = .ok (.aload_n 0, 1) := by decide +kernel
theorem dX4_readFromDayName_1 : decode cX4_readFromDayName 1 = .ok (.getfield 12, 3) := by decide +kernel
theorem dX4_readFromDayName_4 : decode cX4_readFromDayName 4 = .ok (.getfield 40, 3) := by decide +kernel
theorem dX4_readFromDayName_7 : decode cX4_readFromDayName 7 = .ok (.iconst 4, 1) := by decide +kernel
theorem dX4_readFromDayName_8 : decode cX4_readFromDayName 8 = .ok (.isub, 1) := by decide +kernel
theorem dX4_readFromDayName_9 : decode cX4_readFromDayName 9 = .ok (.istore_n 1, 1) := by decide +kernel
theorem dX4_readFromDayName_10 : decode cX4_readFromDayName 10 = .ok (.aload_n 0, 1) := by decide +kernel
theorem dX4_readFromDayName_11 : decode cX4_readFromDayName 11 = .ok (.getfield 12, 3) := by decide +kernel
theorem dX4_readFromDayName_14 : decode cX4_readFromDayName 14 = .ok (.invokevirtual 43, 3) := by decide +kernel
theorem dX4_readFromDayName_17 : decode cX4_readFromDayName 17 = .ok (.aload_n 0, 1) := by decide +kernel
theorem dX4_readFromDayName_18 : decode cX4_readFromDayName 18 = .ok (.getfield 12, 3) := by decide +kernel
theorem dX4_readFromDayName_21 : decode cX4_readFromDayName 21 = .ok (.getfield 40, 3) := by decide +kernel
theorem dX4_readFromDayName_24 : decode cX4_readFromDayName 24 = .ok (.bipush 35, 2) := by decide +kernel
theorem dX4_readFromDayName_26 : decode cX4_readFromDayName 26 = .ok (.if_icmp .eq 12, 3) := by decide +kernel
theorem dX4_readFromDayName_29 : decode cX4_readFromDayName 29 = .ok (.aload_n 0, 1) := by decide +kernel
theorem dX4_readFromDayName_30 : decode cX4_readFromDayName 30 = .ok (.iconst 2, 1) := by decide +kernel
theorem dX4_readFromDayName_31 : decode cX4_readFromDayName 31 = .ok (.iload_n 1, 1) := by decide +kernel
theorem dX4_readFromDayName_32 : decode cX4_readFromDayName 32 = .ok (.iconst 0, 1) := by decide +kernel
theorem dX4_readFromDayName_33 : decode cX4_readFromDayName 33 = .ok (.iconst 0, 1) := by decide +kernel
theorem dX4_readFromDayName_34 : decode cX4_readFromDayName 34 = .ok (.invokevirtual 52, 3) := by decide +kernel
theorem dX4_readFromDayName_37 : decode cX4_readFromDayName 37 = .ok (.ireturn, 1) := by decide +kernel
theorem dX4_readFromDayName_38 : decode cX4_readFromDayName 38 = .ok (.aload_n 0, 1) := by decide +kernel
theorem dX4_readFromDayName_39 : decode cX4_readFromDayName 39 = .ok (.getfield 12, 3) := by decide +kernel
theorem dX4_readFromDayName_42 : decode cX4_readFromDayName 42 = .ok (.invokevirtual 43, 3) := by decide +kernel
theorem dX4_readFromDayName_45 : decode cX4_readFromDayName 45 = .ok (.aload_n 0, 1) := by decide +kernel
theorem dX4_readFromDayName_46 : decode cX4_readFromDayName 46 = .ok (.getfield 12, 3) := by decide +kernel
theorem dX4_readFromDayName_49 : decode cX4_readFromDayName 49 = .ok (.getfield 40, 3) := by decide +kernel
theorem dX4_readFromDayName_52 : decode cX4_readFromDayName 52 = .ok (.bipush 33, 2) := by decide +kernel
theorem dX4_readFromDayName_54 : decode cX4_readFromDayName 54 = .ok (.if_icmp .eq 5, 3) := by decide +kernel
theorem dX4_readFromDayName_57 : decode cX4_readFromDayName 57 = .ok (.iconst 0, 1) := by decide +kernel
theorem dX4_readFromDayName_58 : decode cX4_readFromDayName 58 = .ok (.ireturn, 1) := by decide +kernel
theorem dX4_readFromDayName_59 : decode cX4_readFromDayName 59 = .ok (.aload_n 0, 1) := by decide +kernel
theorem dX4_readFromDayName_60 : decode cX4_readFromDayName 60 = .ok (.getfield 12, 3) := by decide +kernel
theorem dX4_readFromDayName_63 : decode cX4_readFromDayName 63 = .ok (.invokevirtual 43, 3) := by decide +kernel
theorem dX4_readFromDayName_66 : decode cX4_readFromDayName 66 = .ok (.aload_n 0, 1) := by decide +kernel
theorem dX4_readFromDayName_67 : decode cX4_readFromDayName 67 = .ok (.bipush 6, 2) := by decide +kernel
theorem dX4_readFromDayName_69 : decode cX4_readFromDayName 69 = .ok (.iload_n 1, 1) := by decide +kernel
theorem dX4_readFromDayName_70 : decode cX4_readFromDayName 70 = .ok (.iconst 0, 1) := by decide +kernel
theorem dX4_readFromDayName_71 : decode cX4_readFromDayName 71 = .ok (.iconst 0, 1) := by decide +kernel
theorem dX4_readFromDayName_72 : decode cX4_readFromDayName 72 = .ok (.invokevirtual 52, 3) := by decide +kernel
theorem dX4_readFromDayName_75 : decode cX4_readFromDayName 75 = .ok (.ireturn, 1) := by decide +kernel
theorem dX4_readFromMonthName_0 : decode cX4_readFromMonthName 0 = .ok (.aload_n 0, 1) := by decide +kernel
theorem dX4_readFromMonthName_1 : decode cX4_readFromMonthName 1 = .ok (.getfield 12, 3) := by decide +kernel
theorem dX4_readFromMonthName_4 : decode cX4_readFromMonthName 4 = .ok (.getfield 40, 3) := by decide +kernel
theorem dX4_readFromMonthName_7 : decode cX4_readFromMonthName 7 = .ok (.bipush 11, 2) := by decide +kernel
theorem dX4_readFromMonthName_9 : decode cX4_readFromMonthName 9 = .ok (.isub, 1) := by decide +kernel
theorem dX4_readFromMonthName_10 : decode cX4_readFromMonthName 10 = .ok (.istore_n 1, 1) := by decide +kernel
theorem dX4_readFromMonthName_11 : decode cX4_readFromMonthName 11 = .ok (.aload_n 0, 1) := by decide +kernel
theorem dX4_readFromMonthName_12 : decode cX4_readFromMonthName 12 = .ok (.getfield 12, 3) := by decide +kernel
theorem dX4_readFromMonthName_15 : decode cX4_readFromMonthName 15 = .ok (.invokevirtual 43, 3) := by decide +kernel
theorem dX4_readFromMonthName_18 : decode cX4_readFromMonthName 18 = .ok (.aload_n 0, 1) := by decide +kernel
theorem dX4_readFromMonthName_19 : decode cX4_readFromMonthName 19 = .ok (.getfield 12, 3) := by decide +kernel
theorem dX4_readFromMonthName_22 : decode cX4_readFromMonthName 22 = .ok (.invokevirtual 60, 3) := by decide +kernel
theorem dX4_readFromMonthName_25 : decode cX4_readFromMonthName 25 = .ok (.ifCond .ne 13, 3) := by decide +kernel
theorem dX4_readFromMonthName_28 : decode cX4_readFromMonthName 28 = .ok (.aload_n 0, 1) := by decide +kernel
theorem dX4_readFromMonthName_29 : decode cX4_readFromMonthName 29 = .ok (.bipush 7, 2) := by decide +kernel
theorem dX4_readFromMonthName_31 : decode cX4_readFromMonthName 31 = .ok (.iload_n 1, 1) := by decide +kernel
theorem dX4_readFromMonthName_32 : decode cX4_readFromMonthName 32 = .ok (.iconst 0, 1) := by decide +kernel
theorem dX4_readFromMonthName_33 : decode cX4_readFromMonthName 33 = .ok (.iconst 0, 1) := by decide +kernel
theorem dX4_readFromMonthName_34 : decode cX4_readFromMonthName 34 = .ok (.invokevirtual 52, 3) := by decide +kernel
theorem dX4_readFromMonthName_37 : decode cX4_readFromMonthName 37 = .ok (.ireturn, 1) := by decide +kernel
theorem dX4_readFromMonthName_38 : decode cX4_readFromMonthName 38 = .ok (.aload_n 0, 1) := by decide +kernel
theorem dX4_readFromMonthName_39 : decode cX4_readFromMonthName 39 = .ok (.getfield 12, 3) := by decide +kernel
theorem dX4_readFromMonthName_42 : decode cX4_readFromMonthName 42 = .ok (.iconst 1, 1) := by decide +kernel
theorem dX4_readFromMonthName_43 : decode cX4_readFromMonthName 43 = .ok (.bipush 31, 2) := by decide +kernel
theorem dX4_readFromMonthName_45 : decode cX4_readFromMonthName 45 = .ok (.invokevirtual 98, 3) := by decide +kernel
theorem dX4_readFromMonthName_48 : decode cX4_readFromMonthName 48 = .ok (.ifCond .ne 5, 3) := by decide +kernel
theorem dX4_readFromMonthName_51 : decode cX4_readFromMonthName 51 = .ok (.iconst 0, 1) := by decide +kernel
theorem dX4_readFromMonthName_52 : decode cX4_readFromMonthName 52 = .ok (.ireturn, 1) := by decide +kernel
theorem dX4_readFromMonthName_53 : decode cX4_readFromMonthName 53 = .ok (.aload_n 0, 1) := by decide +kernel
theorem dX4_readFromMonthName_54 : decode cX4_readFromMonthName 54 = .ok (.getfield 12, 3) := by decide +kernel
theorem dX4_readFromMonthName_57 : decode cX4_readFromMonthName 57 = .ok (.invokevirtual 95, 3) := by decide +kernel
theorem dX4_readFromMonthName_60 : decode cX4_readFromMonthName 60 = .ok (.istore_n 2, 1) := by decide +kernel
theorem dX4_readFromMonthName_61 : decode cX4_readFromMonthName 61 = .ok (.aload_n 0, 1) := by decide +kernel
theorem dX4_readFromMonthName_62 : decode cX4_readFromMonthName 62 = .ok (.getfield 12, 3) := by decide +kernel
theorem dX4_readFromMonthName_65 : decode cX4_readFromMonthName 65 = .ok (.invokevirtual 43, 3) := by decide +kernel
theorem dX4_readFromMonthName_68 : decode cX4_readFromMonthName 68 = .ok (.aload_n 0, 1) := by decide +kernel
theorem dX4_readFromMonthName_69 : decode cX4_readFromMonthName 69 = .ok (.getfield 12, 3) := by decide +kernel
theorem dX4_readFromMonthName_72 : decode cX4_readFromMonthName 72 = .ok (.invokevirtual 60, 3) := by decide +kernel
theorem dX4_readFromMonthName_75 : decode cX4_readFromMonthName 75 = .ok (.ifCond .ne 13, 3) := by decide +kernel
theorem dX4_readFromMonthName_78 : decode cX4_readFromMonthName 78 = .ok (.aload_n 0, 1) := by decide +kernel
theorem dX4_readFromMonthName_79 : decode cX4_readFromMonthName 79 = .ok (.bipush 8, 2) := by decide +kernel
theorem dX4_readFromMonthName_81 : decode cX4_readFromMonthName 81 = .ok (.iload_n 1, 1) := by decide +kernel
theorem dX4_readFromMonthName_82 : decode cX4_readFromMonthName 82 = .ok (.iload_n 2, 1) := by decide +kernel
theorem dX4_readFromMonthName_83 : decode cX4_readFromMonthName 83 = .ok (.iconst 0, 1) := by decide +kernel
theorem dX4_readFromMonthName_84 : decode cX4_readFromMonthName 84 = .ok (.invokevirtual 52, 3) := by decide +kernel
theorem dX4_readFromMonthName_87 : decode cX4_readFromMonthName 87 = .ok (.ireturn, 1) := by decide +kernel
theorem dX4_readFromMonthName_88 : decode cX4_readFromMonthName 88 = .ok (.aload_n 0, 1) := by decide +kernel
theorem dX4_readFromMonthName_89 : decode cX4_readFromMonthName 89 = .ok (.getfield 12, 3) := by decide +kernel
theorem dX4_readFromMonthName_92 : decode cX4_readFromMonthName 92 = .ok (.sipush 2000, 3) := by decide +kernel
theorem dX4_readFromMonthName_95 : decode cX4_readFromMonthName 95 = .ok (.sipush 2027, 3) := by decide +kernel
theorem dX4_readFromMonthName_98 : decode cX4_readFromMonthName 98 = .ok (.invokevirtual 98, 3) := by decide +kernel
theorem dX4_readFromMonthName_101 : decode cX4_readFromMonthName 101 = .ok (.ifCond .ne 5, 3) := by decide +kernel
theorem dX4_readFromMonthName_104 : decode cX4_readFromMonthName 104 = .ok (.iconst 0, 1) := by decide +kernel
theorem dX4_readFromMonthName_105 : decode cX4_readFromMonthName 105 = .ok (.ireturn, 1) := by decide +kernel
theorem dX4_readFromMonthName_106 : decode cX4_readFromMonthName 106 = .ok (.aload_n 0, 1) := by decide +kernel
theorem dX4_readFromMonthName_107 : decode cX4_readFromMonthName 107 = .ok (.getfield 12, 3) := by decide +kernel
theorem dX4_readFromMonthName_110 : decode cX4_readFromMonthName 110 = .ok (.invokevirtual 95, 3) := by decide +kernel
theorem dX4_readFromMonthName_113 : decode cX4_readFromMonthName 113 = .ok (.istore_n 3, 1) := by decide +kernel
theorem dX4_readFromMonthName_114 : decode cX4_readFromMonthName 114 = .ok (.aload_n 0, 1) := by decide +kernel
theorem dX4_readFromMonthName_115 : decode cX4_readFromMonthName 115 = .ok (.getfield 12, 3) := by decide +kernel
theorem dX4_readFromMonthName_118 : decode cX4_readFromMonthName 118 = .ok (.invokevirtual 43, 3) := by decide +kernel
theorem dX4_readFromMonthName_121 : decode cX4_readFromMonthName 121 = .ok (.aload_n 0, 1) := by decide +kernel
theorem dX4_readFromMonthName_122 : decode cX4_readFromMonthName 122 = .ok (.bipush 9, 2) := by decide +kernel
theorem dX4_readFromMonthName_124 : decode cX4_readFromMonthName 124 = .ok (.iload_n 1, 1) := by decide +kernel
theorem dX4_readFromMonthName_125 : decode cX4_readFromMonthName 125 = .ok (.iload_n 2, 1) := by decide +kernel
theorem dX4_readFromMonthName_126 : decode cX4_readFromMonthName 126 = .ok (.iload_n 3, 1) := by decide +kernel
theorem dX4_readFromMonthName_127 : decode cX4_readFromMonthName 127 = .ok (.invokevirtual 52, 3) := by decide +kernel
theorem dX4_readFromMonthName_130 : decode cX4_readFromMonthName 130 = .ok (.ireturn, 1) := by decide +kernel
theorem dX4_readBehindFirst_0 : decode cX4_readBehindFirst 0 = .ok (.aload_n 0, 1) := by decide +kernel
theorem dX4_readBehindFirst_1 : decode cX4_readBehindFirst 1 = .ok (.getfield 12, 3) := by decide +kernel
theorem dX4_readBehindFirst_4 : decode cX4_readBehindFirst 4 = .ok (.invokevirtual 66, 3) := by decide +kernel
theorem dX4_readBehindFirst_7 : decode cX4_readBehindFirst 7 = .ok (.ifCond .ne 5, 3) := by decide +kernel
theorem dX4_readBehindFirst_10 : decode cX4_readBehindFirst 10 = .ok (.iconst 0, 1) := by decide +kernel
theorem dX4_readBehindFirst_11 : decode cX4_readBehindFirst 11 = .ok (.ireturn, 1) := by decide +kernel
theorem dX4_readBehindFirst_12 : decode cX4_readBehindFirst 12 = .ok (.aload_n 0, 1) := by decide +kernel
theorem dX4_readBehindFirst_13 : decode cX4_readBehindFirst 13 = .ok (.getfield 12, 3) := by decide +kernel
theorem dX4_readBehindFirst_16 : decode cX4_readBehindFirst 16 = .ok (.getfield 40, 3) := by decide +kernel
theorem dX4_readBehindFirst_19 : decode cX4_readBehindFirst 19 = .ok (.iconst 4, 1) := by decide +kernel
theorem dX4_readBehindFirst_20 : decode cX4_readBehindFirst 20 = .ok (.isub, 1) := by decide +kernel
theorem dX4_readBehindFirst_21 : decode cX4_readBehindFirst 21 = .ok (.istore_n 1, 1) := by decide +kernel
theorem dX4_readBehindFirst_22 : decode cX4_readBehindFirst 22 = .ok (.aload_n 0, 1) := by decide +kernel
theorem dX4_readBehindFirst_23 : decode cX4_readBehindFirst 23 = .ok (.getfield 12, 3) := by decide +kernel
theorem dX4_readBehindFirst_26 : decode cX4_readBehindFirst 26 = .ok (.invokevirtual 43, 3) := by decide +kernel
theorem dX4_readBehindFirst_29 : decode cX4_readBehindFirst 29 = .ok (.aload_n 0, 1) := by decide +kernel
theorem dX4_readBehindFirst_30 : decode cX4_readBehindFirst 30 = .ok (.getfield 12, 3) := by decide +kernel
theorem dX4_readBehindFirst_33 : decode cX4_readBehindFirst 33 = .ok (.getfield 40, 3) := by decide +kernel
theorem dX4_readBehindFirst_36 : decode cX4_readBehindFirst 36 = .ok (.bipush 34, 2) := by decide +kernel
theorem dX4_readBehindFirst_38 : decode cX4_readBehindFirst 38 = .ok (.if_icmp .eq 5, 3) := by decide +kernel
theorem dX4_readBehindFirst_41 : decode cX4_readBehindFirst 41 = .ok (.iconst 0, 1) := by decide +kernel
theorem dX4_readBehindFirst_42 : decode cX4_readBehindFirst 42 = .ok (.ireturn, 1) := by decide +kernel
theorem dX4_readBehindFirst_43 : decode cX4_readBehindFirst 43 = .ok (.aload_n 0, 1) := by decide +kernel
theorem dX4_readBehindFirst_44 : decode cX4_readBehindFirst 44 = .ok (.getfield 12, 3) := by decide +kernel
theorem dX4_readBehindFirst_47 : decode cX4_readBehindFirst 47 = .ok (.invokevirtual 43, 3) := by decide +kernel
theorem dX4_readBehindFirst_50 : decode cX4_readBehindFirst 50 = .ok (.aload_n 0, 1) := by decide +kernel
theorem dX4_readBehindFirst_51 : decode cX4_readBehindFirst 51 = .ok (.bipush 16, 2) := by decide +kernel
theorem dX4_readBehindFirst_53 : decode cX4_readBehindFirst 53 = .ok (.iload_n 1, 1) := by decide +kernel
theorem dX4_readBehindFirst_54 : decode cX4_readBehindFirst 54 = .ok (.iconst 0, 1) := by decide +kernel
theorem dX4_readBehindFirst_55 : decode cX4_readBehindFirst 55 = .ok (.invokevirtual 81, 3) := by decide +kernel
theorem dX4_readBehindFirst_58 : decode cX4_readBehindFirst 58 = .ok (.ireturn, 1) := by decide +kernel
theorem dX4_readBehindThis_0 : decode cX4_readBehindThis 0 = .ok (.aload_n 0, 1) := by decide +kernel
theorem dX4_readBehindThis_1 : decode cX4_readBehindThis 1 = .ok (.getfield 12, 3) := by decide +kernel
theorem dX4_readBehindThis_4 : decode cX4_readBehindThis 4 = .ok (.getfield 40, 3) := by decide +kernel
theorem dX4_readBehindThis_7 : decode cX4_readBehindThis 7 = .ok (.istore_n 3, 1) := by decide +kernel
theorem dX4_readBehindThis_8 : decode cX4_readBehindThis 8 = .ok (.aload_n 0, 1) := by decide +kernel
theorem dX4_readBehindThis_9 : decode cX4_readBehindThis 9 = .ok (.getfield 12, 3) := by decide +kernel
theorem dX4_readBehindThis_12 : decode cX4_readBehindThis 12 = .ok (.invokevirtual 102, 3) := by decide +kernel
theorem dX4_readBehindThis_15 : decode cX4_readBehindThis 15 = .ok (.ifCond .eq 19, 3) := by decide +kernel
theorem dX4_readBehindThis_18 : decode cX4_readBehindThis 18 = .ok (.aload_n 0, 1) := by decide +kernel
theorem dX4_readBehindThis_19 : decode cX4_readBehindThis 19 = .ok (.getfield 12, 3) := by decide +kernel
theorem dX4_readBehindThis_22 : decode cX4_readBehindThis 22 = .ok (.invokevirtual 43, 3) := by decide +kernel
theorem dX4_readBehindThis_25 : decode cX4_readBehindThis 25 = .ok (.aload_n 0, 1) := by decide +kernel
theorem dX4_readBehindThis_26 : decode cX4_readBehindThis 26 = .ok (.iconst 0, 1) := by decide +kernel
theorem dX4_readBehindThis_27 : decode cX4_readBehindThis 27 = .ok (.iload_n 3, 1) := by decide +kernel
theorem dX4_readBehindThis_28 : decode cX4_readBehindThis 28 = .ok (.iload_n 2, 1) := by decide +kernel
theorem dX4_readBehindThis_29 : decode cX4_readBehindThis 29 = .ok (.iconst 0, 1) := by decide +kernel
theorem dX4_readBehindThis_30 : decode cX4_readBehindThis 30 = .ok (.invokevirtual 52, 3) := by decide +kernel
theorem dX4_readBehindThis_33 : decode cX4_readBehindThis 33 = .ok (.ireturn, 1) := by decide +kernel
theorem dX4_readBehindThis_34 : decode cX4_readBehindThis 34 = .ok (.aload_n 0, 1) := by decide +kernel
theorem dX4_readBehindThis_35 : decode cX4_readBehindThis 35 = .ok (.getfield 12, 3) := by decide +kernel
theorem dX4_readBehindThis_38 : decode cX4_readBehindThis 38 = .ok (.invokevirtual 66, 3) := by decide +kernel
theorem dX4_readBehindThis_41 : decode cX4_readBehindThis 41 = .ok (.ifCond .ne 5, 3) := by decide +kernel
theorem dX4_readBehindThis_44 : decode cX4_readBehindThis 44 = .ok (.iconst 0, 1) := by decide +kernel
theorem dX4_readBehindThis_45 : decode cX4_readBehindThis 45 = .ok (.ireturn, 1) := by decide +kernel
theorem dX4_readBehindThis_46 : decode cX4_readBehindThis 46 = .ok (.iload_n 3, 1) := by decide +kernel
theorem dX4_readBehindThis_47 : decode cX4_readBehindThis 47 = .ok (.iconst 4, 1) := by decide +kernel
theorem dX4_readBehindThis_48 : decode cX4_readBehindThis 48 = .ok (.isub, 1) := by decide +kernel
theorem dX4_readBehindThis_49 : decode cX4_readBehindThis 49 = .ok (.istore 4, 2) := by decide +kernel
theorem dX4_readBehindThis_51 : decode cX4_readBehindThis 51 = .ok (.aload_n 0, 1) := by decide +kernel
theorem dX4_readBehindThis_52 : decode cX4_readBehindThis 52 = .ok (.getfield 12, 3) := by decide +kernel
theorem dX4_readBehindThis_55 : decode cX4_readBehindThis 55 = .ok (.invokevirtual 43, 3) := by decide +kernel
theorem dX4_readBehindThis_58 : decode cX4_readBehindThis 58 = .ok (.iload_n 1, 1) := by decide +kernel
theorem dX4_readBehindThis_59 : decode cX4_readBehindThis 59 = .ok (.iconst 5, 1) := by decide +kernel
theorem dX4_readBehindThis_60 : decode cX4_readBehindThis 60 = .ok (.if_icmp .ne 32, 3) := by decide +kernel
theorem dX4_readBehindThis_63 : decode cX4_readBehindThis 63 = .ok (.aload_n 0, 1) := by decide +kernel
theorem dX4_readBehindThis_64 : decode cX4_readBehindThis 64 = .ok (.getfield 12, 3) := by decide +kernel
theorem dX4_readBehindThis_67 : decode cX4_readBehindThis 67 = .ok (.getfield 40, 3) := by decide +kernel
theorem dX4_readBehindThis_70 : decode cX4_readBehindThis 70 = .ok (.bipush 34, 2) := by decide +kernel
theorem dX4_readBehindThis_72 : decode cX4_readBehindThis 72 = .ok (.if_icmp .ne 20, 3) := by decide +kernel
theorem dX4_readBehindThis_75 : decode cX4_readBehindThis 75 = .ok (.aload_n 0, 1) := by decide +kernel
theorem dX4_readBehindThis_76 : decode cX4_readBehindThis 76 = .ok (.getfield 12, 3) := by decide +kernel
theorem dX4_readBehindThis_79 : decode cX4_readBehindThis 79 = .ok (.invokevirtual 43, 3) := by decide +kernel
theorem dX4_readBehindThis_82 : decode cX4_readBehindThis 82 = .ok (.aload_n 0, 1) := by decide +kernel
theorem dX4_readBehindThis_83 : decode cX4_readBehindThis 83 = .ok (.bipush 17, 2) := by decide +kernel
theorem dX4_readBehindThis_85 : decode cX4_readBehindThis 85 = .ok (.iload 4, 2) := by decide +kernel
theorem dX4_readBehindThis_87 : decode cX4_readBehindThis 87 = .ok (.iconst 0, 1) := by decide +kernel
theorem dX4_readBehindThis_88 : decode cX4_readBehindThis 88 = .ok (.invokevirtual 81, 3) := by decide +kernel
theorem dX4_readBehindThis_91 : decode cX4_readBehindThis 91 = .ok (.ireturn, 1) := by decide +kernel
theorem dX4_readBehindThis_92 : decode cX4_readBehindThis 92 = .ok (.aload_n 0, 1) := by decide +kernel
theorem dX4_readBehindThis_93 : decode cX4_readBehindThis 93 = .ok (.iload_n 1, 1) := by decide +kernel
theorem dX4_readBehindThis_94 : decode cX4_readBehindThis 94 = .ok (.iload 4, 2) := by decide +kernel
theorem dX4_readBehindThis_96 : decode cX4_readBehindThis 96 = .ok (.iconst 0, 1) := by decide +kernel
theorem dX4_readBehindThis_97 : decode cX4_readBehindThis 97 = .ok (.iconst 0, 1) := by decide +kernel
theorem dX4_readBehindThis_98 : decode cX4_readBehindThis 98 = .ok (.invokevirtual 52, 3) := by decide +kernel
theorem dX4_readBehindThis_101 : decode cX4_readBehindThis 101 = .ok (.ireturn, 1) := by decide +kernel
theorem dX4_base_0 : decode cX4_base 0 = .ok (.aload_n 0, 1) := by decide +kernel
theorem dX4_base_1 : decode cX4_base 1 = .ok (.getfield 22, 3) := by decide +kernel
theorem dX4_base_4 : decode cX4_base 4 = .ok (.iconst 4, 1) := by decide +kernel
theorem dX4_base_5 : decode cX4_base 5 = .ok (.imul, 1) := by decide +kernel
theorem dX4_base_6 : decode cX4_base 6 = .ok (.istore 5, 2) := by decide +kernel
theorem dX4_base_8 : decode cX4_base 8 = .ok (.iload 5, 2) := by decide +kernel
theorem dX4_base_10 : decode cX4_base 10 = .ok (.ifCond .lt 15, 3) := by decide +kernel
theorem dX4_base_13 : decode cX4_base 13 = .ok (.iload 5, 2) := by decide +kernel
theorem dX4_base_15 : decode cX4_base 15 = .ok (.iconst 4, 1) := by decide +kernel
theorem dX4_base_16 : decode cX4_base 16 = .ok (.iadd, 1) := by decide +kernel
theorem dX4_base_17 : decode cX4_base 17 = .ok (.aload_n 0, 1) := by decide +kernel
theorem dX4_base_18 : decode cX4_base 18 = .ok (.getfield 18, 3) := by decide +kernel
theorem dX4_base_21 : decode cX4_base 21 = .ok (.arraylength, 1) := by decide +kernel
theorem dX4_base_22 : decode cX4_base 22 = .ok (.if_icmp .le 5, 3) := by decide +kernel
theorem dX4_base_25 : decode cX4_base 25 = .ok (.iconst 0, 1) := by decide +kernel
theorem dX4_base_26 : decode cX4_base 26 = .ok (.ireturn, 1) := by decide +kernel
theorem dX4_base_27 : decode cX4_base 27 = .ok (.aload_n 0, 1) := by decide +kernel
theorem dX4_base_28 : decode cX4_base 28 = .ok (.getfield 18, 3) := by decide +kernel
theorem dX4_base_31 : decode cX4_base 31 = .ok (.iload 5, 2) := by decide +kernel
theorem dX4_base_33 : decode cX4_base 33 = .ok (.iload_n 1, 1) := by decide +kernel
theorem dX4_base_34 : decode cX4_base 34 = .ok (.iastore, 1) := by decide +kernel
theorem dX4_base_35 : decode cX4_base 35 = .ok (.aload_n 0, 1) := by decide +kernel
theorem dX4_base_36 : decode cX4_base 36 = .ok (.getfield 18, 3) := by decide +kernel
theorem dX4_base_39 : decode cX4_base 39 = .ok (.iload 5, 2) := by decide +kernel
theorem dX4_base_41 : decode cX4_base 41 = .ok (.iconst 1, 1) := by decide +kernel
theorem dX4_base_42 : decode cX4_base 42 = .ok (.iadd, 1) := by decide +kernel
theorem dX4_base_43 : decode cX4_base 43 = .ok (.iload_n 2, 1) := by decide +kernel
theorem dX4_base_44 : decode cX4_base 44 = .ok (.iastore, 1) := by decide +kernel
theorem dX4_base_45 : decode cX4_base 45 = .ok (.aload_n 0, 1) := by decide +kernel
theorem dX4_base_46 : decode cX4_base 46 = .ok (.getfield 18, 3) := by decide +kernel
theorem dX4_base_49 : decode cX4_base 49 = .ok (.iload 5, 2) := by decide +kernel
theorem dX4_base_51 : decode cX4_base 51 = .ok (.iconst 2, 1) := by decide +kernel
theorem dX4_base_52 : decode cX4_base 52 = .ok (.iadd, 1) := by decide +kernel
theorem dX4_base_53 : decode cX4_base 53 = .ok (.iload_n 3, 1) := by decide +kernel
theorem dX4_base_54 : decode cX4_base 54 = .ok (.iastore, 1) := by decide +kernel
theorem dX4_base_55 : decode cX4_base 55 = .ok (.aload_n 0, 1) := by decide +kernel
theorem dX4_base_56 : decode cX4_base 56 = .ok (.getfield 18, 3) := by decide +kernel
theorem dX4_base_59 : decode cX4_base 59 = .ok (.iload 5, 2) := by decide +kernel
theorem dX4_base_61 : decode cX4_base 61 = .ok (.iconst 3, 1) := by decide +kernel
theorem dX4_base_62 : decode cX4_base 62 = .ok (.iadd, 1) := by decide +kernel
theorem dX4_base_63 : decode cX4_base 63 = .ok (.iload 4, 2) := by decide +kernel
theorem dX4_base_65 : decode cX4_base 65 = .ok (.iastore, 1) := by decide +kernel
theorem dX4_base_66 : decode cX4_base 66 = .ok (.aload_n 0, 1) := by decide +kernel
theorem dX4_base_67 : decode cX4_base 67 = .ok (.dup, 1) := by decide +kernel
theorem dX4_base_68 : decode cX4_base 68 = .ok (.getfield 22, 3) := by decide +kernel
theorem dX4_base_71 : decode cX4_base 71 = .ok (.iconst 1, 1) := by decide +kernel
theorem dX4_base_72 : decode cX4_base 72 = .ok (.iadd, 1) := by decide +kernel
theorem dX4_base_73 : decode cX4_base 73 = .ok (.putfield 22, 3) := by decide +kernel
theorem dX4_base_76 : decode cX4_base 76 = .ok (.iconst 2, 1) := by decide +kernel
theorem dX4_base_77 : decode cX4_base 77 = .ok (.ireturn, 1) := by decide +kernel
theorem dX4_prefix_0 : decode cX4_prefix 0 = .ok (.aload_n 0, 1) := by decide +kernel
theorem dX4_prefix_1 : decode cX4_prefix 1 = .ok (.getfield 29, 3) := by decide +kernel
theorem dX4_prefix_4 : decode cX4_prefix 4 = .ok (.iconst 4, 1) := by decide +kernel
theorem dX4_prefix_5 : decode cX4_prefix 5 = .ok (.imul, 1) := by decide +kernel
theorem dX4_prefix_6 : decode cX4_prefix 6 = .ok (.istore 4, 2) := by decide +kernel
theorem dX4_prefix_8 : decode cX4_prefix 8 = .ok (.iload 4, 2) := by decide +kernel
theorem dX4_prefix_10 : decode cX4_prefix 10 = .ok (.ifCond .lt 15, 3) := by decide +kernel
theorem dX4_prefix_13 : decode cX4_prefix 13 = .ok (.iload 4, 2) := by decide +kernel
theorem dX4_prefix_15 : decode cX4_prefix 15 = .ok (.iconst 4, 1) := by decide +kernel
theorem dX4_prefix_16 : decode cX4_prefix 16 = .ok (.iadd, 1) := by decide +kernel
theorem dX4_prefix_17 : decode cX4_prefix 17 = .ok (.aload_n 0, 1) := by decide +kernel
theorem dX4_prefix_18 : decode cX4_prefix 18 = .ok (.getfield 26, 3) := by decide +kernel
theorem dX4_prefix_21 : decode cX4_prefix 21 = .ok (.arraylength, 1) := by decide +kernel
theorem dX4_prefix_22 : decode cX4_prefix 22 = .ok (.if_icmp .le 5, 3) := by decide +kernel
theorem dX4_prefix_25 : decode cX4_prefix 25 = .ok (.iconst 0, 1) := by decide +kernel
theorem dX4_prefix_26 : decode cX4_prefix 26 = .ok (.ireturn, 1) := by decide +kernel
theorem dX4_prefix_27 : decode cX4_prefix 27 = .ok (.aload_n 0, 1) := by decide +kernel
theorem dX4_prefix_28 : decode cX4_prefix 28 = .ok (.getfield 26, 3) := by decide +kernel
theorem dX4_prefix_31 : decode cX4_prefix 31 = .ok (.iload 4, 2) := by decide +kernel
theorem dX4_prefix_33 : decode cX4_prefix 33 = .ok (.iload_n 1, 1) := by decide +kernel
theorem dX4_prefix_34 : decode cX4_prefix 34 = .ok (.iastore, 1) := by decide +kernel
theorem dX4_prefix_35 : decode cX4_prefix 35 = .ok (.aload_n 0, 1) := by decide +kernel
theorem dX4_prefix_36 : decode cX4_prefix 36 = .ok (.getfield 26, 3) := by decide +kernel
theorem dX4_prefix_39 : decode cX4_prefix 39 = .ok (.iload 4, 2) := by decide +kernel
theorem dX4_prefix_41 : decode cX4_prefix 41 = .ok (.iconst 1, 1) := by decide +kernel
theorem dX4_prefix_42 : decode cX4_prefix 42 = .ok (.iadd, 1) := by decide +kernel
theorem dX4_prefix_43 : decode cX4_prefix 43 = .ok (.iload_n 2, 1) := by decide +kernel
theorem dX4_prefix_44 : decode cX4_prefix 44 = .ok (.iastore, 1) := by decide +kernel
theorem dX4_prefix_45 : decode cX4_prefix 45 = .ok (.aload_n 0, 1) := by decide +kernel
theorem dX4_prefix_46 : decode cX4_prefix 46 = .ok (.getfield 26, 3) := by decide +kernel
theorem dX4_prefix_49 : decode cX4_prefix 49 = .ok (.iload 4, 2) := by decide +kernel
theorem dX4_prefix_51 : decode cX4_prefix 51 = .ok (.iconst 2, 1) := by decide +kernel
theorem dX4_prefix_52 : decode cX4_prefix 52 = .ok (.iadd, 1) := by decide +kernel
theorem dX4_prefix_53 : decode cX4_prefix 53 = .ok (.iload_n 3, 1) := by decide +kernel
theorem dX4_prefix_54 : decode cX4_prefix 54 = .ok (.iastore, 1) := by decide +kernel
theorem dX4_prefix_55 : decode cX4_prefix 55 = .ok (.aload_n 0, 1) := by decide +kernel
theorem dX4_prefix_56 : decode cX4_prefix 56 = .ok (.dup, 1) := by decide +kernel
theorem dX4_prefix_57 : decode cX4_prefix 57 = .ok (.getfield 29, 3) := by decide +kernel
theorem dX4_prefix_60 : decode cX4_prefix 60 = .ok (.iconst 1, 1) := by decide +kernel
theorem dX4_prefix_61 : decode cX4_prefix 61 = .ok (.iadd, 1) := by decide +kernel
theorem dX4_prefix_62 : decode cX4_prefix 62 = .ok (.putfield 29, 3) := by decide +kernel
theorem dX4_prefix_65 : decode cX4_prefix 65 = .ok (.iconst 1, 1) := by decide +kernel
theorem dX4_prefix_66 : decode cX4_prefix 66 = .ok (.ireturn, 1) := by decide +kernel
theorem dX5_init_0 : decode cX5_init 0 = .ok (.aload_n 0, 1) := by decide +kernel
theorem dX5_init_1 : decode cX5_init 1 = .ok (.invokespecial 3, 3) := by decide +kernel
theorem dX5_init_4 : decode cX5_init 4 = .ok (.aload_n 0, 1) := by decide +kernel
theorem dX5_init_5 : decode cX5_init 5 = .ok (.bipush 24, 2) := by decide +kernel
theorem dX5_init_7 : decode cX5_init 7 = .ok (.newarray .int, 2) := by decide +kernel
theorem dX5_init_9 : decode cX5_init 9 = .ok (.putfield 9, 3) := by decide +kernel
theorem dX5_init_12 : decode cX5_init 12 = .ok (.aload_n 0, 1) := by decide +kernel
theorem dX5_init_13 : decode cX5_init 13 = .ok (.iconst 0, 1) := by decide +kernel
theorem dX5_init_14 : decode cX5_init 14 = .ok (.putfield 15, 3) := by decide +kernel
theorem dX5_init_17 : decode cX5_init 17 = .ok (.aload_n 0, 1) := by decide +kernel
theorem dX5_init_18 : decode cX5_init 18 = .ok (.iconst 0, 1) := by decide +kernel
theorem dX5_init_19 : decode cX5_init 19 = .ok (.putfield 19, 3) := by decide +kernel
theorem dX5_init_22 : decode cX5_init 22 = .ok (.return_, 1) := by decide +kernel
theorem dX5_clear_0 : decode cX5_clear 0 = .ok (.aload_n 0, 1) := by decide +kernel
theorem dX5_clear_1 : decode cX5_clear 1 = .ok (.iconst 0, 1) := by decide +kernel
theorem dX5_clear_2 : decode cX5_clear 2 = .ok (.putfield 15, 3) := by decide +kernel
theorem dX5_clear_5 : decode cX5_clear 5 = .ok (.aload_n 0, 1) := by decide +kernel
theorem dX5_clear_6 : decode cX5_clear 6 = .ok (.iconst 0, 1) := by decide +kernel
theorem dX5_clear_7 : decode cX5_clear 7 = .ok (.putfield 19, 3) := by decide +kernel
theorem dX5_clear_10 : decode cX5_clear 10 = .ok (.return_, 1) := by decide +kernel
theorem dX5_value_0 : decode cX5_value 0 = .ok (.iload_n 1, 1) := by decide +kernel
theorem dX5_value_1 : decode cX5_value 1 = .ok (.ifCond .lt 31, 3) := by decide +kernel
theorem dX5_value_4 : decode cX5_value 4 = .ok (.iload_n 1, 1) := by decide +kernel
theorem dX5_value_5 : decode cX5_value 5 = .ok (.bipush 6, 2) := by decide +kernel
theorem dX5_value_7 : decode cX5_value 7 = .ok (.if_icmp .ge 25, 3) := by decide +kernel
theorem dX5_value_10 : decode cX5_value 10 = .ok (.iload_n 2, 1) := by decide +kernel
theorem dX5_value_11 : decode cX5_value 11 = .ok (.ifCond .lt 21, 3) := by decide +kernel
theorem dX5_value_14 : decode cX5_value 14 = .ok (.iload_n 2, 1) := by decide +kernel
theorem dX5_value_15 : decode cX5_value 15 = .ok (.iconst 4, 1) := by decide +kernel
theorem dX5_value_16 : decode cX5_value 16 = .ok (.if_icmp .ge 16, 3) := by decide +kernel
theorem dX5_value_19 : decode cX5_value 19 = .ok (.aload_n 0, 1) := by decide +kernel
theorem dX5_value_20 : decode cX5_value 20 = .ok (.getfield 9, 3) := by decide +kernel
theorem dX5_value_23 : decode cX5_value 23 = .ok (.iload_n 1, 1) := by decide +kernel
theorem dX5_value_24 : decode cX5_value 24 = .ok (.iconst 4, 1) := by decide +kernel
theorem dX5_value_25 : decode cX5_value 25 = .ok (.imul, 1) := by decide +kernel
theorem dX5_value_26 : decode cX5_value 26 = .ok (.iload_n 2, 1) := by decide +kernel
theorem dX5_value_27 : decode cX5_value 27 = .ok (.iadd, 1) := by decide +kernel
theorem dX5_value_28 : decode cX5_value 28 = .ok (.iaload, 1) := by decide +kernel
theorem dX5_value_29 : decode cX5_value 29 = .ok (.goto 4, 3) := by decide +kernel
theorem dX5_value_32 : decode cX5_value 32 = .ok (.iconst 0, 1) := by decide +kernel
theorem dX5_value_33 : decode cX5_value 33 = .ok (.ireturn, 1) := by decide +kernel
theorem dX5_add_0 : decode cX5_add 0 = .ok (.iload_n 1, 1) := by decide +kernel
theorem dX5_add_1 : decode cX5_add 1 = .ok (.ifCond .lt 15, 3) := by decide +kernel
theorem dX5_add_4 : decode cX5_add 4 = .ok (.iload_n 2, 1) := by decide +kernel
theorem dX5_add_5 : decode cX5_add 5 = .ok (.sipush 9999, 3) := by decide +kernel
theorem dX5_add_8 : decode cX5_add 8 = .ok (.if_icmp .gt 8, 3) := by decide +kernel
theorem dX5_add_11 : decode cX5_add 11 = .ok (.iload_n 1, 1) := by decide +kernel
theorem dX5_add_12 : decode cX5_add 12 = .ok (.iload_n 2, 1) := by decide +kernel
theorem dX5_add_13 : decode cX5_add 13 = .ok (.if_icmp .le 4, 3) := by decide +kernel
theorem dX5_add_16 : decode cX5_add 16 = .ok (.return_, 1) := by decide +kernel
theorem dX5_add_17 : decode cX5_add 17 = .ok (.aload_n 0, 1) := by decide +kernel
theorem dX5_add_18 : decode cX5_add 18 = .ok (.getfield 15, 3) := by decide +kernel
theorem dX5_add_21 : decode cX5_add 21 = .ok (.ifCond .lt 12, 3) := by decide +kernel
theorem dX5_add_24 : decode cX5_add 24 = .ok (.aload_n 0, 1) := by decide +kernel
theorem dX5_add_25 : decode cX5_add 25 = .ok (.getfield 15, 3) := by decide +kernel
theorem dX5_add_28 : decode cX5_add 28 = .ok (.bipush 6, 2) := by decide +kernel
theorem dX5_add_30 : decode cX5_add 30 = .ok (.if_icmp .lt 9, 3) := by decide +kernel
theorem dX5_add_33 : decode cX5_add 33 = .ok (.aload_n 0, 1) := by decide +kernel
theorem dX5_add_34 : decode cX5_add 34 = .ok (.iconst 1, 1) := by decide +kernel
theorem dX5_add_35 : decode cX5_add 35 = .ok (.putfield 19, 3) := by decide +kernel
theorem dX5_add_38 : decode cX5_add 38 = .ok (.return_, 1) := by decide +kernel
theorem dX5_add_39 : decode cX5_add 39 = .ok (.aload_n 0, 1) := by decide +kernel
theorem dX5_add_40 : decode cX5_add 40 = .ok (.getfield 15, 3) := by decide +kernel
theorem dX5_add_43 : decode cX5_add 43 = .ok (.iconst 4, 1) := by decide +kernel
theorem dX5_add_44 : decode cX5_add 44 = .ok (.imul, 1) := by decide +kernel
theorem dX5_add_45 : decode cX5_add 45 = .ok (.istore 5, 2) := by decide +kernel
theorem dX5_add_47 : decode cX5_add 47 = .ok (.aload_n 0, 1) := by decide +kernel
theorem dX5_add_48 : decode cX5_add 48 = .ok (.getfield 9, 3) := by decide +kernel
theorem dX5_add_51 : decode cX5_add 51 = .ok (.iload 5, 2) := by decide +kernel
theorem dX5_add_53 : decode cX5_add 53 = .ok (.iconst 0, 1) := by decide +kernel
theorem dX5_add_54 : decode cX5_add 54 = .ok (.iadd, 1) := by decide +kernel
theorem dX5_add_55 : decode cX5_add 55 = .ok (.iload_n 1, 1) := by decide +kernel
theorem dX5_add_56 : decode cX5_add 56 = .ok (.iastore, 1) := by decide +kernel
theorem dX5_add_57 : decode cX5_add 57 = .ok (.aload_n 0, 1) := by decide +kernel
theorem dX5_add_58 : decode cX5_add 58 = .ok (.getfield 9, 3) := by decide +kernel
theorem dX5_add_61 : decode cX5_add 61 = .ok (.iload 5, 2) := by decide +kernel
theorem dX5_add_63 : decode cX5_add 63 = .ok (.iconst 1, 1) := by decide +kernel
theorem dX5_add_64 : decode cX5_add 64 = .ok (.iadd, 1) := by decide +kernel
theorem dX5_add_65 : decode cX5_add 65 = .ok (.iload_n 2, 1) := by decide +kernel
theorem dX5_add_66 : decode cX5_add 66 = .ok (.iastore, 1) := by decide +kernel
theorem dX5_add_67 : decode cX5_add 67 = .ok (.aload_n 0, 1) := by decide +kernel
theorem dX5_add_68 : decode cX5_add 68 = .ok (.getfield 9, 3) := by decide +kernel
theorem dX5_add_71 : decode cX5_add 71 = .ok (.iload 5, 2) := by decide +kernel
theorem dX5_add_73 : decode cX5_add 73 = .ok (.iconst 2, 1) := by decide +kernel
theorem dX5_add_74 : decode cX5_add 74 = .ok (.iadd, 1) := by decide +kernel
theorem dX5_add_75 : decode cX5_add 75 = .ok (.iload_n 3, 1) := by decide +kernel
theorem dX5_add_76 : decode cX5_add 76 = .ok (.iastore, 1) := by decide +kernel
theorem dX5_add_77 : decode cX5_add 77 = .ok (.aload_n 0, 1) := by decide +kernel
theorem dX5_add_78 : decode cX5_add 78 = .ok (.getfield 9, 3) := by decide +kernel
theorem dX5_add_81 : decode cX5_add 81 = .ok (.iload 5, 2) := by decide +kernel
theorem dX5_add_83 : decode cX5_add 83 = .ok (.iconst 3, 1) := by decide +kernel
theorem dX5_add_84 : decode cX5_add 84 = .ok (.iadd, 1) := by decide +kernel
theorem dX5_add_85 : decode cX5_add 85 = .ok (.iload 4, 2) := by decide +kernel
theorem dX5_add_87 : decode cX5_add 87 = .ok (.iastore, 1) := by decide +kernel
theorem dX5_add_88 : decode cX5_add 88 = .ok (.aload_n 0, 1) := by decide +kernel
theorem dX5_add_89 : decode cX5_add 89 = .ok (.dup, 1) := by decide +kernel
theorem dX5_add_90 : decode cX5_add 90 = .ok (.getfield 15, 3) := by decide +kernel
theorem dX5_add_93 : decode cX5_add 93 = .ok (.iconst 1, 1) := by decide +kernel
theorem dX5_add_94 : decode cX5_add 94 = .ok (.iadd, 1) := by decide +kernel
theorem dX5_add_95 : decode cX5_add 95 = .ok (.putfield 15, 3) := by decide +kernel
theorem dX5_add_98 : decode cX5_add 98 = .ok (.return_, 1) := by decide +kernel
theorem dX5_merge_0 : decode cX5_merge 0 = .ok (.iconst 0, 1) := by decide +kernel
theorem dX5_merge_1 : decode cX5_merge 1 = .ok (.istore 5, 2) := by decide +kernel
theorem dX5_merge_3 : decode cX5_merge 3 = .ok (.iload 5, 2) := by decide +kernel
theorem dX5_merge_5 : decode cX5_merge 5 = .ok (.aload_n 0, 1) := by decide +kernel
theorem dX5_merge_6 : decode cX5_merge 6 = .ok (.getfield 15, 3) := by decide +kernel
theorem dX5_merge_9 : decode cX5_merge 9 = .ok (.if_icmp .ge 94, 3) := by decide +kernel
theorem dX5_merge_12 : decode cX5_merge 12 = .ok (.iload 5, 2) := by decide +kernel
theorem dX5_merge_14 : decode cX5_merge 14 = .ok (.bipush 6, 2) := by decide +kernel
theorem dX5_merge_16 : decode cX5_merge 16 = .ok (.if_icmp .ge 87, 3) := by decide +kernel
theorem dX5_merge_19 : decode cX5_merge 19 = .ok (.iload 5, 2) := by decide +kernel
theorem dX5_merge_21 : decode cX5_merge 21 = .ok (.iconst 4, 1) := by decide +kernel
theorem dX5_merge_22 : decode cX5_merge 22 = .ok (.imul, 1) := by decide +kernel
theorem dX5_merge_23 : decode cX5_merge 23 = .ok (.istore 6, 2) := by decide +kernel
theorem dX5_merge_25 : decode cX5_merge 25 = .ok (.aload_n 0, 1) := by decide +kernel
theorem dX5_merge_26 : decode cX5_merge 26 = .ok (.getfield 9, 3) := by decide +kernel
theorem dX5_merge_29 : decode cX5_merge 29 = .ok (.iload 6, 2) := by decide +kernel
theorem dX5_merge_31 : decode cX5_merge 31 = .ok (.iconst 0, 1) := by decide +kernel
theorem dX5_merge_32 : decode cX5_merge 32 = .ok (.iadd, 1) := by decide +kernel
theorem dX5_merge_33 : decode cX5_merge 33 = .ok (.iaload, 1) := by decide +kernel
theorem dX5_merge_34 : decode cX5_merge 34 = .ok (.iload_n 1, 1) := by decide +kernel
theorem dX5_merge_35 : decode cX5_merge 35 = .ok (.if_icmp .ne 62, 3) := by decide +kernel
theorem dX5_merge_38 : decode cX5_merge 38 = .ok (.aload_n 0, 1) := by decide +kernel
theorem dX5_merge_39 : decode cX5_merge 39 = .ok (.getfield 9, 3) := by decide +kernel
theorem dX5_merge_42 : decode cX5_merge 42 = .ok (.iload 6, 2) := by decide +kernel
theorem dX5_merge_44 : decode cX5_merge 44 = .ok (.iconst 1, 1) := by decide +kernel
theorem dX5_merge_45 : decode cX5_merge 45 = .ok (.iadd, 1) := by decide +kernel
theorem dX5_merge_46 : decode cX5_merge 46 = .ok (.iaload, 1) := by decide +kernel
theorem dX5_merge_47 : decode cX5_merge 47 = .ok (.iload_n 2, 1) := by decide +kernel
theorem dX5_merge_48 : decode cX5_merge 48 = .ok (.if_icmp .ne 49, 3) := by decide +kernel
theorem dX5_merge_51 : decode cX5_merge 51 = .ok (.aload_n 0, 1) := by decide +kernel
theorem dX5_merge_52 : decode cX5_merge 52 = .ok (.getfield 9, 3) := by decide +kernel
theorem dX5_merge_55 : decode cX5_merge 55 = .ok (.iload 6, 2) := by decide +kernel
theorem dX5_merge_57 : decode cX5_merge 57 = .ok (.iconst 2, 1) := by decide +kernel
theorem dX5_merge_58 : decode cX5_merge 58 = .ok (.iadd, 1) := by decide +kernel
theorem dX5_merge_59 : decode cX5_merge 59 = .ok (.aload_n 0, 1) := by decide +kernel
theorem dX5_merge_60 : decode cX5_merge 60 = .ok (.getfield 9, 3) := by decide +kernel
theorem dX5_merge_63 : decode cX5_merge 63 = .ok (.iload 6, 2) := by decide +kernel
theorem dX5_merge_65 : decode cX5_merge 65 = .ok (.iconst 2, 1) := by decide +kernel
theorem dX5_merge_66 : decode cX5_merge 66 = .ok (.iadd, 1) := by decide +kernel
theorem dX5_merge_67 : decode cX5_merge 67 = .ok (.iaload, 1) := by decide +kernel
theorem dX5_merge_68 : decode cX5_merge 68 = .ok (.iload_n 3, 1) := by decide +kernel
theorem dX5_merge_69 : decode cX5_merge 69 = .ok (.invokestatic 23, 3) := by decide +kernel
theorem dX5_merge_72 : decode cX5_merge 72 = .ok (.iastore, 1) := by decide +kernel
theorem dX5_merge_73 : decode cX5_merge 73 = .ok (.aload_n 0, 1) := by decide +kernel
theorem dX5_merge_74 : decode cX5_merge 74 = .ok (.getfield 9, 3) := by decide +kernel
theorem dX5_merge_77 : decode cX5_merge 77 = .ok (.iload 6, 2) := by decide +kernel
theorem dX5_merge_79 : decode cX5_merge 79 = .ok (.iconst 3, 1) := by decide +kernel
theorem dX5_merge_80 : decode cX5_merge 80 = .ok (.iadd, 1) := by decide +kernel
theorem dX5_merge_81 : decode cX5_merge 81 = .ok (.aload_n 0, 1) := by decide +kernel
theorem dX5_merge_82 : decode cX5_merge 82 = .ok (.getfield 9, 3) := by decide +kernel
theorem dX5_merge_85 : decode cX5_merge 85 = .ok (.iload 6, 2) := by decide +kernel
theorem dX5_merge_87 : decode cX5_merge 87 = .ok (.iconst 3, 1) := by decide +kernel
theorem dX5_merge_88 : decode cX5_merge 88 = .ok (.iadd, 1) := by decide +kernel
theorem dX5_merge_89 : decode cX5_merge 89 = .ok (.iaload, 1) := by decide +kernel
theorem dX5_merge_90 : decode cX5_merge 90 = .ok (.iload 4, 2) := by decide +kernel
theorem dX5_merge_92 : decode cX5_merge 92 = .ok (.invokestatic 29, 3) := by decide +kernel
theorem dX5_merge_95 : decode cX5_merge 95 = .ok (.iastore, 1) := by decide +kernel
theorem dX5_merge_96 : decode cX5_merge 96 = .ok (.return_, 1) := by decide +kernel
theorem dX5_merge_97 : decode cX5_merge 97 = .ok (.iinc 5 1, 3) := by decide +kernel
theorem dX5_merge_100 : decode cX5_merge 100 = .ok (.goto (-97), 3) := by decide +kernel
theorem dX5_merge_103 : decode cX5_merge 103 = .ok (.aload_n 0, 1) := by decide +kernel
theorem dX5_merge_104 : decode cX5_merge 104 = .ok (.iload_n 1, 1) := by decide +kernel
theorem dX5_merge_105 : decode cX5_merge 105 = .ok (.iload_n 2, 1) := by decide +kernel
theorem dX5_merge_106 : decode cX5_merge 106 = .ok (.iload_n 3, 1) := by decide +kernel
theorem dX5_merge_107 : decode cX5_merge 107 = .ok (.iload 4, 2) := by decide +kernel
theorem dX5_merge_109 : decode cX5_merge 109 = .ok (.invokevirtual 32, 3) := by decide +kernel
theorem dX5_merge_112 : decode cX5_merge 112 = .ok (.return_, 1) := by decide +kernel
theorem dX5_addMonths_0 : decode cX5_addMonths 0 = .ok (.iload_n 1, 1) := by decide +kernel
theorem dX5_addMonths_1 : decode cX5_addMonths 1 = .ok (.ifCond .lt 31, 3) := by decide +kernel
theorem dX5_addMonths_4 : decode cX5_addMonths 4 = .ok (.iload_n 1, 1) := by decide +kernel
theorem dX5_addMonths_5 : decode cX5_addMonths 5 = .ok (.iload_n 2, 1) := by decide +kernel
theorem dX5_addMonths_6 : decode cX5_addMonths 6 = .ok (.iadd, 1) := by decide +kernel
theorem dX5_addMonths_7 : decode cX5_addMonths 7 = .ok (.sipush 336, 3) := by decide +kernel
theorem dX5_addMonths_10 : decode cX5_addMonths 10 = .ok (.if_icmp .gt 22, 3) := by decide +kernel
theorem dX5_addMonths_13 : decode cX5_addMonths 13 = .ok (.aload_n 0, 1) := by decide +kernel
theorem dX5_addMonths_14 : decode cX5_addMonths 14 = .ok (.iload_n 1, 1) := by decide +kernel
theorem dX5_addMonths_15 : decode cX5_addMonths 15 = .ok (.invokestatic 36, 3) := by decide +kernel
theorem dX5_addMonths_18 : decode cX5_addMonths 18 = .ok (.iload_n 1, 1) := by decide +kernel
theorem dX5_addMonths_19 : decode cX5_addMonths 19 = .ok (.iload_n 2, 1) := by decide +kernel
theorem dX5_addMonths_20 : decode cX5_addMonths 20 = .ok (.iadd, 1) := by decide +kernel
theorem dX5_addMonths_21 : decode cX5_addMonths 21 = .ok (.invokestatic 36, 3) := by decide +kernel
theorem dX5_addMonths_24 : decode cX5_addMonths 24 = .ok (.iconst 1, 1) := by decide +kernel
theorem dX5_addMonths_25 : decode cX5_addMonths 25 = .ok (.isub, 1) := by decide +kernel
theorem dX5_addMonths_26 : decode cX5_addMonths 26 = .ok (.iload_n 3, 1) := by decide +kernel
theorem dX5_addMonths_27 : decode cX5_addMonths 27 = .ok (.iload 4, 2) := by decide +kernel
theorem dX5_addMonths_29 : decode cX5_addMonths 29 = .ok (.invokevirtual 32, 3) := by decide +kernel
theorem dX5_addMonths_32 : decode cX5_addMonths 32 = .ok (.return_, 1) := by decide +kernel
theorem dX5_addUnit_0 : decode cX5_addUnit 0 = .ok (.iload_n 1, 1) := by decide +kernel
theorem dX5_addUnit_1 : decode cX5_addUnit 1 = .ok (.ifCond .ne 19, 3) := by decide +kernel
theorem dX5_addUnit_4 : decode cX5_addUnit 4 = .ok (.aload_n 0, 1) := by decide +kernel
theorem dX5_addUnit_5 : decode cX5_addUnit 5 = .ok (.iload_n 2, 1) := by decide +kernel
theorem dX5_addUnit_6 : decode cX5_addUnit 6 = .ok (.iload_n 3, 1) := by decide +kernel
theorem dX5_addUnit_7 : decode cX5_addUnit 7 = .ok (.iadd, 1) := by decide +kernel
theorem dX5_addUnit_8 : decode cX5_addUnit 8 = .ok (.iload_n 2, 1) := by decide +kernel
theorem dX5_addUnit_9 : decode cX5_addUnit 9 = .ok (.iload_n 3, 1) := by decide +kernel
theorem dX5_addUnit_10 : decode cX5_addUnit 10 = .ok (.iadd, 1) := by decide +kernel
theorem dX5_addUnit_11 : decode cX5_addUnit 11 = .ok (.iconst 0, 1) := by decide +kernel
theorem dX5_addUnit_12 : decode cX5_addUnit 12 = .ok (.iload 4, 2) := by decide +kernel
theorem dX5_addUnit_14 : decode cX5_addUnit 14 = .ok (.invokevirtual 32, 3) := by decide +kernel
theorem dX5_addUnit_17 : decode cX5_addUnit 17 = .ok (.goto 76, 3) := by decide +kernel
theorem dX5_addUnit_20 : decode cX5_addUnit 20 = .ok (.iload_n 1, 1) := by decide +kernel
theorem dX5_addUnit_21 : decode cX5_addUnit 21 = .ok (.iconst 1, 1) := by decide +kernel
theorem dX5_addUnit_22 : decode cX5_addUnit 22 = .ok (.if_icmp .ne 31, 3) := by decide +kernel
theorem dX5_addUnit_25 : decode cX5_addUnit 25 = .ok (.iload_n 2, 1) := by decide +kernel
theorem dX5_addUnit_26 : decode cX5_addUnit 26 = .ok (.invokestatic 42, 3) := by decide +kernel
theorem dX5_addUnit_29 : decode cX5_addUnit 29 = .ok (.bipush 7, 2) := by decide +kernel
theorem dX5_addUnit_31 : decode cX5_addUnit 31 = .ok (.iload_n 3, 1) := by decide +kernel
theorem dX5_addUnit_32 : decode cX5_addUnit 32 = .ok (.imul, 1) := by decide +kernel
theorem dX5_addUnit_33 : decode cX5_addUnit 33 = .ok (.iadd, 1) := by decide +kernel
theorem dX5_addUnit_34 : decode cX5_addUnit 34 = .ok (.istore 5, 2) := by decide +kernel
theorem dX5_addUnit_36 : decode cX5_addUnit 36 = .ok (.aload_n 0, 1) := by decide +kernel
theorem dX5_addUnit_37 : decode cX5_addUnit 37 = .ok (.iload 5, 2) := by decide +kernel
theorem dX5_addUnit_39 : decode cX5_addUnit 39 = .ok (.iload 5, 2) := by decide +kernel
theorem dX5_addUnit_41 : decode cX5_addUnit 41 = .ok (.bipush 6, 2) := by decide +kernel
theorem dX5_addUnit_43 : decode cX5_addUnit 43 = .ok (.iadd, 1) := by decide +kernel
theorem dX5_addUnit_44 : decode cX5_addUnit 44 = .ok (.iconst 1, 1) := by decide +kernel
theorem dX5_addUnit_45 : decode cX5_addUnit 45 = .ok (.iload 4, 2) := by decide +kernel
theorem dX5_addUnit_47 : decode cX5_addUnit 47 = .ok (.invokevirtual 32, 3) := by decide +kernel
theorem dX5_addUnit_50 : decode cX5_addUnit 50 = .ok (.goto 43, 3) := by decide +kernel
theorem dX5_addUnit_53 : decode cX5_addUnit 53 = .ok (.iload_n 1, 1) := by decide +kernel
theorem dX5_addUnit_54 : decode cX5_addUnit 54 = .ok (.iconst 2, 1) := by decide +kernel
theorem dX5_addUnit_55 : decode cX5_addUnit 55 = .ok (.if_icmp .ne 20, 3) := by decide +kernel
theorem dX5_addUnit_58 : decode cX5_addUnit 58 = .ok (.aload_n 0, 1) := by decide +kernel
theorem dX5_addUnit_59 : decode cX5_addUnit 59 = .ok (.iload_n 2, 1) := by decide +kernel
theorem dX5_addUnit_60 : decode cX5_addUnit 60 = .ok (.invokestatic 45, 3) := by decide +kernel
theorem dX5_addUnit_63 : decode cX5_addUnit 63 = .ok (.iload_n 3, 1) := by decide +kernel
theorem dX5_addUnit_64 : decode cX5_addUnit 64 = .ok (.iadd, 1) := by decide +kernel
theorem dX5_addUnit_65 : decode cX5_addUnit 65 = .ok (.iconst 1, 1) := by decide +kernel
theorem dX5_addUnit_66 : decode cX5_addUnit 66 = .ok (.iconst 2, 1) := by decide +kernel
theorem dX5_addUnit_67 : decode cX5_addUnit 67 = .ok (.iload 4, 2) := by decide +kernel
theorem dX5_addUnit_69 : decode cX5_addUnit 69 = .ok (.invokevirtual 48, 3) := by decide +kernel
theorem dX5_addUnit_72 : decode cX5_addUnit 72 = .ok (.goto 21, 3) := by decide +kernel
theorem dX5_addUnit_75 : decode cX5_addUnit 75 = .ok (.aload_n 0, 1) := by decide +kernel
theorem dX5_addUnit_76 : decode cX5_addUnit 76 = .ok (.iload_n 2, 1) := by decide +kernel
theorem dX5_addUnit_77 : decode cX5_addUnit 77 = .ok (.invokestatic 51, 3) := by decide +kernel
theorem dX5_addUnit_80 : decode cX5_addUnit 80 = .ok (.iload_n 3, 1) := by decide +kernel
theorem dX5_addUnit_81 : decode cX5_addUnit 81 = .ok (.iadd, 1) := by decide +kernel
theorem dX5_addUnit_82 : decode cX5_addUnit 82 = .ok (.bipush 12, 2) := by decide +kernel
theorem dX5_addUnit_84 : decode cX5_addUnit 84 = .ok (.imul, 1) := by decide +kernel
theorem dX5_addUnit_85 : decode cX5_addUnit 85 = .ok (.bipush 12, 2) := by decide +kernel
theorem dX5_addUnit_87 : decode cX5_addUnit 87 = .ok (.iconst 3, 1) := by decide +kernel
theorem dX5_addUnit_88 : decode cX5_addUnit 88 = .ok (.iload 4, 2) := by decide +kernel
theorem dX5_addUnit_90 : decode cX5_addUnit 90 = .ok (.invokevirtual 48, 3) := by decide +kernel
theorem dX5_addUnit_93 : decode cX5_addUnit 93 = .ok (.return_, 1) := by decide +kernel
theorem dX6_init_0 : decode cX6_init 0 = .ok (.aload_n 0, 1) := by decide +kernel
theorem dX6_init_1 : decode cX6_init 1 = .ok (.invokespecial 3, 3) := by decide +kernel
theorem dX6_init_4 : decode cX6_init 4 = .ok (.aload_n 0, 1) := by decide +kernel
theorem dX6_init_5 : decode cX6_init 5 = .ok (.bipush 24, 2) := by decide +kernel
theorem dX6_init_7 : decode cX6_init 7 = .ok (.newarray .int, 2) := by decide +kernel
theorem dX6_init_9 : decode cX6_init 9 = .ok (.putfield 9, 3) := by decide +kernel
theorem dX6_init_12 : decode cX6_init 12 = .ok (.aload_n 0, 1) := by decide +kernel
theorem dX6_init_13 : decode cX6_init 13 = .ok (.iconst 0, 1) := by decide +kernel
theorem dX6_init_14 : decode cX6_init 14 = .ok (.putfield 15, 3) := by decide +kernel
theorem dX6_init_17 : decode cX6_init 17 = .ok (.return_, 1) := by decide +kernel
theorem dX6_clear_0 : decode cX6_clear 0 = .ok (.aload_n 0, 1) := by decide +kernel
theorem dX6_clear_1 : decode cX6_clear 1 = .ok (.iconst 0, 1) := by decide +kernel
theorem dX6_clear_2 : decode cX6_clear 2 = .ok (.putfield 15, 3) := by decide +kernel
theorem dX6_clear_5 : decode cX6_clear 5 = .ok (.return_, 1) := by decide +kernel
theorem dX6_add_0 : decode cX6_add 0 = .ok (.aload_n 0, 1) := by decide +kernel
theorem dX6_add_1 : decode cX6_add 1 = .ok (.getfield 15, 3) := by decide +kernel
theorem dX6_add_4 : decode cX6_add 4 = .ok (.ifCond .lt 35, 3) := by decide +kernel
theorem dX6_add_7 : decode cX6_add 7 = .ok (.aload_n 0, 1) := by decide +kernel
theorem dX6_add_8 : decode cX6_add 8 = .ok (.getfield 15, 3) := by decide +kernel
theorem dX6_add_11 : decode cX6_add 11 = .ok (.aload_n 0, 1) := by decide +kernel
theorem dX6_add_12 : decode cX6_add 12 = .ok (.getfield 9, 3) := by decide +kernel
theorem dX6_add_15 : decode cX6_add 15 = .ok (.arraylength, 1) := by decide +kernel
theorem dX6_add_16 : decode cX6_add 16 = .ok (.if_icmp .ge 23, 3) := by decide +kernel
theorem dX6_add_19 : decode cX6_add 19 = .ok (.aload_n 0, 1) := by decide +kernel
theorem dX6_add_20 : decode cX6_add 20 = .ok (.getfield 9, 3) := by decide +kernel
theorem dX6_add_23 : decode cX6_add 23 = .ok (.aload_n 0, 1) := by decide +kernel
theorem dX6_add_24 : decode cX6_add 24 = .ok (.getfield 15, 3) := by decide +kernel
theorem dX6_add_27 : decode cX6_add 27 = .ok (.iload_n 1, 1) := by decide +kernel
theorem dX6_add_28 : decode cX6_add 28 = .ok (.iastore, 1) := by decide +kernel
theorem dX6_add_29 : decode cX6_add 29 = .ok (.aload_n 0, 1) := by decide +kernel
theorem dX6_add_30 : decode cX6_add 30 = .ok (.dup, 1) := by decide +kernel
theorem dX6_add_31 : decode cX6_add 31 = .ok (.getfield 15, 3) := by decide +kernel
theorem dX6_add_34 : decode cX6_add 34 = .ok (.iconst 1, 1) := by decide +kernel
theorem dX6_add_35 : decode cX6_add 35 = .ok (.iadd, 1) := by decide +kernel
theorem dX6_add_36 : decode cX6_add 36 = .ok (.putfield 15, 3) := by decide +kernel
theorem dX6_add_39 : decode cX6_add 39 = .ok (.return_, 1) := by decide +kernel
theorem dX6_numberAt_0 : decode cX6_numberAt 0 = .ok (.iload_n 1, 1) := by decide +kernel
theorem dX6_numberAt_1 : decode cX6_numberAt 1 = .ok (.ifCond .lt 29, 3) := by decide +kernel
theorem dX6_numberAt_4 : decode cX6_numberAt 4 = .ok (.iload_n 1, 1) := by decide +kernel
theorem dX6_numberAt_5 : decode cX6_numberAt 5 = .ok (.aload_n 0, 1) := by decide +kernel
theorem dX6_numberAt_6 : decode cX6_numberAt 6 = .ok (.getfield 15, 3) := by decide +kernel
theorem dX6_numberAt_9 : decode cX6_numberAt 9 = .ok (.if_icmp .ge 21, 3) := by decide +kernel
theorem dX6_numberAt_12 : decode cX6_numberAt 12 = .ok (.iload_n 1, 1) := by decide +kernel
theorem dX6_numberAt_13 : decode cX6_numberAt 13 = .ok (.aload_n 0, 1) := by decide +kernel
theorem dX6_numberAt_14 : decode cX6_numberAt 14 = .ok (.getfield 9, 3) := by decide +kernel
theorem dX6_numberAt_17 : decode cX6_numberAt 17 = .ok (.arraylength, 1) := by decide +kernel
theorem dX6_numberAt_18 : decode cX6_numberAt 18 = .ok (.if_icmp .ge 12, 3) := by decide +kernel
theorem dX6_numberAt_21 : decode cX6_numberAt 21 = .ok (.aload_n 0, 1) := by decide +kernel
theorem dX6_numberAt_22 : decode cX6_numberAt 22 = .ok (.getfield 9, 3) := by decide +kernel
theorem dX6_numberAt_25 : decode cX6_numberAt 25 = .ok (.iload_n 1, 1) := by decide +kernel
theorem dX6_numberAt_26 : decode cX6_numberAt 26 = .ok (.iaload, 1) := by decide +kernel
theorem dX6_numberAt_27 : decode cX6_numberAt 27 = .ok (.goto 4, 3) := by decide +kernel
theorem dX6_numberAt_30 : decode cX6_numberAt 30 = .ok (.iconst 0, 1) := by decide +kernel
theorem dX6_numberAt_31 : decode cX6_numberAt 31 = .ok (.ireturn, 1) := by decide +kernel
theorem dX7_init_0 : decode cX7_init 0 = .ok (.aload_n 0, 1) := by decide +kernel
theorem dX7_init_1 : decode cX7_init 1 = .ok (.invokespecial 3, 3) := by decide +kernel
theorem dX7_init_4 : decode cX7_init 4 = .ok (.aload_n 0, 1) := by decide +kernel
theorem dX7_init_5 : decode cX7_init 5 = .ok (.bipush 6, 2) := by decide +kernel
theorem dX7_init_7 : decode cX7_init 7 = .ok (.newarray .int, 2) := by decide +kernel
theorem dX7_init_9 : decode cX7_init 9 = .ok (.putfield 9, 3) := by decide +kernel
theorem dX7_init_12 : decode cX7_init 12 = .ok (.aload_n 0, 1) := by decide +kernel
theorem dX7_init_13 : decode cX7_init 13 = .ok (.iconst 0, 1) := by decide +kernel
theorem dX7_init_14 : decode cX7_init 14 = .ok (.putfield 15, 3) := by decide +kernel
theorem dX7_init_17 : decode cX7_init 17 = .ok (.aload_n 0, 1) := by decide +kernel
theorem dX7_init_18 : decode cX7_init 18 = .ok (.bipush 36, 2) := by decide +kernel
theorem dX7_init_20 : decode cX7_init 20 = .ok (.newarray .int, 2) := by decide +kernel
theorem dX7_init_22 : decode cX7_init 22 = .ok (.putfield 19, 3) := by decide +kernel
theorem dX7_init_25 : decode cX7_init 25 = .ok (.aload_n 0, 1) := by decide +kernel
theorem dX7_init_26 : decode cX7_init 26 = .ok (.bipush 36, 2) := by decide +kernel
theorem dX7_init_28 : decode cX7_init 28 = .ok (.bipush 6, 2) := by decide +kernel
theorem dX7_init_30 : decode cX7_init 30 = .ok (.multianewarray 22 2, 4) := by decide +kernel
theorem dX7_init_34 : decode cX7_init 34 = .ok (.putfield 24, 3) := by decide +kernel
theorem dX7_init_37 : decode cX7_init 37 = .ok (.aload_n 0, 1) := by decide +kernel
theorem dX7_init_38 : decode cX7_init 38 = .ok (.bipush 6, 2) := by decide +kernel
theorem dX7_init_40 : decode cX7_init 40 = .ok (.bipush 6, 2) := by decide +kernel
theorem dX7_init_42 : decode cX7_init 42 = .ok (.multianewarray 22 2, 4) := by decide +kernel
theorem dX7_init_46 : decode cX7_init 46 = .ok (.putfield 27, 3) := by decide +kernel
theorem dX7_init_49 : decode cX7_init 49 = .ok (.aload_n 0, 1) := by decide +kernel
theorem dX7_init_50 : decode cX7_init 50 = .ok (.bipush 6, 2) := by decide +kernel
theorem dX7_init_52 : decode cX7_init 52 = .ok (.newarray .int, 2) := by decide +kernel
theorem dX7_init_54 : decode cX7_init 54 = .ok (.putfield 30, 3) := by decide +kernel
theorem dX7_init_57 : decode cX7_init 57 = .ok (.aload_n 0, 1) := by decide +kernel
theorem dX7_init_58 : decode cX7_init 58 = .ok (.bipush 6, 2) := by decide +kernel
theorem dX7_init_60 : decode cX7_init 60 = .ok (.newarray .int, 2) := by decide +kernel
theorem dX7_init_62 : decode cX7_init 62 = .ok (.putfield 33, 3) := by decide +kernel
theorem dX7_init_65 : decode cX7_init 65 = .ok (.aload_n 0, 1) := by decide +kernel
theorem dX7_init_66 : decode cX7_init 66 = .ok (.bipush 36, 2) := by decide +kernel
theorem dX7_init_68 : decode cX7_init 68 = .ok (.newarray .int, 2) := by decide +kernel
theorem dX7_init_70 : decode cX7_init 70 = .ok (.putfield 36, 3) := by decide +kernel
theorem dX7_init_73 : decode cX7_init 73 = .ok (.aload_n 0, 1) := by decide +kernel
theorem dX7_init_74 : decode cX7_init 74 = .ok (.iconst 0, 1) := by decide +kernel
theorem dX7_init_75 : decode cX7_init 75 = .ok (.putfield 39, 3) := by decide +kernel
theorem dX7_init_78 : decode cX7_init 78 = .ok (.aload_n 0, 1) := by decide +kernel
theorem dX7_init_79 : decode cX7_init 79 = .ok (.iconst 0, 1) := by decide +kernel
theorem dX7_init_80 : decode cX7_init 80 = .ok (.putfield 42, 3) := by decide +kernel
theorem dX7_init_83 : decode cX7_init 83 = .ok (.return_, 1) := by decide +kernel
theorem dX7_solve_0 : decode cX7_solve 0 = .ok (.aload_n 0, 1) := by decide +kernel
theorem dX7_solve_1 : decode cX7_solve 1 = .ok (.iconst 0, 1) := by decide +kernel
theorem dX7_solve_2 : decode cX7_solve 2 = .ok (.putfield 15, 3) := by decide +kernel
theorem dX7_solve_5 : decode cX7_solve 5 = .ok (.aload_n 0, 1) := by decide +kernel
theorem dX7_solve_6 : decode cX7_solve 6 = .ok (.iconst 0, 1) := by decide +kernel
theorem dX7_solve_7 : decode cX7_solve 7 = .ok (.putfield 42, 3) := by decide +kernel
theorem dX7_solve_10 : decode cX7_solve 10 = .ok (.iconst 0, 1) := by decide +kernel
theorem dX7_solve_11 : decode cX7_solve 11 = .ok (.istore_n 2, 1) := by decide +kernel
theorem dX7_solve_12 : decode cX7_solve 12 = .ok (.iload_n 2, 1) := by decide +kernel
theorem dX7_solve_13 : decode cX7_solve 13 = .ok (.bipush 6, 2) := by decide +kernel
theorem dX7_solve_15 : decode cX7_solve 15 = .ok (.if_icmp .ge 43, 3) := by decide +kernel
theorem dX7_solve_18 : decode cX7_solve 18 = .ok (.aload_n 0, 1) := by decide +kernel
theorem dX7_solve_19 : decode cX7_solve 19 = .ok (.aload_n 1, 1) := by decide +kernel
theorem dX7_solve_20 : decode cX7_solve 20 = .ok (.iload_n 2, 1) := by decide +kernel
theorem dX7_solve_21 : decode cX7_solve 21 = .ok (.invokevirtual 45, 3) := by decide +kernel
theorem dX7_solve_24 : decode cX7_solve 24 = .ok (.aload_n 1, 1) := by decide +kernel
theorem dX7_solve_25 : decode cX7_solve 25 = .ok (.iload_n 2, 1) := by decide +kernel
theorem dX7_solve_26 : decode cX7_solve 26 = .ok (.invokevirtual 49, 3) := by decide +kernel
theorem dX7_solve_29 : decode cX7_solve 29 = .ok (.ifCond .eq 23, 3) := by decide +kernel
theorem dX7_solve_32 : decode cX7_solve 32 = .ok (.aload_n 0, 1) := by decide +kernel
theorem dX7_solve_33 : decode cX7_solve 33 = .ok (.getfield 9, 3) := by decide +kernel
theorem dX7_solve_36 : decode cX7_solve 36 = .ok (.aload_n 0, 1) := by decide +kernel
theorem dX7_solve_37 : decode cX7_solve 37 = .ok (.getfield 15, 3) := by decide +kernel
theorem dX7_solve_40 : decode cX7_solve 40 = .ok (.iload_n 2, 1) := by decide +kernel
theorem dX7_solve_41 : decode cX7_solve 41 = .ok (.iastore, 1) := by decide +kernel
theorem dX7_solve_42 : decode cX7_solve 42 = .ok (.aload_n 0, 1) := by decide +kernel
theorem dX7_solve_43 : decode cX7_solve 43 = .ok (.dup, 1) := by decide +kernel
theorem dX7_solve_44 : decode cX7_solve 44 = .ok (.getfield 15, 3) := by decide +kernel
theorem dX7_solve_47 : decode cX7_solve 47 = .ok (.iconst 1, 1) := by decide +kernel
theorem dX7_solve_48 : decode cX7_solve 48 = .ok (.iadd, 1) := by decide +kernel
theorem dX7_solve_49 : decode cX7_solve 49 = .ok (.putfield 15, 3) := by decide +kernel
theorem dX7_solve_52 : decode cX7_solve 52 = .ok (.iinc 2 1, 3) := by decide +kernel
theorem dX7_solve_55 : decode cX7_solve 55 = .ok (.goto (-43), 3) := by decide +kernel
theorem dX7_solve_58 : decode cX7_solve 58 = .ok (.iconst 0, 1) := by decide +kernel
theorem dX7_solve_59 : decode cX7_solve 59 = .ok (.istore_n 2, 1) := by decide +kernel
theorem dX7_solve_60 : decode cX7_solve 60 = .ok (.iload_n 2, 1) := by decide +kernel
theorem dX7_solve_61 : decode cX7_solve 61 = .ok (.aload_n 1, 1) := by decide +kernel
theorem dX7_solve_62 : decode cX7_solve 62 = .ok (.invokevirtual 55, 3) := by decide +kernel
theorem dX7_solve_65 : decode cX7_solve 65 = .ok (.if_icmp .ge 19, 3) := by decide +kernel
theorem dX7_solve_68 : decode cX7_solve 68 = .ok (.aload_n 0, 1) := by decide +kernel
theorem dX7_solve_69 : decode cX7_solve 69 = .ok (.aload_n 1, 1) := by decide +kernel
theorem dX7_solve_70 : decode cX7_solve 70 = .ok (.aload_n 1, 1) := by decide +kernel
theorem dX7_solve_71 : decode cX7_solve 71 = .ok (.iload_n 2, 1) := by decide +kernel
theorem dX7_solve_72 : decode cX7_solve 72 = .ok (.invokevirtual 59, 3) := by decide +kernel
theorem dX7_solve_75 : decode cX7_solve 75 = .ok (.invokevirtual 63, 3) := by decide +kernel
theorem dX7_solve_78 : decode cX7_solve 78 = .ok (.iinc 2 1, 3) := by decide +kernel
theorem dX7_solve_81 : decode cX7_solve 81 = .ok (.goto (-21), 3) := by decide +kernel
theorem dX7_solve_84 : decode cX7_solve 84 = .ok (.aload_n 0, 1) := by decide +kernel
theorem dX7_solve_85 : decode cX7_solve 85 = .ok (.aload_n 0, 1) := by decide +kernel
theorem dX7_solve_86 : decode cX7_solve 86 = .ok (.iconst 0, 1) := by decide +kernel
theorem dX7_solve_87 : decode cX7_solve 87 = .ok (.iconst 0, 1) := by decide +kernel
theorem dX7_solve_88 : decode cX7_solve 88 = .ok (.invokevirtual 66, 3) := by decide +kernel
theorem dX7_solve_91 : decode cX7_solve 91 = .ok (.putfield 39, 3) := by decide +kernel
theorem dX7_solve_94 : decode cX7_solve 94 = .ok (.return_, 1) := by decide +kernel
theorem dX7_layOut_0 : decode cX7_layOut 0 = .ok (.aload_n 0, 1) := by decide +kernel
theorem dX7_layOut_1 : decode cX7_layOut 1 = .ok (.getfield 33, 3) := by decide +kernel
theorem dX7_layOut_4 : decode cX7_layOut 4 = .ok (.iload_n 2, 1) := by decide +kernel
theorem dX7_layOut_5 : decode cX7_layOut 5 = .ok (.iconst (-1), 1) := by decide +kernel
theorem dX7_layOut_6 : decode cX7_layOut 6 = .ok (.iastore, 1) := by decide +kernel
theorem dX7_layOut_7 : decode cX7_layOut 7 = .ok (.aload_n 0, 1) := by decide +kernel
theorem dX7_layOut_8 : decode cX7_layOut 8 = .ok (.getfield 30, 3) := by decide +kernel
theorem dX7_layOut_11 : decode cX7_layOut 11 = .ok (.iload_n 2, 1) := by decide +kernel
theorem dX7_layOut_12 : decode cX7_layOut 12 = .ok (.iconst (-1), 1) := by decide +kernel
theorem dX7_layOut_13 : decode cX7_layOut 13 = .ok (.iastore, 1) := by decide +kernel
theorem dX7_layOut_14 : decode cX7_layOut 14 = .ok (.aload_n 0, 1) := by decide +kernel
theorem dX7_layOut_15 : decode cX7_layOut 15 = .ok (.getfield 27, 3) := by decide +kernel
theorem dX7_layOut_18 : decode cX7_layOut 18 = .ok (.iconst 0, 1) := by decide +kernel
theorem dX7_layOut_19 : decode cX7_layOut 19 = .ok (.aaload, 1) := by decide +kernel
theorem dX7_layOut_20 : decode cX7_layOut 20 = .ok (.iload_n 2, 1) := by decide +kernel
theorem dX7_layOut_21 : decode cX7_layOut 21 = .ok (.aload_n 1, 1) := by decide +kernel
theorem dX7_layOut_22 : decode cX7_layOut 22 = .ok (.iload_n 2, 1) := by decide +kernel
theorem dX7_layOut_23 : decode cX7_layOut 23 = .ok (.invokevirtual 70, 3) := by decide +kernel
theorem dX7_layOut_26 : decode cX7_layOut 26 = .ok (.iastore, 1) := by decide +kernel
theorem dX7_layOut_27 : decode cX7_layOut 27 = .ok (.iconst 0, 1) := by decide +kernel
theorem dX7_layOut_28 : decode cX7_layOut 28 = .ok (.istore_n 3, 1) := by decide +kernel
theorem dX7_layOut_29 : decode cX7_layOut 29 = .ok (.iload_n 3, 1) := by decide +kernel
theorem dX7_layOut_30 : decode cX7_layOut 30 = .ok (.bipush 6, 2) := by decide +kernel
theorem dX7_layOut_32 : decode cX7_layOut 32 = .ok (.if_icmp .ge 67, 3) := by decide +kernel
theorem dX7_layOut_35 : decode cX7_layOut 35 = .ok (.iload_n 2, 1) := by decide +kernel
theorem dX7_layOut_36 : decode cX7_layOut 36 = .ok (.bipush 6, 2) := by decide +kernel
theorem dX7_layOut_38 : decode cX7_layOut 38 = .ok (.imul, 1) := by decide +kernel
theorem dX7_layOut_39 : decode cX7_layOut 39 = .ok (.iload_n 3, 1) := by decide +kernel
theorem dX7_layOut_40 : decode cX7_layOut 40 = .ok (.iadd, 1) := by decide +kernel
theorem dX7_layOut_41 : decode cX7_layOut 41 = .ok (.istore 4, 2) := by decide +kernel
theorem dX7_layOut_43 : decode cX7_layOut 43 = .ok (.aload_n 0, 1) := by decide +kernel
theorem dX7_layOut_44 : decode cX7_layOut 44 = .ok (.getfield 19, 3) := by decide +kernel
theorem dX7_layOut_47 : decode cX7_layOut 47 = .ok (.iload 4, 2) := by decide +kernel
theorem dX7_layOut_49 : decode cX7_layOut 49 = .ok (.aload_n 1, 1) := by decide +kernel
theorem dX7_layOut_50 : decode cX7_layOut 50 = .ok (.iload_n 2, 1) := by decide +kernel
theorem dX7_layOut_51 : decode cX7_layOut 51 = .ok (.iload_n 3, 1) := by decide +kernel
theorem dX7_layOut_52 : decode cX7_layOut 52 = .ok (.iconst 3, 1) := by decide +kernel
theorem dX7_layOut_53 : decode cX7_layOut 53 = .ok (.invokevirtual 73, 3) := by decide +kernel
theorem dX7_layOut_56 : decode cX7_layOut 56 = .ok (.iastore, 1) := by decide +kernel
theorem dX7_layOut_57 : decode cX7_layOut 57 = .ok (.aload_n 0, 1) := by decide +kernel
theorem dX7_layOut_58 : decode cX7_layOut 58 = .ok (.getfield 36, 3) := by decide +kernel
theorem dX7_layOut_61 : decode cX7_layOut 61 = .ok (.iload 4, 2) := by decide +kernel
theorem dX7_layOut_63 : decode cX7_layOut 63 = .ok (.iconst 0, 1) := by decide +kernel
theorem dX7_layOut_64 : decode cX7_layOut 64 = .ok (.iastore, 1) := by decide +kernel
theorem dX7_layOut_65 : decode cX7_layOut 65 = .ok (.iconst 0, 1) := by decide +kernel
theorem dX7_layOut_66 : decode cX7_layOut 66 = .ok (.istore 5, 2) := by decide +kernel
theorem dX7_layOut_68 : decode cX7_layOut 68 = .ok (.iload 5, 2) := by decide +kernel
theorem dX7_layOut_70 : decode cX7_layOut 70 = .ok (.bipush 6, 2) := by decide +kernel
theorem dX7_layOut_72 : decode cX7_layOut 72 = .ok (.if_icmp .ge 21, 3) := by decide +kernel
theorem dX7_layOut_75 : decode cX7_layOut 75 = .ok (.aload_n 0, 1) := by decide +kernel
theorem dX7_layOut_76 : decode cX7_layOut 76 = .ok (.getfield 24, 3) := by decide +kernel
theorem dX7_layOut_79 : decode cX7_layOut 79 = .ok (.iload 4, 2) := by decide +kernel
theorem dX7_layOut_81 : decode cX7_layOut 81 = .ok (.aaload, 1) := by decide +kernel
theorem dX7_layOut_82 : decode cX7_layOut 82 = .ok (.iload 5, 2) := by decide +kernel
theorem dX7_layOut_84 : decode cX7_layOut 84 = .ok (.bipush 63, 2) := by decide +kernel
theorem dX7_layOut_86 : decode cX7_layOut 86 = .ok (.iastore, 1) := by decide +kernel
theorem dX7_layOut_87 : decode cX7_layOut 87 = .ok (.iinc 5 1, 3) := by decide +kernel
theorem dX7_layOut_90 : decode cX7_layOut 90 = .ok (.goto (-22), 3) := by decide +kernel
theorem dX7_layOut_93 : decode cX7_layOut 93 = .ok (.iinc 3 1, 3) := by decide +kernel
theorem dX7_layOut_96 : decode cX7_layOut 96 = .ok (.goto (-67), 3) := by decide +kernel
theorem dX7_layOut_99 : decode cX7_layOut 99 = .ok (.return_, 1) := by decide +kernel
theorem dX7_heed_0 : decode cX7_heed 0 = .ok (.aload_n 1, 1) := by decide +kernel
theorem dX7_heed_1 : decode cX7_heed 1 = .ok (.iload_n 2, 1) := by decide +kernel
theorem dX7_heed_2 : decode cX7_heed 2 = .ok (.invokevirtual 77, 3) := by decide +kernel
theorem dX7_heed_5 : decode cX7_heed 5 = .ok (.ifCond .ne 4, 3) := by decide +kernel
theorem dX7_heed_8 : decode cX7_heed 8 = .ok (.return_, 1) := by decide +kernel
theorem dX7_heed_9 : decode cX7_heed 9 = .ok (.iload_n 2, 1) := by decide +kernel
theorem dX7_heed_10 : decode cX7_heed 10 = .ok (.bipush 10, 2) := by decide +kernel
theorem dX7_heed_12 : decode cX7_heed 12 = .ok (.idiv, 1) := by decide +kernel
theorem dX7_heed_13 : decode cX7_heed 13 = .ok (.bipush 10, 2) := by decide +kernel
theorem dX7_heed_15 : decode cX7_heed 15 = .ok (.irem, 1) := by decide +kernel
theorem dX7_heed_16 : decode cX7_heed 16 = .ok (.istore_n 3, 1) := by decide +kernel
theorem dX7_heed_17 : decode cX7_heed 17 = .ok (.iload_n 2, 1) := by decide +kernel
theorem dX7_heed_18 : decode cX7_heed 18 = .ok (.bipush 10, 2) := by decide +kernel
theorem dX7_heed_20 : decode cX7_heed 20 = .ok (.irem, 1) := by decide +kernel
theorem dX7_heed_21 : decode cX7_heed 21 = .ok (.istore 4, 2) := by decide +kernel
theorem dX7_heed_23 : decode cX7_heed 23 = .ok (.iconst 0, 1) := by decide +kernel
theorem dX7_heed_24 : decode cX7_heed 24 = .ok (.istore 5, 2) := by decide +kernel
theorem dX7_heed_26 : decode cX7_heed 26 = .ok (.iload 5, 2) := by decide +kernel
theorem dX7_heed_28 : decode cX7_heed 28 = .ok (.bipush 6, 2) := by decide +kernel
theorem dX7_heed_30 : decode cX7_heed 30 = .ok (.if_icmp .ge 88, 3) := by decide +kernel
theorem dX7_heed_33 : decode cX7_heed 33 = .ok (.aload_n 1, 1) := by decide +kernel
theorem dX7_heed_34 : decode cX7_heed 34 = .ok (.iload_n 2, 1) := by decide +kernel
theorem dX7_heed_35 : decode cX7_heed 35 = .ok (.iload 5, 2) := by decide +kernel
theorem dX7_heed_37 : decode cX7_heed 37 = .ok (.invokevirtual 80, 3) := by decide +kernel
theorem dX7_heed_40 : decode cX7_heed 40 = .ok (.istore 6, 2) := by decide +kernel
theorem dX7_heed_42 : decode cX7_heed 42 = .ok (.aload_n 0, 1) := by decide +kernel
theorem dX7_heed_43 : decode cX7_heed 43 = .ok (.getfield 24, 3) := by decide +kernel
theorem dX7_heed_46 : decode cX7_heed 46 = .ok (.iload_n 3, 1) := by decide +kernel
theorem dX7_heed_47 : decode cX7_heed 47 = .ok (.bipush 6, 2) := by decide +kernel
theorem dX7_heed_49 : decode cX7_heed 49 = .ok (.imul, 1) := by decide +kernel
theorem dX7_heed_50 : decode cX7_heed 50 = .ok (.iload 5, 2) := by decide +kernel
theorem dX7_heed_52 : decode cX7_heed 52 = .ok (.iadd, 1) := by decide +kernel
theorem dX7_heed_53 : decode cX7_heed 53 = .ok (.aaload, 1) := by decide +kernel
theorem dX7_heed_54 : decode cX7_heed 54 = .ok (.iload 4, 2) := by decide +kernel
theorem dX7_heed_56 : decode cX7_heed 56 = .ok (.dup2, 1) := by decide +kernel
theorem dX7_heed_57 : decode cX7_heed 57 = .ok (.iaload, 1) := by decide +kernel
theorem dX7_heed_58 : decode cX7_heed 58 = .ok (.iload 6, 2) := by decide +kernel
theorem dX7_heed_60 : decode cX7_heed 60 = .ok (.iand, 1) := by decide +kernel
theorem dX7_heed_61 : decode cX7_heed 61 = .ok (.iastore, 1) := by decide +kernel
theorem dX7_heed_62 : decode cX7_heed 62 = .ok (.iconst 0, 1) := by decide +kernel
theorem dX7_heed_63 : decode cX7_heed 63 = .ok (.istore 7, 2) := by decide +kernel
theorem dX7_heed_65 : decode cX7_heed 65 = .ok (.iload 7, 2) := by decide +kernel
theorem dX7_heed_67 : decode cX7_heed 67 = .ok (.bipush 6, 2) := by decide +kernel
theorem dX7_heed_69 : decode cX7_heed 69 = .ok (.if_icmp .ge 43, 3) := by decide +kernel
theorem dX7_heed_72 : decode cX7_heed 72 = .ok (.iload 6, 2) := by decide +kernel
theorem dX7_heed_74 : decode cX7_heed 74 = .ok (.iload 7, 2) := by decide +kernel
theorem dX7_heed_76 : decode cX7_heed 76 = .ok (.invokestatic 83, 3) := by decide +kernel
theorem dX7_heed_79 : decode cX7_heed 79 = .ok (.ifCond .ne 27, 3) := by decide +kernel
theorem dX7_heed_82 : decode cX7_heed 82 = .ok (.aload_n 0, 1) := by decide +kernel
theorem dX7_heed_83 : decode cX7_heed 83 = .ok (.getfield 24, 3) := by decide +kernel
theorem dX7_heed_86 : decode cX7_heed 86 = .ok (.iload 4, 2) := by decide +kernel
theorem dX7_heed_88 : decode cX7_heed 88 = .ok (.bipush 6, 2) := by decide +kernel
theorem dX7_heed_90 : decode cX7_heed 90 = .ok (.imul, 1) := by decide +kernel
theorem dX7_heed_91 : decode cX7_heed 91 = .ok (.iload 7, 2) := by decide +kernel
theorem dX7_heed_93 : decode cX7_heed 93 = .ok (.iadd, 1) := by decide +kernel
theorem dX7_heed_94 : decode cX7_heed 94 = .ok (.aaload, 1) := by decide +kernel
theorem dX7_heed_95 : decode cX7_heed 95 = .ok (.iload_n 3, 1) := by decide +kernel
theorem dX7_heed_96 : decode cX7_heed 96 = .ok (.dup2, 1) := by decide +kernel
theorem dX7_heed_97 : decode cX7_heed 97 = .ok (.iaload, 1) := by decide +kernel
theorem dX7_heed_98 : decode cX7_heed 98 = .ok (.iconst 1, 1) := by decide +kernel
theorem dX7_heed_99 : decode cX7_heed 99 = .ok (.iload 5, 2) := by decide +kernel
theorem dX7_heed_101 : decode cX7_heed 101 = .ok (.ishl, 1) := by decide +kernel
theorem dX7_heed_102 : decode cX7_heed 102 = .ok (.iconst (-1), 1) := by decide +kernel
theorem dX7_heed_103 : decode cX7_heed 103 = .ok (.ixor, 1) := by decide +kernel
theorem dX7_heed_104 : decode cX7_heed 104 = .ok (.iand, 1) := by decide +kernel
theorem dX7_heed_105 : decode cX7_heed 105 = .ok (.iastore, 1) := by decide +kernel
theorem dX7_heed_106 : decode cX7_heed 106 = .ok (.iinc 7 1, 3) := by decide +kernel
theorem dX7_heed_109 : decode cX7_heed 109 = .ok (.goto (-44), 3) := by decide +kernel
theorem dX7_heed_112 : decode cX7_heed 112 = .ok (.iinc 5 1, 3) := by decide +kernel
theorem dX7_heed_115 : decode cX7_heed 115 = .ok (.goto (-89), 3) := by decide +kernel
theorem dX7_heed_118 : decode cX7_heed 118 = .ok (.return_, 1) := by decide +kernel
theorem dX7_search_0 : decode cX7_search 0 = .ok (.iload_n 1, 1) := by decide +kernel
theorem dX7_search_1 : decode cX7_search 1 = .ok (.ifCond .lt 17, 3) := by decide +kernel
theorem dX7_search_4 : decode cX7_search 4 = .ok (.iload_n 1, 1) := by decide +kernel
theorem dX7_search_5 : decode cX7_search 5 = .ok (.aload_n 0, 1) := by decide +kernel
theorem dX7_search_6 : decode cX7_search 6 = .ok (.getfield 15, 3) := by decide +kernel
theorem dX7_search_9 : decode cX7_search 9 = .ok (.if_icmp .ge 9, 3) := by decide +kernel
theorem dX7_search_12 : decode cX7_search 12 = .ok (.iload_n 1, 1) := by decide +kernel
theorem dX7_search_13 : decode cX7_search 13 = .ok (.bipush 6, 2) := by decide +kernel
theorem dX7_search_15 : decode cX7_search 15 = .ok (.if_icmp .lt 5, 3) := by decide +kernel
theorem dX7_search_18 : decode cX7_search 18 = .ok (.iconst 0, 1) := by decide +kernel
theorem dX7_search_19 : decode cX7_search 19 = .ok (.ireturn, 1) := by decide +kernel
theorem dX7_search_20 : decode cX7_search 20 = .ok (.aload_n 0, 1) := by decide +kernel
theorem dX7_search_21 : decode cX7_search 21 = .ok (.getfield 9, 3) := by decide +kernel
theorem dX7_search_24 : decode cX7_search 24 = .ok (.iload_n 1, 1) := by decide +kernel
theorem dX7_search_25 : decode cX7_search 25 = .ok (.iaload, 1) := by decide +kernel
theorem dX7_search_26 : decode cX7_search 26 = .ok (.istore_n 3, 1) := by decide +kernel
theorem dX7_search_27 : decode cX7_search 27 = .ok (.aload_n 0, 1) := by decide +kernel
theorem dX7_search_28 : decode cX7_search 28 = .ok (.getfield 27, 3) := by decide +kernel
theorem dX7_search_31 : decode cX7_search 31 = .ok (.iload_n 1, 1) := by decide +kernel
theorem dX7_search_32 : decode cX7_search 32 = .ok (.aaload, 1) := by decide +kernel
theorem dX7_search_33 : decode cX7_search 33 = .ok (.iload_n 3, 1) := by decide +kernel
theorem dX7_search_34 : decode cX7_search 34 = .ok (.iaload, 1) := by decide +kernel
theorem dX7_search_35 : decode cX7_search 35 = .ok (.istore 4, 2) := by decide +kernel
theorem dX7_search_37 : decode cX7_search 37 = .ok (.iconst 0, 1) := by decide +kernel
theorem dX7_search_38 : decode cX7_search 38 = .ok (.istore 5, 2) := by decide +kernel
theorem dX7_search_40 : decode cX7_search 40 = .ok (.iconst 0, 1) := by decide +kernel
theorem dX7_search_41 : decode cX7_search 41 = .ok (.istore 6, 2) := by decide +kernel
theorem dX7_search_43 : decode cX7_search 43 = .ok (.iload 6, 2) := by decide +kernel
theorem dX7_search_45 : decode cX7_search 45 = .ok (.bipush 6, 2) := by decide +kernel
theorem dX7_search_47 : decode cX7_search 47 = .ok (.if_icmp .ge 117, 3) := by decide +kernel
theorem dX7_search_50 : decode cX7_search 50 = .ok (.iload 4, 2) := by decide +kernel
theorem dX7_search_52 : decode cX7_search 52 = .ok (.iload 6, 2) := by decide +kernel
theorem dX7_search_54 : decode cX7_search 54 = .ok (.ishr, 1) := by decide +kernel
theorem dX7_search_55 : decode cX7_search 55 = .ok (.iconst 1, 1) := by decide +kernel
theorem dX7_search_56 : decode cX7_search 56 = .ok (.iand, 1) := by decide +kernel
theorem dX7_search_57 : decode cX7_search 57 = .ok (.ifCond .ne 6, 3) := by decide +kernel
theorem dX7_search_60 : decode cX7_search 60 = .ok (.goto 98, 3) := by decide +kernel
theorem dX7_search_63 : decode cX7_search 63 = .ok (.iload_n 3, 1) := by decide +kernel
theorem dX7_search_64 : decode cX7_search 64 = .ok (.bipush 6, 2) := by decide +kernel
theorem dX7_search_66 : decode cX7_search 66 = .ok (.imul, 1) := by decide +kernel
theorem dX7_search_67 : decode cX7_search 67 = .ok (.iload 6, 2) := by decide +kernel
theorem dX7_search_69 : decode cX7_search 69 = .ok (.iadd, 1) := by decide +kernel
theorem dX7_search_70 : decode cX7_search 70 = .ok (.istore 7, 2) := by decide +kernel
theorem dX7_search_72 : decode cX7_search 72 = .ok (.aload_n 0, 1) := by decide +kernel
theorem dX7_search_73 : decode cX7_search 73 = .ok (.getfield 30, 3) := by decide +kernel
theorem dX7_search_76 : decode cX7_search 76 = .ok (.iload_n 3, 1) := by decide +kernel
theorem dX7_search_77 : decode cX7_search 77 = .ok (.iload 6, 2) := by decide +kernel
theorem dX7_search_79 : decode cX7_search 79 = .ok (.iastore, 1) := by decide +kernel
theorem dX7_search_80 : decode cX7_search 80 = .ok (.iconst 0, 1) := by decide +kernel
theorem dX7_search_81 : decode cX7_search 81 = .ok (.istore 8, 2) := by decide +kernel
theorem dX7_search_83 : decode cX7_search 83 = .ok (.iload_n 1, 1) := by decide +kernel
theorem dX7_search_84 : decode cX7_search 84 = .ok (.iconst 1, 1) := by decide +kernel
theorem dX7_search_85 : decode cX7_search 85 = .ok (.iadd, 1) := by decide +kernel
theorem dX7_search_86 : decode cX7_search 86 = .ok (.aload_n 0, 1) := by decide +kernel
theorem dX7_search_87 : decode cX7_search 87 = .ok (.getfield 15, 3) := by decide +kernel
theorem dX7_search_90 : decode cX7_search 90 = .ok (.if_icmp .ne 21, 3) := by decide +kernel
theorem dX7_search_93 : decode cX7_search 93 = .ok (.aload_n 0, 1) := by decide +kernel
theorem dX7_search_94 : decode cX7_search 94 = .ok (.iload_n 2, 1) := by decide +kernel
theorem dX7_search_95 : decode cX7_search 95 = .ok (.aload_n 0, 1) := by decide +kernel
theorem dX7_search_96 : decode cX7_search 96 = .ok (.getfield 19, 3) := by decide +kernel
theorem dX7_search_99 : decode cX7_search 99 = .ok (.iload 7, 2) := by decide +kernel
theorem dX7_search_101 : decode cX7_search 101 = .ok (.iaload, 1) := by decide +kernel
theorem dX7_search_102 : decode cX7_search 102 = .ok (.iadd, 1) := by decide +kernel
theorem dX7_search_103 : decode cX7_search 103 = .ok (.invokevirtual 87, 3) := by decide +kernel
theorem dX7_search_106 : decode cX7_search 106 = .ok (.istore 8, 2) := by decide +kernel
theorem dX7_search_108 : decode cX7_search 108 = .ok (.goto 31, 3) := by decide +kernel
theorem dX7_search_111 : decode cX7_search 111 = .ok (.aload_n 0, 1) := by decide +kernel
theorem dX7_search_112 : decode cX7_search 112 = .ok (.iload_n 1, 1) := by decide +kernel
theorem dX7_search_113 : decode cX7_search 113 = .ok (.iload 7, 2) := by decide +kernel
theorem dX7_search_115 : decode cX7_search 115 = .ok (.invokevirtual 90, 3) := by decide +kernel
theorem dX7_search_118 : decode cX7_search 118 = .ok (.ifCond .eq 21, 3) := by decide +kernel
theorem dX7_search_121 : decode cX7_search 121 = .ok (.aload_n 0, 1) := by decide +kernel
theorem dX7_search_122 : decode cX7_search 122 = .ok (.iload_n 1, 1) := by decide +kernel
theorem dX7_search_123 : decode cX7_search 123 = .ok (.iconst 1, 1) := by decide +kernel
theorem dX7_search_124 : decode cX7_search 124 = .ok (.iadd, 1) := by decide +kernel
theorem dX7_search_125 : decode cX7_search 125 = .ok (.iload_n 2, 1) := by decide +kernel
theorem dX7_search_126 : decode cX7_search 126 = .ok (.aload_n 0, 1) := by decide +kernel
theorem dX7_search_127 : decode cX7_search 127 = .ok (.getfield 19, 3) := by decide +kernel
theorem dX7_search_130 : decode cX7_search 130 = .ok (.iload 7, 2) := by decide +kernel
theorem dX7_search_132 : decode cX7_search 132 = .ok (.iaload, 1) := by decide +kernel
theorem dX7_search_133 : decode cX7_search 133 = .ok (.iadd, 1) := by decide +kernel
theorem dX7_search_134 : decode cX7_search 134 = .ok (.invokevirtual 66, 3) := by decide +kernel
theorem dX7_search_137 : decode cX7_search 137 = .ok (.istore 8, 2) := by decide +kernel
theorem dX7_search_139 : decode cX7_search 139 = .ok (.aload_n 0, 1) := by decide +kernel
theorem dX7_search_140 : decode cX7_search 140 = .ok (.getfield 36, 3) := by decide +kernel
theorem dX7_search_143 : decode cX7_search 143 = .ok (.iload 7, 2) := by decide +kernel
theorem dX7_search_145 : decode cX7_search 145 = .ok (.dup2, 1) := by decide +kernel
theorem dX7_search_146 : decode cX7_search 146 = .ok (.iaload, 1) := by decide +kernel
theorem dX7_search_147 : decode cX7_search 147 = .ok (.iload 8, 2) := by decide +kernel
theorem dX7_search_149 : decode cX7_search 149 = .ok (.iadd, 1) := by decide +kernel
theorem dX7_search_150 : decode cX7_search 150 = .ok (.iastore, 1) := by decide +kernel
theorem dX7_search_151 : decode cX7_search 151 = .ok (.iload 5, 2) := by decide +kernel
theorem dX7_search_153 : decode cX7_search 153 = .ok (.iload 8, 2) := by decide +kernel
theorem dX7_search_155 : decode cX7_search 155 = .ok (.iadd, 1) := by decide +kernel
theorem dX7_search_156 : decode cX7_search 156 = .ok (.istore 5, 2) := by decide +kernel
theorem dX7_search_158 : decode cX7_search 158 = .ok (.iinc 6 1, 3) := by decide +kernel
theorem dX7_search_161 : decode cX7_search 161 = .ok (.goto (-118), 3) := by decide +kernel
theorem dX7_search_164 : decode cX7_search 164 = .ok (.iload 5, 2) := by decide +kernel
theorem dX7_search_166 : decode cX7_search 166 = .ok (.ireturn, 1) := by decide +kernel
theorem dX7_leavesSome_0 : decode cX7_leavesSome 0 = .ok (.iload_n 1, 1) := by decide +kernel
theorem dX7_leavesSome_1 : decode cX7_leavesSome 1 = .ok (.iconst 1, 1) := by decide +kernel
theorem dX7_leavesSome_2 : decode cX7_leavesSome 2 = .ok (.iadd, 1) := by decide +kernel
theorem dX7_leavesSome_3 : decode cX7_leavesSome 3 = .ok (.istore_n 3, 1) := by decide +kernel
theorem dX7_leavesSome_4 : decode cX7_leavesSome 4 = .ok (.iload_n 3, 1) := by decide +kernel
theorem dX7_leavesSome_5 : decode cX7_leavesSome 5 = .ok (.aload_n 0, 1) := by decide +kernel
theorem dX7_leavesSome_6 : decode cX7_leavesSome 6 = .ok (.getfield 15, 3) := by decide +kernel
theorem dX7_leavesSome_9 : decode cX7_leavesSome 9 = .ok (.if_icmp .ge 58, 3) := by decide +kernel
theorem dX7_leavesSome_12 : decode cX7_leavesSome 12 = .ok (.aload_n 0, 1) := by decide +kernel
theorem dX7_leavesSome_13 : decode cX7_leavesSome 13 = .ok (.getfield 9, 3) := by decide +kernel
theorem dX7_leavesSome_16 : decode cX7_leavesSome 16 = .ok (.iload_n 3, 1) := by decide +kernel
theorem dX7_leavesSome_17 : decode cX7_leavesSome 17 = .ok (.iaload, 1) := by decide +kernel
theorem dX7_leavesSome_18 : decode cX7_leavesSome 18 = .ok (.istore 4, 2) := by decide +kernel
theorem dX7_leavesSome_20 : decode cX7_leavesSome 20 = .ok (.aload_n 0, 1) := by decide +kernel
theorem dX7_leavesSome_21 : decode cX7_leavesSome 21 = .ok (.getfield 27, 3) := by decide +kernel
theorem dX7_leavesSome_24 : decode cX7_leavesSome 24 = .ok (.iload_n 1, 1) := by decide +kernel
theorem dX7_leavesSome_25 : decode cX7_leavesSome 25 = .ok (.aaload, 1) := by decide +kernel
theorem dX7_leavesSome_26 : decode cX7_leavesSome 26 = .ok (.iload 4, 2) := by decide +kernel
theorem dX7_leavesSome_28 : decode cX7_leavesSome 28 = .ok (.iaload, 1) := by decide +kernel
theorem dX7_leavesSome_29 : decode cX7_leavesSome 29 = .ok (.aload_n 0, 1) := by decide +kernel
theorem dX7_leavesSome_30 : decode cX7_leavesSome 30 = .ok (.getfield 24, 3) := by decide +kernel
theorem dX7_leavesSome_33 : decode cX7_leavesSome 33 = .ok (.iload_n 2, 1) := by decide +kernel
theorem dX7_leavesSome_34 : decode cX7_leavesSome 34 = .ok (.aaload, 1) := by decide +kernel
theorem dX7_leavesSome_35 : decode cX7_leavesSome 35 = .ok (.iload 4, 2) := by decide +kernel
theorem dX7_leavesSome_37 : decode cX7_leavesSome 37 = .ok (.iaload, 1) := by decide +kernel
theorem dX7_leavesSome_38 : decode cX7_leavesSome 38 = .ok (.iand, 1) := by decide +kernel
theorem dX7_leavesSome_39 : decode cX7_leavesSome 39 = .ok (.istore 5, 2) := by decide +kernel
theorem dX7_leavesSome_41 : decode cX7_leavesSome 41 = .ok (.iload 5, 2) := by decide +kernel
theorem dX7_leavesSome_43 : decode cX7_leavesSome 43 = .ok (.ifCond .ne 5, 3) := by decide +kernel
theorem dX7_leavesSome_46 : decode cX7_leavesSome 46 = .ok (.iconst 0, 1) := by decide +kernel
theorem dX7_leavesSome_47 : decode cX7_leavesSome 47 = .ok (.ireturn, 1) := by decide +kernel
theorem dX7_leavesSome_48 : decode cX7_leavesSome 48 = .ok (.aload_n 0, 1) := by decide +kernel
theorem dX7_leavesSome_49 : decode cX7_leavesSome 49 = .ok (.getfield 27, 3) := by decide +kernel
theorem dX7_leavesSome_52 : decode cX7_leavesSome 52 = .ok (.iload_n 1, 1) := by decide +kernel
theorem dX7_leavesSome_53 : decode cX7_leavesSome 53 = .ok (.iconst 1, 1) := by decide +kernel
theorem dX7_leavesSome_54 : decode cX7_leavesSome 54 = .ok (.iadd, 1) := by decide +kernel
theorem dX7_leavesSome_55 : decode cX7_leavesSome 55 = .ok (.aaload, 1) := by decide +kernel
theorem dX7_leavesSome_56 : decode cX7_leavesSome 56 = .ok (.iload 4, 2) := by decide +kernel
theorem dX7_leavesSome_58 : decode cX7_leavesSome 58 = .ok (.iload 5, 2) := by decide +kernel
theorem dX7_leavesSome_60 : decode cX7_leavesSome 60 = .ok (.iastore, 1) := by decide +kernel
theorem dX7_leavesSome_61 : decode cX7_leavesSome 61 = .ok (.iinc 3 1, 3) := by decide +kernel
theorem dX7_leavesSome_64 : decode cX7_leavesSome 64 = .ok (.goto (-60), 3) := by decide +kernel
theorem dX7_leavesSome_67 : decode cX7_leavesSome 67 = .ok (.iconst 1, 1) := by decide +kernel
theorem dX7_leavesSome_68 : decode cX7_leavesSome 68 = .ok (.ireturn, 1) := by decide +kernel
theorem dX7_arrive_0 : decode cX7_arrive 0 = .ok (.iload_n 1, 1) := by decide +kernel
theorem dX7_arrive_1 : decode cX7_arrive 1 = .ok (.aload_n 0, 1) := by decide +kernel
theorem dX7_arrive_2 : decode cX7_arrive 2 = .ok (.getfield 42, 3) := by decide +kernel
theorem dX7_arrive_5 : decode cX7_arrive 5 = .ok (.if_icmp .le 23, 3) := by decide +kernel
theorem dX7_arrive_8 : decode cX7_arrive 8 = .ok (.aload_n 0, 1) := by decide +kernel
theorem dX7_arrive_9 : decode cX7_arrive 9 = .ok (.iload_n 1, 1) := by decide +kernel
theorem dX7_arrive_10 : decode cX7_arrive 10 = .ok (.putfield 42, 3) := by decide +kernel
theorem dX7_arrive_13 : decode cX7_arrive 13 = .ok (.aload_n 0, 1) := by decide +kernel
theorem dX7_arrive_14 : decode cX7_arrive 14 = .ok (.getfield 30, 3) := by decide +kernel
theorem dX7_arrive_17 : decode cX7_arrive 17 = .ok (.iconst 0, 1) := by decide +kernel
theorem dX7_arrive_18 : decode cX7_arrive 18 = .ok (.aload_n 0, 1) := by decide +kernel
theorem dX7_arrive_19 : decode cX7_arrive 19 = .ok (.getfield 33, 3) := by decide +kernel
theorem dX7_arrive_22 : decode cX7_arrive 22 = .ok (.iconst 0, 1) := by decide +kernel
theorem dX7_arrive_23 : decode cX7_arrive 23 = .ok (.bipush 6, 2) := by decide +kernel
theorem dX7_arrive_25 : decode cX7_arrive 25 = .ok (.invokestatic 93, 3) := by decide +kernel
theorem dX7_arrive_28 : decode cX7_arrive 28 = .ok (.iconst 1, 1) := by decide +kernel
theorem dX7_arrive_29 : decode cX7_arrive 29 = .ok (.ireturn, 1) := by decide +kernel
theorem dX7_bestReading_0 : decode cX7_bestReading 0 = .ok (.iload_n 1, 1) := by decide +kernel
theorem dX7_bestReading_1 : decode cX7_bestReading 1 = .ok (.ifCond .lt 18, 3) := by decide +kernel
theorem dX7_bestReading_4 : decode cX7_bestReading 4 = .ok (.iload_n 1, 1) := by decide +kernel
theorem dX7_bestReading_5 : decode cX7_bestReading 5 = .ok (.bipush 6, 2) := by decide +kernel
theorem dX7_bestReading_7 : decode cX7_bestReading 7 = .ok (.if_icmp .ge 12, 3) := by decide +kernel
theorem dX7_bestReading_10 : decode cX7_bestReading 10 = .ok (.aload_n 0, 1) := by decide +kernel
theorem dX7_bestReading_11 : decode cX7_bestReading 11 = .ok (.getfield 33, 3) := by decide +kernel
theorem dX7_bestReading_14 : decode cX7_bestReading 14 = .ok (.iload_n 1, 1) := by decide +kernel
theorem dX7_bestReading_15 : decode cX7_bestReading 15 = .ok (.iaload, 1) := by decide +kernel
theorem dX7_bestReading_16 : decode cX7_bestReading 16 = .ok (.goto 4, 3) := by decide +kernel
theorem dX7_bestReading_19 : decode cX7_bestReading 19 = .ok (.iconst (-1), 1) := by decide +kernel
theorem dX7_bestReading_20 : decode cX7_bestReading 20 = .ok (.ireturn, 1) := by decide +kernel
theorem dX7_leftBits_0 : decode cX7_leftBits 0 = .ok (.iload_n 1, 1) := by decide +kernel
theorem dX7_leftBits_1 : decode cX7_leftBits 1 = .ok (.ifCond .lt 9, 3) := by decide +kernel
theorem dX7_leftBits_4 : decode cX7_leftBits 4 = .ok (.iload_n 1, 1) := by decide +kernel
theorem dX7_leftBits_5 : decode cX7_leftBits 5 = .ok (.bipush 6, 2) := by decide +kernel
theorem dX7_leftBits_7 : decode cX7_leftBits 7 = .ok (.if_icmp .lt 5, 3) := by decide +kernel
theorem dX7_leftBits_10 : decode cX7_leftBits 10 = .ok (.iconst 0, 1) := by decide +kernel
theorem dX7_leftBits_11 : decode cX7_leftBits 11 = .ok (.ireturn, 1) := by decide +kernel
theorem dX7_leftBits_12 : decode cX7_leftBits 12 = .ok (.iconst 0, 1) := by decide +kernel
theorem dX7_leftBits_13 : decode cX7_leftBits 13 = .ok (.istore_n 2, 1) := by decide +kernel
theorem dX7_leftBits_14 : decode cX7_leftBits 14 = .ok (.iconst 0, 1) := by decide +kernel
theorem dX7_leftBits_15 : decode cX7_leftBits 15 = .ok (.istore_n 3, 1) := by decide +kernel
theorem dX7_leftBits_16 : decode cX7_leftBits 16 = .ok (.iload_n 3, 1) := by decide +kernel
theorem dX7_leftBits_17 : decode cX7_leftBits 17 = .ok (.bipush 6, 2) := by decide +kernel
theorem dX7_leftBits_19 : decode cX7_leftBits 19 = .ok (.if_icmp .ge 29, 3) := by decide +kernel
theorem dX7_leftBits_22 : decode cX7_leftBits 22 = .ok (.aload_n 0, 1) := by decide +kernel
theorem dX7_leftBits_23 : decode cX7_leftBits 23 = .ok (.getfield 36, 3) := by decide +kernel
theorem dX7_leftBits_26 : decode cX7_leftBits 26 = .ok (.iload_n 1, 1) := by decide +kernel
theorem dX7_leftBits_27 : decode cX7_leftBits 27 = .ok (.bipush 6, 2) := by decide +kernel
theorem dX7_leftBits_29 : decode cX7_leftBits 29 = .ok (.imul, 1) := by decide +kernel
theorem dX7_leftBits_30 : decode cX7_leftBits 30 = .ok (.iload_n 3, 1) := by decide +kernel
theorem dX7_leftBits_31 : decode cX7_leftBits 31 = .ok (.iadd, 1) := by decide +kernel
theorem dX7_leftBits_32 : decode cX7_leftBits 32 = .ok (.iaload, 1) := by decide +kernel
theorem dX7_leftBits_33 : decode cX7_leftBits 33 = .ok (.ifCond .le 9, 3) := by decide +kernel
theorem dX7_leftBits_36 : decode cX7_leftBits 36 = .ok (.iload_n 2, 1) := by decide +kernel
theorem dX7_leftBits_37 : decode cX7_leftBits 37 = .ok (.iconst 1, 1) := by decide +kernel
theorem dX7_leftBits_38 : decode cX7_leftBits 38 = .ok (.iload_n 3, 1) := by decide +kernel
theorem dX7_leftBits_39 : decode cX7_leftBits 39 = .ok (.ishl, 1) := by decide +kernel
theorem dX7_leftBits_40 : decode cX7_leftBits 40 = .ok (.ior, 1) := by decide +kernel
theorem dX7_leftBits_41 : decode cX7_leftBits 41 = .ok (.istore_n 2, 1) := by decide +kernel
theorem dX7_leftBits_42 : decode cX7_leftBits 42 = .ok (.iinc 3 1, 3) := by decide +kernel
theorem dX7_leftBits_45 : decode cX7_leftBits 45 = .ok (.goto (-29), 3) := by decide +kernel
theorem dX7_leftBits_48 : decode cX7_leftBits 48 = .ok (.iload_n 2, 1) := by decide +kernel
theorem dX7_leftBits_49 : decode cX7_leftBits 49 = .ok (.ireturn, 1) := by decide +kernel
theorem dX7_hasOpenQuestion_0 : decode cX7_hasOpenQuestion 0 = .ok (.aload_n 0, 1) := by decide +kernel
theorem dX7_hasOpenQuestion_1 : decode cX7_hasOpenQuestion 1 = .ok (.iload_n 1, 1) := by decide +kernel
theorem dX7_hasOpenQuestion_2 : decode cX7_hasOpenQuestion 2 = .ok (.invokevirtual 99, 3) := by decide +kernel
theorem dX7_hasOpenQuestion_5 : decode cX7_hasOpenQuestion 5 = .ok (.invokestatic 102, 3) := by decide +kernel
theorem dX7_hasOpenQuestion_8 : decode cX7_hasOpenQuestion 8 = .ok (.iconst 1, 1) := by decide +kernel
theorem dX7_hasOpenQuestion_9 : decode cX7_hasOpenQuestion 9 = .ok (.if_icmp .le 7, 3) := by decide +kernel
theorem dX7_hasOpenQuestion_12 : decode cX7_hasOpenQuestion 12 = .ok (.iconst 1, 1) := by decide +kernel
theorem dX7_hasOpenQuestion_13 : decode cX7_hasOpenQuestion 13 = .ok (.goto 4, 3) := by decide +kernel
theorem dX7_hasOpenQuestion_16 : decode cX7_hasOpenQuestion 16 = .ok (.iconst 0, 1) := by decide +kernel
theorem dX7_hasOpenQuestion_17 : decode cX7_hasOpenQuestion 17 = .ok (.ireturn, 1) := by decide +kernel
theorem dX7_leftOfAll_0 : decode cX7_leftOfAll 0 = .ok (.iconst 0, 1) := by decide +kernel
theorem dX7_leftOfAll_1 : decode cX7_leftOfAll 1 = .ok (.istore_n 1, 1) := by decide +kernel
theorem dX7_leftOfAll_2 : decode cX7_leftOfAll 2 = .ok (.iconst 0, 1) := by decide +kernel
theorem dX7_leftOfAll_3 : decode cX7_leftOfAll 3 = .ok (.istore_n 2, 1) := by decide +kernel
theorem dX7_leftOfAll_4 : decode cX7_leftOfAll 4 = .ok (.iload_n 2, 1) := by decide +kernel
theorem dX7_leftOfAll_5 : decode cX7_leftOfAll 5 = .ok (.bipush 36, 2) := by decide +kernel
theorem dX7_leftOfAll_7 : decode cX7_leftOfAll 7 = .ok (.if_icmp .ge 26, 3) := by decide +kernel
theorem dX7_leftOfAll_10 : decode cX7_leftOfAll 10 = .ok (.iload_n 1, 1) := by decide +kernel
theorem dX7_leftOfAll_11 : decode cX7_leftOfAll 11 = .ok (.aload_n 0, 1) := by decide +kernel
theorem dX7_leftOfAll_12 : decode cX7_leftOfAll 12 = .ok (.getfield 36, 3) := by decide +kernel
theorem dX7_leftOfAll_15 : decode cX7_leftOfAll 15 = .ok (.iload_n 2, 1) := by decide +kernel
theorem dX7_leftOfAll_16 : decode cX7_leftOfAll 16 = .ok (.iaload, 1) := by decide +kernel
theorem dX7_leftOfAll_17 : decode cX7_leftOfAll 17 = .ok (.ifCond .le 7, 3) := by decide +kernel
theorem dX7_leftOfAll_20 : decode cX7_leftOfAll 20 = .ok (.iconst 1, 1) := by decide +kernel
theorem dX7_leftOfAll_21 : decode cX7_leftOfAll 21 = .ok (.goto 4, 3) := by decide +kernel
theorem dX7_leftOfAll_24 : decode cX7_leftOfAll 24 = .ok (.iconst 0, 1) := by decide +kernel
theorem dX7_leftOfAll_25 : decode cX7_leftOfAll 25 = .ok (.iadd, 1) := by decide +kernel
theorem dX7_leftOfAll_26 : decode cX7_leftOfAll 26 = .ok (.istore_n 1, 1) := by decide +kernel
theorem dX7_leftOfAll_27 : decode cX7_leftOfAll 27 = .ok (.iinc 2 1, 3) := by decide +kernel
theorem dX7_leftOfAll_30 : decode cX7_leftOfAll 30 = .ok (.goto (-26), 3) := by decide +kernel
theorem dX7_leftOfAll_33 : decode cX7_leftOfAll 33 = .ok (.iload_n 1, 1) := by decide +kernel
theorem dX7_leftOfAll_34 : decode cX7_leftOfAll 34 = .ok (.ireturn, 1) := by decide +kernel
theorem dX7_mostWithOneReading_0 : decode cX7_mostWithOneReading 0 = .ok (.iload_n 1, 1) := by decide +kernel
theorem dX7_mostWithOneReading_1 : decode cX7_mostWithOneReading 1 = .ok (.ifCond .lt 9, 3) := by decide +kernel
theorem dX7_mostWithOneReading_4 : decode cX7_mostWithOneReading 4 = .ok (.iload_n 1, 1) := by decide +kernel
theorem dX7_mostWithOneReading_5 : decode cX7_mostWithOneReading 5 = .ok (.bipush 6, 2) := by decide +kernel
theorem dX7_mostWithOneReading_7 : decode cX7_mostWithOneReading 7 = .ok (.if_icmp .lt 5, 3) := by decide +kernel
theorem dX7_mostWithOneReading_10 : decode cX7_mostWithOneReading 10 = .ok (.iconst 0, 1) := by decide +kernel
theorem dX7_mostWithOneReading_11 : decode cX7_mostWithOneReading 11 = .ok (.ireturn, 1) := by decide +kernel
theorem dX7_mostWithOneReading_12 : decode cX7_mostWithOneReading 12 = .ok (.iconst 0, 1) := by decide +kernel
theorem dX7_mostWithOneReading_13 : decode cX7_mostWithOneReading 13 = .ok (.istore_n 2, 1) := by decide +kernel
theorem dX7_mostWithOneReading_14 : decode cX7_mostWithOneReading 14 = .ok (.iconst 0, 1) := by decide +kernel
theorem dX7_mostWithOneReading_15 : decode cX7_mostWithOneReading 15 = .ok (.istore_n 3, 1) := by decide +kernel
theorem dX7_mostWithOneReading_16 : decode cX7_mostWithOneReading 16 = .ok (.iload_n 3, 1) := by decide +kernel
theorem dX7_mostWithOneReading_17 : decode cX7_mostWithOneReading 17 = .ok (.bipush 6, 2) := by decide +kernel
theorem dX7_mostWithOneReading_19 : decode cX7_mostWithOneReading 19 = .ok (.if_icmp .ge 25, 3) := by decide +kernel
theorem dX7_mostWithOneReading_22 : decode cX7_mostWithOneReading 22 = .ok (.iload_n 2, 1) := by decide +kernel
theorem dX7_mostWithOneReading_23 : decode cX7_mostWithOneReading 23 = .ok (.aload_n 0, 1) := by decide +kernel
theorem dX7_mostWithOneReading_24 : decode cX7_mostWithOneReading 24 = .ok (.getfield 36, 3) := by decide +kernel
theorem dX7_mostWithOneReading_27 : decode cX7_mostWithOneReading 27 = .ok (.iload_n 1, 1) := by decide +kernel
theorem dX7_mostWithOneReading_28 : decode cX7_mostWithOneReading 28 = .ok (.bipush 6, 2) := by decide +kernel
theorem dX7_mostWithOneReading_30 : decode cX7_mostWithOneReading 30 = .ok (.imul, 1) := by decide +kernel
theorem dX7_mostWithOneReading_31 : decode cX7_mostWithOneReading 31 = .ok (.iload_n 3, 1) := by decide +kernel
theorem dX7_mostWithOneReading_32 : decode cX7_mostWithOneReading 32 = .ok (.iadd, 1) := by decide +kernel
theorem dX7_mostWithOneReading_33 : decode cX7_mostWithOneReading 33 = .ok (.iaload, 1) := by decide +kernel
theorem dX7_mostWithOneReading_34 : decode cX7_mostWithOneReading 34 = .ok (.invokestatic 107, 3) := by decide +kernel
theorem dX7_mostWithOneReading_37 : decode cX7_mostWithOneReading 37 = .ok (.istore_n 2, 1) := by decide +kernel
theorem dX7_mostWithOneReading_38 : decode cX7_mostWithOneReading 38 = .ok (.iinc 3 1, 3) := by decide +kernel
theorem dX7_mostWithOneReading_41 : decode cX7_mostWithOneReading 41 = .ok (.goto (-25), 3) := by decide +kernel
theorem dX7_mostWithOneReading_44 : decode cX7_mostWithOneReading 44 = .ok (.iload_n 2, 1) := by decide +kernel
theorem dX7_mostWithOneReading_45 : decode cX7_mostWithOneReading 45 = .ok (.ireturn, 1) := by decide +kernel
theorem dX8_init_0 : decode cX8_init 0 = .ok (.aload_n 0, 1) := by decide +kernel
theorem dX8_init_1 : decode cX8_init 1 = .ok (.invokespecial 5, 3) := by decide +kernel
theorem dX8_init_4 : decode cX8_init 4 = .ok (.aload_n 0, 1) := by decide +kernel
theorem dX8_init_5 : decode cX8_init 5 = .ok (.sipush 170, 3) := by decide +kernel
theorem dX8_init_8 : decode cX8_init 8 = .ok (.newarray .int, 2) := by decide +kernel
theorem dX8_init_10 : decode cX8_init 10 = .ok (.putfield 11, 3) := by decide +kernel
theorem dX8_init_13 : decode cX8_init 13 = .ok (.aload_n 0, 1) := by decide +kernel
theorem dX8_init_14 : decode cX8_init 14 = .ok (.getfield 11, 3) := by decide +kernel
theorem dX8_init_17 : decode cX8_init 17 = .ok (.iconst 0, 1) := by decide +kernel
theorem dX8_init_18 : decode cX8_init 18 = .ok (.sipush 3000, 3) := by decide +kernel
theorem dX8_init_21 : decode cX8_init 21 = .ok (.iastore, 1) := by decide +kernel
theorem dX8_init_22 : decode cX8_init 22 = .ok (.return_, 1) := by decide +kernel
theorem dX8_save_0 : decode cX8_save 0 = .ok (.aload_n 1, 1) := by decide +kernel
theorem dX8_save_1 : decode cX8_save 1 = .ok (.ifnull 24, 3) := by decide +kernel
theorem dX8_save_4 : decode cX8_save 4 = .ok (.aload_n 1, 1) := by decide +kernel
theorem dX8_save_5 : decode cX8_save 5 = .ok (.arraylength, 1) := by decide +kernel
theorem dX8_save_6 : decode cX8_save 6 = .ok (.sipush 170, 3) := by decide +kernel
theorem dX8_save_9 : decode cX8_save 9 = .ok (.if_icmp .ne 16, 3) := by decide +kernel
theorem dX8_save_12 : decode cX8_save 12 = .ok (.aload_n 0, 1) := by decide +kernel
theorem dX8_save_13 : decode cX8_save 13 = .ok (.getfield 11, 3) := by decide +kernel
theorem dX8_save_16 : decode cX8_save 16 = .ok (.iconst 0, 1) := by decide +kernel
theorem dX8_save_17 : decode cX8_save 17 = .ok (.aload_n 1, 1) := by decide +kernel
theorem dX8_save_18 : decode cX8_save 18 = .ok (.iconst 0, 1) := by decide +kernel
theorem dX8_save_19 : decode cX8_save 19 = .ok (.sipush 170, 3) := by decide +kernel
theorem dX8_save_22 : decode cX8_save 22 = .ok (.invokestatic 15, 3) := by decide +kernel
theorem dX8_save_25 : decode cX8_save 25 = .ok (.return_, 1) := by decide +kernel
theorem dX8_load_0 : decode cX8_load 0 = .ok (.aload_n 1, 1) := by decide +kernel
theorem dX8_load_1 : decode cX8_load 1 = .ok (.ifnull 24, 3) := by decide +kernel
theorem dX8_load_4 : decode cX8_load 4 = .ok (.aload_n 1, 1) := by decide +kernel
theorem dX8_load_5 : decode cX8_load 5 = .ok (.arraylength, 1) := by decide +kernel
theorem dX8_load_6 : decode cX8_load 6 = .ok (.sipush 170, 3) := by decide +kernel
theorem dX8_load_9 : decode cX8_load 9 = .ok (.if_icmp .ne 16, 3) := by decide +kernel
theorem dX8_load_12 : decode cX8_load 12 = .ok (.aload_n 1, 1) := by decide +kernel
theorem dX8_load_13 : decode cX8_load 13 = .ok (.iconst 0, 1) := by decide +kernel
theorem dX8_load_14 : decode cX8_load 14 = .ok (.aload_n 0, 1) := by decide +kernel
theorem dX8_load_15 : decode cX8_load 15 = .ok (.getfield 11, 3) := by decide +kernel
theorem dX8_load_18 : decode cX8_load 18 = .ok (.iconst 0, 1) := by decide +kernel
theorem dX8_load_19 : decode cX8_load 19 = .ok (.sipush 170, 3) := by decide +kernel
theorem dX8_load_22 : decode cX8_load 22 = .ok (.invokestatic 15, 3) := by decide +kernel
theorem dX8_load_25 : decode cX8_load 25 = .ok (.return_, 1) := by decide +kernel
theorem dX8_refDay_0 : decode cX8_refDay 0 = .ok (.aload_n 0, 1) := by decide +kernel
theorem dX8_refDay_1 : decode cX8_refDay 1 = .ok (.getfield 11, 3) := by decide +kernel
theorem dX8_refDay_4 : decode cX8_refDay 4 = .ok (.iconst 0, 1) := by decide +kernel
theorem dX8_refDay_5 : decode cX8_refDay 5 = .ok (.iaload, 1) := by decide +kernel
theorem dX8_refDay_6 : decode cX8_refDay 6 = .ok (.ireturn, 1) := by decide +kernel
theorem dX8_toldBits_0 : decode cX8_toldBits 0 = .ok (.aload_n 0, 1) := by decide +kernel
theorem dX8_toldBits_1 : decode cX8_toldBits 1 = .ok (.getfield 11, 3) := by decide +kernel
theorem dX8_toldBits_4 : decode cX8_toldBits 4 = .ok (.iconst 1, 1) := by decide +kernel
theorem dX8_toldBits_5 : decode cX8_toldBits 5 = .ok (.iaload, 1) := by decide +kernel
theorem dX8_toldBits_6 : decode cX8_toldBits 6 = .ok (.ireturn, 1) := by decide +kernel
theorem dX8_isTold_0 : decode cX8_isTold 0 = .ok (.iload_n 1, 1) := by decide +kernel
theorem dX8_isTold_1 : decode cX8_isTold 1 = .ok (.ifCond .lt 27, 3) := by decide +kernel
theorem dX8_isTold_4 : decode cX8_isTold 4 = .ok (.iload_n 1, 1) := by decide +kernel
theorem dX8_isTold_5 : decode cX8_isTold 5 = .ok (.bipush 6, 2) := by decide +kernel
theorem dX8_isTold_7 : decode cX8_isTold 7 = .ok (.if_icmp .ge 21, 3) := by decide +kernel
theorem dX8_isTold_10 : decode cX8_isTold 10 = .ok (.aload_n 0, 1) := by decide +kernel
theorem dX8_isTold_11 : decode cX8_isTold 11 = .ok (.getfield 11, 3) := by decide +kernel
theorem dX8_isTold_14 : decode cX8_isTold 14 = .ok (.iconst 1, 1) := by decide +kernel
theorem dX8_isTold_15 : decode cX8_isTold 15 = .ok (.iaload, 1) := by decide +kernel
theorem dX8_isTold_16 : decode cX8_isTold 16 = .ok (.iload_n 1, 1) := by decide +kernel
theorem dX8_isTold_17 : decode cX8_isTold 17 = .ok (.ishr, 1) := by decide +kernel
theorem dX8_isTold_18 : decode cX8_isTold 18 = .ok (.iconst 1, 1) := by decide +kernel
theorem dX8_isTold_19 : decode cX8_isTold 19 = .ok (.iand, 1) := by decide +kernel
theorem dX8_isTold_20 : decode cX8_isTold 20 = .ok (.iconst 1, 1) := by decide +kernel
theorem dX8_isTold_21 : decode cX8_isTold 21 = .ok (.if_icmp .ne 7, 3) := by decide +kernel
theorem dX8_isTold_24 : decode cX8_isTold 24 = .ok (.iconst 1, 1) := by decide +kernel
theorem dX8_isTold_25 : decode cX8_isTold 25 = .ok (.goto 4, 3) := by decide +kernel
theorem dX8_isTold_28 : decode cX8_isTold 28 = .ok (.iconst 0, 1) := by decide +kernel
theorem dX8_isTold_29 : decode cX8_isTold 29 = .ok (.ireturn, 1) := by decide +kernel
theorem dX8_size_0 : decode cX8_size 0 = .ok (.iload_n 1, 1) := by decide +kernel
theorem dX8_size_1 : decode cX8_size 1 = .ok (.ifCond .lt 21, 3) := by decide +kernel
theorem dX8_size_4 : decode cX8_size 4 = .ok (.iload_n 1, 1) := by decide +kernel
theorem dX8_size_5 : decode cX8_size 5 = .ok (.bipush 6, 2) := by decide +kernel
theorem dX8_size_7 : decode cX8_size 7 = .ok (.if_icmp .ge 15, 3) := by decide +kernel
theorem dX8_size_10 : decode cX8_size 10 = .ok (.aload_n 0, 1) := by decide +kernel
theorem dX8_size_11 : decode cX8_size 11 = .ok (.getfield 11, 3) := by decide +kernel
theorem dX8_size_14 : decode cX8_size 14 = .ok (.bipush 14, 2) := by decide +kernel
theorem dX8_size_16 : decode cX8_size 16 = .ok (.iload_n 1, 1) := by decide +kernel
theorem dX8_size_17 : decode cX8_size 17 = .ok (.iadd, 1) := by decide +kernel
theorem dX8_size_18 : decode cX8_size 18 = .ok (.iaload, 1) := by decide +kernel
theorem dX8_size_19 : decode cX8_size 19 = .ok (.goto 4, 3) := by decide +kernel
theorem dX8_size_22 : decode cX8_size 22 = .ok (.iconst 0, 1) := by decide +kernel
theorem dX8_size_23 : decode cX8_size 23 = .ok (.ireturn, 1) := by decide +kernel
theorem dX8_inBits_0 : decode cX8_inBits 0 = .ok (.iload_n 1, 1) := by decide +kernel
theorem dX8_inBits_1 : decode cX8_inBits 1 = .ok (.ifCond .lt 21, 3) := by decide +kernel
theorem dX8_inBits_4 : decode cX8_inBits 4 = .ok (.iload_n 1, 1) := by decide +kernel
theorem dX8_inBits_5 : decode cX8_inBits 5 = .ok (.bipush 6, 2) := by decide +kernel
theorem dX8_inBits_7 : decode cX8_inBits 7 = .ok (.if_icmp .ge 15, 3) := by decide +kernel
theorem dX8_inBits_10 : decode cX8_inBits 10 = .ok (.aload_n 0, 1) := by decide +kernel
theorem dX8_inBits_11 : decode cX8_inBits 11 = .ok (.getfield 11, 3) := by decide +kernel
theorem dX8_inBits_14 : decode cX8_inBits 14 = .ok (.bipush 20, 2) := by decide +kernel
theorem dX8_inBits_16 : decode cX8_inBits 16 = .ok (.iload_n 1, 1) := by decide +kernel
theorem dX8_inBits_17 : decode cX8_inBits 17 = .ok (.iadd, 1) := by decide +kernel
theorem dX8_inBits_18 : decode cX8_inBits 18 = .ok (.iaload, 1) := by decide +kernel
theorem dX8_inBits_19 : decode cX8_inBits 19 = .ok (.goto 4, 3) := by decide +kernel
theorem dX8_inBits_22 : decode cX8_inBits 22 = .ok (.iconst 0, 1) := by decide +kernel
theorem dX8_inBits_23 : decode cX8_inBits 23 = .ok (.ireturn, 1) := by decide +kernel
theorem dX8_has_0 : decode cX8_has 0 = .ok (.iload_n 2, 1) := by decide +kernel
theorem dX8_has_1 : decode cX8_has 1 = .ok (.ifCond .lt 16, 3) := by decide +kernel
theorem dX8_has_4 : decode cX8_has 4 = .ok (.iload_n 2, 1) := by decide +kernel
theorem dX8_has_5 : decode cX8_has 5 = .ok (.aload_n 0, 1) := by decide +kernel
theorem dX8_has_6 : decode cX8_has 6 = .ok (.iload_n 1, 1) := by decide +kernel
theorem dX8_has_7 : decode cX8_has 7 = .ok (.invokevirtual 21, 3) := by decide +kernel
theorem dX8_has_10 : decode cX8_has 10 = .ok (.if_icmp .ge 7, 3) := by decide +kernel
theorem dX8_has_13 : decode cX8_has 13 = .ok (.iconst 1, 1) := by decide +kernel
theorem dX8_has_14 : decode cX8_has 14 = .ok (.goto 4, 3) := by decide +kernel
theorem dX8_has_17 : decode cX8_has 17 = .ok (.iconst 0, 1) := by decide +kernel
theorem dX8_has_18 : decode cX8_has 18 = .ok (.ireturn, 1) := by decide +kernel
theorem dX8_isIn_0 : decode cX8_isIn 0 = .ok (.aload_n 0, 1) := by decide +kernel
theorem dX8_isIn_1 : decode cX8_isIn 1 = .ok (.iload_n 1, 1) := by decide +kernel
theorem dX8_isIn_2 : decode cX8_isIn 2 = .ok (.iload_n 2, 1) := by decide +kernel
theorem dX8_isIn_3 : decode cX8_isIn 3 = .ok (.invokevirtual 25, 3) := by decide +kernel
theorem dX8_isIn_6 : decode cX8_isIn 6 = .ok (.ifCond .eq 20, 3) := by decide +kernel
theorem dX8_isIn_9 : decode cX8_isIn 9 = .ok (.aload_n 0, 1) := by decide +kernel
theorem dX8_isIn_10 : decode cX8_isIn 10 = .ok (.iload_n 1, 1) := by decide +kernel
theorem dX8_isIn_11 : decode cX8_isIn 11 = .ok (.invokevirtual 29, 3) := by decide +kernel
theorem dX8_isIn_14 : decode cX8_isIn 14 = .ok (.iload_n 2, 1) := by decide +kernel
theorem dX8_isIn_15 : decode cX8_isIn 15 = .ok (.ishr, 1) := by decide +kernel
theorem dX8_isIn_16 : decode cX8_isIn 16 = .ok (.iconst 1, 1) := by decide +kernel
theorem dX8_isIn_17 : decode cX8_isIn 17 = .ok (.iand, 1) := by decide +kernel
theorem dX8_isIn_18 : decode cX8_isIn 18 = .ok (.iconst 1, 1) := by decide +kernel
theorem dX8_isIn_19 : decode cX8_isIn 19 = .ok (.if_icmp .ne 7, 3) := by decide +kernel
theorem dX8_isIn_22 : decode cX8_isIn 22 = .ok (.iconst 1, 1) := by decide +kernel
theorem dX8_isIn_23 : decode cX8_isIn 23 = .ok (.goto 4, 3) := by decide +kernel
theorem dX8_isIn_26 : decode cX8_isIn 26 = .ok (.iconst 0, 1) := by decide +kernel
theorem dX8_isIn_27 : decode cX8_isIn 27 = .ok (.ireturn, 1) := by decide +kernel
theorem dX8_value_0 : decode cX8_value 0 = .ok (.iload_n 1, 1) := by decide +kernel
theorem dX8_value_1 : decode cX8_value 1 = .ok (.ifCond .lt 28, 3) := by decide +kernel
theorem dX8_value_4 : decode cX8_value 4 = .ok (.iload_n 1, 1) := by decide +kernel
theorem dX8_value_5 : decode cX8_value 5 = .ok (.bipush 6, 2) := by decide +kernel
theorem dX8_value_7 : decode cX8_value 7 = .ok (.if_icmp .ge 22, 3) := by decide +kernel
theorem dX8_value_10 : decode cX8_value 10 = .ok (.iload_n 2, 1) := by decide +kernel
theorem dX8_value_11 : decode cX8_value 11 = .ok (.ifCond .lt 18, 3) := by decide +kernel
theorem dX8_value_14 : decode cX8_value 14 = .ok (.iload_n 2, 1) := by decide +kernel
theorem dX8_value_15 : decode cX8_value 15 = .ok (.bipush 6, 2) := by decide +kernel
theorem dX8_value_17 : decode cX8_value 17 = .ok (.if_icmp .ge 12, 3) := by decide +kernel
theorem dX8_value_20 : decode cX8_value 20 = .ok (.iload_n 3, 1) := by decide +kernel
theorem dX8_value_21 : decode cX8_value 21 = .ok (.ifCond .lt 8, 3) := by decide +kernel
theorem dX8_value_24 : decode cX8_value 24 = .ok (.iload_n 3, 1) := by decide +kernel
theorem dX8_value_25 : decode cX8_value 25 = .ok (.iconst 3, 1) := by decide +kernel
theorem dX8_value_26 : decode cX8_value 26 = .ok (.if_icmp .le 5, 3) := by decide +kernel
theorem dX8_value_29 : decode cX8_value 29 = .ok (.iconst 0, 1) := by decide +kernel
theorem dX8_value_30 : decode cX8_value 30 = .ok (.ireturn, 1) := by decide +kernel
theorem dX8_value_31 : decode cX8_value 31 = .ok (.aload_n 0, 1) := by decide +kernel
theorem dX8_value_32 : decode cX8_value 32 = .ok (.getfield 11, 3) := by decide +kernel
theorem dX8_value_35 : decode cX8_value 35 = .ok (.bipush 26, 2) := by decide +kernel
theorem dX8_value_37 : decode cX8_value 37 = .ok (.iload_n 1, 1) := by decide +kernel
theorem dX8_value_38 : decode cX8_value 38 = .ok (.bipush 24, 2) := by decide +kernel
theorem dX8_value_40 : decode cX8_value 40 = .ok (.imul, 1) := by decide +kernel
theorem dX8_value_41 : decode cX8_value 41 = .ok (.iadd, 1) := by decide +kernel
theorem dX8_value_42 : decode cX8_value 42 = .ok (.iload_n 2, 1) := by decide +kernel
theorem dX8_value_43 : decode cX8_value 43 = .ok (.iconst 4, 1) := by decide +kernel
theorem dX8_value_44 : decode cX8_value 44 = .ok (.imul, 1) := by decide +kernel
theorem dX8_value_45 : decode cX8_value 45 = .ok (.iadd, 1) := by decide +kernel
theorem dX8_value_46 : decode cX8_value 46 = .ok (.iload_n 3, 1) := by decide +kernel
theorem dX8_value_47 : decode cX8_value 47 = .ok (.iadd, 1) := by decide +kernel
theorem dX8_value_48 : decode cX8_value 48 = .ok (.iaload, 1) := by decide +kernel
theorem dX8_value_49 : decode cX8_value 49 = .ok (.ireturn, 1) := by decide +kernel
theorem dX8_readingsOfAll_0 : decode cX8_readingsOfAll 0 = .ok (.iconst 0, 1) := by decide +kernel
theorem dX8_readingsOfAll_1 : decode cX8_readingsOfAll 1 = .ok (.istore_n 1, 1) := by decide +kernel
theorem dX8_readingsOfAll_2 : decode cX8_readingsOfAll 2 = .ok (.iconst 0, 1) := by decide +kernel
theorem dX8_readingsOfAll_3 : decode cX8_readingsOfAll 3 = .ok (.istore_n 2, 1) := by decide +kernel
theorem dX8_readingsOfAll_4 : decode cX8_readingsOfAll 4 = .ok (.iload_n 2, 1) := by decide +kernel
theorem dX8_readingsOfAll_5 : decode cX8_readingsOfAll 5 = .ok (.bipush 6, 2) := by decide +kernel
theorem dX8_readingsOfAll_7 : decode cX8_readingsOfAll 7 = .ok (.if_icmp .ge 17, 3) := by decide +kernel
theorem dX8_readingsOfAll_10 : decode cX8_readingsOfAll 10 = .ok (.iload_n 1, 1) := by decide +kernel
theorem dX8_readingsOfAll_11 : decode cX8_readingsOfAll 11 = .ok (.aload_n 0, 1) := by decide +kernel
theorem dX8_readingsOfAll_12 : decode cX8_readingsOfAll 12 = .ok (.iload_n 2, 1) := by decide +kernel
theorem dX8_readingsOfAll_13 : decode cX8_readingsOfAll 13 = .ok (.invokevirtual 21, 3) := by decide +kernel
theorem dX8_readingsOfAll_16 : decode cX8_readingsOfAll 16 = .ok (.iadd, 1) := by decide +kernel
theorem dX8_readingsOfAll_17 : decode cX8_readingsOfAll 17 = .ok (.istore_n 1, 1) := by decide +kernel
theorem dX8_readingsOfAll_18 : decode cX8_readingsOfAll 18 = .ok (.iinc 2 1, 3) := by decide +kernel
theorem dX8_readingsOfAll_21 : decode cX8_readingsOfAll 21 = .ok (.goto (-17), 3) := by decide +kernel
theorem dX8_readingsOfAll_24 : decode cX8_readingsOfAll 24 = .ok (.iload_n 1, 1) := by decide +kernel
theorem dX8_readingsOfAll_25 : decode cX8_readingsOfAll 25 = .ok (.ireturn, 1) := by decide +kernel
theorem dX8_inOfAll_0 : decode cX8_inOfAll 0 = .ok (.iconst 0, 1) := by decide +kernel
theorem dX8_inOfAll_1 : decode cX8_inOfAll 1 = .ok (.istore_n 1, 1) := by decide +kernel
theorem dX8_inOfAll_2 : decode cX8_inOfAll 2 = .ok (.iconst 0, 1) := by decide +kernel
theorem dX8_inOfAll_3 : decode cX8_inOfAll 3 = .ok (.istore_n 2, 1) := by decide +kernel
theorem dX8_inOfAll_4 : decode cX8_inOfAll 4 = .ok (.iload_n 2, 1) := by decide +kernel
theorem dX8_inOfAll_5 : decode cX8_inOfAll 5 = .ok (.bipush 6, 2) := by decide +kernel
theorem dX8_inOfAll_7 : decode cX8_inOfAll 7 = .ok (.if_icmp .ge 20, 3) := by decide +kernel
theorem dX8_inOfAll_10 : decode cX8_inOfAll 10 = .ok (.iload_n 1, 1) := by decide +kernel
theorem dX8_inOfAll_11 : decode cX8_inOfAll 11 = .ok (.aload_n 0, 1) := by decide +kernel
theorem dX8_inOfAll_12 : decode cX8_inOfAll 12 = .ok (.iload_n 2, 1) := by decide +kernel
theorem dX8_inOfAll_13 : decode cX8_inOfAll 13 = .ok (.invokevirtual 29, 3) := by decide +kernel
theorem dX8_inOfAll_16 : decode cX8_inOfAll 16 = .ok (.invokestatic 32, 3) := by decide +kernel
theorem dX8_inOfAll_19 : decode cX8_inOfAll 19 = .ok (.iadd, 1) := by decide +kernel
theorem dX8_inOfAll_20 : decode cX8_inOfAll 20 = .ok (.istore_n 1, 1) := by decide +kernel
theorem dX8_inOfAll_21 : decode cX8_inOfAll 21 = .ok (.iinc 2 1, 3) := by decide +kernel
theorem dX8_inOfAll_24 : decode cX8_inOfAll 24 = .ok (.goto (-20), 3) := by decide +kernel
theorem dX8_inOfAll_27 : decode cX8_inOfAll 27 = .ok (.iload_n 1, 1) := by decide +kernel
theorem dX8_inOfAll_28 : decode cX8_inOfAll 28 = .ok (.ireturn, 1) := by decide +kernel
theorem dX8_choicesWithoutOrders_0 : decode cX8_choicesWithoutOrders 0 = .ok (.aload_n 0, 1) := by decide +kernel
theorem dX8_choicesWithoutOrders_1 : decode cX8_choicesWithoutOrders 1 = .ok (.invokevirtual 37, 3) := by decide +kernel
theorem dX8_choicesWithoutOrders_4 : decode cX8_choicesWithoutOrders 4 = .ok (.ifCond .ne 7, 3) := by decide +kernel
theorem dX8_choicesWithoutOrders_7 : decode cX8_choicesWithoutOrders 7 = .ok (.iconst 0, 1) := by decide +kernel
theorem dX8_choicesWithoutOrders_8 : decode cX8_choicesWithoutOrders 8 = .ok (.goto 4, 3) := by decide +kernel
theorem dX8_choicesWithoutOrders_11 : decode cX8_choicesWithoutOrders 11 = .ok (.iconst 1, 1) := by decide +kernel
theorem dX8_choicesWithoutOrders_12 : decode cX8_choicesWithoutOrders 12 = .ok (.istore_n 1, 1) := by decide +kernel
theorem dX8_choicesWithoutOrders_13 : decode cX8_choicesWithoutOrders 13 = .ok (.iconst 0, 1) := by decide +kernel
theorem dX8_choicesWithoutOrders_14 : decode cX8_choicesWithoutOrders 14 = .ok (.istore_n 2, 1) := by decide +kernel
theorem dX8_choicesWithoutOrders_15 : decode cX8_choicesWithoutOrders 15 = .ok (.iload_n 2, 1) := by decide +kernel
theorem dX8_choicesWithoutOrders_16 : decode cX8_choicesWithoutOrders 16 = .ok (.bipush 6, 2) := by decide +kernel
theorem dX8_choicesWithoutOrders_18 : decode cX8_choicesWithoutOrders 18 = .ok (.if_icmp .ge 28, 3) := by decide +kernel
theorem dX8_choicesWithoutOrders_21 : decode cX8_choicesWithoutOrders 21 = .ok (.aload_n 0, 1) := by decide +kernel
theorem dX8_choicesWithoutOrders_22 : decode cX8_choicesWithoutOrders 22 = .ok (.iload_n 2, 1) := by decide +kernel
theorem dX8_choicesWithoutOrders_23 : decode cX8_choicesWithoutOrders 23 = .ok (.invokevirtual 41, 3) := by decide +kernel
theorem dX8_choicesWithoutOrders_26 : decode cX8_choicesWithoutOrders 26 = .ok (.ifCond .eq 14, 3) := by decide +kernel
theorem dX8_choicesWithoutOrders_29 : decode cX8_choicesWithoutOrders 29 = .ok (.iload_n 1, 1) := by decide +kernel
theorem dX8_choicesWithoutOrders_30 : decode cX8_choicesWithoutOrders 30 = .ok (.aload_n 0, 1) := by decide +kernel
theorem dX8_choicesWithoutOrders_31 : decode cX8_choicesWithoutOrders 31 = .ok (.iload_n 2, 1) := by decide +kernel
theorem dX8_choicesWithoutOrders_32 : decode cX8_choicesWithoutOrders 32 = .ok (.invokevirtual 29, 3) := by decide +kernel
theorem dX8_choicesWithoutOrders_35 : decode cX8_choicesWithoutOrders 35 = .ok (.invokestatic 32, 3) := by decide +kernel
theorem dX8_choicesWithoutOrders_38 : decode cX8_choicesWithoutOrders 38 = .ok (.imul, 1) := by decide +kernel
theorem dX8_choicesWithoutOrders_39 : decode cX8_choicesWithoutOrders 39 = .ok (.istore_n 1, 1) := by decide +kernel
theorem dX8_choicesWithoutOrders_40 : decode cX8_choicesWithoutOrders 40 = .ok (.iinc 2 1, 3) := by decide +kernel
theorem dX8_choicesWithoutOrders_43 : decode cX8_choicesWithoutOrders 43 = .ok (.goto (-28), 3) := by decide +kernel
theorem dX8_choicesWithoutOrders_46 : decode cX8_choicesWithoutOrders 46 = .ok (.iload_n 1, 1) := by decide +kernel
theorem dX8_choicesWithoutOrders_47 : decode cX8_choicesWithoutOrders 47 = .ok (.ireturn, 1) := by decide +kernel
theorem dX8_bitsThatMeet_0 : decode cX8_bitsThatMeet 0 = .ok (.iconst 0, 1) := by decide +kernel
theorem dX8_bitsThatMeet_1 : decode cX8_bitsThatMeet 1 = .ok (.istore 5, 2) := by decide +kernel
theorem dX8_bitsThatMeet_3 : decode cX8_bitsThatMeet 3 = .ok (.iconst 0, 1) := by decide +kernel
theorem dX8_bitsThatMeet_4 : decode cX8_bitsThatMeet 4 = .ok (.istore 6, 2) := by decide +kernel
theorem dX8_bitsThatMeet_6 : decode cX8_bitsThatMeet 6 = .ok (.iload 6, 2) := by decide +kernel
theorem dX8_bitsThatMeet_8 : decode cX8_bitsThatMeet 8 = .ok (.bipush 6, 2) := by decide +kernel
theorem dX8_bitsThatMeet_10 : decode cX8_bitsThatMeet 10 = .ok (.if_icmp .ge 52, 3) := by decide +kernel
theorem dX8_bitsThatMeet_13 : decode cX8_bitsThatMeet 13 = .ok (.iload_n 2, 1) := by decide +kernel
theorem dX8_bitsThatMeet_14 : decode cX8_bitsThatMeet 14 = .ok (.iload 6, 2) := by decide +kernel
theorem dX8_bitsThatMeet_16 : decode cX8_bitsThatMeet 16 = .ok (.invokestatic 45, 3) := by decide +kernel
theorem dX8_bitsThatMeet_19 : decode cX8_bitsThatMeet 19 = .ok (.ifCond .eq 37, 3) := by decide +kernel
theorem dX8_bitsThatMeet_22 : decode cX8_bitsThatMeet 22 = .ok (.aload_n 0, 1) := by decide +kernel
theorem dX8_bitsThatMeet_23 : decode cX8_bitsThatMeet 23 = .ok (.iload_n 1, 1) := by decide +kernel
theorem dX8_bitsThatMeet_24 : decode cX8_bitsThatMeet 24 = .ok (.iload 6, 2) := by decide +kernel
theorem dX8_bitsThatMeet_26 : decode cX8_bitsThatMeet 26 = .ok (.iconst 0, 1) := by decide +kernel
theorem dX8_bitsThatMeet_27 : decode cX8_bitsThatMeet 27 = .ok (.invokevirtual 48, 3) := by decide +kernel
theorem dX8_bitsThatMeet_30 : decode cX8_bitsThatMeet 30 = .ok (.iload 4, 2) := by decide +kernel
theorem dX8_bitsThatMeet_32 : decode cX8_bitsThatMeet 32 = .ok (.if_icmp .gt 24, 3) := by decide +kernel
theorem dX8_bitsThatMeet_35 : decode cX8_bitsThatMeet 35 = .ok (.aload_n 0, 1) := by decide +kernel
theorem dX8_bitsThatMeet_36 : decode cX8_bitsThatMeet 36 = .ok (.iload_n 1, 1) := by decide +kernel
theorem dX8_bitsThatMeet_37 : decode cX8_bitsThatMeet 37 = .ok (.iload 6, 2) := by decide +kernel
theorem dX8_bitsThatMeet_39 : decode cX8_bitsThatMeet 39 = .ok (.iconst 1, 1) := by decide +kernel
theorem dX8_bitsThatMeet_40 : decode cX8_bitsThatMeet 40 = .ok (.invokevirtual 48, 3) := by decide +kernel
theorem dX8_bitsThatMeet_43 : decode cX8_bitsThatMeet 43 = .ok (.iload_n 3, 1) := by decide +kernel
theorem dX8_bitsThatMeet_44 : decode cX8_bitsThatMeet 44 = .ok (.if_icmp .lt 12, 3) := by decide +kernel
theorem dX8_bitsThatMeet_47 : decode cX8_bitsThatMeet 47 = .ok (.iload 5, 2) := by decide +kernel
theorem dX8_bitsThatMeet_49 : decode cX8_bitsThatMeet 49 = .ok (.iconst 1, 1) := by decide +kernel
theorem dX8_bitsThatMeet_50 : decode cX8_bitsThatMeet 50 = .ok (.iload 6, 2) := by decide +kernel
theorem dX8_bitsThatMeet_52 : decode cX8_bitsThatMeet 52 = .ok (.ishl, 1) := by decide +kernel
theorem dX8_bitsThatMeet_53 : decode cX8_bitsThatMeet 53 = .ok (.ior, 1) := by decide +kernel
theorem dX8_bitsThatMeet_54 : decode cX8_bitsThatMeet 54 = .ok (.istore 5, 2) := by decide +kernel
theorem dX8_bitsThatMeet_56 : decode cX8_bitsThatMeet 56 = .ok (.iinc 6 1, 3) := by decide +kernel
theorem dX8_bitsThatMeet_59 : decode cX8_bitsThatMeet 59 = .ok (.goto (-53), 3) := by decide +kernel
theorem dX8_bitsThatMeet_62 : decode cX8_bitsThatMeet 62 = .ok (.iload 5, 2) := by decide +kernel
theorem dX8_bitsThatMeet_64 : decode cX8_bitsThatMeet 64 = .ok (.ireturn, 1) := by decide +kernel
theorem dX8_orders_0 : decode cX8_orders 0 = .ok (.aload_n 0, 1) := by decide +kernel
theorem dX8_orders_1 : decode cX8_orders 1 = .ok (.getfield 11, 3) := by decide +kernel
theorem dX8_orders_4 : decode cX8_orders 4 = .ok (.iconst 2, 1) := by decide +kernel
theorem dX8_orders_5 : decode cX8_orders 5 = .ok (.iaload, 1) := by decide +kernel
theorem dX8_orders_6 : decode cX8_orders 6 = .ok (.ireturn, 1) := by decide +kernel
theorem dX8_hasOrder_0 : decode cX8_hasOrder 0 = .ok (.iload_n 1, 1) := by decide +kernel
theorem dX8_hasOrder_1 : decode cX8_hasOrder 1 = .ok (.ifCond .lt 15, 3) := by decide +kernel
theorem dX8_hasOrder_4 : decode cX8_hasOrder 4 = .ok (.iload_n 1, 1) := by decide +kernel
theorem dX8_hasOrder_5 : decode cX8_hasOrder 5 = .ok (.aload_n 0, 1) := by decide +kernel
theorem dX8_hasOrder_6 : decode cX8_hasOrder 6 = .ok (.invokevirtual 52, 3) := by decide +kernel
theorem dX8_hasOrder_9 : decode cX8_hasOrder 9 = .ok (.if_icmp .ge 7, 3) := by decide +kernel
theorem dX8_hasOrder_12 : decode cX8_hasOrder 12 = .ok (.iconst 1, 1) := by decide +kernel
theorem dX8_hasOrder_13 : decode cX8_hasOrder 13 = .ok (.goto 4, 3) := by decide +kernel
theorem dX8_hasOrder_16 : decode cX8_hasOrder 16 = .ok (.iconst 0, 1) := by decide +kernel
theorem dX8_hasOrder_17 : decode cX8_hasOrder 17 = .ok (.ireturn, 1) := by decide +kernel
theorem dX8_code_0 : decode cX8_code 0 = .ok (.iload_n 1, 1) := by decide +kernel
theorem dX8_code_1 : decode cX8_code 1 = .ok (.ifCond .lt 20, 3) := by decide +kernel
theorem dX8_code_4 : decode cX8_code 4 = .ok (.iload_n 1, 1) := by decide +kernel
theorem dX8_code_5 : decode cX8_code 5 = .ok (.bipush 11, 2) := by decide +kernel
theorem dX8_code_7 : decode cX8_code 7 = .ok (.if_icmp .ge 14, 3) := by decide +kernel
theorem dX8_code_10 : decode cX8_code 10 = .ok (.aload_n 0, 1) := by decide +kernel
theorem dX8_code_11 : decode cX8_code 11 = .ok (.getfield 11, 3) := by decide +kernel
theorem dX8_code_14 : decode cX8_code 14 = .ok (.iconst 3, 1) := by decide +kernel
theorem dX8_code_15 : decode cX8_code 15 = .ok (.iload_n 1, 1) := by decide +kernel
theorem dX8_code_16 : decode cX8_code 16 = .ok (.iadd, 1) := by decide +kernel
theorem dX8_code_17 : decode cX8_code 17 = .ok (.iaload, 1) := by decide +kernel
theorem dX8_code_18 : decode cX8_code 18 = .ok (.goto 4, 3) := by decide +kernel
theorem dX8_code_21 : decode cX8_code 21 = .ok (.iconst 0, 1) := by decide +kernel
theorem dX8_code_22 : decode cX8_code 22 = .ok (.ireturn, 1) := by decide +kernel
theorem dX8_bothAreTold_0 : decode cX8_bothAreTold 0 = .ok (.aload_n 0, 1) := by decide +kernel
theorem dX8_bothAreTold_1 : decode cX8_bothAreTold 1 = .ok (.iload_n 1, 1) := by decide +kernel
theorem dX8_bothAreTold_2 : decode cX8_bothAreTold 2 = .ok (.bipush 10, 2) := by decide +kernel
theorem dX8_bothAreTold_4 : decode cX8_bothAreTold 4 = .ok (.idiv, 1) := by decide +kernel
theorem dX8_bothAreTold_5 : decode cX8_bothAreTold 5 = .ok (.bipush 10, 2) := by decide +kernel
theorem dX8_bothAreTold_7 : decode cX8_bothAreTold 7 = .ok (.irem, 1) := by decide +kernel
theorem dX8_bothAreTold_8 : decode cX8_bothAreTold 8 = .ok (.invokevirtual 41, 3) := by decide +kernel
theorem dX8_bothAreTold_11 : decode cX8_bothAreTold 11 = .ok (.ifCond .eq 18, 3) := by decide +kernel
theorem dX8_bothAreTold_14 : decode cX8_bothAreTold 14 = .ok (.aload_n 0, 1) := by decide +kernel
theorem dX8_bothAreTold_15 : decode cX8_bothAreTold 15 = .ok (.iload_n 1, 1) := by decide +kernel
theorem dX8_bothAreTold_16 : decode cX8_bothAreTold 16 = .ok (.bipush 10, 2) := by decide +kernel
theorem dX8_bothAreTold_18 : decode cX8_bothAreTold 18 = .ok (.irem, 1) := by decide +kernel
theorem dX8_bothAreTold_19 : decode cX8_bothAreTold 19 = .ok (.invokevirtual 41, 3) := by decide +kernel
theorem dX8_bothAreTold_22 : decode cX8_bothAreTold 22 = .ok (.ifCond .eq 7, 3) := by decide +kernel
theorem dX8_bothAreTold_25 : decode cX8_bothAreTold 25 = .ok (.iconst 1, 1) := by decide +kernel
theorem dX8_bothAreTold_26 : decode cX8_bothAreTold 26 = .ok (.goto 4, 3) := by decide +kernel
theorem dX8_bothAreTold_29 : decode cX8_bothAreTold 29 = .ok (.iconst 0, 1) := by decide +kernel
theorem dX8_bothAreTold_30 : decode cX8_bothAreTold 30 = .ok (.ireturn, 1) := by decide +kernel
theorem dX8_bitsThatHold_0 : decode cX8_bitsThatHold 0 = .ok (.iload_n 1, 1) := by decide +kernel
theorem dX8_bitsThatHold_1 : decode cX8_bitsThatHold 1 = .ok (.bipush 10, 2) := by decide +kernel
theorem dX8_bitsThatHold_3 : decode cX8_bitsThatHold 3 = .ok (.idiv, 1) := by decide +kernel
theorem dX8_bitsThatHold_4 : decode cX8_bitsThatHold 4 = .ok (.bipush 10, 2) := by decide +kernel
theorem dX8_bitsThatHold_6 : decode cX8_bitsThatHold 6 = .ok (.irem, 1) := by decide +kernel
theorem dX8_bitsThatHold_7 : decode cX8_bitsThatHold 7 = .ok (.istore_n 3, 1) := by decide +kernel
theorem dX8_bitsThatHold_8 : decode cX8_bitsThatHold 8 = .ok (.iload_n 1, 1) := by decide +kernel
theorem dX8_bitsThatHold_9 : decode cX8_bitsThatHold 9 = .ok (.bipush 10, 2) := by decide +kernel
theorem dX8_bitsThatHold_11 : decode cX8_bitsThatHold 11 = .ok (.irem, 1) := by decide +kernel
theorem dX8_bitsThatHold_12 : decode cX8_bitsThatHold 12 = .ok (.istore 4, 2) := by decide +kernel
theorem dX8_bitsThatHold_14 : decode cX8_bitsThatHold 14 = .ok (.aload_n 0, 1) := by decide +kernel
theorem dX8_bitsThatHold_15 : decode cX8_bitsThatHold 15 = .ok (.iload_n 3, 1) := by decide +kernel
theorem dX8_bitsThatHold_16 : decode cX8_bitsThatHold 16 = .ok (.iload_n 2, 1) := by decide +kernel
theorem dX8_bitsThatHold_17 : decode cX8_bitsThatHold 17 = .ok (.iconst 0, 1) := by decide +kernel
theorem dX8_bitsThatHold_18 : decode cX8_bitsThatHold 18 = .ok (.invokevirtual 48, 3) := by decide +kernel
theorem dX8_bitsThatHold_21 : decode cX8_bitsThatHold 21 = .ok (.istore 5, 2) := by decide +kernel
theorem dX8_bitsThatHold_23 : decode cX8_bitsThatHold 23 = .ok (.aload_n 0, 1) := by decide +kernel
theorem dX8_bitsThatHold_24 : decode cX8_bitsThatHold 24 = .ok (.iload_n 3, 1) := by decide +kernel
theorem dX8_bitsThatHold_25 : decode cX8_bitsThatHold 25 = .ok (.iload_n 2, 1) := by decide +kernel
theorem dX8_bitsThatHold_26 : decode cX8_bitsThatHold 26 = .ok (.iconst 1, 1) := by decide +kernel
theorem dX8_bitsThatHold_27 : decode cX8_bitsThatHold 27 = .ok (.invokevirtual 48, 3) := by decide +kernel
theorem dX8_bitsThatHold_30 : decode cX8_bitsThatHold 30 = .ok (.istore 6, 2) := by decide +kernel
theorem dX8_bitsThatHold_32 : decode cX8_bitsThatHold 32 = .ok (.iconst 0, 1) := by decide +kernel
theorem dX8_bitsThatHold_33 : decode cX8_bitsThatHold 33 = .ok (.istore 7, 2) := by decide +kernel
theorem dX8_bitsThatHold_35 : decode cX8_bitsThatHold 35 = .ok (.iconst 0, 1) := by decide +kernel
theorem dX8_bitsThatHold_36 : decode cX8_bitsThatHold 36 = .ok (.istore 8, 2) := by decide +kernel
theorem dX8_bitsThatHold_38 : decode cX8_bitsThatHold 38 = .ok (.iload 8, 2) := by decide +kernel
theorem dX8_bitsThatHold_40 : decode cX8_bitsThatHold 40 = .ok (.bipush 6, 2) := by decide +kernel
theorem dX8_bitsThatHold_42 : decode cX8_bitsThatHold 42 = .ok (.if_icmp .ge 50, 3) := by decide +kernel
theorem dX8_bitsThatHold_45 : decode cX8_bitsThatHold 45 = .ok (.iload_n 1, 1) := by decide +kernel
theorem dX8_bitsThatHold_46 : decode cX8_bitsThatHold 46 = .ok (.bipush 100, 2) := by decide +kernel
theorem dX8_bitsThatHold_48 : decode cX8_bitsThatHold 48 = .ok (.idiv, 1) := by decide +kernel
theorem dX8_bitsThatHold_49 : decode cX8_bitsThatHold 49 = .ok (.iload 5, 2) := by decide +kernel
theorem dX8_bitsThatHold_51 : decode cX8_bitsThatHold 51 = .ok (.iload 6, 2) := by decide +kernel
theorem dX8_bitsThatHold_53 : decode cX8_bitsThatHold 53 = .ok (.aload_n 0, 1) := by decide +kernel
theorem dX8_bitsThatHold_54 : decode cX8_bitsThatHold 54 = .ok (.iload 4, 2) := by decide +kernel
theorem dX8_bitsThatHold_56 : decode cX8_bitsThatHold 56 = .ok (.iload 8, 2) := by decide +kernel
theorem dX8_bitsThatHold_58 : decode cX8_bitsThatHold 58 = .ok (.iconst 0, 1) := by decide +kernel
theorem dX8_bitsThatHold_59 : decode cX8_bitsThatHold 59 = .ok (.invokevirtual 48, 3) := by decide +kernel
theorem dX8_bitsThatHold_62 : decode cX8_bitsThatHold 62 = .ok (.aload_n 0, 1) := by decide +kernel
theorem dX8_bitsThatHold_63 : decode cX8_bitsThatHold 63 = .ok (.iload 4, 2) := by decide +kernel
theorem dX8_bitsThatHold_65 : decode cX8_bitsThatHold 65 = .ok (.iload 8, 2) := by decide +kernel
theorem dX8_bitsThatHold_67 : decode cX8_bitsThatHold 67 = .ok (.iconst 1, 1) := by decide +kernel
theorem dX8_bitsThatHold_68 : decode cX8_bitsThatHold 68 = .ok (.invokevirtual 48, 3) := by decide +kernel
theorem dX8_bitsThatHold_71 : decode cX8_bitsThatHold 71 = .ok (.invokestatic 55, 3) := by decide +kernel
theorem dX8_bitsThatHold_74 : decode cX8_bitsThatHold 74 = .ok (.ifCond .eq 12, 3) := by decide +kernel
theorem dX8_bitsThatHold_77 : decode cX8_bitsThatHold 77 = .ok (.iload 7, 2) := by decide +kernel
theorem dX8_bitsThatHold_79 : decode cX8_bitsThatHold 79 = .ok (.iconst 1, 1) := by decide +kernel
theorem dX8_bitsThatHold_80 : decode cX8_bitsThatHold 80 = .ok (.iload 8, 2) := by decide +kernel
theorem dX8_bitsThatHold_82 : decode cX8_bitsThatHold 82 = .ok (.ishl, 1) := by decide +kernel
theorem dX8_bitsThatHold_83 : decode cX8_bitsThatHold 83 = .ok (.ior, 1) := by decide +kernel
theorem dX8_bitsThatHold_84 : decode cX8_bitsThatHold 84 = .ok (.istore 7, 2) := by decide +kernel
theorem dX8_bitsThatHold_86 : decode cX8_bitsThatHold 86 = .ok (.iinc 8 1, 3) := by decide +kernel
theorem dX8_bitsThatHold_89 : decode cX8_bitsThatHold 89 = .ok (.goto (-51), 3) := by decide +kernel
theorem dX8_bitsThatHold_92 : decode cX8_bitsThatHold 92 = .ok (.iload 7, 2) := by decide +kernel
theorem dX8_bitsThatHold_94 : decode cX8_bitsThatHold 94 = .ok (.ireturn, 1) := by decide +kernel
theorem dX8_holds_0 : decode cX8_holds 0 = .ok (.iload_n 0, 1) := by decide +kernel
theorem dX8_holds_1 : decode cX8_holds 1 = .ok (.tableswitch 87 0 3 #[31, 42, 59, 76], 31) := by decide +kernel
theorem dX8_holds_32 : decode cX8_holds 32 = .ok (.iload_n 2, 1) := by decide +kernel
theorem dX8_holds_33 : decode cX8_holds 33 = .ok (.iload_n 3, 1) := by decide +kernel
theorem dX8_holds_34 : decode cX8_holds 34 = .ok (.if_icmp .ge 7, 3) := by decide +kernel
theorem dX8_holds_37 : decode cX8_holds 37 = .ok (.iconst 1, 1) := by decide +kernel
theorem dX8_holds_38 : decode cX8_holds 38 = .ok (.goto 4, 3) := by decide +kernel
theorem dX8_holds_41 : decode cX8_holds 41 = .ok (.iconst 0, 1) := by decide +kernel
theorem dX8_holds_42 : decode cX8_holds 42 = .ok (.ireturn, 1) := by decide +kernel
theorem dX8_holds_43 : decode cX8_holds 43 = .ok (.iload_n 1, 1) := by decide +kernel
theorem dX8_holds_44 : decode cX8_holds 44 = .ok (.iload 4, 2) := by decide +kernel
theorem dX8_holds_46 : decode cX8_holds 46 = .ok (.if_icmp .gt 12, 3) := by decide +kernel
theorem dX8_holds_49 : decode cX8_holds 49 = .ok (.iload_n 3, 1) := by decide +kernel
theorem dX8_holds_50 : decode cX8_holds 50 = .ok (.iload_n 2, 1) := by decide +kernel
theorem dX8_holds_51 : decode cX8_holds 51 = .ok (.if_icmp .gt 7, 3) := by decide +kernel
theorem dX8_holds_54 : decode cX8_holds 54 = .ok (.iconst 1, 1) := by decide +kernel
theorem dX8_holds_55 : decode cX8_holds 55 = .ok (.goto 4, 3) := by decide +kernel
theorem dX8_holds_58 : decode cX8_holds 58 = .ok (.iconst 0, 1) := by decide +kernel
theorem dX8_holds_59 : decode cX8_holds 59 = .ok (.ireturn, 1) := by decide +kernel
theorem dX8_holds_60 : decode cX8_holds 60 = .ok (.iload_n 3, 1) := by decide +kernel
theorem dX8_holds_61 : decode cX8_holds 61 = .ok (.iload_n 1, 1) := by decide +kernel
theorem dX8_holds_62 : decode cX8_holds 62 = .ok (.if_icmp .gt 13, 3) := by decide +kernel
theorem dX8_holds_65 : decode cX8_holds 65 = .ok (.iload_n 2, 1) := by decide +kernel
theorem dX8_holds_66 : decode cX8_holds 66 = .ok (.iload 4, 2) := by decide +kernel
theorem dX8_holds_68 : decode cX8_holds 68 = .ok (.if_icmp .gt 7, 3) := by decide +kernel
theorem dX8_holds_71 : decode cX8_holds 71 = .ok (.iconst 1, 1) := by decide +kernel
theorem dX8_holds_72 : decode cX8_holds 72 = .ok (.goto 4, 3) := by decide +kernel
theorem dX8_holds_75 : decode cX8_holds 75 = .ok (.iconst 0, 1) := by decide +kernel
theorem dX8_holds_76 : decode cX8_holds 76 = .ok (.ireturn, 1) := by decide +kernel
theorem dX8_holds_77 : decode cX8_holds 77 = .ok (.iload_n 1, 1) := by decide +kernel
theorem dX8_holds_78 : decode cX8_holds 78 = .ok (.iload_n 3, 1) := by decide +kernel
theorem dX8_holds_79 : decode cX8_holds 79 = .ok (.if_icmp .ne 7, 3) := by decide +kernel
theorem dX8_holds_82 : decode cX8_holds 82 = .ok (.iconst 1, 1) := by decide +kernel
theorem dX8_holds_83 : decode cX8_holds 83 = .ok (.goto 4, 3) := by decide +kernel
theorem dX8_holds_86 : decode cX8_holds 86 = .ok (.iconst 0, 1) := by decide +kernel
theorem dX8_holds_87 : decode cX8_holds 87 = .ok (.ireturn, 1) := by decide +kernel
theorem dX8_holds_88 : decode cX8_holds 88 = .ok (.iload_n 3, 1) := by decide +kernel
theorem dX8_holds_89 : decode cX8_holds 89 = .ok (.iload_n 2, 1) := by decide +kernel
theorem dX8_holds_90 : decode cX8_holds 90 = .ok (.isub, 1) := by decide +kernel
theorem dX8_holds_91 : decode cX8_holds 91 = .ok (.bipush 7, 2) := by decide +kernel
theorem dX8_holds_93 : decode cX8_holds 93 = .ok (.if_icmp .gt 16, 3) := by decide +kernel
theorem dX8_holds_96 : decode cX8_holds 96 = .ok (.iload_n 1, 1) := by decide +kernel
theorem dX8_holds_97 : decode cX8_holds 97 = .ok (.iload 4, 2) := by decide +kernel
theorem dX8_holds_99 : decode cX8_holds 99 = .ok (.isub, 1) := by decide +kernel
theorem dX8_holds_100 : decode cX8_holds 100 = .ok (.bipush 7, 2) := by decide +kernel
theorem dX8_holds_102 : decode cX8_holds 102 = .ok (.if_icmp .gt 7, 3) := by decide +kernel
theorem dX8_holds_105 : decode cX8_holds 105 = .ok (.iconst 1, 1) := by decide +kernel
theorem dX8_holds_106 : decode cX8_holds 106 = .ok (.goto 4, 3) := by decide +kernel
theorem dX8_holds_109 : decode cX8_holds 109 = .ok (.iconst 0, 1) := by decide +kernel
theorem dX8_holds_110 : decode cX8_holds 110 = .ok (.ireturn, 1) := by decide +kernel
theorem dX8_pairsThatHold_0 : decode cX8_pairsThatHold 0 = .ok (.aload_n 0, 1) := by decide +kernel
theorem dX8_pairsThatHold_1 : decode cX8_pairsThatHold 1 = .ok (.iload_n 1, 1) := by decide +kernel
theorem dX8_pairsThatHold_2 : decode cX8_pairsThatHold 2 = .ok (.invokevirtual 59, 3) := by decide +kernel
theorem dX8_pairsThatHold_5 : decode cX8_pairsThatHold 5 = .ok (.istore_n 2, 1) := by decide +kernel
theorem dX8_pairsThatHold_6 : decode cX8_pairsThatHold 6 = .ok (.iconst 0, 1) := by decide +kernel
theorem dX8_pairsThatHold_7 : decode cX8_pairsThatHold 7 = .ok (.istore_n 3, 1) := by decide +kernel
theorem dX8_pairsThatHold_8 : decode cX8_pairsThatHold 8 = .ok (.iconst 0, 1) := by decide +kernel
theorem dX8_pairsThatHold_9 : decode cX8_pairsThatHold 9 = .ok (.istore 4, 2) := by decide +kernel
theorem dX8_pairsThatHold_11 : decode cX8_pairsThatHold 11 = .ok (.iload 4, 2) := by decide +kernel
theorem dX8_pairsThatHold_13 : decode cX8_pairsThatHold 13 = .ok (.bipush 6, 2) := by decide +kernel
theorem dX8_pairsThatHold_15 : decode cX8_pairsThatHold 15 = .ok (.if_icmp .ge 47, 3) := by decide +kernel
theorem dX8_pairsThatHold_18 : decode cX8_pairsThatHold 18 = .ok (.aload_n 0, 1) := by decide +kernel
theorem dX8_pairsThatHold_19 : decode cX8_pairsThatHold 19 = .ok (.iload_n 2, 1) := by decide +kernel
theorem dX8_pairsThatHold_20 : decode cX8_pairsThatHold 20 = .ok (.bipush 10, 2) := by decide +kernel
theorem dX8_pairsThatHold_22 : decode cX8_pairsThatHold 22 = .ok (.idiv, 1) := by decide +kernel
theorem dX8_pairsThatHold_23 : decode cX8_pairsThatHold 23 = .ok (.bipush 10, 2) := by decide +kernel
theorem dX8_pairsThatHold_25 : decode cX8_pairsThatHold 25 = .ok (.irem, 1) := by decide +kernel
theorem dX8_pairsThatHold_26 : decode cX8_pairsThatHold 26 = .ok (.iload 4, 2) := by decide +kernel
theorem dX8_pairsThatHold_28 : decode cX8_pairsThatHold 28 = .ok (.invokevirtual 62, 3) := by decide +kernel
theorem dX8_pairsThatHold_31 : decode cX8_pairsThatHold 31 = .ok (.ifCond .eq 25, 3) := by decide +kernel
theorem dX8_pairsThatHold_34 : decode cX8_pairsThatHold 34 = .ok (.iload_n 3, 1) := by decide +kernel
theorem dX8_pairsThatHold_35 : decode cX8_pairsThatHold 35 = .ok (.aload_n 0, 1) := by decide +kernel
theorem dX8_pairsThatHold_36 : decode cX8_pairsThatHold 36 = .ok (.iload_n 2, 1) := by decide +kernel
theorem dX8_pairsThatHold_37 : decode cX8_pairsThatHold 37 = .ok (.iload 4, 2) := by decide +kernel
theorem dX8_pairsThatHold_39 : decode cX8_pairsThatHold 39 = .ok (.invokevirtual 65, 3) := by decide +kernel
theorem dX8_pairsThatHold_42 : decode cX8_pairsThatHold 42 = .ok (.aload_n 0, 1) := by decide +kernel
theorem dX8_pairsThatHold_43 : decode cX8_pairsThatHold 43 = .ok (.iload_n 2, 1) := by decide +kernel
theorem dX8_pairsThatHold_44 : decode cX8_pairsThatHold 44 = .ok (.bipush 10, 2) := by decide +kernel
theorem dX8_pairsThatHold_46 : decode cX8_pairsThatHold 46 = .ok (.irem, 1) := by decide +kernel
theorem dX8_pairsThatHold_47 : decode cX8_pairsThatHold 47 = .ok (.invokevirtual 29, 3) := by decide +kernel
theorem dX8_pairsThatHold_50 : decode cX8_pairsThatHold 50 = .ok (.iand, 1) := by decide +kernel
theorem dX8_pairsThatHold_51 : decode cX8_pairsThatHold 51 = .ok (.invokestatic 32, 3) := by decide +kernel
theorem dX8_pairsThatHold_54 : decode cX8_pairsThatHold 54 = .ok (.iadd, 1) := by decide +kernel
theorem dX8_pairsThatHold_55 : decode cX8_pairsThatHold 55 = .ok (.istore_n 3, 1) := by decide +kernel
theorem dX8_pairsThatHold_56 : decode cX8_pairsThatHold 56 = .ok (.iinc 4 1, 3) := by decide +kernel
theorem dX8_pairsThatHold_59 : decode cX8_pairsThatHold 59 = .ok (.goto (-48), 3) := by decide +kernel
theorem dX8_pairsThatHold_62 : decode cX8_pairsThatHold 62 = .ok (.iload_n 3, 1) := by decide +kernel
theorem dX8_pairsThatHold_63 : decode cX8_pairsThatHold 63 = .ok (.ireturn, 1) := by decide +kernel
theorem dX8_tell_0 : decode cX8_tell 0 = .ok (.iload_n 1, 1) := by decide +kernel
theorem dX8_tell_1 : decode cX8_tell 1 = .ok (.ifCond .lt 13, 3) := by decide +kernel
theorem dX8_tell_4 : decode cX8_tell 4 = .ok (.iload_n 1, 1) := by decide +kernel
theorem dX8_tell_5 : decode cX8_tell 5 = .ok (.bipush 6, 2) := by decide +kernel
theorem dX8_tell_7 : decode cX8_tell 7 = .ok (.if_icmp .ge 7, 3) := by decide +kernel
theorem dX8_tell_10 : decode cX8_tell 10 = .ok (.aload_n 2, 1) := by decide +kernel
theorem dX8_tell_11 : decode cX8_tell 11 = .ok (.ifnonnull 4, 3) := by decide +kernel
theorem dX8_tell_14 : decode cX8_tell 14 = .ok (.return_, 1) := by decide +kernel
theorem dX8_tell_15 : decode cX8_tell 15 = .ok (.aload_n 0, 1) := by decide +kernel
theorem dX8_tell_16 : decode cX8_tell 16 = .ok (.getfield 11, 3) := by decide +kernel
theorem dX8_tell_19 : decode cX8_tell 19 = .ok (.iconst 1, 1) := by decide +kernel
theorem dX8_tell_20 : decode cX8_tell 20 = .ok (.dup2, 1) := by decide +kernel
theorem dX8_tell_21 : decode cX8_tell 21 = .ok (.iaload, 1) := by decide +kernel
theorem dX8_tell_22 : decode cX8_tell 22 = .ok (.iconst 1, 1) := by decide +kernel
theorem dX8_tell_23 : decode cX8_tell 23 = .ok (.iload_n 1, 1) := by decide +kernel
theorem dX8_tell_24 : decode cX8_tell 24 = .ok (.ishl, 1) := by decide +kernel
theorem dX8_tell_25 : decode cX8_tell 25 = .ok (.ior, 1) := by decide +kernel
theorem dX8_tell_26 : decode cX8_tell 26 = .ok (.iastore, 1) := by decide +kernel
theorem dX8_tell_27 : decode cX8_tell 27 = .ok (.aload_n 0, 1) := by decide +kernel
theorem dX8_tell_28 : decode cX8_tell 28 = .ok (.getfield 11, 3) := by decide +kernel
theorem dX8_tell_31 : decode cX8_tell 31 = .ok (.bipush 14, 2) := by decide +kernel
theorem dX8_tell_33 : decode cX8_tell 33 = .ok (.iload_n 1, 1) := by decide +kernel
theorem dX8_tell_34 : decode cX8_tell 34 = .ok (.iadd, 1) := by decide +kernel
theorem dX8_tell_35 : decode cX8_tell 35 = .ok (.aload_n 2, 1) := by decide +kernel
theorem dX8_tell_36 : decode cX8_tell 36 = .ok (.getfield 69, 3) := by decide +kernel
theorem dX8_tell_39 : decode cX8_tell 39 = .ok (.iastore, 1) := by decide +kernel
theorem dX8_tell_40 : decode cX8_tell 40 = .ok (.aload_n 0, 1) := by decide +kernel
theorem dX8_tell_41 : decode cX8_tell 41 = .ok (.getfield 11, 3) := by decide +kernel
theorem dX8_tell_44 : decode cX8_tell 44 = .ok (.bipush 20, 2) := by decide +kernel
theorem dX8_tell_46 : decode cX8_tell 46 = .ok (.iload_n 1, 1) := by decide +kernel
theorem dX8_tell_47 : decode cX8_tell 47 = .ok (.iadd, 1) := by decide +kernel
theorem dX8_tell_48 : decode cX8_tell 48 = .ok (.iconst 1, 1) := by decide +kernel
theorem dX8_tell_49 : decode cX8_tell 49 = .ok (.aload_n 2, 1) := by decide +kernel
theorem dX8_tell_50 : decode cX8_tell 50 = .ok (.getfield 69, 3) := by decide +kernel
theorem dX8_tell_53 : decode cX8_tell 53 = .ok (.ishl, 1) := by decide +kernel
theorem dX8_tell_54 : decode cX8_tell 54 = .ok (.iconst 1, 1) := by decide +kernel
theorem dX8_tell_55 : decode cX8_tell 55 = .ok (.isub, 1) := by decide +kernel
theorem dX8_tell_56 : decode cX8_tell 56 = .ok (.iastore, 1) := by decide +kernel
theorem dX8_tell_57 : decode cX8_tell 57 = .ok (.aload_n 2, 1) := by decide +kernel
theorem dX8_tell_58 : decode cX8_tell 58 = .ok (.getfield 74, 3) := by decide +kernel
theorem dX8_tell_61 : decode cX8_tell 61 = .ok (.iconst 0, 1) := by decide +kernel
theorem dX8_tell_62 : decode cX8_tell 62 = .ok (.aload_n 0, 1) := by decide +kernel
theorem dX8_tell_63 : decode cX8_tell 63 = .ok (.getfield 11, 3) := by decide +kernel
theorem dX8_tell_66 : decode cX8_tell 66 = .ok (.bipush 26, 2) := by decide +kernel
theorem dX8_tell_68 : decode cX8_tell 68 = .ok (.iload_n 1, 1) := by decide +kernel
theorem dX8_tell_69 : decode cX8_tell 69 = .ok (.bipush 24, 2) := by decide +kernel
theorem dX8_tell_71 : decode cX8_tell 71 = .ok (.imul, 1) := by decide +kernel
theorem dX8_tell_72 : decode cX8_tell 72 = .ok (.iadd, 1) := by decide +kernel
theorem dX8_tell_73 : decode cX8_tell 73 = .ok (.bipush 24, 2) := by decide +kernel
theorem dX8_tell_75 : decode cX8_tell 75 = .ok (.invokestatic 15, 3) := by decide +kernel
theorem dX8_tell_78 : decode cX8_tell 78 = .ok (.return_, 1) := by decide +kernel
theorem dX8_drop_0 : decode cX8_drop 0 = .ok (.iload_n 1, 1) := by decide +kernel
theorem dX8_drop_1 : decode cX8_drop 1 = .ok (.ifCond .lt 9, 3) := by decide +kernel
theorem dX8_drop_4 : decode cX8_drop 4 = .ok (.iload_n 1, 1) := by decide +kernel
theorem dX8_drop_5 : decode cX8_drop 5 = .ok (.bipush 6, 2) := by decide +kernel
theorem dX8_drop_7 : decode cX8_drop 7 = .ok (.if_icmp .lt 5, 3) := by decide +kernel
theorem dX8_drop_10 : decode cX8_drop 10 = .ok (.iconst (-1), 1) := by decide +kernel
theorem dX8_drop_11 : decode cX8_drop 11 = .ok (.ireturn, 1) := by decide +kernel
theorem dX8_drop_12 : decode cX8_drop 12 = .ok (.aload_n 0, 1) := by decide +kernel
theorem dX8_drop_13 : decode cX8_drop 13 = .ok (.iload_n 1, 1) := by decide +kernel
theorem dX8_drop_14 : decode cX8_drop 14 = .ok (.invokevirtual 41, 3) := by decide +kernel
theorem dX8_drop_17 : decode cX8_drop 17 = .ok (.ifCond .ne 6, 3) := by decide +kernel
theorem dX8_drop_20 : decode cX8_drop 20 = .ok (.bipush (-2), 2) := by decide +kernel
theorem dX8_drop_22 : decode cX8_drop 22 = .ok (.ireturn, 1) := by decide +kernel
theorem dX8_drop_23 : decode cX8_drop 23 = .ok (.aload_n 0, 1) := by decide +kernel
theorem dX8_drop_24 : decode cX8_drop 24 = .ok (.getfield 11, 3) := by decide +kernel
theorem dX8_drop_27 : decode cX8_drop 27 = .ok (.iconst 1, 1) := by decide +kernel
theorem dX8_drop_28 : decode cX8_drop 28 = .ok (.dup2, 1) := by decide +kernel
theorem dX8_drop_29 : decode cX8_drop 29 = .ok (.iaload, 1) := by decide +kernel
theorem dX8_drop_30 : decode cX8_drop 30 = .ok (.iconst 1, 1) := by decide +kernel
theorem dX8_drop_31 : decode cX8_drop 31 = .ok (.iload_n 1, 1) := by decide +kernel
theorem dX8_drop_32 : decode cX8_drop 32 = .ok (.ishl, 1) := by decide +kernel
theorem dX8_drop_33 : decode cX8_drop 33 = .ok (.iconst (-1), 1) := by decide +kernel
theorem dX8_drop_34 : decode cX8_drop 34 = .ok (.ixor, 1) := by decide +kernel
theorem dX8_drop_35 : decode cX8_drop 35 = .ok (.iand, 1) := by decide +kernel
theorem dX8_drop_36 : decode cX8_drop 36 = .ok (.iastore, 1) := by decide +kernel
theorem dX8_drop_37 : decode cX8_drop 37 = .ok (.aload_n 0, 1) := by decide +kernel
theorem dX8_drop_38 : decode cX8_drop 38 = .ok (.getfield 11, 3) := by decide +kernel
theorem dX8_drop_41 : decode cX8_drop 41 = .ok (.bipush 14, 2) := by decide +kernel
theorem dX8_drop_43 : decode cX8_drop 43 = .ok (.iload_n 1, 1) := by decide +kernel
theorem dX8_drop_44 : decode cX8_drop 44 = .ok (.iadd, 1) := by decide +kernel
theorem dX8_drop_45 : decode cX8_drop 45 = .ok (.iconst 0, 1) := by decide +kernel
theorem dX8_drop_46 : decode cX8_drop 46 = .ok (.iastore, 1) := by decide +kernel
theorem dX8_drop_47 : decode cX8_drop 47 = .ok (.aload_n 0, 1) := by decide +kernel
theorem dX8_drop_48 : decode cX8_drop 48 = .ok (.getfield 11, 3) := by decide +kernel
theorem dX8_drop_51 : decode cX8_drop 51 = .ok (.bipush 20, 2) := by decide +kernel
theorem dX8_drop_53 : decode cX8_drop 53 = .ok (.iload_n 1, 1) := by decide +kernel
theorem dX8_drop_54 : decode cX8_drop 54 = .ok (.iadd, 1) := by decide +kernel
theorem dX8_drop_55 : decode cX8_drop 55 = .ok (.iconst 0, 1) := by decide +kernel
theorem dX8_drop_56 : decode cX8_drop 56 = .ok (.iastore, 1) := by decide +kernel
theorem dX8_drop_57 : decode cX8_drop 57 = .ok (.aload_n 0, 1) := by decide +kernel
theorem dX8_drop_58 : decode cX8_drop 58 = .ok (.getfield 11, 3) := by decide +kernel
theorem dX8_drop_61 : decode cX8_drop 61 = .ok (.iconst 1, 1) := by decide +kernel
theorem dX8_drop_62 : decode cX8_drop 62 = .ok (.iaload, 1) := by decide +kernel
theorem dX8_drop_63 : decode cX8_drop 63 = .ok (.invokestatic 32, 3) := by decide +kernel
theorem dX8_drop_66 : decode cX8_drop 66 = .ok (.ireturn, 1) := by decide +kernel
theorem dX8_changeRef_0 : decode cX8_changeRef 0 = .ok (.iload_n 1, 1) := by decide +kernel
theorem dX8_changeRef_1 : decode cX8_changeRef 1 = .ok (.invokestatic 75, 3) := by decide +kernel
theorem dX8_changeRef_4 : decode cX8_changeRef 4 = .ok (.ifCond .ne 5, 3) := by decide +kernel
theorem dX8_changeRef_7 : decode cX8_changeRef 7 = .ok (.iconst (-1), 1) := by decide +kernel
theorem dX8_changeRef_8 : decode cX8_changeRef 8 = .ok (.ireturn, 1) := by decide +kernel
theorem dX8_changeRef_9 : decode cX8_changeRef 9 = .ok (.aload_n 0, 1) := by decide +kernel
theorem dX8_changeRef_10 : decode cX8_changeRef 10 = .ok (.getfield 11, 3) := by decide +kernel
theorem dX8_changeRef_13 : decode cX8_changeRef 13 = .ok (.iconst 0, 1) := by decide +kernel
theorem dX8_changeRef_14 : decode cX8_changeRef 14 = .ok (.iaload, 1) := by decide +kernel
theorem dX8_changeRef_15 : decode cX8_changeRef 15 = .ok (.istore_n 2, 1) := by decide +kernel
theorem dX8_changeRef_16 : decode cX8_changeRef 16 = .ok (.iload_n 2, 1) := by decide +kernel
theorem dX8_changeRef_17 : decode cX8_changeRef 17 = .ok (.iload_n 1, 1) := by decide +kernel
theorem dX8_changeRef_18 : decode cX8_changeRef 18 = .ok (.if_icmp .ne 6, 3) := by decide +kernel
theorem dX8_changeRef_21 : decode cX8_changeRef 21 = .ok (.bipush (-2), 2) := by decide +kernel
theorem dX8_changeRef_23 : decode cX8_changeRef 23 = .ok (.ireturn, 1) := by decide +kernel
theorem dX8_changeRef_24 : decode cX8_changeRef 24 = .ok (.aload_n 0, 1) := by decide +kernel
theorem dX8_changeRef_25 : decode cX8_changeRef 25 = .ok (.getfield 11, 3) := by decide +kernel
theorem dX8_changeRef_28 : decode cX8_changeRef 28 = .ok (.iconst 0, 1) := by decide +kernel
theorem dX8_changeRef_29 : decode cX8_changeRef 29 = .ok (.iload_n 1, 1) := by decide +kernel
theorem dX8_changeRef_30 : decode cX8_changeRef 30 = .ok (.iastore, 1) := by decide +kernel
theorem dX8_changeRef_31 : decode cX8_changeRef 31 = .ok (.iload_n 2, 1) := by decide +kernel
theorem dX8_changeRef_32 : decode cX8_changeRef 32 = .ok (.ireturn, 1) := by decide +kernel
theorem dX8_ruleOut_0 : decode cX8_ruleOut 0 = .ok (.iload_n 1, 1) := by decide +kernel
theorem dX8_ruleOut_1 : decode cX8_ruleOut 1 = .ok (.ifCond .lt 18, 3) := by decide +kernel
theorem dX8_ruleOut_4 : decode cX8_ruleOut 4 = .ok (.iload_n 1, 1) := by decide +kernel
theorem dX8_ruleOut_5 : decode cX8_ruleOut 5 = .ok (.bipush 6, 2) := by decide +kernel
theorem dX8_ruleOut_7 : decode cX8_ruleOut 7 = .ok (.if_icmp .ge 12, 3) := by decide +kernel
theorem dX8_ruleOut_10 : decode cX8_ruleOut 10 = .ok (.aload_n 0, 1) := by decide +kernel
theorem dX8_ruleOut_11 : decode cX8_ruleOut 11 = .ok (.iload_n 1, 1) := by decide +kernel
theorem dX8_ruleOut_12 : decode cX8_ruleOut 12 = .ok (.iload_n 2, 1) := by decide +kernel
theorem dX8_ruleOut_13 : decode cX8_ruleOut 13 = .ok (.invokevirtual 25, 3) := by decide +kernel
theorem dX8_ruleOut_16 : decode cX8_ruleOut 16 = .ok (.ifCond .ne 5, 3) := by decide +kernel
theorem dX8_ruleOut_19 : decode cX8_ruleOut 19 = .ok (.iconst (-1), 1) := by decide +kernel
theorem dX8_ruleOut_20 : decode cX8_ruleOut 20 = .ok (.ireturn, 1) := by decide +kernel
theorem dX8_ruleOut_21 : decode cX8_ruleOut 21 = .ok (.aload_n 0, 1) := by decide +kernel
theorem dX8_ruleOut_22 : decode cX8_ruleOut 22 = .ok (.iload_n 1, 1) := by decide +kernel
theorem dX8_ruleOut_23 : decode cX8_ruleOut 23 = .ok (.iload_n 2, 1) := by decide +kernel
theorem dX8_ruleOut_24 : decode cX8_ruleOut 24 = .ok (.invokevirtual 62, 3) := by decide +kernel
theorem dX8_ruleOut_27 : decode cX8_ruleOut 27 = .ok (.iload_n 3, 1) := by decide +kernel
theorem dX8_ruleOut_28 : decode cX8_ruleOut 28 = .ok (.if_icmp .eq 6, 3) := by decide +kernel
theorem dX8_ruleOut_31 : decode cX8_ruleOut 31 = .ok (.bipush (-2), 2) := by decide +kernel
theorem dX8_ruleOut_33 : decode cX8_ruleOut 33 = .ok (.ireturn, 1) := by decide +kernel
theorem dX8_ruleOut_34 : decode cX8_ruleOut 34 = .ok (.aload_n 0, 1) := by decide +kernel
theorem dX8_ruleOut_35 : decode cX8_ruleOut 35 = .ok (.getfield 11, 3) := by decide +kernel
theorem dX8_ruleOut_38 : decode cX8_ruleOut 38 = .ok (.bipush 20, 2) := by decide +kernel
theorem dX8_ruleOut_40 : decode cX8_ruleOut 40 = .ok (.iload_n 1, 1) := by decide +kernel
theorem dX8_ruleOut_41 : decode cX8_ruleOut 41 = .ok (.iadd, 1) := by decide +kernel
theorem dX8_ruleOut_42 : decode cX8_ruleOut 42 = .ok (.dup2, 1) := by decide +kernel
theorem dX8_ruleOut_43 : decode cX8_ruleOut 43 = .ok (.iaload, 1) := by decide +kernel
theorem dX8_ruleOut_44 : decode cX8_ruleOut 44 = .ok (.iconst 1, 1) := by decide +kernel
theorem dX8_ruleOut_45 : decode cX8_ruleOut 45 = .ok (.iload_n 2, 1) := by decide +kernel
theorem dX8_ruleOut_46 : decode cX8_ruleOut 46 = .ok (.ishl, 1) := by decide +kernel
theorem dX8_ruleOut_47 : decode cX8_ruleOut 47 = .ok (.ixor, 1) := by decide +kernel
theorem dX8_ruleOut_48 : decode cX8_ruleOut 48 = .ok (.iastore, 1) := by decide +kernel
theorem dX8_ruleOut_49 : decode cX8_ruleOut 49 = .ok (.aload_n 0, 1) := by decide +kernel
theorem dX8_ruleOut_50 : decode cX8_ruleOut 50 = .ok (.getfield 11, 3) := by decide +kernel
theorem dX8_ruleOut_53 : decode cX8_ruleOut 53 = .ok (.bipush 20, 2) := by decide +kernel
theorem dX8_ruleOut_55 : decode cX8_ruleOut 55 = .ok (.iload_n 1, 1) := by decide +kernel
theorem dX8_ruleOut_56 : decode cX8_ruleOut 56 = .ok (.iadd, 1) := by decide +kernel
theorem dX8_ruleOut_57 : decode cX8_ruleOut 57 = .ok (.iaload, 1) := by decide +kernel
theorem dX8_ruleOut_58 : decode cX8_ruleOut 58 = .ok (.invokestatic 32, 3) := by decide +kernel
theorem dX8_ruleOut_61 : decode cX8_ruleOut 61 = .ok (.ireturn, 1) := by decide +kernel
theorem dX8_keepOnlyLeft_0 : decode cX8_keepOnlyLeft 0 = .ok (.aload_n 1, 1) := by decide +kernel
theorem dX8_keepOnlyLeft_1 : decode cX8_keepOnlyLeft 1 = .ok (.ifnull 10, 3) := by decide +kernel
theorem dX8_keepOnlyLeft_4 : decode cX8_keepOnlyLeft 4 = .ok (.aload_n 1, 1) := by decide +kernel
theorem dX8_keepOnlyLeft_5 : decode cX8_keepOnlyLeft 5 = .ok (.getfield 78, 3) := by decide +kernel
theorem dX8_keepOnlyLeft_8 : decode cX8_keepOnlyLeft 8 = .ok (.ifCond .ne 6, 3) := by decide +kernel
theorem dX8_keepOnlyLeft_11 : decode cX8_keepOnlyLeft 11 = .ok (.bipush (-3), 2) := by decide +kernel
theorem dX8_keepOnlyLeft_13 : decode cX8_keepOnlyLeft 13 = .ok (.ireturn, 1) := by decide +kernel
theorem dX8_keepOnlyLeft_14 : decode cX8_keepOnlyLeft 14 = .ok (.iconst 0, 1) := by decide +kernel
theorem dX8_keepOnlyLeft_15 : decode cX8_keepOnlyLeft 15 = .ok (.istore_n 2, 1) := by decide +kernel
theorem dX8_keepOnlyLeft_16 : decode cX8_keepOnlyLeft 16 = .ok (.iconst 0, 1) := by decide +kernel
theorem dX8_keepOnlyLeft_17 : decode cX8_keepOnlyLeft 17 = .ok (.istore_n 3, 1) := by decide +kernel
theorem dX8_keepOnlyLeft_18 : decode cX8_keepOnlyLeft 18 = .ok (.iload_n 3, 1) := by decide +kernel
theorem dX8_keepOnlyLeft_19 : decode cX8_keepOnlyLeft 19 = .ok (.bipush 6, 2) := by decide +kernel
theorem dX8_keepOnlyLeft_21 : decode cX8_keepOnlyLeft 21 = .ok (.if_icmp .ge 50, 3) := by decide +kernel
theorem dX8_keepOnlyLeft_24 : decode cX8_keepOnlyLeft 24 = .ok (.aload_n 1, 1) := by decide +kernel
theorem dX8_keepOnlyLeft_25 : decode cX8_keepOnlyLeft 25 = .ok (.iload_n 3, 1) := by decide +kernel
theorem dX8_keepOnlyLeft_26 : decode cX8_keepOnlyLeft 26 = .ok (.invokevirtual 83, 3) := by decide +kernel
theorem dX8_keepOnlyLeft_29 : decode cX8_keepOnlyLeft 29 = .ok (.istore 4, 2) := by decide +kernel
theorem dX8_keepOnlyLeft_31 : decode cX8_keepOnlyLeft 31 = .ok (.iload_n 2, 1) := by decide +kernel
theorem dX8_keepOnlyLeft_32 : decode cX8_keepOnlyLeft 32 = .ok (.aload_n 0, 1) := by decide +kernel
theorem dX8_keepOnlyLeft_33 : decode cX8_keepOnlyLeft 33 = .ok (.getfield 11, 3) := by decide +kernel
theorem dX8_keepOnlyLeft_36 : decode cX8_keepOnlyLeft 36 = .ok (.bipush 20, 2) := by decide +kernel
theorem dX8_keepOnlyLeft_38 : decode cX8_keepOnlyLeft 38 = .ok (.iload_n 3, 1) := by decide +kernel
theorem dX8_keepOnlyLeft_39 : decode cX8_keepOnlyLeft 39 = .ok (.iadd, 1) := by decide +kernel
theorem dX8_keepOnlyLeft_40 : decode cX8_keepOnlyLeft 40 = .ok (.iaload, 1) := by decide +kernel
theorem dX8_keepOnlyLeft_41 : decode cX8_keepOnlyLeft 41 = .ok (.iload 4, 2) := by decide +kernel
theorem dX8_keepOnlyLeft_43 : decode cX8_keepOnlyLeft 43 = .ok (.iconst (-1), 1) := by decide +kernel
theorem dX8_keepOnlyLeft_44 : decode cX8_keepOnlyLeft 44 = .ok (.ixor, 1) := by decide +kernel
theorem dX8_keepOnlyLeft_45 : decode cX8_keepOnlyLeft 45 = .ok (.iand, 1) := by decide +kernel
theorem dX8_keepOnlyLeft_46 : decode cX8_keepOnlyLeft 46 = .ok (.invokestatic 32, 3) := by decide +kernel
theorem dX8_keepOnlyLeft_49 : decode cX8_keepOnlyLeft 49 = .ok (.iadd, 1) := by decide +kernel
theorem dX8_keepOnlyLeft_50 : decode cX8_keepOnlyLeft 50 = .ok (.istore_n 2, 1) := by decide +kernel
theorem dX8_keepOnlyLeft_51 : decode cX8_keepOnlyLeft 51 = .ok (.aload_n 0, 1) := by decide +kernel
theorem dX8_keepOnlyLeft_52 : decode cX8_keepOnlyLeft 52 = .ok (.getfield 11, 3) := by decide +kernel
theorem dX8_keepOnlyLeft_55 : decode cX8_keepOnlyLeft 55 = .ok (.bipush 20, 2) := by decide +kernel
theorem dX8_keepOnlyLeft_57 : decode cX8_keepOnlyLeft 57 = .ok (.iload_n 3, 1) := by decide +kernel
theorem dX8_keepOnlyLeft_58 : decode cX8_keepOnlyLeft 58 = .ok (.iadd, 1) := by decide +kernel
theorem dX8_keepOnlyLeft_59 : decode cX8_keepOnlyLeft 59 = .ok (.dup2, 1) := by decide +kernel
theorem dX8_keepOnlyLeft_60 : decode cX8_keepOnlyLeft 60 = .ok (.iaload, 1) := by decide +kernel
theorem dX8_keepOnlyLeft_61 : decode cX8_keepOnlyLeft 61 = .ok (.iload 4, 2) := by decide +kernel
theorem dX8_keepOnlyLeft_63 : decode cX8_keepOnlyLeft 63 = .ok (.iand, 1) := by decide +kernel
theorem dX8_keepOnlyLeft_64 : decode cX8_keepOnlyLeft 64 = .ok (.iastore, 1) := by decide +kernel
theorem dX8_keepOnlyLeft_65 : decode cX8_keepOnlyLeft 65 = .ok (.iinc 3 1, 3) := by decide +kernel
theorem dX8_keepOnlyLeft_68 : decode cX8_keepOnlyLeft 68 = .ok (.goto (-50), 3) := by decide +kernel
theorem dX8_keepOnlyLeft_71 : decode cX8_keepOnlyLeft 71 = .ok (.iload_n 2, 1) := by decide +kernel
theorem dX8_keepOnlyLeft_72 : decode cX8_keepOnlyLeft 72 = .ok (.ifCond .ne 8, 3) := by decide +kernel
theorem dX8_keepOnlyLeft_75 : decode cX8_keepOnlyLeft 75 = .ok (.bipush (-2), 2) := by decide +kernel
theorem dX8_keepOnlyLeft_77 : decode cX8_keepOnlyLeft 77 = .ok (.goto 4, 3) := by decide +kernel
theorem dX8_keepOnlyLeft_80 : decode cX8_keepOnlyLeft 80 = .ok (.iload_n 2, 1) := by decide +kernel
theorem dX8_keepOnlyLeft_81 : decode cX8_keepOnlyLeft 81 = .ok (.ireturn, 1) := by decide +kernel
theorem dX8_addOrder_0 : decode cX8_addOrder 0 = .ok (.iload_n 1, 1) := by decide +kernel
theorem dX8_addOrder_1 : decode cX8_addOrder 1 = .ok (.ifCond .lt 27, 3) := by decide +kernel
theorem dX8_addOrder_4 : decode cX8_addOrder 4 = .ok (.iload_n 1, 1) := by decide +kernel
theorem dX8_addOrder_5 : decode cX8_addOrder 5 = .ok (.iconst 5, 1) := by decide +kernel
theorem dX8_addOrder_6 : decode cX8_addOrder 6 = .ok (.if_icmp .ge 22, 3) := by decide +kernel
theorem dX8_addOrder_9 : decode cX8_addOrder 9 = .ok (.iload_n 2, 1) := by decide +kernel
theorem dX8_addOrder_10 : decode cX8_addOrder 10 = .ok (.invokestatic 86, 3) := by decide +kernel
theorem dX8_addOrder_13 : decode cX8_addOrder 13 = .ok (.ifCond .eq 15, 3) := by decide +kernel
theorem dX8_addOrder_16 : decode cX8_addOrder 16 = .ok (.iload_n 3, 1) := by decide +kernel
theorem dX8_addOrder_17 : decode cX8_addOrder 17 = .ok (.invokestatic 86, 3) := by decide +kernel
theorem dX8_addOrder_20 : decode cX8_addOrder 20 = .ok (.ifCond .eq 8, 3) := by decide +kernel
theorem dX8_addOrder_23 : decode cX8_addOrder 23 = .ok (.iload_n 2, 1) := by decide +kernel
theorem dX8_addOrder_24 : decode cX8_addOrder 24 = .ok (.iload_n 3, 1) := by decide +kernel
theorem dX8_addOrder_25 : decode cX8_addOrder 25 = .ok (.if_icmp .ne 5, 3) := by decide +kernel
theorem dX8_addOrder_28 : decode cX8_addOrder 28 = .ok (.iconst (-1), 1) := by decide +kernel
theorem dX8_addOrder_29 : decode cX8_addOrder 29 = .ok (.ireturn, 1) := by decide +kernel
theorem dX8_addOrder_30 : decode cX8_addOrder 30 = .ok (.bipush 100, 2) := by decide +kernel
theorem dX8_addOrder_32 : decode cX8_addOrder 32 = .ok (.iload_n 1, 1) := by decide +kernel
theorem dX8_addOrder_33 : decode cX8_addOrder 33 = .ok (.imul, 1) := by decide +kernel
theorem dX8_addOrder_34 : decode cX8_addOrder 34 = .ok (.bipush 10, 2) := by decide +kernel
theorem dX8_addOrder_36 : decode cX8_addOrder 36 = .ok (.iload_n 2, 1) := by decide +kernel
theorem dX8_addOrder_37 : decode cX8_addOrder 37 = .ok (.imul, 1) := by decide +kernel
theorem dX8_addOrder_38 : decode cX8_addOrder 38 = .ok (.iadd, 1) := by decide +kernel
theorem dX8_addOrder_39 : decode cX8_addOrder 39 = .ok (.iload_n 3, 1) := by decide +kernel
theorem dX8_addOrder_40 : decode cX8_addOrder 40 = .ok (.iadd, 1) := by decide +kernel
theorem dX8_addOrder_41 : decode cX8_addOrder 41 = .ok (.istore 5, 2) := by decide +kernel
theorem dX8_addOrder_43 : decode cX8_addOrder 43 = .ok (.aload_n 0, 1) := by decide +kernel
theorem dX8_addOrder_44 : decode cX8_addOrder 44 = .ok (.invokevirtual 52, 3) := by decide +kernel
theorem dX8_addOrder_47 : decode cX8_addOrder 47 = .ok (.istore 6, 2) := by decide +kernel
theorem dX8_addOrder_49 : decode cX8_addOrder 49 = .ok (.iconst 0, 1) := by decide +kernel
theorem dX8_addOrder_50 : decode cX8_addOrder 50 = .ok (.istore 7, 2) := by decide +kernel
theorem dX8_addOrder_52 : decode cX8_addOrder 52 = .ok (.iload 7, 2) := by decide +kernel
theorem dX8_addOrder_54 : decode cX8_addOrder 54 = .ok (.iload 6, 2) := by decide +kernel
theorem dX8_addOrder_56 : decode cX8_addOrder 56 = .ok (.if_icmp .ge 23, 3) := by decide +kernel
theorem dX8_addOrder_59 : decode cX8_addOrder 59 = .ok (.aload_n 0, 1) := by decide +kernel
theorem dX8_addOrder_60 : decode cX8_addOrder 60 = .ok (.iload 7, 2) := by decide +kernel
theorem dX8_addOrder_62 : decode cX8_addOrder 62 = .ok (.invokevirtual 59, 3) := by decide +kernel
theorem dX8_addOrder_65 : decode cX8_addOrder 65 = .ok (.iload 5, 2) := by decide +kernel
theorem dX8_addOrder_67 : decode cX8_addOrder 67 = .ok (.if_icmp .ne 6, 3) := by decide +kernel
theorem dX8_addOrder_70 : decode cX8_addOrder 70 = .ok (.bipush (-2), 2) := by decide +kernel
theorem dX8_addOrder_72 : decode cX8_addOrder 72 = .ok (.ireturn, 1) := by decide +kernel
theorem dX8_addOrder_73 : decode cX8_addOrder 73 = .ok (.iinc 7 1, 3) := by decide +kernel
theorem dX8_addOrder_76 : decode cX8_addOrder 76 = .ok (.goto (-24), 3) := by decide +kernel
theorem dX8_addOrder_79 : decode cX8_addOrder 79 = .ok (.iload 6, 2) := by decide +kernel
theorem dX8_addOrder_81 : decode cX8_addOrder 81 = .ok (.ifCond .lt 17, 3) := by decide +kernel
theorem dX8_addOrder_84 : decode cX8_addOrder 84 = .ok (.iload 6, 2) := by decide +kernel
theorem dX8_addOrder_86 : decode cX8_addOrder 86 = .ok (.iload 4, 2) := by decide +kernel
theorem dX8_addOrder_88 : decode cX8_addOrder 88 = .ok (.if_icmp .ge 10, 3) := by decide +kernel
theorem dX8_addOrder_91 : decode cX8_addOrder 91 = .ok (.iload 6, 2) := by decide +kernel
theorem dX8_addOrder_93 : decode cX8_addOrder 93 = .ok (.bipush 11, 2) := by decide +kernel
theorem dX8_addOrder_95 : decode cX8_addOrder 95 = .ok (.if_icmp .lt 6, 3) := by decide +kernel
theorem dX8_addOrder_98 : decode cX8_addOrder 98 = .ok (.bipush (-3), 2) := by decide +kernel
theorem dX8_addOrder_100 : decode cX8_addOrder 100 = .ok (.ireturn, 1) := by decide +kernel
theorem dX8_addOrder_101 : decode cX8_addOrder 101 = .ok (.aload_n 0, 1) := by decide +kernel
theorem dX8_addOrder_102 : decode cX8_addOrder 102 = .ok (.getfield 11, 3) := by decide +kernel
theorem dX8_addOrder_105 : decode cX8_addOrder 105 = .ok (.iconst 3, 1) := by decide +kernel
theorem dX8_addOrder_106 : decode cX8_addOrder 106 = .ok (.iload 6, 2) := by decide +kernel
theorem dX8_addOrder_108 : decode cX8_addOrder 108 = .ok (.iadd, 1) := by decide +kernel
theorem dX8_addOrder_109 : decode cX8_addOrder 109 = .ok (.iload 5, 2) := by decide +kernel
theorem dX8_addOrder_111 : decode cX8_addOrder 111 = .ok (.iastore, 1) := by decide +kernel
theorem dX8_addOrder_112 : decode cX8_addOrder 112 = .ok (.aload_n 0, 1) := by decide +kernel
theorem dX8_addOrder_113 : decode cX8_addOrder 113 = .ok (.getfield 11, 3) := by decide +kernel
theorem dX8_addOrder_116 : decode cX8_addOrder 116 = .ok (.iconst 2, 1) := by decide +kernel
theorem dX8_addOrder_117 : decode cX8_addOrder 117 = .ok (.iload 6, 2) := by decide +kernel
theorem dX8_addOrder_119 : decode cX8_addOrder 119 = .ok (.iconst 1, 1) := by decide +kernel
theorem dX8_addOrder_120 : decode cX8_addOrder 120 = .ok (.iadd, 1) := by decide +kernel
theorem dX8_addOrder_121 : decode cX8_addOrder 121 = .ok (.iastore, 1) := by decide +kernel
theorem dX8_addOrder_122 : decode cX8_addOrder 122 = .ok (.iload 6, 2) := by decide +kernel
theorem dX8_addOrder_124 : decode cX8_addOrder 124 = .ok (.ireturn, 1) := by decide +kernel
theorem dX8_removeOrder_0 : decode cX8_removeOrder 0 = .ok (.aload_n 0, 1) := by decide +kernel
theorem dX8_removeOrder_1 : decode cX8_removeOrder 1 = .ok (.iload_n 1, 1) := by decide +kernel
theorem dX8_removeOrder_2 : decode cX8_removeOrder 2 = .ok (.invokevirtual 89, 3) := by decide +kernel
theorem dX8_removeOrder_5 : decode cX8_removeOrder 5 = .ok (.ifCond .ne 5, 3) := by decide +kernel
theorem dX8_removeOrder_8 : decode cX8_removeOrder 8 = .ok (.iconst (-1), 1) := by decide +kernel
theorem dX8_removeOrder_9 : decode cX8_removeOrder 9 = .ok (.ireturn, 1) := by decide +kernel
theorem dX8_removeOrder_10 : decode cX8_removeOrder 10 = .ok (.iload_n 1, 1) := by decide +kernel
theorem dX8_removeOrder_11 : decode cX8_removeOrder 11 = .ok (.istore_n 2, 1) := by decide +kernel
theorem dX8_removeOrder_12 : decode cX8_removeOrder 12 = .ok (.iload_n 2, 1) := by decide +kernel
theorem dX8_removeOrder_13 : decode cX8_removeOrder 13 = .ok (.iconst 1, 1) := by decide +kernel
theorem dX8_removeOrder_14 : decode cX8_removeOrder 14 = .ok (.iadd, 1) := by decide +kernel
theorem dX8_removeOrder_15 : decode cX8_removeOrder 15 = .ok (.bipush 11, 2) := by decide +kernel
theorem dX8_removeOrder_17 : decode cX8_removeOrder 17 = .ok (.if_icmp .ge 27, 3) := by decide +kernel
theorem dX8_removeOrder_20 : decode cX8_removeOrder 20 = .ok (.aload_n 0, 1) := by decide +kernel
theorem dX8_removeOrder_21 : decode cX8_removeOrder 21 = .ok (.getfield 11, 3) := by decide +kernel
theorem dX8_removeOrder_24 : decode cX8_removeOrder 24 = .ok (.iconst 3, 1) := by decide +kernel
theorem dX8_removeOrder_25 : decode cX8_removeOrder 25 = .ok (.iload_n 2, 1) := by decide +kernel
theorem dX8_removeOrder_26 : decode cX8_removeOrder 26 = .ok (.iadd, 1) := by decide +kernel
theorem dX8_removeOrder_27 : decode cX8_removeOrder 27 = .ok (.aload_n 0, 1) := by decide +kernel
theorem dX8_removeOrder_28 : decode cX8_removeOrder 28 = .ok (.getfield 11, 3) := by decide +kernel
theorem dX8_removeOrder_31 : decode cX8_removeOrder 31 = .ok (.iconst 3, 1) := by decide +kernel
theorem dX8_removeOrder_32 : decode cX8_removeOrder 32 = .ok (.iload_n 2, 1) := by decide +kernel
theorem dX8_removeOrder_33 : decode cX8_removeOrder 33 = .ok (.iadd, 1) := by decide +kernel
theorem dX8_removeOrder_34 : decode cX8_removeOrder 34 = .ok (.iconst 1, 1) := by decide +kernel
theorem dX8_removeOrder_35 : decode cX8_removeOrder 35 = .ok (.iadd, 1) := by decide +kernel
theorem dX8_removeOrder_36 : decode cX8_removeOrder 36 = .ok (.iaload, 1) := by decide +kernel
theorem dX8_removeOrder_37 : decode cX8_removeOrder 37 = .ok (.iastore, 1) := by decide +kernel
theorem dX8_removeOrder_38 : decode cX8_removeOrder 38 = .ok (.iinc 2 1, 3) := by decide +kernel
theorem dX8_removeOrder_41 : decode cX8_removeOrder 41 = .ok (.goto (-29), 3) := by decide +kernel
theorem dX8_removeOrder_44 : decode cX8_removeOrder 44 = .ok (.aload_n 0, 1) := by decide +kernel
theorem dX8_removeOrder_45 : decode cX8_removeOrder 45 = .ok (.getfield 11, 3) := by decide +kernel
theorem dX8_removeOrder_48 : decode cX8_removeOrder 48 = .ok (.iconst 2, 1) := by decide +kernel
theorem dX8_removeOrder_49 : decode cX8_removeOrder 49 = .ok (.dup2, 1) := by decide +kernel
theorem dX8_removeOrder_50 : decode cX8_removeOrder 50 = .ok (.iaload, 1) := by decide +kernel
theorem dX8_removeOrder_51 : decode cX8_removeOrder 51 = .ok (.iconst 1, 1) := by decide +kernel
theorem dX8_removeOrder_52 : decode cX8_removeOrder 52 = .ok (.isub, 1) := by decide +kernel
theorem dX8_removeOrder_53 : decode cX8_removeOrder 53 = .ok (.iastore, 1) := by decide +kernel
theorem dX8_removeOrder_54 : decode cX8_removeOrder 54 = .ok (.aload_n 0, 1) := by decide +kernel
theorem dX8_removeOrder_55 : decode cX8_removeOrder 55 = .ok (.getfield 11, 3) := by decide +kernel
theorem dX8_removeOrder_58 : decode cX8_removeOrder 58 = .ok (.iconst 2, 1) := by decide +kernel
theorem dX8_removeOrder_59 : decode cX8_removeOrder 59 = .ok (.iaload, 1) := by decide +kernel
theorem dX8_removeOrder_60 : decode cX8_removeOrder 60 = .ok (.ireturn, 1) := by decide +kernel
theorem dX9_init_0 : decode cX9_init 0 = .ok (.aload_n 0, 1) := by decide +kernel
theorem dX9_init_1 : decode cX9_init 1 = .ok (.invokespecial 3, 3) := by decide +kernel
theorem dX9_init_4 : decode cX9_init 4 = .ok (.aload_n 0, 1) := by decide +kernel
theorem dX9_init_5 : decode cX9_init 5 = .ok (.bipush 80, 2) := by decide +kernel
theorem dX9_init_7 : decode cX9_init 7 = .ok (.newarray .int, 2) := by decide +kernel
theorem dX9_init_9 : decode cX9_init 9 = .ok (.putfield 9, 3) := by decide +kernel
theorem dX9_init_12 : decode cX9_init 12 = .ok (.aload_n 0, 1) := by decide +kernel
theorem dX9_init_13 : decode cX9_init 13 = .ok (.iconst 0, 1) := by decide +kernel
theorem dX9_init_14 : decode cX9_init 14 = .ok (.putfield 15, 3) := by decide +kernel
theorem dX9_init_17 : decode cX9_init 17 = .ok (.return_, 1) := by decide +kernel
theorem dX9_append_0 : decode cX9_append 0 = .ok (.aload_n 0, 1) := by decide +kernel
theorem dX9_append_1 : decode cX9_append 1 = .ok (.getfield 15, 3) := by decide +kernel
theorem dX9_append_4 : decode cX9_append 4 = .ok (.ifCond .lt 14, 3) := by decide +kernel
theorem dX9_append_7 : decode cX9_append 7 = .ok (.aload_n 0, 1) := by decide +kernel
theorem dX9_append_8 : decode cX9_append 8 = .ok (.getfield 15, 3) := by decide +kernel
theorem dX9_append_11 : decode cX9_append 11 = .ok (.iconst 4, 1) := by decide +kernel
theorem dX9_append_12 : decode cX9_append 12 = .ok (.iadd, 1) := by decide +kernel
theorem dX9_append_13 : decode cX9_append 13 = .ok (.bipush 80, 2) := by decide +kernel
theorem dX9_append_15 : decode cX9_append 15 = .ok (.if_icmp .le 5, 3) := by decide +kernel
theorem dX9_append_18 : decode cX9_append 18 = .ok (.iconst (-1), 1) := by decide +kernel
theorem dX9_append_19 : decode cX9_append 19 = .ok (.ireturn, 1) := by decide +kernel
theorem dX9_append_20 : decode cX9_append 20 = .ok (.aload_n 0, 1) := by decide +kernel
theorem dX9_append_21 : decode cX9_append 21 = .ok (.getfield 9, 3) := by decide +kernel
theorem dX9_append_24 : decode cX9_append 24 = .ok (.aload_n 0, 1) := by decide +kernel
theorem dX9_append_25 : decode cX9_append 25 = .ok (.getfield 15, 3) := by decide +kernel
theorem dX9_append_28 : decode cX9_append 28 = .ok (.iload_n 1, 1) := by decide +kernel
theorem dX9_append_29 : decode cX9_append 29 = .ok (.bipush 24, 2) := by decide +kernel
theorem dX9_append_31 : decode cX9_append 31 = .ok (.iushr, 1) := by decide +kernel
theorem dX9_append_32 : decode cX9_append 32 = .ok (.iastore, 1) := by decide +kernel
theorem dX9_append_33 : decode cX9_append 33 = .ok (.aload_n 0, 1) := by decide +kernel
theorem dX9_append_34 : decode cX9_append 34 = .ok (.getfield 9, 3) := by decide +kernel
theorem dX9_append_37 : decode cX9_append 37 = .ok (.aload_n 0, 1) := by decide +kernel
theorem dX9_append_38 : decode cX9_append 38 = .ok (.getfield 15, 3) := by decide +kernel
theorem dX9_append_41 : decode cX9_append 41 = .ok (.iconst 1, 1) := by decide +kernel
theorem dX9_append_42 : decode cX9_append 42 = .ok (.iadd, 1) := by decide +kernel
theorem dX9_append_43 : decode cX9_append 43 = .ok (.iload_n 1, 1) := by decide +kernel
theorem dX9_append_44 : decode cX9_append 44 = .ok (.bipush 16, 2) := by decide +kernel
theorem dX9_append_46 : decode cX9_append 46 = .ok (.iushr, 1) := by decide +kernel
theorem dX9_append_47 : decode cX9_append 47 = .ok (.sipush 255, 3) := by decide +kernel
theorem dX9_append_50 : decode cX9_append 50 = .ok (.iand, 1) := by decide +kernel
theorem dX9_append_51 : decode cX9_append 51 = .ok (.iastore, 1) := by decide +kernel
theorem dX9_append_52 : decode cX9_append 52 = .ok (.aload_n 0, 1) := by decide +kernel
theorem dX9_append_53 : decode cX9_append 53 = .ok (.getfield 9, 3) := by decide +kernel
theorem dX9_append_56 : decode cX9_append 56 = .ok (.aload_n 0, 1) := by decide +kernel
theorem dX9_append_57 : decode cX9_append 57 = .ok (.getfield 15, 3) := by decide +kernel
theorem dX9_append_60 : decode cX9_append 60 = .ok (.iconst 2, 1) := by decide +kernel
theorem dX9_append_61 : decode cX9_append 61 = .ok (.iadd, 1) := by decide +kernel
theorem dX9_append_62 : decode cX9_append 62 = .ok (.iload_n 1, 1) := by decide +kernel
theorem dX9_append_63 : decode cX9_append 63 = .ok (.bipush 8, 2) := by decide +kernel
theorem dX9_append_65 : decode cX9_append 65 = .ok (.iushr, 1) := by decide +kernel
theorem dX9_append_66 : decode cX9_append 66 = .ok (.sipush 255, 3) := by decide +kernel
theorem dX9_append_69 : decode cX9_append 69 = .ok (.iand, 1) := by decide +kernel
theorem dX9_append_70 : decode cX9_append 70 = .ok (.iastore, 1) := by decide +kernel
theorem dX9_append_71 : decode cX9_append 71 = .ok (.aload_n 0, 1) := by decide +kernel
theorem dX9_append_72 : decode cX9_append 72 = .ok (.getfield 9, 3) := by decide +kernel
theorem dX9_append_75 : decode cX9_append 75 = .ok (.aload_n 0, 1) := by decide +kernel
theorem dX9_append_76 : decode cX9_append 76 = .ok (.getfield 15, 3) := by decide +kernel
theorem dX9_append_79 : decode cX9_append 79 = .ok (.iconst 3, 1) := by decide +kernel
theorem dX9_append_80 : decode cX9_append 80 = .ok (.iadd, 1) := by decide +kernel
theorem dX9_append_81 : decode cX9_append 81 = .ok (.iload_n 1, 1) := by decide +kernel
theorem dX9_append_82 : decode cX9_append 82 = .ok (.sipush 255, 3) := by decide +kernel
theorem dX9_append_85 : decode cX9_append 85 = .ok (.iand, 1) := by decide +kernel
theorem dX9_append_86 : decode cX9_append 86 = .ok (.iastore, 1) := by decide +kernel
theorem dX9_append_87 : decode cX9_append 87 = .ok (.aload_n 0, 1) := by decide +kernel
theorem dX9_append_88 : decode cX9_append 88 = .ok (.dup, 1) := by decide +kernel
theorem dX9_append_89 : decode cX9_append 89 = .ok (.getfield 15, 3) := by decide +kernel
theorem dX9_append_92 : decode cX9_append 92 = .ok (.iconst 4, 1) := by decide +kernel
theorem dX9_append_93 : decode cX9_append 93 = .ok (.iadd, 1) := by decide +kernel
theorem dX9_append_94 : decode cX9_append 94 = .ok (.putfield 15, 3) := by decide +kernel
theorem dX9_append_97 : decode cX9_append 97 = .ok (.aload_n 0, 1) := by decide +kernel
theorem dX9_append_98 : decode cX9_append 98 = .ok (.getfield 15, 3) := by decide +kernel
theorem dX9_append_101 : decode cX9_append 101 = .ok (.ireturn, 1) := by decide +kernel
theorem dX9_cut_0 : decode cX9_cut 0 = .ok (.iload_n 1, 1) := by decide +kernel
theorem dX9_cut_1 : decode cX9_cut 1 = .ok (.ifCond .lt 11, 3) := by decide +kernel
theorem dX9_cut_4 : decode cX9_cut 4 = .ok (.iload_n 1, 1) := by decide +kernel
theorem dX9_cut_5 : decode cX9_cut 5 = .ok (.aload_n 0, 1) := by decide +kernel
theorem dX9_cut_6 : decode cX9_cut 6 = .ok (.getfield 15, 3) := by decide +kernel
theorem dX9_cut_9 : decode cX9_cut 9 = .ok (.if_icmp .le 5, 3) := by decide +kernel
theorem dX9_cut_12 : decode cX9_cut 12 = .ok (.iconst 0, 1) := by decide +kernel
theorem dX9_cut_13 : decode cX9_cut 13 = .ok (.ireturn, 1) := by decide +kernel
theorem dX9_cut_14 : decode cX9_cut 14 = .ok (.aload_n 0, 1) := by decide +kernel
theorem dX9_cut_15 : decode cX9_cut 15 = .ok (.iload_n 1, 1) := by decide +kernel
theorem dX9_cut_16 : decode cX9_cut 16 = .ok (.putfield 15, 3) := by decide +kernel
theorem dX9_cut_19 : decode cX9_cut 19 = .ok (.iconst 1, 1) := by decide +kernel
theorem dX9_cut_20 : decode cX9_cut 20 = .ok (.ireturn, 1) := by decide +kernel
theorem dX9_clear_0 : decode cX9_clear 0 = .ok (.aload_n 0, 1) := by decide +kernel
theorem dX9_clear_1 : decode cX9_clear 1 = .ok (.iconst 0, 1) := by decide +kernel
theorem dX9_clear_2 : decode cX9_clear 2 = .ok (.putfield 15, 3) := by decide +kernel
theorem dX9_clear_5 : decode cX9_clear 5 = .ok (.return_, 1) := by decide +kernel
theorem dX9_signAt_0 : decode cX9_signAt 0 = .ok (.iload_n 1, 1) := by decide +kernel
theorem dX9_signAt_1 : decode cX9_signAt 1 = .ok (.ifCond .lt 26, 3) := by decide +kernel
theorem dX9_signAt_4 : decode cX9_signAt 4 = .ok (.iload_n 1, 1) := by decide +kernel
theorem dX9_signAt_5 : decode cX9_signAt 5 = .ok (.aload_n 0, 1) := by decide +kernel
theorem dX9_signAt_6 : decode cX9_signAt 6 = .ok (.getfield 15, 3) := by decide +kernel
theorem dX9_signAt_9 : decode cX9_signAt 9 = .ok (.if_icmp .ge 18, 3) := by decide +kernel
theorem dX9_signAt_12 : decode cX9_signAt 12 = .ok (.iload_n 1, 1) := by decide +kernel
theorem dX9_signAt_13 : decode cX9_signAt 13 = .ok (.bipush 80, 2) := by decide +kernel
theorem dX9_signAt_15 : decode cX9_signAt 15 = .ok (.if_icmp .ge 12, 3) := by decide +kernel
theorem dX9_signAt_18 : decode cX9_signAt 18 = .ok (.aload_n 0, 1) := by decide +kernel
theorem dX9_signAt_19 : decode cX9_signAt 19 = .ok (.getfield 9, 3) := by decide +kernel
theorem dX9_signAt_22 : decode cX9_signAt 22 = .ok (.iload_n 1, 1) := by decide +kernel
theorem dX9_signAt_23 : decode cX9_signAt 23 = .ok (.iaload, 1) := by decide +kernel
theorem dX9_signAt_24 : decode cX9_signAt 24 = .ok (.goto 4, 3) := by decide +kernel
theorem dX9_signAt_27 : decode cX9_signAt 27 = .ok (.iconst (-1), 1) := by decide +kernel
theorem dX9_signAt_28 : decode cX9_signAt 28 = .ok (.ireturn, 1) := by decide +kernel
theorem dX9_isDigit_0 : decode cX9_isDigit 0 = .ok (.aload_n 0, 1) := by decide +kernel
theorem dX9_isDigit_1 : decode cX9_isDigit 1 = .ok (.iload_n 1, 1) := by decide +kernel
theorem dX9_isDigit_2 : decode cX9_isDigit 2 = .ok (.invokevirtual 19, 3) := by decide +kernel
theorem dX9_isDigit_5 : decode cX9_isDigit 5 = .ok (.istore_n 2, 1) := by decide +kernel
theorem dX9_isDigit_6 : decode cX9_isDigit 6 = .ok (.iload_n 2, 1) := by decide +kernel
theorem dX9_isDigit_7 : decode cX9_isDigit 7 = .ok (.bipush 48, 2) := by decide +kernel
theorem dX9_isDigit_9 : decode cX9_isDigit 9 = .ok (.if_icmp .lt 13, 3) := by decide +kernel
theorem dX9_isDigit_12 : decode cX9_isDigit 12 = .ok (.iload_n 2, 1) := by decide +kernel
theorem dX9_isDigit_13 : decode cX9_isDigit 13 = .ok (.bipush 57, 2) := by decide +kernel
theorem dX9_isDigit_15 : decode cX9_isDigit 15 = .ok (.if_icmp .gt 7, 3) := by decide +kernel
theorem dX9_isDigit_18 : decode cX9_isDigit 18 = .ok (.iconst 1, 1) := by decide +kernel
theorem dX9_isDigit_19 : decode cX9_isDigit 19 = .ok (.goto 4, 3) := by decide +kernel
theorem dX9_isDigit_22 : decode cX9_isDigit 22 = .ok (.iconst 0, 1) := by decide +kernel
theorem dX9_isDigit_23 : decode cX9_isDigit 23 = .ok (.ireturn, 1) := by decide +kernel
theorem dX9_isLetter_0 : decode cX9_isLetter 0 = .ok (.aload_n 0, 1) := by decide +kernel
theorem dX9_isLetter_1 : decode cX9_isLetter 1 = .ok (.iload_n 1, 1) := by decide +kernel
theorem dX9_isLetter_2 : decode cX9_isLetter 2 = .ok (.invokevirtual 19, 3) := by decide +kernel
theorem dX9_isLetter_5 : decode cX9_isLetter 5 = .ok (.istore_n 2, 1) := by decide +kernel
theorem dX9_isLetter_6 : decode cX9_isLetter 6 = .ok (.iload_n 2, 1) := by decide +kernel
theorem dX9_isLetter_7 : decode cX9_isLetter 7 = .ok (.bipush 97, 2) := by decide +kernel
theorem dX9_isLetter_9 : decode cX9_isLetter 9 = .ok (.if_icmp .lt 13, 3) := by decide +kernel
theorem dX9_isLetter_12 : decode cX9_isLetter 12 = .ok (.iload_n 2, 1) := by decide +kernel
theorem dX9_isLetter_13 : decode cX9_isLetter 13 = .ok (.bipush 122, 2) := by decide +kernel
theorem dX9_isLetter_15 : decode cX9_isLetter 15 = .ok (.if_icmp .gt 7, 3) := by decide +kernel
theorem dX9_isLetter_18 : decode cX9_isLetter 18 = .ok (.iconst 1, 1) := by decide +kernel
theorem dX9_isLetter_19 : decode cX9_isLetter 19 = .ok (.goto 4, 3) := by decide +kernel
theorem dX9_isLetter_22 : decode cX9_isLetter 22 = .ok (.iconst 0, 1) := by decide +kernel
theorem dX9_isLetter_23 : decode cX9_isLetter 23 = .ok (.ireturn, 1) := by decide +kernel
theorem dX9_digitAt_0 : decode cX9_digitAt 0 = .ok (.aload_n 0, 1) := by decide +kernel
theorem dX9_digitAt_1 : decode cX9_digitAt 1 = .ok (.iload_n 1, 1) := by decide +kernel
theorem dX9_digitAt_2 : decode cX9_digitAt 2 = .ok (.invokevirtual 23, 3) := by decide +kernel
theorem dX9_digitAt_5 : decode cX9_digitAt 5 = .ok (.ifCond .eq 14, 3) := by decide +kernel
theorem dX9_digitAt_8 : decode cX9_digitAt 8 = .ok (.aload_n 0, 1) := by decide +kernel
theorem dX9_digitAt_9 : decode cX9_digitAt 9 = .ok (.iload_n 1, 1) := by decide +kernel
theorem dX9_digitAt_10 : decode cX9_digitAt 10 = .ok (.invokevirtual 19, 3) := by decide +kernel
theorem dX9_digitAt_13 : decode cX9_digitAt 13 = .ok (.bipush 48, 2) := by decide +kernel
theorem dX9_digitAt_15 : decode cX9_digitAt 15 = .ok (.isub, 1) := by decide +kernel
theorem dX9_digitAt_16 : decode cX9_digitAt 16 = .ok (.goto 4, 3) := by decide +kernel
theorem dX9_digitAt_19 : decode cX9_digitAt 19 = .ok (.iconst 0, 1) := by decide +kernel
theorem dX9_digitAt_20 : decode cX9_digitAt 20 = .ok (.ireturn, 1) := by decide +kernel
theorem dX10_init_0 : decode cX10_init 0 = .ok (.aload_n 0, 1) := by decide +kernel
theorem dX10_init_1 : decode cX10_init 1 = .ok (.invokespecial 3, 3) := by decide +kernel
theorem dX10_init_4 : decode cX10_init 4 = .ok (.aload_n 0, 1) := by decide +kernel
theorem dX10_init_5 : decode cX10_init 5 = .ok (.bipush 81, 2) := by decide +kernel
theorem dX10_init_7 : decode cX10_init 7 = .ok (.newarray .int, 2) := by decide +kernel
theorem dX10_init_9 : decode cX10_init 9 = .ok (.putfield 9, 3) := by decide +kernel
theorem dX10_init_12 : decode cX10_init 12 = .ok (.aload_n 0, 1) := by decide +kernel
theorem dX10_init_13 : decode cX10_init 13 = .ok (.bipush 81, 2) := by decide +kernel
theorem dX10_init_15 : decode cX10_init 15 = .ok (.newarray .int, 2) := by decide +kernel
theorem dX10_init_17 : decode cX10_init 17 = .ok (.putfield 15, 3) := by decide +kernel
theorem dX10_init_20 : decode cX10_init 20 = .ok (.aload_n 0, 1) := by decide +kernel
theorem dX10_init_21 : decode cX10_init 21 = .ok (.iconst 0, 1) := by decide +kernel
theorem dX10_init_22 : decode cX10_init 22 = .ok (.putfield 18, 3) := by decide +kernel
theorem dX10_init_25 : decode cX10_init 25 = .ok (.aload_n 0, 1) := by decide +kernel
theorem dX10_init_26 : decode cX10_init 26 = .ok (.bipush 41, 2) := by decide +kernel
theorem dX10_init_28 : decode cX10_init 28 = .ok (.putfield 22, 3) := by decide +kernel
theorem dX10_init_31 : decode cX10_init 31 = .ok (.aload_n 0, 1) := by decide +kernel
theorem dX10_init_32 : decode cX10_init 32 = .ok (.iconst 0, 1) := by decide +kernel
theorem dX10_init_33 : decode cX10_init 33 = .ok (.putfield 25, 3) := by decide +kernel
theorem dX10_init_36 : decode cX10_init 36 = .ok (.return_, 1) := by decide +kernel
theorem dX10_split_0 : decode cX10_split 0 = .ok (.iconst 0, 1) := by decide +kernel
theorem dX10_split_1 : decode cX10_split 1 = .ok (.istore_n 2, 1) := by decide +kernel
theorem dX10_split_2 : decode cX10_split 2 = .ok (.bipush 40, 2) := by decide +kernel
theorem dX10_split_4 : decode cX10_split 4 = .ok (.istore_n 3, 1) := by decide +kernel
theorem dX10_split_5 : decode cX10_split 5 = .ok (.iconst 0, 1) := by decide +kernel
theorem dX10_split_6 : decode cX10_split 6 = .ok (.istore 4, 2) := by decide +kernel
theorem dX10_split_8 : decode cX10_split 8 = .ok (.iload 4, 2) := by decide +kernel
theorem dX10_split_10 : decode cX10_split 10 = .ok (.bipush 80, 2) := by decide +kernel
theorem dX10_split_12 : decode cX10_split 12 = .ok (.if_icmp .gt 133, 3) := by decide +kernel
theorem dX10_split_15 : decode cX10_split 15 = .ok (.aload_n 1, 1) := by decide +kernel
theorem dX10_split_16 : decode cX10_split 16 = .ok (.iload_n 2, 1) := by decide +kernel
theorem dX10_split_17 : decode cX10_split 17 = .ok (.invokestatic 28, 3) := by decide +kernel
theorem dX10_split_20 : decode cX10_split 20 = .ok (.istore_n 2, 1) := by decide +kernel
theorem dX10_split_21 : decode cX10_split 21 = .ok (.aload_n 0, 1) := by decide +kernel
theorem dX10_split_22 : decode cX10_split 22 = .ok (.getfield 15, 3) := by decide +kernel
theorem dX10_split_25 : decode cX10_split 25 = .ok (.iload 4, 2) := by decide +kernel
theorem dX10_split_27 : decode cX10_split 27 = .ok (.iload_n 2, 1) := by decide +kernel
theorem dX10_split_28 : decode cX10_split 28 = .ok (.iastore, 1) := by decide +kernel
theorem dX10_split_29 : decode cX10_split 29 = .ok (.iload_n 2, 1) := by decide +kernel
theorem dX10_split_30 : decode cX10_split 30 = .ok (.aload_n 1, 1) := by decide +kernel
theorem dX10_split_31 : decode cX10_split 31 = .ok (.getfield 32, 3) := by decide +kernel
theorem dX10_split_34 : decode cX10_split 34 = .ok (.if_icmp .lt 9, 3) := by decide +kernel
theorem dX10_split_37 : decode cX10_split 37 = .ok (.bipush 41, 2) := by decide +kernel
theorem dX10_split_39 : decode cX10_split 39 = .ok (.istore_n 3, 1) := by decide +kernel
theorem dX10_split_40 : decode cX10_split 40 = .ok (.goto 76, 3) := by decide +kernel
theorem dX10_split_43 : decode cX10_split 43 = .ok (.aload_n 1, 1) := by decide +kernel
theorem dX10_split_44 : decode cX10_split 44 = .ok (.iload_n 2, 1) := by decide +kernel
theorem dX10_split_45 : decode cX10_split 45 = .ok (.invokevirtual 37, 3) := by decide +kernel
theorem dX10_split_48 : decode cX10_split 48 = .ok (.ifCond .eq 49, 3) := by decide +kernel
theorem dX10_split_51 : decode cX10_split 51 = .ok (.aload_n 1, 1) := by decide +kernel
theorem dX10_split_52 : decode cX10_split 52 = .ok (.iload_n 2, 1) := by decide +kernel
theorem dX10_split_53 : decode cX10_split 53 = .ok (.invokestatic 41, 3) := by decide +kernel
theorem dX10_split_56 : decode cX10_split 56 = .ok (.istore_n 2, 1) := by decide +kernel
theorem dX10_split_57 : decode cX10_split 57 = .ok (.aload_n 1, 1) := by decide +kernel
theorem dX10_split_58 : decode cX10_split 58 = .ok (.aload_n 0, 1) := by decide +kernel
theorem dX10_split_59 : decode cX10_split 59 = .ok (.getfield 15, 3) := by decide +kernel
theorem dX10_split_62 : decode cX10_split 62 = .ok (.iload 4, 2) := by decide +kernel
theorem dX10_split_64 : decode cX10_split 64 = .ok (.iaload, 1) := by decide +kernel
theorem dX10_split_65 : decode cX10_split 65 = .ok (.iload_n 2, 1) := by decide +kernel
theorem dX10_split_66 : decode cX10_split 66 = .ok (.invokestatic 44, 3) := by decide +kernel
theorem dX10_split_69 : decode cX10_split 69 = .ok (.istore_n 3, 1) := by decide +kernel
theorem dX10_split_70 : decode cX10_split 70 = .ok (.aload_n 0, 1) := by decide +kernel
theorem dX10_split_71 : decode cX10_split 71 = .ok (.getfield 15, 3) := by decide +kernel
theorem dX10_split_74 : decode cX10_split 74 = .ok (.iload 4, 2) := by decide +kernel
theorem dX10_split_76 : decode cX10_split 76 = .ok (.iload_n 3, 1) := by decide +kernel
theorem dX10_split_77 : decode cX10_split 77 = .ok (.bipush 40, 2) := by decide +kernel
theorem dX10_split_79 : decode cX10_split 79 = .ok (.if_icmp .ne 7, 3) := by decide +kernel
theorem dX10_split_82 : decode cX10_split 82 = .ok (.iload_n 2, 1) := by decide +kernel
theorem dX10_split_83 : decode cX10_split 83 = .ok (.goto 10, 3) := by decide +kernel
theorem dX10_split_86 : decode cX10_split 86 = .ok (.aload_n 0, 1) := by decide +kernel
theorem dX10_split_87 : decode cX10_split 87 = .ok (.getfield 15, 3) := by decide +kernel
theorem dX10_split_90 : decode cX10_split 90 = .ok (.iload 4, 2) := by decide +kernel
theorem dX10_split_92 : decode cX10_split 92 = .ok (.iaload, 1) := by decide +kernel
theorem dX10_split_93 : decode cX10_split 93 = .ok (.iastore, 1) := by decide +kernel
theorem dX10_split_94 : decode cX10_split 94 = .ok (.goto 22, 3) := by decide +kernel
theorem dX10_split_97 : decode cX10_split 97 = .ok (.aload_n 1, 1) := by decide +kernel
theorem dX10_split_98 : decode cX10_split 98 = .ok (.iload_n 2, 1) := by decide +kernel
theorem dX10_split_99 : decode cX10_split 99 = .ok (.invokestatic 48, 3) := by decide +kernel
theorem dX10_split_102 : decode cX10_split 102 = .ok (.istore_n 2, 1) := by decide +kernel
theorem dX10_split_103 : decode cX10_split 103 = .ok (.aload_n 1, 1) := by decide +kernel
theorem dX10_split_104 : decode cX10_split 104 = .ok (.aload_n 0, 1) := by decide +kernel
theorem dX10_split_105 : decode cX10_split 105 = .ok (.getfield 15, 3) := by decide +kernel
theorem dX10_split_108 : decode cX10_split 108 = .ok (.iload 4, 2) := by decide +kernel
theorem dX10_split_110 : decode cX10_split 110 = .ok (.iaload, 1) := by decide +kernel
theorem dX10_split_111 : decode cX10_split 111 = .ok (.iload_n 2, 1) := by decide +kernel
theorem dX10_split_112 : decode cX10_split 112 = .ok (.invokestatic 51, 3) := by decide +kernel
theorem dX10_split_115 : decode cX10_split 115 = .ok (.istore_n 3, 1) := by decide +kernel
theorem dX10_split_116 : decode cX10_split 116 = .ok (.aload_n 0, 1) := by decide +kernel
theorem dX10_split_117 : decode cX10_split 117 = .ok (.getfield 9, 3) := by decide +kernel
theorem dX10_split_120 : decode cX10_split 120 = .ok (.iload 4, 2) := by decide +kernel
theorem dX10_split_122 : decode cX10_split 122 = .ok (.iload_n 3, 1) := by decide +kernel
theorem dX10_split_123 : decode cX10_split 123 = .ok (.iastore, 1) := by decide +kernel
theorem dX10_split_124 : decode cX10_split 124 = .ok (.iload_n 3, 1) := by decide +kernel
theorem dX10_split_125 : decode cX10_split 125 = .ok (.bipush 41, 2) := by decide +kernel
theorem dX10_split_127 : decode cX10_split 127 = .ok (.if_icmp .eq 18, 3) := by decide +kernel
theorem dX10_split_130 : decode cX10_split 130 = .ok (.iload_n 3, 1) := by decide +kernel
theorem dX10_split_131 : decode cX10_split 131 = .ok (.bipush 40, 2) := by decide +kernel
theorem dX10_split_133 : decode cX10_split 133 = .ok (.if_icmp .ne 6, 3) := by decide +kernel
theorem dX10_split_136 : decode cX10_split 136 = .ok (.goto 9, 3) := by decide +kernel
theorem dX10_split_139 : decode cX10_split 139 = .ok (.iinc 4 1, 3) := by decide +kernel
theorem dX10_split_142 : decode cX10_split 142 = .ok (.goto (-134), 3) := by decide +kernel
theorem dX10_split_145 : decode cX10_split 145 = .ok (.aload_n 0, 1) := by decide +kernel
theorem dX10_split_146 : decode cX10_split 146 = .ok (.iconst 0, 1) := by decide +kernel
theorem dX10_split_147 : decode cX10_split 147 = .ok (.putfield 18, 3) := by decide +kernel
theorem dX10_split_150 : decode cX10_split 150 = .ok (.aload_n 0, 1) := by decide +kernel
theorem dX10_split_151 : decode cX10_split 151 = .ok (.aload_n 0, 1) := by decide +kernel
theorem dX10_split_152 : decode cX10_split 152 = .ok (.getfield 9, 3) := by decide +kernel
theorem dX10_split_155 : decode cX10_split 155 = .ok (.iconst 0, 1) := by decide +kernel
theorem dX10_split_156 : decode cX10_split 156 = .ok (.iaload, 1) := by decide +kernel
theorem dX10_split_157 : decode cX10_split 157 = .ok (.putfield 22, 3) := by decide +kernel
theorem dX10_split_160 : decode cX10_split 160 = .ok (.aload_n 0, 1) := by decide +kernel
theorem dX10_split_161 : decode cX10_split 161 = .ok (.aload_n 0, 1) := by decide +kernel
theorem dX10_split_162 : decode cX10_split 162 = .ok (.getfield 15, 3) := by decide +kernel
theorem dX10_split_165 : decode cX10_split 165 = .ok (.iconst 0, 1) := by decide +kernel
theorem dX10_split_166 : decode cX10_split 166 = .ok (.iaload, 1) := by decide +kernel
theorem dX10_split_167 : decode cX10_split 167 = .ok (.putfield 25, 3) := by decide +kernel
theorem dX10_split_170 : decode cX10_split 170 = .ok (.return_, 1) := by decide +kernel
theorem dX10_advance_0 : decode cX10_advance 0 = .ok (.aload_n 0, 1) := by decide +kernel
theorem dX10_advance_1 : decode cX10_advance 1 = .ok (.getfield 18, 3) := by decide +kernel
theorem dX10_advance_4 : decode cX10_advance 4 = .ok (.ifCond .lt 66, 3) := by decide +kernel
theorem dX10_advance_7 : decode cX10_advance 7 = .ok (.aload_n 0, 1) := by decide +kernel
theorem dX10_advance_8 : decode cX10_advance 8 = .ok (.getfield 18, 3) := by decide +kernel
theorem dX10_advance_11 : decode cX10_advance 11 = .ok (.bipush 80, 2) := by decide +kernel
theorem dX10_advance_13 : decode cX10_advance 13 = .ok (.if_icmp .ge 57, 3) := by decide +kernel
theorem dX10_advance_16 : decode cX10_advance 16 = .ok (.aload_n 0, 1) := by decide +kernel
theorem dX10_advance_17 : decode cX10_advance 17 = .ok (.getfield 22, 3) := by decide +kernel
theorem dX10_advance_20 : decode cX10_advance 20 = .ok (.bipush 41, 2) := by decide +kernel
theorem dX10_advance_22 : decode cX10_advance 22 = .ok (.if_icmp .eq 48, 3) := by decide +kernel
theorem dX10_advance_25 : decode cX10_advance 25 = .ok (.aload_n 0, 1) := by decide +kernel
theorem dX10_advance_26 : decode cX10_advance 26 = .ok (.getfield 22, 3) := by decide +kernel
theorem dX10_advance_29 : decode cX10_advance 29 = .ok (.bipush 40, 2) := by decide +kernel
theorem dX10_advance_31 : decode cX10_advance 31 = .ok (.if_icmp .eq 39, 3) := by decide +kernel
theorem dX10_advance_34 : decode cX10_advance 34 = .ok (.aload_n 0, 1) := by decide +kernel
theorem dX10_advance_35 : decode cX10_advance 35 = .ok (.dup, 1) := by decide +kernel
theorem dX10_advance_36 : decode cX10_advance 36 = .ok (.getfield 18, 3) := by decide +kernel
theorem dX10_advance_39 : decode cX10_advance 39 = .ok (.iconst 1, 1) := by decide +kernel
theorem dX10_advance_40 : decode cX10_advance 40 = .ok (.iadd, 1) := by decide +kernel
theorem dX10_advance_41 : decode cX10_advance 41 = .ok (.putfield 18, 3) := by decide +kernel
theorem dX10_advance_44 : decode cX10_advance 44 = .ok (.aload_n 0, 1) := by decide +kernel
theorem dX10_advance_45 : decode cX10_advance 45 = .ok (.aload_n 0, 1) := by decide +kernel
theorem dX10_advance_46 : decode cX10_advance 46 = .ok (.getfield 9, 3) := by decide +kernel
theorem dX10_advance_49 : decode cX10_advance 49 = .ok (.aload_n 0, 1) := by decide +kernel
theorem dX10_advance_50 : decode cX10_advance 50 = .ok (.getfield 18, 3) := by decide +kernel
theorem dX10_advance_53 : decode cX10_advance 53 = .ok (.iaload, 1) := by decide +kernel
theorem dX10_advance_54 : decode cX10_advance 54 = .ok (.putfield 22, 3) := by decide +kernel
theorem dX10_advance_57 : decode cX10_advance 57 = .ok (.aload_n 0, 1) := by decide +kernel
theorem dX10_advance_58 : decode cX10_advance 58 = .ok (.aload_n 0, 1) := by decide +kernel
theorem dX10_advance_59 : decode cX10_advance 59 = .ok (.getfield 15, 3) := by decide +kernel
theorem dX10_advance_62 : decode cX10_advance 62 = .ok (.aload_n 0, 1) := by decide +kernel
theorem dX10_advance_63 : decode cX10_advance 63 = .ok (.getfield 18, 3) := by decide +kernel
theorem dX10_advance_66 : decode cX10_advance 66 = .ok (.iaload, 1) := by decide +kernel
theorem dX10_advance_67 : decode cX10_advance 67 = .ok (.putfield 25, 3) := by decide +kernel
theorem dX10_advance_70 : decode cX10_advance 70 = .ok (.return_, 1) := by decide +kernel
theorem dX10_endOfBlanks_0 : decode cX10_endOfBlanks 0 = .ok (.iload_n 1, 1) := by decide +kernel
theorem dX10_endOfBlanks_1 : decode cX10_endOfBlanks 1 = .ok (.istore_n 2, 1) := by decide +kernel
theorem dX10_endOfBlanks_2 : decode cX10_endOfBlanks 2 = .ok (.iconst 0, 1) := by decide +kernel
theorem dX10_endOfBlanks_3 : decode cX10_endOfBlanks 3 = .ok (.istore_n 3, 1) := by decide +kernel
theorem dX10_endOfBlanks_4 : decode cX10_endOfBlanks 4 = .ok (.iload_n 3, 1) := by decide +kernel
theorem dX10_endOfBlanks_5 : decode cX10_endOfBlanks 5 = .ok (.bipush 80, 2) := by decide +kernel
theorem dX10_endOfBlanks_7 : decode cX10_endOfBlanks 7 = .ok (.if_icmp .ge 22, 3) := by decide +kernel
theorem dX10_endOfBlanks_10 : decode cX10_endOfBlanks 10 = .ok (.aload_n 0, 1) := by decide +kernel
theorem dX10_endOfBlanks_11 : decode cX10_endOfBlanks 11 = .ok (.iload_n 2, 1) := by decide +kernel
theorem dX10_endOfBlanks_12 : decode cX10_endOfBlanks 12 = .ok (.invokevirtual 54, 3) := by decide +kernel
theorem dX10_endOfBlanks_15 : decode cX10_endOfBlanks 15 = .ok (.bipush 32, 2) := by decide +kernel
theorem dX10_endOfBlanks_17 : decode cX10_endOfBlanks 17 = .ok (.if_icmp .ne 12, 3) := by decide +kernel
theorem dX10_endOfBlanks_20 : decode cX10_endOfBlanks 20 = .ok (.iinc 2 1, 3) := by decide +kernel
theorem dX10_endOfBlanks_23 : decode cX10_endOfBlanks 23 = .ok (.iinc 3 1, 3) := by decide +kernel
theorem dX10_endOfBlanks_26 : decode cX10_endOfBlanks 26 = .ok (.goto (-22), 3) := by decide +kernel
theorem dX10_endOfBlanks_29 : decode cX10_endOfBlanks 29 = .ok (.iload_n 2, 1) := by decide +kernel
theorem dX10_endOfBlanks_30 : decode cX10_endOfBlanks 30 = .ok (.ireturn, 1) := by decide +kernel
theorem dX10_endOfDigits_0 : decode cX10_endOfDigits 0 = .ok (.iload_n 1, 1) := by decide +kernel
theorem dX10_endOfDigits_1 : decode cX10_endOfDigits 1 = .ok (.istore_n 2, 1) := by decide +kernel
theorem dX10_endOfDigits_2 : decode cX10_endOfDigits 2 = .ok (.iconst 0, 1) := by decide +kernel
theorem dX10_endOfDigits_3 : decode cX10_endOfDigits 3 = .ok (.istore_n 3, 1) := by decide +kernel
theorem dX10_endOfDigits_4 : decode cX10_endOfDigits 4 = .ok (.iload_n 3, 1) := by decide +kernel
theorem dX10_endOfDigits_5 : decode cX10_endOfDigits 5 = .ok (.iconst 4, 1) := by decide +kernel
theorem dX10_endOfDigits_6 : decode cX10_endOfDigits 6 = .ok (.if_icmp .ge 20, 3) := by decide +kernel
theorem dX10_endOfDigits_9 : decode cX10_endOfDigits 9 = .ok (.aload_n 0, 1) := by decide +kernel
theorem dX10_endOfDigits_10 : decode cX10_endOfDigits 10 = .ok (.iload_n 2, 1) := by decide +kernel
theorem dX10_endOfDigits_11 : decode cX10_endOfDigits 11 = .ok (.invokevirtual 37, 3) := by decide +kernel
theorem dX10_endOfDigits_14 : decode cX10_endOfDigits 14 = .ok (.ifCond .eq 12, 3) := by decide +kernel
theorem dX10_endOfDigits_17 : decode cX10_endOfDigits 17 = .ok (.iinc 2 1, 3) := by decide +kernel
theorem dX10_endOfDigits_20 : decode cX10_endOfDigits 20 = .ok (.iinc 3 1, 3) := by decide +kernel
theorem dX10_endOfDigits_23 : decode cX10_endOfDigits 23 = .ok (.goto (-19), 3) := by decide +kernel
theorem dX10_endOfDigits_26 : decode cX10_endOfDigits 26 = .ok (.iload_n 2, 1) := by decide +kernel
theorem dX10_endOfDigits_27 : decode cX10_endOfDigits 27 = .ok (.ireturn, 1) := by decide +kernel
theorem dX10_endOfLetters_0 : decode cX10_endOfLetters 0 = .ok (.iload_n 1, 1) := by decide +kernel
theorem dX10_endOfLetters_1 : decode cX10_endOfLetters 1 = .ok (.istore_n 2, 1) := by decide +kernel
theorem dX10_endOfLetters_2 : decode cX10_endOfLetters 2 = .ok (.iconst 0, 1) := by decide +kernel
theorem dX10_endOfLetters_3 : decode cX10_endOfLetters 3 = .ok (.istore_n 3, 1) := by decide +kernel
theorem dX10_endOfLetters_4 : decode cX10_endOfLetters 4 = .ok (.iload_n 3, 1) := by decide +kernel
theorem dX10_endOfLetters_5 : decode cX10_endOfLetters 5 = .ok (.bipush 80, 2) := by decide +kernel
theorem dX10_endOfLetters_7 : decode cX10_endOfLetters 7 = .ok (.if_icmp .ge 20, 3) := by decide +kernel
theorem dX10_endOfLetters_10 : decode cX10_endOfLetters 10 = .ok (.aload_n 0, 1) := by decide +kernel
theorem dX10_endOfLetters_11 : decode cX10_endOfLetters 11 = .ok (.iload_n 2, 1) := by decide +kernel
theorem dX10_endOfLetters_12 : decode cX10_endOfLetters 12 = .ok (.invokevirtual 58, 3) := by decide +kernel
theorem dX10_endOfLetters_15 : decode cX10_endOfLetters 15 = .ok (.ifCond .eq 12, 3) := by decide +kernel
theorem dX10_endOfLetters_18 : decode cX10_endOfLetters 18 = .ok (.iinc 2 1, 3) := by decide +kernel
theorem dX10_endOfLetters_21 : decode cX10_endOfLetters 21 = .ok (.iinc 3 1, 3) := by decide +kernel
theorem dX10_endOfLetters_24 : decode cX10_endOfLetters 24 = .ok (.goto (-20), 3) := by decide +kernel
theorem dX10_endOfLetters_27 : decode cX10_endOfLetters 27 = .ok (.iload_n 2, 1) := by decide +kernel
theorem dX10_endOfLetters_28 : decode cX10_endOfLetters 28 = .ok (.ireturn, 1) := by decide +kernel
theorem dX10_numberKind_0 : decode cX10_numberKind 0 = .ok (.aload_n 0, 1) := by decide +kernel
theorem dX10_numberKind_1 : decode cX10_numberKind 1 = .ok (.iload_n 2, 1) := by decide +kernel
theorem dX10_numberKind_2 : decode cX10_numberKind 2 = .ok (.invokevirtual 37, 3) := by decide +kernel
theorem dX10_numberKind_5 : decode cX10_numberKind 5 = .ok (.ifCond .eq 6, 3) := by decide +kernel
theorem dX10_numberKind_8 : decode cX10_numberKind 8 = .ok (.bipush 40, 2) := by decide +kernel
theorem dX10_numberKind_10 : decode cX10_numberKind 10 = .ok (.ireturn, 1) := by decide +kernel
theorem dX10_numberKind_11 : decode cX10_numberKind 11 = .ok (.iconst 0, 1) := by decide +kernel
theorem dX10_numberKind_12 : decode cX10_numberKind 12 = .ok (.istore_n 3, 1) := by decide +kernel
theorem dX10_numberKind_13 : decode cX10_numberKind 13 = .ok (.iload_n 1, 1) := by decide +kernel
theorem dX10_numberKind_14 : decode cX10_numberKind 14 = .ok (.istore 4, 2) := by decide +kernel
theorem dX10_numberKind_16 : decode cX10_numberKind 16 = .ok (.iload 4, 2) := by decide +kernel
theorem dX10_numberKind_18 : decode cX10_numberKind 18 = .ok (.iload_n 2, 1) := by decide +kernel
theorem dX10_numberKind_19 : decode cX10_numberKind 19 = .ok (.if_icmp .ge 21, 3) := by decide +kernel
theorem dX10_numberKind_22 : decode cX10_numberKind 22 = .ok (.iload_n 3, 1) := by decide +kernel
theorem dX10_numberKind_23 : decode cX10_numberKind 23 = .ok (.bipush 10, 2) := by decide +kernel
theorem dX10_numberKind_25 : decode cX10_numberKind 25 = .ok (.imul, 1) := by decide +kernel
theorem dX10_numberKind_26 : decode cX10_numberKind 26 = .ok (.aload_n 0, 1) := by decide +kernel
theorem dX10_numberKind_27 : decode cX10_numberKind 27 = .ok (.iload 4, 2) := by decide +kernel
theorem dX10_numberKind_29 : decode cX10_numberKind 29 = .ok (.invokevirtual 61, 3) := by decide +kernel
theorem dX10_numberKind_32 : decode cX10_numberKind 32 = .ok (.iadd, 1) := by decide +kernel
theorem dX10_numberKind_33 : decode cX10_numberKind 33 = .ok (.istore_n 3, 1) := by decide +kernel
theorem dX10_numberKind_34 : decode cX10_numberKind 34 = .ok (.iinc 4 1, 3) := by decide +kernel
theorem dX10_numberKind_37 : decode cX10_numberKind 37 = .ok (.goto (-21), 3) := by decide +kernel
theorem dX10_numberKind_40 : decode cX10_numberKind 40 = .ok (.bipush 100, 2) := by decide +kernel
theorem dX10_numberKind_42 : decode cX10_numberKind 42 = .ok (.iload_n 3, 1) := by decide +kernel
theorem dX10_numberKind_43 : decode cX10_numberKind 43 = .ok (.iadd, 1) := by decide +kernel
theorem dX10_numberKind_44 : decode cX10_numberKind 44 = .ok (.ireturn, 1) := by decide +kernel
theorem dX10_letterKind_0 : decode cX10_letterKind 0 = .ok (.iconst 0, 1) := by decide +kernel
theorem dX10_letterKind_1 : decode cX10_letterKind 1 = .ok (.istore_n 3, 1) := by decide +kernel
theorem dX10_letterKind_2 : decode cX10_letterKind 2 = .ok (.iload_n 1, 1) := by decide +kernel
theorem dX10_letterKind_3 : decode cX10_letterKind 3 = .ok (.istore 4, 2) := by decide +kernel
theorem dX10_letterKind_5 : decode cX10_letterKind 5 = .ok (.iconst 1, 1) := by decide +kernel
theorem dX10_letterKind_6 : decode cX10_letterKind 6 = .ok (.istore 5, 2) := by decide +kernel
theorem dX10_letterKind_8 : decode cX10_letterKind 8 = .ok (.iconst 0, 1) := by decide +kernel
theorem dX10_letterKind_9 : decode cX10_letterKind 9 = .ok (.istore 6, 2) := by decide +kernel
theorem dX10_letterKind_11 : decode cX10_letterKind 11 = .ok (.iload 6, 2) := by decide +kernel
theorem dX10_letterKind_13 : decode cX10_letterKind 13 = .ok (.ldc 64, 2) := by decide +kernel
theorem dX10_letterKind_15 : decode cX10_letterKind 15 = .ok (.invokevirtual 66, 3) := by decide +kernel
theorem dX10_letterKind_18 : decode cX10_letterKind 18 = .ok (.if_icmp .ge 82, 3) := by decide +kernel
theorem dX10_letterKind_21 : decode cX10_letterKind 21 = .ok (.ldc 64, 2) := by decide +kernel
theorem dX10_letterKind_23 : decode cX10_letterKind 23 = .ok (.iload 6, 2) := by decide +kernel
theorem dX10_letterKind_25 : decode cX10_letterKind 25 = .ok (.invokevirtual 71, 3) := by decide +kernel
theorem dX10_letterKind_28 : decode cX10_letterKind 28 = .ok (.istore 7, 2) := by decide +kernel
theorem dX10_letterKind_30 : decode cX10_letterKind 30 = .ok (.iload 7, 2) := by decide +kernel
theorem dX10_letterKind_32 : decode cX10_letterKind 32 = .ok (.bipush 32, 2) := by decide +kernel
theorem dX10_letterKind_34 : decode cX10_letterKind 34 = .ok (.if_icmp .eq 38, 3) := by decide +kernel
theorem dX10_letterKind_37 : decode cX10_letterKind 37 = .ok (.iload 5, 2) := by decide +kernel
theorem dX10_letterKind_39 : decode cX10_letterKind 39 = .ok (.ifCond .eq 24, 3) := by decide +kernel
theorem dX10_letterKind_42 : decode cX10_letterKind 42 = .ok (.iload 4, 2) := by decide +kernel
theorem dX10_letterKind_44 : decode cX10_letterKind 44 = .ok (.iload_n 2, 1) := by decide +kernel
theorem dX10_letterKind_45 : decode cX10_letterKind 45 = .ok (.if_icmp .ge 18, 3) := by decide +kernel
theorem dX10_letterKind_48 : decode cX10_letterKind 48 = .ok (.aload_n 0, 1) := by decide +kernel
theorem dX10_letterKind_49 : decode cX10_letterKind 49 = .ok (.iload 4, 2) := by decide +kernel
theorem dX10_letterKind_51 : decode cX10_letterKind 51 = .ok (.invokevirtual 54, 3) := by decide +kernel
theorem dX10_letterKind_54 : decode cX10_letterKind 54 = .ok (.iload 7, 2) := by decide +kernel
theorem dX10_letterKind_56 : decode cX10_letterKind 56 = .ok (.if_icmp .ne 7, 3) := by decide +kernel
theorem dX10_letterKind_59 : decode cX10_letterKind 59 = .ok (.iconst 1, 1) := by decide +kernel
theorem dX10_letterKind_60 : decode cX10_letterKind 60 = .ok (.goto 4, 3) := by decide +kernel
theorem dX10_letterKind_63 : decode cX10_letterKind 63 = .ok (.iconst 0, 1) := by decide +kernel
theorem dX10_letterKind_64 : decode cX10_letterKind 64 = .ok (.istore 5, 2) := by decide +kernel
theorem dX10_letterKind_66 : decode cX10_letterKind 66 = .ok (.iinc 4 1, 3) := by decide +kernel
theorem dX10_letterKind_69 : decode cX10_letterKind 69 = .ok (.goto 25, 3) := by decide +kernel
theorem dX10_letterKind_72 : decode cX10_letterKind 72 = .ok (.iload 5, 2) := by decide +kernel
theorem dX10_letterKind_74 : decode cX10_letterKind 74 = .ok (.ifCond .eq 11, 3) := by decide +kernel
theorem dX10_letterKind_77 : decode cX10_letterKind 77 = .ok (.iload 4, 2) := by decide +kernel
theorem dX10_letterKind_79 : decode cX10_letterKind 79 = .ok (.iload_n 2, 1) := by decide +kernel
theorem dX10_letterKind_80 : decode cX10_letterKind 80 = .ok (.if_icmp .ne 5, 3) := by decide +kernel
theorem dX10_letterKind_83 : decode cX10_letterKind 83 = .ok (.iload_n 3, 1) := by decide +kernel
theorem dX10_letterKind_84 : decode cX10_letterKind 84 = .ok (.ireturn, 1) := by decide +kernel
theorem dX10_letterKind_85 : decode cX10_letterKind 85 = .ok (.iinc 3 1, 3) := by decide +kernel
theorem dX10_letterKind_88 : decode cX10_letterKind 88 = .ok (.iload_n 1, 1) := by decide +kernel
theorem dX10_letterKind_89 : decode cX10_letterKind 89 = .ok (.istore 4, 2) := by decide +kernel
theorem dX10_letterKind_91 : decode cX10_letterKind 91 = .ok (.iconst 1, 1) := by decide +kernel
theorem dX10_letterKind_92 : decode cX10_letterKind 92 = .ok (.istore 5, 2) := by decide +kernel
theorem dX10_letterKind_94 : decode cX10_letterKind 94 = .ok (.iinc 6 1, 3) := by decide +kernel
theorem dX10_letterKind_97 : decode cX10_letterKind 97 = .ok (.goto (-86), 3) := by decide +kernel
theorem dX10_letterKind_100 : decode cX10_letterKind 100 = .ok (.bipush 40, 2) := by decide +kernel
theorem dX10_letterKind_102 : decode cX10_letterKind 102 = .ok (.ireturn, 1) := by decide +kernel
theorem dX10_isUnit_0 : decode cX10_isUnit 0 = .ok (.aload_n 0, 1) := by decide +kernel
theorem dX10_isUnit_1 : decode cX10_isUnit 1 = .ok (.getfield 22, 3) := by decide +kernel
theorem dX10_isUnit_4 : decode cX10_isUnit 4 = .ok (.ifCond .lt 15, 3) := by decide +kernel
theorem dX10_isUnit_7 : decode cX10_isUnit 7 = .ok (.aload_n 0, 1) := by decide +kernel
theorem dX10_isUnit_8 : decode cX10_isUnit 8 = .ok (.getfield 22, 3) := by decide +kernel
theorem dX10_isUnit_11 : decode cX10_isUnit 11 = .ok (.iconst 3, 1) := by decide +kernel
theorem dX10_isUnit_12 : decode cX10_isUnit 12 = .ok (.if_icmp .gt 7, 3) := by decide +kernel
theorem dX10_isUnit_15 : decode cX10_isUnit 15 = .ok (.iconst 1, 1) := by decide +kernel
theorem dX10_isUnit_16 : decode cX10_isUnit 16 = .ok (.goto 4, 3) := by decide +kernel
theorem dX10_isUnit_19 : decode cX10_isUnit 19 = .ok (.iconst 0, 1) := by decide +kernel
theorem dX10_isUnit_20 : decode cX10_isUnit 20 = .ok (.ireturn, 1) := by decide +kernel
theorem dX10_isDayName_0 : decode cX10_isDayName 0 = .ok (.aload_n 0, 1) := by decide +kernel
theorem dX10_isDayName_1 : decode cX10_isDayName 1 = .ok (.getfield 22, 3) := by decide +kernel
theorem dX10_isDayName_4 : decode cX10_isDayName 4 = .ok (.iconst 4, 1) := by decide +kernel
theorem dX10_isDayName_5 : decode cX10_isDayName 5 = .ok (.if_icmp .lt 16, 3) := by decide +kernel
theorem dX10_isDayName_8 : decode cX10_isDayName 8 = .ok (.aload_n 0, 1) := by decide +kernel
theorem dX10_isDayName_9 : decode cX10_isDayName 9 = .ok (.getfield 22, 3) := by decide +kernel
theorem dX10_isDayName_12 : decode cX10_isDayName 12 = .ok (.bipush 11, 2) := by decide +kernel
theorem dX10_isDayName_14 : decode cX10_isDayName 14 = .ok (.if_icmp .ge 7, 3) := by decide +kernel
theorem dX10_isDayName_17 : decode cX10_isDayName 17 = .ok (.iconst 1, 1) := by decide +kernel
theorem dX10_isDayName_18 : decode cX10_isDayName 18 = .ok (.goto 4, 3) := by decide +kernel
theorem dX10_isDayName_21 : decode cX10_isDayName 21 = .ok (.iconst 0, 1) := by decide +kernel
theorem dX10_isDayName_22 : decode cX10_isDayName 22 = .ok (.ireturn, 1) := by decide +kernel
theorem dX10_isMonthName_0 : decode cX10_isMonthName 0 = .ok (.aload_n 0, 1) := by decide +kernel
theorem dX10_isMonthName_1 : decode cX10_isMonthName 1 = .ok (.getfield 22, 3) := by decide +kernel
theorem dX10_isMonthName_4 : decode cX10_isMonthName 4 = .ok (.bipush 11, 2) := by decide +kernel
theorem dX10_isMonthName_6 : decode cX10_isMonthName 6 = .ok (.if_icmp .lt 16, 3) := by decide +kernel
theorem dX10_isMonthName_9 : decode cX10_isMonthName 9 = .ok (.aload_n 0, 1) := by decide +kernel
theorem dX10_isMonthName_10 : decode cX10_isMonthName 10 = .ok (.getfield 22, 3) := by decide +kernel
theorem dX10_isMonthName_13 : decode cX10_isMonthName 13 = .ok (.bipush 23, 2) := by decide +kernel
theorem dX10_isMonthName_15 : decode cX10_isMonthName 15 = .ok (.if_icmp .ge 7, 3) := by decide +kernel
theorem dX10_isMonthName_18 : decode cX10_isMonthName 18 = .ok (.iconst 1, 1) := by decide +kernel
theorem dX10_isMonthName_19 : decode cX10_isMonthName 19 = .ok (.goto 4, 3) := by decide +kernel
theorem dX10_isMonthName_22 : decode cX10_isMonthName 22 = .ok (.iconst 0, 1) := by decide +kernel
theorem dX10_isMonthName_23 : decode cX10_isMonthName 23 = .ok (.ireturn, 1) := by decide +kernel
theorem dX10_beginsSpan_0 : decode cX10_beginsSpan 0 = .ok (.aload_n 0, 1) := by decide +kernel
theorem dX10_beginsSpan_1 : decode cX10_beginsSpan 1 = .ok (.getfield 22, 3) := by decide +kernel
theorem dX10_beginsSpan_4 : decode cX10_beginsSpan 4 = .ok (.bipush 23, 2) := by decide +kernel
theorem dX10_beginsSpan_6 : decode cX10_beginsSpan 6 = .ok (.if_icmp .lt 16, 3) := by decide +kernel
theorem dX10_beginsSpan_9 : decode cX10_beginsSpan 9 = .ok (.aload_n 0, 1) := by decide +kernel
theorem dX10_beginsSpan_10 : decode cX10_beginsSpan 10 = .ok (.getfield 22, 3) := by decide +kernel
theorem dX10_beginsSpan_13 : decode cX10_beginsSpan 13 = .ok (.bipush 33, 2) := by decide +kernel
theorem dX10_beginsSpan_15 : decode cX10_beginsSpan 15 = .ok (.if_icmp .gt 7, 3) := by decide +kernel
theorem dX10_beginsSpan_18 : decode cX10_beginsSpan 18 = .ok (.iconst 1, 1) := by decide +kernel
theorem dX10_beginsSpan_19 : decode cX10_beginsSpan 19 = .ok (.goto 4, 3) := by decide +kernel
theorem dX10_beginsSpan_22 : decode cX10_beginsSpan 22 = .ok (.iconst 0, 1) := by decide +kernel
theorem dX10_beginsSpan_23 : decode cX10_beginsSpan 23 = .ok (.ireturn, 1) := by decide +kernel
theorem dX10_isNumber_0 : decode cX10_isNumber 0 = .ok (.aload_n 0, 1) := by decide +kernel
theorem dX10_isNumber_1 : decode cX10_isNumber 1 = .ok (.getfield 22, 3) := by decide +kernel
theorem dX10_isNumber_4 : decode cX10_isNumber 4 = .ok (.bipush 100, 2) := by decide +kernel
theorem dX10_isNumber_6 : decode cX10_isNumber 6 = .ok (.if_icmp .lt 7, 3) := by decide +kernel
theorem dX10_isNumber_9 : decode cX10_isNumber 9 = .ok (.iconst 1, 1) := by decide +kernel
theorem dX10_isNumber_10 : decode cX10_isNumber 10 = .ok (.goto 4, 3) := by decide +kernel
theorem dX10_isNumber_13 : decode cX10_isNumber 13 = .ok (.iconst 0, 1) := by decide +kernel
theorem dX10_isNumber_14 : decode cX10_isNumber 14 = .ok (.ireturn, 1) := by decide +kernel
theorem dX10_isFrom_0 : decode cX10_isFrom 0 = .ok (.aload_n 0, 1) := by decide +kernel
theorem dX10_isFrom_1 : decode cX10_isFrom 1 = .ok (.getfield 22, 3) := by decide +kernel
theorem dX10_isFrom_4 : decode cX10_isFrom 4 = .ok (.bipush 100, 2) := by decide +kernel
theorem dX10_isFrom_6 : decode cX10_isFrom 6 = .ok (.iload_n 1, 1) := by decide +kernel
theorem dX10_isFrom_7 : decode cX10_isFrom 7 = .ok (.iadd, 1) := by decide +kernel
theorem dX10_isFrom_8 : decode cX10_isFrom 8 = .ok (.if_icmp .lt 18, 3) := by decide +kernel
theorem dX10_isFrom_11 : decode cX10_isFrom 11 = .ok (.aload_n 0, 1) := by decide +kernel
theorem dX10_isFrom_12 : decode cX10_isFrom 12 = .ok (.getfield 22, 3) := by decide +kernel
theorem dX10_isFrom_15 : decode cX10_isFrom 15 = .ok (.bipush 100, 2) := by decide +kernel
theorem dX10_isFrom_17 : decode cX10_isFrom 17 = .ok (.iload_n 2, 1) := by decide +kernel
theorem dX10_isFrom_18 : decode cX10_isFrom 18 = .ok (.iadd, 1) := by decide +kernel
theorem dX10_isFrom_19 : decode cX10_isFrom 19 = .ok (.if_icmp .gt 7, 3) := by decide +kernel
theorem dX10_isFrom_22 : decode cX10_isFrom 22 = .ok (.iconst 1, 1) := by decide +kernel
theorem dX10_isFrom_23 : decode cX10_isFrom 23 = .ok (.goto 4, 3) := by decide +kernel
theorem dX10_isFrom_26 : decode cX10_isFrom 26 = .ok (.iconst 0, 1) := by decide +kernel
theorem dX10_isFrom_27 : decode cX10_isFrom 27 = .ok (.ireturn, 1) := by decide +kernel
theorem dX10_number_0 : decode cX10_number 0 = .ok (.aload_n 0, 1) := by decide +kernel
theorem dX10_number_1 : decode cX10_number 1 = .ok (.getfield 22, 3) := by decide +kernel
theorem dX10_number_4 : decode cX10_number 4 = .ok (.bipush 100, 2) := by decide +kernel
theorem dX10_number_6 : decode cX10_number 6 = .ok (.isub, 1) := by decide +kernel
theorem dX10_number_7 : decode cX10_number 7 = .ok (.ireturn, 1) := by decide +kernel
theorem dX11_init_0 : decode cX11_init 0 = .ok (.aload_n 0, 1) := by decide +kernel
theorem dX11_init_1 : decode cX11_init 1 = .ok (.invokespecial 1, 3) := by decide +kernel
theorem dX11_init_4 : decode cX11_init 4 = .ok (.aload_n 0, 1) := by decide +kernel
theorem dX11_init_5 : decode cX11_init 5 = .ok (.new 7, 3) := by decide +kernel
theorem dX11_init_8 : decode cX11_init 8 = .ok (.dup, 1) := by decide +kernel
theorem dX11_init_9 : decode cX11_init 9 = .ok (.invokespecial 9, 3) := by decide +kernel
theorem dX11_init_12 : decode cX11_init 12 = .ok (.putfield 10, 3) := by decide +kernel
theorem dX11_init_15 : decode cX11_init 15 = .ok (.aload_n 0, 1) := by decide +kernel
theorem dX11_init_16 : decode cX11_init 16 = .ok (.new 16, 3) := by decide +kernel
theorem dX11_init_19 : decode cX11_init 19 = .ok (.dup, 1) := by decide +kernel
theorem dX11_init_20 : decode cX11_init 20 = .ok (.invokespecial 18, 3) := by decide +kernel
theorem dX11_init_23 : decode cX11_init 23 = .ok (.putfield 19, 3) := by decide +kernel
theorem dX11_init_26 : decode cX11_init 26 = .ok (.aload_n 0, 1) := by decide +kernel
theorem dX11_init_27 : decode cX11_init 27 = .ok (.new 23, 3) := by decide +kernel
theorem dX11_init_30 : decode cX11_init 30 = .ok (.dup, 1) := by decide +kernel
theorem dX11_init_31 : decode cX11_init 31 = .ok (.invokespecial 25, 3) := by decide +kernel
theorem dX11_init_34 : decode cX11_init 34 = .ok (.putfield 26, 3) := by decide +kernel
theorem dX11_init_37 : decode cX11_init 37 = .ok (.aload_n 0, 1) := by decide +kernel
theorem dX11_init_38 : decode cX11_init 38 = .ok (.new 30, 3) := by decide +kernel
theorem dX11_init_41 : decode cX11_init 41 = .ok (.dup, 1) := by decide +kernel
theorem dX11_init_42 : decode cX11_init 42 = .ok (.invokespecial 32, 3) := by decide +kernel
theorem dX11_init_45 : decode cX11_init 45 = .ok (.putfield 33, 3) := by decide +kernel
theorem dX11_init_48 : decode cX11_init 48 = .ok (.aload_n 0, 1) := by decide +kernel
theorem dX11_init_49 : decode cX11_init 49 = .ok (.new 37, 3) := by decide +kernel
theorem dX11_init_52 : decode cX11_init 52 = .ok (.dup, 1) := by decide +kernel
theorem dX11_init_53 : decode cX11_init 53 = .ok (.invokespecial 39, 3) := by decide +kernel
theorem dX11_init_56 : decode cX11_init 56 = .ok (.putfield 40, 3) := by decide +kernel
theorem dX11_init_59 : decode cX11_init 59 = .ok (.aload_n 0, 1) := by decide +kernel
theorem dX11_init_60 : decode cX11_init 60 = .ok (.new 37, 3) := by decide +kernel
theorem dX11_init_63 : decode cX11_init 63 = .ok (.dup, 1) := by decide +kernel
theorem dX11_init_64 : decode cX11_init 64 = .ok (.invokespecial 39, 3) := by decide +kernel
theorem dX11_init_67 : decode cX11_init 67 = .ok (.putfield 44, 3) := by decide +kernel
theorem dX11_init_70 : decode cX11_init 70 = .ok (.aload_n 0, 1) := by decide +kernel
theorem dX11_init_71 : decode cX11_init 71 = .ok (.sipush 170, 3) := by decide +kernel
theorem dX11_init_74 : decode cX11_init 74 = .ok (.newarray .int, 2) := by decide +kernel
theorem dX11_init_76 : decode cX11_init 76 = .ok (.putfield 47, 3) := by decide +kernel
theorem dX11_init_79 : decode cX11_init 79 = .ok (.aload_n 0, 1) := by decide +kernel
theorem dX11_init_80 : decode cX11_init 80 = .ok (.new 51, 3) := by decide +kernel
theorem dX11_init_83 : decode cX11_init 83 = .ok (.dup, 1) := by decide +kernel
theorem dX11_init_84 : decode cX11_init 84 = .ok (.invokespecial 53, 3) := by decide +kernel
theorem dX11_init_87 : decode cX11_init 87 = .ok (.putfield 54, 3) := by decide +kernel
theorem dX11_init_90 : decode cX11_init 90 = .ok (.aload_n 0, 1) := by decide +kernel
theorem dX11_init_91 : decode cX11_init 91 = .ok (.iconst 2, 1) := by decide +kernel
theorem dX11_init_92 : decode cX11_init 92 = .ok (.sipush 170, 3) := by decide +kernel
theorem dX11_init_95 : decode cX11_init 95 = .ok (.multianewarray 58 2, 4) := by decide +kernel
theorem dX11_init_99 : decode cX11_init 99 = .ok (.putfield 60, 3) := by decide +kernel
theorem dX11_init_102 : decode cX11_init 102 = .ok (.aload_n 0, 1) := by decide +kernel
theorem dX11_init_103 : decode cX11_init 103 = .ok (.iconst 0, 1) := by decide +kernel
theorem dX11_init_104 : decode cX11_init 104 = .ok (.putfield 63, 3) := by decide +kernel
theorem dX11_init_107 : decode cX11_init 107 = .ok (.aload_n 0, 1) := by decide +kernel
theorem dX11_init_108 : decode cX11_init 108 = .ok (.new 67, 3) := by decide +kernel
theorem dX11_init_111 : decode cX11_init 111 = .ok (.dup, 1) := by decide +kernel
theorem dX11_init_112 : decode cX11_init 112 = .ok (.invokespecial 69, 3) := by decide +kernel
theorem dX11_init_115 : decode cX11_init 115 = .ok (.putfield 70, 3) := by decide +kernel
theorem dX11_init_118 : decode cX11_init 118 = .ok (.aload_n 0, 1) := by decide +kernel
theorem dX11_init_119 : decode cX11_init 119 = .ok (.new 67, 3) := by decide +kernel
theorem dX11_init_122 : decode cX11_init 122 = .ok (.dup, 1) := by decide +kernel
theorem dX11_init_123 : decode cX11_init 123 = .ok (.invokespecial 69, 3) := by decide +kernel
theorem dX11_init_126 : decode cX11_init 126 = .ok (.putfield 74, 3) := by decide +kernel
theorem dX11_init_129 : decode cX11_init 129 = .ok (.aload_n 0, 1) := by decide +kernel
theorem dX11_init_130 : decode cX11_init 130 = .ok (.new 77, 3) := by decide +kernel
theorem dX11_init_133 : decode cX11_init 133 = .ok (.dup, 1) := by decide +kernel
theorem dX11_init_134 : decode cX11_init 134 = .ok (.invokespecial 79, 3) := by decide +kernel
theorem dX11_init_137 : decode cX11_init 137 = .ok (.putfield 80, 3) := by decide +kernel
theorem dX11_init_140 : decode cX11_init 140 = .ok (.aload_n 0, 1) := by decide +kernel
theorem dX11_init_141 : decode cX11_init 141 = .ok (.iconst 0, 1) := by decide +kernel
theorem dX11_init_142 : decode cX11_init 142 = .ok (.putfield 84, 3) := by decide +kernel
theorem dX11_init_145 : decode cX11_init 145 = .ok (.return_, 1) := by decide +kernel
theorem dX11_sign_0 : decode cX11_sign 0 = .ok (.aload_n 0, 1) := by decide +kernel
theorem dX11_sign_1 : decode cX11_sign 1 = .ok (.getfield 10, 3) := by decide +kernel
theorem dX11_sign_4 : decode cX11_sign 4 = .ok (.iload_n 1, 1) := by decide +kernel
theorem dX11_sign_5 : decode cX11_sign 5 = .ok (.invokevirtual 88, 3) := by decide +kernel
theorem dX11_sign_8 : decode cX11_sign 8 = .ok (.ireturn, 1) := by decide +kernel
theorem dX11_end_0 : decode cX11_end 0 = .ok (.aload_n 0, 1) := by decide +kernel
theorem dX11_end_1 : decode cX11_end 1 = .ok (.getfield 10, 3) := by decide +kernel
theorem dX11_end_4 : decode cX11_end 4 = .ok (.iload_n 1, 1) := by decide +kernel
theorem dX11_end_5 : decode cX11_end 5 = .ok (.invokevirtual 92, 3) := by decide +kernel
theorem dX11_end_8 : decode cX11_end 8 = .ok (.ireturn, 1) := by decide +kernel
theorem dX11_tells_0 : decode cX11_tells 0 = .ok (.aload_n 0, 1) := by decide +kernel
theorem dX11_tells_1 : decode cX11_tells 1 = .ok (.getfield 19, 3) := by decide +kernel
theorem dX11_tells_4 : decode cX11_tells 4 = .ok (.aload_n 0, 1) := by decide +kernel
theorem dX11_tells_5 : decode cX11_tells 5 = .ok (.getfield 10, 3) := by decide +kernel
theorem dX11_tells_8 : decode cX11_tells 8 = .ok (.invokevirtual 96, 3) := by decide +kernel
theorem dX11_tells_11 : decode cX11_tells 11 = .ok (.istore_n 3, 1) := by decide +kernel
theorem dX11_tells_12 : decode cX11_tells 12 = .ok (.aload_n 0, 1) := by decide +kernel
theorem dX11_tells_13 : decode cX11_tells 13 = .ok (.getfield 10, 3) := by decide +kernel
theorem dX11_tells_16 : decode cX11_tells 16 = .ok (.invokevirtual 100, 3) := by decide +kernel
theorem dX11_tells_19 : decode cX11_tells 19 = .ok (.iload_n 1, 1) := by decide +kernel
theorem dX11_tells_20 : decode cX11_tells 20 = .ok (.invokestatic 103, 3) := by decide +kernel
theorem dX11_tells_23 : decode cX11_tells 23 = .ok (.ifCond .eq 24, 3) := by decide +kernel
theorem dX11_tells_26 : decode cX11_tells 26 = .ok (.iload_n 2, 1) := by decide +kernel
theorem dX11_tells_27 : decode cX11_tells 27 = .ok (.iconst (-1), 1) := by decide +kernel
theorem dX11_tells_28 : decode cX11_tells 28 = .ok (.if_icmp .eq 21, 3) := by decide +kernel
theorem dX11_tells_31 : decode cX11_tells 31 = .ok (.iload_n 2, 1) := by decide +kernel
theorem dX11_tells_32 : decode cX11_tells 32 = .ok (.iload_n 1, 1) := by decide +kernel
theorem dX11_tells_33 : decode cX11_tells 33 = .ok (.if_icmp .eq 14, 3) := by decide +kernel
theorem dX11_tells_36 : decode cX11_tells 36 = .ok (.aload_n 0, 1) := by decide +kernel
theorem dX11_tells_37 : decode cX11_tells 37 = .ok (.getfield 40, 3) := by decide +kernel
theorem dX11_tells_40 : decode cX11_tells 40 = .ok (.iload_n 2, 1) := by decide +kernel
theorem dX11_tells_41 : decode cX11_tells 41 = .ok (.invokevirtual 106, 3) := by decide +kernel
theorem dX11_tells_44 : decode cX11_tells 44 = .ok (.ifCond .ne 5, 3) := by decide +kernel
theorem dX11_tells_47 : decode cX11_tells 47 = .ok (.iconst (-1), 1) := by decide +kernel
theorem dX11_tells_48 : decode cX11_tells 48 = .ok (.ireturn, 1) := by decide +kernel
theorem dX11_tells_49 : decode cX11_tells 49 = .ok (.iload_n 3, 1) := by decide +kernel
theorem dX11_tells_50 : decode cX11_tells 50 = .ok (.iconst (-1), 1) := by decide +kernel
theorem dX11_tells_51 : decode cX11_tells 51 = .ok (.if_icmp .eq 7, 3) := by decide +kernel
theorem dX11_tells_54 : decode cX11_tells 54 = .ok (.iconst (-1), 1) := by decide +kernel
theorem dX11_tells_55 : decode cX11_tells 55 = .ok (.iload_n 3, 1) := by decide +kernel
theorem dX11_tells_56 : decode cX11_tells 56 = .ok (.isub, 1) := by decide +kernel
theorem dX11_tells_57 : decode cX11_tells 57 = .ok (.ireturn, 1) := by decide +kernel
theorem dX11_tells_58 : decode cX11_tells 58 = .ok (.aload_n 0, 1) := by decide +kernel
theorem dX11_tells_59 : decode cX11_tells 59 = .ok (.getfield 26, 3) := by decide +kernel
theorem dX11_tells_62 : decode cX11_tells 62 = .ok (.invokevirtual 109, 3) := by decide +kernel
theorem dX11_tells_65 : decode cX11_tells 65 = .ok (.iload_n 2, 1) := by decide +kernel
theorem dX11_tells_66 : decode cX11_tells 66 = .ok (.iconst (-1), 1) := by decide +kernel
theorem dX11_tells_67 : decode cX11_tells 67 = .ok (.if_icmp .ne 22, 3) := by decide +kernel
theorem dX11_tells_70 : decode cX11_tells 70 = .ok (.aload_n 0, 1) := by decide +kernel
theorem dX11_tells_71 : decode cX11_tells 71 = .ok (.getfield 26, 3) := by decide +kernel
theorem dX11_tells_74 : decode cX11_tells 74 = .ok (.aload_n 0, 1) := by decide +kernel
theorem dX11_tells_75 : decode cX11_tells 75 = .ok (.getfield 19, 3) := by decide +kernel
theorem dX11_tells_78 : decode cX11_tells 78 = .ok (.aload_n 0, 1) := by decide +kernel
theorem dX11_tells_79 : decode cX11_tells 79 = .ok (.getfield 40, 3) := by decide +kernel
theorem dX11_tells_82 : decode cX11_tells 82 = .ok (.invokevirtual 112, 3) := by decide +kernel
theorem dX11_tells_85 : decode cX11_tells 85 = .ok (.iconst 3, 1) := by decide +kernel
theorem dX11_tells_86 : decode cX11_tells 86 = .ok (.invokevirtual 116, 3) := by decide +kernel
theorem dX11_tells_89 : decode cX11_tells 89 = .ok (.iconst 0, 1) := by decide +kernel
theorem dX11_tells_90 : decode cX11_tells 90 = .ok (.istore 4, 2) := by decide +kernel
theorem dX11_tells_92 : decode cX11_tells 92 = .ok (.iload 4, 2) := by decide +kernel
theorem dX11_tells_94 : decode cX11_tells 94 = .ok (.bipush 6, 2) := by decide +kernel
theorem dX11_tells_96 : decode cX11_tells 96 = .ok (.if_icmp .ge 55, 3) := by decide +kernel
theorem dX11_tells_99 : decode cX11_tells 99 = .ok (.aload_n 0, 1) := by decide +kernel
theorem dX11_tells_100 : decode cX11_tells 100 = .ok (.getfield 40, 3) := by decide +kernel
theorem dX11_tells_103 : decode cX11_tells 103 = .ok (.iload_n 2, 1) := by decide +kernel
theorem dX11_tells_104 : decode cX11_tells 104 = .ok (.iload 4, 2) := by decide +kernel
theorem dX11_tells_106 : decode cX11_tells 106 = .ok (.invokevirtual 120, 3) := by decide +kernel
theorem dX11_tells_109 : decode cX11_tells 109 = .ok (.ifCond .eq 36, 3) := by decide +kernel
theorem dX11_tells_112 : decode cX11_tells 112 = .ok (.aload_n 0, 1) := by decide +kernel
theorem dX11_tells_113 : decode cX11_tells 113 = .ok (.getfield 26, 3) := by decide +kernel
theorem dX11_tells_116 : decode cX11_tells 116 = .ok (.aload_n 0, 1) := by decide +kernel
theorem dX11_tells_117 : decode cX11_tells 117 = .ok (.getfield 19, 3) := by decide +kernel
theorem dX11_tells_120 : decode cX11_tells 120 = .ok (.aload_n 0, 1) := by decide +kernel
theorem dX11_tells_121 : decode cX11_tells 121 = .ok (.getfield 40, 3) := by decide +kernel
theorem dX11_tells_124 : decode cX11_tells 124 = .ok (.iload_n 2, 1) := by decide +kernel
theorem dX11_tells_125 : decode cX11_tells 125 = .ok (.iload 4, 2) := by decide +kernel
theorem dX11_tells_127 : decode cX11_tells 127 = .ok (.iconst 0, 1) := by decide +kernel
theorem dX11_tells_128 : decode cX11_tells 128 = .ok (.invokevirtual 124, 3) := by decide +kernel
theorem dX11_tells_131 : decode cX11_tells 131 = .ok (.aload_n 0, 1) := by decide +kernel
theorem dX11_tells_132 : decode cX11_tells 132 = .ok (.getfield 40, 3) := by decide +kernel
theorem dX11_tells_135 : decode cX11_tells 135 = .ok (.iload_n 2, 1) := by decide +kernel
theorem dX11_tells_136 : decode cX11_tells 136 = .ok (.iload 4, 2) := by decide +kernel
theorem dX11_tells_138 : decode cX11_tells 138 = .ok (.iconst 3, 1) := by decide +kernel
theorem dX11_tells_139 : decode cX11_tells 139 = .ok (.invokevirtual 124, 3) := by decide +kernel
theorem dX11_tells_142 : decode cX11_tells 142 = .ok (.invokevirtual 116, 3) := by decide +kernel
theorem dX11_tells_145 : decode cX11_tells 145 = .ok (.iinc 4 1, 3) := by decide +kernel
theorem dX11_tells_148 : decode cX11_tells 148 = .ok (.goto (-56), 3) := by decide +kernel
theorem dX11_tells_151 : decode cX11_tells 151 = .ok (.aload_n 0, 1) := by decide +kernel
theorem dX11_tells_152 : decode cX11_tells 152 = .ok (.getfield 26, 3) := by decide +kernel
theorem dX11_tells_155 : decode cX11_tells 155 = .ok (.invokevirtual 128, 3) := by decide +kernel
theorem dX11_tells_158 : decode cX11_tells 158 = .ok (.istore 4, 2) := by decide +kernel
theorem dX11_tells_160 : decode cX11_tells 160 = .ok (.iload 4, 2) := by decide +kernel
theorem dX11_tells_162 : decode cX11_tells 162 = .ok (.ifCond .le 22, 3) := by decide +kernel
theorem dX11_tells_165 : decode cX11_tells 165 = .ok (.aload_n 0, 1) := by decide +kernel
theorem dX11_tells_166 : decode cX11_tells 166 = .ok (.invokevirtual 131, 3) := by decide +kernel
theorem dX11_tells_169 : decode cX11_tells 169 = .ok (.aload_n 0, 1) := by decide +kernel
theorem dX11_tells_170 : decode cX11_tells 170 = .ok (.getfield 40, 3) := by decide +kernel
theorem dX11_tells_173 : decode cX11_tells 173 = .ok (.iload_n 1, 1) := by decide +kernel
theorem dX11_tells_174 : decode cX11_tells 174 = .ok (.aload_n 0, 1) := by decide +kernel
theorem dX11_tells_175 : decode cX11_tells 175 = .ok (.getfield 26, 3) := by decide +kernel
theorem dX11_tells_178 : decode cX11_tells 178 = .ok (.getfield 134, 3) := by decide +kernel
theorem dX11_tells_181 : decode cX11_tells 181 = .ok (.invokevirtual 138, 3) := by decide +kernel
theorem dX11_tells_184 : decode cX11_tells 184 = .ok (.aload_n 0, 1) := by decide +kernel
theorem dX11_tells_185 : decode cX11_tells 185 = .ok (.iload 4, 2) := by decide +kernel
theorem dX11_tells_187 : decode cX11_tells 187 = .ok (.invokevirtual 142, 3) := by decide +kernel
theorem dX11_tells_190 : decode cX11_tells 190 = .ok (.ireturn, 1) := by decide +kernel
theorem dX11_means_0 : decode cX11_means 0 = .ok (.aload_n 0, 1) := by decide +kernel
theorem dX11_means_1 : decode cX11_means 1 = .ok (.getfield 19, 3) := by decide +kernel
theorem dX11_means_4 : decode cX11_means 4 = .ok (.aload_n 0, 1) := by decide +kernel
theorem dX11_means_5 : decode cX11_means 5 = .ok (.getfield 10, 3) := by decide +kernel
theorem dX11_means_8 : decode cX11_means 8 = .ok (.invokevirtual 96, 3) := by decide +kernel
theorem dX11_means_11 : decode cX11_means 11 = .ok (.istore_n 2, 1) := by decide +kernel
theorem dX11_means_12 : decode cX11_means 12 = .ok (.aload_n 0, 1) := by decide +kernel
theorem dX11_means_13 : decode cX11_means 13 = .ok (.getfield 10, 3) := by decide +kernel
theorem dX11_means_16 : decode cX11_means 16 = .ok (.invokevirtual 100, 3) := by decide +kernel
theorem dX11_means_19 : decode cX11_means 19 = .ok (.iload_n 1, 1) := by decide +kernel
theorem dX11_means_20 : decode cX11_means 20 = .ok (.invokestatic 145, 3) := by decide +kernel
theorem dX11_means_23 : decode cX11_means 23 = .ok (.ifCond .ne 5, 3) := by decide +kernel
theorem dX11_means_26 : decode cX11_means 26 = .ok (.iconst (-1), 1) := by decide +kernel
theorem dX11_means_27 : decode cX11_means 27 = .ok (.ireturn, 1) := by decide +kernel
theorem dX11_means_28 : decode cX11_means 28 = .ok (.iload_n 2, 1) := by decide +kernel
theorem dX11_means_29 : decode cX11_means 29 = .ok (.iconst (-1), 1) := by decide +kernel
theorem dX11_means_30 : decode cX11_means 30 = .ok (.if_icmp .eq 7, 3) := by decide +kernel
theorem dX11_means_33 : decode cX11_means 33 = .ok (.iconst (-1), 1) := by decide +kernel
theorem dX11_means_34 : decode cX11_means 34 = .ok (.iload_n 2, 1) := by decide +kernel
theorem dX11_means_35 : decode cX11_means 35 = .ok (.isub, 1) := by decide +kernel
theorem dX11_means_36 : decode cX11_means 36 = .ok (.ireturn, 1) := by decide +kernel
theorem dX11_means_37 : decode cX11_means 37 = .ok (.aload_n 0, 1) := by decide +kernel
theorem dX11_means_38 : decode cX11_means 38 = .ok (.getfield 26, 3) := by decide +kernel
theorem dX11_means_41 : decode cX11_means 41 = .ok (.invokevirtual 109, 3) := by decide +kernel
theorem dX11_means_44 : decode cX11_means 44 = .ok (.aload_n 0, 1) := by decide +kernel
theorem dX11_means_45 : decode cX11_means 45 = .ok (.getfield 26, 3) := by decide +kernel
theorem dX11_means_48 : decode cX11_means 48 = .ok (.aload_n 0, 1) := by decide +kernel
theorem dX11_means_49 : decode cX11_means 49 = .ok (.getfield 19, 3) := by decide +kernel
theorem dX11_means_52 : decode cX11_means 52 = .ok (.iload_n 1, 1) := by decide +kernel
theorem dX11_means_53 : decode cX11_means 53 = .ok (.iconst 3, 1) := by decide +kernel
theorem dX11_means_54 : decode cX11_means 54 = .ok (.invokevirtual 116, 3) := by decide +kernel
theorem dX11_means_57 : decode cX11_means 57 = .ok (.aload_n 0, 1) := by decide +kernel
theorem dX11_means_58 : decode cX11_means 58 = .ok (.getfield 26, 3) := by decide +kernel
theorem dX11_means_61 : decode cX11_means 61 = .ok (.invokevirtual 128, 3) := by decide +kernel
theorem dX11_means_64 : decode cX11_means 64 = .ok (.istore_n 3, 1) := by decide +kernel
theorem dX11_means_65 : decode cX11_means 65 = .ok (.iload_n 3, 1) := by decide +kernel
theorem dX11_means_66 : decode cX11_means 66 = .ok (.ifCond .le 7, 3) := by decide +kernel
theorem dX11_means_69 : decode cX11_means 69 = .ok (.aload_n 0, 1) := by decide +kernel
theorem dX11_means_70 : decode cX11_means 70 = .ok (.invokevirtual 148, 3) := by decide +kernel
theorem dX11_means_73 : decode cX11_means 73 = .ok (.iload_n 3, 1) := by decide +kernel
theorem dX11_means_74 : decode cX11_means 74 = .ok (.ireturn, 1) := by decide +kernel
theorem dX11_day_0 : decode cX11_day 0 = .ok (.iload_n 1, 1) := by decide +kernel
theorem dX11_day_1 : decode cX11_day 1 = .ok (.iload_n 2, 1) := by decide +kernel
theorem dX11_day_2 : decode cX11_day 2 = .ok (.iload_n 3, 1) := by decide +kernel
theorem dX11_day_3 : decode cX11_day 3 = .ok (.invokestatic 151, 3) := by decide +kernel
theorem dX11_day_6 : decode cX11_day 6 = .ok (.ireturn, 1) := by decide +kernel
theorem dX11_date_0 : decode cX11_date 0 = .ok (.iload_n 1, 1) := by decide +kernel
theorem dX11_date_1 : decode cX11_date 1 = .ok (.invokestatic 145, 3) := by decide +kernel
theorem dX11_date_4 : decode cX11_date 4 = .ok (.ifCond .ne 5, 3) := by decide +kernel
theorem dX11_date_7 : decode cX11_date 7 = .ok (.iconst (-1), 1) := by decide +kernel
theorem dX11_date_8 : decode cX11_date 8 = .ok (.ireturn, 1) := by decide +kernel
theorem dX11_date_9 : decode cX11_date 9 = .ok (.iload_n 1, 1) := by decide +kernel
theorem dX11_date_10 : decode cX11_date 10 = .ok (.invokestatic 156, 3) := by decide +kernel
theorem dX11_date_13 : decode cX11_date 13 = .ok (.istore_n 2, 1) := by decide +kernel
theorem dX11_date_14 : decode cX11_date 14 = .ok (.aload_n 0, 1) := by decide +kernel
theorem dX11_date_15 : decode cX11_date 15 = .ok (.getfield 33, 3) := by decide +kernel
theorem dX11_date_18 : decode cX11_date 18 = .ok (.invokevirtual 159, 3) := by decide +kernel
theorem dX11_date_21 : decode cX11_date 21 = .ok (.aload_n 0, 1) := by decide +kernel
theorem dX11_date_22 : decode cX11_date 22 = .ok (.getfield 33, 3) := by decide +kernel
theorem dX11_date_25 : decode cX11_date 25 = .ok (.iload_n 2, 1) := by decide +kernel
theorem dX11_date_26 : decode cX11_date 26 = .ok (.bipush 12, 2) := by decide +kernel
theorem dX11_date_28 : decode cX11_date 28 = .ok (.irem, 1) := by decide +kernel
theorem dX11_date_29 : decode cX11_date 29 = .ok (.iconst 1, 1) := by decide +kernel
theorem dX11_date_30 : decode cX11_date 30 = .ok (.iadd, 1) := by decide +kernel
theorem dX11_date_31 : decode cX11_date 31 = .ok (.invokevirtual 160, 3) := by decide +kernel
theorem dX11_date_34 : decode cX11_date 34 = .ok (.aload_n 0, 1) := by decide +kernel
theorem dX11_date_35 : decode cX11_date 35 = .ok (.getfield 33, 3) := by decide +kernel
theorem dX11_date_38 : decode cX11_date 38 = .ok (.iload_n 1, 1) := by decide +kernel
theorem dX11_date_39 : decode cX11_date 39 = .ok (.iload_n 2, 1) := by decide +kernel
theorem dX11_date_40 : decode cX11_date 40 = .ok (.invokestatic 164, 3) := by decide +kernel
theorem dX11_date_43 : decode cX11_date 43 = .ok (.isub, 1) := by decide +kernel
theorem dX11_date_44 : decode cX11_date 44 = .ok (.iconst 1, 1) := by decide +kernel
theorem dX11_date_45 : decode cX11_date 45 = .ok (.iadd, 1) := by decide +kernel
theorem dX11_date_46 : decode cX11_date 46 = .ok (.invokevirtual 160, 3) := by decide +kernel
theorem dX11_date_49 : decode cX11_date 49 = .ok (.aload_n 0, 1) := by decide +kernel
theorem dX11_date_50 : decode cX11_date 50 = .ok (.getfield 33, 3) := by decide +kernel
theorem dX11_date_53 : decode cX11_date 53 = .ok (.iload_n 1, 1) := by decide +kernel
theorem dX11_date_54 : decode cX11_date 54 = .ok (.invokestatic 167, 3) := by decide +kernel
theorem dX11_date_57 : decode cX11_date 57 = .ok (.invokevirtual 160, 3) := by decide +kernel
theorem dX11_date_60 : decode cX11_date 60 = .ok (.sipush 2000, 3) := by decide +kernel
theorem dX11_date_63 : decode cX11_date 63 = .ok (.iload_n 2, 1) := by decide +kernel
theorem dX11_date_64 : decode cX11_date 64 = .ok (.bipush 12, 2) := by decide +kernel
theorem dX11_date_66 : decode cX11_date 66 = .ok (.idiv, 1) := by decide +kernel
theorem dX11_date_67 : decode cX11_date 67 = .ok (.iadd, 1) := by decide +kernel
theorem dX11_date_68 : decode cX11_date 68 = .ok (.ireturn, 1) := by decide +kernel
theorem dX11_moved_0 : decode cX11_moved 0 = .ok (.iload_n 1, 1) := by decide +kernel
theorem dX11_moved_1 : decode cX11_moved 1 = .ok (.invokestatic 145, 3) := by decide +kernel
theorem dX11_moved_4 : decode cX11_moved 4 = .ok (.ifCond .eq 26, 3) := by decide +kernel
theorem dX11_moved_7 : decode cX11_moved 7 = .ok (.iload_n 2, 1) := by decide +kernel
theorem dX11_moved_8 : decode cX11_moved 8 = .ok (.ifCond .lt 22, 3) := by decide +kernel
theorem dX11_moved_11 : decode cX11_moved 11 = .ok (.iload_n 2, 1) := by decide +kernel
theorem dX11_moved_12 : decode cX11_moved 12 = .ok (.iconst 3, 1) := by decide +kernel
theorem dX11_moved_13 : decode cX11_moved 13 = .ok (.if_icmp .gt 17, 3) := by decide +kernel
theorem dX11_moved_16 : decode cX11_moved 16 = .ok (.iload_n 3, 1) := by decide +kernel
theorem dX11_moved_17 : decode cX11_moved 17 = .ok (.sipush (-9999), 3) := by decide +kernel
theorem dX11_moved_20 : decode cX11_moved 20 = .ok (.if_icmp .lt 10, 3) := by decide +kernel
theorem dX11_moved_23 : decode cX11_moved 23 = .ok (.iload_n 3, 1) := by decide +kernel
theorem dX11_moved_24 : decode cX11_moved 24 = .ok (.sipush 9999, 3) := by decide +kernel
theorem dX11_moved_27 : decode cX11_moved 27 = .ok (.if_icmp .le 5, 3) := by decide +kernel
theorem dX11_moved_30 : decode cX11_moved 30 = .ok (.iconst (-1), 1) := by decide +kernel
theorem dX11_moved_31 : decode cX11_moved 31 = .ok (.ireturn, 1) := by decide +kernel
theorem dX11_moved_32 : decode cX11_moved 32 = .ok (.iload_n 1, 1) := by decide +kernel
theorem dX11_moved_33 : decode cX11_moved 33 = .ok (.iload_n 2, 1) := by decide +kernel
theorem dX11_moved_34 : decode cX11_moved 34 = .ok (.iload_n 3, 1) := by decide +kernel
theorem dX11_moved_35 : decode cX11_moved 35 = .ok (.invokestatic 170, 3) := by decide +kernel
theorem dX11_moved_38 : decode cX11_moved 38 = .ok (.istore 4, 2) := by decide +kernel
theorem dX11_moved_40 : decode cX11_moved 40 = .ok (.iload 4, 2) := by decide +kernel
theorem dX11_moved_42 : decode cX11_moved 42 = .ok (.iconst (-1), 1) := by decide +kernel
theorem dX11_moved_43 : decode cX11_moved 43 = .ok (.if_icmp .ne 8, 3) := by decide +kernel
theorem dX11_moved_46 : decode cX11_moved 46 = .ok (.bipush (-2), 2) := by decide +kernel
theorem dX11_moved_48 : decode cX11_moved 48 = .ok (.goto 5, 3) := by decide +kernel
theorem dX11_moved_51 : decode cX11_moved 51 = .ok (.iload 4, 2) := by decide +kernel
theorem dX11_moved_53 : decode cX11_moved 53 = .ok (.ireturn, 1) := by decide +kernel
theorem dX11_readings_0 : decode cX11_readings 0 = .ok (.iload_n 1, 1) := by decide +kernel
theorem dX11_readings_1 : decode cX11_readings 1 = .ok (.invokestatic 103, 3) := by decide +kernel
theorem dX11_readings_4 : decode cX11_readings 4 = .ok (.ifCond .ne 5, 3) := by decide +kernel
theorem dX11_readings_7 : decode cX11_readings 7 = .ok (.iconst (-1), 1) := by decide +kernel
theorem dX11_readings_8 : decode cX11_readings 8 = .ok (.ireturn, 1) := by decide +kernel
theorem dX11_readings_9 : decode cX11_readings 9 = .ok (.aload_n 0, 1) := by decide +kernel
theorem dX11_readings_10 : decode cX11_readings 10 = .ok (.getfield 40, 3) := by decide +kernel
theorem dX11_readings_13 : decode cX11_readings 13 = .ok (.iload_n 1, 1) := by decide +kernel
theorem dX11_readings_14 : decode cX11_readings 14 = .ok (.invokevirtual 106, 3) := by decide +kernel
theorem dX11_readings_17 : decode cX11_readings 17 = .ok (.ifCond .ne 6, 3) := by decide +kernel
theorem dX11_readings_20 : decode cX11_readings 20 = .ok (.bipush (-2), 2) := by decide +kernel
theorem dX11_readings_22 : decode cX11_readings 22 = .ok (.ireturn, 1) := by decide +kernel
theorem dX11_readings_23 : decode cX11_readings 23 = .ok (.aload_n 0, 1) := by decide +kernel
theorem dX11_readings_24 : decode cX11_readings 24 = .ok (.getfield 33, 3) := by decide +kernel
theorem dX11_readings_27 : decode cX11_readings 27 = .ok (.invokevirtual 159, 3) := by decide +kernel
theorem dX11_readings_30 : decode cX11_readings 30 = .ok (.aload_n 0, 1) := by decide +kernel
theorem dX11_readings_31 : decode cX11_readings 31 = .ok (.getfield 33, 3) := by decide +kernel
theorem dX11_readings_34 : decode cX11_readings 34 = .ok (.aload_n 0, 1) := by decide +kernel
theorem dX11_readings_35 : decode cX11_readings 35 = .ok (.getfield 40, 3) := by decide +kernel
theorem dX11_readings_38 : decode cX11_readings 38 = .ok (.iload_n 1, 1) := by decide +kernel
theorem dX11_readings_39 : decode cX11_readings 39 = .ok (.invokevirtual 173, 3) := by decide +kernel
theorem dX11_readings_42 : decode cX11_readings 42 = .ok (.invokevirtual 160, 3) := by decide +kernel
theorem dX11_readings_45 : decode cX11_readings 45 = .ok (.aload_n 0, 1) := by decide +kernel
theorem dX11_readings_46 : decode cX11_readings 46 = .ok (.getfield 33, 3) := by decide +kernel
theorem dX11_readings_49 : decode cX11_readings 49 = .ok (.aload_n 0, 1) := by decide +kernel
theorem dX11_readings_50 : decode cX11_readings 50 = .ok (.invokevirtual 176, 3) := by decide +kernel
theorem dX11_readings_53 : decode cX11_readings 53 = .ok (.iload_n 1, 1) := by decide +kernel
theorem dX11_readings_54 : decode cX11_readings 54 = .ok (.invokevirtual 180, 3) := by decide +kernel
theorem dX11_readings_57 : decode cX11_readings 57 = .ok (.invokevirtual 160, 3) := by decide +kernel
theorem dX11_readings_60 : decode cX11_readings 60 = .ok (.aload_n 0, 1) := by decide +kernel
theorem dX11_readings_61 : decode cX11_readings 61 = .ok (.getfield 40, 3) := by decide +kernel
theorem dX11_readings_64 : decode cX11_readings 64 = .ok (.iload_n 1, 1) := by decide +kernel
theorem dX11_readings_65 : decode cX11_readings 65 = .ok (.invokevirtual 183, 3) := by decide +kernel
theorem dX11_readings_68 : decode cX11_readings 68 = .ok (.ireturn, 1) := by decide +kernel
theorem dX11_reading_0 : decode cX11_reading 0 = .ok (.aload_n 0, 1) := by decide +kernel
theorem dX11_reading_1 : decode cX11_reading 1 = .ok (.getfield 40, 3) := by decide +kernel
theorem dX11_reading_4 : decode cX11_reading 4 = .ok (.iload_n 1, 1) := by decide +kernel
theorem dX11_reading_5 : decode cX11_reading 5 = .ok (.iload_n 2, 1) := by decide +kernel
theorem dX11_reading_6 : decode cX11_reading 6 = .ok (.invokevirtual 186, 3) := by decide +kernel
theorem dX11_reading_9 : decode cX11_reading 9 = .ok (.ifCond .eq 12, 3) := by decide +kernel
theorem dX11_reading_12 : decode cX11_reading 12 = .ok (.iload_n 3, 1) := by decide +kernel
theorem dX11_reading_13 : decode cX11_reading 13 = .ok (.ifCond .lt 8, 3) := by decide +kernel
theorem dX11_reading_16 : decode cX11_reading 16 = .ok (.iload_n 3, 1) := by decide +kernel
theorem dX11_reading_17 : decode cX11_reading 17 = .ok (.iconst 4, 1) := by decide +kernel
theorem dX11_reading_18 : decode cX11_reading 18 = .ok (.if_icmp .le 13, 3) := by decide +kernel
theorem dX11_reading_21 : decode cX11_reading 21 = .ok (.new 189, 3) := by decide +kernel
theorem dX11_reading_24 : decode cX11_reading 24 = .ok (.dup, 1) := by decide +kernel
theorem dX11_reading_25 : decode cX11_reading 25 = .ok (.ldc 191, 2) := by decide +kernel
theorem dX11_reading_27 : decode cX11_reading 27 = .ok (.invokespecial 193, 3) := by decide +kernel
theorem dX11_reading_30 : decode cX11_reading 30 = .ok (.athrow, 1) := by decide +kernel
theorem dX11_reading_31 : decode cX11_reading 31 = .ok (.iload_n 3, 1) := by decide +kernel
theorem dX11_reading_32 : decode cX11_reading 32 = .ok (.iconst 4, 1) := by decide +kernel
theorem dX11_reading_33 : decode cX11_reading 33 = .ok (.if_icmp .ne 21, 3) := by decide +kernel
theorem dX11_reading_36 : decode cX11_reading 36 = .ok (.aload_n 0, 1) := by decide +kernel
theorem dX11_reading_37 : decode cX11_reading 37 = .ok (.getfield 40, 3) := by decide +kernel
theorem dX11_reading_40 : decode cX11_reading 40 = .ok (.iload_n 1, 1) := by decide +kernel
theorem dX11_reading_41 : decode cX11_reading 41 = .ok (.iload_n 2, 1) := by decide +kernel
theorem dX11_reading_42 : decode cX11_reading 42 = .ok (.invokevirtual 120, 3) := by decide +kernel
theorem dX11_reading_45 : decode cX11_reading 45 = .ok (.ifCond .eq 7, 3) := by decide +kernel
theorem dX11_reading_48 : decode cX11_reading 48 = .ok (.iconst 1, 1) := by decide +kernel
theorem dX11_reading_49 : decode cX11_reading 49 = .ok (.goto 4, 3) := by decide +kernel
theorem dX11_reading_52 : decode cX11_reading 52 = .ok (.iconst 0, 1) := by decide +kernel
theorem dX11_reading_53 : decode cX11_reading 53 = .ok (.ireturn, 1) := by decide +kernel
theorem dX11_reading_54 : decode cX11_reading 54 = .ok (.aload_n 0, 1) := by decide +kernel
theorem dX11_reading_55 : decode cX11_reading 55 = .ok (.getfield 40, 3) := by decide +kernel
theorem dX11_reading_58 : decode cX11_reading 58 = .ok (.iload_n 1, 1) := by decide +kernel
theorem dX11_reading_59 : decode cX11_reading 59 = .ok (.iload_n 2, 1) := by decide +kernel
theorem dX11_reading_60 : decode cX11_reading 60 = .ok (.iload_n 3, 1) := by decide +kernel
theorem dX11_reading_61 : decode cX11_reading 61 = .ok (.invokevirtual 124, 3) := by decide +kernel
theorem dX11_reading_64 : decode cX11_reading 64 = .ok (.ireturn, 1) := by decide +kernel
theorem dX11_hull_0 : decode cX11_hull 0 = .ok (.iload_n 1, 1) := by decide +kernel
theorem dX11_hull_1 : decode cX11_hull 1 = .ok (.invokestatic 103, 3) := by decide +kernel
theorem dX11_hull_4 : decode cX11_hull 4 = .ok (.ifCond .ne 5, 3) := by decide +kernel
theorem dX11_hull_7 : decode cX11_hull 7 = .ok (.iconst (-1), 1) := by decide +kernel
theorem dX11_hull_8 : decode cX11_hull 8 = .ok (.ireturn, 1) := by decide +kernel
theorem dX11_hull_9 : decode cX11_hull 9 = .ok (.aload_n 0, 1) := by decide +kernel
theorem dX11_hull_10 : decode cX11_hull 10 = .ok (.invokevirtual 176, 3) := by decide +kernel
theorem dX11_hull_13 : decode cX11_hull 13 = .ok (.iload_n 1, 1) := by decide +kernel
theorem dX11_hull_14 : decode cX11_hull 14 = .ok (.invokevirtual 180, 3) := by decide +kernel
theorem dX11_hull_17 : decode cX11_hull 17 = .ok (.istore_n 2, 1) := by decide +kernel
theorem dX11_hull_18 : decode cX11_hull 18 = .ok (.iload_n 2, 1) := by decide +kernel
theorem dX11_hull_19 : decode cX11_hull 19 = .ok (.ifCond .ne 6, 3) := by decide +kernel
theorem dX11_hull_22 : decode cX11_hull 22 = .ok (.bipush (-2), 2) := by decide +kernel
theorem dX11_hull_24 : decode cX11_hull 24 = .ok (.ireturn, 1) := by decide +kernel
theorem dX11_hull_25 : decode cX11_hull 25 = .ok (.sipush 9999, 3) := by decide +kernel
theorem dX11_hull_28 : decode cX11_hull 28 = .ok (.istore_n 3, 1) := by decide +kernel
theorem dX11_hull_29 : decode cX11_hull 29 = .ok (.iconst 0, 1) := by decide +kernel
theorem dX11_hull_30 : decode cX11_hull 30 = .ok (.istore 4, 2) := by decide +kernel
theorem dX11_hull_32 : decode cX11_hull 32 = .ok (.iconst 0, 1) := by decide +kernel
theorem dX11_hull_33 : decode cX11_hull 33 = .ok (.istore 5, 2) := by decide +kernel
theorem dX11_hull_35 : decode cX11_hull 35 = .ok (.iload 5, 2) := by decide +kernel
theorem dX11_hull_37 : decode cX11_hull 37 = .ok (.bipush 6, 2) := by decide +kernel
theorem dX11_hull_39 : decode cX11_hull 39 = .ok (.if_icmp .ge 52, 3) := by decide +kernel
theorem dX11_hull_42 : decode cX11_hull 42 = .ok (.iload_n 2, 1) := by decide +kernel
theorem dX11_hull_43 : decode cX11_hull 43 = .ok (.iload 5, 2) := by decide +kernel
theorem dX11_hull_45 : decode cX11_hull 45 = .ok (.invokestatic 196, 3) := by decide +kernel
theorem dX11_hull_48 : decode cX11_hull 48 = .ok (.ifCond .eq 37, 3) := by decide +kernel
theorem dX11_hull_51 : decode cX11_hull 51 = .ok (.iload_n 3, 1) := by decide +kernel
theorem dX11_hull_52 : decode cX11_hull 52 = .ok (.aload_n 0, 1) := by decide +kernel
theorem dX11_hull_53 : decode cX11_hull 53 = .ok (.getfield 40, 3) := by decide +kernel
theorem dX11_hull_56 : decode cX11_hull 56 = .ok (.iload_n 1, 1) := by decide +kernel
theorem dX11_hull_57 : decode cX11_hull 57 = .ok (.iload 5, 2) := by decide +kernel
theorem dX11_hull_59 : decode cX11_hull 59 = .ok (.iconst 0, 1) := by decide +kernel
theorem dX11_hull_60 : decode cX11_hull 60 = .ok (.invokevirtual 124, 3) := by decide +kernel
theorem dX11_hull_63 : decode cX11_hull 63 = .ok (.invokestatic 199, 3) := by decide +kernel
theorem dX11_hull_66 : decode cX11_hull 66 = .ok (.istore_n 3, 1) := by decide +kernel
theorem dX11_hull_67 : decode cX11_hull 67 = .ok (.iload 4, 2) := by decide +kernel
theorem dX11_hull_69 : decode cX11_hull 69 = .ok (.aload_n 0, 1) := by decide +kernel
theorem dX11_hull_70 : decode cX11_hull 70 = .ok (.getfield 40, 3) := by decide +kernel
theorem dX11_hull_73 : decode cX11_hull 73 = .ok (.iload_n 1, 1) := by decide +kernel
theorem dX11_hull_74 : decode cX11_hull 74 = .ok (.iload 5, 2) := by decide +kernel
theorem dX11_hull_76 : decode cX11_hull 76 = .ok (.iconst 1, 1) := by decide +kernel
theorem dX11_hull_77 : decode cX11_hull 77 = .ok (.invokevirtual 124, 3) := by decide +kernel
theorem dX11_hull_80 : decode cX11_hull 80 = .ok (.invokestatic 205, 3) := by decide +kernel
theorem dX11_hull_83 : decode cX11_hull 83 = .ok (.istore 4, 2) := by decide +kernel
theorem dX11_hull_85 : decode cX11_hull 85 = .ok (.iinc 5 1, 3) := by decide +kernel
theorem dX11_hull_88 : decode cX11_hull 88 = .ok (.goto (-53), 3) := by decide +kernel
theorem dX11_hull_91 : decode cX11_hull 91 = .ok (.aload_n 0, 1) := by decide +kernel
theorem dX11_hull_92 : decode cX11_hull 92 = .ok (.getfield 33, 3) := by decide +kernel
theorem dX11_hull_95 : decode cX11_hull 95 = .ok (.invokevirtual 159, 3) := by decide +kernel
theorem dX11_hull_98 : decode cX11_hull 98 = .ok (.aload_n 0, 1) := by decide +kernel
theorem dX11_hull_99 : decode cX11_hull 99 = .ok (.getfield 33, 3) := by decide +kernel
theorem dX11_hull_102 : decode cX11_hull 102 = .ok (.iload_n 3, 1) := by decide +kernel
theorem dX11_hull_103 : decode cX11_hull 103 = .ok (.invokevirtual 160, 3) := by decide +kernel
theorem dX11_hull_106 : decode cX11_hull 106 = .ok (.aload_n 0, 1) := by decide +kernel
theorem dX11_hull_107 : decode cX11_hull 107 = .ok (.getfield 33, 3) := by decide +kernel
theorem dX11_hull_110 : decode cX11_hull 110 = .ok (.iload 4, 2) := by decide +kernel
theorem dX11_hull_112 : decode cX11_hull 112 = .ok (.invokevirtual 160, 3) := by decide +kernel
theorem dX11_hull_115 : decode cX11_hull 115 = .ok (.iload 4, 2) := by decide +kernel
theorem dX11_hull_117 : decode cX11_hull 117 = .ok (.iload_n 3, 1) := by decide +kernel
theorem dX11_hull_118 : decode cX11_hull 118 = .ok (.isub, 1) := by decide +kernel
theorem dX11_hull_119 : decode cX11_hull 119 = .ok (.iconst 1, 1) := by decide +kernel
theorem dX11_hull_120 : decode cX11_hull 120 = .ok (.iadd, 1) := by decide +kernel
theorem dX11_hull_121 : decode cX11_hull 121 = .ok (.ireturn, 1) := by decide +kernel
theorem dX11_order_0 : decode cX11_order 0 = .ok (.aload_n 0, 1) := by decide +kernel
theorem dX11_order_1 : decode cX11_order 1 = .ok (.invokevirtual 131, 3) := by decide +kernel
theorem dX11_order_4 : decode cX11_order 4 = .ok (.aload_n 0, 1) := by decide +kernel
theorem dX11_order_5 : decode cX11_order 5 = .ok (.aload_n 0, 1) := by decide +kernel
theorem dX11_order_6 : decode cX11_order 6 = .ok (.getfield 40, 3) := by decide +kernel
theorem dX11_order_9 : decode cX11_order 9 = .ok (.iload_n 1, 1) := by decide +kernel
theorem dX11_order_10 : decode cX11_order 10 = .ok (.iload_n 2, 1) := by decide +kernel
theorem dX11_order_11 : decode cX11_order 11 = .ok (.iload_n 3, 1) := by decide +kernel
theorem dX11_order_12 : decode cX11_order 12 = .ok (.bipush 10, 2) := by decide +kernel
theorem dX11_order_14 : decode cX11_order 14 = .ok (.invokevirtual 208, 3) := by decide +kernel
theorem dX11_order_17 : decode cX11_order 17 = .ok (.invokevirtual 142, 3) := by decide +kernel
theorem dX11_order_20 : decode cX11_order 20 = .ok (.ireturn, 1) := by decide +kernel
theorem dX11_told_0 : decode cX11_told 0 = .ok (.aload_n 0, 1) := by decide +kernel
theorem dX11_told_1 : decode cX11_told 1 = .ok (.getfield 40, 3) := by decide +kernel
theorem dX11_told_4 : decode cX11_told 4 = .ok (.iload_n 1, 1) := by decide +kernel
theorem dX11_told_5 : decode cX11_told 5 = .ok (.invokevirtual 212, 3) := by decide +kernel
theorem dX11_told_8 : decode cX11_told 8 = .ok (.ifCond .ne 5, 3) := by decide +kernel
theorem dX11_told_11 : decode cX11_told 11 = .ok (.iconst (-1), 1) := by decide +kernel
theorem dX11_told_12 : decode cX11_told 12 = .ok (.ireturn, 1) := by decide +kernel
theorem dX11_told_13 : decode cX11_told 13 = .ok (.aload_n 0, 1) := by decide +kernel
theorem dX11_told_14 : decode cX11_told 14 = .ok (.getfield 33, 3) := by decide +kernel
theorem dX11_told_17 : decode cX11_told 17 = .ok (.invokevirtual 159, 3) := by decide +kernel
theorem dX11_told_20 : decode cX11_told 20 = .ok (.aload_n 0, 1) := by decide +kernel
theorem dX11_told_21 : decode cX11_told 21 = .ok (.getfield 33, 3) := by decide +kernel
theorem dX11_told_24 : decode cX11_told 24 = .ok (.aload_n 0, 1) := by decide +kernel
theorem dX11_told_25 : decode cX11_told 25 = .ok (.invokevirtual 176, 3) := by decide +kernel
theorem dX11_told_28 : decode cX11_told 28 = .ok (.getfield 215, 3) := by decide +kernel
theorem dX11_told_31 : decode cX11_told 31 = .ok (.ifCond .le 7, 3) := by decide +kernel
theorem dX11_told_34 : decode cX11_told 34 = .ok (.iconst 1, 1) := by decide +kernel
theorem dX11_told_35 : decode cX11_told 35 = .ok (.goto 4, 3) := by decide +kernel
theorem dX11_told_38 : decode cX11_told 38 = .ok (.iconst 2, 1) := by decide +kernel
theorem dX11_told_39 : decode cX11_told 39 = .ok (.invokevirtual 160, 3) := by decide +kernel
theorem dX11_told_42 : decode cX11_told 42 = .ok (.aload_n 0, 1) := by decide +kernel
theorem dX11_told_43 : decode cX11_told 43 = .ok (.getfield 33, 3) := by decide +kernel
theorem dX11_told_46 : decode cX11_told 46 = .ok (.aload_n 0, 1) := by decide +kernel
theorem dX11_told_47 : decode cX11_told 47 = .ok (.getfield 40, 3) := by decide +kernel
theorem dX11_told_50 : decode cX11_told 50 = .ok (.iload_n 1, 1) := by decide +kernel
theorem dX11_told_51 : decode cX11_told 51 = .ok (.invokevirtual 218, 3) := by decide +kernel
theorem dX11_told_54 : decode cX11_told 54 = .ok (.invokevirtual 160, 3) := by decide +kernel
theorem dX11_told_57 : decode cX11_told 57 = .ok (.aload_n 0, 1) := by decide +kernel
theorem dX11_told_58 : decode cX11_told 58 = .ok (.getfield 40, 3) := by decide +kernel
theorem dX11_told_61 : decode cX11_told 61 = .ok (.iload_n 1, 1) := by decide +kernel
theorem dX11_told_62 : decode cX11_told 62 = .ok (.invokevirtual 221, 3) := by decide +kernel
theorem dX11_told_65 : decode cX11_told 65 = .ok (.ireturn, 1) := by decide +kernel
theorem dX11_choices_0 : decode cX11_choices 0 = .ok (.aload_n 0, 1) := by decide +kernel
theorem dX11_choices_1 : decode cX11_choices 1 = .ok (.getfield 33, 3) := by decide +kernel
theorem dX11_choices_4 : decode cX11_choices 4 = .ok (.invokevirtual 159, 3) := by decide +kernel
theorem dX11_choices_7 : decode cX11_choices 7 = .ok (.aload_n 0, 1) := by decide +kernel
theorem dX11_choices_8 : decode cX11_choices 8 = .ok (.getfield 33, 3) := by decide +kernel
theorem dX11_choices_11 : decode cX11_choices 11 = .ok (.aload_n 0, 1) := by decide +kernel
theorem dX11_choices_12 : decode cX11_choices 12 = .ok (.getfield 40, 3) := by decide +kernel
theorem dX11_choices_15 : decode cX11_choices 15 = .ok (.invokevirtual 224, 3) := by decide +kernel
theorem dX11_choices_18 : decode cX11_choices 18 = .ok (.invokevirtual 160, 3) := by decide +kernel
theorem dX11_choices_21 : decode cX11_choices 21 = .ok (.aload_n 0, 1) := by decide +kernel
theorem dX11_choices_22 : decode cX11_choices 22 = .ok (.invokevirtual 176, 3) := by decide +kernel
theorem dX11_choices_25 : decode cX11_choices 25 = .ok (.getfield 215, 3) := by decide +kernel
theorem dX11_choices_28 : decode cX11_choices 28 = .ok (.ireturn, 1) := by decide +kernel
theorem dX11_best_0 : decode cX11_best 0 = .ok (.aload_n 0, 1) := by decide +kernel
theorem dX11_best_1 : decode cX11_best 1 = .ok (.invokevirtual 176, 3) := by decide +kernel
theorem dX11_best_4 : decode cX11_best 4 = .ok (.astore_n 1, 1) := by decide +kernel
theorem dX11_best_5 : decode cX11_best 5 = .ok (.aload_n 1, 1) := by decide +kernel
theorem dX11_best_6 : decode cX11_best 6 = .ok (.getfield 215, 3) := by decide +kernel
theorem dX11_best_9 : decode cX11_best 9 = .ok (.ifCond .ne 6, 3) := by decide +kernel
theorem dX11_best_12 : decode cX11_best 12 = .ok (.bipush (-2), 2) := by decide +kernel
theorem dX11_best_14 : decode cX11_best 14 = .ok (.ireturn, 1) := by decide +kernel
theorem dX11_best_15 : decode cX11_best 15 = .ok (.aload_n 0, 1) := by decide +kernel
theorem dX11_best_16 : decode cX11_best 16 = .ok (.aload_n 1, 1) := by decide +kernel
theorem dX11_best_17 : decode cX11_best 17 = .ok (.invokevirtual 227, 3) := by decide +kernel
theorem dX11_best_20 : decode cX11_best 20 = .ok (.aload_n 1, 1) := by decide +kernel
theorem dX11_best_21 : decode cX11_best 21 = .ok (.getfield 231, 3) := by decide +kernel
theorem dX11_best_24 : decode cX11_best 24 = .ok (.ireturn, 1) := by decide +kernel
theorem dX11_other_0 : decode cX11_other 0 = .ok (.aload_n 0, 1) := by decide +kernel
theorem dX11_other_1 : decode cX11_other 1 = .ok (.invokevirtual 176, 3) := by decide +kernel
theorem dX11_other_4 : decode cX11_other 4 = .ok (.astore_n 1, 1) := by decide +kernel
theorem dX11_other_5 : decode cX11_other 5 = .ok (.aload_n 0, 1) := by decide +kernel
theorem dX11_other_6 : decode cX11_other 6 = .ok (.getfield 44, 3) := by decide +kernel
theorem dX11_other_9 : decode cX11_other 9 = .ok (.aload_n 0, 1) := by decide +kernel
theorem dX11_other_10 : decode cX11_other 10 = .ok (.getfield 40, 3) := by decide +kernel
theorem dX11_other_13 : decode cX11_other 13 = .ok (.getfield 234, 3) := by decide +kernel
theorem dX11_other_16 : decode cX11_other 16 = .ok (.invokevirtual 237, 3) := by decide +kernel
theorem dX11_other_19 : decode cX11_other 19 = .ok (.iconst 0, 1) := by decide +kernel
theorem dX11_other_20 : decode cX11_other 20 = .ok (.istore_n 2, 1) := by decide +kernel
theorem dX11_other_21 : decode cX11_other 21 = .ok (.iconst 0, 1) := by decide +kernel
theorem dX11_other_22 : decode cX11_other 22 = .ok (.istore_n 3, 1) := by decide +kernel
theorem dX11_other_23 : decode cX11_other 23 = .ok (.iload_n 3, 1) := by decide +kernel
theorem dX11_other_24 : decode cX11_other 24 = .ok (.bipush 6, 2) := by decide +kernel
theorem dX11_other_26 : decode cX11_other 26 = .ok (.if_icmp .ge 34, 3) := by decide +kernel
theorem dX11_other_29 : decode cX11_other 29 = .ok (.aload_n 1, 1) := by decide +kernel
theorem dX11_other_30 : decode cX11_other 30 = .ok (.iload_n 3, 1) := by decide +kernel
theorem dX11_other_31 : decode cX11_other 31 = .ok (.invokevirtual 241, 3) := by decide +kernel
theorem dX11_other_34 : decode cX11_other 34 = .ok (.ifCond .eq 20, 3) := by decide +kernel
theorem dX11_other_37 : decode cX11_other 37 = .ok (.aload_n 0, 1) := by decide +kernel
theorem dX11_other_38 : decode cX11_other 38 = .ok (.getfield 44, 3) := by decide +kernel
theorem dX11_other_41 : decode cX11_other 41 = .ok (.iload_n 3, 1) := by decide +kernel
theorem dX11_other_42 : decode cX11_other 42 = .ok (.aload_n 1, 1) := by decide +kernel
theorem dX11_other_43 : decode cX11_other 43 = .ok (.iload_n 3, 1) := by decide +kernel
theorem dX11_other_44 : decode cX11_other 44 = .ok (.invokevirtual 244, 3) := by decide +kernel
theorem dX11_other_47 : decode cX11_other 47 = .ok (.iconst 1, 1) := by decide +kernel
theorem dX11_other_48 : decode cX11_other 48 = .ok (.invokevirtual 247, 3) := by decide +kernel
theorem dX11_other_51 : decode cX11_other 51 = .ok (.pop, 1) := by decide +kernel
theorem dX11_other_52 : decode cX11_other 52 = .ok (.iconst 1, 1) := by decide +kernel
theorem dX11_other_53 : decode cX11_other 53 = .ok (.istore_n 2, 1) := by decide +kernel
theorem dX11_other_54 : decode cX11_other 54 = .ok (.iinc 3 1, 3) := by decide +kernel
theorem dX11_other_57 : decode cX11_other 57 = .ok (.goto (-34), 3) := by decide +kernel
theorem dX11_other_60 : decode cX11_other 60 = .ok (.iload_n 2, 1) := by decide +kernel
theorem dX11_other_61 : decode cX11_other 61 = .ok (.ifCond .ne 6, 3) := by decide +kernel
theorem dX11_other_64 : decode cX11_other 64 = .ok (.bipush (-2), 2) := by decide +kernel
theorem dX11_other_66 : decode cX11_other 66 = .ok (.ireturn, 1) := by decide +kernel
theorem dX11_other_67 : decode cX11_other 67 = .ok (.aload_n 0, 1) := by decide +kernel
theorem dX11_other_68 : decode cX11_other 68 = .ok (.getfield 74, 3) := by decide +kernel
theorem dX11_other_71 : decode cX11_other 71 = .ok (.aload_n 0, 1) := by decide +kernel
theorem dX11_other_72 : decode cX11_other 72 = .ok (.getfield 44, 3) := by decide +kernel
theorem dX11_other_75 : decode cX11_other 75 = .ok (.invokevirtual 251, 3) := by decide +kernel
theorem dX11_other_78 : decode cX11_other 78 = .ok (.aload_n 0, 1) := by decide +kernel
theorem dX11_other_79 : decode cX11_other 79 = .ok (.getfield 74, 3) := by decide +kernel
theorem dX11_other_82 : decode cX11_other 82 = .ok (.getfield 215, 3) := by decide +kernel
theorem dX11_other_85 : decode cX11_other 85 = .ok (.ifCond .ne 6, 3) := by decide +kernel
theorem dX11_other_88 : decode cX11_other 88 = .ok (.bipush (-2), 2) := by decide +kernel
theorem dX11_other_90 : decode cX11_other 90 = .ok (.ireturn, 1) := by decide +kernel
theorem dX11_other_91 : decode cX11_other 91 = .ok (.aload_n 0, 1) := by decide +kernel
theorem dX11_other_92 : decode cX11_other 92 = .ok (.aload_n 0, 1) := by decide +kernel
theorem dX11_other_93 : decode cX11_other 93 = .ok (.getfield 74, 3) := by decide +kernel
theorem dX11_other_96 : decode cX11_other 96 = .ok (.invokevirtual 227, 3) := by decide +kernel
theorem dX11_other_99 : decode cX11_other 99 = .ok (.aload_n 0, 1) := by decide +kernel
theorem dX11_other_100 : decode cX11_other 100 = .ok (.getfield 74, 3) := by decide +kernel
theorem dX11_other_103 : decode cX11_other 103 = .ok (.getfield 231, 3) := by decide +kernel
theorem dX11_other_106 : decode cX11_other 106 = .ok (.ireturn, 1) := by decide +kernel
theorem dX11_conflict_0 : decode cX11_conflict 0 = .ok (.aload_n 0, 1) := by decide +kernel
theorem dX11_conflict_1 : decode cX11_conflict 1 = .ok (.getfield 40, 3) := by decide +kernel
theorem dX11_conflict_4 : decode cX11_conflict 4 = .ok (.invokevirtual 224, 3) := by decide +kernel
theorem dX11_conflict_7 : decode cX11_conflict 7 = .ok (.ifCond .ne 6, 3) := by decide +kernel
theorem dX11_conflict_10 : decode cX11_conflict 10 = .ok (.bipush (-3), 2) := by decide +kernel
theorem dX11_conflict_12 : decode cX11_conflict 12 = .ok (.ireturn, 1) := by decide +kernel
theorem dX11_conflict_13 : decode cX11_conflict 13 = .ok (.aload_n 0, 1) := by decide +kernel
theorem dX11_conflict_14 : decode cX11_conflict 14 = .ok (.invokevirtual 176, 3) := by decide +kernel
theorem dX11_conflict_17 : decode cX11_conflict 17 = .ok (.getfield 215, 3) := by decide +kernel
theorem dX11_conflict_20 : decode cX11_conflict 20 = .ok (.ifCond .le 6, 3) := by decide +kernel
theorem dX11_conflict_23 : decode cX11_conflict 23 = .ok (.bipush (-2), 2) := by decide +kernel
theorem dX11_conflict_25 : decode cX11_conflict 25 = .ok (.ireturn, 1) := by decide +kernel
theorem dX11_conflict_26 : decode cX11_conflict 26 = .ok (.aload_n 0, 1) := by decide +kernel
theorem dX11_conflict_27 : decode cX11_conflict 27 = .ok (.getfield 80, 3) := by decide +kernel
theorem dX11_conflict_30 : decode cX11_conflict 30 = .ok (.aload_n 0, 1) := by decide +kernel
theorem dX11_conflict_31 : decode cX11_conflict 31 = .ok (.getfield 40, 3) := by decide +kernel
theorem dX11_conflict_34 : decode cX11_conflict 34 = .ok (.invokevirtual 255, 3) := by decide +kernel
theorem dX11_conflict_37 : decode cX11_conflict 37 = .ok (.aload_n 0, 1) := by decide +kernel
theorem dX11_conflict_38 : decode cX11_conflict 38 = .ok (.getfield 33, 3) := by decide +kernel
theorem dX11_conflict_41 : decode cX11_conflict 41 = .ok (.invokevirtual 159, 3) := by decide +kernel
theorem dX11_conflict_44 : decode cX11_conflict 44 = .ok (.aload_n 0, 1) := by decide +kernel
theorem dX11_conflict_45 : decode cX11_conflict 45 = .ok (.getfield 33, 3) := by decide +kernel
theorem dX11_conflict_48 : decode cX11_conflict 48 = .ok (.aload_n 0, 1) := by decide +kernel
theorem dX11_conflict_49 : decode cX11_conflict 49 = .ok (.getfield 80, 3) := by decide +kernel
theorem dX11_conflict_52 : decode cX11_conflict 52 = .ok (.getfield 258, 3) := by decide +kernel
theorem dX11_conflict_55 : decode cX11_conflict 55 = .ok (.invokevirtual 160, 3) := by decide +kernel
theorem dX11_conflict_58 : decode cX11_conflict 58 = .ok (.aload_n 0, 1) := by decide +kernel
theorem dX11_conflict_59 : decode cX11_conflict 59 = .ok (.getfield 80, 3) := by decide +kernel
theorem dX11_conflict_62 : decode cX11_conflict 62 = .ok (.getfield 261, 3) := by decide +kernel
theorem dX11_conflict_65 : decode cX11_conflict 65 = .ok (.ireturn, 1) := by decide +kernel
theorem dX11_without_0 : decode cX11_without 0 = .ok (.aload_n 0, 1) := by decide +kernel
theorem dX11_without_1 : decode cX11_without 1 = .ok (.getfield 40, 3) := by decide +kernel
theorem dX11_without_4 : decode cX11_without 4 = .ok (.iload_n 1, 1) := by decide +kernel
theorem dX11_without_5 : decode cX11_without 5 = .ok (.invokevirtual 212, 3) := by decide +kernel
theorem dX11_without_8 : decode cX11_without 8 = .ok (.ifCond .ne 5, 3) := by decide +kernel
theorem dX11_without_11 : decode cX11_without 11 = .ok (.iconst (-1), 1) := by decide +kernel
theorem dX11_without_12 : decode cX11_without 12 = .ok (.ireturn, 1) := by decide +kernel
theorem dX11_without_13 : decode cX11_without 13 = .ok (.aload_n 0, 1) := by decide +kernel
theorem dX11_without_14 : decode cX11_without 14 = .ok (.getfield 44, 3) := by decide +kernel
theorem dX11_without_17 : decode cX11_without 17 = .ok (.aload_n 0, 1) := by decide +kernel
theorem dX11_without_18 : decode cX11_without 18 = .ok (.getfield 40, 3) := by decide +kernel
theorem dX11_without_21 : decode cX11_without 21 = .ok (.getfield 234, 3) := by decide +kernel
theorem dX11_without_24 : decode cX11_without 24 = .ok (.invokevirtual 237, 3) := by decide +kernel
theorem dX11_without_27 : decode cX11_without 27 = .ok (.aload_n 0, 1) := by decide +kernel
theorem dX11_without_28 : decode cX11_without 28 = .ok (.getfield 44, 3) := by decide +kernel
theorem dX11_without_31 : decode cX11_without 31 = .ok (.iload_n 1, 1) := by decide +kernel
theorem dX11_without_32 : decode cX11_without 32 = .ok (.invokevirtual 264, 3) := by decide +kernel
theorem dX11_without_35 : decode cX11_without 35 = .ok (.pop, 1) := by decide +kernel
theorem dX11_without_36 : decode cX11_without 36 = .ok (.aload_n 0, 1) := by decide +kernel
theorem dX11_without_37 : decode cX11_without 37 = .ok (.getfield 74, 3) := by decide +kernel
theorem dX11_without_40 : decode cX11_without 40 = .ok (.aload_n 0, 1) := by decide +kernel
theorem dX11_without_41 : decode cX11_without 41 = .ok (.getfield 44, 3) := by decide +kernel
theorem dX11_without_44 : decode cX11_without 44 = .ok (.invokevirtual 251, 3) := by decide +kernel
theorem dX11_without_47 : decode cX11_without 47 = .ok (.aload_n 0, 1) := by decide +kernel
theorem dX11_without_48 : decode cX11_without 48 = .ok (.getfield 33, 3) := by decide +kernel
theorem dX11_without_51 : decode cX11_without 51 = .ok (.invokevirtual 159, 3) := by decide +kernel
theorem dX11_without_54 : decode cX11_without 54 = .ok (.aload_n 0, 1) := by decide +kernel
theorem dX11_without_55 : decode cX11_without 55 = .ok (.getfield 33, 3) := by decide +kernel
theorem dX11_without_58 : decode cX11_without 58 = .ok (.aload_n 0, 1) := by decide +kernel
theorem dX11_without_59 : decode cX11_without 59 = .ok (.getfield 74, 3) := by decide +kernel
theorem dX11_without_62 : decode cX11_without 62 = .ok (.invokevirtual 267, 3) := by decide +kernel
theorem dX11_without_65 : decode cX11_without 65 = .ok (.aload_n 0, 1) := by decide +kernel
theorem dX11_without_66 : decode cX11_without 66 = .ok (.invokevirtual 176, 3) := by decide +kernel
theorem dX11_without_69 : decode cX11_without 69 = .ok (.invokevirtual 267, 3) := by decide +kernel
theorem dX11_without_72 : decode cX11_without 72 = .ok (.isub, 1) := by decide +kernel
theorem dX11_without_73 : decode cX11_without 73 = .ok (.invokevirtual 160, 3) := by decide +kernel
theorem dX11_without_76 : decode cX11_without 76 = .ok (.aload_n 0, 1) := by decide +kernel
theorem dX11_without_77 : decode cX11_without 77 = .ok (.getfield 74, 3) := by decide +kernel
theorem dX11_without_80 : decode cX11_without 80 = .ok (.getfield 215, 3) := by decide +kernel
theorem dX11_without_83 : decode cX11_without 83 = .ok (.ireturn, 1) := by decide +kernel
theorem dX11_with_0 : decode cX11_with 0 = .ok (.aload_n 0, 1) := by decide +kernel
theorem dX11_with_1 : decode cX11_with 1 = .ok (.getfield 44, 3) := by decide +kernel
theorem dX11_with_4 : decode cX11_with 4 = .ok (.aload_n 0, 1) := by decide +kernel
theorem dX11_with_5 : decode cX11_with 5 = .ok (.getfield 40, 3) := by decide +kernel
theorem dX11_with_8 : decode cX11_with 8 = .ok (.getfield 234, 3) := by decide +kernel
theorem dX11_with_11 : decode cX11_with 11 = .ok (.invokevirtual 237, 3) := by decide +kernel
theorem dX11_with_14 : decode cX11_with 14 = .ok (.aload_n 0, 1) := by decide +kernel
theorem dX11_with_15 : decode cX11_with 15 = .ok (.getfield 44, 3) := by decide +kernel
theorem dX11_with_18 : decode cX11_with 18 = .ok (.iload_n 1, 1) := by decide +kernel
theorem dX11_with_19 : decode cX11_with 19 = .ok (.iload_n 2, 1) := by decide +kernel
theorem dX11_with_20 : decode cX11_with 20 = .ok (.iload_n 3, 1) := by decide +kernel
theorem dX11_with_21 : decode cX11_with 21 = .ok (.bipush 11, 2) := by decide +kernel
theorem dX11_with_23 : decode cX11_with 23 = .ok (.invokevirtual 208, 3) := by decide +kernel
theorem dX11_with_26 : decode cX11_with 26 = .ok (.istore 4, 2) := by decide +kernel
theorem dX11_with_28 : decode cX11_with 28 = .ok (.iload 4, 2) := by decide +kernel
theorem dX11_with_30 : decode cX11_with 30 = .ok (.ifCond .ge 6, 3) := by decide +kernel
theorem dX11_with_33 : decode cX11_with 33 = .ok (.iload 4, 2) := by decide +kernel
theorem dX11_with_35 : decode cX11_with 35 = .ok (.ireturn, 1) := by decide +kernel
theorem dX11_with_36 : decode cX11_with 36 = .ok (.aload_n 0, 1) := by decide +kernel
theorem dX11_with_37 : decode cX11_with 37 = .ok (.getfield 74, 3) := by decide +kernel
theorem dX11_with_40 : decode cX11_with 40 = .ok (.aload_n 0, 1) := by decide +kernel
theorem dX11_with_41 : decode cX11_with 41 = .ok (.getfield 44, 3) := by decide +kernel
theorem dX11_with_44 : decode cX11_with 44 = .ok (.invokevirtual 251, 3) := by decide +kernel
theorem dX11_with_47 : decode cX11_with 47 = .ok (.aload_n 0, 1) := by decide +kernel
theorem dX11_with_48 : decode cX11_with 48 = .ok (.getfield 33, 3) := by decide +kernel
theorem dX11_with_51 : decode cX11_with 51 = .ok (.invokevirtual 159, 3) := by decide +kernel
theorem dX11_with_54 : decode cX11_with 54 = .ok (.aload_n 0, 1) := by decide +kernel
theorem dX11_with_55 : decode cX11_with 55 = .ok (.getfield 33, 3) := by decide +kernel
theorem dX11_with_58 : decode cX11_with 58 = .ok (.aload_n 0, 1) := by decide +kernel
theorem dX11_with_59 : decode cX11_with 59 = .ok (.invokevirtual 176, 3) := by decide +kernel
theorem dX11_with_62 : decode cX11_with 62 = .ok (.invokevirtual 267, 3) := by decide +kernel
theorem dX11_with_65 : decode cX11_with 65 = .ok (.aload_n 0, 1) := by decide +kernel
theorem dX11_with_66 : decode cX11_with 66 = .ok (.getfield 74, 3) := by decide +kernel
theorem dX11_with_69 : decode cX11_with 69 = .ok (.invokevirtual 267, 3) := by decide +kernel
theorem dX11_with_72 : decode cX11_with 72 = .ok (.isub, 1) := by decide +kernel
theorem dX11_with_73 : decode cX11_with 73 = .ok (.invokevirtual 160, 3) := by decide +kernel
theorem dX11_with_76 : decode cX11_with 76 = .ok (.aload_n 0, 1) := by decide +kernel
theorem dX11_with_77 : decode cX11_with 77 = .ok (.getfield 74, 3) := by decide +kernel
theorem dX11_with_80 : decode cX11_with 80 = .ok (.getfield 215, 3) := by decide +kernel
theorem dX11_with_83 : decode cX11_with 83 = .ok (.ireturn, 1) := by decide +kernel
theorem dX11_asks_0 : decode cX11_asks 0 = .ok (.aload_n 0, 1) := by decide +kernel
theorem dX11_asks_1 : decode cX11_asks 1 = .ok (.invokevirtual 176, 3) := by decide +kernel
theorem dX11_asks_4 : decode cX11_asks 4 = .ok (.astore_n 1, 1) := by decide +kernel
theorem dX11_asks_5 : decode cX11_asks 5 = .ok (.bipush (-2), 2) := by decide +kernel
theorem dX11_asks_7 : decode cX11_asks 7 = .ok (.istore_n 2, 1) := by decide +kernel
theorem dX11_asks_8 : decode cX11_asks 8 = .ok (.iconst 0, 1) := by decide +kernel
theorem dX11_asks_9 : decode cX11_asks 9 = .ok (.istore_n 3, 1) := by decide +kernel
theorem dX11_asks_10 : decode cX11_asks 10 = .ok (.iconst 0, 1) := by decide +kernel
theorem dX11_asks_11 : decode cX11_asks 11 = .ok (.istore 4, 2) := by decide +kernel
theorem dX11_asks_13 : decode cX11_asks 13 = .ok (.iload 4, 2) := by decide +kernel
theorem dX11_asks_15 : decode cX11_asks 15 = .ok (.bipush 6, 2) := by decide +kernel
theorem dX11_asks_17 : decode cX11_asks 17 = .ok (.if_icmp .ge 47, 3) := by decide +kernel
theorem dX11_asks_20 : decode cX11_asks 20 = .ok (.aload_n 1, 1) := by decide +kernel
theorem dX11_asks_21 : decode cX11_asks 21 = .ok (.iload 4, 2) := by decide +kernel
theorem dX11_asks_23 : decode cX11_asks 23 = .ok (.invokevirtual 241, 3) := by decide +kernel
theorem dX11_asks_26 : decode cX11_asks 26 = .ok (.ifCond .ne 6, 3) := by decide +kernel
theorem dX11_asks_29 : decode cX11_asks 29 = .ok (.goto 29, 3) := by decide +kernel
theorem dX11_asks_32 : decode cX11_asks 32 = .ok (.aload_n 1, 1) := by decide +kernel
theorem dX11_asks_33 : decode cX11_asks 33 = .ok (.iload 4, 2) := by decide +kernel
theorem dX11_asks_35 : decode cX11_asks 35 = .ok (.invokevirtual 270, 3) := by decide +kernel
theorem dX11_asks_38 : decode cX11_asks 38 = .ok (.istore 5, 2) := by decide +kernel
theorem dX11_asks_40 : decode cX11_asks 40 = .ok (.iload_n 2, 1) := by decide +kernel
theorem dX11_asks_41 : decode cX11_asks 41 = .ok (.bipush (-2), 2) := by decide +kernel
theorem dX11_asks_43 : decode cX11_asks 43 = .ok (.if_icmp .eq 9, 3) := by decide +kernel
theorem dX11_asks_46 : decode cX11_asks 46 = .ok (.iload 5, 2) := by decide +kernel
theorem dX11_asks_48 : decode cX11_asks 48 = .ok (.iload_n 3, 1) := by decide +kernel
theorem dX11_asks_49 : decode cX11_asks 49 = .ok (.if_icmp .ge 9, 3) := by decide +kernel
theorem dX11_asks_52 : decode cX11_asks 52 = .ok (.iload 4, 2) := by decide +kernel
theorem dX11_asks_54 : decode cX11_asks 54 = .ok (.istore_n 2, 1) := by decide +kernel
theorem dX11_asks_55 : decode cX11_asks 55 = .ok (.iload 5, 2) := by decide +kernel
theorem dX11_asks_57 : decode cX11_asks 57 = .ok (.istore_n 3, 1) := by decide +kernel
theorem dX11_asks_58 : decode cX11_asks 58 = .ok (.iinc 4 1, 3) := by decide +kernel
theorem dX11_asks_61 : decode cX11_asks 61 = .ok (.goto (-48), 3) := by decide +kernel
theorem dX11_asks_64 : decode cX11_asks 64 = .ok (.iload_n 2, 1) := by decide +kernel
theorem dX11_asks_65 : decode cX11_asks 65 = .ok (.bipush (-2), 2) := by decide +kernel
theorem dX11_asks_67 : decode cX11_asks 67 = .ok (.if_icmp .eq 18, 3) := by decide +kernel
theorem dX11_asks_70 : decode cX11_asks 70 = .ok (.aload_n 0, 1) := by decide +kernel
theorem dX11_asks_71 : decode cX11_asks 71 = .ok (.getfield 33, 3) := by decide +kernel
theorem dX11_asks_74 : decode cX11_asks 74 = .ok (.invokevirtual 159, 3) := by decide +kernel
theorem dX11_asks_77 : decode cX11_asks 77 = .ok (.aload_n 0, 1) := by decide +kernel
theorem dX11_asks_78 : decode cX11_asks 78 = .ok (.getfield 33, 3) := by decide +kernel
theorem dX11_asks_81 : decode cX11_asks 81 = .ok (.iload_n 3, 1) := by decide +kernel
theorem dX11_asks_82 : decode cX11_asks 82 = .ok (.invokevirtual 160, 3) := by decide +kernel
theorem dX11_asks_85 : decode cX11_asks 85 = .ok (.iload_n 2, 1) := by decide +kernel
theorem dX11_asks_86 : decode cX11_asks 86 = .ok (.ireturn, 1) := by decide +kernel
theorem dX11_on_0 : decode cX11_on 0 = .ok (.iload_n 1, 1) := by decide +kernel
theorem dX11_on_1 : decode cX11_on 1 = .ok (.invokestatic 145, 3) := by decide +kernel
theorem dX11_on_4 : decode cX11_on 4 = .ok (.ifCond .ne 5, 3) := by decide +kernel
theorem dX11_on_7 : decode cX11_on 7 = .ok (.iconst (-1), 1) := by decide +kernel
theorem dX11_on_8 : decode cX11_on 8 = .ok (.ireturn, 1) := by decide +kernel
theorem dX11_on_9 : decode cX11_on 9 = .ok (.aload_n 0, 1) := by decide +kernel
theorem dX11_on_10 : decode cX11_on 10 = .ok (.invokevirtual 176, 3) := by decide +kernel
theorem dX11_on_13 : decode cX11_on 13 = .ok (.astore_n 2, 1) := by decide +kernel
theorem dX11_on_14 : decode cX11_on 14 = .ok (.iconst 0, 1) := by decide +kernel
theorem dX11_on_15 : decode cX11_on 15 = .ok (.istore_n 3, 1) := by decide +kernel
theorem dX11_on_16 : decode cX11_on 16 = .ok (.iconst 0, 1) := by decide +kernel
theorem dX11_on_17 : decode cX11_on 17 = .ok (.istore 4, 2) := by decide +kernel
theorem dX11_on_19 : decode cX11_on 19 = .ok (.iconst 0, 1) := by decide +kernel
theorem dX11_on_20 : decode cX11_on 20 = .ok (.istore 5, 2) := by decide +kernel
theorem dX11_on_22 : decode cX11_on 22 = .ok (.iload 5, 2) := by decide +kernel
theorem dX11_on_24 : decode cX11_on 24 = .ok (.bipush 6, 2) := by decide +kernel
theorem dX11_on_26 : decode cX11_on 26 = .ok (.if_icmp .ge 64, 3) := by decide +kernel
theorem dX11_on_29 : decode cX11_on 29 = .ok (.aload_n 2, 1) := by decide +kernel
theorem dX11_on_30 : decode cX11_on 30 = .ok (.iload 5, 2) := by decide +kernel
theorem dX11_on_32 : decode cX11_on 32 = .ok (.invokevirtual 180, 3) := by decide +kernel
theorem dX11_on_35 : decode cX11_on 35 = .ok (.istore 6, 2) := by decide +kernel
theorem dX11_on_37 : decode cX11_on 37 = .ok (.aload_n 0, 1) := by decide +kernel
theorem dX11_on_38 : decode cX11_on 38 = .ok (.getfield 40, 3) := by decide +kernel
theorem dX11_on_41 : decode cX11_on 41 = .ok (.iload 5, 2) := by decide +kernel
theorem dX11_on_43 : decode cX11_on 43 = .ok (.iload 6, 2) := by decide +kernel
theorem dX11_on_45 : decode cX11_on 45 = .ok (.iload_n 1, 1) := by decide +kernel
theorem dX11_on_46 : decode cX11_on 46 = .ok (.iload_n 1, 1) := by decide +kernel
theorem dX11_on_47 : decode cX11_on 47 = .ok (.invokevirtual 273, 3) := by decide +kernel
theorem dX11_on_50 : decode cX11_on 50 = .ok (.istore 7, 2) := by decide +kernel
theorem dX11_on_52 : decode cX11_on 52 = .ok (.iload 7, 2) := by decide +kernel
theorem dX11_on_54 : decode cX11_on 54 = .ok (.ifCond .eq 30, 3) := by decide +kernel
theorem dX11_on_57 : decode cX11_on 57 = .ok (.iload_n 3, 1) := by decide +kernel
theorem dX11_on_58 : decode cX11_on 58 = .ok (.iconst 1, 1) := by decide +kernel
theorem dX11_on_59 : decode cX11_on 59 = .ok (.iload 5, 2) := by decide +kernel
theorem dX11_on_61 : decode cX11_on 61 = .ok (.ishl, 1) := by decide +kernel
theorem dX11_on_62 : decode cX11_on 62 = .ok (.ior, 1) := by decide +kernel
theorem dX11_on_63 : decode cX11_on 63 = .ok (.istore_n 3, 1) := by decide +kernel
theorem dX11_on_64 : decode cX11_on 64 = .ok (.iload 4, 2) := by decide +kernel
theorem dX11_on_66 : decode cX11_on 66 = .ok (.iload 7, 2) := by decide +kernel
theorem dX11_on_68 : decode cX11_on 68 = .ok (.iload 6, 2) := by decide +kernel
theorem dX11_on_70 : decode cX11_on 70 = .ok (.if_icmp .ne 10, 3) := by decide +kernel
theorem dX11_on_73 : decode cX11_on 73 = .ok (.iconst 1, 1) := by decide +kernel
theorem dX11_on_74 : decode cX11_on 74 = .ok (.iload 5, 2) := by decide +kernel
theorem dX11_on_76 : decode cX11_on 76 = .ok (.ishl, 1) := by decide +kernel
theorem dX11_on_77 : decode cX11_on 77 = .ok (.goto 4, 3) := by decide +kernel
theorem dX11_on_80 : decode cX11_on 80 = .ok (.iconst 0, 1) := by decide +kernel
theorem dX11_on_81 : decode cX11_on 81 = .ok (.ior, 1) := by decide +kernel
theorem dX11_on_82 : decode cX11_on 82 = .ok (.istore 4, 2) := by decide +kernel
theorem dX11_on_84 : decode cX11_on 84 = .ok (.iinc 5 1, 3) := by decide +kernel
theorem dX11_on_87 : decode cX11_on 87 = .ok (.goto (-65), 3) := by decide +kernel
theorem dX11_on_90 : decode cX11_on 90 = .ok (.aload_n 0, 1) := by decide +kernel
theorem dX11_on_91 : decode cX11_on 91 = .ok (.getfield 33, 3) := by decide +kernel
theorem dX11_on_94 : decode cX11_on 94 = .ok (.invokevirtual 159, 3) := by decide +kernel
theorem dX11_on_97 : decode cX11_on 97 = .ok (.aload_n 0, 1) := by decide +kernel
theorem dX11_on_98 : decode cX11_on 98 = .ok (.getfield 33, 3) := by decide +kernel
theorem dX11_on_101 : decode cX11_on 101 = .ok (.iload 4, 2) := by decide +kernel
theorem dX11_on_103 : decode cX11_on 103 = .ok (.invokevirtual 160, 3) := by decide +kernel
theorem dX11_on_106 : decode cX11_on 106 = .ok (.iload_n 3, 1) := by decide +kernel
theorem dX11_on_107 : decode cX11_on 107 = .ok (.ireturn, 1) := by decide +kernel
theorem dX11_busiest_0 : decode cX11_busiest 0 = .ok (.aload_n 0, 1) := by decide +kernel
theorem dX11_busiest_1 : decode cX11_busiest 1 = .ok (.invokevirtual 176, 3) := by decide +kernel
theorem dX11_busiest_4 : decode cX11_busiest 4 = .ok (.astore_n 1, 1) := by decide +kernel
theorem dX11_busiest_5 : decode cX11_busiest 5 = .ok (.bipush (-2), 2) := by decide +kernel
theorem dX11_busiest_7 : decode cX11_busiest 7 = .ok (.istore_n 2, 1) := by decide +kernel
theorem dX11_busiest_8 : decode cX11_busiest 8 = .ok (.iconst 0, 1) := by decide +kernel
theorem dX11_busiest_9 : decode cX11_busiest 9 = .ok (.istore_n 3, 1) := by decide +kernel
theorem dX11_busiest_10 : decode cX11_busiest 10 = .ok (.iconst 0, 1) := by decide +kernel
theorem dX11_busiest_11 : decode cX11_busiest 11 = .ok (.istore 4, 2) := by decide +kernel
theorem dX11_busiest_13 : decode cX11_busiest 13 = .ok (.iload 4, 2) := by decide +kernel
theorem dX11_busiest_15 : decode cX11_busiest 15 = .ok (.bipush 6, 2) := by decide +kernel
theorem dX11_busiest_17 : decode cX11_busiest 17 = .ok (.if_icmp .ge 92, 3) := by decide +kernel
theorem dX11_busiest_20 : decode cX11_busiest 20 = .ok (.aload_n 1, 1) := by decide +kernel
theorem dX11_busiest_21 : decode cX11_busiest 21 = .ok (.iload 4, 2) := by decide +kernel
theorem dX11_busiest_23 : decode cX11_busiest 23 = .ok (.invokevirtual 180, 3) := by decide +kernel
theorem dX11_busiest_26 : decode cX11_busiest 26 = .ok (.istore 5, 2) := by decide +kernel
theorem dX11_busiest_28 : decode cX11_busiest 28 = .ok (.iconst 0, 1) := by decide +kernel
theorem dX11_busiest_29 : decode cX11_busiest 29 = .ok (.istore 6, 2) := by decide +kernel
theorem dX11_busiest_31 : decode cX11_busiest 31 = .ok (.iload 6, 2) := by decide +kernel
theorem dX11_busiest_33 : decode cX11_busiest 33 = .ok (.bipush 6, 2) := by decide +kernel
theorem dX11_busiest_35 : decode cX11_busiest 35 = .ok (.if_icmp .ge 68, 3) := by decide +kernel
theorem dX11_busiest_38 : decode cX11_busiest 38 = .ok (.iload 5, 2) := by decide +kernel
theorem dX11_busiest_40 : decode cX11_busiest 40 = .ok (.iload 6, 2) := by decide +kernel
theorem dX11_busiest_42 : decode cX11_busiest 42 = .ok (.invokestatic 196, 3) := by decide +kernel
theorem dX11_busiest_45 : decode cX11_busiest 45 = .ok (.ifCond .ne 6, 3) := by decide +kernel
theorem dX11_busiest_48 : decode cX11_busiest 48 = .ok (.goto 49, 3) := by decide +kernel
theorem dX11_busiest_51 : decode cX11_busiest 51 = .ok (.aload_n 0, 1) := by decide +kernel
theorem dX11_busiest_52 : decode cX11_busiest 52 = .ok (.getfield 40, 3) := by decide +kernel
theorem dX11_busiest_55 : decode cX11_busiest 55 = .ok (.iload 4, 2) := by decide +kernel
theorem dX11_busiest_57 : decode cX11_busiest 57 = .ok (.iload 6, 2) := by decide +kernel
theorem dX11_busiest_59 : decode cX11_busiest 59 = .ok (.iconst 0, 1) := by decide +kernel
theorem dX11_busiest_60 : decode cX11_busiest 60 = .ok (.invokevirtual 124, 3) := by decide +kernel
theorem dX11_busiest_63 : decode cX11_busiest 63 = .ok (.istore 7, 2) := by decide +kernel
theorem dX11_busiest_65 : decode cX11_busiest 65 = .ok (.aload_n 0, 1) := by decide +kernel
theorem dX11_busiest_66 : decode cX11_busiest 66 = .ok (.iload 7, 2) := by decide +kernel
theorem dX11_busiest_68 : decode cX11_busiest 68 = .ok (.invokevirtual 276, 3) := by decide +kernel
theorem dX11_busiest_71 : decode cX11_busiest 71 = .ok (.istore 8, 2) := by decide +kernel
theorem dX11_busiest_73 : decode cX11_busiest 73 = .ok (.iload 8, 2) := by decide +kernel
theorem dX11_busiest_75 : decode cX11_busiest 75 = .ok (.iload_n 3, 1) := by decide +kernel
theorem dX11_busiest_76 : decode cX11_busiest 76 = .ok (.if_icmp .gt 15, 3) := by decide +kernel
theorem dX11_busiest_79 : decode cX11_busiest 79 = .ok (.iload 8, 2) := by decide +kernel
theorem dX11_busiest_81 : decode cX11_busiest 81 = .ok (.iload_n 3, 1) := by decide +kernel
theorem dX11_busiest_82 : decode cX11_busiest 82 = .ok (.if_icmp .ne 15, 3) := by decide +kernel
theorem dX11_busiest_85 : decode cX11_busiest 85 = .ok (.iload 7, 2) := by decide +kernel
theorem dX11_busiest_87 : decode cX11_busiest 87 = .ok (.iload_n 2, 1) := by decide +kernel
theorem dX11_busiest_88 : decode cX11_busiest 88 = .ok (.if_icmp .ge 9, 3) := by decide +kernel
theorem dX11_busiest_91 : decode cX11_busiest 91 = .ok (.iload 7, 2) := by decide +kernel
theorem dX11_busiest_93 : decode cX11_busiest 93 = .ok (.istore_n 2, 1) := by decide +kernel
theorem dX11_busiest_94 : decode cX11_busiest 94 = .ok (.iload 8, 2) := by decide +kernel
theorem dX11_busiest_96 : decode cX11_busiest 96 = .ok (.istore_n 3, 1) := by decide +kernel
theorem dX11_busiest_97 : decode cX11_busiest 97 = .ok (.iinc 6 1, 3) := by decide +kernel
theorem dX11_busiest_100 : decode cX11_busiest 100 = .ok (.goto (-69), 3) := by decide +kernel
theorem dX11_busiest_103 : decode cX11_busiest 103 = .ok (.iinc 4 1, 3) := by decide +kernel
theorem dX11_busiest_106 : decode cX11_busiest 106 = .ok (.goto (-93), 3) := by decide +kernel
theorem dX11_busiest_109 : decode cX11_busiest 109 = .ok (.iload_n 2, 1) := by decide +kernel
theorem dX11_busiest_110 : decode cX11_busiest 110 = .ok (.bipush (-2), 2) := by decide +kernel
theorem dX11_busiest_112 : decode cX11_busiest 112 = .ok (.if_icmp .eq 18, 3) := by decide +kernel
theorem dX11_busiest_115 : decode cX11_busiest 115 = .ok (.aload_n 0, 1) := by decide +kernel
theorem dX11_busiest_116 : decode cX11_busiest 116 = .ok (.getfield 33, 3) := by decide +kernel
theorem dX11_busiest_119 : decode cX11_busiest 119 = .ok (.invokevirtual 159, 3) := by decide +kernel
theorem dX11_busiest_122 : decode cX11_busiest 122 = .ok (.aload_n 0, 1) := by decide +kernel
theorem dX11_busiest_123 : decode cX11_busiest 123 = .ok (.getfield 33, 3) := by decide +kernel
theorem dX11_busiest_126 : decode cX11_busiest 126 = .ok (.iload_n 3, 1) := by decide +kernel
theorem dX11_busiest_127 : decode cX11_busiest 127 = .ok (.invokevirtual 160, 3) := by decide +kernel
theorem dX11_busiest_130 : decode cX11_busiest 130 = .ok (.iload_n 2, 1) := by decide +kernel
theorem dX11_busiest_131 : decode cX11_busiest 131 = .ok (.ireturn, 1) := by decide +kernel
theorem dX11_free_0 : decode cX11_free 0 = .ok (.iload_n 1, 1) := by decide +kernel
theorem dX11_free_1 : decode cX11_free 1 = .ok (.invokestatic 145, 3) := by decide +kernel
theorem dX11_free_4 : decode cX11_free 4 = .ok (.ifCond .eq 14, 3) := by decide +kernel
theorem dX11_free_7 : decode cX11_free 7 = .ok (.iload_n 2, 1) := by decide +kernel
theorem dX11_free_8 : decode cX11_free 8 = .ok (.iconst 1, 1) := by decide +kernel
theorem dX11_free_9 : decode cX11_free 9 = .ok (.if_icmp .lt 9, 3) := by decide +kernel
theorem dX11_free_12 : decode cX11_free 12 = .ok (.iload_n 2, 1) := by decide +kernel
theorem dX11_free_13 : decode cX11_free 13 = .ok (.bipush 99, 2) := by decide +kernel
theorem dX11_free_15 : decode cX11_free 15 = .ok (.if_icmp .le 5, 3) := by decide +kernel
theorem dX11_free_18 : decode cX11_free 18 = .ok (.iconst (-1), 1) := by decide +kernel
theorem dX11_free_19 : decode cX11_free 19 = .ok (.ireturn, 1) := by decide +kernel
theorem dX11_free_20 : decode cX11_free 20 = .ok (.iload_n 1, 1) := by decide +kernel
theorem dX11_free_21 : decode cX11_free 21 = .ok (.istore_n 3, 1) := by decide +kernel
theorem dX11_free_22 : decode cX11_free 22 = .ok (.iconst 0, 1) := by decide +kernel
theorem dX11_free_23 : decode cX11_free 23 = .ok (.istore 4, 2) := by decide +kernel
theorem dX11_free_25 : decode cX11_free 25 = .ok (.iload 4, 2) := by decide +kernel
theorem dX11_free_27 : decode cX11_free 27 = .ok (.bipush 36, 2) := by decide +kernel
theorem dX11_free_29 : decode cX11_free 29 = .ok (.if_icmp .gt 50, 3) := by decide +kernel
theorem dX11_free_32 : decode cX11_free 32 = .ok (.aload_n 0, 1) := by decide +kernel
theorem dX11_free_33 : decode cX11_free 33 = .ok (.iload_n 3, 1) := by decide +kernel
theorem dX11_free_34 : decode cX11_free 34 = .ok (.iload_n 3, 1) := by decide +kernel
theorem dX11_free_35 : decode cX11_free 35 = .ok (.iload_n 2, 1) := by decide +kernel
theorem dX11_free_36 : decode cX11_free 36 = .ok (.iadd, 1) := by decide +kernel
theorem dX11_free_37 : decode cX11_free 37 = .ok (.iconst 1, 1) := by decide +kernel
theorem dX11_free_38 : decode cX11_free 38 = .ok (.isub, 1) := by decide +kernel
theorem dX11_free_39 : decode cX11_free 39 = .ok (.invokevirtual 279, 3) := by decide +kernel
theorem dX11_free_42 : decode cX11_free 42 = .ok (.istore 5, 2) := by decide +kernel
theorem dX11_free_44 : decode cX11_free 44 = .ok (.iload 5, 2) := by decide +kernel
theorem dX11_free_46 : decode cX11_free 46 = .ok (.iconst (-1), 1) := by decide +kernel
theorem dX11_free_47 : decode cX11_free 47 = .ok (.if_icmp .ne 21, 3) := by decide +kernel
theorem dX11_free_50 : decode cX11_free 50 = .ok (.iload_n 3, 1) := by decide +kernel
theorem dX11_free_51 : decode cX11_free 51 = .ok (.iload_n 2, 1) := by decide +kernel
theorem dX11_free_52 : decode cX11_free 52 = .ok (.iadd, 1) := by decide +kernel
theorem dX11_free_53 : decode cX11_free 53 = .ok (.iconst 1, 1) := by decide +kernel
theorem dX11_free_54 : decode cX11_free 54 = .ok (.isub, 1) := by decide +kernel
theorem dX11_free_55 : decode cX11_free 55 = .ok (.sipush 9999, 3) := by decide +kernel
theorem dX11_free_58 : decode cX11_free 58 = .ok (.if_icmp .gt 7, 3) := by decide +kernel
theorem dX11_free_61 : decode cX11_free 61 = .ok (.iload_n 3, 1) := by decide +kernel
theorem dX11_free_62 : decode cX11_free 62 = .ok (.goto 5, 3) := by decide +kernel
theorem dX11_free_65 : decode cX11_free 65 = .ok (.bipush (-2), 2) := by decide +kernel
theorem dX11_free_67 : decode cX11_free 67 = .ok (.ireturn, 1) := by decide +kernel
theorem dX11_free_68 : decode cX11_free 68 = .ok (.iload 5, 2) := by decide +kernel
theorem dX11_free_70 : decode cX11_free 70 = .ok (.iconst 1, 1) := by decide +kernel
theorem dX11_free_71 : decode cX11_free 71 = .ok (.iadd, 1) := by decide +kernel
theorem dX11_free_72 : decode cX11_free 72 = .ok (.istore_n 3, 1) := by decide +kernel
theorem dX11_free_73 : decode cX11_free 73 = .ok (.iinc 4 1, 3) := by decide +kernel
theorem dX11_free_76 : decode cX11_free 76 = .ok (.goto (-51), 3) := by decide +kernel
theorem dX11_free_79 : decode cX11_free 79 = .ok (.bipush (-2), 2) := by decide +kernel
theorem dX11_free_81 : decode cX11_free 81 = .ok (.ireturn, 1) := by decide +kernel
theorem dX11_ref_0 : decode cX11_ref 0 = .ok (.aload_n 0, 1) := by decide +kernel
theorem dX11_ref_1 : decode cX11_ref 1 = .ok (.invokevirtual 131, 3) := by decide +kernel
theorem dX11_ref_4 : decode cX11_ref 4 = .ok (.aload_n 0, 1) := by decide +kernel
theorem dX11_ref_5 : decode cX11_ref 5 = .ok (.aload_n 0, 1) := by decide +kernel
theorem dX11_ref_6 : decode cX11_ref 6 = .ok (.getfield 40, 3) := by decide +kernel
theorem dX11_ref_9 : decode cX11_ref 9 = .ok (.iload_n 1, 1) := by decide +kernel
theorem dX11_ref_10 : decode cX11_ref 10 = .ok (.invokevirtual 282, 3) := by decide +kernel
theorem dX11_ref_13 : decode cX11_ref 13 = .ok (.invokevirtual 142, 3) := by decide +kernel
theorem dX11_ref_16 : decode cX11_ref 16 = .ok (.ireturn, 1) := by decide +kernel
theorem dX11_rules_0 : decode cX11_rules 0 = .ok (.aload_n 0, 1) := by decide +kernel
theorem dX11_rules_1 : decode cX11_rules 1 = .ok (.invokevirtual 131, 3) := by decide +kernel
theorem dX11_rules_4 : decode cX11_rules 4 = .ok (.aload_n 0, 1) := by decide +kernel
theorem dX11_rules_5 : decode cX11_rules 5 = .ok (.aload_n 0, 1) := by decide +kernel
theorem dX11_rules_6 : decode cX11_rules 6 = .ok (.getfield 40, 3) := by decide +kernel
theorem dX11_rules_9 : decode cX11_rules 9 = .ok (.iload_n 1, 1) := by decide +kernel
theorem dX11_rules_10 : decode cX11_rules 10 = .ok (.iload_n 2, 1) := by decide +kernel
theorem dX11_rules_11 : decode cX11_rules 11 = .ok (.iload_n 3, 1) := by decide +kernel
theorem dX11_rules_12 : decode cX11_rules 12 = .ok (.invokevirtual 247, 3) := by decide +kernel
theorem dX11_rules_15 : decode cX11_rules 15 = .ok (.invokevirtual 142, 3) := by decide +kernel
theorem dX11_rules_18 : decode cX11_rules 18 = .ok (.ireturn, 1) := by decide +kernel
theorem dX11_narrows_0 : decode cX11_narrows 0 = .ok (.aload_n 0, 1) := by decide +kernel
theorem dX11_narrows_1 : decode cX11_narrows 1 = .ok (.invokevirtual 131, 3) := by decide +kernel
theorem dX11_narrows_4 : decode cX11_narrows 4 = .ok (.aload_n 0, 1) := by decide +kernel
theorem dX11_narrows_5 : decode cX11_narrows 5 = .ok (.aload_n 0, 1) := by decide +kernel
theorem dX11_narrows_6 : decode cX11_narrows 6 = .ok (.getfield 40, 3) := by decide +kernel
theorem dX11_narrows_9 : decode cX11_narrows 9 = .ok (.aload_n 0, 1) := by decide +kernel
theorem dX11_narrows_10 : decode cX11_narrows 10 = .ok (.invokevirtual 176, 3) := by decide +kernel
theorem dX11_narrows_13 : decode cX11_narrows 13 = .ok (.invokevirtual 285, 3) := by decide +kernel
theorem dX11_narrows_16 : decode cX11_narrows 16 = .ok (.invokevirtual 142, 3) := by decide +kernel
theorem dX11_narrows_19 : decode cX11_narrows 19 = .ok (.ireturn, 1) := by decide +kernel
theorem dX11_drops_0 : decode cX11_drops 0 = .ok (.aload_n 0, 1) := by decide +kernel
theorem dX11_drops_1 : decode cX11_drops 1 = .ok (.invokevirtual 131, 3) := by decide +kernel
theorem dX11_drops_4 : decode cX11_drops 4 = .ok (.aload_n 0, 1) := by decide +kernel
theorem dX11_drops_5 : decode cX11_drops 5 = .ok (.aload_n 0, 1) := by decide +kernel
theorem dX11_drops_6 : decode cX11_drops 6 = .ok (.getfield 40, 3) := by decide +kernel
theorem dX11_drops_9 : decode cX11_drops 9 = .ok (.iload_n 1, 1) := by decide +kernel
theorem dX11_drops_10 : decode cX11_drops 10 = .ok (.invokevirtual 289, 3) := by decide +kernel
theorem dX11_drops_13 : decode cX11_drops 13 = .ok (.invokevirtual 142, 3) := by decide +kernel
theorem dX11_drops_16 : decode cX11_drops 16 = .ok (.ireturn, 1) := by decide +kernel
theorem dX11_goes_0 : decode cX11_goes 0 = .ok (.aload_n 0, 1) := by decide +kernel
theorem dX11_goes_1 : decode cX11_goes 1 = .ok (.invokevirtual 131, 3) := by decide +kernel
theorem dX11_goes_4 : decode cX11_goes 4 = .ok (.aload_n 0, 1) := by decide +kernel
theorem dX11_goes_5 : decode cX11_goes 5 = .ok (.aload_n 0, 1) := by decide +kernel
theorem dX11_goes_6 : decode cX11_goes 6 = .ok (.getfield 40, 3) := by decide +kernel
theorem dX11_goes_9 : decode cX11_goes 9 = .ok (.iload_n 1, 1) := by decide +kernel
theorem dX11_goes_10 : decode cX11_goes 10 = .ok (.invokevirtual 264, 3) := by decide +kernel
theorem dX11_goes_13 : decode cX11_goes 13 = .ok (.invokevirtual 142, 3) := by decide +kernel
theorem dX11_goes_16 : decode cX11_goes 16 = .ok (.ireturn, 1) := by decide +kernel
theorem dX11_work_0 : decode cX11_work 0 = .ok (.aload_n 0, 1) := by decide +kernel
theorem dX11_work_1 : decode cX11_work 1 = .ok (.invokevirtual 292, 3) := by decide +kernel
theorem dX11_work_4 : decode cX11_work 4 = .ok (.istore_n 1, 1) := by decide +kernel
theorem dX11_work_5 : decode cX11_work 5 = .ok (.iload_n 1, 1) := by decide +kernel
theorem dX11_work_6 : decode cX11_work 6 = .ok (.iconst (-1), 1) := by decide +kernel
theorem dX11_work_7 : decode cX11_work 7 = .ok (.if_icmp .eq 14, 3) := by decide +kernel
theorem dX11_work_10 : decode cX11_work 10 = .ok (.aload_n 0, 1) := by decide +kernel
theorem dX11_work_11 : decode cX11_work 11 = .ok (.getfield 10, 3) := by decide +kernel
theorem dX11_work_14 : decode cX11_work 14 = .ok (.invokevirtual 100, 3) := by decide +kernel
theorem dX11_work_17 : decode cX11_work 17 = .ok (.iconst (-1), 1) := by decide +kernel
theorem dX11_work_18 : decode cX11_work 18 = .ok (.iload_n 1, 1) := by decide +kernel
theorem dX11_work_19 : decode cX11_work 19 = .ok (.isub, 1) := by decide +kernel
theorem dX11_work_20 : decode cX11_work 20 = .ok (.ireturn, 1) := by decide +kernel
theorem dX11_work_21 : decode cX11_work 21 = .ok (.aload_n 0, 1) := by decide +kernel
theorem dX11_work_22 : decode cX11_work 22 = .ok (.invokevirtual 131, 3) := by decide +kernel
theorem dX11_work_25 : decode cX11_work 25 = .ok (.iconst 0, 1) := by decide +kernel
theorem dX11_work_26 : decode cX11_work 26 = .ok (.istore_n 2, 1) := by decide +kernel
theorem dX11_work_27 : decode cX11_work 27 = .ok (.iconst 0, 1) := by decide +kernel
theorem dX11_work_28 : decode cX11_work 28 = .ok (.istore_n 3, 1) := by decide +kernel
theorem dX11_work_29 : decode cX11_work 29 = .ok (.iconst 0, 1) := by decide +kernel
theorem dX11_work_30 : decode cX11_work 30 = .ok (.istore 4, 2) := by decide +kernel
theorem dX11_work_32 : decode cX11_work 32 = .ok (.iconst 0, 1) := by decide +kernel
theorem dX11_work_33 : decode cX11_work 33 = .ok (.istore 5, 2) := by decide +kernel
theorem dX11_work_35 : decode cX11_work 35 = .ok (.iload 5, 2) := by decide +kernel
theorem dX11_work_37 : decode cX11_work 37 = .ok (.bipush 80, 2) := by decide +kernel
theorem dX11_work_39 : decode cX11_work 39 = .ok (.if_icmp .ge 70, 3) := by decide +kernel
theorem dX11_work_42 : decode cX11_work 42 = .ok (.iload 4, 2) := by decide +kernel
theorem dX11_work_44 : decode cX11_work 44 = .ok (.aload_n 0, 1) := by decide +kernel
theorem dX11_work_45 : decode cX11_work 45 = .ok (.getfield 10, 3) := by decide +kernel
theorem dX11_work_48 : decode cX11_work 48 = .ok (.getfield 295, 3) := by decide +kernel
theorem dX11_work_51 : decode cX11_work 51 = .ok (.if_icmp .ge 58, 3) := by decide +kernel
theorem dX11_work_54 : decode cX11_work 54 = .ok (.iload_n 3, 1) := by decide +kernel
theorem dX11_work_55 : decode cX11_work 55 = .ok (.ifCond .ne 54, 3) := by decide +kernel
theorem dX11_work_58 : decode cX11_work 58 = .ok (.aload_n 0, 1) := by decide +kernel
theorem dX11_work_59 : decode cX11_work 59 = .ok (.iload 4, 2) := by decide +kernel
theorem dX11_work_61 : decode cX11_work 61 = .ok (.invokevirtual 298, 3) := by decide +kernel
theorem dX11_work_64 : decode cX11_work 64 = .ok (.ifCond .ge 7, 3) := by decide +kernel
theorem dX11_work_67 : decode cX11_work 67 = .ok (.iconst 1, 1) := by decide +kernel
theorem dX11_work_68 : decode cX11_work 68 = .ok (.goto 4, 3) := by decide +kernel
theorem dX11_work_71 : decode cX11_work 71 = .ok (.iconst 0, 1) := by decide +kernel
theorem dX11_work_72 : decode cX11_work 72 = .ok (.istore_n 3, 1) := by decide +kernel
theorem dX11_work_73 : decode cX11_work 73 = .ok (.aload_n 0, 1) := by decide +kernel
theorem dX11_work_74 : decode cX11_work 74 = .ok (.iconst 0, 1) := by decide +kernel
theorem dX11_work_75 : decode cX11_work 75 = .ok (.putfield 84, 3) := by decide +kernel
theorem dX11_work_78 : decode cX11_work 78 = .ok (.iload_n 2, 1) := by decide +kernel
theorem dX11_work_79 : decode cX11_work 79 = .ok (.iconst 1, 1) := by decide +kernel
theorem dX11_work_80 : decode cX11_work 80 = .ok (.iload_n 3, 1) := by decide +kernel
theorem dX11_work_81 : decode cX11_work 81 = .ok (.isub, 1) := by decide +kernel
theorem dX11_work_82 : decode cX11_work 82 = .ok (.iadd, 1) := by decide +kernel
theorem dX11_work_83 : decode cX11_work 83 = .ok (.istore_n 2, 1) := by decide +kernel
theorem dX11_work_84 : decode cX11_work 84 = .ok (.iload 4, 2) := by decide +kernel
theorem dX11_work_86 : decode cX11_work 86 = .ok (.iconst 1, 1) := by decide +kernel
theorem dX11_work_87 : decode cX11_work 87 = .ok (.aload_n 0, 1) := by decide +kernel
theorem dX11_work_88 : decode cX11_work 88 = .ok (.getfield 10, 3) := by decide +kernel
theorem dX11_work_91 : decode cX11_work 91 = .ok (.iload 4, 2) := by decide +kernel
theorem dX11_work_93 : decode cX11_work 93 = .ok (.invokevirtual 301, 3) := by decide +kernel
theorem dX11_work_96 : decode cX11_work 96 = .ok (.invokestatic 304, 3) := by decide +kernel
theorem dX11_work_99 : decode cX11_work 99 = .ok (.iadd, 1) := by decide +kernel
theorem dX11_work_100 : decode cX11_work 100 = .ok (.iadd, 1) := by decide +kernel
theorem dX11_work_101 : decode cX11_work 101 = .ok (.istore 4, 2) := by decide +kernel
theorem dX11_work_103 : decode cX11_work 103 = .ok (.iinc 5 1, 3) := by decide +kernel
theorem dX11_work_106 : decode cX11_work 106 = .ok (.goto (-71), 3) := by decide +kernel
theorem dX11_work_109 : decode cX11_work 109 = .ok (.aload_n 0, 1) := by decide +kernel
theorem dX11_work_110 : decode cX11_work 110 = .ok (.getfield 10, 3) := by decide +kernel
theorem dX11_work_113 : decode cX11_work 113 = .ok (.invokevirtual 100, 3) := by decide +kernel
theorem dX11_work_116 : decode cX11_work 116 = .ok (.iload_n 2, 1) := by decide +kernel
theorem dX11_work_117 : decode cX11_work 117 = .ok (.ifCond .le 9, 3) := by decide +kernel
theorem dX11_work_120 : decode cX11_work 120 = .ok (.aload_n 0, 1) := by decide +kernel
theorem dX11_work_121 : decode cX11_work 121 = .ok (.iload_n 2, 1) := by decide +kernel
theorem dX11_work_122 : decode cX11_work 122 = .ok (.invokevirtual 142, 3) := by decide +kernel
theorem dX11_work_125 : decode cX11_work 125 = .ok (.pop, 1) := by decide +kernel
theorem dX11_work_126 : decode cX11_work 126 = .ok (.aload_n 0, 1) := by decide +kernel
theorem dX11_work_127 : decode cX11_work 127 = .ok (.getfield 33, 3) := by decide +kernel
theorem dX11_work_130 : decode cX11_work 130 = .ok (.invokevirtual 159, 3) := by decide +kernel
theorem dX11_work_133 : decode cX11_work 133 = .ok (.aload_n 0, 1) := by decide +kernel
theorem dX11_work_134 : decode cX11_work 134 = .ok (.getfield 33, 3) := by decide +kernel
theorem dX11_work_137 : decode cX11_work 137 = .ok (.iload_n 3, 1) := by decide +kernel
theorem dX11_work_138 : decode cX11_work 138 = .ok (.invokevirtual 160, 3) := by decide +kernel
theorem dX11_work_141 : decode cX11_work 141 = .ok (.aload_n 0, 1) := by decide +kernel
theorem dX11_work_142 : decode cX11_work 142 = .ok (.getfield 33, 3) := by decide +kernel
theorem dX11_work_145 : decode cX11_work 145 = .ok (.aload_n 0, 1) := by decide +kernel
theorem dX11_work_146 : decode cX11_work 146 = .ok (.invokevirtual 176, 3) := by decide +kernel
theorem dX11_work_149 : decode cX11_work 149 = .ok (.getfield 215, 3) := by decide +kernel
theorem dX11_work_152 : decode cX11_work 152 = .ok (.invokevirtual 160, 3) := by decide +kernel
theorem dX11_work_155 : decode cX11_work 155 = .ok (.iload_n 2, 1) := by decide +kernel
theorem dX11_work_156 : decode cX11_work 156 = .ok (.ireturn, 1) := by decide +kernel
theorem dX11_undo_0 : decode cX11_undo 0 = .ok (.aload_n 0, 1) := by decide +kernel
theorem dX11_undo_1 : decode cX11_undo 1 = .ok (.getfield 54, 3) := by decide +kernel
theorem dX11_undo_4 : decode cX11_undo 4 = .ok (.getfield 307, 3) := by decide +kernel
theorem dX11_undo_7 : decode cX11_undo 7 = .ok (.ifCond .ne 5, 3) := by decide +kernel
theorem dX11_undo_10 : decode cX11_undo 10 = .ok (.iconst (-1), 1) := by decide +kernel
theorem dX11_undo_11 : decode cX11_undo 11 = .ok (.ireturn, 1) := by decide +kernel
theorem dX11_undo_12 : decode cX11_undo 12 = .ok (.aload_n 0, 1) := by decide +kernel
theorem dX11_undo_13 : decode cX11_undo 13 = .ok (.getfield 54, 3) := by decide +kernel
theorem dX11_undo_16 : decode cX11_undo 16 = .ok (.aload_n 0, 1) := by decide +kernel
theorem dX11_undo_17 : decode cX11_undo 17 = .ok (.getfield 40, 3) := by decide +kernel
theorem dX11_undo_20 : decode cX11_undo 20 = .ok (.getfield 234, 3) := by decide +kernel
theorem dX11_undo_23 : decode cX11_undo 23 = .ok (.invokevirtual 309, 3) := by decide +kernel
theorem dX11_undo_26 : decode cX11_undo 26 = .ok (.aload_n 0, 1) := by decide +kernel
theorem dX11_undo_27 : decode cX11_undo 27 = .ok (.iconst 0, 1) := by decide +kernel
theorem dX11_undo_28 : decode cX11_undo 28 = .ok (.putfield 84, 3) := by decide +kernel
theorem dX11_undo_31 : decode cX11_undo 31 = .ok (.aload_n 0, 1) := by decide +kernel
theorem dX11_undo_32 : decode cX11_undo 32 = .ok (.getfield 54, 3) := by decide +kernel
theorem dX11_undo_35 : decode cX11_undo 35 = .ok (.getfield 307, 3) := by decide +kernel
theorem dX11_undo_38 : decode cX11_undo 38 = .ok (.ireturn, 1) := by decide +kernel
theorem dX11_years_0 : decode cX11_years 0 = .ok (.iload_n 2, 1) := by decide +kernel
theorem dX11_years_1 : decode cX11_years 1 = .ok (.iconst 1, 1) := by decide +kernel
theorem dX11_years_2 : decode cX11_years 2 = .ok (.if_icmp .lt 9, 3) := by decide +kernel
theorem dX11_years_5 : decode cX11_years 5 = .ok (.iload_n 2, 1) := by decide +kernel
theorem dX11_years_6 : decode cX11_years 6 = .ok (.bipush 20, 2) := by decide +kernel
theorem dX11_years_8 : decode cX11_years 8 = .ok (.if_icmp .le 5, 3) := by decide +kernel
theorem dX11_years_11 : decode cX11_years 11 = .ok (.iconst (-1), 1) := by decide +kernel
theorem dX11_years_12 : decode cX11_years 12 = .ok (.ireturn, 1) := by decide +kernel
theorem dX11_years_13 : decode cX11_years 13 = .ok (.aload_n 0, 1) := by decide +kernel
theorem dX11_years_14 : decode cX11_years 14 = .ok (.getfield 44, 3) := by decide +kernel
theorem dX11_years_17 : decode cX11_years 17 = .ok (.aload_n 0, 1) := by decide +kernel
theorem dX11_years_18 : decode cX11_years 18 = .ok (.getfield 40, 3) := by decide +kernel
theorem dX11_years_21 : decode cX11_years 21 = .ok (.getfield 234, 3) := by decide +kernel
theorem dX11_years_24 : decode cX11_years 24 = .ok (.invokevirtual 237, 3) := by decide +kernel
theorem dX11_years_27 : decode cX11_years 27 = .ok (.iload_n 1, 1) := by decide +kernel
theorem dX11_years_28 : decode cX11_years 28 = .ok (.istore_n 3, 1) := by decide +kernel
theorem dX11_years_29 : decode cX11_years 29 = .ok (.iconst 0, 1) := by decide +kernel
theorem dX11_years_30 : decode cX11_years 30 = .ok (.istore 4, 2) := by decide +kernel
theorem dX11_years_32 : decode cX11_years 32 = .ok (.iload 4, 2) := by decide +kernel
theorem dX11_years_34 : decode cX11_years 34 = .ok (.iload_n 2, 1) := by decide +kernel
theorem dX11_years_35 : decode cX11_years 35 = .ok (.if_icmp .ge 63, 3) := by decide +kernel
theorem dX11_years_38 : decode cX11_years 38 = .ok (.iload_n 3, 1) := by decide +kernel
theorem dX11_years_39 : decode cX11_years 39 = .ok (.invokestatic 312, 3) := by decide +kernel
theorem dX11_years_42 : decode cX11_years 42 = .ok (.istore_n 3, 1) := by decide +kernel
theorem dX11_years_43 : decode cX11_years 43 = .ok (.iload_n 3, 1) := by decide +kernel
theorem dX11_years_44 : decode cX11_years 44 = .ok (.iconst 5, 1) := by decide +kernel
theorem dX11_years_45 : decode cX11_years 45 = .ok (.invokestatic 315, 3) := by decide +kernel
theorem dX11_years_48 : decode cX11_years 48 = .ok (.istore 5, 2) := by decide +kernel
theorem dX11_years_50 : decode cX11_years 50 = .ok (.iload_n 3, 1) := by decide +kernel
theorem dX11_years_51 : decode cX11_years 51 = .ok (.invokestatic 312, 3) := by decide +kernel
theorem dX11_years_54 : decode cX11_years 54 = .ok (.istore_n 3, 1) := by decide +kernel
theorem dX11_years_55 : decode cX11_years 55 = .ok (.iload_n 3, 1) := by decide +kernel
theorem dX11_years_56 : decode cX11_years 56 = .ok (.bipush 6, 2) := by decide +kernel
theorem dX11_years_58 : decode cX11_years 58 = .ok (.invokestatic 315, 3) := by decide +kernel
theorem dX11_years_61 : decode cX11_years 61 = .ok (.istore 6, 2) := by decide +kernel
theorem dX11_years_63 : decode cX11_years 63 = .ok (.iload_n 3, 1) := by decide +kernel
theorem dX11_years_64 : decode cX11_years 64 = .ok (.invokestatic 312, 3) := by decide +kernel
theorem dX11_years_67 : decode cX11_years 67 = .ok (.istore_n 3, 1) := by decide +kernel
theorem dX11_years_68 : decode cX11_years 68 = .ok (.iload_n 3, 1) := by decide +kernel
theorem dX11_years_69 : decode cX11_years 69 = .ok (.bipush 6, 2) := by decide +kernel
theorem dX11_years_71 : decode cX11_years 71 = .ok (.invokestatic 315, 3) := by decide +kernel
theorem dX11_years_74 : decode cX11_years 74 = .ok (.istore 7, 2) := by decide +kernel
theorem dX11_years_76 : decode cX11_years 76 = .ok (.aload_n 0, 1) := by decide +kernel
theorem dX11_years_77 : decode cX11_years 77 = .ok (.getfield 44, 3) := by decide +kernel
theorem dX11_years_80 : decode cX11_years 80 = .ok (.iload 5, 2) := by decide +kernel
theorem dX11_years_82 : decode cX11_years 82 = .ok (.iload 6, 2) := by decide +kernel
theorem dX11_years_84 : decode cX11_years 84 = .ok (.iload 7, 2) := by decide +kernel
theorem dX11_years_86 : decode cX11_years 86 = .ok (.bipush 10, 2) := by decide +kernel
theorem dX11_years_88 : decode cX11_years 88 = .ok (.invokevirtual 208, 3) := by decide +kernel
theorem dX11_years_91 : decode cX11_years 91 = .ok (.pop, 1) := by decide +kernel
theorem dX11_years_92 : decode cX11_years 92 = .ok (.iinc 4 1, 3) := by decide +kernel
theorem dX11_years_95 : decode cX11_years 95 = .ok (.goto (-63), 3) := by decide +kernel
theorem dX11_years_98 : decode cX11_years 98 = .ok (.aload_n 0, 1) := by decide +kernel
theorem dX11_years_99 : decode cX11_years 99 = .ok (.getfield 74, 3) := by decide +kernel
theorem dX11_years_102 : decode cX11_years 102 = .ok (.aload_n 0, 1) := by decide +kernel
theorem dX11_years_103 : decode cX11_years 103 = .ok (.getfield 44, 3) := by decide +kernel
theorem dX11_years_106 : decode cX11_years 106 = .ok (.invokevirtual 251, 3) := by decide +kernel
theorem dX11_years_109 : decode cX11_years 109 = .ok (.aload_n 0, 1) := by decide +kernel
theorem dX11_years_110 : decode cX11_years 110 = .ok (.getfield 33, 3) := by decide +kernel
theorem dX11_years_113 : decode cX11_years 113 = .ok (.invokevirtual 159, 3) := by decide +kernel
theorem dX11_years_116 : decode cX11_years 116 = .ok (.aload_n 0, 1) := by decide +kernel
theorem dX11_years_117 : decode cX11_years 117 = .ok (.getfield 33, 3) := by decide +kernel
theorem dX11_years_120 : decode cX11_years 120 = .ok (.aload_n 0, 1) := by decide +kernel
theorem dX11_years_121 : decode cX11_years 121 = .ok (.getfield 44, 3) := by decide +kernel
theorem dX11_years_124 : decode cX11_years 124 = .ok (.invokevirtual 318, 3) := by decide +kernel
theorem dX11_years_127 : decode cX11_years 127 = .ok (.invokevirtual 160, 3) := by decide +kernel
theorem dX11_years_130 : decode cX11_years 130 = .ok (.aload_n 0, 1) := by decide +kernel
theorem dX11_years_131 : decode cX11_years 131 = .ok (.getfield 33, 3) := by decide +kernel
theorem dX11_years_134 : decode cX11_years 134 = .ok (.aload_n 0, 1) := by decide +kernel
theorem dX11_years_135 : decode cX11_years 135 = .ok (.getfield 74, 3) := by decide +kernel
theorem dX11_years_138 : decode cX11_years 138 = .ok (.invokevirtual 267, 3) := by decide +kernel
theorem dX11_years_141 : decode cX11_years 141 = .ok (.invokevirtual 160, 3) := by decide +kernel
theorem dX11_years_144 : decode cX11_years 144 = .ok (.aload_n 0, 1) := by decide +kernel
theorem dX11_years_145 : decode cX11_years 145 = .ok (.getfield 74, 3) := by decide +kernel
theorem dX11_years_148 : decode cX11_years 148 = .ok (.getfield 215, 3) := by decide +kernel
theorem dX11_years_151 : decode cX11_years 151 = .ok (.ireturn, 1) := by decide +kernel
theorem dX11_keep_0 : decode cX11_keep 0 = .ok (.iload_n 1, 1) := by decide +kernel
theorem dX11_keep_1 : decode cX11_keep 1 = .ok (.ifCond .lt 8, 3) := by decide +kernel
theorem dX11_keep_4 : decode cX11_keep 4 = .ok (.iload_n 1, 1) := by decide +kernel
theorem dX11_keep_5 : decode cX11_keep 5 = .ok (.iconst 2, 1) := by decide +kernel
theorem dX11_keep_6 : decode cX11_keep 6 = .ok (.if_icmp .lt 5, 3) := by decide +kernel
theorem dX11_keep_9 : decode cX11_keep 9 = .ok (.iconst 0, 1) := by decide +kernel
theorem dX11_keep_10 : decode cX11_keep 10 = .ok (.ireturn, 1) := by decide +kernel
theorem dX11_keep_11 : decode cX11_keep 11 = .ok (.aload_n 0, 1) := by decide +kernel
theorem dX11_keep_12 : decode cX11_keep 12 = .ok (.getfield 40, 3) := by decide +kernel
theorem dX11_keep_15 : decode cX11_keep 15 = .ok (.aload_n 0, 1) := by decide +kernel
theorem dX11_keep_16 : decode cX11_keep 16 = .ok (.getfield 60, 3) := by decide +kernel
theorem dX11_keep_19 : decode cX11_keep 19 = .ok (.iload_n 1, 1) := by decide +kernel
theorem dX11_keep_20 : decode cX11_keep 20 = .ok (.aaload, 1) := by decide +kernel
theorem dX11_keep_21 : decode cX11_keep 21 = .ok (.invokevirtual 321, 3) := by decide +kernel
theorem dX11_keep_24 : decode cX11_keep 24 = .ok (.aload_n 0, 1) := by decide +kernel
theorem dX11_keep_25 : decode cX11_keep 25 = .ok (.dup, 1) := by decide +kernel
theorem dX11_keep_26 : decode cX11_keep 26 = .ok (.getfield 63, 3) := by decide +kernel
theorem dX11_keep_29 : decode cX11_keep 29 = .ok (.iconst 1, 1) := by decide +kernel
theorem dX11_keep_30 : decode cX11_keep 30 = .ok (.iload_n 1, 1) := by decide +kernel
theorem dX11_keep_31 : decode cX11_keep 31 = .ok (.ishl, 1) := by decide +kernel
theorem dX11_keep_32 : decode cX11_keep 32 = .ok (.ior, 1) := by decide +kernel
theorem dX11_keep_33 : decode cX11_keep 33 = .ok (.putfield 63, 3) := by decide +kernel
theorem dX11_keep_36 : decode cX11_keep 36 = .ok (.iconst 1, 1) := by decide +kernel
theorem dX11_keep_37 : decode cX11_keep 37 = .ok (.ireturn, 1) := by decide +kernel
theorem dX11_again_0 : decode cX11_again 0 = .ok (.iload_n 1, 1) := by decide +kernel
theorem dX11_again_1 : decode cX11_again 1 = .ok (.ifCond .lt 19, 3) := by decide +kernel
theorem dX11_again_4 : decode cX11_again 4 = .ok (.iload_n 1, 1) := by decide +kernel
theorem dX11_again_5 : decode cX11_again 5 = .ok (.iconst 2, 1) := by decide +kernel
theorem dX11_again_6 : decode cX11_again 6 = .ok (.if_icmp .ge 14, 3) := by decide +kernel
theorem dX11_again_9 : decode cX11_again 9 = .ok (.aload_n 0, 1) := by decide +kernel
theorem dX11_again_10 : decode cX11_again 10 = .ok (.getfield 63, 3) := by decide +kernel
theorem dX11_again_13 : decode cX11_again 13 = .ok (.iload_n 1, 1) := by decide +kernel
theorem dX11_again_14 : decode cX11_again 14 = .ok (.invokestatic 196, 3) := by decide +kernel
theorem dX11_again_17 : decode cX11_again 17 = .ok (.ifCond .ne 5, 3) := by decide +kernel
theorem dX11_again_20 : decode cX11_again 20 = .ok (.iconst 0, 1) := by decide +kernel
theorem dX11_again_21 : decode cX11_again 21 = .ok (.ireturn, 1) := by decide +kernel
theorem dX11_again_22 : decode cX11_again 22 = .ok (.aload_n 0, 1) := by decide +kernel
theorem dX11_again_23 : decode cX11_again 23 = .ok (.getfield 40, 3) := by decide +kernel
theorem dX11_again_26 : decode cX11_again 26 = .ok (.aload_n 0, 1) := by decide +kernel
theorem dX11_again_27 : decode cX11_again 27 = .ok (.getfield 60, 3) := by decide +kernel
theorem dX11_again_30 : decode cX11_again 30 = .ok (.iload_n 1, 1) := by decide +kernel
theorem dX11_again_31 : decode cX11_again 31 = .ok (.aaload, 1) := by decide +kernel
theorem dX11_again_32 : decode cX11_again 32 = .ok (.invokevirtual 237, 3) := by decide +kernel
theorem dX11_again_35 : decode cX11_again 35 = .ok (.aload_n 0, 1) := by decide +kernel
theorem dX11_again_36 : decode cX11_again 36 = .ok (.iconst 0, 1) := by decide +kernel
theorem dX11_again_37 : decode cX11_again 37 = .ok (.putfield 84, 3) := by decide +kernel
theorem dX11_again_40 : decode cX11_again 40 = .ok (.aload_n 0, 1) := by decide +kernel
theorem dX11_again_41 : decode cX11_again 41 = .ok (.getfield 54, 3) := by decide +kernel
theorem dX11_again_44 : decode cX11_again 44 = .ok (.invokevirtual 324, 3) := by decide +kernel
theorem dX11_again_47 : decode cX11_again 47 = .ok (.iconst 1, 1) := by decide +kernel
theorem dX11_again_48 : decode cX11_again 48 = .ok (.ireturn, 1) := by decide +kernel
theorem dX11_count_0 : decode cX11_count 0 = .ok (.iload_n 1, 1) := by decide +kernel
theorem dX11_count_1 : decode cX11_count 1 = .ok (.tableswitch 123 0 8 #[51, 59, 67, 75, 83, 91, 99, 107, 115], 51) := by decide +kernel
theorem dX11_count_52 : decode cX11_count 52 = .ok (.aload_n 0, 1) := by decide +kernel
theorem dX11_count_53 : decode cX11_count 53 = .ok (.getfield 40, 3) := by decide +kernel
theorem dX11_count_56 : decode cX11_count 56 = .ok (.invokevirtual 325, 3) := by decide +kernel
theorem dX11_count_59 : decode cX11_count 59 = .ok (.ireturn, 1) := by decide +kernel
theorem dX11_count_60 : decode cX11_count 60 = .ok (.aload_n 0, 1) := by decide +kernel
theorem dX11_count_61 : decode cX11_count 61 = .ok (.getfield 40, 3) := by decide +kernel
theorem dX11_count_64 : decode cX11_count 64 = .ok (.invokevirtual 318, 3) := by decide +kernel
theorem dX11_count_67 : decode cX11_count 67 = .ok (.ireturn, 1) := by decide +kernel
theorem dX11_count_68 : decode cX11_count 68 = .ok (.aload_n 0, 1) := by decide +kernel
theorem dX11_count_69 : decode cX11_count 69 = .ok (.getfield 40, 3) := by decide +kernel
theorem dX11_count_72 : decode cX11_count 72 = .ok (.invokevirtual 112, 3) := by decide +kernel
theorem dX11_count_75 : decode cX11_count 75 = .ok (.ireturn, 1) := by decide +kernel
theorem dX11_count_76 : decode cX11_count 76 = .ok (.aload_n 0, 1) := by decide +kernel
theorem dX11_count_77 : decode cX11_count 77 = .ok (.getfield 40, 3) := by decide +kernel
theorem dX11_count_80 : decode cX11_count 80 = .ok (.invokevirtual 328, 3) := by decide +kernel
theorem dX11_count_83 : decode cX11_count 83 = .ok (.ireturn, 1) := by decide +kernel
theorem dX11_count_84 : decode cX11_count 84 = .ok (.aload_n 0, 1) := by decide +kernel
theorem dX11_count_85 : decode cX11_count 85 = .ok (.getfield 40, 3) := by decide +kernel
theorem dX11_count_88 : decode cX11_count 88 = .ok (.invokevirtual 331, 3) := by decide +kernel
theorem dX11_count_91 : decode cX11_count 91 = .ok (.ireturn, 1) := by decide +kernel
theorem dX11_count_92 : decode cX11_count 92 = .ok (.aload_n 0, 1) := by decide +kernel
theorem dX11_count_93 : decode cX11_count 93 = .ok (.invokevirtual 176, 3) := by decide +kernel
theorem dX11_count_96 : decode cX11_count 96 = .ok (.invokevirtual 267, 3) := by decide +kernel
theorem dX11_count_99 : decode cX11_count 99 = .ok (.ireturn, 1) := by decide +kernel
theorem dX11_count_100 : decode cX11_count 100 = .ok (.aload_n 0, 1) := by decide +kernel
theorem dX11_count_101 : decode cX11_count 101 = .ok (.getfield 54, 3) := by decide +kernel
theorem dX11_count_104 : decode cX11_count 104 = .ok (.getfield 307, 3) := by decide +kernel
theorem dX11_count_107 : decode cX11_count 107 = .ok (.ireturn, 1) := by decide +kernel
theorem dX11_count_108 : decode cX11_count 108 = .ok (.aload_n 0, 1) := by decide +kernel
theorem dX11_count_109 : decode cX11_count 109 = .ok (.getfield 33, 3) := by decide +kernel
theorem dX11_count_112 : decode cX11_count 112 = .ok (.getfield 334, 3) := by decide +kernel
theorem dX11_count_115 : decode cX11_count 115 = .ok (.ireturn, 1) := by decide +kernel
theorem dX11_count_116 : decode cX11_count 116 = .ok (.aload_n 0, 1) := by decide +kernel
theorem dX11_count_117 : decode cX11_count 117 = .ok (.getfield 10, 3) := by decide +kernel
theorem dX11_count_120 : decode cX11_count 120 = .ok (.getfield 295, 3) := by decide +kernel
theorem dX11_count_123 : decode cX11_count 123 = .ok (.ireturn, 1) := by decide +kernel
theorem dX11_count_124 : decode cX11_count 124 = .ok (.iconst (-1), 1) := by decide +kernel
theorem dX11_count_125 : decode cX11_count 125 = .ok (.ireturn, 1) := by decide +kernel
theorem dX11_row_0 : decode cX11_row 0 = .ok (.iload_n 1, 1) := by decide +kernel
theorem dX11_row_1 : decode cX11_row 1 = .ok (.ifCond .lt 14, 3) := by decide +kernel
theorem dX11_row_4 : decode cX11_row 4 = .ok (.iload_n 1, 1) := by decide +kernel
theorem dX11_row_5 : decode cX11_row 5 = .ok (.aload_n 0, 1) := by decide +kernel
theorem dX11_row_6 : decode cX11_row 6 = .ok (.getfield 33, 3) := by decide +kernel
theorem dX11_row_9 : decode cX11_row 9 = .ok (.getfield 334, 3) := by decide +kernel
theorem dX11_row_12 : decode cX11_row 12 = .ok (.if_icmp .lt 14, 3) := by decide +kernel
theorem dX11_row_15 : decode cX11_row 15 = .ok (.new 189, 3) := by decide +kernel
theorem dX11_row_18 : decode cX11_row 18 = .ok (.dup, 1) := by decide +kernel
theorem dX11_row_19 : decode cX11_row 19 = .ok (.ldc_w 335, 3) := by decide +kernel
theorem dX11_row_22 : decode cX11_row 22 = .ok (.invokespecial 193, 3) := by decide +kernel
theorem dX11_row_25 : decode cX11_row 25 = .ok (.athrow, 1) := by decide +kernel
theorem dX11_row_26 : decode cX11_row 26 = .ok (.aload_n 0, 1) := by decide +kernel
theorem dX11_row_27 : decode cX11_row 27 = .ok (.getfield 33, 3) := by decide +kernel
theorem dX11_row_30 : decode cX11_row 30 = .ok (.iload_n 1, 1) := by decide +kernel
theorem dX11_row_31 : decode cX11_row 31 = .ok (.invokevirtual 337, 3) := by decide +kernel
theorem dX11_row_34 : decode cX11_row 34 = .ok (.i2l, 1) := by decide +kernel
theorem dX11_row_35 : decode cX11_row 35 = .ok (.lreturn, 1) := by decide +kernel
theorem dX11_isDay_0 : decode cX11_isDay 0 = .ok (.iload_n 0, 1) := by decide +kernel
theorem dX11_isDay_1 : decode cX11_isDay 1 = .ok (.ifCond .lt 14, 3) := by decide +kernel
theorem dX11_isDay_4 : decode cX11_isDay 4 = .ok (.iload_n 0, 1) := by decide +kernel
theorem dX11_isDay_5 : decode cX11_isDay 5 = .ok (.sipush 9999, 3) := by decide +kernel
theorem dX11_isDay_8 : decode cX11_isDay 8 = .ok (.if_icmp .gt 7, 3) := by decide +kernel
theorem dX11_isDay_11 : decode cX11_isDay 11 = .ok (.iconst 1, 1) := by decide +kernel
theorem dX11_isDay_12 : decode cX11_isDay 12 = .ok (.goto 4, 3) := by decide +kernel
theorem dX11_isDay_15 : decode cX11_isDay 15 = .ok (.iconst 0, 1) := by decide +kernel
theorem dX11_isDay_16 : decode cX11_isDay 16 = .ok (.ireturn, 1) := by decide +kernel
theorem dX11_isEvent_0 : decode cX11_isEvent 0 = .ok (.iload_n 0, 1) := by decide +kernel
theorem dX11_isEvent_1 : decode cX11_isEvent 1 = .ok (.ifCond .lt 13, 3) := by decide +kernel
theorem dX11_isEvent_4 : decode cX11_isEvent 4 = .ok (.iload_n 0, 1) := by decide +kernel
theorem dX11_isEvent_5 : decode cX11_isEvent 5 = .ok (.bipush 6, 2) := by decide +kernel
theorem dX11_isEvent_7 : decode cX11_isEvent 7 = .ok (.if_icmp .ge 7, 3) := by decide +kernel
theorem dX11_isEvent_10 : decode cX11_isEvent 10 = .ok (.iconst 1, 1) := by decide +kernel
theorem dX11_isEvent_11 : decode cX11_isEvent 11 = .ok (.goto 4, 3) := by decide +kernel
theorem dX11_isEvent_14 : decode cX11_isEvent 14 = .ok (.iconst 0, 1) := by decide +kernel
theorem dX11_isEvent_15 : decode cX11_isEvent 15 = .ok (.ireturn, 1) := by decide +kernel
theorem dX11_hasBit_0 : decode cX11_hasBit 0 = .ok (.iload_n 0, 1) := by decide +kernel
theorem dX11_hasBit_1 : decode cX11_hasBit 1 = .ok (.iload_n 1, 1) := by decide +kernel
theorem dX11_hasBit_2 : decode cX11_hasBit 2 = .ok (.ishr, 1) := by decide +kernel
theorem dX11_hasBit_3 : decode cX11_hasBit 3 = .ok (.iconst 1, 1) := by decide +kernel
theorem dX11_hasBit_4 : decode cX11_hasBit 4 = .ok (.iand, 1) := by decide +kernel
theorem dX11_hasBit_5 : decode cX11_hasBit 5 = .ok (.iconst 1, 1) := by decide +kernel
theorem dX11_hasBit_6 : decode cX11_hasBit 6 = .ok (.if_icmp .ne 7, 3) := by decide +kernel
theorem dX11_hasBit_9 : decode cX11_hasBit 9 = .ok (.iconst 1, 1) := by decide +kernel
theorem dX11_hasBit_10 : decode cX11_hasBit 10 = .ok (.goto 4, 3) := by decide +kernel
theorem dX11_hasBit_13 : decode cX11_hasBit 13 = .ok (.iconst 0, 1) := by decide +kernel
theorem dX11_hasBit_14 : decode cX11_hasBit 14 = .ok (.ireturn, 1) := by decide +kernel
theorem dX11_tellFound_0 : decode cX11_tellFound 0 = .ok (.aload_n 0, 1) := by decide +kernel
theorem dX11_tellFound_1 : decode cX11_tellFound 1 = .ok (.getfield 33, 3) := by decide +kernel
theorem dX11_tellFound_4 : decode cX11_tellFound 4 = .ok (.invokevirtual 159, 3) := by decide +kernel
theorem dX11_tellFound_7 : decode cX11_tellFound 7 = .ok (.iconst 0, 1) := by decide +kernel
theorem dX11_tellFound_8 : decode cX11_tellFound 8 = .ok (.istore_n 1, 1) := by decide +kernel
theorem dX11_tellFound_9 : decode cX11_tellFound 9 = .ok (.iload_n 1, 1) := by decide +kernel
theorem dX11_tellFound_10 : decode cX11_tellFound 10 = .ok (.aload_n 0, 1) := by decide +kernel
theorem dX11_tellFound_11 : decode cX11_tellFound 11 = .ok (.getfield 26, 3) := by decide +kernel
theorem dX11_tellFound_14 : decode cX11_tellFound 14 = .ok (.getfield 134, 3) := by decide +kernel
theorem dX11_tellFound_17 : decode cX11_tellFound 17 = .ok (.getfield 340, 3) := by decide +kernel
theorem dX11_tellFound_20 : decode cX11_tellFound 20 = .ok (.if_icmp .ge 41, 3) := by decide +kernel
theorem dX11_tellFound_23 : decode cX11_tellFound 23 = .ok (.iconst 0, 1) := by decide +kernel
theorem dX11_tellFound_24 : decode cX11_tellFound 24 = .ok (.istore_n 2, 1) := by decide +kernel
theorem dX11_tellFound_25 : decode cX11_tellFound 25 = .ok (.iload_n 2, 1) := by decide +kernel
theorem dX11_tellFound_26 : decode cX11_tellFound 26 = .ok (.iconst 4, 1) := by decide +kernel
theorem dX11_tellFound_27 : decode cX11_tellFound 27 = .ok (.if_icmp .ge 28, 3) := by decide +kernel
theorem dX11_tellFound_30 : decode cX11_tellFound 30 = .ok (.aload_n 0, 1) := by decide +kernel
theorem dX11_tellFound_31 : decode cX11_tellFound 31 = .ok (.getfield 33, 3) := by decide +kernel
theorem dX11_tellFound_34 : decode cX11_tellFound 34 = .ok (.aload_n 0, 1) := by decide +kernel
theorem dX11_tellFound_35 : decode cX11_tellFound 35 = .ok (.getfield 26, 3) := by decide +kernel
theorem dX11_tellFound_38 : decode cX11_tellFound 38 = .ok (.getfield 134, 3) := by decide +kernel
theorem dX11_tellFound_41 : decode cX11_tellFound 41 = .ok (.iload_n 1, 1) := by decide +kernel
theorem dX11_tellFound_42 : decode cX11_tellFound 42 = .ok (.iload_n 2, 1) := by decide +kernel
theorem dX11_tellFound_43 : decode cX11_tellFound 43 = .ok (.invokevirtual 343, 3) := by decide +kernel
theorem dX11_tellFound_46 : decode cX11_tellFound 46 = .ok (.invokevirtual 160, 3) := by decide +kernel
theorem dX11_tellFound_49 : decode cX11_tellFound 49 = .ok (.iinc 2 1, 3) := by decide +kernel
theorem dX11_tellFound_52 : decode cX11_tellFound 52 = .ok (.goto (-27), 3) := by decide +kernel
theorem dX11_tellFound_55 : decode cX11_tellFound 55 = .ok (.iinc 1 1, 3) := by decide +kernel
theorem dX11_tellFound_58 : decode cX11_tellFound 58 = .ok (.goto (-49), 3) := by decide +kernel
theorem dX11_tellFound_61 : decode cX11_tellFound 61 = .ok (.return_, 1) := by decide +kernel
theorem dX11_tellBest_0 : decode cX11_tellBest 0 = .ok (.aload_n 0, 1) := by decide +kernel
theorem dX11_tellBest_1 : decode cX11_tellBest 1 = .ok (.getfield 33, 3) := by decide +kernel
theorem dX11_tellBest_4 : decode cX11_tellBest 4 = .ok (.invokevirtual 159, 3) := by decide +kernel
theorem dX11_tellBest_7 : decode cX11_tellBest 7 = .ok (.iconst 0, 1) := by decide +kernel
theorem dX11_tellBest_8 : decode cX11_tellBest 8 = .ok (.istore_n 2, 1) := by decide +kernel
theorem dX11_tellBest_9 : decode cX11_tellBest 9 = .ok (.iload_n 2, 1) := by decide +kernel
theorem dX11_tellBest_10 : decode cX11_tellBest 10 = .ok (.bipush 6, 2) := by decide +kernel
theorem dX11_tellBest_12 : decode cX11_tellBest 12 = .ok (.if_icmp .ge 21, 3) := by decide +kernel
theorem dX11_tellBest_15 : decode cX11_tellBest 15 = .ok (.aload_n 0, 1) := by decide +kernel
theorem dX11_tellBest_16 : decode cX11_tellBest 16 = .ok (.getfield 33, 3) := by decide +kernel
theorem dX11_tellBest_19 : decode cX11_tellBest 19 = .ok (.aload_n 1, 1) := by decide +kernel
theorem dX11_tellBest_20 : decode cX11_tellBest 20 = .ok (.iload_n 2, 1) := by decide +kernel
theorem dX11_tellBest_21 : decode cX11_tellBest 21 = .ok (.invokevirtual 244, 3) := by decide +kernel
theorem dX11_tellBest_24 : decode cX11_tellBest 24 = .ok (.invokevirtual 160, 3) := by decide +kernel
theorem dX11_tellBest_27 : decode cX11_tellBest 27 = .ok (.iinc 2 1, 3) := by decide +kernel
theorem dX11_tellBest_30 : decode cX11_tellBest 30 = .ok (.goto (-21), 3) := by decide +kernel
theorem dX11_tellBest_33 : decode cX11_tellBest 33 = .ok (.return_, 1) := by decide +kernel
theorem dX11_solved_0 : decode cX11_solved 0 = .ok (.aload_n 0, 1) := by decide +kernel
theorem dX11_solved_1 : decode cX11_solved 1 = .ok (.getfield 84, 3) := by decide +kernel
theorem dX11_solved_4 : decode cX11_solved 4 = .ok (.ifCond .ne 19, 3) := by decide +kernel
theorem dX11_solved_7 : decode cX11_solved 7 = .ok (.aload_n 0, 1) := by decide +kernel
theorem dX11_solved_8 : decode cX11_solved 8 = .ok (.getfield 70, 3) := by decide +kernel
theorem dX11_solved_11 : decode cX11_solved 11 = .ok (.aload_n 0, 1) := by decide +kernel
theorem dX11_solved_12 : decode cX11_solved 12 = .ok (.getfield 40, 3) := by decide +kernel
theorem dX11_solved_15 : decode cX11_solved 15 = .ok (.invokevirtual 251, 3) := by decide +kernel
theorem dX11_solved_18 : decode cX11_solved 18 = .ok (.aload_n 0, 1) := by decide +kernel
theorem dX11_solved_19 : decode cX11_solved 19 = .ok (.iconst 1, 1) := by decide +kernel
theorem dX11_solved_20 : decode cX11_solved 20 = .ok (.putfield 84, 3) := by decide +kernel
theorem dX11_solved_23 : decode cX11_solved 23 = .ok (.aload_n 0, 1) := by decide +kernel
theorem dX11_solved_24 : decode cX11_solved 24 = .ok (.getfield 70, 3) := by decide +kernel
theorem dX11_solved_27 : decode cX11_solved 27 = .ok (.areturn, 1) := by decide +kernel
theorem dX11_saveBefore_0 : decode cX11_saveBefore 0 = .ok (.aload_n 0, 1) := by decide +kernel
theorem dX11_saveBefore_1 : decode cX11_saveBefore 1 = .ok (.getfield 40, 3) := by decide +kernel
theorem dX11_saveBefore_4 : decode cX11_saveBefore 4 = .ok (.aload_n 0, 1) := by decide +kernel
theorem dX11_saveBefore_5 : decode cX11_saveBefore 5 = .ok (.getfield 47, 3) := by decide +kernel
theorem dX11_saveBefore_8 : decode cX11_saveBefore 8 = .ok (.invokevirtual 321, 3) := by decide +kernel
theorem dX11_saveBefore_11 : decode cX11_saveBefore 11 = .ok (.return_, 1) := by decide +kernel
theorem dX11_recorded_0 : decode cX11_recorded 0 = .ok (.iload_n 1, 1) := by decide +kernel
theorem dX11_recorded_1 : decode cX11_recorded 1 = .ok (.ifCond .lt 19, 3) := by decide +kernel
theorem dX11_recorded_4 : decode cX11_recorded 4 = .ok (.aload_n 0, 1) := by decide +kernel
theorem dX11_recorded_5 : decode cX11_recorded 5 = .ok (.getfield 54, 3) := by decide +kernel
theorem dX11_recorded_8 : decode cX11_recorded 8 = .ok (.aload_n 0, 1) := by decide +kernel
theorem dX11_recorded_9 : decode cX11_recorded 9 = .ok (.getfield 47, 3) := by decide +kernel
theorem dX11_recorded_12 : decode cX11_recorded 12 = .ok (.invokevirtual 345, 3) := by decide +kernel
theorem dX11_recorded_15 : decode cX11_recorded 15 = .ok (.aload_n 0, 1) := by decide +kernel
theorem dX11_recorded_16 : decode cX11_recorded 16 = .ok (.iconst 0, 1) := by decide +kernel
theorem dX11_recorded_17 : decode cX11_recorded 17 = .ok (.putfield 84, 3) := by decide +kernel
theorem dX11_recorded_20 : decode cX11_recorded 20 = .ok (.iload_n 1, 1) := by decide +kernel
theorem dX11_recorded_21 : decode cX11_recorded 21 = .ok (.ireturn, 1) := by decide +kernel
theorem dX11_eventsThatMayHave_0 : decode cX11_eventsThatMayHave 0 = .ok (.iconst 0, 1) := by decide +kernel
theorem dX11_eventsThatMayHave_1 : decode cX11_eventsThatMayHave 1 = .ok (.istore_n 2, 1) := by decide +kernel
theorem dX11_eventsThatMayHave_2 : decode cX11_eventsThatMayHave 2 = .ok (.iconst 0, 1) := by decide +kernel
theorem dX11_eventsThatMayHave_3 : decode cX11_eventsThatMayHave 3 = .ok (.istore_n 3, 1) := by decide +kernel
theorem dX11_eventsThatMayHave_4 : decode cX11_eventsThatMayHave 4 = .ok (.iload_n 3, 1) := by decide +kernel
theorem dX11_eventsThatMayHave_5 : decode cX11_eventsThatMayHave 5 = .ok (.bipush 6, 2) := by decide +kernel
theorem dX11_eventsThatMayHave_7 : decode cX11_eventsThatMayHave 7 = .ok (.if_icmp .ge 33, 3) := by decide +kernel
theorem dX11_eventsThatMayHave_10 : decode cX11_eventsThatMayHave 10 = .ok (.aload_n 0, 1) := by decide +kernel
theorem dX11_eventsThatMayHave_11 : decode cX11_eventsThatMayHave 11 = .ok (.getfield 40, 3) := by decide +kernel
theorem dX11_eventsThatMayHave_14 : decode cX11_eventsThatMayHave 14 = .ok (.iload_n 3, 1) := by decide +kernel
theorem dX11_eventsThatMayHave_15 : decode cX11_eventsThatMayHave 15 = .ok (.aload_n 0, 1) := by decide +kernel
theorem dX11_eventsThatMayHave_16 : decode cX11_eventsThatMayHave 16 = .ok (.invokevirtual 176, 3) := by decide +kernel
theorem dX11_eventsThatMayHave_19 : decode cX11_eventsThatMayHave 19 = .ok (.iload_n 3, 1) := by decide +kernel
theorem dX11_eventsThatMayHave_20 : decode cX11_eventsThatMayHave 20 = .ok (.invokevirtual 180, 3) := by decide +kernel
theorem dX11_eventsThatMayHave_23 : decode cX11_eventsThatMayHave 23 = .ok (.iload_n 1, 1) := by decide +kernel
theorem dX11_eventsThatMayHave_24 : decode cX11_eventsThatMayHave 24 = .ok (.iload_n 1, 1) := by decide +kernel
theorem dX11_eventsThatMayHave_25 : decode cX11_eventsThatMayHave 25 = .ok (.invokevirtual 273, 3) := by decide +kernel
theorem dX11_eventsThatMayHave_28 : decode cX11_eventsThatMayHave 28 = .ok (.ifCond .eq 6, 3) := by decide +kernel
theorem dX11_eventsThatMayHave_31 : decode cX11_eventsThatMayHave 31 = .ok (.iinc 2 1, 3) := by decide +kernel
theorem dX11_eventsThatMayHave_34 : decode cX11_eventsThatMayHave 34 = .ok (.iinc 3 1, 3) := by decide +kernel
theorem dX11_eventsThatMayHave_37 : decode cX11_eventsThatMayHave 37 = .ok (.goto (-33), 3) := by decide +kernel
theorem dX11_eventsThatMayHave_40 : decode cX11_eventsThatMayHave 40 = .ok (.iload_n 2, 1) := by decide +kernel
theorem dX11_eventsThatMayHave_41 : decode cX11_eventsThatMayHave 41 = .ok (.ireturn, 1) := by decide +kernel
theorem dX11_lastDayOfThoseThatMeet_0 : decode cX11_lastDayOfThoseThatMeet 0 = .ok (.iconst (-1), 1) := by decide +kernel
theorem dX11_lastDayOfThoseThatMeet_1 : decode cX11_lastDayOfThoseThatMeet 1 = .ok (.istore_n 3, 1) := by decide +kernel
theorem dX11_lastDayOfThoseThatMeet_2 : decode cX11_lastDayOfThoseThatMeet 2 = .ok (.iconst 0, 1) := by decide +kernel
theorem dX11_lastDayOfThoseThatMeet_3 : decode cX11_lastDayOfThoseThatMeet 3 = .ok (.istore 4, 2) := by decide +kernel
theorem dX11_lastDayOfThoseThatMeet_5 : decode cX11_lastDayOfThoseThatMeet 5 = .ok (.iload 4, 2) := by decide +kernel
theorem dX11_lastDayOfThoseThatMeet_7 : decode cX11_lastDayOfThoseThatMeet 7 = .ok (.bipush 6, 2) := by decide +kernel
theorem dX11_lastDayOfThoseThatMeet_9 : decode cX11_lastDayOfThoseThatMeet 9 = .ok (.if_icmp .ge 74, 3) := by decide +kernel
theorem dX11_lastDayOfThoseThatMeet_12 : decode cX11_lastDayOfThoseThatMeet 12 = .ok (.aload_n 0, 1) := by decide +kernel
theorem dX11_lastDayOfThoseThatMeet_13 : decode cX11_lastDayOfThoseThatMeet 13 = .ok (.getfield 40, 3) := by decide +kernel
theorem dX11_lastDayOfThoseThatMeet_16 : decode cX11_lastDayOfThoseThatMeet 16 = .ok (.iload 4, 2) := by decide +kernel
theorem dX11_lastDayOfThoseThatMeet_18 : decode cX11_lastDayOfThoseThatMeet 18 = .ok (.aload_n 0, 1) := by decide +kernel
theorem dX11_lastDayOfThoseThatMeet_19 : decode cX11_lastDayOfThoseThatMeet 19 = .ok (.invokevirtual 176, 3) := by decide +kernel
theorem dX11_lastDayOfThoseThatMeet_22 : decode cX11_lastDayOfThoseThatMeet 22 = .ok (.iload 4, 2) := by decide +kernel
theorem dX11_lastDayOfThoseThatMeet_24 : decode cX11_lastDayOfThoseThatMeet 24 = .ok (.invokevirtual 180, 3) := by decide +kernel
theorem dX11_lastDayOfThoseThatMeet_27 : decode cX11_lastDayOfThoseThatMeet 27 = .ok (.iload_n 1, 1) := by decide +kernel
theorem dX11_lastDayOfThoseThatMeet_28 : decode cX11_lastDayOfThoseThatMeet 28 = .ok (.iload_n 2, 1) := by decide +kernel
theorem dX11_lastDayOfThoseThatMeet_29 : decode cX11_lastDayOfThoseThatMeet 29 = .ok (.invokevirtual 273, 3) := by decide +kernel
theorem dX11_lastDayOfThoseThatMeet_32 : decode cX11_lastDayOfThoseThatMeet 32 = .ok (.istore 5, 2) := by decide +kernel
theorem dX11_lastDayOfThoseThatMeet_34 : decode cX11_lastDayOfThoseThatMeet 34 = .ok (.iconst 0, 1) := by decide +kernel
theorem dX11_lastDayOfThoseThatMeet_35 : decode cX11_lastDayOfThoseThatMeet 35 = .ok (.istore 6, 2) := by decide +kernel
theorem dX11_lastDayOfThoseThatMeet_37 : decode cX11_lastDayOfThoseThatMeet 37 = .ok (.iload 6, 2) := by decide +kernel
theorem dX11_lastDayOfThoseThatMeet_39 : decode cX11_lastDayOfThoseThatMeet 39 = .ok (.bipush 6, 2) := by decide +kernel
theorem dX11_lastDayOfThoseThatMeet_41 : decode cX11_lastDayOfThoseThatMeet 41 = .ok (.if_icmp .ge 36, 3) := by decide +kernel
theorem dX11_lastDayOfThoseThatMeet_44 : decode cX11_lastDayOfThoseThatMeet 44 = .ok (.iload 5, 2) := by decide +kernel
theorem dX11_lastDayOfThoseThatMeet_46 : decode cX11_lastDayOfThoseThatMeet 46 = .ok (.iload 6, 2) := by decide +kernel
theorem dX11_lastDayOfThoseThatMeet_48 : decode cX11_lastDayOfThoseThatMeet 48 = .ok (.invokestatic 196, 3) := by decide +kernel
theorem dX11_lastDayOfThoseThatMeet_51 : decode cX11_lastDayOfThoseThatMeet 51 = .ok (.ifCond .eq 20, 3) := by decide +kernel
theorem dX11_lastDayOfThoseThatMeet_54 : decode cX11_lastDayOfThoseThatMeet 54 = .ok (.iload_n 3, 1) := by decide +kernel
theorem dX11_lastDayOfThoseThatMeet_55 : decode cX11_lastDayOfThoseThatMeet 55 = .ok (.aload_n 0, 1) := by decide +kernel
theorem dX11_lastDayOfThoseThatMeet_56 : decode cX11_lastDayOfThoseThatMeet 56 = .ok (.getfield 40, 3) := by decide +kernel
theorem dX11_lastDayOfThoseThatMeet_59 : decode cX11_lastDayOfThoseThatMeet 59 = .ok (.iload 4, 2) := by decide +kernel
theorem dX11_lastDayOfThoseThatMeet_61 : decode cX11_lastDayOfThoseThatMeet 61 = .ok (.iload 6, 2) := by decide +kernel
theorem dX11_lastDayOfThoseThatMeet_63 : decode cX11_lastDayOfThoseThatMeet 63 = .ok (.iconst 1, 1) := by decide +kernel
theorem dX11_lastDayOfThoseThatMeet_64 : decode cX11_lastDayOfThoseThatMeet 64 = .ok (.invokevirtual 124, 3) := by decide +kernel
theorem dX11_lastDayOfThoseThatMeet_67 : decode cX11_lastDayOfThoseThatMeet 67 = .ok (.invokestatic 205, 3) := by decide +kernel
theorem dX11_lastDayOfThoseThatMeet_70 : decode cX11_lastDayOfThoseThatMeet 70 = .ok (.istore_n 3, 1) := by decide +kernel
theorem dX11_lastDayOfThoseThatMeet_71 : decode cX11_lastDayOfThoseThatMeet 71 = .ok (.iinc 6 1, 3) := by decide +kernel
theorem dX11_lastDayOfThoseThatMeet_74 : decode cX11_lastDayOfThoseThatMeet 74 = .ok (.goto (-37), 3) := by decide +kernel
theorem dX11_lastDayOfThoseThatMeet_77 : decode cX11_lastDayOfThoseThatMeet 77 = .ok (.iinc 4 1, 3) := by decide +kernel
theorem dX11_lastDayOfThoseThatMeet_80 : decode cX11_lastDayOfThoseThatMeet 80 = .ok (.goto (-75), 3) := by decide +kernel
theorem dX11_lastDayOfThoseThatMeet_83 : decode cX11_lastDayOfThoseThatMeet 83 = .ok (.iload_n 3, 1) := by decide +kernel
theorem dX11_lastDayOfThoseThatMeet_84 : decode cX11_lastDayOfThoseThatMeet 84 = .ok (.ireturn, 1) := by decide +kernel
theorem dX11_digitsOfAct_0 : decode cX11_digitsOfAct 0 = .ok (.iload_n 0, 1) := by decide +kernel
theorem dX11_digitsOfAct_1 : decode cX11_digitsOfAct 1 = .ok (.tableswitch 89 100 114 #[85, 89, 87, 77, 89, 81, 89, 89, 89, 89, 83, 75, 89, 89, 79], 75) := by decide +kernel
theorem dX11_digitsOfAct_76 : decode cX11_digitsOfAct 76 = .ok (.iconst 3, 1) := by decide +kernel
theorem dX11_digitsOfAct_77 : decode cX11_digitsOfAct 77 = .ok (.ireturn, 1) := by decide +kernel
theorem dX11_digitsOfAct_78 : decode cX11_digitsOfAct 78 = .ok (.iconst 1, 1) := by decide +kernel
theorem dX11_digitsOfAct_79 : decode cX11_digitsOfAct 79 = .ok (.ireturn, 1) := by decide +kernel
theorem dX11_digitsOfAct_80 : decode cX11_digitsOfAct 80 = .ok (.iconst 2, 1) := by decide +kernel
theorem dX11_digitsOfAct_81 : decode cX11_digitsOfAct 81 = .ok (.ireturn, 1) := by decide +kernel
theorem dX11_digitsOfAct_82 : decode cX11_digitsOfAct 82 = .ok (.iconst 2, 1) := by decide +kernel
theorem dX11_digitsOfAct_83 : decode cX11_digitsOfAct 83 = .ok (.ireturn, 1) := by decide +kernel
theorem dX11_digitsOfAct_84 : decode cX11_digitsOfAct 84 = .ok (.iconst 0, 1) := by decide +kernel
theorem dX11_digitsOfAct_85 : decode cX11_digitsOfAct 85 = .ok (.ireturn, 1) := by decide +kernel
theorem dX11_digitsOfAct_86 : decode cX11_digitsOfAct 86 = .ok (.iconst 1, 1) := by decide +kernel
theorem dX11_digitsOfAct_87 : decode cX11_digitsOfAct 87 = .ok (.ireturn, 1) := by decide +kernel
theorem dX11_digitsOfAct_88 : decode cX11_digitsOfAct 88 = .ok (.iconst 4, 1) := by decide +kernel
theorem dX11_digitsOfAct_89 : decode cX11_digitsOfAct 89 = .ok (.ireturn, 1) := by decide +kernel
theorem dX11_digitsOfAct_90 : decode cX11_digitsOfAct 90 = .ok (.iconst (-1), 1) := by decide +kernel
theorem dX11_digitsOfAct_91 : decode cX11_digitsOfAct 91 = .ok (.ireturn, 1) := by decide +kernel
theorem dX11_faultOfWork_0 : decode cX11_faultOfWork 0 = .ok (.iconst 0, 1) := by decide +kernel
theorem dX11_faultOfWork_1 : decode cX11_faultOfWork 1 = .ok (.istore_n 1, 1) := by decide +kernel
theorem dX11_faultOfWork_2 : decode cX11_faultOfWork 2 = .ok (.iconst 0, 1) := by decide +kernel
theorem dX11_faultOfWork_3 : decode cX11_faultOfWork 3 = .ok (.istore_n 2, 1) := by decide +kernel
theorem dX11_faultOfWork_4 : decode cX11_faultOfWork 4 = .ok (.iload_n 2, 1) := by decide +kernel
theorem dX11_faultOfWork_5 : decode cX11_faultOfWork 5 = .ok (.aload_n 0, 1) := by decide +kernel
theorem dX11_faultOfWork_6 : decode cX11_faultOfWork 6 = .ok (.getfield 10, 3) := by decide +kernel
theorem dX11_faultOfWork_9 : decode cX11_faultOfWork 9 = .ok (.getfield 295, 3) := by decide +kernel
theorem dX11_faultOfWork_12 : decode cX11_faultOfWork 12 = .ok (.if_icmp .ge 51, 3) := by decide +kernel
theorem dX11_faultOfWork_15 : decode cX11_faultOfWork 15 = .ok (.iload_n 1, 1) := by decide +kernel
theorem dX11_faultOfWork_16 : decode cX11_faultOfWork 16 = .ok (.ifCond .le 22, 3) := by decide +kernel
theorem dX11_faultOfWork_19 : decode cX11_faultOfWork 19 = .ok (.aload_n 0, 1) := by decide +kernel
theorem dX11_faultOfWork_20 : decode cX11_faultOfWork 20 = .ok (.getfield 10, 3) := by decide +kernel
theorem dX11_faultOfWork_23 : decode cX11_faultOfWork 23 = .ok (.iload_n 2, 1) := by decide +kernel
theorem dX11_faultOfWork_24 : decode cX11_faultOfWork 24 = .ok (.invokevirtual 348, 3) := by decide +kernel
theorem dX11_faultOfWork_27 : decode cX11_faultOfWork 27 = .ok (.ifCond .ne 5, 3) := by decide +kernel
theorem dX11_faultOfWork_30 : decode cX11_faultOfWork 30 = .ok (.iload_n 2, 1) := by decide +kernel
theorem dX11_faultOfWork_31 : decode cX11_faultOfWork 31 = .ok (.ireturn, 1) := by decide +kernel
theorem dX11_faultOfWork_32 : decode cX11_faultOfWork 32 = .ok (.iinc 1 (-1), 3) := by decide +kernel
theorem dX11_faultOfWork_35 : decode cX11_faultOfWork 35 = .ok (.goto 22, 3) := by decide +kernel
theorem dX11_faultOfWork_38 : decode cX11_faultOfWork 38 = .ok (.aload_n 0, 1) := by decide +kernel
theorem dX11_faultOfWork_39 : decode cX11_faultOfWork 39 = .ok (.getfield 10, 3) := by decide +kernel
theorem dX11_faultOfWork_42 : decode cX11_faultOfWork 42 = .ok (.iload_n 2, 1) := by decide +kernel
theorem dX11_faultOfWork_43 : decode cX11_faultOfWork 43 = .ok (.invokevirtual 301, 3) := by decide +kernel
theorem dX11_faultOfWork_46 : decode cX11_faultOfWork 46 = .ok (.invokestatic 304, 3) := by decide +kernel
theorem dX11_faultOfWork_49 : decode cX11_faultOfWork 49 = .ok (.istore_n 1, 1) := by decide +kernel
theorem dX11_faultOfWork_50 : decode cX11_faultOfWork 50 = .ok (.iload_n 1, 1) := by decide +kernel
theorem dX11_faultOfWork_51 : decode cX11_faultOfWork 51 = .ok (.iconst (-1), 1) := by decide +kernel
theorem dX11_faultOfWork_52 : decode cX11_faultOfWork 52 = .ok (.if_icmp .ne 5, 3) := by decide +kernel
theorem dX11_faultOfWork_55 : decode cX11_faultOfWork 55 = .ok (.iload_n 2, 1) := by decide +kernel
theorem dX11_faultOfWork_56 : decode cX11_faultOfWork 56 = .ok (.ireturn, 1) := by decide +kernel
theorem dX11_faultOfWork_57 : decode cX11_faultOfWork 57 = .ok (.iinc 2 1, 3) := by decide +kernel
theorem dX11_faultOfWork_60 : decode cX11_faultOfWork 60 = .ok (.goto (-56), 3) := by decide +kernel
theorem dX11_faultOfWork_63 : decode cX11_faultOfWork 63 = .ok (.iload_n 1, 1) := by decide +kernel
theorem dX11_faultOfWork_64 : decode cX11_faultOfWork 64 = .ok (.ifCond .le 13, 3) := by decide +kernel
theorem dX11_faultOfWork_67 : decode cX11_faultOfWork 67 = .ok (.aload_n 0, 1) := by decide +kernel
theorem dX11_faultOfWork_68 : decode cX11_faultOfWork 68 = .ok (.getfield 10, 3) := by decide +kernel
theorem dX11_faultOfWork_71 : decode cX11_faultOfWork 71 = .ok (.getfield 295, 3) := by decide +kernel
theorem dX11_faultOfWork_74 : decode cX11_faultOfWork 74 = .ok (.goto 4, 3) := by decide +kernel
theorem dX11_faultOfWork_77 : decode cX11_faultOfWork 77 = .ok (.iconst (-1), 1) := by decide +kernel
theorem dX11_faultOfWork_78 : decode cX11_faultOfWork 78 = .ok (.ireturn, 1) := by decide +kernel
theorem dX11_act_0 : decode cX11_act 0 = .ok (.aload_n 0, 1) := by decide +kernel
theorem dX11_act_1 : decode cX11_act 1 = .ok (.getfield 10, 3) := by decide +kernel
theorem dX11_act_4 : decode cX11_act 4 = .ok (.iload_n 1, 1) := by decide +kernel
theorem dX11_act_5 : decode cX11_act 5 = .ok (.iconst 1, 1) := by decide +kernel
theorem dX11_act_6 : decode cX11_act 6 = .ok (.iadd, 1) := by decide +kernel
theorem dX11_act_7 : decode cX11_act 7 = .ok (.invokevirtual 351, 3) := by decide +kernel
theorem dX11_act_10 : decode cX11_act 10 = .ok (.istore_n 2, 1) := by decide +kernel
theorem dX11_act_11 : decode cX11_act 11 = .ok (.aload_n 0, 1) := by decide +kernel
theorem dX11_act_12 : decode cX11_act 12 = .ok (.getfield 10, 3) := by decide +kernel
theorem dX11_act_15 : decode cX11_act 15 = .ok (.iload_n 1, 1) := by decide +kernel
theorem dX11_act_16 : decode cX11_act 16 = .ok (.iconst 2, 1) := by decide +kernel
theorem dX11_act_17 : decode cX11_act 17 = .ok (.iadd, 1) := by decide +kernel
theorem dX11_act_18 : decode cX11_act 18 = .ok (.invokevirtual 351, 3) := by decide +kernel
theorem dX11_act_21 : decode cX11_act 21 = .ok (.istore_n 3, 1) := by decide +kernel
theorem dX11_act_22 : decode cX11_act 22 = .ok (.aload_n 0, 1) := by decide +kernel
theorem dX11_act_23 : decode cX11_act 23 = .ok (.getfield 10, 3) := by decide +kernel
theorem dX11_act_26 : decode cX11_act 26 = .ok (.iload_n 1, 1) := by decide +kernel
theorem dX11_act_27 : decode cX11_act 27 = .ok (.iconst 3, 1) := by decide +kernel
theorem dX11_act_28 : decode cX11_act 28 = .ok (.iadd, 1) := by decide +kernel
theorem dX11_act_29 : decode cX11_act 29 = .ok (.invokevirtual 351, 3) := by decide +kernel
theorem dX11_act_32 : decode cX11_act 32 = .ok (.istore 4, 2) := by decide +kernel
theorem dX11_act_34 : decode cX11_act 34 = .ok (.aload_n 0, 1) := by decide +kernel
theorem dX11_act_35 : decode cX11_act 35 = .ok (.getfield 10, 3) := by decide +kernel
theorem dX11_act_38 : decode cX11_act 38 = .ok (.iload_n 1, 1) := by decide +kernel
theorem dX11_act_39 : decode cX11_act 39 = .ok (.invokevirtual 301, 3) := by decide +kernel
theorem dX11_act_42 : decode cX11_act 42 = .ok (.tableswitch 175 100 114 #[131, 175, 140, 88, 175, 108, 175, 175, 175, 175, 119, 74, 175, 175, 97], 74) := by decide +kernel
theorem dX11_act_116 : decode cX11_act 116 = .ok (.aload_n 0, 1) := by decide +kernel
theorem dX11_act_117 : decode cX11_act 117 = .ok (.getfield 40, 3) := by decide +kernel
theorem dX11_act_120 : decode cX11_act 120 = .ok (.iload_n 2, 1) := by decide +kernel
theorem dX11_act_121 : decode cX11_act 121 = .ok (.iload_n 3, 1) := by decide +kernel
theorem dX11_act_122 : decode cX11_act 122 = .ok (.iload 4, 2) := by decide +kernel
theorem dX11_act_124 : decode cX11_act 124 = .ok (.bipush 10, 2) := by decide +kernel
theorem dX11_act_126 : decode cX11_act 126 = .ok (.invokevirtual 208, 3) := by decide +kernel
theorem dX11_act_129 : decode cX11_act 129 = .ok (.ireturn, 1) := by decide +kernel
theorem dX11_act_130 : decode cX11_act 130 = .ok (.aload_n 0, 1) := by decide +kernel
theorem dX11_act_131 : decode cX11_act 131 = .ok (.getfield 40, 3) := by decide +kernel
theorem dX11_act_134 : decode cX11_act 134 = .ok (.iload_n 2, 1) := by decide +kernel
theorem dX11_act_135 : decode cX11_act 135 = .ok (.invokevirtual 264, 3) := by decide +kernel
theorem dX11_act_138 : decode cX11_act 138 = .ok (.ireturn, 1) := by decide +kernel
theorem dX11_act_139 : decode cX11_act 139 = .ok (.aload_n 0, 1) := by decide +kernel
theorem dX11_act_140 : decode cX11_act 140 = .ok (.getfield 40, 3) := by decide +kernel
theorem dX11_act_143 : decode cX11_act 143 = .ok (.iload_n 2, 1) := by decide +kernel
theorem dX11_act_144 : decode cX11_act 144 = .ok (.iload_n 3, 1) := by decide +kernel
theorem dX11_act_145 : decode cX11_act 145 = .ok (.iconst 1, 1) := by decide +kernel
theorem dX11_act_146 : decode cX11_act 146 = .ok (.invokevirtual 247, 3) := by decide +kernel
theorem dX11_act_149 : decode cX11_act 149 = .ok (.ireturn, 1) := by decide +kernel
theorem dX11_act_150 : decode cX11_act 150 = .ok (.aload_n 0, 1) := by decide +kernel
theorem dX11_act_151 : decode cX11_act 151 = .ok (.getfield 40, 3) := by decide +kernel
theorem dX11_act_154 : decode cX11_act 154 = .ok (.iload_n 2, 1) := by decide +kernel
theorem dX11_act_155 : decode cX11_act 155 = .ok (.iload_n 3, 1) := by decide +kernel
theorem dX11_act_156 : decode cX11_act 156 = .ok (.iconst 0, 1) := by decide +kernel
theorem dX11_act_157 : decode cX11_act 157 = .ok (.invokevirtual 247, 3) := by decide +kernel
theorem dX11_act_160 : decode cX11_act 160 = .ok (.ireturn, 1) := by decide +kernel
theorem dX11_act_161 : decode cX11_act 161 = .ok (.aload_n 0, 1) := by decide +kernel
theorem dX11_act_162 : decode cX11_act 162 = .ok (.getfield 40, 3) := by decide +kernel
theorem dX11_act_165 : decode cX11_act 165 = .ok (.aload_n 0, 1) := by decide +kernel
theorem dX11_act_166 : decode cX11_act 166 = .ok (.invokevirtual 176, 3) := by decide +kernel
theorem dX11_act_169 : decode cX11_act 169 = .ok (.invokevirtual 285, 3) := by decide +kernel
theorem dX11_act_172 : decode cX11_act 172 = .ok (.ireturn, 1) := by decide +kernel
theorem dX11_act_173 : decode cX11_act 173 = .ok (.aload_n 0, 1) := by decide +kernel
theorem dX11_act_174 : decode cX11_act 174 = .ok (.getfield 40, 3) := by decide +kernel
theorem dX11_act_177 : decode cX11_act 177 = .ok (.iload_n 2, 1) := by decide +kernel
theorem dX11_act_178 : decode cX11_act 178 = .ok (.invokevirtual 289, 3) := by decide +kernel
theorem dX11_act_181 : decode cX11_act 181 = .ok (.ireturn, 1) := by decide +kernel
theorem dX11_act_182 : decode cX11_act 182 = .ok (.aload_n 0, 1) := by decide +kernel
theorem dX11_act_183 : decode cX11_act 183 = .ok (.getfield 40, 3) := by decide +kernel
theorem dX11_act_186 : decode cX11_act 186 = .ok (.iload_n 2, 1) := by decide +kernel
theorem dX11_act_187 : decode cX11_act 187 = .ok (.sipush 1000, 3) := by decide +kernel
theorem dX11_act_190 : decode cX11_act 190 = .ok (.imul, 1) := by decide +kernel
theorem dX11_act_191 : decode cX11_act 191 = .ok (.iload_n 3, 1) := by decide +kernel
theorem dX11_act_192 : decode cX11_act 192 = .ok (.bipush 100, 2) := by decide +kernel
theorem dX11_act_194 : decode cX11_act 194 = .ok (.imul, 1) := by decide +kernel
theorem dX11_act_195 : decode cX11_act 195 = .ok (.iadd, 1) := by decide +kernel
theorem dX11_act_196 : decode cX11_act 196 = .ok (.iload 4, 2) := by decide +kernel
theorem dX11_act_198 : decode cX11_act 198 = .ok (.bipush 10, 2) := by decide +kernel
theorem dX11_act_200 : decode cX11_act 200 = .ok (.imul, 1) := by decide +kernel
theorem dX11_act_201 : decode cX11_act 201 = .ok (.iadd, 1) := by decide +kernel
theorem dX11_act_202 : decode cX11_act 202 = .ok (.aload_n 0, 1) := by decide +kernel
theorem dX11_act_203 : decode cX11_act 203 = .ok (.getfield 10, 3) := by decide +kernel
theorem dX11_act_206 : decode cX11_act 206 = .ok (.iload_n 1, 1) := by decide +kernel
theorem dX11_act_207 : decode cX11_act 207 = .ok (.iconst 4, 1) := by decide +kernel
theorem dX11_act_208 : decode cX11_act 208 = .ok (.iadd, 1) := by decide +kernel
theorem dX11_act_209 : decode cX11_act 209 = .ok (.invokevirtual 351, 3) := by decide +kernel
theorem dX11_act_212 : decode cX11_act 212 = .ok (.iadd, 1) := by decide +kernel
theorem dX11_act_213 : decode cX11_act 213 = .ok (.invokevirtual 282, 3) := by decide +kernel
theorem dX11_act_216 : decode cX11_act 216 = .ok (.ireturn, 1) := by decide +kernel
theorem dX11_act_217 : decode cX11_act 217 = .ok (.iconst (-1), 1) := by decide +kernel
theorem dX11_act_218 : decode cX11_act 218 = .ok (.ireturn, 1) := by decide +kernel
theorem dX11_nextDrawn_0 : decode cX11_nextDrawn 0 = .ok (.iload_n 0, 1) := by decide +kernel
theorem dX11_nextDrawn_1 : decode cX11_nextDrawn 1 = .ok (.ldc_w 354, 3) := by decide +kernel
theorem dX11_nextDrawn_4 : decode cX11_nextDrawn 4 = .ok (.imul, 1) := by decide +kernel
theorem dX11_nextDrawn_5 : decode cX11_nextDrawn 5 = .ok (.sipush 12345, 3) := by decide +kernel
theorem dX11_nextDrawn_8 : decode cX11_nextDrawn 8 = .ok (.iadd, 1) := by decide +kernel
theorem dX11_nextDrawn_9 : decode cX11_nextDrawn 9 = .ok (.ireturn, 1) := by decide +kernel
theorem dX11_drawOf_0 : decode cX11_drawOf 0 = .ok (.iload_n 1, 1) := by decide +kernel
theorem dX11_drawOf_1 : decode cX11_drawOf 1 = .ok (.iconst 1, 1) := by decide +kernel
theorem dX11_drawOf_2 : decode cX11_drawOf 2 = .ok (.if_icmp .ge 7, 3) := by decide +kernel
theorem dX11_drawOf_5 : decode cX11_drawOf 5 = .ok (.iconst 0, 1) := by decide +kernel
theorem dX11_drawOf_6 : decode cX11_drawOf 6 = .ok (.goto 9, 3) := by decide +kernel
theorem dX11_drawOf_9 : decode cX11_drawOf 9 = .ok (.iload_n 0, 1) := by decide +kernel
theorem dX11_drawOf_10 : decode cX11_drawOf 10 = .ok (.bipush 16, 2) := by decide +kernel
theorem dX11_drawOf_12 : decode cX11_drawOf 12 = .ok (.iushr, 1) := by decide +kernel
theorem dX11_drawOf_13 : decode cX11_drawOf 13 = .ok (.iload_n 1, 1) := by decide +kernel
theorem dX11_drawOf_14 : decode cX11_drawOf 14 = .ok (.irem, 1) := by decide +kernel
theorem dX11_drawOf_15 : decode cX11_drawOf 15 = .ok (.ireturn, 1) := by decide +kernel
