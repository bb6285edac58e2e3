theorem dX12_init_0 : decode cX12_init 0 = .ok (.aload_n 0, 1) := by decide +kernel
theorem dX12_init_1 : decode cX12_init 1 = .ok (.invokespecial 3, 3) := by decide +kernel
theorem dX12_init_4 : decode cX12_init 4 = .ok (.aload_n 0, 1) := by decide +kernel
theorem dX12_init_5 : decode cX12_init 5 = .ok (.sipush 218, 3) := by decide +kernel
theorem dX12_init_8 : decode cX12_init 8 = .ok (.newarray .int, 2) := by decide +kernel
theorem dX12_init_10 : decode cX12_init 10 = .ok (.putfield 9, 3) := by decide +kernel
theorem dX12_init_13 : decode cX12_init 13 = .ok (.aload_n 0, 1) := by decide +kernel
theorem dX12_init_14 : decode cX12_init 14 = .ok (.bipush 80, 2) := by decide +kernel
theorem dX12_init_16 : decode cX12_init 16 = .ok (.newarray .byte, 2) := by decide +kernel
theorem dX12_init_18 : decode cX12_init 18 = .ok (.putfield 13, 3) := by decide +kernel
theorem dX12_init_21 : decode cX12_init 21 = .ok (.aload_n 0, 1) := by decide +kernel
theorem dX12_init_22 : decode cX12_init 22 = .ok (.bipush 64, 2) := by decide +kernel
theorem dX12_init_24 : decode cX12_init 24 = .ok (.newarray .long, 2) := by decide +kernel
theorem dX12_init_26 : decode cX12_init 26 = .ok (.putfield 17, 3) := by decide +kernel
theorem dX12_init_29 : decode cX12_init 29 = .ok (.aload_n 0, 1) := by decide +kernel
theorem dX12_init_30 : decode cX12_init 30 = .ok (.sipush 4096, 3) := by decide +kernel
theorem dX12_init_33 : decode cX12_init 33 = .ok (.newarray .int, 2) := by decide +kernel
theorem dX12_init_35 : decode cX12_init 35 = .ok (.putfield 21, 3) := by decide +kernel
theorem dX12_init_38 : decode cX12_init 38 = .ok (.aload_n 0, 1) := by decide +kernel
theorem dX12_init_39 : decode cX12_init 39 = .ok (.bipush 6, 2) := by decide +kernel
theorem dX12_init_41 : decode cX12_init 41 = .ok (.newarray .int, 2) := by decide +kernel
theorem dX12_init_43 : decode cX12_init 43 = .ok (.putfield 24, 3) := by decide +kernel
theorem dX12_init_46 : decode cX12_init 46 = .ok (.aload_n 0, 1) := by decide +kernel
theorem dX12_init_47 : decode cX12_init 47 = .ok (.bipush 36, 2) := by decide +kernel
theorem dX12_init_49 : decode cX12_init 49 = .ok (.newarray .int, 2) := by decide +kernel
theorem dX12_init_51 : decode cX12_init 51 = .ok (.putfield 27, 3) := by decide +kernel
theorem dX12_init_54 : decode cX12_init 54 = .ok (.aload_n 0, 1) := by decide +kernel
theorem dX12_init_55 : decode cX12_init 55 = .ok (.bipush 6, 2) := by decide +kernel
theorem dX12_init_57 : decode cX12_init 57 = .ok (.newarray .int, 2) := by decide +kernel
theorem dX12_init_59 : decode cX12_init 59 = .ok (.putfield 30, 3) := by decide +kernel
theorem dX12_init_62 : decode cX12_init 62 = .ok (.aload_n 0, 1) := by decide +kernel
theorem dX12_init_63 : decode cX12_init 63 = .ok (.bipush 6, 2) := by decide +kernel
theorem dX12_init_65 : decode cX12_init 65 = .ok (.newarray .int, 2) := by decide +kernel
theorem dX12_init_67 : decode cX12_init 67 = .ok (.putfield 33, 3) := by decide +kernel
theorem dX12_init_70 : decode cX12_init 70 = .ok (.aload_n 0, 1) := by decide +kernel
theorem dX12_init_71 : decode cX12_init 71 = .ok (.sipush 218, 3) := by decide +kernel
theorem dX12_init_74 : decode cX12_init 74 = .ok (.newarray .int, 2) := by decide +kernel
theorem dX12_init_76 : decode cX12_init 76 = .ok (.putfield 36, 3) := by decide +kernel
theorem dX12_init_79 : decode cX12_init 79 = .ok (.aload_n 0, 1) := by decide +kernel
theorem dX12_init_80 : decode cX12_init 80 = .ok (.sipush 1744, 3) := by decide +kernel
theorem dX12_init_83 : decode cX12_init 83 = .ok (.newarray .int, 2) := by decide +kernel
theorem dX12_init_85 : decode cX12_init 85 = .ok (.putfield 39, 3) := by decide +kernel
theorem dX12_init_88 : decode cX12_init 88 = .ok (.aload_n 0, 1) := by decide +kernel
theorem dX12_init_89 : decode cX12_init 89 = .ok (.sipush 218, 3) := by decide +kernel
theorem dX12_init_92 : decode cX12_init 92 = .ok (.newarray .int, 2) := by decide +kernel
theorem dX12_init_94 : decode cX12_init 94 = .ok (.putfield 42, 3) := by decide +kernel
theorem dX12_init_97 : decode cX12_init 97 = .ok (.aload_n 0, 1) := by decide +kernel
theorem dX12_init_98 : decode cX12_init 98 = .ok (.sipush 320, 3) := by decide +kernel
theorem dX12_init_101 : decode cX12_init 101 = .ok (.newarray .int, 2) := by decide +kernel
theorem dX12_init_103 : decode cX12_init 103 = .ok (.putfield 45, 3) := by decide +kernel
theorem dX12_init_106 : decode cX12_init 106 = .ok (.aload_n 0, 1) := by decide +kernel
theorem dX12_init_107 : decode cX12_init 107 = .ok (.sipush 436, 3) := by decide +kernel
theorem dX12_init_110 : decode cX12_init 110 = .ok (.newarray .int, 2) := by decide +kernel
theorem dX12_init_112 : decode cX12_init 112 = .ok (.putfield 48, 3) := by decide +kernel
theorem dX12_init_115 : decode cX12_init 115 = .ok (.aload_n 0, 1) := by decide +kernel
theorem dX12_init_116 : decode cX12_init 116 = .ok (.iconst 2, 1) := by decide +kernel
theorem dX12_init_117 : decode cX12_init 117 = .ok (.newarray .boolean, 2) := by decide +kernel
theorem dX12_init_119 : decode cX12_init 119 = .ok (.putfield 51, 3) := by decide +kernel
theorem dX12_init_122 : decode cX12_init 122 = .ok (.aload_n 0, 1) := by decide +kernel
theorem dX12_init_123 : decode cX12_init 123 = .ok (.getfield 9, 3) := by decide +kernel
theorem dX12_init_126 : decode cX12_init 126 = .ok (.iconst 0, 1) := by decide +kernel
theorem dX12_init_127 : decode cX12_init 127 = .ok (.sipush 3000, 3) := by decide +kernel
theorem dX12_init_130 : decode cX12_init 130 = .ok (.iastore, 1) := by decide +kernel
theorem dX12_init_131 : decode cX12_init 131 = .ok (.iconst 0, 1) := by decide +kernel
theorem dX12_init_132 : decode cX12_init 132 = .ok (.istore_n 1, 1) := by decide +kernel
theorem dX12_init_133 : decode cX12_init 133 = .ok (.iload_n 1, 1) := by decide +kernel
theorem dX12_init_134 : decode cX12_init 134 = .ok (.bipush 6, 2) := by decide +kernel
theorem dX12_init_136 : decode cX12_init 136 = .ok (.if_icmp .ge 18, 3) := by decide +kernel
theorem dX12_init_139 : decode cX12_init 139 = .ok (.aload_n 0, 1) := by decide +kernel
theorem dX12_init_140 : decode cX12_init 140 = .ok (.getfield 9, 3) := by decide +kernel
theorem dX12_init_143 : decode cX12_init 143 = .ok (.iconst 2, 1) := by decide +kernel
theorem dX12_init_144 : decode cX12_init 144 = .ok (.iload_n 1, 1) := by decide +kernel
theorem dX12_init_145 : decode cX12_init 145 = .ok (.iadd, 1) := by decide +kernel
theorem dX12_init_146 : decode cX12_init 146 = .ok (.iconst (-1), 1) := by decide +kernel
theorem dX12_init_147 : decode cX12_init 147 = .ok (.iastore, 1) := by decide +kernel
theorem dX12_init_148 : decode cX12_init 148 = .ok (.iinc 1 1, 3) := by decide +kernel
theorem dX12_init_151 : decode cX12_init 151 = .ok (.goto (-18), 3) := by decide +kernel
theorem dX12_init_154 : decode cX12_init 154 = .ok (.return_, 1) := by decide +kernel
theorem dX12_thrown_0 : decode cX12_thrown 0 = .ok (.aload_n 0, 1) := by decide +kernel
theorem dX12_thrown_1 : decode cX12_thrown 1 = .ok (.getfield 55, 3) := by decide +kernel
theorem dX12_thrown_4 : decode cX12_thrown 4 = .ok (.ireturn, 1) := by decide +kernel
theorem dX12_in_0 : decode cX12_in 0 = .ok (.iload_n 0, 1) := by decide +kernel
theorem dX12_in_1 : decode cX12_in 1 = .ok (.iload_n 1, 1) := by decide +kernel
theorem dX12_in_2 : decode cX12_in 2 = .ok (.if_icmp .lt 12, 3) := by decide +kernel
theorem dX12_in_5 : decode cX12_in 5 = .ok (.iload_n 0, 1) := by decide +kernel
theorem dX12_in_6 : decode cX12_in 6 = .ok (.iload_n 2, 1) := by decide +kernel
theorem dX12_in_7 : decode cX12_in 7 = .ok (.if_icmp .gt 7, 3) := by decide +kernel
theorem dX12_in_10 : decode cX12_in 10 = .ok (.iconst 1, 1) := by decide +kernel
theorem dX12_in_11 : decode cX12_in 11 = .ok (.goto 4, 3) := by decide +kernel
theorem dX12_in_14 : decode cX12_in 14 = .ok (.iconst 0, 1) := by decide +kernel
theorem dX12_in_15 : decode cX12_in 15 = .ok (.ireturn, 1) := by decide +kernel
theorem dX12_lost_0 : decode cX12_lost 0 = .ok (.aload_n 0, 1) := by decide +kernel
theorem dX12_lost_1 : decode cX12_lost 1 = .ok (.iconst 1, 1) := by decide +kernel
theorem dX12_lost_2 : decode cX12_lost 2 = .ok (.putfield 55, 3) := by decide +kernel
theorem dX12_lost_5 : decode cX12_lost 5 = .ok (.iconst 0, 1) := by decide +kernel
theorem dX12_lost_6 : decode cX12_lost 6 = .ok (.ireturn, 1) := by decide +kernel
theorem dX12_tell_0 : decode cX12_tell 0 = .ok (.aload_n 0, 1) := by decide +kernel
theorem dX12_tell_1 : decode cX12_tell 1 = .ok (.getfield 17, 3) := by decide +kernel
theorem dX12_tell_4 : decode cX12_tell 4 = .ok (.aload_n 0, 1) := by decide +kernel
theorem dX12_tell_5 : decode cX12_tell 5 = .ok (.getfield 59, 3) := by decide +kernel
theorem dX12_tell_8 : decode cX12_tell 8 = .ok (.lload_n 1, 1) := by decide +kernel
theorem dX12_tell_9 : decode cX12_tell 9 = .ok (.lastore, 1) := by decide +kernel
theorem dX12_tell_10 : decode cX12_tell 10 = .ok (.aload_n 0, 1) := by decide +kernel
theorem dX12_tell_11 : decode cX12_tell 11 = .ok (.dup, 1) := by decide +kernel
theorem dX12_tell_12 : decode cX12_tell 12 = .ok (.getfield 59, 3) := by decide +kernel
theorem dX12_tell_15 : decode cX12_tell 15 = .ok (.iconst 1, 1) := by decide +kernel
theorem dX12_tell_16 : decode cX12_tell 16 = .ok (.iadd, 1) := by decide +kernel
theorem dX12_tell_17 : decode cX12_tell 17 = .ok (.putfield 59, 3) := by decide +kernel
theorem dX12_tell_20 : decode cX12_tell 20 = .ok (.return_, 1) := by decide +kernel
theorem dX12_countBits_0 : decode cX12_countBits 0 = .ok (.iconst 0, 1) := by decide +kernel
theorem dX12_countBits_1 : decode cX12_countBits 1 = .ok (.istore_n 1, 1) := by decide +kernel
theorem dX12_countBits_2 : decode cX12_countBits 2 = .ok (.iload_n 0, 1) := by decide +kernel
theorem dX12_countBits_3 : decode cX12_countBits 3 = .ok (.istore_n 2, 1) := by decide +kernel
theorem dX12_countBits_4 : decode cX12_countBits 4 = .ok (.iload_n 2, 1) := by decide +kernel
theorem dX12_countBits_5 : decode cX12_countBits 5 = .ok (.ifCond .eq 15, 3) := by decide +kernel
theorem dX12_countBits_8 : decode cX12_countBits 8 = .ok (.iinc 1 1, 3) := by decide +kernel
theorem dX12_countBits_11 : decode cX12_countBits 11 = .ok (.iload_n 2, 1) := by decide +kernel
theorem dX12_countBits_12 : decode cX12_countBits 12 = .ok (.iload_n 2, 1) := by decide +kernel
theorem dX12_countBits_13 : decode cX12_countBits 13 = .ok (.iconst 1, 1) := by decide +kernel
theorem dX12_countBits_14 : decode cX12_countBits 14 = .ok (.isub, 1) := by decide +kernel
theorem dX12_countBits_15 : decode cX12_countBits 15 = .ok (.iand, 1) := by decide +kernel
theorem dX12_countBits_16 : decode cX12_countBits 16 = .ok (.istore_n 2, 1) := by decide +kernel
theorem dX12_countBits_17 : decode cX12_countBits 17 = .ok (.goto (-13), 3) := by decide +kernel
theorem dX12_countBits_20 : decode cX12_countBits 20 = .ok (.iload_n 1, 1) := by decide +kernel
theorem dX12_countBits_21 : decode cX12_countBits 21 = .ok (.ireturn, 1) := by decide +kernel
theorem dX12_isDay_0 : decode cX12_isDay 0 = .ok (.iload_n 0, 1) := by decide +kernel
theorem dX12_isDay_1 : decode cX12_isDay 1 = .ok (.iconst 0, 1) := by decide +kernel
theorem dX12_isDay_2 : decode cX12_isDay 2 = .ok (.sipush 9999, 3) := by decide +kernel
theorem dX12_isDay_5 : decode cX12_isDay 5 = .ok (.invokestatic 62, 3) := by decide +kernel
theorem dX12_isDay_8 : decode cX12_isDay 8 = .ok (.ireturn, 1) := by decide +kernel
theorem dX12_monthLength_0 : decode cX12_monthLength 0 = .ok (.iload_n 1, 1) := by decide +kernel
theorem dX12_monthLength_1 : decode cX12_monthLength 1 = .ok (.iconst 2, 1) := by decide +kernel
theorem dX12_monthLength_2 : decode cX12_monthLength 2 = .ok (.if_icmp .ne 17, 3) := by decide +kernel
theorem dX12_monthLength_5 : decode cX12_monthLength 5 = .ok (.iload_n 0, 1) := by decide +kernel
theorem dX12_monthLength_6 : decode cX12_monthLength 6 = .ok (.iconst 4, 1) := by decide +kernel
theorem dX12_monthLength_7 : decode cX12_monthLength 7 = .ok (.irem, 1) := by decide +kernel
theorem dX12_monthLength_8 : decode cX12_monthLength 8 = .ok (.ifCond .ne 8, 3) := by decide +kernel
theorem dX12_monthLength_11 : decode cX12_monthLength 11 = .ok (.bipush 29, 2) := by decide +kernel
theorem dX12_monthLength_13 : decode cX12_monthLength 13 = .ok (.goto 5, 3) := by decide +kernel
theorem dX12_monthLength_16 : decode cX12_monthLength 16 = .ok (.bipush 28, 2) := by decide +kernel
theorem dX12_monthLength_18 : decode cX12_monthLength 18 = .ok (.ireturn, 1) := by decide +kernel
theorem dX12_monthLength_19 : decode cX12_monthLength 19 = .ok (.iload_n 1, 1) := by decide +kernel
theorem dX12_monthLength_20 : decode cX12_monthLength 20 = .ok (.iconst 4, 1) := by decide +kernel
theorem dX12_monthLength_21 : decode cX12_monthLength 21 = .ok (.if_icmp .eq 21, 3) := by decide +kernel
theorem dX12_monthLength_24 : decode cX12_monthLength 24 = .ok (.iload_n 1, 1) := by decide +kernel
theorem dX12_monthLength_25 : decode cX12_monthLength 25 = .ok (.bipush 6, 2) := by decide +kernel
theorem dX12_monthLength_27 : decode cX12_monthLength 27 = .ok (.if_icmp .eq 15, 3) := by decide +kernel
theorem dX12_monthLength_30 : decode cX12_monthLength 30 = .ok (.iload_n 1, 1) := by decide +kernel
theorem dX12_monthLength_31 : decode cX12_monthLength 31 = .ok (.bipush 9, 2) := by decide +kernel
theorem dX12_monthLength_33 : decode cX12_monthLength 33 = .ok (.if_icmp .eq 9, 3) := by decide +kernel
theorem dX12_monthLength_36 : decode cX12_monthLength 36 = .ok (.iload_n 1, 1) := by decide +kernel
theorem dX12_monthLength_37 : decode cX12_monthLength 37 = .ok (.bipush 11, 2) := by decide +kernel
theorem dX12_monthLength_39 : decode cX12_monthLength 39 = .ok (.if_icmp .ne 8, 3) := by decide +kernel
theorem dX12_monthLength_42 : decode cX12_monthLength 42 = .ok (.bipush 30, 2) := by decide +kernel
theorem dX12_monthLength_44 : decode cX12_monthLength 44 = .ok (.goto 5, 3) := by decide +kernel
theorem dX12_monthLength_47 : decode cX12_monthLength 47 = .ok (.bipush 31, 2) := by decide +kernel
theorem dX12_monthLength_49 : decode cX12_monthLength 49 = .ok (.ireturn, 1) := by decide +kernel
theorem dX12_aheadOf_0 : decode cX12_aheadOf 0 = .ok (.iload_n 0, 1) := by decide +kernel
theorem dX12_aheadOf_1 : decode cX12_aheadOf 1 = .ok (.sipush 2000, 3) := by decide +kernel
theorem dX12_aheadOf_4 : decode cX12_aheadOf 4 = .ok (.isub, 1) := by decide +kernel
theorem dX12_aheadOf_5 : decode cX12_aheadOf 5 = .ok (.istore_n 1, 1) := by decide +kernel
theorem dX12_aheadOf_6 : decode cX12_aheadOf 6 = .ok (.sipush 365, 3) := by decide +kernel
theorem dX12_aheadOf_9 : decode cX12_aheadOf 9 = .ok (.iload_n 1, 1) := by decide +kernel
theorem dX12_aheadOf_10 : decode cX12_aheadOf 10 = .ok (.imul, 1) := by decide +kernel
theorem dX12_aheadOf_11 : decode cX12_aheadOf 11 = .ok (.iload_n 1, 1) := by decide +kernel
theorem dX12_aheadOf_12 : decode cX12_aheadOf 12 = .ok (.iconst 3, 1) := by decide +kernel
theorem dX12_aheadOf_13 : decode cX12_aheadOf 13 = .ok (.iadd, 1) := by decide +kernel
theorem dX12_aheadOf_14 : decode cX12_aheadOf 14 = .ok (.iconst 4, 1) := by decide +kernel
theorem dX12_aheadOf_15 : decode cX12_aheadOf 15 = .ok (.idiv, 1) := by decide +kernel
theorem dX12_aheadOf_16 : decode cX12_aheadOf 16 = .ok (.iadd, 1) := by decide +kernel
theorem dX12_aheadOf_17 : decode cX12_aheadOf 17 = .ok (.ireturn, 1) := by decide +kernel
theorem dX12_monthDay_0 : decode cX12_monthDay 0 = .ok (.iload_n 0, 1) := by decide +kernel
theorem dX12_monthDay_1 : decode cX12_monthDay 1 = .ok (.invokestatic 66, 3) := by decide +kernel
theorem dX12_monthDay_4 : decode cX12_monthDay 4 = .ok (.istore_n 2, 1) := by decide +kernel
theorem dX12_monthDay_5 : decode cX12_monthDay 5 = .ok (.iconst 1, 1) := by decide +kernel
theorem dX12_monthDay_6 : decode cX12_monthDay 6 = .ok (.istore_n 3, 1) := by decide +kernel
theorem dX12_monthDay_7 : decode cX12_monthDay 7 = .ok (.iload_n 3, 1) := by decide +kernel
theorem dX12_monthDay_8 : decode cX12_monthDay 8 = .ok (.iload_n 1, 1) := by decide +kernel
theorem dX12_monthDay_9 : decode cX12_monthDay 9 = .ok (.if_icmp .ge 17, 3) := by decide +kernel
theorem dX12_monthDay_12 : decode cX12_monthDay 12 = .ok (.iload_n 2, 1) := by decide +kernel
theorem dX12_monthDay_13 : decode cX12_monthDay 13 = .ok (.iload_n 0, 1) := by decide +kernel
theorem dX12_monthDay_14 : decode cX12_monthDay 14 = .ok (.iload_n 3, 1) := by decide +kernel
theorem dX12_monthDay_15 : decode cX12_monthDay 15 = .ok (.invokestatic 70, 3) := by decide +kernel
theorem dX12_monthDay_18 : decode cX12_monthDay 18 = .ok (.iadd, 1) := by decide +kernel
theorem dX12_monthDay_19 : decode cX12_monthDay 19 = .ok (.istore_n 2, 1) := by decide +kernel
theorem dX12_monthDay_20 : decode cX12_monthDay 20 = .ok (.iinc 3 1, 3) := by decide +kernel
theorem dX12_monthDay_23 : decode cX12_monthDay 23 = .ok (.goto (-16), 3) := by decide +kernel
theorem dX12_monthDay_26 : decode cX12_monthDay 26 = .ok (.iload_n 2, 1) := by decide +kernel
theorem dX12_monthDay_27 : decode cX12_monthDay 27 = .ok (.ireturn, 1) := by decide +kernel
theorem dX12_yearOf_0 : decode cX12_yearOf 0 = .ok (.sipush 2000, 3) := by decide +kernel
theorem dX12_yearOf_3 : decode cX12_yearOf 3 = .ok (.istore_n 1, 1) := by decide +kernel
theorem dX12_yearOf_4 : decode cX12_yearOf 4 = .ok (.iload_n 1, 1) := by decide +kernel
theorem dX12_yearOf_5 : decode cX12_yearOf 5 = .ok (.iconst 1, 1) := by decide +kernel
theorem dX12_yearOf_6 : decode cX12_yearOf 6 = .ok (.iadd, 1) := by decide +kernel
theorem dX12_yearOf_7 : decode cX12_yearOf 7 = .ok (.invokestatic 66, 3) := by decide +kernel
theorem dX12_yearOf_10 : decode cX12_yearOf 10 = .ok (.iload_n 0, 1) := by decide +kernel
theorem dX12_yearOf_11 : decode cX12_yearOf 11 = .ok (.if_icmp .gt 9, 3) := by decide +kernel
theorem dX12_yearOf_14 : decode cX12_yearOf 14 = .ok (.iinc 1 1, 3) := by decide +kernel
theorem dX12_yearOf_17 : decode cX12_yearOf 17 = .ok (.goto (-13), 3) := by decide +kernel
theorem dX12_yearOf_20 : decode cX12_yearOf 20 = .ok (.iload_n 1, 1) := by decide +kernel
theorem dX12_yearOf_21 : decode cX12_yearOf 21 = .ok (.ireturn, 1) := by decide +kernel
theorem dX12_monthOf_0 : decode cX12_monthOf 0 = .ok (.iload_n 0, 1) := by decide +kernel
theorem dX12_monthOf_1 : decode cX12_monthOf 1 = .ok (.invokestatic 74, 3) := by decide +kernel
theorem dX12_monthOf_4 : decode cX12_monthOf 4 = .ok (.istore_n 1, 1) := by decide +kernel
theorem dX12_monthOf_5 : decode cX12_monthOf 5 = .ok (.iconst 1, 1) := by decide +kernel
theorem dX12_monthOf_6 : decode cX12_monthOf 6 = .ok (.istore_n 2, 1) := by decide +kernel
theorem dX12_monthOf_7 : decode cX12_monthOf 7 = .ok (.iload_n 2, 1) := by decide +kernel
theorem dX12_monthOf_8 : decode cX12_monthOf 8 = .ok (.bipush 12, 2) := by decide +kernel
theorem dX12_monthOf_10 : decode cX12_monthOf 10 = .ok (.if_icmp .ge 20, 3) := by decide +kernel
theorem dX12_monthOf_13 : decode cX12_monthOf 13 = .ok (.iload_n 1, 1) := by decide +kernel
theorem dX12_monthOf_14 : decode cX12_monthOf 14 = .ok (.iload_n 2, 1) := by decide +kernel
theorem dX12_monthOf_15 : decode cX12_monthOf 15 = .ok (.iconst 1, 1) := by decide +kernel
theorem dX12_monthOf_16 : decode cX12_monthOf 16 = .ok (.iadd, 1) := by decide +kernel
theorem dX12_monthOf_17 : decode cX12_monthOf 17 = .ok (.invokestatic 77, 3) := by decide +kernel
theorem dX12_monthOf_20 : decode cX12_monthOf 20 = .ok (.iload_n 0, 1) := by decide +kernel
theorem dX12_monthOf_21 : decode cX12_monthOf 21 = .ok (.if_icmp .gt 9, 3) := by decide +kernel
theorem dX12_monthOf_24 : decode cX12_monthOf 24 = .ok (.iinc 2 1, 3) := by decide +kernel
theorem dX12_monthOf_27 : decode cX12_monthOf 27 = .ok (.goto (-20), 3) := by decide +kernel
theorem dX12_monthOf_30 : decode cX12_monthOf 30 = .ok (.iload_n 2, 1) := by decide +kernel
theorem dX12_monthOf_31 : decode cX12_monthOf 31 = .ok (.ireturn, 1) := by decide +kernel
theorem dX12_numberOf_0 : decode cX12_numberOf 0 = .ok (.iload_n 0, 1) := by decide +kernel
theorem dX12_numberOf_1 : decode cX12_numberOf 1 = .ok (.iload_n 0, 1) := by decide +kernel
theorem dX12_numberOf_2 : decode cX12_numberOf 2 = .ok (.invokestatic 74, 3) := by decide +kernel
theorem dX12_numberOf_5 : decode cX12_numberOf 5 = .ok (.iload_n 0, 1) := by decide +kernel
theorem dX12_numberOf_6 : decode cX12_numberOf 6 = .ok (.invokestatic 80, 3) := by decide +kernel
theorem dX12_numberOf_9 : decode cX12_numberOf 9 = .ok (.invokestatic 77, 3) := by decide +kernel
theorem dX12_numberOf_12 : decode cX12_numberOf 12 = .ok (.isub, 1) := by decide +kernel
theorem dX12_numberOf_13 : decode cX12_numberOf 13 = .ok (.iconst 1, 1) := by decide +kernel
theorem dX12_numberOf_14 : decode cX12_numberOf 14 = .ok (.iadd, 1) := by decide +kernel
theorem dX12_numberOf_15 : decode cX12_numberOf 15 = .ok (.ireturn, 1) := by decide +kernel
theorem dX12_weekday_0 : decode cX12_weekday 0 = .ok (.iload_n 0, 1) := by decide +kernel
theorem dX12_weekday_1 : decode cX12_weekday 1 = .ok (.iconst 5, 1) := by decide +kernel
theorem dX12_weekday_2 : decode cX12_weekday 2 = .ok (.iadd, 1) := by decide +kernel
theorem dX12_weekday_3 : decode cX12_weekday 3 = .ok (.bipush 7, 2) := by decide +kernel
theorem dX12_weekday_5 : decode cX12_weekday 5 = .ok (.irem, 1) := by decide +kernel
theorem dX12_weekday_6 : decode cX12_weekday 6 = .ok (.ireturn, 1) := by decide +kernel
theorem dX12_dayOf_0 : decode cX12_dayOf 0 = .ok (.iload_n 0, 1) := by decide +kernel
theorem dX12_dayOf_1 : decode cX12_dayOf 1 = .ok (.sipush 2000, 3) := by decide +kernel
theorem dX12_dayOf_4 : decode cX12_dayOf 4 = .ok (.sipush 2027, 3) := by decide +kernel
theorem dX12_dayOf_7 : decode cX12_dayOf 7 = .ok (.invokestatic 62, 3) := by decide +kernel
theorem dX12_dayOf_10 : decode cX12_dayOf 10 = .ok (.ifCond .eq 26, 3) := by decide +kernel
theorem dX12_dayOf_13 : decode cX12_dayOf 13 = .ok (.iload_n 1, 1) := by decide +kernel
theorem dX12_dayOf_14 : decode cX12_dayOf 14 = .ok (.iconst 1, 1) := by decide +kernel
theorem dX12_dayOf_15 : decode cX12_dayOf 15 = .ok (.bipush 12, 2) := by decide +kernel
theorem dX12_dayOf_17 : decode cX12_dayOf 17 = .ok (.invokestatic 62, 3) := by decide +kernel
theorem dX12_dayOf_20 : decode cX12_dayOf 20 = .ok (.ifCond .eq 16, 3) := by decide +kernel
theorem dX12_dayOf_23 : decode cX12_dayOf 23 = .ok (.iload_n 2, 1) := by decide +kernel
theorem dX12_dayOf_24 : decode cX12_dayOf 24 = .ok (.iconst 1, 1) := by decide +kernel
theorem dX12_dayOf_25 : decode cX12_dayOf 25 = .ok (.iload_n 0, 1) := by decide +kernel
theorem dX12_dayOf_26 : decode cX12_dayOf 26 = .ok (.iload_n 1, 1) := by decide +kernel
theorem dX12_dayOf_27 : decode cX12_dayOf 27 = .ok (.invokestatic 70, 3) := by decide +kernel
theorem dX12_dayOf_30 : decode cX12_dayOf 30 = .ok (.invokestatic 62, 3) := by decide +kernel
theorem dX12_dayOf_33 : decode cX12_dayOf 33 = .ok (.ifCond .ne 5, 3) := by decide +kernel
theorem dX12_dayOf_36 : decode cX12_dayOf 36 = .ok (.iconst (-1), 1) := by decide +kernel
theorem dX12_dayOf_37 : decode cX12_dayOf 37 = .ok (.ireturn, 1) := by decide +kernel
theorem dX12_dayOf_38 : decode cX12_dayOf 38 = .ok (.iload_n 0, 1) := by decide +kernel
theorem dX12_dayOf_39 : decode cX12_dayOf 39 = .ok (.iload_n 1, 1) := by decide +kernel
theorem dX12_dayOf_40 : decode cX12_dayOf 40 = .ok (.invokestatic 77, 3) := by decide +kernel
theorem dX12_dayOf_43 : decode cX12_dayOf 43 = .ok (.iload_n 2, 1) := by decide +kernel
theorem dX12_dayOf_44 : decode cX12_dayOf 44 = .ok (.iadd, 1) := by decide +kernel
theorem dX12_dayOf_45 : decode cX12_dayOf 45 = .ok (.iconst 1, 1) := by decide +kernel
theorem dX12_dayOf_46 : decode cX12_dayOf 46 = .ok (.isub, 1) := by decide +kernel
theorem dX12_dayOf_47 : decode cX12_dayOf 47 = .ok (.istore_n 3, 1) := by decide +kernel
theorem dX12_dayOf_48 : decode cX12_dayOf 48 = .ok (.iload_n 3, 1) := by decide +kernel
theorem dX12_dayOf_49 : decode cX12_dayOf 49 = .ok (.invokestatic 83, 3) := by decide +kernel
theorem dX12_dayOf_52 : decode cX12_dayOf 52 = .ok (.ifCond .eq 7, 3) := by decide +kernel
theorem dX12_dayOf_55 : decode cX12_dayOf 55 = .ok (.iload_n 3, 1) := by decide +kernel
theorem dX12_dayOf_56 : decode cX12_dayOf 56 = .ok (.goto 4, 3) := by decide +kernel
theorem dX12_dayOf_59 : decode cX12_dayOf 59 = .ok (.iconst (-1), 1) := by decide +kernel
theorem dX12_dayOf_60 : decode cX12_dayOf 60 = .ok (.ireturn, 1) := by decide +kernel
theorem dX12_day_0 : decode cX12_day 0 = .ok (.aload_n 0, 1) := by decide +kernel
theorem dX12_day_1 : decode cX12_day 1 = .ok (.iconst 0, 1) := by decide +kernel
theorem dX12_day_2 : decode cX12_day 2 = .ok (.putfield 55, 3) := by decide +kernel
theorem dX12_day_5 : decode cX12_day 5 = .ok (.iload_n 1, 1) := by decide +kernel
theorem dX12_day_6 : decode cX12_day 6 = .ok (.iload_n 2, 1) := by decide +kernel
theorem dX12_day_7 : decode cX12_day 7 = .ok (.iload_n 3, 1) := by decide +kernel
theorem dX12_day_8 : decode cX12_day 8 = .ok (.invokestatic 87, 3) := by decide +kernel
theorem dX12_day_11 : decode cX12_day 11 = .ok (.ireturn, 1) := by decide +kernel
theorem dX12_date_0 : decode cX12_date 0 = .ok (.aload_n 0, 1) := by decide +kernel
theorem dX12_date_1 : decode cX12_date 1 = .ok (.iconst 0, 1) := by decide +kernel
theorem dX12_date_2 : decode cX12_date 2 = .ok (.putfield 55, 3) := by decide +kernel
theorem dX12_date_5 : decode cX12_date 5 = .ok (.iload_n 1, 1) := by decide +kernel
theorem dX12_date_6 : decode cX12_date 6 = .ok (.invokestatic 83, 3) := by decide +kernel
theorem dX12_date_9 : decode cX12_date 9 = .ok (.ifCond .ne 5, 3) := by decide +kernel
theorem dX12_date_12 : decode cX12_date 12 = .ok (.iconst (-1), 1) := by decide +kernel
theorem dX12_date_13 : decode cX12_date 13 = .ok (.ireturn, 1) := by decide +kernel
theorem dX12_date_14 : decode cX12_date 14 = .ok (.aload_n 0, 1) := by decide +kernel
theorem dX12_date_15 : decode cX12_date 15 = .ok (.iconst 0, 1) := by decide +kernel
theorem dX12_date_16 : decode cX12_date 16 = .ok (.putfield 59, 3) := by decide +kernel
theorem dX12_date_19 : decode cX12_date 19 = .ok (.aload_n 0, 1) := by decide +kernel
theorem dX12_date_20 : decode cX12_date 20 = .ok (.iload_n 1, 1) := by decide +kernel
theorem dX12_date_21 : decode cX12_date 21 = .ok (.invokestatic 80, 3) := by decide +kernel
theorem dX12_date_24 : decode cX12_date 24 = .ok (.i2l, 1) := by decide +kernel
theorem dX12_date_25 : decode cX12_date 25 = .ok (.invokevirtual 91, 3) := by decide +kernel
theorem dX12_date_28 : decode cX12_date 28 = .ok (.aload_n 0, 1) := by decide +kernel
theorem dX12_date_29 : decode cX12_date 29 = .ok (.iload_n 1, 1) := by decide +kernel
theorem dX12_date_30 : decode cX12_date 30 = .ok (.invokestatic 95, 3) := by decide +kernel
theorem dX12_date_33 : decode cX12_date 33 = .ok (.i2l, 1) := by decide +kernel
theorem dX12_date_34 : decode cX12_date 34 = .ok (.invokevirtual 91, 3) := by decide +kernel
theorem dX12_date_37 : decode cX12_date 37 = .ok (.aload_n 0, 1) := by decide +kernel
theorem dX12_date_38 : decode cX12_date 38 = .ok (.iload_n 1, 1) := by decide +kernel
theorem dX12_date_39 : decode cX12_date 39 = .ok (.invokestatic 98, 3) := by decide +kernel
theorem dX12_date_42 : decode cX12_date 42 = .ok (.i2l, 1) := by decide +kernel
theorem dX12_date_43 : decode cX12_date 43 = .ok (.invokevirtual 91, 3) := by decide +kernel
theorem dX12_date_46 : decode cX12_date 46 = .ok (.iload_n 1, 1) := by decide +kernel
theorem dX12_date_47 : decode cX12_date 47 = .ok (.invokestatic 74, 3) := by decide +kernel
theorem dX12_date_50 : decode cX12_date 50 = .ok (.ireturn, 1) := by decide +kernel
theorem dX12_move_0 : decode cX12_move 0 = .ok (.iload_n 1, 1) := by decide +kernel
theorem dX12_move_1 : decode cX12_move 1 = .ok (.iconst 2, 1) := by decide +kernel
theorem dX12_move_2 : decode cX12_move 2 = .ok (.if_icmp .ge 31, 3) := by decide +kernel
theorem dX12_move_5 : decode cX12_move 5 = .ok (.iload_n 0, 1) := by decide +kernel
theorem dX12_move_6 : decode cX12_move 6 = .ok (.iload_n 1, 1) := by decide +kernel
theorem dX12_move_7 : decode cX12_move 7 = .ok (.ifCond .ne 7, 3) := by decide +kernel
theorem dX12_move_10 : decode cX12_move 10 = .ok (.iload_n 2, 1) := by decide +kernel
theorem dX12_move_11 : decode cX12_move 11 = .ok (.goto 7, 3) := by decide +kernel
theorem dX12_move_14 : decode cX12_move 14 = .ok (.bipush 7, 2) := by decide +kernel
theorem dX12_move_16 : decode cX12_move 16 = .ok (.iload_n 2, 1) := by decide +kernel
theorem dX12_move_17 : decode cX12_move 17 = .ok (.imul, 1) := by decide +kernel
theorem dX12_move_18 : decode cX12_move 18 = .ok (.iadd, 1) := by decide +kernel
theorem dX12_move_19 : decode cX12_move 19 = .ok (.istore_n 3, 1) := by decide +kernel
theorem dX12_move_20 : decode cX12_move 20 = .ok (.iload_n 3, 1) := by decide +kernel
theorem dX12_move_21 : decode cX12_move 21 = .ok (.invokestatic 83, 3) := by decide +kernel
theorem dX12_move_24 : decode cX12_move 24 = .ok (.ifCond .eq 7, 3) := by decide +kernel
theorem dX12_move_27 : decode cX12_move 27 = .ok (.iload_n 3, 1) := by decide +kernel
theorem dX12_move_28 : decode cX12_move 28 = .ok (.goto 4, 3) := by decide +kernel
theorem dX12_move_31 : decode cX12_move 31 = .ok (.iconst (-1), 1) := by decide +kernel
theorem dX12_move_32 : decode cX12_move 32 = .ok (.ireturn, 1) := by decide +kernel
theorem dX12_move_33 : decode cX12_move 33 = .ok (.bipush 12, 2) := by decide +kernel
theorem dX12_move_35 : decode cX12_move 35 = .ok (.iload_n 0, 1) := by decide +kernel
theorem dX12_move_36 : decode cX12_move 36 = .ok (.invokestatic 74, 3) := by decide +kernel
theorem dX12_move_39 : decode cX12_move 39 = .ok (.sipush 2000, 3) := by decide +kernel
theorem dX12_move_42 : decode cX12_move 42 = .ok (.isub, 1) := by decide +kernel
theorem dX12_move_43 : decode cX12_move 43 = .ok (.imul, 1) := by decide +kernel
theorem dX12_move_44 : decode cX12_move 44 = .ok (.iload_n 0, 1) := by decide +kernel
theorem dX12_move_45 : decode cX12_move 45 = .ok (.invokestatic 80, 3) := by decide +kernel
theorem dX12_move_48 : decode cX12_move 48 = .ok (.iadd, 1) := by decide +kernel
theorem dX12_move_49 : decode cX12_move 49 = .ok (.iconst 1, 1) := by decide +kernel
theorem dX12_move_50 : decode cX12_move 50 = .ok (.isub, 1) := by decide +kernel
theorem dX12_move_51 : decode cX12_move 51 = .ok (.iload_n 1, 1) := by decide +kernel
theorem dX12_move_52 : decode cX12_move 52 = .ok (.iconst 2, 1) := by decide +kernel
theorem dX12_move_53 : decode cX12_move 53 = .ok (.if_icmp .ne 7, 3) := by decide +kernel
theorem dX12_move_56 : decode cX12_move 56 = .ok (.iload_n 2, 1) := by decide +kernel
theorem dX12_move_57 : decode cX12_move 57 = .ok (.goto 7, 3) := by decide +kernel
theorem dX12_move_60 : decode cX12_move 60 = .ok (.bipush 12, 2) := by decide +kernel
theorem dX12_move_62 : decode cX12_move 62 = .ok (.iload_n 2, 1) := by decide +kernel
theorem dX12_move_63 : decode cX12_move 63 = .ok (.imul, 1) := by decide +kernel
theorem dX12_move_64 : decode cX12_move 64 = .ok (.iadd, 1) := by decide +kernel
theorem dX12_move_65 : decode cX12_move 65 = .ok (.istore_n 3, 1) := by decide +kernel
theorem dX12_move_66 : decode cX12_move 66 = .ok (.iload_n 3, 1) := by decide +kernel
theorem dX12_move_67 : decode cX12_move 67 = .ok (.iconst 0, 1) := by decide +kernel
theorem dX12_move_68 : decode cX12_move 68 = .ok (.sipush 335, 3) := by decide +kernel
theorem dX12_move_71 : decode cX12_move 71 = .ok (.invokestatic 62, 3) := by decide +kernel
theorem dX12_move_74 : decode cX12_move 74 = .ok (.ifCond .ne 5, 3) := by decide +kernel
theorem dX12_move_77 : decode cX12_move 77 = .ok (.iconst (-1), 1) := by decide +kernel
theorem dX12_move_78 : decode cX12_move 78 = .ok (.ireturn, 1) := by decide +kernel
theorem dX12_move_79 : decode cX12_move 79 = .ok (.sipush 2000, 3) := by decide +kernel
theorem dX12_move_82 : decode cX12_move 82 = .ok (.iload_n 3, 1) := by decide +kernel
theorem dX12_move_83 : decode cX12_move 83 = .ok (.bipush 12, 2) := by decide +kernel
theorem dX12_move_85 : decode cX12_move 85 = .ok (.idiv, 1) := by decide +kernel
theorem dX12_move_86 : decode cX12_move 86 = .ok (.iadd, 1) := by decide +kernel
theorem dX12_move_87 : decode cX12_move 87 = .ok (.istore 4, 2) := by decide +kernel
theorem dX12_move_89 : decode cX12_move 89 = .ok (.iload_n 3, 1) := by decide +kernel
theorem dX12_move_90 : decode cX12_move 90 = .ok (.bipush 12, 2) := by decide +kernel
theorem dX12_move_92 : decode cX12_move 92 = .ok (.irem, 1) := by decide +kernel
theorem dX12_move_93 : decode cX12_move 93 = .ok (.iconst 1, 1) := by decide +kernel
theorem dX12_move_94 : decode cX12_move 94 = .ok (.iadd, 1) := by decide +kernel
theorem dX12_move_95 : decode cX12_move 95 = .ok (.istore 5, 2) := by decide +kernel
theorem dX12_move_97 : decode cX12_move 97 = .ok (.iload 4, 2) := by decide +kernel
theorem dX12_move_99 : decode cX12_move 99 = .ok (.iload 5, 2) := by decide +kernel
theorem dX12_move_101 : decode cX12_move 101 = .ok (.iload_n 0, 1) := by decide +kernel
theorem dX12_move_102 : decode cX12_move 102 = .ok (.invokestatic 95, 3) := by decide +kernel
theorem dX12_move_105 : decode cX12_move 105 = .ok (.iload 4, 2) := by decide +kernel
theorem dX12_move_107 : decode cX12_move 107 = .ok (.iload 5, 2) := by decide +kernel
theorem dX12_move_109 : decode cX12_move 109 = .ok (.invokestatic 70, 3) := by decide +kernel
theorem dX12_move_112 : decode cX12_move 112 = .ok (.invokestatic 101, 3) := by decide +kernel
theorem dX12_move_115 : decode cX12_move 115 = .ok (.invokestatic 87, 3) := by decide +kernel
theorem dX12_move_118 : decode cX12_move 118 = .ok (.ireturn, 1) := by decide +kernel
theorem dX12_moved_0 : decode cX12_moved 0 = .ok (.aload_n 0, 1) := by decide +kernel
theorem dX12_moved_1 : decode cX12_moved 1 = .ok (.iconst 0, 1) := by decide +kernel
theorem dX12_moved_2 : decode cX12_moved 2 = .ok (.putfield 55, 3) := by decide +kernel
theorem dX12_moved_5 : decode cX12_moved 5 = .ok (.iload_n 1, 1) := by decide +kernel
theorem dX12_moved_6 : decode cX12_moved 6 = .ok (.invokestatic 83, 3) := by decide +kernel
theorem dX12_moved_9 : decode cX12_moved 9 = .ok (.ifCond .eq 25, 3) := by decide +kernel
theorem dX12_moved_12 : decode cX12_moved 12 = .ok (.iload_n 2, 1) := by decide +kernel
theorem dX12_moved_13 : decode cX12_moved 13 = .ok (.iconst 0, 1) := by decide +kernel
theorem dX12_moved_14 : decode cX12_moved 14 = .ok (.iconst 3, 1) := by decide +kernel
theorem dX12_moved_15 : decode cX12_moved 15 = .ok (.invokestatic 62, 3) := by decide +kernel
theorem dX12_moved_18 : decode cX12_moved 18 = .ok (.ifCond .eq 16, 3) := by decide +kernel
theorem dX12_moved_21 : decode cX12_moved 21 = .ok (.iload_n 3, 1) := by decide +kernel
theorem dX12_moved_22 : decode cX12_moved 22 = .ok (.sipush (-9999), 3) := by decide +kernel
theorem dX12_moved_25 : decode cX12_moved 25 = .ok (.sipush 9999, 3) := by decide +kernel
theorem dX12_moved_28 : decode cX12_moved 28 = .ok (.invokestatic 62, 3) := by decide +kernel
theorem dX12_moved_31 : decode cX12_moved 31 = .ok (.ifCond .ne 5, 3) := by decide +kernel
theorem dX12_moved_34 : decode cX12_moved 34 = .ok (.iconst (-1), 1) := by decide +kernel
theorem dX12_moved_35 : decode cX12_moved 35 = .ok (.ireturn, 1) := by decide +kernel
theorem dX12_moved_36 : decode cX12_moved 36 = .ok (.iload_n 1, 1) := by decide +kernel
theorem dX12_moved_37 : decode cX12_moved 37 = .ok (.iload_n 2, 1) := by decide +kernel
theorem dX12_moved_38 : decode cX12_moved 38 = .ok (.iload_n 3, 1) := by decide +kernel
theorem dX12_moved_39 : decode cX12_moved 39 = .ok (.invokestatic 106, 3) := by decide +kernel
theorem dX12_moved_42 : decode cX12_moved 42 = .ok (.istore 4, 2) := by decide +kernel
theorem dX12_moved_44 : decode cX12_moved 44 = .ok (.iload 4, 2) := by decide +kernel
theorem dX12_moved_46 : decode cX12_moved 46 = .ok (.iconst (-1), 1) := by decide +kernel
theorem dX12_moved_47 : decode cX12_moved 47 = .ok (.if_icmp .ne 8, 3) := by decide +kernel
theorem dX12_moved_50 : decode cX12_moved 50 = .ok (.bipush (-2), 2) := by decide +kernel
theorem dX12_moved_52 : decode cX12_moved 52 = .ok (.goto 5, 3) := by decide +kernel
theorem dX12_moved_55 : decode cX12_moved 55 = .ok (.iload 4, 2) := by decide +kernel
theorem dX12_moved_57 : decode cX12_moved 57 = .ok (.ireturn, 1) := by decide +kernel
theorem dX12_sign_0 : decode cX12_sign 0 = .ok (.aload_n 0, 1) := by decide +kernel
theorem dX12_sign_1 : decode cX12_sign 1 = .ok (.iconst 0, 1) := by decide +kernel
theorem dX12_sign_2 : decode cX12_sign 2 = .ok (.putfield 55, 3) := by decide +kernel
theorem dX12_sign_5 : decode cX12_sign 5 = .ok (.aload_n 0, 1) := by decide +kernel
theorem dX12_sign_6 : decode cX12_sign 6 = .ok (.getfield 109, 3) := by decide +kernel
theorem dX12_sign_9 : decode cX12_sign 9 = .ok (.iconst 4, 1) := by decide +kernel
theorem dX12_sign_10 : decode cX12_sign 10 = .ok (.iadd, 1) := by decide +kernel
theorem dX12_sign_11 : decode cX12_sign 11 = .ok (.bipush 80, 2) := by decide +kernel
theorem dX12_sign_13 : decode cX12_sign 13 = .ok (.if_icmp .le 5, 3) := by decide +kernel
theorem dX12_sign_16 : decode cX12_sign 16 = .ok (.iconst (-1), 1) := by decide +kernel
theorem dX12_sign_17 : decode cX12_sign 17 = .ok (.ireturn, 1) := by decide +kernel
theorem dX12_sign_18 : decode cX12_sign 18 = .ok (.iconst 3, 1) := by decide +kernel
theorem dX12_sign_19 : decode cX12_sign 19 = .ok (.istore_n 2, 1) := by decide +kernel
theorem dX12_sign_20 : decode cX12_sign 20 = .ok (.iload_n 2, 1) := by decide +kernel
theorem dX12_sign_21 : decode cX12_sign 21 = .ok (.ifCond .lt 32, 3) := by decide +kernel
theorem dX12_sign_24 : decode cX12_sign 24 = .ok (.aload_n 0, 1) := by decide +kernel
theorem dX12_sign_25 : decode cX12_sign 25 = .ok (.getfield 13, 3) := by decide +kernel
theorem dX12_sign_28 : decode cX12_sign 28 = .ok (.aload_n 0, 1) := by decide +kernel
theorem dX12_sign_29 : decode cX12_sign 29 = .ok (.dup, 1) := by decide +kernel
theorem dX12_sign_30 : decode cX12_sign 30 = .ok (.getfield 109, 3) := by decide +kernel
theorem dX12_sign_33 : decode cX12_sign 33 = .ok (.dup_x1, 1) := by decide +kernel
theorem dX12_sign_34 : decode cX12_sign 34 = .ok (.iconst 1, 1) := by decide +kernel
theorem dX12_sign_35 : decode cX12_sign 35 = .ok (.iadd, 1) := by decide +kernel
theorem dX12_sign_36 : decode cX12_sign 36 = .ok (.putfield 109, 3) := by decide +kernel
theorem dX12_sign_39 : decode cX12_sign 39 = .ok (.iload_n 1, 1) := by decide +kernel
theorem dX12_sign_40 : decode cX12_sign 40 = .ok (.bipush 8, 2) := by decide +kernel
theorem dX12_sign_42 : decode cX12_sign 42 = .ok (.iload_n 2, 1) := by decide +kernel
theorem dX12_sign_43 : decode cX12_sign 43 = .ok (.imul, 1) := by decide +kernel
theorem dX12_sign_44 : decode cX12_sign 44 = .ok (.ishr, 1) := by decide +kernel
theorem dX12_sign_45 : decode cX12_sign 45 = .ok (.i2b, 1) := by decide +kernel
theorem dX12_sign_46 : decode cX12_sign 46 = .ok (.bastore, 1) := by decide +kernel
theorem dX12_sign_47 : decode cX12_sign 47 = .ok (.iinc 2 (-1), 3) := by decide +kernel
theorem dX12_sign_50 : decode cX12_sign 50 = .ok (.goto (-30), 3) := by decide +kernel
theorem dX12_sign_53 : decode cX12_sign 53 = .ok (.aload_n 0, 1) := by decide +kernel
theorem dX12_sign_54 : decode cX12_sign 54 = .ok (.getfield 109, 3) := by decide +kernel
theorem dX12_sign_57 : decode cX12_sign 57 = .ok (.ireturn, 1) := by decide +kernel
theorem dX12_end_0 : decode cX12_end 0 = .ok (.aload_n 0, 1) := by decide +kernel
theorem dX12_end_1 : decode cX12_end 1 = .ok (.iconst 0, 1) := by decide +kernel
theorem dX12_end_2 : decode cX12_end 2 = .ok (.putfield 55, 3) := by decide +kernel
theorem dX12_end_5 : decode cX12_end 5 = .ok (.iload_n 1, 1) := by decide +kernel
theorem dX12_end_6 : decode cX12_end 6 = .ok (.iconst 0, 1) := by decide +kernel
theorem dX12_end_7 : decode cX12_end 7 = .ok (.aload_n 0, 1) := by decide +kernel
theorem dX12_end_8 : decode cX12_end 8 = .ok (.getfield 109, 3) := by decide +kernel
theorem dX12_end_11 : decode cX12_end 11 = .ok (.invokestatic 62, 3) := by decide +kernel
theorem dX12_end_14 : decode cX12_end 14 = .ok (.ifCond .ne 5, 3) := by decide +kernel
theorem dX12_end_17 : decode cX12_end 17 = .ok (.iconst 0, 1) := by decide +kernel
theorem dX12_end_18 : decode cX12_end 18 = .ok (.ireturn, 1) := by decide +kernel
theorem dX12_end_19 : decode cX12_end 19 = .ok (.aload_n 0, 1) := by decide +kernel
theorem dX12_end_20 : decode cX12_end 20 = .ok (.iload_n 1, 1) := by decide +kernel
theorem dX12_end_21 : decode cX12_end 21 = .ok (.putfield 109, 3) := by decide +kernel
theorem dX12_end_24 : decode cX12_end 24 = .ok (.iconst 1, 1) := by decide +kernel
theorem dX12_end_25 : decode cX12_end 25 = .ok (.ireturn, 1) := by decide +kernel
theorem dX12_begin_0 : decode cX12_begin 0 = .ok (.aload_n 0, 1) := by decide +kernel
theorem dX12_begin_1 : decode cX12_begin 1 = .ok (.aload_n 0, 1) := by decide +kernel
theorem dX12_begin_2 : decode cX12_begin 2 = .ok (.getfield 109, 3) := by decide +kernel
theorem dX12_begin_5 : decode cX12_begin 5 = .ok (.putfield 112, 3) := by decide +kernel
theorem dX12_begin_8 : decode cX12_begin 8 = .ok (.aload_n 0, 1) := by decide +kernel
theorem dX12_begin_9 : decode cX12_begin 9 = .ok (.iconst 0, 1) := by decide +kernel
theorem dX12_begin_10 : decode cX12_begin 10 = .ok (.putfield 115, 3) := by decide +kernel
theorem dX12_begin_13 : decode cX12_begin 13 = .ok (.aload_n 0, 1) := by decide +kernel
theorem dX12_begin_14 : decode cX12_begin 14 = .ok (.iconst (-1), 1) := by decide +kernel
theorem dX12_begin_15 : decode cX12_begin 15 = .ok (.putfield 118, 3) := by decide +kernel
theorem dX12_begin_18 : decode cX12_begin 18 = .ok (.aload_n 0, 1) := by decide +kernel
theorem dX12_begin_19 : decode cX12_begin 19 = .ok (.iconst 0, 1) := by decide +kernel
theorem dX12_begin_20 : decode cX12_begin 20 = .ok (.putfield 109, 3) := by decide +kernel
theorem dX12_begin_23 : decode cX12_begin 23 = .ok (.return_, 1) := by decide +kernel
theorem dX12_here_0 : decode cX12_here 0 = .ok (.aload_n 0, 1) := by decide +kernel
theorem dX12_here_1 : decode cX12_here 1 = .ok (.getfield 115, 3) := by decide +kernel
theorem dX12_here_4 : decode cX12_here 4 = .ok (.aload_n 0, 1) := by decide +kernel
theorem dX12_here_5 : decode cX12_here 5 = .ok (.getfield 112, 3) := by decide +kernel
theorem dX12_here_8 : decode cX12_here 8 = .ok (.if_icmp .ge 19, 3) := by decide +kernel
theorem dX12_here_11 : decode cX12_here 11 = .ok (.aload_n 0, 1) := by decide +kernel
theorem dX12_here_12 : decode cX12_here 12 = .ok (.getfield 13, 3) := by decide +kernel
theorem dX12_here_15 : decode cX12_here 15 = .ok (.aload_n 0, 1) := by decide +kernel
theorem dX12_here_16 : decode cX12_here 16 = .ok (.getfield 115, 3) := by decide +kernel
theorem dX12_here_19 : decode cX12_here 19 = .ok (.baload, 1) := by decide +kernel
theorem dX12_here_20 : decode cX12_here 20 = .ok (.sipush 255, 3) := by decide +kernel
theorem dX12_here_23 : decode cX12_here 23 = .ok (.iand, 1) := by decide +kernel
theorem dX12_here_24 : decode cX12_here 24 = .ok (.goto 4, 3) := by decide +kernel
theorem dX12_here_27 : decode cX12_here 27 = .ok (.iconst (-1), 1) := by decide +kernel
theorem dX12_here_28 : decode cX12_here 28 = .ok (.ireturn, 1) := by decide +kernel
theorem dX12_fine_0 : decode cX12_fine 0 = .ok (.aload_n 0, 1) := by decide +kernel
theorem dX12_fine_1 : decode cX12_fine 1 = .ok (.getfield 118, 3) := by decide +kernel
theorem dX12_fine_4 : decode cX12_fine 4 = .ok (.iconst (-1), 1) := by decide +kernel
theorem dX12_fine_5 : decode cX12_fine 5 = .ok (.if_icmp .ne 7, 3) := by decide +kernel
theorem dX12_fine_8 : decode cX12_fine 8 = .ok (.iconst 1, 1) := by decide +kernel
theorem dX12_fine_9 : decode cX12_fine 9 = .ok (.goto 4, 3) := by decide +kernel
theorem dX12_fine_12 : decode cX12_fine 12 = .ok (.iconst 0, 1) := by decide +kernel
theorem dX12_fine_13 : decode cX12_fine 13 = .ok (.ireturn, 1) := by decide +kernel
theorem dX12_fault_0 : decode cX12_fault 0 = .ok (.aload_n 0, 1) := by decide +kernel
theorem dX12_fault_1 : decode cX12_fault 1 = .ok (.invokevirtual 121, 3) := by decide +kernel
theorem dX12_fault_4 : decode cX12_fault 4 = .ok (.ifCond .eq 8, 3) := by decide +kernel
theorem dX12_fault_7 : decode cX12_fault 7 = .ok (.aload_n 0, 1) := by decide +kernel
theorem dX12_fault_8 : decode cX12_fault 8 = .ok (.iload_n 1, 1) := by decide +kernel
theorem dX12_fault_9 : decode cX12_fault 9 = .ok (.putfield 118, 3) := by decide +kernel
theorem dX12_fault_12 : decode cX12_fault 12 = .ok (.return_, 1) := by decide +kernel
theorem dX12_wasRight_0 : decode cX12_wasRight 0 = .ok (.aload_n 0, 1) := by decide +kernel
theorem dX12_wasRight_1 : decode cX12_wasRight 1 = .ok (.getfield 115, 3) := by decide +kernel
theorem dX12_wasRight_4 : decode cX12_wasRight 4 = .ok (.aload_n 0, 1) := by decide +kernel
theorem dX12_wasRight_5 : decode cX12_wasRight 5 = .ok (.getfield 112, 3) := by decide +kernel
theorem dX12_wasRight_8 : decode cX12_wasRight 8 = .ok (.if_icmp .ge 11, 3) := by decide +kernel
theorem dX12_wasRight_11 : decode cX12_wasRight 11 = .ok (.aload_n 0, 1) := by decide +kernel
theorem dX12_wasRight_12 : decode cX12_wasRight 12 = .ok (.aload_n 0, 1) := by decide +kernel
theorem dX12_wasRight_13 : decode cX12_wasRight 13 = .ok (.getfield 115, 3) := by decide +kernel
theorem dX12_wasRight_16 : decode cX12_wasRight 16 = .ok (.invokevirtual 125, 3) := by decide +kernel
theorem dX12_wasRight_19 : decode cX12_wasRight 19 = .ok (.aload_n 0, 1) := by decide +kernel
theorem dX12_wasRight_20 : decode cX12_wasRight 20 = .ok (.invokevirtual 121, 3) := by decide +kernel
theorem dX12_wasRight_23 : decode cX12_wasRight 23 = .ok (.ireturn, 1) := by decide +kernel
theorem dX12_goWord_0 : decode cX12_goWord 0 = .ok (.aload_n 0, 1) := by decide +kernel
theorem dX12_goWord_1 : decode cX12_goWord 1 = .ok (.invokevirtual 121, 3) := by decide +kernel
theorem dX12_goWord_4 : decode cX12_goWord 4 = .ok (.ifCond .ne 4, 3) := by decide +kernel
theorem dX12_goWord_7 : decode cX12_goWord 7 = .ok (.return_, 1) := by decide +kernel
theorem dX12_goWord_8 : decode cX12_goWord 8 = .ok (.aload_n 0, 1) := by decide +kernel
theorem dX12_goWord_9 : decode cX12_goWord 9 = .ok (.invokevirtual 129, 3) := by decide +kernel
theorem dX12_goWord_12 : decode cX12_goWord 12 = .ok (.bipush 32, 2) := by decide +kernel
theorem dX12_goWord_14 : decode cX12_goWord 14 = .ok (.if_icmp .ne 16, 3) := by decide +kernel
theorem dX12_goWord_17 : decode cX12_goWord 17 = .ok (.aload_n 0, 1) := by decide +kernel
theorem dX12_goWord_18 : decode cX12_goWord 18 = .ok (.dup, 1) := by decide +kernel
theorem dX12_goWord_19 : decode cX12_goWord 19 = .ok (.getfield 115, 3) := by decide +kernel
theorem dX12_goWord_22 : decode cX12_goWord 22 = .ok (.iconst 1, 1) := by decide +kernel
theorem dX12_goWord_23 : decode cX12_goWord 23 = .ok (.iadd, 1) := by decide +kernel
theorem dX12_goWord_24 : decode cX12_goWord 24 = .ok (.putfield 115, 3) := by decide +kernel
theorem dX12_goWord_27 : decode cX12_goWord 27 = .ok (.goto (-19), 3) := by decide +kernel
theorem dX12_goWord_30 : decode cX12_goWord 30 = .ok (.aload_n 0, 1) := by decide +kernel
theorem dX12_goWord_31 : decode cX12_goWord 31 = .ok (.aload_n 0, 1) := by decide +kernel
theorem dX12_goWord_32 : decode cX12_goWord 32 = .ok (.getfield 115, 3) := by decide +kernel
theorem dX12_goWord_35 : decode cX12_goWord 35 = .ok (.putfield 133, 3) := by decide +kernel
theorem dX12_goWord_38 : decode cX12_goWord 38 = .ok (.aload_n 0, 1) := by decide +kernel
theorem dX12_goWord_39 : decode cX12_goWord 39 = .ok (.aload_n 0, 1) := by decide +kernel
theorem dX12_goWord_40 : decode cX12_goWord 40 = .ok (.invokevirtual 129, 3) := by decide +kernel
theorem dX12_goWord_43 : decode cX12_goWord 43 = .ok (.bipush 48, 2) := by decide +kernel
theorem dX12_goWord_45 : decode cX12_goWord 45 = .ok (.bipush 57, 2) := by decide +kernel
theorem dX12_goWord_47 : decode cX12_goWord 47 = .ok (.invokestatic 62, 3) := by decide +kernel
theorem dX12_goWord_50 : decode cX12_goWord 50 = .ok (.putfield 136, 3) := by decide +kernel
theorem dX12_goWord_53 : decode cX12_goWord 53 = .ok (.aload_n 0, 1) := by decide +kernel
theorem dX12_goWord_54 : decode cX12_goWord 54 = .ok (.aload_n 0, 1) := by decide +kernel
theorem dX12_goWord_55 : decode cX12_goWord 55 = .ok (.invokevirtual 129, 3) := by decide +kernel
theorem dX12_goWord_58 : decode cX12_goWord 58 = .ok (.bipush 97, 2) := by decide +kernel
theorem dX12_goWord_60 : decode cX12_goWord 60 = .ok (.bipush 122, 2) := by decide +kernel
theorem dX12_goWord_62 : decode cX12_goWord 62 = .ok (.invokestatic 62, 3) := by decide +kernel
theorem dX12_goWord_65 : decode cX12_goWord 65 = .ok (.putfield 140, 3) := by decide +kernel
theorem dX12_goWord_68 : decode cX12_goWord 68 = .ok (.aload_n 0, 1) := by decide +kernel
theorem dX12_goWord_69 : decode cX12_goWord 69 = .ok (.iconst 0, 1) := by decide +kernel
theorem dX12_goWord_70 : decode cX12_goWord 70 = .ok (.putfield 143, 3) := by decide +kernel
theorem dX12_goWord_73 : decode cX12_goWord 73 = .ok (.aload_n 0, 1) := by decide +kernel
theorem dX12_goWord_74 : decode cX12_goWord 74 = .ok (.getfield 136, 3) := by decide +kernel
theorem dX12_goWord_77 : decode cX12_goWord 77 = .ok (.ifCond .eq 90, 3) := by decide +kernel
theorem dX12_goWord_80 : decode cX12_goWord 80 = .ok (.aload_n 0, 1) := by decide +kernel
theorem dX12_goWord_81 : decode cX12_goWord 81 = .ok (.invokevirtual 129, 3) := by decide +kernel
theorem dX12_goWord_84 : decode cX12_goWord 84 = .ok (.bipush 48, 2) := by decide +kernel
theorem dX12_goWord_86 : decode cX12_goWord 86 = .ok (.bipush 57, 2) := by decide +kernel
theorem dX12_goWord_88 : decode cX12_goWord 88 = .ok (.invokestatic 62, 3) := by decide +kernel
theorem dX12_goWord_91 : decode cX12_goWord 91 = .ok (.ifCond .eq 129, 3) := by decide +kernel
theorem dX12_goWord_94 : decode cX12_goWord 94 = .ok (.aload_n 0, 1) := by decide +kernel
theorem dX12_goWord_95 : decode cX12_goWord 95 = .ok (.getfield 115, 3) := by decide +kernel
theorem dX12_goWord_98 : decode cX12_goWord 98 = .ok (.aload_n 0, 1) := by decide +kernel
theorem dX12_goWord_99 : decode cX12_goWord 99 = .ok (.getfield 133, 3) := by decide +kernel
theorem dX12_goWord_102 : decode cX12_goWord 102 = .ok (.isub, 1) := by decide +kernel
theorem dX12_goWord_103 : decode cX12_goWord 103 = .ok (.iconst 4, 1) := by decide +kernel
theorem dX12_goWord_104 : decode cX12_goWord 104 = .ok (.if_icmp .ne 11, 3) := by decide +kernel
theorem dX12_goWord_107 : decode cX12_goWord 107 = .ok (.aload_n 0, 1) := by decide +kernel
theorem dX12_goWord_108 : decode cX12_goWord 108 = .ok (.aload_n 0, 1) := by decide +kernel
theorem dX12_goWord_109 : decode cX12_goWord 109 = .ok (.getfield 115, 3) := by decide +kernel
theorem dX12_goWord_112 : decode cX12_goWord 112 = .ok (.invokevirtual 125, 3) := by decide +kernel
theorem dX12_goWord_115 : decode cX12_goWord 115 = .ok (.aload_n 0, 1) := by decide +kernel
theorem dX12_goWord_116 : decode cX12_goWord 116 = .ok (.aload_n 0, 1) := by decide +kernel
theorem dX12_goWord_117 : decode cX12_goWord 117 = .ok (.getfield 115, 3) := by decide +kernel
theorem dX12_goWord_120 : decode cX12_goWord 120 = .ok (.aload_n 0, 1) := by decide +kernel
theorem dX12_goWord_121 : decode cX12_goWord 121 = .ok (.getfield 133, 3) := by decide +kernel
theorem dX12_goWord_124 : decode cX12_goWord 124 = .ok (.isub, 1) := by decide +kernel
theorem dX12_goWord_125 : decode cX12_goWord 125 = .ok (.iconst 4, 1) := by decide +kernel
theorem dX12_goWord_126 : decode cX12_goWord 126 = .ok (.if_icmp .ge 21, 3) := by decide +kernel
theorem dX12_goWord_129 : decode cX12_goWord 129 = .ok (.bipush 10, 2) := by decide +kernel
theorem dX12_goWord_131 : decode cX12_goWord 131 = .ok (.aload_n 0, 1) := by decide +kernel
theorem dX12_goWord_132 : decode cX12_goWord 132 = .ok (.getfield 143, 3) := by decide +kernel
theorem dX12_goWord_135 : decode cX12_goWord 135 = .ok (.imul, 1) := by decide +kernel
theorem dX12_goWord_136 : decode cX12_goWord 136 = .ok (.aload_n 0, 1) := by decide +kernel
theorem dX12_goWord_137 : decode cX12_goWord 137 = .ok (.invokevirtual 129, 3) := by decide +kernel
theorem dX12_goWord_140 : decode cX12_goWord 140 = .ok (.iadd, 1) := by decide +kernel
theorem dX12_goWord_141 : decode cX12_goWord 141 = .ok (.bipush 48, 2) := by decide +kernel
theorem dX12_goWord_143 : decode cX12_goWord 143 = .ok (.isub, 1) := by decide +kernel
theorem dX12_goWord_144 : decode cX12_goWord 144 = .ok (.goto 7, 3) := by decide +kernel
theorem dX12_goWord_147 : decode cX12_goWord 147 = .ok (.aload_n 0, 1) := by decide +kernel
theorem dX12_goWord_148 : decode cX12_goWord 148 = .ok (.getfield 143, 3) := by decide +kernel
theorem dX12_goWord_151 : decode cX12_goWord 151 = .ok (.putfield 143, 3) := by decide +kernel
theorem dX12_goWord_154 : decode cX12_goWord 154 = .ok (.aload_n 0, 1) := by decide +kernel
theorem dX12_goWord_155 : decode cX12_goWord 155 = .ok (.dup, 1) := by decide +kernel
theorem dX12_goWord_156 : decode cX12_goWord 156 = .ok (.getfield 115, 3) := by decide +kernel
theorem dX12_goWord_159 : decode cX12_goWord 159 = .ok (.iconst 1, 1) := by decide +kernel
theorem dX12_goWord_160 : decode cX12_goWord 160 = .ok (.iadd, 1) := by decide +kernel
theorem dX12_goWord_161 : decode cX12_goWord 161 = .ok (.putfield 115, 3) := by decide +kernel
theorem dX12_goWord_164 : decode cX12_goWord 164 = .ok (.goto (-84), 3) := by decide +kernel
theorem dX12_goWord_167 : decode cX12_goWord 167 = .ok (.aload_n 0, 1) := by decide +kernel
theorem dX12_goWord_168 : decode cX12_goWord 168 = .ok (.getfield 140, 3) := by decide +kernel
theorem dX12_goWord_171 : decode cX12_goWord 171 = .ok (.ifCond .eq 30, 3) := by decide +kernel
theorem dX12_goWord_174 : decode cX12_goWord 174 = .ok (.aload_n 0, 1) := by decide +kernel
theorem dX12_goWord_175 : decode cX12_goWord 175 = .ok (.invokevirtual 129, 3) := by decide +kernel
theorem dX12_goWord_178 : decode cX12_goWord 178 = .ok (.bipush 97, 2) := by decide +kernel
theorem dX12_goWord_180 : decode cX12_goWord 180 = .ok (.bipush 122, 2) := by decide +kernel
theorem dX12_goWord_182 : decode cX12_goWord 182 = .ok (.invokestatic 62, 3) := by decide +kernel
theorem dX12_goWord_185 : decode cX12_goWord 185 = .ok (.ifCond .eq 35, 3) := by decide +kernel
theorem dX12_goWord_188 : decode cX12_goWord 188 = .ok (.aload_n 0, 1) := by decide +kernel
theorem dX12_goWord_189 : decode cX12_goWord 189 = .ok (.dup, 1) := by decide +kernel
theorem dX12_goWord_190 : decode cX12_goWord 190 = .ok (.getfield 115, 3) := by decide +kernel
theorem dX12_goWord_193 : decode cX12_goWord 193 = .ok (.iconst 1, 1) := by decide +kernel
theorem dX12_goWord_194 : decode cX12_goWord 194 = .ok (.iadd, 1) := by decide +kernel
theorem dX12_goWord_195 : decode cX12_goWord 195 = .ok (.putfield 115, 3) := by decide +kernel
theorem dX12_goWord_198 : decode cX12_goWord 198 = .ok (.goto (-24), 3) := by decide +kernel
theorem dX12_goWord_201 : decode cX12_goWord 201 = .ok (.aload_n 0, 1) := by decide +kernel
theorem dX12_goWord_202 : decode cX12_goWord 202 = .ok (.getfield 115, 3) := by decide +kernel
theorem dX12_goWord_205 : decode cX12_goWord 205 = .ok (.aload_n 0, 1) := by decide +kernel
theorem dX12_goWord_206 : decode cX12_goWord 206 = .ok (.getfield 112, 3) := by decide +kernel
theorem dX12_goWord_209 : decode cX12_goWord 209 = .ok (.if_icmp .ge 11, 3) := by decide +kernel
theorem dX12_goWord_212 : decode cX12_goWord 212 = .ok (.aload_n 0, 1) := by decide +kernel
theorem dX12_goWord_213 : decode cX12_goWord 213 = .ok (.aload_n 0, 1) := by decide +kernel
theorem dX12_goWord_214 : decode cX12_goWord 214 = .ok (.getfield 115, 3) := by decide +kernel
theorem dX12_goWord_217 : decode cX12_goWord 217 = .ok (.invokevirtual 125, 3) := by decide +kernel
theorem dX12_goWord_220 : decode cX12_goWord 220 = .ok (.return_, 1) := by decide +kernel
theorem dX12_is_0 : decode cX12_is 0 = .ok (.aload_n 0, 1) := by decide +kernel
theorem dX12_is_1 : decode cX12_is 1 = .ok (.invokevirtual 121, 3) := by decide +kernel
theorem dX12_is_4 : decode cX12_is 4 = .ok (.ifCond .eq 26, 3) := by decide +kernel
theorem dX12_is_7 : decode cX12_is 7 = .ok (.aload_n 0, 1) := by decide +kernel
theorem dX12_is_8 : decode cX12_is 8 = .ok (.getfield 140, 3) := by decide +kernel
theorem dX12_is_11 : decode cX12_is 11 = .ok (.ifCond .eq 19, 3) := by decide +kernel
theorem dX12_is_14 : decode cX12_is 14 = .ok (.aload_n 0, 1) := by decide +kernel
theorem dX12_is_15 : decode cX12_is 15 = .ok (.getfield 115, 3) := by decide +kernel
theorem dX12_is_18 : decode cX12_is 18 = .ok (.aload_n 0, 1) := by decide +kernel
theorem dX12_is_19 : decode cX12_is 19 = .ok (.getfield 133, 3) := by decide +kernel
theorem dX12_is_22 : decode cX12_is 22 = .ok (.isub, 1) := by decide +kernel
theorem dX12_is_23 : decode cX12_is 23 = .ok (.aload_n 1, 1) := by decide +kernel
theorem dX12_is_24 : decode cX12_is 24 = .ok (.invokevirtual 146, 3) := by decide +kernel
theorem dX12_is_27 : decode cX12_is 27 = .ok (.if_icmp .eq 5, 3) := by decide +kernel
theorem dX12_is_30 : decode cX12_is 30 = .ok (.iconst 0, 1) := by decide +kernel
theorem dX12_is_31 : decode cX12_is 31 = .ok (.ireturn, 1) := by decide +kernel
theorem dX12_is_32 : decode cX12_is 32 = .ok (.iconst 0, 1) := by decide +kernel
theorem dX12_is_33 : decode cX12_is 33 = .ok (.istore_n 2, 1) := by decide +kernel
theorem dX12_is_34 : decode cX12_is 34 = .ok (.iload_n 2, 1) := by decide +kernel
theorem dX12_is_35 : decode cX12_is 35 = .ok (.aload_n 1, 1) := by decide +kernel
theorem dX12_is_36 : decode cX12_is 36 = .ok (.invokevirtual 146, 3) := by decide +kernel
theorem dX12_is_39 : decode cX12_is 39 = .ok (.if_icmp .ge 30, 3) := by decide +kernel
theorem dX12_is_42 : decode cX12_is 42 = .ok (.aload_n 0, 1) := by decide +kernel
theorem dX12_is_43 : decode cX12_is 43 = .ok (.getfield 13, 3) := by decide +kernel
theorem dX12_is_46 : decode cX12_is 46 = .ok (.aload_n 0, 1) := by decide +kernel
theorem dX12_is_47 : decode cX12_is 47 = .ok (.getfield 133, 3) := by decide +kernel
theorem dX12_is_50 : decode cX12_is 50 = .ok (.iload_n 2, 1) := by decide +kernel
theorem dX12_is_51 : decode cX12_is 51 = .ok (.iadd, 1) := by decide +kernel
theorem dX12_is_52 : decode cX12_is 52 = .ok (.baload, 1) := by decide +kernel
theorem dX12_is_53 : decode cX12_is 53 = .ok (.aload_n 1, 1) := by decide +kernel
theorem dX12_is_54 : decode cX12_is 54 = .ok (.iload_n 2, 1) := by decide +kernel
theorem dX12_is_55 : decode cX12_is 55 = .ok (.invokevirtual 150, 3) := by decide +kernel
theorem dX12_is_58 : decode cX12_is 58 = .ok (.if_icmp .eq 5, 3) := by decide +kernel
theorem dX12_is_61 : decode cX12_is 61 = .ok (.iconst 0, 1) := by decide +kernel
theorem dX12_is_62 : decode cX12_is 62 = .ok (.ireturn, 1) := by decide +kernel
theorem dX12_is_63 : decode cX12_is 63 = .ok (.iinc 2 1, 3) := by decide +kernel
theorem dX12_is_66 : decode cX12_is 66 = .ok (.goto (-32), 3) := by decide +kernel
theorem dX12_is_69 : decode cX12_is 69 = .ok (.iconst 1, 1) := by decide +kernel
theorem dX12_is_70 : decode cX12_is 70 = .ok (.ireturn, 1) := by decide +kernel
theorem dX12_takes_0 : decode cX12_takes 0 = .ok (.aload_n 0, 1) := by decide +kernel
theorem dX12_takes_1 : decode cX12_takes 1 = .ok (.aload_n 1, 1) := by decide +kernel
theorem dX12_takes_2 : decode cX12_takes 2 = .ok (.invokevirtual 154, 3) := by decide +kernel
theorem dX12_takes_5 : decode cX12_takes 5 = .ok (.ifCond .ne 5, 3) := by decide +kernel
theorem dX12_takes_8 : decode cX12_takes 8 = .ok (.iconst 0, 1) := by decide +kernel
theorem dX12_takes_9 : decode cX12_takes 9 = .ok (.ireturn, 1) := by decide +kernel
theorem dX12_takes_10 : decode cX12_takes 10 = .ok (.aload_n 0, 1) := by decide +kernel
theorem dX12_takes_11 : decode cX12_takes 11 = .ok (.invokevirtual 158, 3) := by decide +kernel
theorem dX12_takes_14 : decode cX12_takes 14 = .ok (.iconst 1, 1) := by decide +kernel
theorem dX12_takes_15 : decode cX12_takes 15 = .ok (.ireturn, 1) := by decide +kernel
theorem dX12_needs_0 : decode cX12_needs 0 = .ok (.aload_n 0, 1) := by decide +kernel
theorem dX12_needs_1 : decode cX12_needs 1 = .ok (.aload_n 1, 1) := by decide +kernel
theorem dX12_needs_2 : decode cX12_needs 2 = .ok (.invokevirtual 161, 3) := by decide +kernel
theorem dX12_needs_5 : decode cX12_needs 5 = .ok (.ifCond .ne 11, 3) := by decide +kernel
theorem dX12_needs_8 : decode cX12_needs 8 = .ok (.aload_n 0, 1) := by decide +kernel
theorem dX12_needs_9 : decode cX12_needs 9 = .ok (.aload_n 0, 1) := by decide +kernel
theorem dX12_needs_10 : decode cX12_needs 10 = .ok (.getfield 133, 3) := by decide +kernel
theorem dX12_needs_13 : decode cX12_needs 13 = .ok (.invokevirtual 125, 3) := by decide +kernel
theorem dX12_needs_16 : decode cX12_needs 16 = .ok (.return_, 1) := by decide +kernel
theorem dX12_nameOf_0 : decode cX12_nameOf 0 = .ok (.iconst 0, 1) := by decide +kernel
theorem dX12_nameOf_1 : decode cX12_nameOf 1 = .ok (.istore_n 2, 1) := by decide +kernel
theorem dX12_nameOf_2 : decode cX12_nameOf 2 = .ok (.iload_n 2, 1) := by decide +kernel
theorem dX12_nameOf_3 : decode cX12_nameOf 3 = .ok (.aload_n 1, 1) := by decide +kernel
theorem dX12_nameOf_4 : decode cX12_nameOf 4 = .ok (.invokevirtual 146, 3) := by decide +kernel
theorem dX12_nameOf_7 : decode cX12_nameOf 7 = .ok (.iconst 3, 1) := by decide +kernel
theorem dX12_nameOf_8 : decode cX12_nameOf 8 = .ok (.idiv, 1) := by decide +kernel
theorem dX12_nameOf_9 : decode cX12_nameOf 9 = .ok (.if_icmp .ge 30, 3) := by decide +kernel
theorem dX12_nameOf_12 : decode cX12_nameOf 12 = .ok (.aload_n 0, 1) := by decide +kernel
theorem dX12_nameOf_13 : decode cX12_nameOf 13 = .ok (.aload_n 1, 1) := by decide +kernel
theorem dX12_nameOf_14 : decode cX12_nameOf 14 = .ok (.iconst 3, 1) := by decide +kernel
theorem dX12_nameOf_15 : decode cX12_nameOf 15 = .ok (.iload_n 2, 1) := by decide +kernel
theorem dX12_nameOf_16 : decode cX12_nameOf 16 = .ok (.imul, 1) := by decide +kernel
theorem dX12_nameOf_17 : decode cX12_nameOf 17 = .ok (.iconst 3, 1) := by decide +kernel
theorem dX12_nameOf_18 : decode cX12_nameOf 18 = .ok (.iload_n 2, 1) := by decide +kernel
theorem dX12_nameOf_19 : decode cX12_nameOf 19 = .ok (.imul, 1) := by decide +kernel
theorem dX12_nameOf_20 : decode cX12_nameOf 20 = .ok (.iconst 3, 1) := by decide +kernel
theorem dX12_nameOf_21 : decode cX12_nameOf 21 = .ok (.iadd, 1) := by decide +kernel
theorem dX12_nameOf_22 : decode cX12_nameOf 22 = .ok (.invokevirtual 164, 3) := by decide +kernel
theorem dX12_nameOf_25 : decode cX12_nameOf 25 = .ok (.invokevirtual 154, 3) := by decide +kernel
theorem dX12_nameOf_28 : decode cX12_nameOf 28 = .ok (.ifCond .eq 5, 3) := by decide +kernel
theorem dX12_nameOf_31 : decode cX12_nameOf 31 = .ok (.iload_n 2, 1) := by decide +kernel
theorem dX12_nameOf_32 : decode cX12_nameOf 32 = .ok (.ireturn, 1) := by decide +kernel
theorem dX12_nameOf_33 : decode cX12_nameOf 33 = .ok (.iinc 2 1, 3) := by decide +kernel
theorem dX12_nameOf_36 : decode cX12_nameOf 36 = .ok (.goto (-34), 3) := by decide +kernel
theorem dX12_nameOf_39 : decode cX12_nameOf 39 = .ok (.iconst (-1), 1) := by decide +kernel
theorem dX12_nameOf_40 : decode cX12_nameOf 40 = .ok (.ireturn, 1) := by decide +kernel
theorem dX12_unitOf_0 : decode cX12_unitOf 0 = .ok (.aload_n 0, 1) := by decide +kernel
theorem dX12_unitOf_1 : decode cX12_unitOf 1 = .ok (.ldc 168, 2) := by decide +kernel
theorem dX12_unitOf_3 : decode cX12_unitOf 3 = .ok (.invokevirtual 154, 3) := by decide +kernel
theorem dX12_unitOf_6 : decode cX12_unitOf 6 = .ok (.ifCond .eq 7, 3) := by decide +kernel
theorem dX12_unitOf_9 : decode cX12_unitOf 9 = .ok (.iconst 0, 1) := by decide +kernel
theorem dX12_unitOf_10 : decode cX12_unitOf 10 = .ok (.goto 43, 3) := by decide +kernel
theorem dX12_unitOf_13 : decode cX12_unitOf 13 = .ok (.aload_n 0, 1) := by decide +kernel
theorem dX12_unitOf_14 : decode cX12_unitOf 14 = .ok (.ldc 170, 2) := by decide +kernel
theorem dX12_unitOf_16 : decode cX12_unitOf 16 = .ok (.invokevirtual 154, 3) := by decide +kernel
theorem dX12_unitOf_19 : decode cX12_unitOf 19 = .ok (.ifCond .eq 7, 3) := by decide +kernel
theorem dX12_unitOf_22 : decode cX12_unitOf 22 = .ok (.iconst 1, 1) := by decide +kernel
theorem dX12_unitOf_23 : decode cX12_unitOf 23 = .ok (.goto 30, 3) := by decide +kernel
theorem dX12_unitOf_26 : decode cX12_unitOf 26 = .ok (.aload_n 0, 1) := by decide +kernel
theorem dX12_unitOf_27 : decode cX12_unitOf 27 = .ok (.ldc 172, 2) := by decide +kernel
theorem dX12_unitOf_29 : decode cX12_unitOf 29 = .ok (.invokevirtual 154, 3) := by decide +kernel
theorem dX12_unitOf_32 : decode cX12_unitOf 32 = .ok (.ifCond .eq 7, 3) := by decide +kernel
theorem dX12_unitOf_35 : decode cX12_unitOf 35 = .ok (.iconst 2, 1) := by decide +kernel
theorem dX12_unitOf_36 : decode cX12_unitOf 36 = .ok (.goto 17, 3) := by decide +kernel
theorem dX12_unitOf_39 : decode cX12_unitOf 39 = .ok (.aload_n 0, 1) := by decide +kernel
theorem dX12_unitOf_40 : decode cX12_unitOf 40 = .ok (.ldc 174, 2) := by decide +kernel
theorem dX12_unitOf_42 : decode cX12_unitOf 42 = .ok (.invokevirtual 154, 3) := by decide +kernel
theorem dX12_unitOf_45 : decode cX12_unitOf 45 = .ok (.ifCond .eq 7, 3) := by decide +kernel
theorem dX12_unitOf_48 : decode cX12_unitOf 48 = .ok (.iconst 3, 1) := by decide +kernel
theorem dX12_unitOf_49 : decode cX12_unitOf 49 = .ok (.goto 4, 3) := by decide +kernel
theorem dX12_unitOf_52 : decode cX12_unitOf 52 = .ok (.iconst (-1), 1) := by decide +kernel
theorem dX12_unitOf_53 : decode cX12_unitOf 53 = .ok (.ireturn, 1) := by decide +kernel
theorem dX12_needUnit_0 : decode cX12_needUnit 0 = .ok (.aload_n 0, 1) := by decide +kernel
theorem dX12_needUnit_1 : decode cX12_needUnit 1 = .ok (.invokevirtual 176, 3) := by decide +kernel
theorem dX12_needUnit_4 : decode cX12_needUnit 4 = .ok (.istore_n 1, 1) := by decide +kernel
theorem dX12_needUnit_5 : decode cX12_needUnit 5 = .ok (.iload_n 1, 1) := by decide +kernel
theorem dX12_needUnit_6 : decode cX12_needUnit 6 = .ok (.iconst (-1), 1) := by decide +kernel
theorem dX12_needUnit_7 : decode cX12_needUnit 7 = .ok (.if_icmp .ne 11, 3) := by decide +kernel
theorem dX12_needUnit_10 : decode cX12_needUnit 10 = .ok (.aload_n 0, 1) := by decide +kernel
theorem dX12_needUnit_11 : decode cX12_needUnit 11 = .ok (.aload_n 0, 1) := by decide +kernel
theorem dX12_needUnit_12 : decode cX12_needUnit 12 = .ok (.getfield 133, 3) := by decide +kernel
theorem dX12_needUnit_15 : decode cX12_needUnit 15 = .ok (.invokevirtual 125, 3) := by decide +kernel
theorem dX12_needUnit_18 : decode cX12_needUnit 18 = .ok (.aload_n 0, 1) := by decide +kernel
theorem dX12_needUnit_19 : decode cX12_needUnit 19 = .ok (.invokevirtual 158, 3) := by decide +kernel
theorem dX12_needUnit_22 : decode cX12_needUnit 22 = .ok (.iconst 0, 1) := by decide +kernel
theorem dX12_needUnit_23 : decode cX12_needUnit 23 = .ok (.iload_n 1, 1) := by decide +kernel
theorem dX12_needUnit_24 : decode cX12_needUnit 24 = .ok (.invokestatic 179, 3) := by decide +kernel
theorem dX12_needUnit_27 : decode cX12_needUnit 27 = .ok (.ireturn, 1) := by decide +kernel
theorem dX12_needDayName_0 : decode cX12_needDayName 0 = .ok (.aload_n 0, 1) := by decide +kernel
theorem dX12_needDayName_1 : decode cX12_needDayName 1 = .ok (.ldc 182, 2) := by decide +kernel
theorem dX12_needDayName_3 : decode cX12_needDayName 3 = .ok (.invokevirtual 184, 3) := by decide +kernel
theorem dX12_needDayName_6 : decode cX12_needDayName 6 = .ok (.istore_n 1, 1) := by decide +kernel
theorem dX12_needDayName_7 : decode cX12_needDayName 7 = .ok (.iload_n 1, 1) := by decide +kernel
theorem dX12_needDayName_8 : decode cX12_needDayName 8 = .ok (.iconst (-1), 1) := by decide +kernel
theorem dX12_needDayName_9 : decode cX12_needDayName 9 = .ok (.if_icmp .ne 11, 3) := by decide +kernel
theorem dX12_needDayName_12 : decode cX12_needDayName 12 = .ok (.aload_n 0, 1) := by decide +kernel
theorem dX12_needDayName_13 : decode cX12_needDayName 13 = .ok (.aload_n 0, 1) := by decide +kernel
theorem dX12_needDayName_14 : decode cX12_needDayName 14 = .ok (.getfield 133, 3) := by decide +kernel
theorem dX12_needDayName_17 : decode cX12_needDayName 17 = .ok (.invokevirtual 125, 3) := by decide +kernel
theorem dX12_needDayName_20 : decode cX12_needDayName 20 = .ok (.aload_n 0, 1) := by decide +kernel
theorem dX12_needDayName_21 : decode cX12_needDayName 21 = .ok (.invokevirtual 158, 3) := by decide +kernel
theorem dX12_needDayName_24 : decode cX12_needDayName 24 = .ok (.iconst 0, 1) := by decide +kernel
theorem dX12_needDayName_25 : decode cX12_needDayName 25 = .ok (.iload_n 1, 1) := by decide +kernel
theorem dX12_needDayName_26 : decode cX12_needDayName 26 = .ok (.invokestatic 179, 3) := by decide +kernel
theorem dX12_needDayName_29 : decode cX12_needDayName 29 = .ok (.ireturn, 1) := by decide +kernel
theorem dX12_needNumber_0 : decode cX12_needNumber 0 = .ok (.aload_n 0, 1) := by decide +kernel
theorem dX12_needNumber_1 : decode cX12_needNumber 1 = .ok (.getfield 136, 3) := by decide +kernel
theorem dX12_needNumber_4 : decode cX12_needNumber 4 = .ok (.ifCond .eq 15, 3) := by decide +kernel
theorem dX12_needNumber_7 : decode cX12_needNumber 7 = .ok (.aload_n 0, 1) := by decide +kernel
theorem dX12_needNumber_8 : decode cX12_needNumber 8 = .ok (.getfield 143, 3) := by decide +kernel
theorem dX12_needNumber_11 : decode cX12_needNumber 11 = .ok (.iload_n 1, 1) := by decide +kernel
theorem dX12_needNumber_12 : decode cX12_needNumber 12 = .ok (.iload_n 2, 1) := by decide +kernel
theorem dX12_needNumber_13 : decode cX12_needNumber 13 = .ok (.invokestatic 62, 3) := by decide +kernel
theorem dX12_needNumber_16 : decode cX12_needNumber 16 = .ok (.ifCond .ne 11, 3) := by decide +kernel
theorem dX12_needNumber_19 : decode cX12_needNumber 19 = .ok (.aload_n 0, 1) := by decide +kernel
theorem dX12_needNumber_20 : decode cX12_needNumber 20 = .ok (.aload_n 0, 1) := by decide +kernel
theorem dX12_needNumber_21 : decode cX12_needNumber 21 = .ok (.getfield 133, 3) := by decide +kernel
theorem dX12_needNumber_24 : decode cX12_needNumber 24 = .ok (.invokevirtual 125, 3) := by decide +kernel
theorem dX12_needNumber_27 : decode cX12_needNumber 27 = .ok (.aload_n 0, 1) := by decide +kernel
theorem dX12_needNumber_28 : decode cX12_needNumber 28 = .ok (.getfield 143, 3) := by decide +kernel
theorem dX12_needNumber_31 : decode cX12_needNumber 31 = .ok (.istore_n 3, 1) := by decide +kernel
theorem dX12_needNumber_32 : decode cX12_needNumber 32 = .ok (.aload_n 0, 1) := by decide +kernel
theorem dX12_needNumber_33 : decode cX12_needNumber 33 = .ok (.invokevirtual 158, 3) := by decide +kernel
theorem dX12_needNumber_36 : decode cX12_needNumber 36 = .ok (.iload_n 3, 1) := by decide +kernel
theorem dX12_needNumber_37 : decode cX12_needNumber 37 = .ok (.ireturn, 1) := by decide +kernel
theorem dX12_push_0 : decode cX12_push 0 = .ok (.iload_n 1, 1) := by decide +kernel
theorem dX12_push_1 : decode cX12_push 1 = .ok (.invokestatic 83, 3) := by decide +kernel
theorem dX12_push_4 : decode cX12_push 4 = .ok (.ifCond .eq 10, 3) := by decide +kernel
theorem dX12_push_7 : decode cX12_push 7 = .ok (.iload_n 2, 1) := by decide +kernel
theorem dX12_push_8 : decode cX12_push 8 = .ok (.invokestatic 83, 3) := by decide +kernel
theorem dX12_push_11 : decode cX12_push 11 = .ok (.ifCond .ne 4, 3) := by decide +kernel
theorem dX12_push_14 : decode cX12_push 14 = .ok (.return_, 1) := by decide +kernel
theorem dX12_push_15 : decode cX12_push 15 = .ok (.aload_n 0, 1) := by decide +kernel
theorem dX12_push_16 : decode cX12_push 16 = .ok (.getfield 21, 3) := by decide +kernel
theorem dX12_push_19 : decode cX12_push 19 = .ok (.iconst 4, 1) := by decide +kernel
theorem dX12_push_20 : decode cX12_push 20 = .ok (.aload_n 0, 1) := by decide +kernel
theorem dX12_push_21 : decode cX12_push 21 = .ok (.getfield 188, 3) := by decide +kernel
theorem dX12_push_24 : decode cX12_push 24 = .ok (.imul, 1) := by decide +kernel
theorem dX12_push_25 : decode cX12_push 25 = .ok (.iload_n 1, 1) := by decide +kernel
theorem dX12_push_26 : decode cX12_push 26 = .ok (.iastore, 1) := by decide +kernel
theorem dX12_push_27 : decode cX12_push 27 = .ok (.aload_n 0, 1) := by decide +kernel
theorem dX12_push_28 : decode cX12_push 28 = .ok (.getfield 21, 3) := by decide +kernel
theorem dX12_push_31 : decode cX12_push 31 = .ok (.iconst 4, 1) := by decide +kernel
theorem dX12_push_32 : decode cX12_push 32 = .ok (.aload_n 0, 1) := by decide +kernel
theorem dX12_push_33 : decode cX12_push 33 = .ok (.getfield 188, 3) := by decide +kernel
theorem dX12_push_36 : decode cX12_push 36 = .ok (.imul, 1) := by decide +kernel
theorem dX12_push_37 : decode cX12_push 37 = .ok (.iconst 1, 1) := by decide +kernel
theorem dX12_push_38 : decode cX12_push 38 = .ok (.iadd, 1) := by decide +kernel
theorem dX12_push_39 : decode cX12_push 39 = .ok (.iload_n 2, 1) := by decide +kernel
theorem dX12_push_40 : decode cX12_push 40 = .ok (.iastore, 1) := by decide +kernel
theorem dX12_push_41 : decode cX12_push 41 = .ok (.aload_n 0, 1) := by decide +kernel
theorem dX12_push_42 : decode cX12_push 42 = .ok (.getfield 21, 3) := by decide +kernel
theorem dX12_push_45 : decode cX12_push 45 = .ok (.iconst 4, 1) := by decide +kernel
theorem dX12_push_46 : decode cX12_push 46 = .ok (.aload_n 0, 1) := by decide +kernel
theorem dX12_push_47 : decode cX12_push 47 = .ok (.getfield 188, 3) := by decide +kernel
theorem dX12_push_50 : decode cX12_push 50 = .ok (.imul, 1) := by decide +kernel
theorem dX12_push_51 : decode cX12_push 51 = .ok (.iconst 2, 1) := by decide +kernel
theorem dX12_push_52 : decode cX12_push 52 = .ok (.iadd, 1) := by decide +kernel
theorem dX12_push_53 : decode cX12_push 53 = .ok (.iload_n 3, 1) := by decide +kernel
theorem dX12_push_54 : decode cX12_push 54 = .ok (.iastore, 1) := by decide +kernel
theorem dX12_push_55 : decode cX12_push 55 = .ok (.aload_n 0, 1) := by decide +kernel
theorem dX12_push_56 : decode cX12_push 56 = .ok (.getfield 21, 3) := by decide +kernel
theorem dX12_push_59 : decode cX12_push 59 = .ok (.iconst 4, 1) := by decide +kernel
theorem dX12_push_60 : decode cX12_push 60 = .ok (.aload_n 0, 1) := by decide +kernel
theorem dX12_push_61 : decode cX12_push 61 = .ok (.getfield 188, 3) := by decide +kernel
theorem dX12_push_64 : decode cX12_push 64 = .ok (.imul, 1) := by decide +kernel
theorem dX12_push_65 : decode cX12_push 65 = .ok (.iconst 3, 1) := by decide +kernel
theorem dX12_push_66 : decode cX12_push 66 = .ok (.iadd, 1) := by decide +kernel
theorem dX12_push_67 : decode cX12_push 67 = .ok (.iload 4, 2) := by decide +kernel
theorem dX12_push_69 : decode cX12_push 69 = .ok (.iastore, 1) := by decide +kernel
theorem dX12_push_70 : decode cX12_push 70 = .ok (.aload_n 0, 1) := by decide +kernel
theorem dX12_push_71 : decode cX12_push 71 = .ok (.dup, 1) := by decide +kernel
theorem dX12_push_72 : decode cX12_push 72 = .ok (.getfield 188, 3) := by decide +kernel
theorem dX12_push_75 : decode cX12_push 75 = .ok (.iconst 1, 1) := by decide +kernel
theorem dX12_push_76 : decode cX12_push 76 = .ok (.iadd, 1) := by decide +kernel
theorem dX12_push_77 : decode cX12_push 77 = .ok (.putfield 188, 3) := by decide +kernel
theorem dX12_push_80 : decode cX12_push 80 = .ok (.return_, 1) := by decide +kernel
theorem dX12_pushDay_0 : decode cX12_pushDay 0 = .ok (.aload_n 0, 1) := by decide +kernel
theorem dX12_pushDay_1 : decode cX12_pushDay 1 = .ok (.iload_n 1, 1) := by decide +kernel
theorem dX12_pushDay_2 : decode cX12_pushDay 2 = .ok (.iload_n 1, 1) := by decide +kernel
theorem dX12_pushDay_3 : decode cX12_pushDay 3 = .ok (.iconst 0, 1) := by decide +kernel
theorem dX12_pushDay_4 : decode cX12_pushDay 4 = .ok (.iload_n 2, 1) := by decide +kernel
theorem dX12_pushDay_5 : decode cX12_pushDay 5 = .ok (.invokevirtual 191, 3) := by decide +kernel
theorem dX12_pushDay_8 : decode cX12_pushDay 8 = .ok (.return_, 1) := by decide +kernel
theorem dX12_h_0 : decode cX12_h 0 = .ok (.aload_n 0, 1) := by decide +kernel
theorem dX12_h_1 : decode cX12_h 1 = .ok (.getfield 21, 3) := by decide +kernel
theorem dX12_h_4 : decode cX12_h 4 = .ok (.iconst 4, 1) := by decide +kernel
theorem dX12_h_5 : decode cX12_h 5 = .ok (.iload_n 1, 1) := by decide +kernel
theorem dX12_h_6 : decode cX12_h 6 = .ok (.imul, 1) := by decide +kernel
theorem dX12_h_7 : decode cX12_h 7 = .ok (.iload_n 2, 1) := by decide +kernel
theorem dX12_h_8 : decode cX12_h 8 = .ok (.iadd, 1) := by decide +kernel
theorem dX12_h_9 : decode cX12_h 9 = .ok (.iaload, 1) := by decide +kernel
theorem dX12_h_10 : decode cX12_h 10 = .ok (.ireturn, 1) := by decide +kernel
theorem dX12_copyOver_0 : decode cX12_copyOver 0 = .ok (.iconst 0, 1) := by decide +kernel
theorem dX12_copyOver_1 : decode cX12_copyOver 1 = .ok (.istore_n 3, 1) := by decide +kernel
theorem dX12_copyOver_2 : decode cX12_copyOver 2 = .ok (.iload_n 3, 1) := by decide +kernel
theorem dX12_copyOver_3 : decode cX12_copyOver 3 = .ok (.iconst 4, 1) := by decide +kernel
theorem dX12_copyOver_4 : decode cX12_copyOver 4 = .ok (.if_icmp .ge 29, 3) := by decide +kernel
theorem dX12_copyOver_7 : decode cX12_copyOver 7 = .ok (.aload_n 0, 1) := by decide +kernel
theorem dX12_copyOver_8 : decode cX12_copyOver 8 = .ok (.getfield 21, 3) := by decide +kernel
theorem dX12_copyOver_11 : decode cX12_copyOver 11 = .ok (.iconst 4, 1) := by decide +kernel
theorem dX12_copyOver_12 : decode cX12_copyOver 12 = .ok (.iload_n 1, 1) := by decide +kernel
theorem dX12_copyOver_13 : decode cX12_copyOver 13 = .ok (.imul, 1) := by decide +kernel
theorem dX12_copyOver_14 : decode cX12_copyOver 14 = .ok (.iload_n 3, 1) := by decide +kernel
theorem dX12_copyOver_15 : decode cX12_copyOver 15 = .ok (.iadd, 1) := by decide +kernel
theorem dX12_copyOver_16 : decode cX12_copyOver 16 = .ok (.aload_n 0, 1) := by decide +kernel
theorem dX12_copyOver_17 : decode cX12_copyOver 17 = .ok (.getfield 21, 3) := by decide +kernel
theorem dX12_copyOver_20 : decode cX12_copyOver 20 = .ok (.iconst 4, 1) := by decide +kernel
theorem dX12_copyOver_21 : decode cX12_copyOver 21 = .ok (.iload_n 2, 1) := by decide +kernel
theorem dX12_copyOver_22 : decode cX12_copyOver 22 = .ok (.imul, 1) := by decide +kernel
theorem dX12_copyOver_23 : decode cX12_copyOver 23 = .ok (.iload_n 3, 1) := by decide +kernel
theorem dX12_copyOver_24 : decode cX12_copyOver 24 = .ok (.iadd, 1) := by decide +kernel
theorem dX12_copyOver_25 : decode cX12_copyOver 25 = .ok (.iaload, 1) := by decide +kernel
theorem dX12_copyOver_26 : decode cX12_copyOver 26 = .ok (.iastore, 1) := by decide +kernel
theorem dX12_copyOver_27 : decode cX12_copyOver 27 = .ok (.iinc 3 1, 3) := by decide +kernel
theorem dX12_copyOver_30 : decode cX12_copyOver 30 = .ok (.goto (-28), 3) := by decide +kernel
theorem dX12_copyOver_33 : decode cX12_copyOver 33 = .ok (.return_, 1) := by decide +kernel
theorem dX12_pushUnit_0 : decode cX12_pushUnit 0 = .ok (.iload_n 1, 1) := by decide +kernel
theorem dX12_pushUnit_1 : decode cX12_pushUnit 1 = .ok (.tableswitch 116 0 2 #[27, 37, 65], 27) := by decide +kernel
theorem dX12_pushUnit_28 : decode cX12_pushUnit 28 = .ok (.aload_n 0, 1) := by decide +kernel
theorem dX12_pushUnit_29 : decode cX12_pushUnit 29 = .ok (.iload_n 2, 1) := by decide +kernel
theorem dX12_pushUnit_30 : decode cX12_pushUnit 30 = .ok (.iload_n 3, 1) := by decide +kernel
theorem dX12_pushUnit_31 : decode cX12_pushUnit 31 = .ok (.iadd, 1) := by decide +kernel
theorem dX12_pushUnit_32 : decode cX12_pushUnit 32 = .ok (.iload 4, 2) := by decide +kernel
theorem dX12_pushUnit_34 : decode cX12_pushUnit 34 = .ok (.invokevirtual 195, 3) := by decide +kernel
theorem dX12_pushUnit_37 : decode cX12_pushUnit 37 = .ok (.return_, 1) := by decide +kernel
theorem dX12_pushUnit_38 : decode cX12_pushUnit 38 = .ok (.iload_n 2, 1) := by decide +kernel
theorem dX12_pushUnit_39 : decode cX12_pushUnit 39 = .ok (.iload_n 2, 1) := by decide +kernel
theorem dX12_pushUnit_40 : decode cX12_pushUnit 40 = .ok (.invokestatic 98, 3) := by decide +kernel
theorem dX12_pushUnit_43 : decode cX12_pushUnit 43 = .ok (.isub, 1) := by decide +kernel
theorem dX12_pushUnit_44 : decode cX12_pushUnit 44 = .ok (.bipush 7, 2) := by decide +kernel
theorem dX12_pushUnit_46 : decode cX12_pushUnit 46 = .ok (.iload_n 3, 1) := by decide +kernel
theorem dX12_pushUnit_47 : decode cX12_pushUnit 47 = .ok (.imul, 1) := by decide +kernel
theorem dX12_pushUnit_48 : decode cX12_pushUnit 48 = .ok (.iadd, 1) := by decide +kernel
theorem dX12_pushUnit_49 : decode cX12_pushUnit 49 = .ok (.istore 5, 2) := by decide +kernel
theorem dX12_pushUnit_51 : decode cX12_pushUnit 51 = .ok (.aload_n 0, 1) := by decide +kernel
theorem dX12_pushUnit_52 : decode cX12_pushUnit 52 = .ok (.iload 5, 2) := by decide +kernel
theorem dX12_pushUnit_54 : decode cX12_pushUnit 54 = .ok (.iload 5, 2) := by decide +kernel
theorem dX12_pushUnit_56 : decode cX12_pushUnit 56 = .ok (.bipush 6, 2) := by decide +kernel
theorem dX12_pushUnit_58 : decode cX12_pushUnit 58 = .ok (.iadd, 1) := by decide +kernel
theorem dX12_pushUnit_59 : decode cX12_pushUnit 59 = .ok (.iconst 1, 1) := by decide +kernel
theorem dX12_pushUnit_60 : decode cX12_pushUnit 60 = .ok (.iload 4, 2) := by decide +kernel
theorem dX12_pushUnit_62 : decode cX12_pushUnit 62 = .ok (.invokevirtual 191, 3) := by decide +kernel
theorem dX12_pushUnit_65 : decode cX12_pushUnit 65 = .ok (.return_, 1) := by decide +kernel
theorem dX12_pushUnit_66 : decode cX12_pushUnit 66 = .ok (.bipush 12, 2) := by decide +kernel
theorem dX12_pushUnit_68 : decode cX12_pushUnit 68 = .ok (.iload_n 2, 1) := by decide +kernel
theorem dX12_pushUnit_69 : decode cX12_pushUnit 69 = .ok (.invokestatic 74, 3) := by decide +kernel
theorem dX12_pushUnit_72 : decode cX12_pushUnit 72 = .ok (.sipush 2000, 3) := by decide +kernel
theorem dX12_pushUnit_75 : decode cX12_pushUnit 75 = .ok (.isub, 1) := by decide +kernel
theorem dX12_pushUnit_76 : decode cX12_pushUnit 76 = .ok (.imul, 1) := by decide +kernel
theorem dX12_pushUnit_77 : decode cX12_pushUnit 77 = .ok (.iload_n 2, 1) := by decide +kernel
theorem dX12_pushUnit_78 : decode cX12_pushUnit 78 = .ok (.invokestatic 80, 3) := by decide +kernel
theorem dX12_pushUnit_81 : decode cX12_pushUnit 81 = .ok (.iadd, 1) := by decide +kernel
theorem dX12_pushUnit_82 : decode cX12_pushUnit 82 = .ok (.iconst 1, 1) := by decide +kernel
theorem dX12_pushUnit_83 : decode cX12_pushUnit 83 = .ok (.isub, 1) := by decide +kernel
theorem dX12_pushUnit_84 : decode cX12_pushUnit 84 = .ok (.iload_n 3, 1) := by decide +kernel
theorem dX12_pushUnit_85 : decode cX12_pushUnit 85 = .ok (.iadd, 1) := by decide +kernel
theorem dX12_pushUnit_86 : decode cX12_pushUnit 86 = .ok (.istore 5, 2) := by decide +kernel
theorem dX12_pushUnit_88 : decode cX12_pushUnit 88 = .ok (.iload 5, 2) := by decide +kernel
theorem dX12_pushUnit_90 : decode cX12_pushUnit 90 = .ok (.ifCond .ge 4, 3) := by decide +kernel
theorem dX12_pushUnit_93 : decode cX12_pushUnit 93 = .ok (.return_, 1) := by decide +kernel
theorem dX12_pushUnit_94 : decode cX12_pushUnit 94 = .ok (.aload_n 0, 1) := by decide +kernel
theorem dX12_pushUnit_95 : decode cX12_pushUnit 95 = .ok (.sipush 2000, 3) := by decide +kernel
theorem dX12_pushUnit_98 : decode cX12_pushUnit 98 = .ok (.iload 5, 2) := by decide +kernel
theorem dX12_pushUnit_100 : decode cX12_pushUnit 100 = .ok (.bipush 12, 2) := by decide +kernel
theorem dX12_pushUnit_102 : decode cX12_pushUnit 102 = .ok (.idiv, 1) := by decide +kernel
theorem dX12_pushUnit_103 : decode cX12_pushUnit 103 = .ok (.iadd, 1) := by decide +kernel
theorem dX12_pushUnit_104 : decode cX12_pushUnit 104 = .ok (.iload 5, 2) := by decide +kernel
theorem dX12_pushUnit_106 : decode cX12_pushUnit 106 = .ok (.bipush 12, 2) := by decide +kernel
theorem dX12_pushUnit_108 : decode cX12_pushUnit 108 = .ok (.irem, 1) := by decide +kernel
theorem dX12_pushUnit_109 : decode cX12_pushUnit 109 = .ok (.iconst 1, 1) := by decide +kernel
theorem dX12_pushUnit_110 : decode cX12_pushUnit 110 = .ok (.iadd, 1) := by decide +kernel
theorem dX12_pushUnit_111 : decode cX12_pushUnit 111 = .ok (.iload 4, 2) := by decide +kernel
theorem dX12_pushUnit_113 : decode cX12_pushUnit 113 = .ok (.invokevirtual 199, 3) := by decide +kernel
theorem dX12_pushUnit_116 : decode cX12_pushUnit 116 = .ok (.return_, 1) := by decide +kernel
theorem dX12_pushUnit_117 : decode cX12_pushUnit 117 = .ok (.aload_n 0, 1) := by decide +kernel
theorem dX12_pushUnit_118 : decode cX12_pushUnit 118 = .ok (.iload_n 2, 1) := by decide +kernel
theorem dX12_pushUnit_119 : decode cX12_pushUnit 119 = .ok (.invokestatic 74, 3) := by decide +kernel
theorem dX12_pushUnit_122 : decode cX12_pushUnit 122 = .ok (.iload_n 3, 1) := by decide +kernel
theorem dX12_pushUnit_123 : decode cX12_pushUnit 123 = .ok (.iadd, 1) := by decide +kernel
theorem dX12_pushUnit_124 : decode cX12_pushUnit 124 = .ok (.iload 4, 2) := by decide +kernel
theorem dX12_pushUnit_126 : decode cX12_pushUnit 126 = .ok (.invokevirtual 203, 3) := by decide +kernel
theorem dX12_pushUnit_129 : decode cX12_pushUnit 129 = .ok (.return_, 1) := by decide +kernel
theorem dX12_pushMonth_0 : decode cX12_pushMonth 0 = .ok (.iload_n 1, 1) := by decide +kernel
theorem dX12_pushMonth_1 : decode cX12_pushMonth 1 = .ok (.sipush 2000, 3) := by decide +kernel
theorem dX12_pushMonth_4 : decode cX12_pushMonth 4 = .ok (.sipush 2027, 3) := by decide +kernel
theorem dX12_pushMonth_7 : decode cX12_pushMonth 7 = .ok (.invokestatic 62, 3) := by decide +kernel
theorem dX12_pushMonth_10 : decode cX12_pushMonth 10 = .ok (.ifCond .ne 4, 3) := by decide +kernel
theorem dX12_pushMonth_13 : decode cX12_pushMonth 13 = .ok (.return_, 1) := by decide +kernel
theorem dX12_pushMonth_14 : decode cX12_pushMonth 14 = .ok (.iload_n 1, 1) := by decide +kernel
theorem dX12_pushMonth_15 : decode cX12_pushMonth 15 = .ok (.iload_n 2, 1) := by decide +kernel
theorem dX12_pushMonth_16 : decode cX12_pushMonth 16 = .ok (.invokestatic 77, 3) := by decide +kernel
theorem dX12_pushMonth_19 : decode cX12_pushMonth 19 = .ok (.istore 4, 2) := by decide +kernel
theorem dX12_pushMonth_21 : decode cX12_pushMonth 21 = .ok (.aload_n 0, 1) := by decide +kernel
theorem dX12_pushMonth_22 : decode cX12_pushMonth 22 = .ok (.iload 4, 2) := by decide +kernel
theorem dX12_pushMonth_24 : decode cX12_pushMonth 24 = .ok (.iload 4, 2) := by decide +kernel
theorem dX12_pushMonth_26 : decode cX12_pushMonth 26 = .ok (.iload_n 1, 1) := by decide +kernel
theorem dX12_pushMonth_27 : decode cX12_pushMonth 27 = .ok (.iload_n 2, 1) := by decide +kernel
theorem dX12_pushMonth_28 : decode cX12_pushMonth 28 = .ok (.invokestatic 70, 3) := by decide +kernel
theorem dX12_pushMonth_31 : decode cX12_pushMonth 31 = .ok (.iadd, 1) := by decide +kernel
theorem dX12_pushMonth_32 : decode cX12_pushMonth 32 = .ok (.iconst 1, 1) := by decide +kernel
theorem dX12_pushMonth_33 : decode cX12_pushMonth 33 = .ok (.isub, 1) := by decide +kernel
theorem dX12_pushMonth_34 : decode cX12_pushMonth 34 = .ok (.iconst 2, 1) := by decide +kernel
theorem dX12_pushMonth_35 : decode cX12_pushMonth 35 = .ok (.iload_n 3, 1) := by decide +kernel
theorem dX12_pushMonth_36 : decode cX12_pushMonth 36 = .ok (.invokevirtual 191, 3) := by decide +kernel
theorem dX12_pushMonth_39 : decode cX12_pushMonth 39 = .ok (.return_, 1) := by decide +kernel
theorem dX12_pushYear_0 : decode cX12_pushYear 0 = .ok (.iload_n 1, 1) := by decide +kernel
theorem dX12_pushYear_1 : decode cX12_pushYear 1 = .ok (.sipush 2000, 3) := by decide +kernel
theorem dX12_pushYear_4 : decode cX12_pushYear 4 = .ok (.sipush 2027, 3) := by decide +kernel
theorem dX12_pushYear_7 : decode cX12_pushYear 7 = .ok (.invokestatic 62, 3) := by decide +kernel
theorem dX12_pushYear_10 : decode cX12_pushYear 10 = .ok (.ifCond .ne 4, 3) := by decide +kernel
theorem dX12_pushYear_13 : decode cX12_pushYear 13 = .ok (.return_, 1) := by decide +kernel
theorem dX12_pushYear_14 : decode cX12_pushYear 14 = .ok (.aload_n 0, 1) := by decide +kernel
theorem dX12_pushYear_15 : decode cX12_pushYear 15 = .ok (.iload_n 1, 1) := by decide +kernel
theorem dX12_pushYear_16 : decode cX12_pushYear 16 = .ok (.invokestatic 66, 3) := by decide +kernel
theorem dX12_pushYear_19 : decode cX12_pushYear 19 = .ok (.iload_n 1, 1) := by decide +kernel
theorem dX12_pushYear_20 : decode cX12_pushYear 20 = .ok (.iconst 1, 1) := by decide +kernel
theorem dX12_pushYear_21 : decode cX12_pushYear 21 = .ok (.iadd, 1) := by decide +kernel
theorem dX12_pushYear_22 : decode cX12_pushYear 22 = .ok (.invokestatic 66, 3) := by decide +kernel
theorem dX12_pushYear_25 : decode cX12_pushYear 25 = .ok (.iconst 1, 1) := by decide +kernel
theorem dX12_pushYear_26 : decode cX12_pushYear 26 = .ok (.isub, 1) := by decide +kernel
theorem dX12_pushYear_27 : decode cX12_pushYear 27 = .ok (.iconst 3, 1) := by decide +kernel
theorem dX12_pushYear_28 : decode cX12_pushYear 28 = .ok (.iload_n 2, 1) := by decide +kernel
theorem dX12_pushYear_29 : decode cX12_pushYear 29 = .ok (.invokevirtual 191, 3) := by decide +kernel
theorem dX12_pushYear_32 : decode cX12_pushYear 32 = .ok (.return_, 1) := by decide +kernel
theorem dX12_drop_0 : decode cX12_drop 0 = .ok (.aload_n 0, 1) := by decide +kernel
theorem dX12_drop_1 : decode cX12_drop 1 = .ok (.getfield 188, 3) := by decide +kernel
theorem dX12_drop_4 : decode cX12_drop 4 = .ok (.iload_n 2, 1) := by decide +kernel
theorem dX12_drop_5 : decode cX12_drop 5 = .ok (.isub, 1) := by decide +kernel
theorem dX12_drop_6 : decode cX12_drop 6 = .ok (.istore_n 3, 1) := by decide +kernel
theorem dX12_drop_7 : decode cX12_drop 7 = .ok (.iconst 0, 1) := by decide +kernel
theorem dX12_drop_8 : decode cX12_drop 8 = .ok (.istore 4, 2) := by decide +kernel
theorem dX12_drop_10 : decode cX12_drop 10 = .ok (.iload 4, 2) := by decide +kernel
theorem dX12_drop_12 : decode cX12_drop 12 = .ok (.iload_n 3, 1) := by decide +kernel
theorem dX12_drop_13 : decode cX12_drop 13 = .ok (.if_icmp .ge 21, 3) := by decide +kernel
theorem dX12_drop_16 : decode cX12_drop 16 = .ok (.aload_n 0, 1) := by decide +kernel
theorem dX12_drop_17 : decode cX12_drop 17 = .ok (.iload_n 1, 1) := by decide +kernel
theorem dX12_drop_18 : decode cX12_drop 18 = .ok (.iload 4, 2) := by decide +kernel
theorem dX12_drop_20 : decode cX12_drop 20 = .ok (.iadd, 1) := by decide +kernel
theorem dX12_drop_21 : decode cX12_drop 21 = .ok (.iload_n 2, 1) := by decide +kernel
theorem dX12_drop_22 : decode cX12_drop 22 = .ok (.iload 4, 2) := by decide +kernel
theorem dX12_drop_24 : decode cX12_drop 24 = .ok (.iadd, 1) := by decide +kernel
theorem dX12_drop_25 : decode cX12_drop 25 = .ok (.invokevirtual 206, 3) := by decide +kernel
theorem dX12_drop_28 : decode cX12_drop 28 = .ok (.iinc 4 1, 3) := by decide +kernel
theorem dX12_drop_31 : decode cX12_drop 31 = .ok (.goto (-21), 3) := by decide +kernel
theorem dX12_drop_34 : decode cX12_drop 34 = .ok (.aload_n 0, 1) := by decide +kernel
theorem dX12_drop_35 : decode cX12_drop 35 = .ok (.iload_n 1, 1) := by decide +kernel
theorem dX12_drop_36 : decode cX12_drop 36 = .ok (.iload_n 3, 1) := by decide +kernel
theorem dX12_drop_37 : decode cX12_drop 37 = .ok (.iadd, 1) := by decide +kernel
theorem dX12_drop_38 : decode cX12_drop 38 = .ok (.putfield 188, 3) := by decide +kernel
theorem dX12_drop_41 : decode cX12_drop 41 = .ok (.return_, 1) := by decide +kernel
theorem dX12_readSpan_0 : decode cX12_readSpan 0 = .ok (.aload_n 0, 1) := by decide +kernel
theorem dX12_readSpan_1 : decode cX12_readSpan 1 = .ok (.invokevirtual 121, 3) := by decide +kernel
theorem dX12_readSpan_4 : decode cX12_readSpan 4 = .ok (.ifCond .ne 4, 3) := by decide +kernel
theorem dX12_readSpan_7 : decode cX12_readSpan 7 = .ok (.return_, 1) := by decide +kernel
theorem dX12_readSpan_8 : decode cX12_readSpan 8 = .ok (.aload_n 0, 1) := by decide +kernel
theorem dX12_readSpan_9 : decode cX12_readSpan 9 = .ok (.getfield 136, 3) := by decide +kernel
theorem dX12_readSpan_12 : decode cX12_readSpan 12 = .ok (.ifCond .eq 10, 3) := by decide +kernel
theorem dX12_readSpan_15 : decode cX12_readSpan 15 = .ok (.aload_n 0, 1) := by decide +kernel
theorem dX12_readSpan_16 : decode cX12_readSpan 16 = .ok (.invokevirtual 209, 3) := by decide +kernel
theorem dX12_readSpan_19 : decode cX12_readSpan 19 = .ok (.goto 232, 3) := by decide +kernel
theorem dX12_readSpan_22 : decode cX12_readSpan 22 = .ok (.aload_n 0, 1) := by decide +kernel
theorem dX12_readSpan_23 : decode cX12_readSpan 23 = .ok (.ldc 212, 2) := by decide +kernel
theorem dX12_readSpan_25 : decode cX12_readSpan 25 = .ok (.invokevirtual 154, 3) := by decide +kernel
theorem dX12_readSpan_28 : decode cX12_readSpan 28 = .ok (.ifCond .ne 21, 3) := by decide +kernel
theorem dX12_readSpan_31 : decode cX12_readSpan 31 = .ok (.aload_n 0, 1) := by decide +kernel
theorem dX12_readSpan_32 : decode cX12_readSpan 32 = .ok (.ldc 214, 2) := by decide +kernel
theorem dX12_readSpan_34 : decode cX12_readSpan 34 = .ok (.invokevirtual 154, 3) := by decide +kernel
theorem dX12_readSpan_37 : decode cX12_readSpan 37 = .ok (.ifCond .ne 12, 3) := by decide +kernel
theorem dX12_readSpan_40 : decode cX12_readSpan 40 = .ok (.aload_n 0, 1) := by decide +kernel
theorem dX12_readSpan_41 : decode cX12_readSpan 41 = .ok (.ldc 216, 2) := by decide +kernel
theorem dX12_readSpan_43 : decode cX12_readSpan 43 = .ok (.invokevirtual 154, 3) := by decide +kernel
theorem dX12_readSpan_46 : decode cX12_readSpan 46 = .ok (.ifCond .eq 10, 3) := by decide +kernel
theorem dX12_readSpan_49 : decode cX12_readSpan 49 = .ok (.aload_n 0, 1) := by decide +kernel
theorem dX12_readSpan_50 : decode cX12_readSpan 50 = .ok (.invokevirtual 218, 3) := by decide +kernel
theorem dX12_readSpan_53 : decode cX12_readSpan 53 = .ok (.goto 198, 3) := by decide +kernel
theorem dX12_readSpan_56 : decode cX12_readSpan 56 = .ok (.aload_n 0, 1) := by decide +kernel
theorem dX12_readSpan_57 : decode cX12_readSpan 57 = .ok (.ldc 221, 2) := by decide +kernel
theorem dX12_readSpan_59 : decode cX12_readSpan 59 = .ok (.invokevirtual 161, 3) := by decide +kernel
theorem dX12_readSpan_62 : decode cX12_readSpan 62 = .ok (.ifCond .eq 15, 3) := by decide +kernel
theorem dX12_readSpan_65 : decode cX12_readSpan 65 = .ok (.aload_n 0, 1) := by decide +kernel
theorem dX12_readSpan_66 : decode cX12_readSpan 66 = .ok (.aload_n 0, 1) := by decide +kernel
theorem dX12_readSpan_67 : decode cX12_readSpan 67 = .ok (.invokevirtual 223, 3) := by decide +kernel
theorem dX12_readSpan_70 : decode cX12_readSpan 70 = .ok (.iconst 1, 1) := by decide +kernel
theorem dX12_readSpan_71 : decode cX12_readSpan 71 = .ok (.invokevirtual 226, 3) := by decide +kernel
theorem dX12_readSpan_74 : decode cX12_readSpan 74 = .ok (.goto 177, 3) := by decide +kernel
theorem dX12_readSpan_77 : decode cX12_readSpan 77 = .ok (.aload_n 0, 1) := by decide +kernel
theorem dX12_readSpan_78 : decode cX12_readSpan 78 = .ok (.ldc 230, 2) := by decide +kernel
theorem dX12_readSpan_80 : decode cX12_readSpan 80 = .ok (.invokevirtual 161, 3) := by decide +kernel
theorem dX12_readSpan_83 : decode cX12_readSpan 83 = .ok (.ifCond .eq 15, 3) := by decide +kernel
theorem dX12_readSpan_86 : decode cX12_readSpan 86 = .ok (.aload_n 0, 1) := by decide +kernel
theorem dX12_readSpan_87 : decode cX12_readSpan 87 = .ok (.aload_n 0, 1) := by decide +kernel
theorem dX12_readSpan_88 : decode cX12_readSpan 88 = .ok (.getfield 232, 3) := by decide +kernel
theorem dX12_readSpan_91 : decode cX12_readSpan 91 = .ok (.iconst 3, 1) := by decide +kernel
theorem dX12_readSpan_92 : decode cX12_readSpan 92 = .ok (.invokevirtual 195, 3) := by decide +kernel
theorem dX12_readSpan_95 : decode cX12_readSpan 95 = .ok (.goto 156, 3) := by decide +kernel
theorem dX12_readSpan_98 : decode cX12_readSpan 98 = .ok (.aload_n 0, 1) := by decide +kernel
theorem dX12_readSpan_99 : decode cX12_readSpan 99 = .ok (.ldc 235, 2) := by decide +kernel
theorem dX12_readSpan_101 : decode cX12_readSpan 101 = .ok (.invokevirtual 161, 3) := by decide +kernel
theorem dX12_readSpan_104 : decode cX12_readSpan 104 = .ok (.ifCond .eq 17, 3) := by decide +kernel
theorem dX12_readSpan_107 : decode cX12_readSpan 107 = .ok (.aload_n 0, 1) := by decide +kernel
theorem dX12_readSpan_108 : decode cX12_readSpan 108 = .ok (.aload_n 0, 1) := by decide +kernel
theorem dX12_readSpan_109 : decode cX12_readSpan 109 = .ok (.getfield 232, 3) := by decide +kernel
theorem dX12_readSpan_112 : decode cX12_readSpan 112 = .ok (.iconst 1, 1) := by decide +kernel
theorem dX12_readSpan_113 : decode cX12_readSpan 113 = .ok (.iadd, 1) := by decide +kernel
theorem dX12_readSpan_114 : decode cX12_readSpan 114 = .ok (.iconst 3, 1) := by decide +kernel
theorem dX12_readSpan_115 : decode cX12_readSpan 115 = .ok (.invokevirtual 195, 3) := by decide +kernel
theorem dX12_readSpan_118 : decode cX12_readSpan 118 = .ok (.goto 133, 3) := by decide +kernel
theorem dX12_readSpan_121 : decode cX12_readSpan 121 = .ok (.aload_n 0, 1) := by decide +kernel
theorem dX12_readSpan_122 : decode cX12_readSpan 122 = .ok (.ldc 237, 2) := by decide +kernel
theorem dX12_readSpan_124 : decode cX12_readSpan 124 = .ok (.invokevirtual 161, 3) := by decide +kernel
theorem dX12_readSpan_127 : decode cX12_readSpan 127 = .ok (.ifCond .eq 17, 3) := by decide +kernel
theorem dX12_readSpan_130 : decode cX12_readSpan 130 = .ok (.aload_n 0, 1) := by decide +kernel
theorem dX12_readSpan_131 : decode cX12_readSpan 131 = .ok (.aload_n 0, 1) := by decide +kernel
theorem dX12_readSpan_132 : decode cX12_readSpan 132 = .ok (.getfield 232, 3) := by decide +kernel
theorem dX12_readSpan_135 : decode cX12_readSpan 135 = .ok (.iconst 1, 1) := by decide +kernel
theorem dX12_readSpan_136 : decode cX12_readSpan 136 = .ok (.isub, 1) := by decide +kernel
theorem dX12_readSpan_137 : decode cX12_readSpan 137 = .ok (.iconst 3, 1) := by decide +kernel
theorem dX12_readSpan_138 : decode cX12_readSpan 138 = .ok (.invokevirtual 195, 3) := by decide +kernel
theorem dX12_readSpan_141 : decode cX12_readSpan 141 = .ok (.goto 110, 3) := by decide +kernel
theorem dX12_readSpan_144 : decode cX12_readSpan 144 = .ok (.aload_n 0, 1) := by decide +kernel
theorem dX12_readSpan_145 : decode cX12_readSpan 145 = .ok (.ldc 239, 2) := by decide +kernel
theorem dX12_readSpan_147 : decode cX12_readSpan 147 = .ok (.invokevirtual 161, 3) := by decide +kernel
theorem dX12_readSpan_150 : decode cX12_readSpan 150 = .ok (.ifCond .eq 10, 3) := by decide +kernel
theorem dX12_readSpan_153 : decode cX12_readSpan 153 = .ok (.aload_n 0, 1) := by decide +kernel
theorem dX12_readSpan_154 : decode cX12_readSpan 154 = .ok (.invokevirtual 240, 3) := by decide +kernel
theorem dX12_readSpan_157 : decode cX12_readSpan 157 = .ok (.goto 94, 3) := by decide +kernel
theorem dX12_readSpan_160 : decode cX12_readSpan 160 = .ok (.aload_n 0, 1) := by decide +kernel
theorem dX12_readSpan_161 : decode cX12_readSpan 161 = .ok (.ldc 243, 2) := by decide +kernel
theorem dX12_readSpan_163 : decode cX12_readSpan 163 = .ok (.invokevirtual 161, 3) := by decide +kernel
theorem dX12_readSpan_166 : decode cX12_readSpan 166 = .ok (.ifCond .eq 10, 3) := by decide +kernel
theorem dX12_readSpan_169 : decode cX12_readSpan 169 = .ok (.aload_n 0, 1) := by decide +kernel
theorem dX12_readSpan_170 : decode cX12_readSpan 170 = .ok (.invokevirtual 245, 3) := by decide +kernel
theorem dX12_readSpan_173 : decode cX12_readSpan 173 = .ok (.goto 78, 3) := by decide +kernel
theorem dX12_readSpan_176 : decode cX12_readSpan 176 = .ok (.aload_n 0, 1) := by decide +kernel
theorem dX12_readSpan_177 : decode cX12_readSpan 177 = .ok (.ldc 248, 2) := by decide +kernel
theorem dX12_readSpan_179 : decode cX12_readSpan 179 = .ok (.invokevirtual 161, 3) := by decide +kernel
theorem dX12_readSpan_182 : decode cX12_readSpan 182 = .ok (.ifCond .eq 10, 3) := by decide +kernel
theorem dX12_readSpan_185 : decode cX12_readSpan 185 = .ok (.aload_n 0, 1) := by decide +kernel
theorem dX12_readSpan_186 : decode cX12_readSpan 186 = .ok (.invokevirtual 250, 3) := by decide +kernel
theorem dX12_readSpan_189 : decode cX12_readSpan 189 = .ok (.goto 62, 3) := by decide +kernel
theorem dX12_readSpan_192 : decode cX12_readSpan 192 = .ok (.aload_n 0, 1) := by decide +kernel
theorem dX12_readSpan_193 : decode cX12_readSpan 193 = .ok (.ldc 253, 2) := by decide +kernel
theorem dX12_readSpan_195 : decode cX12_readSpan 195 = .ok (.invokevirtual 161, 3) := by decide +kernel
theorem dX12_readSpan_198 : decode cX12_readSpan 198 = .ok (.ifCond .eq 10, 3) := by decide +kernel
theorem dX12_readSpan_201 : decode cX12_readSpan 201 = .ok (.aload_n 0, 1) := by decide +kernel
theorem dX12_readSpan_202 : decode cX12_readSpan 202 = .ok (.invokevirtual 255, 3) := by decide +kernel
theorem dX12_readSpan_205 : decode cX12_readSpan 205 = .ok (.goto 46, 3) := by decide +kernel
theorem dX12_readSpan_208 : decode cX12_readSpan 208 = .ok (.aload_n 0, 1) := by decide +kernel
theorem dX12_readSpan_209 : decode cX12_readSpan 209 = .ok (.ldc 182, 2) := by decide +kernel
theorem dX12_readSpan_211 : decode cX12_readSpan 211 = .ok (.invokevirtual 184, 3) := by decide +kernel
theorem dX12_readSpan_214 : decode cX12_readSpan 214 = .ok (.iconst (-1), 1) := by decide +kernel
theorem dX12_readSpan_215 : decode cX12_readSpan 215 = .ok (.if_icmp .eq 10, 3) := by decide +kernel
theorem dX12_readSpan_218 : decode cX12_readSpan 218 = .ok (.aload_n 0, 1) := by decide +kernel
theorem dX12_readSpan_219 : decode cX12_readSpan 219 = .ok (.invokevirtual 258, 3) := by decide +kernel
theorem dX12_readSpan_222 : decode cX12_readSpan 222 = .ok (.goto 29, 3) := by decide +kernel
theorem dX12_readSpan_225 : decode cX12_readSpan 225 = .ok (.aload_n 0, 1) := by decide +kernel
theorem dX12_readSpan_226 : decode cX12_readSpan 226 = .ok (.ldc_w 261, 3) := by decide +kernel
theorem dX12_readSpan_229 : decode cX12_readSpan 229 = .ok (.invokevirtual 184, 3) := by decide +kernel
theorem dX12_readSpan_232 : decode cX12_readSpan 232 = .ok (.iconst (-1), 1) := by decide +kernel
theorem dX12_readSpan_233 : decode cX12_readSpan 233 = .ok (.if_icmp .eq 10, 3) := by decide +kernel
theorem dX12_readSpan_236 : decode cX12_readSpan 236 = .ok (.aload_n 0, 1) := by decide +kernel
theorem dX12_readSpan_237 : decode cX12_readSpan 237 = .ok (.invokevirtual 263, 3) := by decide +kernel
theorem dX12_readSpan_240 : decode cX12_readSpan 240 = .ok (.goto 11, 3) := by decide +kernel
theorem dX12_readSpan_243 : decode cX12_readSpan 243 = .ok (.aload_n 0, 1) := by decide +kernel
theorem dX12_readSpan_244 : decode cX12_readSpan 244 = .ok (.aload_n 0, 1) := by decide +kernel
theorem dX12_readSpan_245 : decode cX12_readSpan 245 = .ok (.getfield 133, 3) := by decide +kernel
theorem dX12_readSpan_248 : decode cX12_readSpan 248 = .ok (.invokevirtual 125, 3) := by decide +kernel
theorem dX12_readSpan_251 : decode cX12_readSpan 251 = .ok (.return_, 1) := by decide +kernel
theorem dX12_readNumbered_0 : decode cX12_readNumbered 0 = .ok (.aload_n 0, 1) := by decide +kernel
theorem dX12_readNumbered_1 : decode cX12_readNumbered 1 = .ok (.getfield 143, 3) := by decide +kernel
theorem dX12_readNumbered_4 : decode cX12_readNumbered 4 = .ok (.sipush 2000, 3) := by decide +kernel
theorem dX12_readNumbered_7 : decode cX12_readNumbered 7 = .ok (.sipush 2027, 3) := by decide +kernel
theorem dX12_readNumbered_10 : decode cX12_readNumbered 10 = .ok (.invokestatic 62, 3) := by decide +kernel
theorem dX12_readNumbered_13 : decode cX12_readNumbered 13 = .ok (.ifCond .eq 17, 3) := by decide +kernel
theorem dX12_readNumbered_16 : decode cX12_readNumbered 16 = .ok (.aload_n 0, 1) := by decide +kernel
theorem dX12_readNumbered_17 : decode cX12_readNumbered 17 = .ok (.aload_n 0, 1) := by decide +kernel
theorem dX12_readNumbered_18 : decode cX12_readNumbered 18 = .ok (.getfield 143, 3) := by decide +kernel
theorem dX12_readNumbered_21 : decode cX12_readNumbered 21 = .ok (.iconst 3, 1) := by decide +kernel
theorem dX12_readNumbered_22 : decode cX12_readNumbered 22 = .ok (.invokevirtual 203, 3) := by decide +kernel
theorem dX12_readNumbered_25 : decode cX12_readNumbered 25 = .ok (.aload_n 0, 1) := by decide +kernel
theorem dX12_readNumbered_26 : decode cX12_readNumbered 26 = .ok (.invokevirtual 158, 3) := by decide +kernel
theorem dX12_readNumbered_29 : decode cX12_readNumbered 29 = .ok (.return_, 1) := by decide +kernel
theorem dX12_readNumbered_30 : decode cX12_readNumbered 30 = .ok (.aload_n 0, 1) := by decide +kernel
theorem dX12_readNumbered_31 : decode cX12_readNumbered 31 = .ok (.iconst 1, 1) := by decide +kernel
theorem dX12_readNumbered_32 : decode cX12_readNumbered 32 = .ok (.bipush 99, 2) := by decide +kernel
theorem dX12_readNumbered_34 : decode cX12_readNumbered 34 = .ok (.invokevirtual 266, 3) := by decide +kernel
theorem dX12_readNumbered_37 : decode cX12_readNumbered 37 = .ok (.istore_n 1, 1) := by decide +kernel
theorem dX12_readNumbered_38 : decode cX12_readNumbered 38 = .ok (.aload_n 0, 1) := by decide +kernel
theorem dX12_readNumbered_39 : decode cX12_readNumbered 39 = .ok (.invokevirtual 269, 3) := by decide +kernel
theorem dX12_readNumbered_42 : decode cX12_readNumbered 42 = .ok (.istore_n 2, 1) := by decide +kernel
theorem dX12_readNumbered_43 : decode cX12_readNumbered 43 = .ok (.aload_n 0, 1) := by decide +kernel
theorem dX12_readNumbered_44 : decode cX12_readNumbered 44 = .ok (.ldc_w 272, 3) := by decide +kernel
theorem dX12_readNumbered_47 : decode cX12_readNumbered 47 = .ok (.invokevirtual 161, 3) := by decide +kernel
theorem dX12_readNumbered_50 : decode cX12_readNumbered 50 = .ok (.ifCond .eq 11, 3) := by decide +kernel
theorem dX12_readNumbered_53 : decode cX12_readNumbered 53 = .ok (.aload_n 0, 1) := by decide +kernel
theorem dX12_readNumbered_54 : decode cX12_readNumbered 54 = .ok (.iload_n 2, 1) := by decide +kernel
theorem dX12_readNumbered_55 : decode cX12_readNumbered 55 = .ok (.iload_n 1, 1) := by decide +kernel
theorem dX12_readNumbered_56 : decode cX12_readNumbered 56 = .ok (.ineg, 1) := by decide +kernel
theorem dX12_readNumbered_57 : decode cX12_readNumbered 57 = .ok (.invokevirtual 274, 3) := by decide +kernel
theorem dX12_readNumbered_60 : decode cX12_readNumbered 60 = .ok (.return_, 1) := by decide +kernel
theorem dX12_readNumbered_61 : decode cX12_readNumbered 61 = .ok (.aload_n 0, 1) := by decide +kernel
theorem dX12_readNumbered_62 : decode cX12_readNumbered 62 = .ok (.ldc_w 277, 3) := by decide +kernel
theorem dX12_readNumbered_65 : decode cX12_readNumbered 65 = .ok (.invokevirtual 154, 3) := by decide +kernel
theorem dX12_readNumbered_68 : decode cX12_readNumbered 68 = .ok (.istore_n 3, 1) := by decide +kernel
theorem dX12_readNumbered_69 : decode cX12_readNumbered 69 = .ok (.iload_n 3, 1) := by decide +kernel
theorem dX12_readNumbered_70 : decode cX12_readNumbered 70 = .ok (.ifCond .ne 21, 3) := by decide +kernel
theorem dX12_readNumbered_73 : decode cX12_readNumbered 73 = .ok (.aload_n 0, 1) := by decide +kernel
theorem dX12_readNumbered_74 : decode cX12_readNumbered 74 = .ok (.ldc_w 279, 3) := by decide +kernel
theorem dX12_readNumbered_77 : decode cX12_readNumbered 77 = .ok (.invokevirtual 154, 3) := by decide +kernel
theorem dX12_readNumbered_80 : decode cX12_readNumbered 80 = .ok (.ifCond .ne 11, 3) := by decide +kernel
theorem dX12_readNumbered_83 : decode cX12_readNumbered 83 = .ok (.aload_n 0, 1) := by decide +kernel
theorem dX12_readNumbered_84 : decode cX12_readNumbered 84 = .ok (.aload_n 0, 1) := by decide +kernel
theorem dX12_readNumbered_85 : decode cX12_readNumbered 85 = .ok (.getfield 133, 3) := by decide +kernel
theorem dX12_readNumbered_88 : decode cX12_readNumbered 88 = .ok (.invokevirtual 125, 3) := by decide +kernel
theorem dX12_readNumbered_91 : decode cX12_readNumbered 91 = .ok (.aload_n 0, 1) := by decide +kernel
theorem dX12_readNumbered_92 : decode cX12_readNumbered 92 = .ok (.invokevirtual 158, 3) := by decide +kernel
theorem dX12_readNumbered_95 : decode cX12_readNumbered 95 = .ok (.aload_n 0, 1) := by decide +kernel
theorem dX12_readNumbered_96 : decode cX12_readNumbered 96 = .ok (.getfield 188, 3) := by decide +kernel
theorem dX12_readNumbered_99 : decode cX12_readNumbered 99 = .ok (.istore 4, 2) := by decide +kernel
theorem dX12_readNumbered_101 : decode cX12_readNumbered 101 = .ok (.aload_n 0, 1) := by decide +kernel
theorem dX12_readNumbered_102 : decode cX12_readNumbered 102 = .ok (.invokevirtual 281, 3) := by decide +kernel
theorem dX12_readNumbered_105 : decode cX12_readNumbered 105 = .ok (.aload_n 0, 1) := by decide +kernel
theorem dX12_readNumbered_106 : decode cX12_readNumbered 106 = .ok (.invokevirtual 121, 3) := by decide +kernel
theorem dX12_readNumbered_109 : decode cX12_readNumbered 109 = .ok (.ifCond .ne 4, 3) := by decide +kernel
theorem dX12_readNumbered_112 : decode cX12_readNumbered 112 = .ok (.return_, 1) := by decide +kernel
theorem dX12_readNumbered_113 : decode cX12_readNumbered 113 = .ok (.aload_n 0, 1) := by decide +kernel
theorem dX12_readNumbered_114 : decode cX12_readNumbered 114 = .ok (.getfield 188, 3) := by decide +kernel
theorem dX12_readNumbered_117 : decode cX12_readNumbered 117 = .ok (.istore 5, 2) := by decide +kernel
theorem dX12_readNumbered_119 : decode cX12_readNumbered 119 = .ok (.iload 4, 2) := by decide +kernel
theorem dX12_readNumbered_121 : decode cX12_readNumbered 121 = .ok (.istore 6, 2) := by decide +kernel
theorem dX12_readNumbered_123 : decode cX12_readNumbered 123 = .ok (.iload 6, 2) := by decide +kernel
theorem dX12_readNumbered_125 : decode cX12_readNumbered 125 = .ok (.iload 5, 2) := by decide +kernel
theorem dX12_readNumbered_127 : decode cX12_readNumbered 127 = .ok (.if_icmp .ge 62, 3) := by decide +kernel
theorem dX12_readNumbered_130 : decode cX12_readNumbered 130 = .ok (.iload_n 3, 1) := by decide +kernel
theorem dX12_readNumbered_131 : decode cX12_readNumbered 131 = .ok (.ifCond .eq 18, 3) := by decide +kernel
theorem dX12_readNumbered_134 : decode cX12_readNumbered 134 = .ok (.aload_n 0, 1) := by decide +kernel
theorem dX12_readNumbered_135 : decode cX12_readNumbered 135 = .ok (.iload 6, 2) := by decide +kernel
theorem dX12_readNumbered_137 : decode cX12_readNumbered 137 = .ok (.iconst 1, 1) := by decide +kernel
theorem dX12_readNumbered_138 : decode cX12_readNumbered 138 = .ok (.invokevirtual 284, 3) := by decide +kernel
theorem dX12_readNumbered_141 : decode cX12_readNumbered 141 = .ok (.iload_n 2, 1) := by decide +kernel
theorem dX12_readNumbered_142 : decode cX12_readNumbered 142 = .ok (.iload_n 1, 1) := by decide +kernel
theorem dX12_readNumbered_143 : decode cX12_readNumbered 143 = .ok (.invokestatic 106, 3) := by decide +kernel
theorem dX12_readNumbered_146 : decode cX12_readNumbered 146 = .ok (.goto 16, 3) := by decide +kernel
theorem dX12_readNumbered_149 : decode cX12_readNumbered 149 = .ok (.aload_n 0, 1) := by decide +kernel
theorem dX12_readNumbered_150 : decode cX12_readNumbered 150 = .ok (.iload 6, 2) := by decide +kernel
theorem dX12_readNumbered_152 : decode cX12_readNumbered 152 = .ok (.iconst 0, 1) := by decide +kernel
theorem dX12_readNumbered_153 : decode cX12_readNumbered 153 = .ok (.invokevirtual 284, 3) := by decide +kernel
theorem dX12_readNumbered_156 : decode cX12_readNumbered 156 = .ok (.iload_n 2, 1) := by decide +kernel
theorem dX12_readNumbered_157 : decode cX12_readNumbered 157 = .ok (.iload_n 1, 1) := by decide +kernel
theorem dX12_readNumbered_158 : decode cX12_readNumbered 158 = .ok (.ineg, 1) := by decide +kernel
theorem dX12_readNumbered_159 : decode cX12_readNumbered 159 = .ok (.invokestatic 106, 3) := by decide +kernel
theorem dX12_readNumbered_162 : decode cX12_readNumbered 162 = .ok (.istore 7, 2) := by decide +kernel
theorem dX12_readNumbered_164 : decode cX12_readNumbered 164 = .ok (.iload 7, 2) := by decide +kernel
theorem dX12_readNumbered_166 : decode cX12_readNumbered 166 = .ok (.iconst (-1), 1) := by decide +kernel
theorem dX12_readNumbered_167 : decode cX12_readNumbered 167 = .ok (.if_icmp .eq 16, 3) := by decide +kernel
theorem dX12_readNumbered_170 : decode cX12_readNumbered 170 = .ok (.aload_n 0, 1) := by decide +kernel
theorem dX12_readNumbered_171 : decode cX12_readNumbered 171 = .ok (.iload 7, 2) := by decide +kernel
theorem dX12_readNumbered_173 : decode cX12_readNumbered 173 = .ok (.aload_n 0, 1) := by decide +kernel
theorem dX12_readNumbered_174 : decode cX12_readNumbered 174 = .ok (.iload 6, 2) := by decide +kernel
theorem dX12_readNumbered_176 : decode cX12_readNumbered 176 = .ok (.iconst 3, 1) := by decide +kernel
theorem dX12_readNumbered_177 : decode cX12_readNumbered 177 = .ok (.invokevirtual 284, 3) := by decide +kernel
theorem dX12_readNumbered_180 : decode cX12_readNumbered 180 = .ok (.invokevirtual 195, 3) := by decide +kernel
theorem dX12_readNumbered_183 : decode cX12_readNumbered 183 = .ok (.iinc 6 1, 3) := by decide +kernel
theorem dX12_readNumbered_186 : decode cX12_readNumbered 186 = .ok (.goto (-63), 3) := by decide +kernel
theorem dX12_readNumbered_189 : decode cX12_readNumbered 189 = .ok (.aload_n 0, 1) := by decide +kernel
theorem dX12_readNumbered_190 : decode cX12_readNumbered 190 = .ok (.iload 4, 2) := by decide +kernel
theorem dX12_readNumbered_192 : decode cX12_readNumbered 192 = .ok (.iload 5, 2) := by decide +kernel
theorem dX12_readNumbered_194 : decode cX12_readNumbered 194 = .ok (.invokevirtual 287, 3) := by decide +kernel
theorem dX12_readNumbered_197 : decode cX12_readNumbered 197 = .ok (.return_, 1) := by decide +kernel
theorem dX12_pushMoved_0 : decode cX12_pushMoved 0 = .ok (.aload_n 0, 1) := by decide +kernel
theorem dX12_pushMoved_1 : decode cX12_pushMoved 1 = .ok (.invokevirtual 121, 3) := by decide +kernel
theorem dX12_pushMoved_4 : decode cX12_pushMoved 4 = .ok (.ifCond .eq 15, 3) := by decide +kernel
theorem dX12_pushMoved_7 : decode cX12_pushMoved 7 = .ok (.aload_n 0, 1) := by decide +kernel
theorem dX12_pushMoved_8 : decode cX12_pushMoved 8 = .ok (.getfield 232, 3) := by decide +kernel
theorem dX12_pushMoved_11 : decode cX12_pushMoved 11 = .ok (.iload_n 1, 1) := by decide +kernel
theorem dX12_pushMoved_12 : decode cX12_pushMoved 12 = .ok (.iload_n 2, 1) := by decide +kernel
theorem dX12_pushMoved_13 : decode cX12_pushMoved 13 = .ok (.invokestatic 106, 3) := by decide +kernel
theorem dX12_pushMoved_16 : decode cX12_pushMoved 16 = .ok (.goto 4, 3) := by decide +kernel
theorem dX12_pushMoved_19 : decode cX12_pushMoved 19 = .ok (.iconst (-1), 1) := by decide +kernel
theorem dX12_pushMoved_20 : decode cX12_pushMoved 20 = .ok (.istore_n 3, 1) := by decide +kernel
theorem dX12_pushMoved_21 : decode cX12_pushMoved 21 = .ok (.iload_n 3, 1) := by decide +kernel
theorem dX12_pushMoved_22 : decode cX12_pushMoved 22 = .ok (.iconst (-1), 1) := by decide +kernel
theorem dX12_pushMoved_23 : decode cX12_pushMoved 23 = .ok (.if_icmp .ne 4, 3) := by decide +kernel
theorem dX12_pushMoved_26 : decode cX12_pushMoved 26 = .ok (.return_, 1) := by decide +kernel
theorem dX12_pushMoved_27 : decode cX12_pushMoved 27 = .ok (.aload_n 0, 1) := by decide +kernel
theorem dX12_pushMoved_28 : decode cX12_pushMoved 28 = .ok (.iload_n 3, 1) := by decide +kernel
theorem dX12_pushMoved_29 : decode cX12_pushMoved 29 = .ok (.iconst 3, 1) := by decide +kernel
theorem dX12_pushMoved_30 : decode cX12_pushMoved 30 = .ok (.invokevirtual 195, 3) := by decide +kernel
theorem dX12_pushMoved_33 : decode cX12_pushMoved 33 = .ok (.iload_n 1, 1) := by decide +kernel
theorem dX12_pushMoved_34 : decode cX12_pushMoved 34 = .ok (.ifCond .eq 11, 3) := by decide +kernel
theorem dX12_pushMoved_37 : decode cX12_pushMoved 37 = .ok (.aload_n 0, 1) := by decide +kernel
theorem dX12_pushMoved_38 : decode cX12_pushMoved 38 = .ok (.iload_n 1, 1) := by decide +kernel
theorem dX12_pushMoved_39 : decode cX12_pushMoved 39 = .ok (.iload_n 3, 1) := by decide +kernel
theorem dX12_pushMoved_40 : decode cX12_pushMoved 40 = .ok (.iconst 0, 1) := by decide +kernel
theorem dX12_pushMoved_41 : decode cX12_pushMoved 41 = .ok (.iconst 1, 1) := by decide +kernel
theorem dX12_pushMoved_42 : decode cX12_pushMoved 42 = .ok (.invokevirtual 290, 3) := by decide +kernel
theorem dX12_pushMoved_45 : decode cX12_pushMoved 45 = .ok (.return_, 1) := by decide +kernel
theorem dX12_readThird_0 : decode cX12_readThird 0 = .ok (.aload_n 0, 1) := by decide +kernel
theorem dX12_readThird_1 : decode cX12_readThird 1 = .ok (.ldc 212, 2) := by decide +kernel
theorem dX12_readThird_3 : decode cX12_readThird 3 = .ok (.invokevirtual 154, 3) := by decide +kernel
theorem dX12_readThird_6 : decode cX12_readThird 6 = .ok (.ifCond .eq 7, 3) := by decide +kernel
theorem dX12_readThird_9 : decode cX12_readThird 9 = .ok (.iconst 0, 1) := by decide +kernel
theorem dX12_readThird_10 : decode cX12_readThird 10 = .ok (.goto 17, 3) := by decide +kernel
theorem dX12_readThird_13 : decode cX12_readThird 13 = .ok (.aload_n 0, 1) := by decide +kernel
theorem dX12_readThird_14 : decode cX12_readThird 14 = .ok (.ldc 214, 2) := by decide +kernel
theorem dX12_readThird_16 : decode cX12_readThird 16 = .ok (.invokevirtual 154, 3) := by decide +kernel
theorem dX12_readThird_19 : decode cX12_readThird 19 = .ok (.ifCond .eq 7, 3) := by decide +kernel
theorem dX12_readThird_22 : decode cX12_readThird 22 = .ok (.iconst 1, 1) := by decide +kernel
theorem dX12_readThird_23 : decode cX12_readThird 23 = .ok (.goto 4, 3) := by decide +kernel
theorem dX12_readThird_26 : decode cX12_readThird 26 = .ok (.iconst 2, 1) := by decide +kernel
theorem dX12_readThird_27 : decode cX12_readThird 27 = .ok (.istore_n 1, 1) := by decide +kernel
theorem dX12_readThird_28 : decode cX12_readThird 28 = .ok (.aload_n 0, 1) := by decide +kernel
theorem dX12_readThird_29 : decode cX12_readThird 29 = .ok (.invokevirtual 158, 3) := by decide +kernel
theorem dX12_readThird_32 : decode cX12_readThird 32 = .ok (.aload_n 0, 1) := by decide +kernel
theorem dX12_readThird_33 : decode cX12_readThird 33 = .ok (.getfield 188, 3) := by decide +kernel
theorem dX12_readThird_36 : decode cX12_readThird 36 = .ok (.istore_n 2, 1) := by decide +kernel
theorem dX12_readThird_37 : decode cX12_readThird 37 = .ok (.aload_n 0, 1) := by decide +kernel
theorem dX12_readThird_38 : decode cX12_readThird 38 = .ok (.invokevirtual 281, 3) := by decide +kernel
theorem dX12_readThird_41 : decode cX12_readThird 41 = .ok (.aload_n 0, 1) := by decide +kernel
theorem dX12_readThird_42 : decode cX12_readThird 42 = .ok (.invokevirtual 121, 3) := by decide +kernel
theorem dX12_readThird_45 : decode cX12_readThird 45 = .ok (.ifCond .ne 4, 3) := by decide +kernel
theorem dX12_readThird_48 : decode cX12_readThird 48 = .ok (.return_, 1) := by decide +kernel
theorem dX12_readThird_49 : decode cX12_readThird 49 = .ok (.aload_n 0, 1) := by decide +kernel
theorem dX12_readThird_50 : decode cX12_readThird 50 = .ok (.getfield 188, 3) := by decide +kernel
theorem dX12_readThird_53 : decode cX12_readThird 53 = .ok (.istore_n 3, 1) := by decide +kernel
theorem dX12_readThird_54 : decode cX12_readThird 54 = .ok (.iload_n 2, 1) := by decide +kernel
theorem dX12_readThird_55 : decode cX12_readThird 55 = .ok (.istore 4, 2) := by decide +kernel
theorem dX12_readThird_57 : decode cX12_readThird 57 = .ok (.iload 4, 2) := by decide +kernel
theorem dX12_readThird_59 : decode cX12_readThird 59 = .ok (.iload_n 3, 1) := by decide +kernel
theorem dX12_readThird_60 : decode cX12_readThird 60 = .ok (.if_icmp .ge 152, 3) := by decide +kernel
theorem dX12_readThird_63 : decode cX12_readThird 63 = .ok (.aload_n 0, 1) := by decide +kernel
theorem dX12_readThird_64 : decode cX12_readThird 64 = .ok (.iload 4, 2) := by decide +kernel
theorem dX12_readThird_66 : decode cX12_readThird 66 = .ok (.iconst 1, 1) := by decide +kernel
theorem dX12_readThird_67 : decode cX12_readThird 67 = .ok (.invokevirtual 284, 3) := by decide +kernel
theorem dX12_readThird_70 : decode cX12_readThird 70 = .ok (.aload_n 0, 1) := by decide +kernel
theorem dX12_readThird_71 : decode cX12_readThird 71 = .ok (.iload 4, 2) := by decide +kernel
theorem dX12_readThird_73 : decode cX12_readThird 73 = .ok (.iconst 0, 1) := by decide +kernel
theorem dX12_readThird_74 : decode cX12_readThird 74 = .ok (.invokevirtual 284, 3) := by decide +kernel
theorem dX12_readThird_77 : decode cX12_readThird 77 = .ok (.isub, 1) := by decide +kernel
theorem dX12_readThird_78 : decode cX12_readThird 78 = .ok (.iconst 1, 1) := by decide +kernel
theorem dX12_readThird_79 : decode cX12_readThird 79 = .ok (.iadd, 1) := by decide +kernel
theorem dX12_readThird_80 : decode cX12_readThird 80 = .ok (.iconst 3, 1) := by decide +kernel
theorem dX12_readThird_81 : decode cX12_readThird 81 = .ok (.idiv, 1) := by decide +kernel
theorem dX12_readThird_82 : decode cX12_readThird 82 = .ok (.istore 5, 2) := by decide +kernel
theorem dX12_readThird_84 : decode cX12_readThird 84 = .ok (.iload 5, 2) := by decide +kernel
theorem dX12_readThird_86 : decode cX12_readThird 86 = .ok (.ifCond .ne 6, 3) := by decide +kernel
theorem dX12_readThird_89 : decode cX12_readThird 89 = .ok (.goto 117, 3) := by decide +kernel
theorem dX12_readThird_92 : decode cX12_readThird 92 = .ok (.iload_n 1, 1) := by decide +kernel
theorem dX12_readThird_93 : decode cX12_readThird 93 = .ok (.ifCond .ne 13, 3) := by decide +kernel
theorem dX12_readThird_96 : decode cX12_readThird 96 = .ok (.aload_n 0, 1) := by decide +kernel
theorem dX12_readThird_97 : decode cX12_readThird 97 = .ok (.iload 4, 2) := by decide +kernel
theorem dX12_readThird_99 : decode cX12_readThird 99 = .ok (.iconst 0, 1) := by decide +kernel
theorem dX12_readThird_100 : decode cX12_readThird 100 = .ok (.invokevirtual 284, 3) := by decide +kernel
theorem dX12_readThird_103 : decode cX12_readThird 103 = .ok (.goto 33, 3) := by decide +kernel
theorem dX12_readThird_106 : decode cX12_readThird 106 = .ok (.iload_n 1, 1) := by decide +kernel
theorem dX12_readThird_107 : decode cX12_readThird 107 = .ok (.iconst 1, 1) := by decide +kernel
theorem dX12_readThird_108 : decode cX12_readThird 108 = .ok (.if_icmp .ne 16, 3) := by decide +kernel
theorem dX12_readThird_111 : decode cX12_readThird 111 = .ok (.aload_n 0, 1) := by decide +kernel
theorem dX12_readThird_112 : decode cX12_readThird 112 = .ok (.iload 4, 2) := by decide +kernel
theorem dX12_readThird_114 : decode cX12_readThird 114 = .ok (.iconst 0, 1) := by decide +kernel
theorem dX12_readThird_115 : decode cX12_readThird 115 = .ok (.invokevirtual 284, 3) := by decide +kernel
theorem dX12_readThird_118 : decode cX12_readThird 118 = .ok (.iload 5, 2) := by decide +kernel
theorem dX12_readThird_120 : decode cX12_readThird 120 = .ok (.iadd, 1) := by decide +kernel
theorem dX12_readThird_121 : decode cX12_readThird 121 = .ok (.goto 15, 3) := by decide +kernel
theorem dX12_readThird_124 : decode cX12_readThird 124 = .ok (.aload_n 0, 1) := by decide +kernel
theorem dX12_readThird_125 : decode cX12_readThird 125 = .ok (.iload 4, 2) := by decide +kernel
theorem dX12_readThird_127 : decode cX12_readThird 127 = .ok (.iconst 1, 1) := by decide +kernel
theorem dX12_readThird_128 : decode cX12_readThird 128 = .ok (.invokevirtual 284, 3) := by decide +kernel
theorem dX12_readThird_131 : decode cX12_readThird 131 = .ok (.iload 5, 2) := by decide +kernel
theorem dX12_readThird_133 : decode cX12_readThird 133 = .ok (.isub, 1) := by decide +kernel
theorem dX12_readThird_134 : decode cX12_readThird 134 = .ok (.iconst 1, 1) := by decide +kernel
theorem dX12_readThird_135 : decode cX12_readThird 135 = .ok (.iadd, 1) := by decide +kernel
theorem dX12_readThird_136 : decode cX12_readThird 136 = .ok (.istore 6, 2) := by decide +kernel
theorem dX12_readThird_138 : decode cX12_readThird 138 = .ok (.iload_n 1, 1) := by decide +kernel
theorem dX12_readThird_139 : decode cX12_readThird 139 = .ok (.ifCond .ne 18, 3) := by decide +kernel
theorem dX12_readThird_142 : decode cX12_readThird 142 = .ok (.aload_n 0, 1) := by decide +kernel
theorem dX12_readThird_143 : decode cX12_readThird 143 = .ok (.iload 4, 2) := by decide +kernel
theorem dX12_readThird_145 : decode cX12_readThird 145 = .ok (.iconst 0, 1) := by decide +kernel
theorem dX12_readThird_146 : decode cX12_readThird 146 = .ok (.invokevirtual 284, 3) := by decide +kernel
theorem dX12_readThird_149 : decode cX12_readThird 149 = .ok (.iload 5, 2) := by decide +kernel
theorem dX12_readThird_151 : decode cX12_readThird 151 = .ok (.iadd, 1) := by decide +kernel
theorem dX12_readThird_152 : decode cX12_readThird 152 = .ok (.iconst 1, 1) := by decide +kernel
theorem dX12_readThird_153 : decode cX12_readThird 153 = .ok (.isub, 1) := by decide +kernel
theorem dX12_readThird_154 : decode cX12_readThird 154 = .ok (.goto 28, 3) := by decide +kernel
theorem dX12_readThird_157 : decode cX12_readThird 157 = .ok (.iload_n 1, 1) := by decide +kernel
theorem dX12_readThird_158 : decode cX12_readThird 158 = .ok (.iconst 1, 1) := by decide +kernel
theorem dX12_readThird_159 : decode cX12_readThird 159 = .ok (.if_icmp .ne 16, 3) := by decide +kernel
theorem dX12_readThird_162 : decode cX12_readThird 162 = .ok (.aload_n 0, 1) := by decide +kernel
theorem dX12_readThird_163 : decode cX12_readThird 163 = .ok (.iload 4, 2) := by decide +kernel
theorem dX12_readThird_165 : decode cX12_readThird 165 = .ok (.iconst 1, 1) := by decide +kernel
theorem dX12_readThird_166 : decode cX12_readThird 166 = .ok (.invokevirtual 284, 3) := by decide +kernel
theorem dX12_readThird_169 : decode cX12_readThird 169 = .ok (.iload 5, 2) := by decide +kernel
theorem dX12_readThird_171 : decode cX12_readThird 171 = .ok (.isub, 1) := by decide +kernel
theorem dX12_readThird_172 : decode cX12_readThird 172 = .ok (.goto 10, 3) := by decide +kernel
theorem dX12_readThird_175 : decode cX12_readThird 175 = .ok (.aload_n 0, 1) := by decide +kernel
theorem dX12_readThird_176 : decode cX12_readThird 176 = .ok (.iload 4, 2) := by decide +kernel
theorem dX12_readThird_178 : decode cX12_readThird 178 = .ok (.iconst 1, 1) := by decide +kernel
theorem dX12_readThird_179 : decode cX12_readThird 179 = .ok (.invokevirtual 284, 3) := by decide +kernel
theorem dX12_readThird_182 : decode cX12_readThird 182 = .ok (.istore 7, 2) := by decide +kernel
theorem dX12_readThird_184 : decode cX12_readThird 184 = .ok (.aload_n 0, 1) := by decide +kernel
theorem dX12_readThird_185 : decode cX12_readThird 185 = .ok (.iload 6, 2) := by decide +kernel
theorem dX12_readThird_187 : decode cX12_readThird 187 = .ok (.iload 7, 2) := by decide +kernel
theorem dX12_readThird_189 : decode cX12_readThird 189 = .ok (.aload_n 0, 1) := by decide +kernel
theorem dX12_readThird_190 : decode cX12_readThird 190 = .ok (.iload 4, 2) := by decide +kernel
theorem dX12_readThird_192 : decode cX12_readThird 192 = .ok (.iconst 2, 1) := by decide +kernel
theorem dX12_readThird_193 : decode cX12_readThird 193 = .ok (.invokevirtual 284, 3) := by decide +kernel
theorem dX12_readThird_196 : decode cX12_readThird 196 = .ok (.aload_n 0, 1) := by decide +kernel
theorem dX12_readThird_197 : decode cX12_readThird 197 = .ok (.iload 4, 2) := by decide +kernel
theorem dX12_readThird_199 : decode cX12_readThird 199 = .ok (.iconst 3, 1) := by decide +kernel
theorem dX12_readThird_200 : decode cX12_readThird 200 = .ok (.invokevirtual 284, 3) := by decide +kernel
theorem dX12_readThird_203 : decode cX12_readThird 203 = .ok (.invokevirtual 191, 3) := by decide +kernel
theorem dX12_readThird_206 : decode cX12_readThird 206 = .ok (.iinc 4 1, 3) := by decide +kernel
theorem dX12_readThird_209 : decode cX12_readThird 209 = .ok (.goto (-152), 3) := by decide +kernel
theorem dX12_readThird_212 : decode cX12_readThird 212 = .ok (.aload_n 0, 1) := by decide +kernel
theorem dX12_readThird_213 : decode cX12_readThird 213 = .ok (.iload_n 2, 1) := by decide +kernel
theorem dX12_readThird_214 : decode cX12_readThird 214 = .ok (.iload_n 3, 1) := by decide +kernel
theorem dX12_readThird_215 : decode cX12_readThird 215 = .ok (.invokevirtual 287, 3) := by decide +kernel
theorem dX12_readThird_218 : decode cX12_readThird 218 = .ok (.return_, 1) := by decide +kernel
theorem dX12_readOf_0 : decode cX12_readOf 0 = .ok (.aload_n 0, 1) := by decide +kernel
theorem dX12_readOf_1 : decode cX12_readOf 1 = .ok (.ldc_w 293, 3) := by decide +kernel
theorem dX12_readOf_4 : decode cX12_readOf 4 = .ok (.invokevirtual 295, 3) := by decide +kernel
theorem dX12_readOf_7 : decode cX12_readOf 7 = .ok (.aload_n 0, 1) := by decide +kernel
theorem dX12_readOf_8 : decode cX12_readOf 8 = .ok (.getfield 188, 3) := by decide +kernel
theorem dX12_readOf_11 : decode cX12_readOf 11 = .ok (.istore_n 3, 1) := by decide +kernel
theorem dX12_readOf_12 : decode cX12_readOf 12 = .ok (.aload_n 0, 1) := by decide +kernel
theorem dX12_readOf_13 : decode cX12_readOf 13 = .ok (.invokevirtual 281, 3) := by decide +kernel
theorem dX12_readOf_16 : decode cX12_readOf 16 = .ok (.aload_n 0, 1) := by decide +kernel
theorem dX12_readOf_17 : decode cX12_readOf 17 = .ok (.invokevirtual 121, 3) := by decide +kernel
theorem dX12_readOf_20 : decode cX12_readOf 20 = .ok (.ifCond .ne 4, 3) := by decide +kernel
theorem dX12_readOf_23 : decode cX12_readOf 23 = .ok (.return_, 1) := by decide +kernel
theorem dX12_readOf_24 : decode cX12_readOf 24 = .ok (.aload_n 0, 1) := by decide +kernel
theorem dX12_readOf_25 : decode cX12_readOf 25 = .ok (.getfield 188, 3) := by decide +kernel
theorem dX12_readOf_28 : decode cX12_readOf 28 = .ok (.istore 4, 2) := by decide +kernel
theorem dX12_readOf_30 : decode cX12_readOf 30 = .ok (.iload_n 3, 1) := by decide +kernel
theorem dX12_readOf_31 : decode cX12_readOf 31 = .ok (.istore 5, 2) := by decide +kernel
theorem dX12_readOf_33 : decode cX12_readOf 33 = .ok (.iload 5, 2) := by decide +kernel
theorem dX12_readOf_35 : decode cX12_readOf 35 = .ok (.iload 4, 2) := by decide +kernel
theorem dX12_readOf_37 : decode cX12_readOf 37 = .ok (.if_icmp .ge 115, 3) := by decide +kernel
theorem dX12_readOf_40 : decode cX12_readOf 40 = .ok (.iload_n 2, 1) := by decide +kernel
theorem dX12_readOf_41 : decode cX12_readOf 41 = .ok (.ifCond .eq 13, 3) := by decide +kernel
theorem dX12_readOf_44 : decode cX12_readOf 44 = .ok (.aload_n 0, 1) := by decide +kernel
theorem dX12_readOf_45 : decode cX12_readOf 45 = .ok (.iload 5, 2) := by decide +kernel
theorem dX12_readOf_47 : decode cX12_readOf 47 = .ok (.iconst 0, 1) := by decide +kernel
theorem dX12_readOf_48 : decode cX12_readOf 48 = .ok (.invokevirtual 284, 3) := by decide +kernel
theorem dX12_readOf_51 : decode cX12_readOf 51 = .ok (.goto 10, 3) := by decide +kernel
theorem dX12_readOf_54 : decode cX12_readOf 54 = .ok (.aload_n 0, 1) := by decide +kernel
theorem dX12_readOf_55 : decode cX12_readOf 55 = .ok (.iload 5, 2) := by decide +kernel
theorem dX12_readOf_57 : decode cX12_readOf 57 = .ok (.iconst 1, 1) := by decide +kernel
theorem dX12_readOf_58 : decode cX12_readOf 58 = .ok (.invokevirtual 284, 3) := by decide +kernel
theorem dX12_readOf_61 : decode cX12_readOf 61 = .ok (.istore 6, 2) := by decide +kernel
theorem dX12_readOf_63 : decode cX12_readOf 63 = .ok (.iload 6, 2) := by decide +kernel
theorem dX12_readOf_65 : decode cX12_readOf 65 = .ok (.aload_n 0, 1) := by decide +kernel
theorem dX12_readOf_66 : decode cX12_readOf 66 = .ok (.iload 5, 2) := by decide +kernel
theorem dX12_readOf_68 : decode cX12_readOf 68 = .ok (.iconst 0, 1) := by decide +kernel
theorem dX12_readOf_69 : decode cX12_readOf 69 = .ok (.invokevirtual 284, 3) := by decide +kernel
theorem dX12_readOf_72 : decode cX12_readOf 72 = .ok (.aload_n 0, 1) := by decide +kernel
theorem dX12_readOf_73 : decode cX12_readOf 73 = .ok (.iload 5, 2) := by decide +kernel
theorem dX12_readOf_75 : decode cX12_readOf 75 = .ok (.iconst 1, 1) := by decide +kernel
theorem dX12_readOf_76 : decode cX12_readOf 76 = .ok (.invokevirtual 284, 3) := by decide +kernel
theorem dX12_readOf_79 : decode cX12_readOf 79 = .ok (.invokestatic 62, 3) := by decide +kernel
theorem dX12_readOf_82 : decode cX12_readOf 82 = .ok (.ifCond .eq 29, 3) := by decide +kernel
theorem dX12_readOf_85 : decode cX12_readOf 85 = .ok (.iload 6, 2) := by decide +kernel
theorem dX12_readOf_87 : decode cX12_readOf 87 = .ok (.invokestatic 98, 3) := by decide +kernel
theorem dX12_readOf_90 : decode cX12_readOf 90 = .ok (.iload_n 1, 1) := by decide +kernel
theorem dX12_readOf_91 : decode cX12_readOf 91 = .ok (.if_icmp .eq 20, 3) := by decide +kernel
theorem dX12_readOf_94 : decode cX12_readOf 94 = .ok (.iload 6, 2) := by decide +kernel
theorem dX12_readOf_96 : decode cX12_readOf 96 = .ok (.iload_n 2, 1) := by decide +kernel
theorem dX12_readOf_97 : decode cX12_readOf 97 = .ok (.ifCond .eq 7, 3) := by decide +kernel
theorem dX12_readOf_100 : decode cX12_readOf 100 = .ok (.iconst 1, 1) := by decide +kernel
theorem dX12_readOf_101 : decode cX12_readOf 101 = .ok (.goto 4, 3) := by decide +kernel
theorem dX12_readOf_104 : decode cX12_readOf 104 = .ok (.iconst (-1), 1) := by decide +kernel
theorem dX12_readOf_105 : decode cX12_readOf 105 = .ok (.iadd, 1) := by decide +kernel
theorem dX12_readOf_106 : decode cX12_readOf 106 = .ok (.istore 6, 2) := by decide +kernel
theorem dX12_readOf_108 : decode cX12_readOf 108 = .ok (.goto (-45), 3) := by decide +kernel
theorem dX12_readOf_111 : decode cX12_readOf 111 = .ok (.iload 6, 2) := by decide +kernel
theorem dX12_readOf_113 : decode cX12_readOf 113 = .ok (.aload_n 0, 1) := by decide +kernel
theorem dX12_readOf_114 : decode cX12_readOf 114 = .ok (.iload 5, 2) := by decide +kernel
theorem dX12_readOf_116 : decode cX12_readOf 116 = .ok (.iconst 0, 1) := by decide +kernel
theorem dX12_readOf_117 : decode cX12_readOf 117 = .ok (.invokevirtual 284, 3) := by decide +kernel
theorem dX12_readOf_120 : decode cX12_readOf 120 = .ok (.aload_n 0, 1) := by decide +kernel
theorem dX12_readOf_121 : decode cX12_readOf 121 = .ok (.iload 5, 2) := by decide +kernel
theorem dX12_readOf_123 : decode cX12_readOf 123 = .ok (.iconst 1, 1) := by decide +kernel
theorem dX12_readOf_124 : decode cX12_readOf 124 = .ok (.invokevirtual 284, 3) := by decide +kernel
theorem dX12_readOf_127 : decode cX12_readOf 127 = .ok (.invokestatic 62, 3) := by decide +kernel
theorem dX12_readOf_130 : decode cX12_readOf 130 = .ok (.ifCond .eq 16, 3) := by decide +kernel
theorem dX12_readOf_133 : decode cX12_readOf 133 = .ok (.aload_n 0, 1) := by decide +kernel
theorem dX12_readOf_134 : decode cX12_readOf 134 = .ok (.iload 6, 2) := by decide +kernel
theorem dX12_readOf_136 : decode cX12_readOf 136 = .ok (.aload_n 0, 1) := by decide +kernel
theorem dX12_readOf_137 : decode cX12_readOf 137 = .ok (.iload 5, 2) := by decide +kernel
theorem dX12_readOf_139 : decode cX12_readOf 139 = .ok (.iconst 3, 1) := by decide +kernel
theorem dX12_readOf_140 : decode cX12_readOf 140 = .ok (.invokevirtual 284, 3) := by decide +kernel
theorem dX12_readOf_143 : decode cX12_readOf 143 = .ok (.invokevirtual 195, 3) := by decide +kernel
theorem dX12_readOf_146 : decode cX12_readOf 146 = .ok (.iinc 5 1, 3) := by decide +kernel
theorem dX12_readOf_149 : decode cX12_readOf 149 = .ok (.goto (-116), 3) := by decide +kernel
theorem dX12_readOf_152 : decode cX12_readOf 152 = .ok (.aload_n 0, 1) := by decide +kernel
theorem dX12_readOf_153 : decode cX12_readOf 153 = .ok (.iload_n 3, 1) := by decide +kernel
theorem dX12_readOf_154 : decode cX12_readOf 154 = .ok (.iload 4, 2) := by decide +kernel
theorem dX12_readOf_156 : decode cX12_readOf 156 = .ok (.invokevirtual 287, 3) := by decide +kernel
theorem dX12_readOf_159 : decode cX12_readOf 159 = .ok (.return_, 1) := by decide +kernel
theorem dX12_readIn_0 : decode cX12_readIn 0 = .ok (.aload_n 0, 1) := by decide +kernel
theorem dX12_readIn_1 : decode cX12_readIn 1 = .ok (.iconst 1, 1) := by decide +kernel
theorem dX12_readIn_2 : decode cX12_readIn 2 = .ok (.bipush 99, 2) := by decide +kernel
theorem dX12_readIn_4 : decode cX12_readIn 4 = .ok (.invokevirtual 266, 3) := by decide +kernel
theorem dX12_readIn_7 : decode cX12_readIn 7 = .ok (.istore_n 1, 1) := by decide +kernel
theorem dX12_readIn_8 : decode cX12_readIn 8 = .ok (.aload_n 0, 1) := by decide +kernel
theorem dX12_readIn_9 : decode cX12_readIn 9 = .ok (.invokevirtual 269, 3) := by decide +kernel
theorem dX12_readIn_12 : decode cX12_readIn 12 = .ok (.istore_n 2, 1) := by decide +kernel
theorem dX12_readIn_13 : decode cX12_readIn 13 = .ok (.aload_n 0, 1) := by decide +kernel
theorem dX12_readIn_14 : decode cX12_readIn 14 = .ok (.iload_n 2, 1) := by decide +kernel
theorem dX12_readIn_15 : decode cX12_readIn 15 = .ok (.iload_n 1, 1) := by decide +kernel
theorem dX12_readIn_16 : decode cX12_readIn 16 = .ok (.invokevirtual 274, 3) := by decide +kernel
theorem dX12_readIn_19 : decode cX12_readIn 19 = .ok (.return_, 1) := by decide +kernel
theorem dX12_inWeek_0 : decode cX12_inWeek 0 = .ok (.iload_n 0, 1) := by decide +kernel
theorem dX12_inWeek_1 : decode cX12_inWeek 1 = .ok (.iload_n 0, 1) := by decide +kernel
theorem dX12_inWeek_2 : decode cX12_inWeek 2 = .ok (.invokestatic 98, 3) := by decide +kernel
theorem dX12_inWeek_5 : decode cX12_inWeek 5 = .ok (.isub, 1) := by decide +kernel
theorem dX12_inWeek_6 : decode cX12_inWeek 6 = .ok (.iload_n 1, 1) := by decide +kernel
theorem dX12_inWeek_7 : decode cX12_inWeek 7 = .ok (.iadd, 1) := by decide +kernel
theorem dX12_inWeek_8 : decode cX12_inWeek 8 = .ok (.ireturn, 1) := by decide +kernel
theorem dX12_from_0 : decode cX12_from 0 = .ok (.iload_n 0, 1) := by decide +kernel
theorem dX12_from_1 : decode cX12_from 1 = .ok (.iload_n 1, 1) := by decide +kernel
theorem dX12_from_2 : decode cX12_from 2 = .ok (.iload_n 0, 1) := by decide +kernel
theorem dX12_from_3 : decode cX12_from 3 = .ok (.invokestatic 98, 3) := by decide +kernel
theorem dX12_from_6 : decode cX12_from 6 = .ok (.isub, 1) := by decide +kernel
theorem dX12_from_7 : decode cX12_from 7 = .ok (.bipush 7, 2) := by decide +kernel
theorem dX12_from_9 : decode cX12_from 9 = .ok (.iadd, 1) := by decide +kernel
theorem dX12_from_10 : decode cX12_from 10 = .ok (.bipush 7, 2) := by decide +kernel
theorem dX12_from_12 : decode cX12_from 12 = .ok (.irem, 1) := by decide +kernel
theorem dX12_from_13 : decode cX12_from 13 = .ok (.iadd, 1) := by decide +kernel
theorem dX12_from_14 : decode cX12_from 14 = .ok (.ireturn, 1) := by decide +kernel
theorem dX12_ahead_0 : decode cX12_ahead 0 = .ok (.iload_n 0, 1) := by decide +kernel
theorem dX12_ahead_1 : decode cX12_ahead 1 = .ok (.iconst 1, 1) := by decide +kernel
theorem dX12_ahead_2 : decode cX12_ahead 2 = .ok (.isub, 1) := by decide +kernel
theorem dX12_ahead_3 : decode cX12_ahead 3 = .ok (.iload_n 0, 1) := by decide +kernel
theorem dX12_ahead_4 : decode cX12_ahead 4 = .ok (.iconst 1, 1) := by decide +kernel
theorem dX12_ahead_5 : decode cX12_ahead 5 = .ok (.isub, 1) := by decide +kernel
theorem dX12_ahead_6 : decode cX12_ahead 6 = .ok (.invokestatic 98, 3) := by decide +kernel
theorem dX12_ahead_9 : decode cX12_ahead 9 = .ok (.iload_n 1, 1) := by decide +kernel
theorem dX12_ahead_10 : decode cX12_ahead 10 = .ok (.isub, 1) := by decide +kernel
theorem dX12_ahead_11 : decode cX12_ahead 11 = .ok (.bipush 7, 2) := by decide +kernel
theorem dX12_ahead_13 : decode cX12_ahead 13 = .ok (.iadd, 1) := by decide +kernel
theorem dX12_ahead_14 : decode cX12_ahead 14 = .ok (.bipush 7, 2) := by decide +kernel
theorem dX12_ahead_16 : decode cX12_ahead 16 = .ok (.irem, 1) := by decide +kernel
theorem dX12_ahead_17 : decode cX12_ahead 17 = .ok (.isub, 1) := by decide +kernel
theorem dX12_ahead_18 : decode cX12_ahead 18 = .ok (.ireturn, 1) := by decide +kernel
theorem dX12_readThis_0 : decode cX12_readThis 0 = .ok (.aload_n 0, 1) := by decide +kernel
theorem dX12_readThis_1 : decode cX12_readThis 1 = .ok (.ldc 182, 2) := by decide +kernel
theorem dX12_readThis_3 : decode cX12_readThis 3 = .ok (.invokevirtual 184, 3) := by decide +kernel
theorem dX12_readThis_6 : decode cX12_readThis 6 = .ok (.istore_n 1, 1) := by decide +kernel
theorem dX12_readThis_7 : decode cX12_readThis 7 = .ok (.iload_n 1, 1) := by decide +kernel
theorem dX12_readThis_8 : decode cX12_readThis 8 = .ok (.iconst (-1), 1) := by decide +kernel
theorem dX12_readThis_9 : decode cX12_readThis 9 = .ok (.if_icmp .ne 27, 3) := by decide +kernel
theorem dX12_readThis_12 : decode cX12_readThis 12 = .ok (.aload_n 0, 1) := by decide +kernel
theorem dX12_readThis_13 : decode cX12_readThis 13 = .ok (.invokevirtual 269, 3) := by decide +kernel
theorem dX12_readThis_16 : decode cX12_readThis 16 = .ok (.istore_n 2, 1) := by decide +kernel
theorem dX12_readThis_17 : decode cX12_readThis 17 = .ok (.aload_n 0, 1) := by decide +kernel
theorem dX12_readThis_18 : decode cX12_readThis 18 = .ok (.invokevirtual 121, 3) := by decide +kernel
theorem dX12_readThis_21 : decode cX12_readThis 21 = .ok (.ifCond .eq 14, 3) := by decide +kernel
theorem dX12_readThis_24 : decode cX12_readThis 24 = .ok (.aload_n 0, 1) := by decide +kernel
theorem dX12_readThis_25 : decode cX12_readThis 25 = .ok (.iload_n 2, 1) := by decide +kernel
theorem dX12_readThis_26 : decode cX12_readThis 26 = .ok (.aload_n 0, 1) := by decide +kernel
theorem dX12_readThis_27 : decode cX12_readThis 27 = .ok (.getfield 232, 3) := by decide +kernel
theorem dX12_readThis_30 : decode cX12_readThis 30 = .ok (.iconst 0, 1) := by decide +kernel
theorem dX12_readThis_31 : decode cX12_readThis 31 = .ok (.iconst 3, 1) := by decide +kernel
theorem dX12_readThis_32 : decode cX12_readThis 32 = .ok (.invokevirtual 290, 3) := by decide +kernel
theorem dX12_readThis_35 : decode cX12_readThis 35 = .ok (.return_, 1) := by decide +kernel
theorem dX12_readThis_36 : decode cX12_readThis 36 = .ok (.aload_n 0, 1) := by decide +kernel
theorem dX12_readThis_37 : decode cX12_readThis 37 = .ok (.invokevirtual 158, 3) := by decide +kernel
theorem dX12_readThis_40 : decode cX12_readThis 40 = .ok (.aload_n 0, 1) := by decide +kernel
theorem dX12_readThis_41 : decode cX12_readThis 41 = .ok (.aload_n 0, 1) := by decide +kernel
theorem dX12_readThis_42 : decode cX12_readThis 42 = .ok (.getfield 232, 3) := by decide +kernel
theorem dX12_readThis_45 : decode cX12_readThis 45 = .ok (.iload_n 1, 1) := by decide +kernel
theorem dX12_readThis_46 : decode cX12_readThis 46 = .ok (.invokestatic 299, 3) := by decide +kernel
theorem dX12_readThis_49 : decode cX12_readThis 49 = .ok (.iconst 3, 1) := by decide +kernel
theorem dX12_readThis_50 : decode cX12_readThis 50 = .ok (.invokevirtual 195, 3) := by decide +kernel
theorem dX12_readThis_53 : decode cX12_readThis 53 = .ok (.return_, 1) := by decide +kernel
theorem dX12_readNext_0 : decode cX12_readNext 0 = .ok (.aload_n 0, 1) := by decide +kernel
theorem dX12_readNext_1 : decode cX12_readNext 1 = .ok (.ldc 182, 2) := by decide +kernel
theorem dX12_readNext_3 : decode cX12_readNext 3 = .ok (.invokevirtual 184, 3) := by decide +kernel
theorem dX12_readNext_6 : decode cX12_readNext 6 = .ok (.istore_n 1, 1) := by decide +kernel
theorem dX12_readNext_7 : decode cX12_readNext 7 = .ok (.iload_n 1, 1) := by decide +kernel
theorem dX12_readNext_8 : decode cX12_readNext 8 = .ok (.iconst (-1), 1) := by decide +kernel
theorem dX12_readNext_9 : decode cX12_readNext 9 = .ok (.if_icmp .ne 52, 3) := by decide +kernel
theorem dX12_readNext_12 : decode cX12_readNext 12 = .ok (.aload_n 0, 1) := by decide +kernel
theorem dX12_readNext_13 : decode cX12_readNext 13 = .ok (.invokevirtual 269, 3) := by decide +kernel
theorem dX12_readNext_16 : decode cX12_readNext 16 = .ok (.istore_n 2, 1) := by decide +kernel
theorem dX12_readNext_17 : decode cX12_readNext 17 = .ok (.aload_n 0, 1) := by decide +kernel
theorem dX12_readNext_18 : decode cX12_readNext 18 = .ok (.invokevirtual 121, 3) := by decide +kernel
theorem dX12_readNext_21 : decode cX12_readNext 21 = .ok (.ifCond .ne 4, 3) := by decide +kernel
theorem dX12_readNext_24 : decode cX12_readNext 24 = .ok (.return_, 1) := by decide +kernel
theorem dX12_readNext_25 : decode cX12_readNext 25 = .ok (.aload_n 0, 1) := by decide +kernel
theorem dX12_readNext_26 : decode cX12_readNext 26 = .ok (.iload_n 2, 1) := by decide +kernel
theorem dX12_readNext_27 : decode cX12_readNext 27 = .ok (.aload_n 0, 1) := by decide +kernel
theorem dX12_readNext_28 : decode cX12_readNext 28 = .ok (.getfield 232, 3) := by decide +kernel
theorem dX12_readNext_31 : decode cX12_readNext 31 = .ok (.iconst 1, 1) := by decide +kernel
theorem dX12_readNext_32 : decode cX12_readNext 32 = .ok (.iconst 3, 1) := by decide +kernel
theorem dX12_readNext_33 : decode cX12_readNext 33 = .ok (.invokevirtual 290, 3) := by decide +kernel
theorem dX12_readNext_36 : decode cX12_readNext 36 = .ok (.iload_n 2, 1) := by decide +kernel
theorem dX12_readNext_37 : decode cX12_readNext 37 = .ok (.iconst 1, 1) := by decide +kernel
theorem dX12_readNext_38 : decode cX12_readNext 38 = .ok (.if_icmp .ne 22, 3) := by decide +kernel
theorem dX12_readNext_41 : decode cX12_readNext 41 = .ok (.aload_n 0, 1) := by decide +kernel
theorem dX12_readNext_42 : decode cX12_readNext 42 = .ok (.aload_n 0, 1) := by decide +kernel
theorem dX12_readNext_43 : decode cX12_readNext 43 = .ok (.getfield 232, 3) := by decide +kernel
theorem dX12_readNext_46 : decode cX12_readNext 46 = .ok (.iconst 1, 1) := by decide +kernel
theorem dX12_readNext_47 : decode cX12_readNext 47 = .ok (.iadd, 1) := by decide +kernel
theorem dX12_readNext_48 : decode cX12_readNext 48 = .ok (.aload_n 0, 1) := by decide +kernel
theorem dX12_readNext_49 : decode cX12_readNext 49 = .ok (.getfield 232, 3) := by decide +kernel
theorem dX12_readNext_52 : decode cX12_readNext 52 = .ok (.bipush 7, 2) := by decide +kernel
theorem dX12_readNext_54 : decode cX12_readNext 54 = .ok (.iadd, 1) := by decide +kernel
theorem dX12_readNext_55 : decode cX12_readNext 55 = .ok (.iconst 1, 1) := by decide +kernel
theorem dX12_readNext_56 : decode cX12_readNext 56 = .ok (.iconst 1, 1) := by decide +kernel
theorem dX12_readNext_57 : decode cX12_readNext 57 = .ok (.invokevirtual 191, 3) := by decide +kernel
theorem dX12_readNext_60 : decode cX12_readNext 60 = .ok (.return_, 1) := by decide +kernel
theorem dX12_readNext_61 : decode cX12_readNext 61 = .ok (.aload_n 0, 1) := by decide +kernel
theorem dX12_readNext_62 : decode cX12_readNext 62 = .ok (.invokevirtual 158, 3) := by decide +kernel
theorem dX12_readNext_65 : decode cX12_readNext 65 = .ok (.aload_n 0, 1) := by decide +kernel
theorem dX12_readNext_66 : decode cX12_readNext 66 = .ok (.aload_n 0, 1) := by decide +kernel
theorem dX12_readNext_67 : decode cX12_readNext 67 = .ok (.getfield 232, 3) := by decide +kernel
theorem dX12_readNext_70 : decode cX12_readNext 70 = .ok (.iload_n 1, 1) := by decide +kernel
theorem dX12_readNext_71 : decode cX12_readNext 71 = .ok (.invokestatic 299, 3) := by decide +kernel
theorem dX12_readNext_74 : decode cX12_readNext 74 = .ok (.bipush 7, 2) := by decide +kernel
theorem dX12_readNext_76 : decode cX12_readNext 76 = .ok (.iadd, 1) := by decide +kernel
theorem dX12_readNext_77 : decode cX12_readNext 77 = .ok (.iconst 3, 1) := by decide +kernel
theorem dX12_readNext_78 : decode cX12_readNext 78 = .ok (.invokevirtual 195, 3) := by decide +kernel
theorem dX12_readNext_81 : decode cX12_readNext 81 = .ok (.aload_n 0, 1) := by decide +kernel
theorem dX12_readNext_82 : decode cX12_readNext 82 = .ok (.aload_n 0, 1) := by decide +kernel
theorem dX12_readNext_83 : decode cX12_readNext 83 = .ok (.getfield 232, 3) := by decide +kernel
theorem dX12_readNext_86 : decode cX12_readNext 86 = .ok (.iconst 1, 1) := by decide +kernel
theorem dX12_readNext_87 : decode cX12_readNext 87 = .ok (.iadd, 1) := by decide +kernel
theorem dX12_readNext_88 : decode cX12_readNext 88 = .ok (.iload_n 1, 1) := by decide +kernel
theorem dX12_readNext_89 : decode cX12_readNext 89 = .ok (.invokestatic 302, 3) := by decide +kernel
theorem dX12_readNext_92 : decode cX12_readNext 92 = .ok (.iconst 2, 1) := by decide +kernel
theorem dX12_readNext_93 : decode cX12_readNext 93 = .ok (.invokevirtual 195, 3) := by decide +kernel
theorem dX12_readNext_96 : decode cX12_readNext 96 = .ok (.return_, 1) := by decide +kernel
theorem dX12_readLast_0 : decode cX12_readLast 0 = .ok (.aload_n 0, 1) := by decide +kernel
theorem dX12_readLast_1 : decode cX12_readLast 1 = .ok (.ldc 182, 2) := by decide +kernel
theorem dX12_readLast_3 : decode cX12_readLast 3 = .ok (.invokevirtual 184, 3) := by decide +kernel
theorem dX12_readLast_6 : decode cX12_readLast 6 = .ok (.istore_n 1, 1) := by decide +kernel
theorem dX12_readLast_7 : decode cX12_readLast 7 = .ok (.iload_n 1, 1) := by decide +kernel
theorem dX12_readLast_8 : decode cX12_readLast 8 = .ok (.iconst (-1), 1) := by decide +kernel
theorem dX12_readLast_9 : decode cX12_readLast 9 = .ok (.if_icmp .ne 52, 3) := by decide +kernel
theorem dX12_readLast_12 : decode cX12_readLast 12 = .ok (.aload_n 0, 1) := by decide +kernel
theorem dX12_readLast_13 : decode cX12_readLast 13 = .ok (.invokevirtual 269, 3) := by decide +kernel
theorem dX12_readLast_16 : decode cX12_readLast 16 = .ok (.istore_n 2, 1) := by decide +kernel
theorem dX12_readLast_17 : decode cX12_readLast 17 = .ok (.aload_n 0, 1) := by decide +kernel
theorem dX12_readLast_18 : decode cX12_readLast 18 = .ok (.invokevirtual 121, 3) := by decide +kernel
theorem dX12_readLast_21 : decode cX12_readLast 21 = .ok (.ifCond .ne 4, 3) := by decide +kernel
theorem dX12_readLast_24 : decode cX12_readLast 24 = .ok (.return_, 1) := by decide +kernel
theorem dX12_readLast_25 : decode cX12_readLast 25 = .ok (.aload_n 0, 1) := by decide +kernel
theorem dX12_readLast_26 : decode cX12_readLast 26 = .ok (.iload_n 2, 1) := by decide +kernel
theorem dX12_readLast_27 : decode cX12_readLast 27 = .ok (.aload_n 0, 1) := by decide +kernel
theorem dX12_readLast_28 : decode cX12_readLast 28 = .ok (.getfield 232, 3) := by decide +kernel
theorem dX12_readLast_31 : decode cX12_readLast 31 = .ok (.iconst (-1), 1) := by decide +kernel
theorem dX12_readLast_32 : decode cX12_readLast 32 = .ok (.iconst 3, 1) := by decide +kernel
theorem dX12_readLast_33 : decode cX12_readLast 33 = .ok (.invokevirtual 290, 3) := by decide +kernel
theorem dX12_readLast_36 : decode cX12_readLast 36 = .ok (.iload_n 2, 1) := by decide +kernel
theorem dX12_readLast_37 : decode cX12_readLast 37 = .ok (.iconst 1, 1) := by decide +kernel
theorem dX12_readLast_38 : decode cX12_readLast 38 = .ok (.if_icmp .ne 22, 3) := by decide +kernel
theorem dX12_readLast_41 : decode cX12_readLast 41 = .ok (.aload_n 0, 1) := by decide +kernel
theorem dX12_readLast_42 : decode cX12_readLast 42 = .ok (.aload_n 0, 1) := by decide +kernel
theorem dX12_readLast_43 : decode cX12_readLast 43 = .ok (.getfield 232, 3) := by decide +kernel
theorem dX12_readLast_46 : decode cX12_readLast 46 = .ok (.bipush 7, 2) := by decide +kernel
theorem dX12_readLast_48 : decode cX12_readLast 48 = .ok (.isub, 1) := by decide +kernel
theorem dX12_readLast_49 : decode cX12_readLast 49 = .ok (.aload_n 0, 1) := by decide +kernel
theorem dX12_readLast_50 : decode cX12_readLast 50 = .ok (.getfield 232, 3) := by decide +kernel
theorem dX12_readLast_53 : decode cX12_readLast 53 = .ok (.iconst 1, 1) := by decide +kernel
theorem dX12_readLast_54 : decode cX12_readLast 54 = .ok (.isub, 1) := by decide +kernel
theorem dX12_readLast_55 : decode cX12_readLast 55 = .ok (.iconst 1, 1) := by decide +kernel
theorem dX12_readLast_56 : decode cX12_readLast 56 = .ok (.iconst 1, 1) := by decide +kernel
theorem dX12_readLast_57 : decode cX12_readLast 57 = .ok (.invokevirtual 191, 3) := by decide +kernel
theorem dX12_readLast_60 : decode cX12_readLast 60 = .ok (.return_, 1) := by decide +kernel
theorem dX12_readLast_61 : decode cX12_readLast 61 = .ok (.aload_n 0, 1) := by decide +kernel
theorem dX12_readLast_62 : decode cX12_readLast 62 = .ok (.invokevirtual 158, 3) := by decide +kernel
theorem dX12_readLast_65 : decode cX12_readLast 65 = .ok (.aload_n 0, 1) := by decide +kernel
theorem dX12_readLast_66 : decode cX12_readLast 66 = .ok (.ldc_w 293, 3) := by decide +kernel
theorem dX12_readLast_69 : decode cX12_readLast 69 = .ok (.invokevirtual 154, 3) := by decide +kernel
theorem dX12_readLast_72 : decode cX12_readLast 72 = .ok (.ifCond .eq 10, 3) := by decide +kernel
theorem dX12_readLast_75 : decode cX12_readLast 75 = .ok (.aload_n 0, 1) := by decide +kernel
theorem dX12_readLast_76 : decode cX12_readLast 76 = .ok (.iload_n 1, 1) := by decide +kernel
theorem dX12_readLast_77 : decode cX12_readLast 77 = .ok (.iconst 0, 1) := by decide +kernel
theorem dX12_readLast_78 : decode cX12_readLast 78 = .ok (.invokevirtual 226, 3) := by decide +kernel
theorem dX12_readLast_81 : decode cX12_readLast 81 = .ok (.return_, 1) := by decide +kernel
theorem dX12_readLast_82 : decode cX12_readLast 82 = .ok (.aload_n 0, 1) := by decide +kernel
theorem dX12_readLast_83 : decode cX12_readLast 83 = .ok (.aload_n 0, 1) := by decide +kernel
theorem dX12_readLast_84 : decode cX12_readLast 84 = .ok (.getfield 232, 3) := by decide +kernel
theorem dX12_readLast_87 : decode cX12_readLast 87 = .ok (.iload_n 1, 1) := by decide +kernel
theorem dX12_readLast_88 : decode cX12_readLast 88 = .ok (.invokestatic 305, 3) := by decide +kernel
theorem dX12_readLast_91 : decode cX12_readLast 91 = .ok (.iconst 3, 1) := by decide +kernel
theorem dX12_readLast_92 : decode cX12_readLast 92 = .ok (.invokevirtual 195, 3) := by decide +kernel
theorem dX12_readLast_95 : decode cX12_readLast 95 = .ok (.aload_n 0, 1) := by decide +kernel
theorem dX12_readLast_96 : decode cX12_readLast 96 = .ok (.aload_n 0, 1) := by decide +kernel
theorem dX12_readLast_97 : decode cX12_readLast 97 = .ok (.getfield 232, 3) := by decide +kernel
theorem dX12_readLast_100 : decode cX12_readLast 100 = .ok (.iload_n 1, 1) := by decide +kernel
theorem dX12_readLast_101 : decode cX12_readLast 101 = .ok (.invokestatic 299, 3) := by decide +kernel
theorem dX12_readLast_104 : decode cX12_readLast 104 = .ok (.bipush 7, 2) := by decide +kernel
theorem dX12_readLast_106 : decode cX12_readLast 106 = .ok (.isub, 1) := by decide +kernel
theorem dX12_readLast_107 : decode cX12_readLast 107 = .ok (.iconst 2, 1) := by decide +kernel
theorem dX12_readLast_108 : decode cX12_readLast 108 = .ok (.invokevirtual 195, 3) := by decide +kernel
theorem dX12_readLast_111 : decode cX12_readLast 111 = .ok (.return_, 1) := by decide +kernel
theorem dX12_readDayName_0 : decode cX12_readDayName 0 = .ok (.aload_n 0, 1) := by decide +kernel
theorem dX12_readDayName_1 : decode cX12_readDayName 1 = .ok (.ldc 182, 2) := by decide +kernel
theorem dX12_readDayName_3 : decode cX12_readDayName 3 = .ok (.invokevirtual 184, 3) := by decide +kernel
theorem dX12_readDayName_6 : decode cX12_readDayName 6 = .ok (.istore_n 1, 1) := by decide +kernel
theorem dX12_readDayName_7 : decode cX12_readDayName 7 = .ok (.aload_n 0, 1) := by decide +kernel
theorem dX12_readDayName_8 : decode cX12_readDayName 8 = .ok (.invokevirtual 158, 3) := by decide +kernel
theorem dX12_readDayName_11 : decode cX12_readDayName 11 = .ok (.aload_n 0, 1) := by decide +kernel
theorem dX12_readDayName_12 : decode cX12_readDayName 12 = .ok (.ldc_w 277, 3) := by decide +kernel
theorem dX12_readDayName_15 : decode cX12_readDayName 15 = .ok (.invokevirtual 161, 3) := by decide +kernel
theorem dX12_readDayName_18 : decode cX12_readDayName 18 = .ok (.ifCond .eq 44, 3) := by decide +kernel
theorem dX12_readDayName_21 : decode cX12_readDayName 21 = .ok (.aload_n 0, 1) := by decide +kernel
theorem dX12_readDayName_22 : decode cX12_readDayName 22 = .ok (.ldc 248, 2) := by decide +kernel
theorem dX12_readDayName_24 : decode cX12_readDayName 24 = .ok (.invokevirtual 295, 3) := by decide +kernel
theorem dX12_readDayName_27 : decode cX12_readDayName 27 = .ok (.aload_n 0, 1) := by decide +kernel
theorem dX12_readDayName_28 : decode cX12_readDayName 28 = .ok (.aload_n 0, 1) := by decide +kernel
theorem dX12_readDayName_29 : decode cX12_readDayName 29 = .ok (.getfield 232, 3) := by decide +kernel
theorem dX12_readDayName_32 : decode cX12_readDayName 32 = .ok (.iconst 1, 1) := by decide +kernel
theorem dX12_readDayName_33 : decode cX12_readDayName 33 = .ok (.iadd, 1) := by decide +kernel
theorem dX12_readDayName_34 : decode cX12_readDayName 34 = .ok (.iload_n 1, 1) := by decide +kernel
theorem dX12_readDayName_35 : decode cX12_readDayName 35 = .ok (.invokestatic 302, 3) := by decide +kernel
theorem dX12_readDayName_38 : decode cX12_readDayName 38 = .ok (.bipush 7, 2) := by decide +kernel
theorem dX12_readDayName_40 : decode cX12_readDayName 40 = .ok (.iadd, 1) := by decide +kernel
theorem dX12_readDayName_41 : decode cX12_readDayName 41 = .ok (.iconst 3, 1) := by decide +kernel
theorem dX12_readDayName_42 : decode cX12_readDayName 42 = .ok (.invokevirtual 195, 3) := by decide +kernel
theorem dX12_readDayName_45 : decode cX12_readDayName 45 = .ok (.aload_n 0, 1) := by decide +kernel
theorem dX12_readDayName_46 : decode cX12_readDayName 46 = .ok (.aload_n 0, 1) := by decide +kernel
theorem dX12_readDayName_47 : decode cX12_readDayName 47 = .ok (.getfield 232, 3) := by decide +kernel
theorem dX12_readDayName_50 : decode cX12_readDayName 50 = .ok (.iload_n 1, 1) := by decide +kernel
theorem dX12_readDayName_51 : decode cX12_readDayName 51 = .ok (.invokestatic 299, 3) := by decide +kernel
theorem dX12_readDayName_54 : decode cX12_readDayName 54 = .ok (.bipush 14, 2) := by decide +kernel
theorem dX12_readDayName_56 : decode cX12_readDayName 56 = .ok (.iadd, 1) := by decide +kernel
theorem dX12_readDayName_57 : decode cX12_readDayName 57 = .ok (.iconst 2, 1) := by decide +kernel
theorem dX12_readDayName_58 : decode cX12_readDayName 58 = .ok (.invokevirtual 195, 3) := by decide +kernel
theorem dX12_readDayName_61 : decode cX12_readDayName 61 = .ok (.return_, 1) := by decide +kernel
theorem dX12_readDayName_62 : decode cX12_readDayName 62 = .ok (.aload_n 0, 1) := by decide +kernel
theorem dX12_readDayName_63 : decode cX12_readDayName 63 = .ok (.aload_n 0, 1) := by decide +kernel
theorem dX12_readDayName_64 : decode cX12_readDayName 64 = .ok (.getfield 232, 3) := by decide +kernel
theorem dX12_readDayName_67 : decode cX12_readDayName 67 = .ok (.iload_n 1, 1) := by decide +kernel
theorem dX12_readDayName_68 : decode cX12_readDayName 68 = .ok (.invokestatic 302, 3) := by decide +kernel
theorem dX12_readDayName_71 : decode cX12_readDayName 71 = .ok (.iconst 3, 1) := by decide +kernel
theorem dX12_readDayName_72 : decode cX12_readDayName 72 = .ok (.invokevirtual 195, 3) := by decide +kernel
theorem dX12_readDayName_75 : decode cX12_readDayName 75 = .ok (.aload_n 0, 1) := by decide +kernel
theorem dX12_readDayName_76 : decode cX12_readDayName 76 = .ok (.aload_n 0, 1) := by decide +kernel
theorem dX12_readDayName_77 : decode cX12_readDayName 77 = .ok (.getfield 232, 3) := by decide +kernel
theorem dX12_readDayName_80 : decode cX12_readDayName 80 = .ok (.iload_n 1, 1) := by decide +kernel
theorem dX12_readDayName_81 : decode cX12_readDayName 81 = .ok (.invokestatic 305, 3) := by decide +kernel
theorem dX12_readDayName_84 : decode cX12_readDayName 84 = .ok (.iconst 1, 1) := by decide +kernel
theorem dX12_readDayName_85 : decode cX12_readDayName 85 = .ok (.invokevirtual 195, 3) := by decide +kernel
theorem dX12_readDayName_88 : decode cX12_readDayName 88 = .ok (.return_, 1) := by decide +kernel
theorem dX12_readMonthName_0 : decode cX12_readMonthName 0 = .ok (.aload_n 0, 1) := by decide +kernel
theorem dX12_readMonthName_1 : decode cX12_readMonthName 1 = .ok (.ldc_w 261, 3) := by decide +kernel
theorem dX12_readMonthName_4 : decode cX12_readMonthName 4 = .ok (.invokevirtual 184, 3) := by decide +kernel
theorem dX12_readMonthName_7 : decode cX12_readMonthName 7 = .ok (.iconst 1, 1) := by decide +kernel
theorem dX12_readMonthName_8 : decode cX12_readMonthName 8 = .ok (.iadd, 1) := by decide +kernel
theorem dX12_readMonthName_9 : decode cX12_readMonthName 9 = .ok (.istore_n 1, 1) := by decide +kernel
theorem dX12_readMonthName_10 : decode cX12_readMonthName 10 = .ok (.aload_n 0, 1) := by decide +kernel
theorem dX12_readMonthName_11 : decode cX12_readMonthName 11 = .ok (.invokevirtual 158, 3) := by decide +kernel
theorem dX12_readMonthName_14 : decode cX12_readMonthName 14 = .ok (.aload_n 0, 1) := by decide +kernel
theorem dX12_readMonthName_15 : decode cX12_readMonthName 15 = .ok (.getfield 136, 3) := by decide +kernel
theorem dX12_readMonthName_18 : decode cX12_readMonthName 18 = .ok (.ifCond .eq 10, 3) := by decide +kernel
theorem dX12_readMonthName_21 : decode cX12_readMonthName 21 = .ok (.aload_n 0, 1) := by decide +kernel
theorem dX12_readMonthName_22 : decode cX12_readMonthName 22 = .ok (.invokevirtual 121, 3) := by decide +kernel
theorem dX12_readMonthName_25 : decode cX12_readMonthName 25 = .ok (.ifCond .ne 9, 3) := by decide +kernel
theorem dX12_readMonthName_28 : decode cX12_readMonthName 28 = .ok (.aload_n 0, 1) := by decide +kernel
theorem dX12_readMonthName_29 : decode cX12_readMonthName 29 = .ok (.iload_n 1, 1) := by decide +kernel
theorem dX12_readMonthName_30 : decode cX12_readMonthName 30 = .ok (.invokevirtual 308, 3) := by decide +kernel
theorem dX12_readMonthName_33 : decode cX12_readMonthName 33 = .ok (.return_, 1) := by decide +kernel
theorem dX12_readMonthName_34 : decode cX12_readMonthName 34 = .ok (.aload_n 0, 1) := by decide +kernel
theorem dX12_readMonthName_35 : decode cX12_readMonthName 35 = .ok (.iconst 1, 1) := by decide +kernel
theorem dX12_readMonthName_36 : decode cX12_readMonthName 36 = .ok (.bipush 31, 2) := by decide +kernel
theorem dX12_readMonthName_38 : decode cX12_readMonthName 38 = .ok (.invokevirtual 266, 3) := by decide +kernel
theorem dX12_readMonthName_41 : decode cX12_readMonthName 41 = .ok (.istore_n 2, 1) := by decide +kernel
theorem dX12_readMonthName_42 : decode cX12_readMonthName 42 = .ok (.aload_n 0, 1) := by decide +kernel
theorem dX12_readMonthName_43 : decode cX12_readMonthName 43 = .ok (.getfield 136, 3) := by decide +kernel
theorem dX12_readMonthName_46 : decode cX12_readMonthName 46 = .ok (.ifCond .eq 40, 3) := by decide +kernel
theorem dX12_readMonthName_49 : decode cX12_readMonthName 49 = .ok (.aload_n 0, 1) := by decide +kernel
theorem dX12_readMonthName_50 : decode cX12_readMonthName 50 = .ok (.invokevirtual 121, 3) := by decide +kernel
theorem dX12_readMonthName_53 : decode cX12_readMonthName 53 = .ok (.ifCond .eq 33, 3) := by decide +kernel
theorem dX12_readMonthName_56 : decode cX12_readMonthName 56 = .ok (.aload_n 0, 1) := by decide +kernel
theorem dX12_readMonthName_57 : decode cX12_readMonthName 57 = .ok (.sipush 2000, 3) := by decide +kernel
theorem dX12_readMonthName_60 : decode cX12_readMonthName 60 = .ok (.sipush 2027, 3) := by decide +kernel
theorem dX12_readMonthName_63 : decode cX12_readMonthName 63 = .ok (.invokevirtual 266, 3) := by decide +kernel
theorem dX12_readMonthName_66 : decode cX12_readMonthName 66 = .ok (.istore_n 3, 1) := by decide +kernel
theorem dX12_readMonthName_67 : decode cX12_readMonthName 67 = .ok (.aload_n 0, 1) := by decide +kernel
theorem dX12_readMonthName_68 : decode cX12_readMonthName 68 = .ok (.invokevirtual 121, 3) := by decide +kernel
theorem dX12_readMonthName_71 : decode cX12_readMonthName 71 = .ok (.ifCond .eq 14, 3) := by decide +kernel
theorem dX12_readMonthName_74 : decode cX12_readMonthName 74 = .ok (.aload_n 0, 1) := by decide +kernel
theorem dX12_readMonthName_75 : decode cX12_readMonthName 75 = .ok (.iload_n 3, 1) := by decide +kernel
theorem dX12_readMonthName_76 : decode cX12_readMonthName 76 = .ok (.iload_n 1, 1) := by decide +kernel
theorem dX12_readMonthName_77 : decode cX12_readMonthName 77 = .ok (.iload_n 2, 1) := by decide +kernel
theorem dX12_readMonthName_78 : decode cX12_readMonthName 78 = .ok (.invokestatic 87, 3) := by decide +kernel
theorem dX12_readMonthName_81 : decode cX12_readMonthName 81 = .ok (.iconst 3, 1) := by decide +kernel
theorem dX12_readMonthName_82 : decode cX12_readMonthName 82 = .ok (.invokevirtual 195, 3) := by decide +kernel
theorem dX12_readMonthName_85 : decode cX12_readMonthName 85 = .ok (.return_, 1) := by decide +kernel
theorem dX12_readMonthName_86 : decode cX12_readMonthName 86 = .ok (.iconst (-1), 1) := by decide +kernel
theorem dX12_readMonthName_87 : decode cX12_readMonthName 87 = .ok (.istore_n 3, 1) := by decide +kernel
theorem dX12_readMonthName_88 : decode cX12_readMonthName 88 = .ok (.iconst (-1), 1) := by decide +kernel
theorem dX12_readMonthName_89 : decode cX12_readMonthName 89 = .ok (.istore 4, 2) := by decide +kernel
theorem dX12_readMonthName_91 : decode cX12_readMonthName 91 = .ok (.sipush 2027, 3) := by decide +kernel
theorem dX12_readMonthName_94 : decode cX12_readMonthName 94 = .ok (.istore 5, 2) := by decide +kernel
theorem dX12_readMonthName_96 : decode cX12_readMonthName 96 = .ok (.iload 5, 2) := by decide +kernel
theorem dX12_readMonthName_98 : decode cX12_readMonthName 98 = .ok (.sipush 2000, 3) := by decide +kernel
theorem dX12_readMonthName_101 : decode cX12_readMonthName 101 = .ok (.if_icmp .lt 31, 3) := by decide +kernel
theorem dX12_readMonthName_104 : decode cX12_readMonthName 104 = .ok (.iload 5, 2) := by decide +kernel
theorem dX12_readMonthName_106 : decode cX12_readMonthName 106 = .ok (.iload_n 1, 1) := by decide +kernel
theorem dX12_readMonthName_107 : decode cX12_readMonthName 107 = .ok (.iload_n 2, 1) := by decide +kernel
theorem dX12_readMonthName_108 : decode cX12_readMonthName 108 = .ok (.invokestatic 87, 3) := by decide +kernel
theorem dX12_readMonthName_111 : decode cX12_readMonthName 111 = .ok (.aload_n 0, 1) := by decide +kernel
theorem dX12_readMonthName_112 : decode cX12_readMonthName 112 = .ok (.getfield 232, 3) := by decide +kernel
theorem dX12_readMonthName_115 : decode cX12_readMonthName 115 = .ok (.if_icmp .lt 11, 3) := by decide +kernel
theorem dX12_readMonthName_118 : decode cX12_readMonthName 118 = .ok (.iload 5, 2) := by decide +kernel
theorem dX12_readMonthName_120 : decode cX12_readMonthName 120 = .ok (.iload_n 1, 1) := by decide +kernel
theorem dX12_readMonthName_121 : decode cX12_readMonthName 121 = .ok (.iload_n 2, 1) := by decide +kernel
theorem dX12_readMonthName_122 : decode cX12_readMonthName 122 = .ok (.invokestatic 87, 3) := by decide +kernel
theorem dX12_readMonthName_125 : decode cX12_readMonthName 125 = .ok (.istore_n 3, 1) := by decide +kernel
theorem dX12_readMonthName_126 : decode cX12_readMonthName 126 = .ok (.iinc 5 (-1), 3) := by decide +kernel
theorem dX12_readMonthName_129 : decode cX12_readMonthName 129 = .ok (.goto (-33), 3) := by decide +kernel
theorem dX12_readMonthName_132 : decode cX12_readMonthName 132 = .ok (.sipush 2000, 3) := by decide +kernel
theorem dX12_readMonthName_135 : decode cX12_readMonthName 135 = .ok (.istore 5, 2) := by decide +kernel
theorem dX12_readMonthName_137 : decode cX12_readMonthName 137 = .ok (.iload 5, 2) := by decide +kernel
theorem dX12_readMonthName_139 : decode cX12_readMonthName 139 = .ok (.sipush 2027, 3) := by decide +kernel
theorem dX12_readMonthName_142 : decode cX12_readMonthName 142 = .ok (.if_icmp .gt 38, 3) := by decide +kernel
theorem dX12_readMonthName_145 : decode cX12_readMonthName 145 = .ok (.iload 5, 2) := by decide +kernel
theorem dX12_readMonthName_147 : decode cX12_readMonthName 147 = .ok (.iload_n 1, 1) := by decide +kernel
theorem dX12_readMonthName_148 : decode cX12_readMonthName 148 = .ok (.iload_n 2, 1) := by decide +kernel
theorem dX12_readMonthName_149 : decode cX12_readMonthName 149 = .ok (.invokestatic 87, 3) := by decide +kernel
theorem dX12_readMonthName_152 : decode cX12_readMonthName 152 = .ok (.iconst 0, 1) := by decide +kernel
theorem dX12_readMonthName_153 : decode cX12_readMonthName 153 = .ok (.aload_n 0, 1) := by decide +kernel
theorem dX12_readMonthName_154 : decode cX12_readMonthName 154 = .ok (.getfield 232, 3) := by decide +kernel
theorem dX12_readMonthName_157 : decode cX12_readMonthName 157 = .ok (.iconst 1, 1) := by decide +kernel
theorem dX12_readMonthName_158 : decode cX12_readMonthName 158 = .ok (.isub, 1) := by decide +kernel
theorem dX12_readMonthName_159 : decode cX12_readMonthName 159 = .ok (.invokestatic 62, 3) := by decide +kernel
theorem dX12_readMonthName_162 : decode cX12_readMonthName 162 = .ok (.ifCond .eq 12, 3) := by decide +kernel
theorem dX12_readMonthName_165 : decode cX12_readMonthName 165 = .ok (.iload 5, 2) := by decide +kernel
theorem dX12_readMonthName_167 : decode cX12_readMonthName 167 = .ok (.iload_n 1, 1) := by decide +kernel
theorem dX12_readMonthName_168 : decode cX12_readMonthName 168 = .ok (.iload_n 2, 1) := by decide +kernel
theorem dX12_readMonthName_169 : decode cX12_readMonthName 169 = .ok (.invokestatic 87, 3) := by decide +kernel
theorem dX12_readMonthName_172 : decode cX12_readMonthName 172 = .ok (.istore 4, 2) := by decide +kernel
theorem dX12_readMonthName_174 : decode cX12_readMonthName 174 = .ok (.iinc 5 1, 3) := by decide +kernel
theorem dX12_readMonthName_177 : decode cX12_readMonthName 177 = .ok (.goto (-40), 3) := by decide +kernel
theorem dX12_readMonthName_180 : decode cX12_readMonthName 180 = .ok (.aload_n 0, 1) := by decide +kernel
theorem dX12_readMonthName_181 : decode cX12_readMonthName 181 = .ok (.iload_n 3, 1) := by decide +kernel
theorem dX12_readMonthName_182 : decode cX12_readMonthName 182 = .ok (.iconst 3, 1) := by decide +kernel
theorem dX12_readMonthName_183 : decode cX12_readMonthName 183 = .ok (.invokevirtual 195, 3) := by decide +kernel
theorem dX12_readMonthName_186 : decode cX12_readMonthName 186 = .ok (.aload_n 0, 1) := by decide +kernel
theorem dX12_readMonthName_187 : decode cX12_readMonthName 187 = .ok (.iload 4, 2) := by decide +kernel
theorem dX12_readMonthName_189 : decode cX12_readMonthName 189 = .ok (.iconst 2, 1) := by decide +kernel
theorem dX12_readMonthName_190 : decode cX12_readMonthName 190 = .ok (.invokevirtual 195, 3) := by decide +kernel
theorem dX12_readMonthName_193 : decode cX12_readMonthName 193 = .ok (.return_, 1) := by decide +kernel
theorem dX12_pushMonths_0 : decode cX12_pushMonths 0 = .ok (.aload_n 0, 1) := by decide +kernel
theorem dX12_pushMonths_1 : decode cX12_pushMonths 1 = .ok (.getfield 232, 3) := by decide +kernel
theorem dX12_pushMonths_4 : decode cX12_pushMonths 4 = .ok (.invokestatic 74, 3) := by decide +kernel
theorem dX12_pushMonths_7 : decode cX12_pushMonths 7 = .ok (.istore_n 2, 1) := by decide +kernel
theorem dX12_pushMonths_8 : decode cX12_pushMonths 8 = .ok (.iload_n 2, 1) := by decide +kernel
theorem dX12_pushMonths_9 : decode cX12_pushMonths 9 = .ok (.iload_n 1, 1) := by decide +kernel
theorem dX12_pushMonths_10 : decode cX12_pushMonths 10 = .ok (.invokestatic 77, 3) := by decide +kernel
theorem dX12_pushMonths_13 : decode cX12_pushMonths 13 = .ok (.iload_n 2, 1) := by decide +kernel
theorem dX12_pushMonths_14 : decode cX12_pushMonths 14 = .ok (.iload_n 1, 1) := by decide +kernel
theorem dX12_pushMonths_15 : decode cX12_pushMonths 15 = .ok (.invokestatic 70, 3) := by decide +kernel
theorem dX12_pushMonths_18 : decode cX12_pushMonths 18 = .ok (.iadd, 1) := by decide +kernel
theorem dX12_pushMonths_19 : decode cX12_pushMonths 19 = .ok (.iconst 1, 1) := by decide +kernel
theorem dX12_pushMonths_20 : decode cX12_pushMonths 20 = .ok (.isub, 1) := by decide +kernel
theorem dX12_pushMonths_21 : decode cX12_pushMonths 21 = .ok (.aload_n 0, 1) := by decide +kernel
theorem dX12_pushMonths_22 : decode cX12_pushMonths 22 = .ok (.getfield 232, 3) := by decide +kernel
theorem dX12_pushMonths_25 : decode cX12_pushMonths 25 = .ok (.if_icmp .ge 9, 3) := by decide +kernel
theorem dX12_pushMonths_28 : decode cX12_pushMonths 28 = .ok (.iinc 2 1, 3) := by decide +kernel
theorem dX12_pushMonths_31 : decode cX12_pushMonths 31 = .ok (.goto (-23), 3) := by decide +kernel
theorem dX12_pushMonths_34 : decode cX12_pushMonths 34 = .ok (.aload_n 0, 1) := by decide +kernel
theorem dX12_pushMonths_35 : decode cX12_pushMonths 35 = .ok (.iload_n 2, 1) := by decide +kernel
theorem dX12_pushMonths_36 : decode cX12_pushMonths 36 = .ok (.iload_n 1, 1) := by decide +kernel
theorem dX12_pushMonths_37 : decode cX12_pushMonths 37 = .ok (.iconst 3, 1) := by decide +kernel
theorem dX12_pushMonths_38 : decode cX12_pushMonths 38 = .ok (.invokevirtual 199, 3) := by decide +kernel
theorem dX12_pushMonths_41 : decode cX12_pushMonths 41 = .ok (.aload_n 0, 1) := by decide +kernel
theorem dX12_pushMonths_42 : decode cX12_pushMonths 42 = .ok (.getfield 232, 3) := by decide +kernel
theorem dX12_pushMonths_45 : decode cX12_pushMonths 45 = .ok (.invokestatic 74, 3) := by decide +kernel
theorem dX12_pushMonths_48 : decode cX12_pushMonths 48 = .ok (.istore_n 2, 1) := by decide +kernel
theorem dX12_pushMonths_49 : decode cX12_pushMonths 49 = .ok (.iload_n 2, 1) := by decide +kernel
theorem dX12_pushMonths_50 : decode cX12_pushMonths 50 = .ok (.iload_n 1, 1) := by decide +kernel
theorem dX12_pushMonths_51 : decode cX12_pushMonths 51 = .ok (.invokestatic 77, 3) := by decide +kernel
theorem dX12_pushMonths_54 : decode cX12_pushMonths 54 = .ok (.aload_n 0, 1) := by decide +kernel
theorem dX12_pushMonths_55 : decode cX12_pushMonths 55 = .ok (.getfield 232, 3) := by decide +kernel
theorem dX12_pushMonths_58 : decode cX12_pushMonths 58 = .ok (.if_icmp .lt 9, 3) := by decide +kernel
theorem dX12_pushMonths_61 : decode cX12_pushMonths 61 = .ok (.iinc 2 (-1), 3) := by decide +kernel
theorem dX12_pushMonths_64 : decode cX12_pushMonths 64 = .ok (.goto (-15), 3) := by decide +kernel
theorem dX12_pushMonths_67 : decode cX12_pushMonths 67 = .ok (.aload_n 0, 1) := by decide +kernel
theorem dX12_pushMonths_68 : decode cX12_pushMonths 68 = .ok (.iload_n 2, 1) := by decide +kernel
theorem dX12_pushMonths_69 : decode cX12_pushMonths 69 = .ok (.iload_n 1, 1) := by decide +kernel
theorem dX12_pushMonths_70 : decode cX12_pushMonths 70 = .ok (.iconst 2, 1) := by decide +kernel
theorem dX12_pushMonths_71 : decode cX12_pushMonths 71 = .ok (.invokevirtual 199, 3) := by decide +kernel
theorem dX12_pushMonths_74 : decode cX12_pushMonths 74 = .ok (.return_, 1) := by decide +kernel
theorem dX12_readPart_0 : decode cX12_readPart 0 = .ok (.aload_n 0, 1) := by decide +kernel
theorem dX12_readPart_1 : decode cX12_readPart 1 = .ok (.getfield 188, 3) := by decide +kernel
theorem dX12_readPart_4 : decode cX12_readPart 4 = .ok (.istore_n 1, 1) := by decide +kernel
theorem dX12_readPart_5 : decode cX12_readPart 5 = .ok (.aload_n 0, 1) := by decide +kernel
theorem dX12_readPart_6 : decode cX12_readPart 6 = .ok (.invokevirtual 281, 3) := by decide +kernel
theorem dX12_readPart_9 : decode cX12_readPart 9 = .ok (.aload_n 0, 1) := by decide +kernel
theorem dX12_readPart_10 : decode cX12_readPart 10 = .ok (.ldc_w 311, 3) := by decide +kernel
theorem dX12_readPart_13 : decode cX12_readPart 13 = .ok (.invokevirtual 161, 3) := by decide +kernel
theorem dX12_readPart_16 : decode cX12_readPart 16 = .ok (.ifCond .ne 4, 3) := by decide +kernel
theorem dX12_readPart_19 : decode cX12_readPart 19 = .ok (.return_, 1) := by decide +kernel
theorem dX12_readPart_20 : decode cX12_readPart 20 = .ok (.aload_n 0, 1) := by decide +kernel
theorem dX12_readPart_21 : decode cX12_readPart 21 = .ok (.getfield 188, 3) := by decide +kernel
theorem dX12_readPart_24 : decode cX12_readPart 24 = .ok (.istore_n 2, 1) := by decide +kernel
theorem dX12_readPart_25 : decode cX12_readPart 25 = .ok (.aload_n 0, 1) := by decide +kernel
theorem dX12_readPart_26 : decode cX12_readPart 26 = .ok (.invokevirtual 281, 3) := by decide +kernel
theorem dX12_readPart_29 : decode cX12_readPart 29 = .ok (.aload_n 0, 1) := by decide +kernel
theorem dX12_readPart_30 : decode cX12_readPart 30 = .ok (.invokevirtual 121, 3) := by decide +kernel
theorem dX12_readPart_33 : decode cX12_readPart 33 = .ok (.ifCond .ne 4, 3) := by decide +kernel
theorem dX12_readPart_36 : decode cX12_readPart 36 = .ok (.return_, 1) := by decide +kernel
theorem dX12_readPart_37 : decode cX12_readPart 37 = .ok (.aload_n 0, 1) := by decide +kernel
theorem dX12_readPart_38 : decode cX12_readPart 38 = .ok (.getfield 188, 3) := by decide +kernel
theorem dX12_readPart_41 : decode cX12_readPart 41 = .ok (.istore_n 3, 1) := by decide +kernel
theorem dX12_readPart_42 : decode cX12_readPart 42 = .ok (.iload_n 1, 1) := by decide +kernel
theorem dX12_readPart_43 : decode cX12_readPart 43 = .ok (.istore 4, 2) := by decide +kernel
theorem dX12_readPart_45 : decode cX12_readPart 45 = .ok (.iload 4, 2) := by decide +kernel
theorem dX12_readPart_47 : decode cX12_readPart 47 = .ok (.iload_n 2, 1) := by decide +kernel
theorem dX12_readPart_48 : decode cX12_readPart 48 = .ok (.if_icmp .ge 93, 3) := by decide +kernel
theorem dX12_readPart_51 : decode cX12_readPart 51 = .ok (.iload_n 2, 1) := by decide +kernel
theorem dX12_readPart_52 : decode cX12_readPart 52 = .ok (.istore 5, 2) := by decide +kernel
theorem dX12_readPart_54 : decode cX12_readPart 54 = .ok (.iload 5, 2) := by decide +kernel
theorem dX12_readPart_56 : decode cX12_readPart 56 = .ok (.iload_n 3, 1) := by decide +kernel
theorem dX12_readPart_57 : decode cX12_readPart 57 = .ok (.if_icmp .ge 78, 3) := by decide +kernel
theorem dX12_readPart_60 : decode cX12_readPart 60 = .ok (.aload_n 0, 1) := by decide +kernel
theorem dX12_readPart_61 : decode cX12_readPart 61 = .ok (.iload 4, 2) := by decide +kernel
theorem dX12_readPart_63 : decode cX12_readPart 63 = .ok (.iconst 0, 1) := by decide +kernel
theorem dX12_readPart_64 : decode cX12_readPart 64 = .ok (.invokevirtual 284, 3) := by decide +kernel
theorem dX12_readPart_67 : decode cX12_readPart 67 = .ok (.aload_n 0, 1) := by decide +kernel
theorem dX12_readPart_68 : decode cX12_readPart 68 = .ok (.iload 5, 2) := by decide +kernel
theorem dX12_readPart_70 : decode cX12_readPart 70 = .ok (.iconst 1, 1) := by decide +kernel
theorem dX12_readPart_71 : decode cX12_readPart 71 = .ok (.invokevirtual 284, 3) := by decide +kernel
theorem dX12_readPart_74 : decode cX12_readPart 74 = .ok (.if_icmp .gt 55, 3) := by decide +kernel
theorem dX12_readPart_77 : decode cX12_readPart 77 = .ok (.aload_n 0, 1) := by decide +kernel
theorem dX12_readPart_78 : decode cX12_readPart 78 = .ok (.aload_n 0, 1) := by decide +kernel
theorem dX12_readPart_79 : decode cX12_readPart 79 = .ok (.iload 4, 2) := by decide +kernel
theorem dX12_readPart_81 : decode cX12_readPart 81 = .ok (.iconst 0, 1) := by decide +kernel
theorem dX12_readPart_82 : decode cX12_readPart 82 = .ok (.invokevirtual 284, 3) := by decide +kernel
theorem dX12_readPart_85 : decode cX12_readPart 85 = .ok (.aload_n 0, 1) := by decide +kernel
theorem dX12_readPart_86 : decode cX12_readPart 86 = .ok (.iload 5, 2) := by decide +kernel
theorem dX12_readPart_88 : decode cX12_readPart 88 = .ok (.iconst 1, 1) := by decide +kernel
theorem dX12_readPart_89 : decode cX12_readPart 89 = .ok (.invokevirtual 284, 3) := by decide +kernel
theorem dX12_readPart_92 : decode cX12_readPart 92 = .ok (.aload_n 0, 1) := by decide +kernel
theorem dX12_readPart_93 : decode cX12_readPart 93 = .ok (.iload 4, 2) := by decide +kernel
theorem dX12_readPart_95 : decode cX12_readPart 95 = .ok (.iconst 2, 1) := by decide +kernel
theorem dX12_readPart_96 : decode cX12_readPart 96 = .ok (.invokevirtual 284, 3) := by decide +kernel
theorem dX12_readPart_99 : decode cX12_readPart 99 = .ok (.aload_n 0, 1) := by decide +kernel
theorem dX12_readPart_100 : decode cX12_readPart 100 = .ok (.iload 5, 2) := by decide +kernel
theorem dX12_readPart_102 : decode cX12_readPart 102 = .ok (.iconst 2, 1) := by decide +kernel
theorem dX12_readPart_103 : decode cX12_readPart 103 = .ok (.invokevirtual 284, 3) := by decide +kernel
theorem dX12_readPart_106 : decode cX12_readPart 106 = .ok (.invokestatic 179, 3) := by decide +kernel
theorem dX12_readPart_109 : decode cX12_readPart 109 = .ok (.aload_n 0, 1) := by decide +kernel
theorem dX12_readPart_110 : decode cX12_readPart 110 = .ok (.iload 4, 2) := by decide +kernel
theorem dX12_readPart_112 : decode cX12_readPart 112 = .ok (.iconst 3, 1) := by decide +kernel
theorem dX12_readPart_113 : decode cX12_readPart 113 = .ok (.invokevirtual 284, 3) := by decide +kernel
theorem dX12_readPart_116 : decode cX12_readPart 116 = .ok (.aload_n 0, 1) := by decide +kernel
theorem dX12_readPart_117 : decode cX12_readPart 117 = .ok (.iload 5, 2) := by decide +kernel
theorem dX12_readPart_119 : decode cX12_readPart 119 = .ok (.iconst 3, 1) := by decide +kernel
theorem dX12_readPart_120 : decode cX12_readPart 120 = .ok (.invokevirtual 284, 3) := by decide +kernel
theorem dX12_readPart_123 : decode cX12_readPart 123 = .ok (.invokestatic 101, 3) := by decide +kernel
theorem dX12_readPart_126 : decode cX12_readPart 126 = .ok (.invokevirtual 191, 3) := by decide +kernel
theorem dX12_readPart_129 : decode cX12_readPart 129 = .ok (.iinc 5 1, 3) := by decide +kernel
theorem dX12_readPart_132 : decode cX12_readPart 132 = .ok (.goto (-78), 3) := by decide +kernel
theorem dX12_readPart_135 : decode cX12_readPart 135 = .ok (.iinc 4 1, 3) := by decide +kernel
theorem dX12_readPart_138 : decode cX12_readPart 138 = .ok (.goto (-93), 3) := by decide +kernel
theorem dX12_readPart_141 : decode cX12_readPart 141 = .ok (.aload_n 0, 1) := by decide +kernel
theorem dX12_readPart_142 : decode cX12_readPart 142 = .ok (.iload_n 1, 1) := by decide +kernel
theorem dX12_readPart_143 : decode cX12_readPart 143 = .ok (.iload_n 3, 1) := by decide +kernel
theorem dX12_readPart_144 : decode cX12_readPart 144 = .ok (.invokevirtual 287, 3) := by decide +kernel
theorem dX12_readPart_147 : decode cX12_readPart 147 = .ok (.return_, 1) := by decide +kernel
theorem dX12_readPhrase_0 : decode cX12_readPhrase 0 = .ok (.aload_n 0, 1) := by decide +kernel
theorem dX12_readPhrase_1 : decode cX12_readPhrase 1 = .ok (.iload_n 1, 1) := by decide +kernel
theorem dX12_readPhrase_2 : decode cX12_readPhrase 2 = .ok (.putfield 232, 3) := by decide +kernel
theorem dX12_readPhrase_5 : decode cX12_readPhrase 5 = .ok (.aload_n 0, 1) := by decide +kernel
theorem dX12_readPhrase_6 : decode cX12_readPhrase 6 = .ok (.iconst 0, 1) := by decide +kernel
theorem dX12_readPhrase_7 : decode cX12_readPhrase 7 = .ok (.putfield 115, 3) := by decide +kernel
theorem dX12_readPhrase_10 : decode cX12_readPhrase 10 = .ok (.aload_n 0, 1) := by decide +kernel
theorem dX12_readPhrase_11 : decode cX12_readPhrase 11 = .ok (.invokevirtual 158, 3) := by decide +kernel
theorem dX12_readPhrase_14 : decode cX12_readPhrase 14 = .ok (.aload_n 0, 1) := by decide +kernel
theorem dX12_readPhrase_15 : decode cX12_readPhrase 15 = .ok (.invokevirtual 313, 3) := by decide +kernel
theorem dX12_readPhrase_18 : decode cX12_readPhrase 18 = .ok (.aload_n 0, 1) := by decide +kernel
theorem dX12_readPhrase_19 : decode cX12_readPhrase 19 = .ok (.ldc_w 316, 3) := by decide +kernel
theorem dX12_readPhrase_22 : decode cX12_readPhrase 22 = .ok (.invokevirtual 161, 3) := by decide +kernel
theorem dX12_readPhrase_25 : decode cX12_readPhrase 25 = .ok (.ifCond .eq 10, 3) := by decide +kernel
theorem dX12_readPhrase_28 : decode cX12_readPhrase 28 = .ok (.aload_n 0, 1) := by decide +kernel
theorem dX12_readPhrase_29 : decode cX12_readPhrase 29 = .ok (.invokevirtual 313, 3) := by decide +kernel
theorem dX12_readPhrase_32 : decode cX12_readPhrase 32 = .ok (.goto (-14), 3) := by decide +kernel
theorem dX12_readPhrase_35 : decode cX12_readPhrase 35 = .ok (.aload_n 0, 1) := by decide +kernel
theorem dX12_readPhrase_36 : decode cX12_readPhrase 36 = .ok (.invokevirtual 121, 3) := by decide +kernel
theorem dX12_readPhrase_39 : decode cX12_readPhrase 39 = .ok (.ifCond .eq 25, 3) := by decide +kernel
theorem dX12_readPhrase_42 : decode cX12_readPhrase 42 = .ok (.aload_n 0, 1) := by decide +kernel
theorem dX12_readPhrase_43 : decode cX12_readPhrase 43 = .ok (.getfield 136, 3) := by decide +kernel
theorem dX12_readPhrase_46 : decode cX12_readPhrase 46 = .ok (.ifCond .ne 10, 3) := by decide +kernel
theorem dX12_readPhrase_49 : decode cX12_readPhrase 49 = .ok (.aload_n 0, 1) := by decide +kernel
theorem dX12_readPhrase_50 : decode cX12_readPhrase 50 = .ok (.getfield 140, 3) := by decide +kernel
theorem dX12_readPhrase_53 : decode cX12_readPhrase 53 = .ok (.ifCond .eq 11, 3) := by decide +kernel
theorem dX12_readPhrase_56 : decode cX12_readPhrase 56 = .ok (.aload_n 0, 1) := by decide +kernel
theorem dX12_readPhrase_57 : decode cX12_readPhrase 57 = .ok (.aload_n 0, 1) := by decide +kernel
theorem dX12_readPhrase_58 : decode cX12_readPhrase 58 = .ok (.getfield 133, 3) := by decide +kernel
theorem dX12_readPhrase_61 : decode cX12_readPhrase 61 = .ok (.invokevirtual 125, 3) := by decide +kernel
theorem dX12_readPhrase_64 : decode cX12_readPhrase 64 = .ok (.aload_n 0, 1) := by decide +kernel
theorem dX12_readPhrase_65 : decode cX12_readPhrase 65 = .ok (.invokevirtual 121, 3) := by decide +kernel
theorem dX12_readPhrase_68 : decode cX12_readPhrase 68 = .ok (.ifCond .eq 14, 3) := by decide +kernel
theorem dX12_readPhrase_71 : decode cX12_readPhrase 71 = .ok (.aload_n 0, 1) := by decide +kernel
theorem dX12_readPhrase_72 : decode cX12_readPhrase 72 = .ok (.invokevirtual 318, 3) := by decide +kernel
theorem dX12_readPhrase_75 : decode cX12_readPhrase 75 = .ok (.ifCond .eq 7, 3) := by decide +kernel
theorem dX12_readPhrase_78 : decode cX12_readPhrase 78 = .ok (.iconst 1, 1) := by decide +kernel
theorem dX12_readPhrase_79 : decode cX12_readPhrase 79 = .ok (.goto 4, 3) := by decide +kernel
theorem dX12_readPhrase_82 : decode cX12_readPhrase 82 = .ok (.iconst 0, 1) := by decide +kernel
theorem dX12_readPhrase_83 : decode cX12_readPhrase 83 = .ok (.ireturn, 1) := by decide +kernel
theorem dX12_join_0 : decode cX12_join 0 = .ok (.iconst 0, 1) := by decide +kernel
theorem dX12_join_1 : decode cX12_join 1 = .ok (.istore_n 1, 1) := by decide +kernel
theorem dX12_join_2 : decode cX12_join 2 = .ok (.iconst 0, 1) := by decide +kernel
theorem dX12_join_3 : decode cX12_join 3 = .ok (.istore_n 2, 1) := by decide +kernel
theorem dX12_join_4 : decode cX12_join 4 = .ok (.iload_n 2, 1) := by decide +kernel
theorem dX12_join_5 : decode cX12_join 5 = .ok (.aload_n 0, 1) := by decide +kernel
theorem dX12_join_6 : decode cX12_join 6 = .ok (.getfield 188, 3) := by decide +kernel
theorem dX12_join_9 : decode cX12_join 9 = .ok (.if_icmp .ge 119, 3) := by decide +kernel
theorem dX12_join_12 : decode cX12_join 12 = .ok (.iconst 0, 1) := by decide +kernel
theorem dX12_join_13 : decode cX12_join 13 = .ok (.istore_n 3, 1) := by decide +kernel
theorem dX12_join_14 : decode cX12_join 14 = .ok (.iload_n 3, 1) := by decide +kernel
theorem dX12_join_15 : decode cX12_join 15 = .ok (.iload_n 1, 1) := by decide +kernel
theorem dX12_join_16 : decode cX12_join 16 = .ok (.if_icmp .ge 39, 3) := by decide +kernel
theorem dX12_join_19 : decode cX12_join 19 = .ok (.aload_n 0, 1) := by decide +kernel
theorem dX12_join_20 : decode cX12_join 20 = .ok (.iload_n 3, 1) := by decide +kernel
theorem dX12_join_21 : decode cX12_join 21 = .ok (.iconst 0, 1) := by decide +kernel
theorem dX12_join_22 : decode cX12_join 22 = .ok (.invokevirtual 284, 3) := by decide +kernel
theorem dX12_join_25 : decode cX12_join 25 = .ok (.aload_n 0, 1) := by decide +kernel
theorem dX12_join_26 : decode cX12_join 26 = .ok (.iload_n 2, 1) := by decide +kernel
theorem dX12_join_27 : decode cX12_join 27 = .ok (.iconst 0, 1) := by decide +kernel
theorem dX12_join_28 : decode cX12_join 28 = .ok (.invokevirtual 284, 3) := by decide +kernel
theorem dX12_join_31 : decode cX12_join 31 = .ok (.if_icmp .ne 18, 3) := by decide +kernel
theorem dX12_join_34 : decode cX12_join 34 = .ok (.aload_n 0, 1) := by decide +kernel
theorem dX12_join_35 : decode cX12_join 35 = .ok (.iload_n 3, 1) := by decide +kernel
theorem dX12_join_36 : decode cX12_join 36 = .ok (.iconst 1, 1) := by decide +kernel
theorem dX12_join_37 : decode cX12_join 37 = .ok (.invokevirtual 284, 3) := by decide +kernel
theorem dX12_join_40 : decode cX12_join 40 = .ok (.aload_n 0, 1) := by decide +kernel
theorem dX12_join_41 : decode cX12_join 41 = .ok (.iload_n 2, 1) := by decide +kernel
theorem dX12_join_42 : decode cX12_join 42 = .ok (.iconst 1, 1) := by decide +kernel
theorem dX12_join_43 : decode cX12_join 43 = .ok (.invokevirtual 284, 3) := by decide +kernel
theorem dX12_join_46 : decode cX12_join 46 = .ok (.if_icmp .eq 9, 3) := by decide +kernel
theorem dX12_join_49 : decode cX12_join 49 = .ok (.iinc 3 1, 3) := by decide +kernel
theorem dX12_join_52 : decode cX12_join 52 = .ok (.goto (-38), 3) := by decide +kernel
theorem dX12_join_55 : decode cX12_join 55 = .ok (.iload_n 3, 1) := by decide +kernel
theorem dX12_join_56 : decode cX12_join 56 = .ok (.iload_n 1, 1) := by decide +kernel
theorem dX12_join_57 : decode cX12_join 57 = .ok (.if_icmp .ne 15, 3) := by decide +kernel
theorem dX12_join_60 : decode cX12_join 60 = .ok (.aload_n 0, 1) := by decide +kernel
theorem dX12_join_61 : decode cX12_join 61 = .ok (.iload_n 1, 1) := by decide +kernel
theorem dX12_join_62 : decode cX12_join 62 = .ok (.iload_n 2, 1) := by decide +kernel
theorem dX12_join_63 : decode cX12_join 63 = .ok (.invokevirtual 206, 3) := by decide +kernel
theorem dX12_join_66 : decode cX12_join 66 = .ok (.iinc 1 1, 3) := by decide +kernel
theorem dX12_join_69 : decode cX12_join 69 = .ok (.goto 53, 3) := by decide +kernel
theorem dX12_join_72 : decode cX12_join 72 = .ok (.aload_n 0, 1) := by decide +kernel
theorem dX12_join_73 : decode cX12_join 73 = .ok (.getfield 21, 3) := by decide +kernel
theorem dX12_join_76 : decode cX12_join 76 = .ok (.iconst 4, 1) := by decide +kernel
theorem dX12_join_77 : decode cX12_join 77 = .ok (.iload_n 3, 1) := by decide +kernel
theorem dX12_join_78 : decode cX12_join 78 = .ok (.imul, 1) := by decide +kernel
theorem dX12_join_79 : decode cX12_join 79 = .ok (.iconst 2, 1) := by decide +kernel
theorem dX12_join_80 : decode cX12_join 80 = .ok (.iadd, 1) := by decide +kernel
theorem dX12_join_81 : decode cX12_join 81 = .ok (.aload_n 0, 1) := by decide +kernel
theorem dX12_join_82 : decode cX12_join 82 = .ok (.iload_n 3, 1) := by decide +kernel
theorem dX12_join_83 : decode cX12_join 83 = .ok (.iconst 2, 1) := by decide +kernel
theorem dX12_join_84 : decode cX12_join 84 = .ok (.invokevirtual 284, 3) := by decide +kernel
theorem dX12_join_87 : decode cX12_join 87 = .ok (.aload_n 0, 1) := by decide +kernel
theorem dX12_join_88 : decode cX12_join 88 = .ok (.iload_n 2, 1) := by decide +kernel
theorem dX12_join_89 : decode cX12_join 89 = .ok (.iconst 2, 1) := by decide +kernel
theorem dX12_join_90 : decode cX12_join 90 = .ok (.invokevirtual 284, 3) := by decide +kernel
theorem dX12_join_93 : decode cX12_join 93 = .ok (.invokestatic 101, 3) := by decide +kernel
theorem dX12_join_96 : decode cX12_join 96 = .ok (.iastore, 1) := by decide +kernel
theorem dX12_join_97 : decode cX12_join 97 = .ok (.aload_n 0, 1) := by decide +kernel
theorem dX12_join_98 : decode cX12_join 98 = .ok (.getfield 21, 3) := by decide +kernel
theorem dX12_join_101 : decode cX12_join 101 = .ok (.iconst 4, 1) := by decide +kernel
theorem dX12_join_102 : decode cX12_join 102 = .ok (.iload_n 3, 1) := by decide +kernel
theorem dX12_join_103 : decode cX12_join 103 = .ok (.imul, 1) := by decide +kernel
theorem dX12_join_104 : decode cX12_join 104 = .ok (.iconst 3, 1) := by decide +kernel
theorem dX12_join_105 : decode cX12_join 105 = .ok (.iadd, 1) := by decide +kernel
theorem dX12_join_106 : decode cX12_join 106 = .ok (.aload_n 0, 1) := by decide +kernel
theorem dX12_join_107 : decode cX12_join 107 = .ok (.iload_n 3, 1) := by decide +kernel
theorem dX12_join_108 : decode cX12_join 108 = .ok (.iconst 3, 1) := by decide +kernel
theorem dX12_join_109 : decode cX12_join 109 = .ok (.invokevirtual 284, 3) := by decide +kernel
theorem dX12_join_112 : decode cX12_join 112 = .ok (.aload_n 0, 1) := by decide +kernel
theorem dX12_join_113 : decode cX12_join 113 = .ok (.iload_n 2, 1) := by decide +kernel
theorem dX12_join_114 : decode cX12_join 114 = .ok (.iconst 3, 1) := by decide +kernel
theorem dX12_join_115 : decode cX12_join 115 = .ok (.invokevirtual 284, 3) := by decide +kernel
theorem dX12_join_118 : decode cX12_join 118 = .ok (.invokestatic 179, 3) := by decide +kernel
theorem dX12_join_121 : decode cX12_join 121 = .ok (.iastore, 1) := by decide +kernel
theorem dX12_join_122 : decode cX12_join 122 = .ok (.iinc 2 1, 3) := by decide +kernel
theorem dX12_join_125 : decode cX12_join 125 = .ok (.goto (-121), 3) := by decide +kernel
theorem dX12_join_128 : decode cX12_join 128 = .ok (.aload_n 0, 1) := by decide +kernel
theorem dX12_join_129 : decode cX12_join 129 = .ok (.iload_n 1, 1) := by decide +kernel
theorem dX12_join_130 : decode cX12_join 130 = .ok (.putfield 188, 3) := by decide +kernel
theorem dX12_join_133 : decode cX12_join 133 = .ok (.return_, 1) := by decide +kernel
theorem dX12_refusesHeap_0 : decode cX12_refusesHeap 0 = .ok (.aload_n 0, 1) := by decide +kernel
theorem dX12_refusesHeap_1 : decode cX12_refusesHeap 1 = .ok (.getfield 188, 3) := by decide +kernel
theorem dX12_refusesHeap_4 : decode cX12_refusesHeap 4 = .ok (.ifCond .ne 9, 3) := by decide +kernel
theorem dX12_refusesHeap_7 : decode cX12_refusesHeap 7 = .ok (.sipush (-200), 3) := by decide +kernel
theorem dX12_refusesHeap_10 : decode cX12_refusesHeap 10 = .ok (.goto 19, 3) := by decide +kernel
theorem dX12_refusesHeap_13 : decode cX12_refusesHeap 13 = .ok (.aload_n 0, 1) := by decide +kernel
theorem dX12_refusesHeap_14 : decode cX12_refusesHeap 14 = .ok (.getfield 188, 3) := by decide +kernel
theorem dX12_refusesHeap_17 : decode cX12_refusesHeap 17 = .ok (.bipush 6, 2) := by decide +kernel
theorem dX12_refusesHeap_19 : decode cX12_refusesHeap 19 = .ok (.if_icmp .le 9, 3) := by decide +kernel
theorem dX12_refusesHeap_22 : decode cX12_refusesHeap 22 = .ok (.sipush (-300), 3) := by decide +kernel
theorem dX12_refusesHeap_25 : decode cX12_refusesHeap 25 = .ok (.goto 4, 3) := by decide +kernel
theorem dX12_refusesHeap_28 : decode cX12_refusesHeap 28 = .ok (.iconst 0, 1) := by decide +kernel
theorem dX12_refusesHeap_29 : decode cX12_refusesHeap 29 = .ok (.ireturn, 1) := by decide +kernel
theorem dX12_isEvent_0 : decode cX12_isEvent 0 = .ok (.iload_n 1, 1) := by decide +kernel
theorem dX12_isEvent_1 : decode cX12_isEvent 1 = .ok (.iconst 0, 1) := by decide +kernel
theorem dX12_isEvent_2 : decode cX12_isEvent 2 = .ok (.iconst 5, 1) := by decide +kernel
theorem dX12_isEvent_3 : decode cX12_isEvent 3 = .ok (.invokestatic 62, 3) := by decide +kernel
theorem dX12_isEvent_6 : decode cX12_isEvent 6 = .ok (.ireturn, 1) := by decide +kernel
theorem dX12_isTold_0 : decode cX12_isTold 0 = .ok (.aload_n 0, 1) := by decide +kernel
theorem dX12_isTold_1 : decode cX12_isTold 1 = .ok (.iload_n 1, 1) := by decide +kernel
theorem dX12_isTold_2 : decode cX12_isTold 2 = .ok (.invokevirtual 321, 3) := by decide +kernel
theorem dX12_isTold_5 : decode cX12_isTold 5 = .ok (.ifCond .eq 19, 3) := by decide +kernel
theorem dX12_isTold_8 : decode cX12_isTold 8 = .ok (.aload_n 0, 1) := by decide +kernel
theorem dX12_isTold_9 : decode cX12_isTold 9 = .ok (.getfield 9, 3) := by decide +kernel
theorem dX12_isTold_12 : decode cX12_isTold 12 = .ok (.iconst 2, 1) := by decide +kernel
theorem dX12_isTold_13 : decode cX12_isTold 13 = .ok (.iload_n 1, 1) := by decide +kernel
theorem dX12_isTold_14 : decode cX12_isTold 14 = .ok (.iadd, 1) := by decide +kernel
theorem dX12_isTold_15 : decode cX12_isTold 15 = .ok (.iaload, 1) := by decide +kernel
theorem dX12_isTold_16 : decode cX12_isTold 16 = .ok (.iconst (-1), 1) := by decide +kernel
theorem dX12_isTold_17 : decode cX12_isTold 17 = .ok (.if_icmp .eq 7, 3) := by decide +kernel
theorem dX12_isTold_20 : decode cX12_isTold 20 = .ok (.iconst 1, 1) := by decide +kernel
theorem dX12_isTold_21 : decode cX12_isTold 21 = .ok (.goto 4, 3) := by decide +kernel
theorem dX12_isTold_24 : decode cX12_isTold 24 = .ok (.iconst 0, 1) := by decide +kernel
theorem dX12_isTold_25 : decode cX12_isTold 25 = .ok (.ireturn, 1) := by decide +kernel
theorem dX12_place_0 : decode cX12_place 0 = .ok (.bipush 8, 2) := by decide +kernel
theorem dX12_place_2 : decode cX12_place 2 = .ok (.iconst 5, 1) := by decide +kernel
theorem dX12_place_3 : decode cX12_place 3 = .ok (.bipush 6, 2) := by decide +kernel
theorem dX12_place_5 : decode cX12_place 5 = .ok (.iload_n 0, 1) := by decide +kernel
theorem dX12_place_6 : decode cX12_place 6 = .ok (.imul, 1) := by decide +kernel
theorem dX12_place_7 : decode cX12_place 7 = .ok (.iload_n 1, 1) := by decide +kernel
theorem dX12_place_8 : decode cX12_place 8 = .ok (.iadd, 1) := by decide +kernel
theorem dX12_place_9 : decode cX12_place 9 = .ok (.imul, 1) := by decide +kernel
theorem dX12_place_10 : decode cX12_place 10 = .ok (.iadd, 1) := by decide +kernel
theorem dX12_place_11 : decode cX12_place 11 = .ok (.ireturn, 1) := by decide +kernel
theorem dX12_of_0 : decode cX12_of 0 = .ok (.aload_n 0, 1) := by decide +kernel
theorem dX12_of_1 : decode cX12_of 1 = .ok (.getfield 9, 3) := by decide +kernel
theorem dX12_of_4 : decode cX12_of 4 = .ok (.iload_n 1, 1) := by decide +kernel
theorem dX12_of_5 : decode cX12_of 5 = .ok (.iload_n 2, 1) := by decide +kernel
theorem dX12_of_6 : decode cX12_of 6 = .ok (.invokestatic 324, 3) := by decide +kernel
theorem dX12_of_9 : decode cX12_of 9 = .ok (.iload_n 3, 1) := by decide +kernel
theorem dX12_of_10 : decode cX12_of 10 = .ok (.iadd, 1) := by decide +kernel
theorem dX12_of_11 : decode cX12_of 11 = .ok (.iaload, 1) := by decide +kernel
theorem dX12_of_12 : decode cX12_of 12 = .ok (.ireturn, 1) := by decide +kernel
theorem dX12_tells_0 : decode cX12_tells 0 = .ok (.aload_n 0, 1) := by decide +kernel
theorem dX12_tells_1 : decode cX12_tells 1 = .ok (.iconst 0, 1) := by decide +kernel
theorem dX12_tells_2 : decode cX12_tells 2 = .ok (.putfield 55, 3) := by decide +kernel
theorem dX12_tells_5 : decode cX12_tells 5 = .ok (.aload_n 0, 1) := by decide +kernel
theorem dX12_tells_6 : decode cX12_tells 6 = .ok (.invokevirtual 327, 3) := by decide +kernel
theorem dX12_tells_9 : decode cX12_tells 9 = .ok (.aload_n 0, 1) := by decide +kernel
theorem dX12_tells_10 : decode cX12_tells 10 = .ok (.iload_n 1, 1) := by decide +kernel
theorem dX12_tells_11 : decode cX12_tells 11 = .ok (.invokevirtual 321, 3) := by decide +kernel
theorem dX12_tells_14 : decode cX12_tells 14 = .ok (.ifCond .eq 21, 3) := by decide +kernel
theorem dX12_tells_17 : decode cX12_tells 17 = .ok (.iload_n 2, 1) := by decide +kernel
theorem dX12_tells_18 : decode cX12_tells 18 = .ok (.iconst (-1), 1) := by decide +kernel
theorem dX12_tells_19 : decode cX12_tells 19 = .ok (.if_icmp .eq 18, 3) := by decide +kernel
theorem dX12_tells_22 : decode cX12_tells 22 = .ok (.aload_n 0, 1) := by decide +kernel
theorem dX12_tells_23 : decode cX12_tells 23 = .ok (.iload_n 2, 1) := by decide +kernel
theorem dX12_tells_24 : decode cX12_tells 24 = .ok (.invokevirtual 330, 3) := by decide +kernel
theorem dX12_tells_27 : decode cX12_tells 27 = .ok (.ifCond .eq 8, 3) := by decide +kernel
theorem dX12_tells_30 : decode cX12_tells 30 = .ok (.iload_n 2, 1) := by decide +kernel
theorem dX12_tells_31 : decode cX12_tells 31 = .ok (.iload_n 1, 1) := by decide +kernel
theorem dX12_tells_32 : decode cX12_tells 32 = .ok (.if_icmp .ne 5, 3) := by decide +kernel
theorem dX12_tells_35 : decode cX12_tells 35 = .ok (.iconst (-1), 1) := by decide +kernel
theorem dX12_tells_36 : decode cX12_tells 36 = .ok (.ireturn, 1) := by decide +kernel
theorem dX12_tells_37 : decode cX12_tells 37 = .ok (.aload_n 0, 1) := by decide +kernel
theorem dX12_tells_38 : decode cX12_tells 38 = .ok (.iconst 0, 1) := by decide +kernel
theorem dX12_tells_39 : decode cX12_tells 39 = .ok (.putfield 188, 3) := by decide +kernel
theorem dX12_tells_42 : decode cX12_tells 42 = .ok (.aload_n 0, 1) := by decide +kernel
theorem dX12_tells_43 : decode cX12_tells 43 = .ok (.iload_n 2, 1) := by decide +kernel
theorem dX12_tells_44 : decode cX12_tells 44 = .ok (.iconst (-1), 1) := by decide +kernel
theorem dX12_tells_45 : decode cX12_tells 45 = .ok (.if_icmp .ne 12, 3) := by decide +kernel
theorem dX12_tells_48 : decode cX12_tells 48 = .ok (.aload_n 0, 1) := by decide +kernel
theorem dX12_tells_49 : decode cX12_tells 49 = .ok (.getfield 9, 3) := by decide +kernel
theorem dX12_tells_52 : decode cX12_tells 52 = .ok (.iconst 0, 1) := by decide +kernel
theorem dX12_tells_53 : decode cX12_tells 53 = .ok (.iaload, 1) := by decide +kernel
theorem dX12_tells_54 : decode cX12_tells 54 = .ok (.goto 10, 3) := by decide +kernel
theorem dX12_tells_57 : decode cX12_tells 57 = .ok (.aload_n 0, 1) := by decide +kernel
theorem dX12_tells_58 : decode cX12_tells 58 = .ok (.iload_n 2, 1) := by decide +kernel
theorem dX12_tells_59 : decode cX12_tells 59 = .ok (.iconst 0, 1) := by decide +kernel
theorem dX12_tells_60 : decode cX12_tells 60 = .ok (.iconst 0, 1) := by decide +kernel
theorem dX12_tells_61 : decode cX12_tells 61 = .ok (.invokevirtual 333, 3) := by decide +kernel
theorem dX12_tells_64 : decode cX12_tells 64 = .ok (.invokevirtual 335, 3) := by decide +kernel
theorem dX12_tells_67 : decode cX12_tells 67 = .ok (.ifCond .ne 10, 3) := by decide +kernel
theorem dX12_tells_70 : decode cX12_tells 70 = .ok (.iconst (-1), 1) := by decide +kernel
theorem dX12_tells_71 : decode cX12_tells 71 = .ok (.aload_n 0, 1) := by decide +kernel
theorem dX12_tells_72 : decode cX12_tells 72 = .ok (.getfield 118, 3) := by decide +kernel
theorem dX12_tells_75 : decode cX12_tells 75 = .ok (.isub, 1) := by decide +kernel
theorem dX12_tells_76 : decode cX12_tells 76 = .ok (.ireturn, 1) := by decide +kernel
theorem dX12_tells_77 : decode cX12_tells 77 = .ok (.iload_n 2, 1) := by decide +kernel
theorem dX12_tells_78 : decode cX12_tells 78 = .ok (.iconst (-1), 1) := by decide +kernel
theorem dX12_tells_79 : decode cX12_tells 79 = .ok (.if_icmp .eq 106, 3) := by decide +kernel
theorem dX12_tells_82 : decode cX12_tells 82 = .ok (.aload_n 0, 1) := by decide +kernel
theorem dX12_tells_83 : decode cX12_tells 83 = .ok (.iconst 0, 1) := by decide +kernel
theorem dX12_tells_84 : decode cX12_tells 84 = .ok (.putfield 188, 3) := by decide +kernel
theorem dX12_tells_87 : decode cX12_tells 87 = .ok (.iconst 0, 1) := by decide +kernel
theorem dX12_tells_88 : decode cX12_tells 88 = .ok (.istore_n 3, 1) := by decide +kernel
theorem dX12_tells_89 : decode cX12_tells 89 = .ok (.iload_n 3, 1) := by decide +kernel
theorem dX12_tells_90 : decode cX12_tells 90 = .ok (.aload_n 0, 1) := by decide +kernel
theorem dX12_tells_91 : decode cX12_tells 91 = .ok (.getfield 9, 3) := by decide +kernel
theorem dX12_tells_94 : decode cX12_tells 94 = .ok (.iconst 2, 1) := by decide +kernel
theorem dX12_tells_95 : decode cX12_tells 95 = .ok (.iload_n 2, 1) := by decide +kernel
theorem dX12_tells_96 : decode cX12_tells 96 = .ok (.iadd, 1) := by decide +kernel
theorem dX12_tells_97 : decode cX12_tells 97 = .ok (.iaload, 1) := by decide +kernel
theorem dX12_tells_98 : decode cX12_tells 98 = .ok (.if_icmp .ge 87, 3) := by decide +kernel
theorem dX12_tells_101 : decode cX12_tells 101 = .ok (.aload_n 0, 1) := by decide +kernel
theorem dX12_tells_102 : decode cX12_tells 102 = .ok (.iload_n 2, 1) := by decide +kernel
theorem dX12_tells_103 : decode cX12_tells 103 = .ok (.iload_n 3, 1) := by decide +kernel
theorem dX12_tells_104 : decode cX12_tells 104 = .ok (.iconst 4, 1) := by decide +kernel
theorem dX12_tells_105 : decode cX12_tells 105 = .ok (.invokevirtual 333, 3) := by decide +kernel
theorem dX12_tells_108 : decode cX12_tells 108 = .ok (.ifCond .ne 6, 3) := by decide +kernel
theorem dX12_tells_111 : decode cX12_tells 111 = .ok (.goto 68, 3) := by decide +kernel
theorem dX12_tells_114 : decode cX12_tells 114 = .ok (.aload_n 0, 1) := by decide +kernel
theorem dX12_tells_115 : decode cX12_tells 115 = .ok (.getfield 188, 3) := by decide +kernel
theorem dX12_tells_118 : decode cX12_tells 118 = .ok (.istore 4, 2) := by decide +kernel
theorem dX12_tells_120 : decode cX12_tells 120 = .ok (.aload_n 0, 1) := by decide +kernel
theorem dX12_tells_121 : decode cX12_tells 121 = .ok (.aload_n 0, 1) := by decide +kernel
theorem dX12_tells_122 : decode cX12_tells 122 = .ok (.iload_n 2, 1) := by decide +kernel
theorem dX12_tells_123 : decode cX12_tells 123 = .ok (.iload_n 3, 1) := by decide +kernel
theorem dX12_tells_124 : decode cX12_tells 124 = .ok (.iconst 0, 1) := by decide +kernel
theorem dX12_tells_125 : decode cX12_tells 125 = .ok (.invokevirtual 333, 3) := by decide +kernel
theorem dX12_tells_128 : decode cX12_tells 128 = .ok (.invokevirtual 335, 3) := by decide +kernel
theorem dX12_tells_131 : decode cX12_tells 131 = .ok (.pop, 1) := by decide +kernel
theorem dX12_tells_132 : decode cX12_tells 132 = .ok (.iload 4, 2) := by decide +kernel
theorem dX12_tells_134 : decode cX12_tells 134 = .ok (.istore 5, 2) := by decide +kernel
theorem dX12_tells_136 : decode cX12_tells 136 = .ok (.iload 5, 2) := by decide +kernel
theorem dX12_tells_138 : decode cX12_tells 138 = .ok (.aload_n 0, 1) := by decide +kernel
theorem dX12_tells_139 : decode cX12_tells 139 = .ok (.getfield 188, 3) := by decide +kernel
theorem dX12_tells_142 : decode cX12_tells 142 = .ok (.if_icmp .ge 37, 3) := by decide +kernel
theorem dX12_tells_145 : decode cX12_tells 145 = .ok (.aload_n 0, 1) := by decide +kernel
theorem dX12_tells_146 : decode cX12_tells 146 = .ok (.getfield 21, 3) := by decide +kernel
theorem dX12_tells_149 : decode cX12_tells 149 = .ok (.iconst 4, 1) := by decide +kernel
theorem dX12_tells_150 : decode cX12_tells 150 = .ok (.iload 5, 2) := by decide +kernel
theorem dX12_tells_152 : decode cX12_tells 152 = .ok (.imul, 1) := by decide +kernel
theorem dX12_tells_153 : decode cX12_tells 153 = .ok (.iconst 3, 1) := by decide +kernel
theorem dX12_tells_154 : decode cX12_tells 154 = .ok (.iadd, 1) := by decide +kernel
theorem dX12_tells_155 : decode cX12_tells 155 = .ok (.aload_n 0, 1) := by decide +kernel
theorem dX12_tells_156 : decode cX12_tells 156 = .ok (.iload 5, 2) := by decide +kernel
theorem dX12_tells_158 : decode cX12_tells 158 = .ok (.iconst 3, 1) := by decide +kernel
theorem dX12_tells_159 : decode cX12_tells 159 = .ok (.invokevirtual 284, 3) := by decide +kernel
theorem dX12_tells_162 : decode cX12_tells 162 = .ok (.aload_n 0, 1) := by decide +kernel
theorem dX12_tells_163 : decode cX12_tells 163 = .ok (.iload_n 2, 1) := by decide +kernel
theorem dX12_tells_164 : decode cX12_tells 164 = .ok (.iload_n 3, 1) := by decide +kernel
theorem dX12_tells_165 : decode cX12_tells 165 = .ok (.iconst 3, 1) := by decide +kernel
theorem dX12_tells_166 : decode cX12_tells 166 = .ok (.invokevirtual 333, 3) := by decide +kernel
theorem dX12_tells_169 : decode cX12_tells 169 = .ok (.invokestatic 101, 3) := by decide +kernel
theorem dX12_tells_172 : decode cX12_tells 172 = .ok (.iastore, 1) := by decide +kernel
theorem dX12_tells_173 : decode cX12_tells 173 = .ok (.iinc 5 1, 3) := by decide +kernel
theorem dX12_tells_176 : decode cX12_tells 176 = .ok (.goto (-40), 3) := by decide +kernel
theorem dX12_tells_179 : decode cX12_tells 179 = .ok (.iinc 3 1, 3) := by decide +kernel
theorem dX12_tells_182 : decode cX12_tells 182 = .ok (.goto (-93), 3) := by decide +kernel
theorem dX12_tells_185 : decode cX12_tells 185 = .ok (.aload_n 0, 1) := by decide +kernel
theorem dX12_tells_186 : decode cX12_tells 186 = .ok (.invokevirtual 338, 3) := by decide +kernel
theorem dX12_tells_189 : decode cX12_tells 189 = .ok (.aload_n 0, 1) := by decide +kernel
theorem dX12_tells_190 : decode cX12_tells 190 = .ok (.invokevirtual 341, 3) := by decide +kernel
theorem dX12_tells_193 : decode cX12_tells 193 = .ok (.istore_n 3, 1) := by decide +kernel
theorem dX12_tells_194 : decode cX12_tells 194 = .ok (.iload_n 3, 1) := by decide +kernel
theorem dX12_tells_195 : decode cX12_tells 195 = .ok (.ifCond .ge 5, 3) := by decide +kernel
theorem dX12_tells_198 : decode cX12_tells 198 = .ok (.iload_n 3, 1) := by decide +kernel
theorem dX12_tells_199 : decode cX12_tells 199 = .ok (.ireturn, 1) := by decide +kernel
theorem dX12_tells_200 : decode cX12_tells 200 = .ok (.aload_n 0, 1) := by decide +kernel
theorem dX12_tells_201 : decode cX12_tells 201 = .ok (.invokevirtual 344, 3) := by decide +kernel
theorem dX12_tells_204 : decode cX12_tells 204 = .ok (.aload_n 0, 1) := by decide +kernel
theorem dX12_tells_205 : decode cX12_tells 205 = .ok (.getfield 9, 3) := by decide +kernel
theorem dX12_tells_208 : decode cX12_tells 208 = .ok (.iconst 2, 1) := by decide +kernel
theorem dX12_tells_209 : decode cX12_tells 209 = .ok (.iload_n 1, 1) := by decide +kernel
theorem dX12_tells_210 : decode cX12_tells 210 = .ok (.iadd, 1) := by decide +kernel
theorem dX12_tells_211 : decode cX12_tells 211 = .ok (.aload_n 0, 1) := by decide +kernel
theorem dX12_tells_212 : decode cX12_tells 212 = .ok (.getfield 188, 3) := by decide +kernel
theorem dX12_tells_215 : decode cX12_tells 215 = .ok (.iastore, 1) := by decide +kernel
theorem dX12_tells_216 : decode cX12_tells 216 = .ok (.iconst 0, 1) := by decide +kernel
theorem dX12_tells_217 : decode cX12_tells 217 = .ok (.istore 4, 2) := by decide +kernel
theorem dX12_tells_219 : decode cX12_tells 219 = .ok (.iload 4, 2) := by decide +kernel
theorem dX12_tells_221 : decode cX12_tells 221 = .ok (.aload_n 0, 1) := by decide +kernel
theorem dX12_tells_222 : decode cX12_tells 222 = .ok (.getfield 188, 3) := by decide +kernel
theorem dX12_tells_225 : decode cX12_tells 225 = .ok (.if_icmp .ge 60, 3) := by decide +kernel
theorem dX12_tells_228 : decode cX12_tells 228 = .ok (.iconst 0, 1) := by decide +kernel
theorem dX12_tells_229 : decode cX12_tells 229 = .ok (.istore 5, 2) := by decide +kernel
theorem dX12_tells_231 : decode cX12_tells 231 = .ok (.iload 5, 2) := by decide +kernel
theorem dX12_tells_233 : decode cX12_tells 233 = .ok (.iconst 4, 1) := by decide +kernel
theorem dX12_tells_234 : decode cX12_tells 234 = .ok (.if_icmp .ge 31, 3) := by decide +kernel
theorem dX12_tells_237 : decode cX12_tells 237 = .ok (.aload_n 0, 1) := by decide +kernel
theorem dX12_tells_238 : decode cX12_tells 238 = .ok (.getfield 9, 3) := by decide +kernel
theorem dX12_tells_241 : decode cX12_tells 241 = .ok (.iload_n 1, 1) := by decide +kernel
theorem dX12_tells_242 : decode cX12_tells 242 = .ok (.iload 4, 2) := by decide +kernel
theorem dX12_tells_244 : decode cX12_tells 244 = .ok (.invokestatic 324, 3) := by decide +kernel
theorem dX12_tells_247 : decode cX12_tells 247 = .ok (.iload 5, 2) := by decide +kernel
theorem dX12_tells_249 : decode cX12_tells 249 = .ok (.iadd, 1) := by decide +kernel
theorem dX12_tells_250 : decode cX12_tells 250 = .ok (.aload_n 0, 1) := by decide +kernel
theorem dX12_tells_251 : decode cX12_tells 251 = .ok (.iload 4, 2) := by decide +kernel
theorem dX12_tells_253 : decode cX12_tells 253 = .ok (.iload 5, 2) := by decide +kernel
theorem dX12_tells_255 : decode cX12_tells 255 = .ok (.invokevirtual 284, 3) := by decide +kernel
theorem dX12_tells_258 : decode cX12_tells 258 = .ok (.iastore, 1) := by decide +kernel
theorem dX12_tells_259 : decode cX12_tells 259 = .ok (.iinc 5 1, 3) := by decide +kernel
theorem dX12_tells_262 : decode cX12_tells 262 = .ok (.goto (-31), 3) := by decide +kernel
theorem dX12_tells_265 : decode cX12_tells 265 = .ok (.aload_n 0, 1) := by decide +kernel
theorem dX12_tells_266 : decode cX12_tells 266 = .ok (.getfield 9, 3) := by decide +kernel
theorem dX12_tells_269 : decode cX12_tells 269 = .ok (.iload_n 1, 1) := by decide +kernel
theorem dX12_tells_270 : decode cX12_tells 270 = .ok (.iload 4, 2) := by decide +kernel
theorem dX12_tells_272 : decode cX12_tells 272 = .ok (.invokestatic 324, 3) := by decide +kernel
theorem dX12_tells_275 : decode cX12_tells 275 = .ok (.iconst 4, 1) := by decide +kernel
theorem dX12_tells_276 : decode cX12_tells 276 = .ok (.iadd, 1) := by decide +kernel
theorem dX12_tells_277 : decode cX12_tells 277 = .ok (.iconst 1, 1) := by decide +kernel
theorem dX12_tells_278 : decode cX12_tells 278 = .ok (.iastore, 1) := by decide +kernel
theorem dX12_tells_279 : decode cX12_tells 279 = .ok (.iinc 4 1, 3) := by decide +kernel
theorem dX12_tells_282 : decode cX12_tells 282 = .ok (.goto (-63), 3) := by decide +kernel
theorem dX12_tells_285 : decode cX12_tells 285 = .ok (.aload_n 0, 1) := by decide +kernel
theorem dX12_tells_286 : decode cX12_tells 286 = .ok (.getfield 188, 3) := by decide +kernel
theorem dX12_tells_289 : decode cX12_tells 289 = .ok (.ireturn, 1) := by decide +kernel
theorem dX12_means_0 : decode cX12_means 0 = .ok (.aload_n 0, 1) := by decide +kernel
theorem dX12_means_1 : decode cX12_means 1 = .ok (.iconst 0, 1) := by decide +kernel
theorem dX12_means_2 : decode cX12_means 2 = .ok (.putfield 55, 3) := by decide +kernel
theorem dX12_means_5 : decode cX12_means 5 = .ok (.aload_n 0, 1) := by decide +kernel
theorem dX12_means_6 : decode cX12_means 6 = .ok (.invokevirtual 327, 3) := by decide +kernel
theorem dX12_means_9 : decode cX12_means 9 = .ok (.iload_n 1, 1) := by decide +kernel
theorem dX12_means_10 : decode cX12_means 10 = .ok (.invokestatic 83, 3) := by decide +kernel
theorem dX12_means_13 : decode cX12_means 13 = .ok (.ifCond .ne 5, 3) := by decide +kernel
theorem dX12_means_16 : decode cX12_means 16 = .ok (.iconst (-1), 1) := by decide +kernel
theorem dX12_means_17 : decode cX12_means 17 = .ok (.ireturn, 1) := by decide +kernel
theorem dX12_means_18 : decode cX12_means 18 = .ok (.aload_n 0, 1) := by decide +kernel
theorem dX12_means_19 : decode cX12_means 19 = .ok (.iconst 0, 1) := by decide +kernel
theorem dX12_means_20 : decode cX12_means 20 = .ok (.putfield 188, 3) := by decide +kernel
theorem dX12_means_23 : decode cX12_means 23 = .ok (.aload_n 0, 1) := by decide +kernel
theorem dX12_means_24 : decode cX12_means 24 = .ok (.iload_n 1, 1) := by decide +kernel
theorem dX12_means_25 : decode cX12_means 25 = .ok (.invokevirtual 335, 3) := by decide +kernel
theorem dX12_means_28 : decode cX12_means 28 = .ok (.ifCond .ne 10, 3) := by decide +kernel
theorem dX12_means_31 : decode cX12_means 31 = .ok (.iconst (-1), 1) := by decide +kernel
theorem dX12_means_32 : decode cX12_means 32 = .ok (.aload_n 0, 1) := by decide +kernel
theorem dX12_means_33 : decode cX12_means 33 = .ok (.getfield 118, 3) := by decide +kernel
theorem dX12_means_36 : decode cX12_means 36 = .ok (.isub, 1) := by decide +kernel
theorem dX12_means_37 : decode cX12_means 37 = .ok (.ireturn, 1) := by decide +kernel
theorem dX12_means_38 : decode cX12_means 38 = .ok (.aload_n 0, 1) := by decide +kernel
theorem dX12_means_39 : decode cX12_means 39 = .ok (.invokevirtual 338, 3) := by decide +kernel
theorem dX12_means_42 : decode cX12_means 42 = .ok (.aload_n 0, 1) := by decide +kernel
theorem dX12_means_43 : decode cX12_means 43 = .ok (.invokevirtual 341, 3) := by decide +kernel
theorem dX12_means_46 : decode cX12_means 46 = .ok (.istore_n 2, 1) := by decide +kernel
theorem dX12_means_47 : decode cX12_means 47 = .ok (.iload_n 2, 1) := by decide +kernel
theorem dX12_means_48 : decode cX12_means 48 = .ok (.ifCond .ge 5, 3) := by decide +kernel
theorem dX12_means_51 : decode cX12_means 51 = .ok (.iload_n 2, 1) := by decide +kernel
theorem dX12_means_52 : decode cX12_means 52 = .ok (.ireturn, 1) := by decide +kernel
theorem dX12_means_53 : decode cX12_means 53 = .ok (.aload_n 0, 1) := by decide +kernel
theorem dX12_means_54 : decode cX12_means 54 = .ok (.iconst 0, 1) := by decide +kernel
theorem dX12_means_55 : decode cX12_means 55 = .ok (.putfield 59, 3) := by decide +kernel
theorem dX12_means_58 : decode cX12_means 58 = .ok (.iconst 0, 1) := by decide +kernel
theorem dX12_means_59 : decode cX12_means 59 = .ok (.istore_n 3, 1) := by decide +kernel
theorem dX12_means_60 : decode cX12_means 60 = .ok (.iload_n 3, 1) := by decide +kernel
theorem dX12_means_61 : decode cX12_means 61 = .ok (.aload_n 0, 1) := by decide +kernel
theorem dX12_means_62 : decode cX12_means 62 = .ok (.getfield 188, 3) := by decide +kernel
theorem dX12_means_65 : decode cX12_means 65 = .ok (.if_icmp .ge 36, 3) := by decide +kernel
theorem dX12_means_68 : decode cX12_means 68 = .ok (.iconst 0, 1) := by decide +kernel
theorem dX12_means_69 : decode cX12_means 69 = .ok (.istore 4, 2) := by decide +kernel
theorem dX12_means_71 : decode cX12_means 71 = .ok (.iload 4, 2) := by decide +kernel
theorem dX12_means_73 : decode cX12_means 73 = .ok (.iconst 4, 1) := by decide +kernel
theorem dX12_means_74 : decode cX12_means 74 = .ok (.if_icmp .ge 21, 3) := by decide +kernel
theorem dX12_means_77 : decode cX12_means 77 = .ok (.aload_n 0, 1) := by decide +kernel
theorem dX12_means_78 : decode cX12_means 78 = .ok (.aload_n 0, 1) := by decide +kernel
theorem dX12_means_79 : decode cX12_means 79 = .ok (.iload_n 3, 1) := by decide +kernel
theorem dX12_means_80 : decode cX12_means 80 = .ok (.iload 4, 2) := by decide +kernel
theorem dX12_means_82 : decode cX12_means 82 = .ok (.invokevirtual 284, 3) := by decide +kernel
theorem dX12_means_85 : decode cX12_means 85 = .ok (.i2l, 1) := by decide +kernel
theorem dX12_means_86 : decode cX12_means 86 = .ok (.invokevirtual 91, 3) := by decide +kernel
theorem dX12_means_89 : decode cX12_means 89 = .ok (.iinc 4 1, 3) := by decide +kernel
theorem dX12_means_92 : decode cX12_means 92 = .ok (.goto (-21), 3) := by decide +kernel
theorem dX12_means_95 : decode cX12_means 95 = .ok (.iinc 3 1, 3) := by decide +kernel
theorem dX12_means_98 : decode cX12_means 98 = .ok (.goto (-38), 3) := by decide +kernel
theorem dX12_means_101 : decode cX12_means 101 = .ok (.aload_n 0, 1) := by decide +kernel
theorem dX12_means_102 : decode cX12_means 102 = .ok (.getfield 188, 3) := by decide +kernel
theorem dX12_means_105 : decode cX12_means 105 = .ok (.ireturn, 1) := by decide +kernel
theorem dX12_holdsBy_0 : decode cX12_holdsBy 0 = .ok (.aload_n 0, 1) := by decide +kernel
theorem dX12_holdsBy_1 : decode cX12_holdsBy 1 = .ok (.iload_n 2, 1) := by decide +kernel
theorem dX12_holdsBy_2 : decode cX12_holdsBy 2 = .ok (.iload_n 3, 1) := by decide +kernel
theorem dX12_holdsBy_3 : decode cX12_holdsBy 3 = .ok (.iconst 0, 1) := by decide +kernel
theorem dX12_holdsBy_4 : decode cX12_holdsBy 4 = .ok (.invokevirtual 333, 3) := by decide +kernel
theorem dX12_holdsBy_7 : decode cX12_holdsBy 7 = .ok (.istore 6, 2) := by decide +kernel
theorem dX12_holdsBy_9 : decode cX12_holdsBy 9 = .ok (.aload_n 0, 1) := by decide +kernel
theorem dX12_holdsBy_10 : decode cX12_holdsBy 10 = .ok (.iload_n 2, 1) := by decide +kernel
theorem dX12_holdsBy_11 : decode cX12_holdsBy 11 = .ok (.iload_n 3, 1) := by decide +kernel
theorem dX12_holdsBy_12 : decode cX12_holdsBy 12 = .ok (.iconst 1, 1) := by decide +kernel
theorem dX12_holdsBy_13 : decode cX12_holdsBy 13 = .ok (.invokevirtual 333, 3) := by decide +kernel
theorem dX12_holdsBy_16 : decode cX12_holdsBy 16 = .ok (.istore 7, 2) := by decide +kernel
theorem dX12_holdsBy_18 : decode cX12_holdsBy 18 = .ok (.aload_n 0, 1) := by decide +kernel
theorem dX12_holdsBy_19 : decode cX12_holdsBy 19 = .ok (.iload 4, 2) := by decide +kernel
theorem dX12_holdsBy_21 : decode cX12_holdsBy 21 = .ok (.iload 5, 2) := by decide +kernel
theorem dX12_holdsBy_23 : decode cX12_holdsBy 23 = .ok (.iconst 0, 1) := by decide +kernel
theorem dX12_holdsBy_24 : decode cX12_holdsBy 24 = .ok (.invokevirtual 333, 3) := by decide +kernel
theorem dX12_holdsBy_27 : decode cX12_holdsBy 27 = .ok (.istore 8, 2) := by decide +kernel
theorem dX12_holdsBy_29 : decode cX12_holdsBy 29 = .ok (.aload_n 0, 1) := by decide +kernel
theorem dX12_holdsBy_30 : decode cX12_holdsBy 30 = .ok (.iload 4, 2) := by decide +kernel
theorem dX12_holdsBy_32 : decode cX12_holdsBy 32 = .ok (.iload 5, 2) := by decide +kernel
theorem dX12_holdsBy_34 : decode cX12_holdsBy 34 = .ok (.iconst 1, 1) := by decide +kernel
theorem dX12_holdsBy_35 : decode cX12_holdsBy 35 = .ok (.invokevirtual 333, 3) := by decide +kernel
theorem dX12_holdsBy_38 : decode cX12_holdsBy 38 = .ok (.istore 9, 2) := by decide +kernel
theorem dX12_holdsBy_40 : decode cX12_holdsBy 40 = .ok (.iload_n 1, 1) := by decide +kernel
theorem dX12_holdsBy_41 : decode cX12_holdsBy 41 = .ok (.tableswitch 97 0 3 #[31, 44, 64, 84], 31) := by decide +kernel
theorem dX12_holdsBy_72 : decode cX12_holdsBy 72 = .ok (.iload 7, 2) := by decide +kernel
theorem dX12_holdsBy_74 : decode cX12_holdsBy 74 = .ok (.iload 8, 2) := by decide +kernel
theorem dX12_holdsBy_76 : decode cX12_holdsBy 76 = .ok (.if_icmp .ge 7, 3) := by decide +kernel
theorem dX12_holdsBy_79 : decode cX12_holdsBy 79 = .ok (.iconst 1, 1) := by decide +kernel
theorem dX12_holdsBy_80 : decode cX12_holdsBy 80 = .ok (.goto 4, 3) := by decide +kernel
theorem dX12_holdsBy_83 : decode cX12_holdsBy 83 = .ok (.iconst 0, 1) := by decide +kernel
theorem dX12_holdsBy_84 : decode cX12_holdsBy 84 = .ok (.ireturn, 1) := by decide +kernel
theorem dX12_holdsBy_85 : decode cX12_holdsBy 85 = .ok (.iload 6, 2) := by decide +kernel
theorem dX12_holdsBy_87 : decode cX12_holdsBy 87 = .ok (.iload 9, 2) := by decide +kernel
theorem dX12_holdsBy_89 : decode cX12_holdsBy 89 = .ok (.if_icmp .gt 14, 3) := by decide +kernel
theorem dX12_holdsBy_92 : decode cX12_holdsBy 92 = .ok (.iload 8, 2) := by decide +kernel
theorem dX12_holdsBy_94 : decode cX12_holdsBy 94 = .ok (.iload 7, 2) := by decide +kernel
theorem dX12_holdsBy_96 : decode cX12_holdsBy 96 = .ok (.if_icmp .gt 7, 3) := by decide +kernel
theorem dX12_holdsBy_99 : decode cX12_holdsBy 99 = .ok (.iconst 1, 1) := by decide +kernel
theorem dX12_holdsBy_100 : decode cX12_holdsBy 100 = .ok (.goto 4, 3) := by decide +kernel
theorem dX12_holdsBy_103 : decode cX12_holdsBy 103 = .ok (.iconst 0, 1) := by decide +kernel
theorem dX12_holdsBy_104 : decode cX12_holdsBy 104 = .ok (.ireturn, 1) := by decide +kernel
theorem dX12_holdsBy_105 : decode cX12_holdsBy 105 = .ok (.iload 6, 2) := by decide +kernel
theorem dX12_holdsBy_107 : decode cX12_holdsBy 107 = .ok (.iload 8, 2) := by decide +kernel
theorem dX12_holdsBy_109 : decode cX12_holdsBy 109 = .ok (.if_icmp .lt 14, 3) := by decide +kernel
theorem dX12_holdsBy_112 : decode cX12_holdsBy 112 = .ok (.iload 7, 2) := by decide +kernel
theorem dX12_holdsBy_114 : decode cX12_holdsBy 114 = .ok (.iload 9, 2) := by decide +kernel
theorem dX12_holdsBy_116 : decode cX12_holdsBy 116 = .ok (.if_icmp .gt 7, 3) := by decide +kernel
theorem dX12_holdsBy_119 : decode cX12_holdsBy 119 = .ok (.iconst 1, 1) := by decide +kernel
theorem dX12_holdsBy_120 : decode cX12_holdsBy 120 = .ok (.goto 4, 3) := by decide +kernel
theorem dX12_holdsBy_123 : decode cX12_holdsBy 123 = .ok (.iconst 0, 1) := by decide +kernel
theorem dX12_holdsBy_124 : decode cX12_holdsBy 124 = .ok (.ireturn, 1) := by decide +kernel
theorem dX12_holdsBy_125 : decode cX12_holdsBy 125 = .ok (.iload 6, 2) := by decide +kernel
theorem dX12_holdsBy_127 : decode cX12_holdsBy 127 = .ok (.iload 8, 2) := by decide +kernel
theorem dX12_holdsBy_129 : decode cX12_holdsBy 129 = .ok (.if_icmp .ne 7, 3) := by decide +kernel
theorem dX12_holdsBy_132 : decode cX12_holdsBy 132 = .ok (.iconst 1, 1) := by decide +kernel
theorem dX12_holdsBy_133 : decode cX12_holdsBy 133 = .ok (.goto 4, 3) := by decide +kernel
theorem dX12_holdsBy_136 : decode cX12_holdsBy 136 = .ok (.iconst 0, 1) := by decide +kernel
theorem dX12_holdsBy_137 : decode cX12_holdsBy 137 = .ok (.ireturn, 1) := by decide +kernel
theorem dX12_holdsBy_138 : decode cX12_holdsBy 138 = .ok (.iload 8, 2) := by decide +kernel
theorem dX12_holdsBy_140 : decode cX12_holdsBy 140 = .ok (.iload 7, 2) := by decide +kernel
theorem dX12_holdsBy_142 : decode cX12_holdsBy 142 = .ok (.isub, 1) := by decide +kernel
theorem dX12_holdsBy_143 : decode cX12_holdsBy 143 = .ok (.bipush 7, 2) := by decide +kernel
theorem dX12_holdsBy_145 : decode cX12_holdsBy 145 = .ok (.if_icmp .gt 17, 3) := by decide +kernel
theorem dX12_holdsBy_148 : decode cX12_holdsBy 148 = .ok (.iload 6, 2) := by decide +kernel
theorem dX12_holdsBy_150 : decode cX12_holdsBy 150 = .ok (.iload 9, 2) := by decide +kernel
theorem dX12_holdsBy_152 : decode cX12_holdsBy 152 = .ok (.isub, 1) := by decide +kernel
theorem dX12_holdsBy_153 : decode cX12_holdsBy 153 = .ok (.bipush 7, 2) := by decide +kernel
theorem dX12_holdsBy_155 : decode cX12_holdsBy 155 = .ok (.if_icmp .gt 7, 3) := by decide +kernel
theorem dX12_holdsBy_158 : decode cX12_holdsBy 158 = .ok (.iconst 1, 1) := by decide +kernel
theorem dX12_holdsBy_159 : decode cX12_holdsBy 159 = .ok (.goto 4, 3) := by decide +kernel
theorem dX12_holdsBy_162 : decode cX12_holdsBy 162 = .ok (.iconst 0, 1) := by decide +kernel
theorem dX12_holdsBy_163 : decode cX12_holdsBy 163 = .ok (.ireturn, 1) := by decide +kernel
theorem dX12_brokenNow_0 : decode cX12_brokenNow 0 = .ok (.iconst 0, 1) := by decide +kernel
theorem dX12_brokenNow_1 : decode cX12_brokenNow 1 = .ok (.istore_n 1, 1) := by decide +kernel
theorem dX12_brokenNow_2 : decode cX12_brokenNow 2 = .ok (.iconst 0, 1) := by decide +kernel
theorem dX12_brokenNow_3 : decode cX12_brokenNow 3 = .ok (.istore_n 2, 1) := by decide +kernel
theorem dX12_brokenNow_4 : decode cX12_brokenNow 4 = .ok (.iload_n 2, 1) := by decide +kernel
theorem dX12_brokenNow_5 : decode cX12_brokenNow 5 = .ok (.aload_n 0, 1) := by decide +kernel
theorem dX12_brokenNow_6 : decode cX12_brokenNow 6 = .ok (.getfield 9, 3) := by decide +kernel
theorem dX12_brokenNow_9 : decode cX12_brokenNow 9 = .ok (.iconst 1, 1) := by decide +kernel
theorem dX12_brokenNow_10 : decode cX12_brokenNow 10 = .ok (.iaload, 1) := by decide +kernel
theorem dX12_brokenNow_11 : decode cX12_brokenNow 11 = .ok (.if_icmp .ge 98, 3) := by decide +kernel
theorem dX12_brokenNow_14 : decode cX12_brokenNow 14 = .ok (.aload_n 0, 1) := by decide +kernel
theorem dX12_brokenNow_15 : decode cX12_brokenNow 15 = .ok (.getfield 9, 3) := by decide +kernel
theorem dX12_brokenNow_18 : decode cX12_brokenNow 18 = .ok (.sipush 188, 3) := by decide +kernel
theorem dX12_brokenNow_21 : decode cX12_brokenNow 21 = .ok (.iconst 3, 1) := by decide +kernel
theorem dX12_brokenNow_22 : decode cX12_brokenNow 22 = .ok (.iload_n 2, 1) := by decide +kernel
theorem dX12_brokenNow_23 : decode cX12_brokenNow 23 = .ok (.imul, 1) := by decide +kernel
theorem dX12_brokenNow_24 : decode cX12_brokenNow 24 = .ok (.iadd, 1) := by decide +kernel
theorem dX12_brokenNow_25 : decode cX12_brokenNow 25 = .ok (.iconst 1, 1) := by decide +kernel
theorem dX12_brokenNow_26 : decode cX12_brokenNow 26 = .ok (.iadd, 1) := by decide +kernel
theorem dX12_brokenNow_27 : decode cX12_brokenNow 27 = .ok (.iaload, 1) := by decide +kernel
theorem dX12_brokenNow_28 : decode cX12_brokenNow 28 = .ok (.istore_n 3, 1) := by decide +kernel
theorem dX12_brokenNow_29 : decode cX12_brokenNow 29 = .ok (.aload_n 0, 1) := by decide +kernel
theorem dX12_brokenNow_30 : decode cX12_brokenNow 30 = .ok (.getfield 9, 3) := by decide +kernel
theorem dX12_brokenNow_33 : decode cX12_brokenNow 33 = .ok (.sipush 188, 3) := by decide +kernel
theorem dX12_brokenNow_36 : decode cX12_brokenNow 36 = .ok (.iconst 3, 1) := by decide +kernel
theorem dX12_brokenNow_37 : decode cX12_brokenNow 37 = .ok (.iload_n 2, 1) := by decide +kernel
theorem dX12_brokenNow_38 : decode cX12_brokenNow 38 = .ok (.imul, 1) := by decide +kernel
theorem dX12_brokenNow_39 : decode cX12_brokenNow 39 = .ok (.iadd, 1) := by decide +kernel
theorem dX12_brokenNow_40 : decode cX12_brokenNow 40 = .ok (.iconst 2, 1) := by decide +kernel
theorem dX12_brokenNow_41 : decode cX12_brokenNow 41 = .ok (.iadd, 1) := by decide +kernel
theorem dX12_brokenNow_42 : decode cX12_brokenNow 42 = .ok (.iaload, 1) := by decide +kernel
theorem dX12_brokenNow_43 : decode cX12_brokenNow 43 = .ok (.istore 4, 2) := by decide +kernel
theorem dX12_brokenNow_45 : decode cX12_brokenNow 45 = .ok (.aload_n 0, 1) := by decide +kernel
theorem dX12_brokenNow_46 : decode cX12_brokenNow 46 = .ok (.iload_n 3, 1) := by decide +kernel
theorem dX12_brokenNow_47 : decode cX12_brokenNow 47 = .ok (.invokevirtual 330, 3) := by decide +kernel
theorem dX12_brokenNow_50 : decode cX12_brokenNow 50 = .ok (.ifCond .eq 53, 3) := by decide +kernel
theorem dX12_brokenNow_53 : decode cX12_brokenNow 53 = .ok (.aload_n 0, 1) := by decide +kernel
theorem dX12_brokenNow_54 : decode cX12_brokenNow 54 = .ok (.iload 4, 2) := by decide +kernel
theorem dX12_brokenNow_56 : decode cX12_brokenNow 56 = .ok (.invokevirtual 330, 3) := by decide +kernel
theorem dX12_brokenNow_59 : decode cX12_brokenNow 59 = .ok (.ifCond .eq 44, 3) := by decide +kernel
theorem dX12_brokenNow_62 : decode cX12_brokenNow 62 = .ok (.aload_n 0, 1) := by decide +kernel
theorem dX12_brokenNow_63 : decode cX12_brokenNow 63 = .ok (.aload_n 0, 1) := by decide +kernel
theorem dX12_brokenNow_64 : decode cX12_brokenNow 64 = .ok (.getfield 9, 3) := by decide +kernel
theorem dX12_brokenNow_67 : decode cX12_brokenNow 67 = .ok (.sipush 188, 3) := by decide +kernel
theorem dX12_brokenNow_70 : decode cX12_brokenNow 70 = .ok (.iconst 3, 1) := by decide +kernel
theorem dX12_brokenNow_71 : decode cX12_brokenNow 71 = .ok (.iload_n 2, 1) := by decide +kernel
theorem dX12_brokenNow_72 : decode cX12_brokenNow 72 = .ok (.imul, 1) := by decide +kernel
theorem dX12_brokenNow_73 : decode cX12_brokenNow 73 = .ok (.iadd, 1) := by decide +kernel
theorem dX12_brokenNow_74 : decode cX12_brokenNow 74 = .ok (.iaload, 1) := by decide +kernel
theorem dX12_brokenNow_75 : decode cX12_brokenNow 75 = .ok (.iload_n 3, 1) := by decide +kernel
theorem dX12_brokenNow_76 : decode cX12_brokenNow 76 = .ok (.aload_n 0, 1) := by decide +kernel
theorem dX12_brokenNow_77 : decode cX12_brokenNow 77 = .ok (.getfield 24, 3) := by decide +kernel
theorem dX12_brokenNow_80 : decode cX12_brokenNow 80 = .ok (.iload_n 3, 1) := by decide +kernel
theorem dX12_brokenNow_81 : decode cX12_brokenNow 81 = .ok (.iaload, 1) := by decide +kernel
theorem dX12_brokenNow_82 : decode cX12_brokenNow 82 = .ok (.iload 4, 2) := by decide +kernel
theorem dX12_brokenNow_84 : decode cX12_brokenNow 84 = .ok (.aload_n 0, 1) := by decide +kernel
theorem dX12_brokenNow_85 : decode cX12_brokenNow 85 = .ok (.getfield 24, 3) := by decide +kernel
theorem dX12_brokenNow_88 : decode cX12_brokenNow 88 = .ok (.iload 4, 2) := by decide +kernel
theorem dX12_brokenNow_90 : decode cX12_brokenNow 90 = .ok (.iaload, 1) := by decide +kernel
theorem dX12_brokenNow_91 : decode cX12_brokenNow 91 = .ok (.invokevirtual 347, 3) := by decide +kernel
theorem dX12_brokenNow_94 : decode cX12_brokenNow 94 = .ok (.ifCond .ne 9, 3) := by decide +kernel
theorem dX12_brokenNow_97 : decode cX12_brokenNow 97 = .ok (.iload_n 1, 1) := by decide +kernel
theorem dX12_brokenNow_98 : decode cX12_brokenNow 98 = .ok (.iconst 1, 1) := by decide +kernel
theorem dX12_brokenNow_99 : decode cX12_brokenNow 99 = .ok (.iload_n 2, 1) := by decide +kernel
theorem dX12_brokenNow_100 : decode cX12_brokenNow 100 = .ok (.ishl, 1) := by decide +kernel
theorem dX12_brokenNow_101 : decode cX12_brokenNow 101 = .ok (.ior, 1) := by decide +kernel
theorem dX12_brokenNow_102 : decode cX12_brokenNow 102 = .ok (.istore_n 1, 1) := by decide +kernel
theorem dX12_brokenNow_103 : decode cX12_brokenNow 103 = .ok (.iinc 2 1, 3) := by decide +kernel
theorem dX12_brokenNow_106 : decode cX12_brokenNow 106 = .ok (.goto (-102), 3) := by decide +kernel
theorem dX12_brokenNow_109 : decode cX12_brokenNow 109 = .ok (.iload_n 1, 1) := by decide +kernel
theorem dX12_brokenNow_110 : decode cX12_brokenNow 110 = .ok (.ireturn, 1) := by decide +kernel
theorem dX12_isAny_0 : decode cX12_isAny 0 = .ok (.iconst 0, 1) := by decide +kernel
theorem dX12_isAny_1 : decode cX12_isAny 1 = .ok (.istore_n 1, 1) := by decide +kernel
theorem dX12_isAny_2 : decode cX12_isAny 2 = .ok (.iload_n 1, 1) := by decide +kernel
theorem dX12_isAny_3 : decode cX12_isAny 3 = .ok (.bipush 6, 2) := by decide +kernel
theorem dX12_isAny_5 : decode cX12_isAny 5 = .ok (.if_icmp .ge 19, 3) := by decide +kernel
theorem dX12_isAny_8 : decode cX12_isAny 8 = .ok (.aload_n 0, 1) := by decide +kernel
theorem dX12_isAny_9 : decode cX12_isAny 9 = .ok (.iload_n 1, 1) := by decide +kernel
theorem dX12_isAny_10 : decode cX12_isAny 10 = .ok (.invokevirtual 330, 3) := by decide +kernel
theorem dX12_isAny_13 : decode cX12_isAny 13 = .ok (.ifCond .eq 5, 3) := by decide +kernel
theorem dX12_isAny_16 : decode cX12_isAny 16 = .ok (.iconst 1, 1) := by decide +kernel
theorem dX12_isAny_17 : decode cX12_isAny 17 = .ok (.ireturn, 1) := by decide +kernel
theorem dX12_isAny_18 : decode cX12_isAny 18 = .ok (.iinc 1 1, 3) := by decide +kernel
theorem dX12_isAny_21 : decode cX12_isAny 21 = .ok (.goto (-19), 3) := by decide +kernel
theorem dX12_isAny_24 : decode cX12_isAny 24 = .ok (.iconst 0, 1) := by decide +kernel
theorem dX12_isAny_25 : decode cX12_isAny 25 = .ok (.ireturn, 1) := by decide +kernel
theorem dX12_inFrom_0 : decode cX12_inFrom 0 = .ok (.iload_n 2, 1) := by decide +kernel
theorem dX12_inFrom_1 : decode cX12_inFrom 1 = .ok (.istore_n 3, 1) := by decide +kernel
theorem dX12_inFrom_2 : decode cX12_inFrom 2 = .ok (.iload_n 3, 1) := by decide +kernel
theorem dX12_inFrom_3 : decode cX12_inFrom 3 = .ok (.aload_n 0, 1) := by decide +kernel
theorem dX12_inFrom_4 : decode cX12_inFrom 4 = .ok (.getfield 9, 3) := by decide +kernel
theorem dX12_inFrom_7 : decode cX12_inFrom 7 = .ok (.iconst 2, 1) := by decide +kernel
theorem dX12_inFrom_8 : decode cX12_inFrom 8 = .ok (.iload_n 1, 1) := by decide +kernel
theorem dX12_inFrom_9 : decode cX12_inFrom 9 = .ok (.iadd, 1) := by decide +kernel
theorem dX12_inFrom_10 : decode cX12_inFrom 10 = .ok (.iaload, 1) := by decide +kernel
theorem dX12_inFrom_11 : decode cX12_inFrom 11 = .ok (.if_icmp .ge 22, 3) := by decide +kernel
theorem dX12_inFrom_14 : decode cX12_inFrom 14 = .ok (.aload_n 0, 1) := by decide +kernel
theorem dX12_inFrom_15 : decode cX12_inFrom 15 = .ok (.iload_n 1, 1) := by decide +kernel
theorem dX12_inFrom_16 : decode cX12_inFrom 16 = .ok (.iload_n 3, 1) := by decide +kernel
theorem dX12_inFrom_17 : decode cX12_inFrom 17 = .ok (.iconst 4, 1) := by decide +kernel
theorem dX12_inFrom_18 : decode cX12_inFrom 18 = .ok (.invokevirtual 333, 3) := by decide +kernel
theorem dX12_inFrom_21 : decode cX12_inFrom 21 = .ok (.iconst 1, 1) := by decide +kernel
theorem dX12_inFrom_22 : decode cX12_inFrom 22 = .ok (.if_icmp .ne 5, 3) := by decide +kernel
theorem dX12_inFrom_25 : decode cX12_inFrom 25 = .ok (.iload_n 3, 1) := by decide +kernel
theorem dX12_inFrom_26 : decode cX12_inFrom 26 = .ok (.ireturn, 1) := by decide +kernel
theorem dX12_inFrom_27 : decode cX12_inFrom 27 = .ok (.iinc 3 1, 3) := by decide +kernel
theorem dX12_inFrom_30 : decode cX12_inFrom 30 = .ok (.goto (-28), 3) := by decide +kernel
theorem dX12_inFrom_33 : decode cX12_inFrom 33 = .ok (.iconst (-1), 1) := by decide +kernel
theorem dX12_inFrom_34 : decode cX12_inFrom 34 = .ok (.ireturn, 1) := by decide +kernel
theorem dX12_startPicks_0 : decode cX12_startPicks 0 = .ok (.iconst 0, 1) := by decide +kernel
theorem dX12_startPicks_1 : decode cX12_startPicks 1 = .ok (.istore_n 1, 1) := by decide +kernel
theorem dX12_startPicks_2 : decode cX12_startPicks 2 = .ok (.iload_n 1, 1) := by decide +kernel
theorem dX12_startPicks_3 : decode cX12_startPicks 3 = .ok (.bipush 6, 2) := by decide +kernel
theorem dX12_startPicks_5 : decode cX12_startPicks 5 = .ok (.if_icmp .ge 53, 3) := by decide +kernel
theorem dX12_startPicks_8 : decode cX12_startPicks 8 = .ok (.aload_n 0, 1) := by decide +kernel
theorem dX12_startPicks_9 : decode cX12_startPicks 9 = .ok (.getfield 24, 3) := by decide +kernel
theorem dX12_startPicks_12 : decode cX12_startPicks 12 = .ok (.iload_n 1, 1) := by decide +kernel
theorem dX12_startPicks_13 : decode cX12_startPicks 13 = .ok (.aload_n 0, 1) := by decide +kernel
theorem dX12_startPicks_14 : decode cX12_startPicks 14 = .ok (.iload_n 1, 1) := by decide +kernel
theorem dX12_startPicks_15 : decode cX12_startPicks 15 = .ok (.invokevirtual 330, 3) := by decide +kernel
theorem dX12_startPicks_18 : decode cX12_startPicks 18 = .ok (.ifCond .eq 12, 3) := by decide +kernel
theorem dX12_startPicks_21 : decode cX12_startPicks 21 = .ok (.aload_n 0, 1) := by decide +kernel
theorem dX12_startPicks_22 : decode cX12_startPicks 22 = .ok (.iload_n 1, 1) := by decide +kernel
theorem dX12_startPicks_23 : decode cX12_startPicks 23 = .ok (.iconst 0, 1) := by decide +kernel
theorem dX12_startPicks_24 : decode cX12_startPicks 24 = .ok (.invokevirtual 351, 3) := by decide +kernel
theorem dX12_startPicks_27 : decode cX12_startPicks 27 = .ok (.goto 4, 3) := by decide +kernel
theorem dX12_startPicks_30 : decode cX12_startPicks 30 = .ok (.iconst (-1), 1) := by decide +kernel
theorem dX12_startPicks_31 : decode cX12_startPicks 31 = .ok (.iastore, 1) := by decide +kernel
theorem dX12_startPicks_32 : decode cX12_startPicks 32 = .ok (.aload_n 0, 1) := by decide +kernel
theorem dX12_startPicks_33 : decode cX12_startPicks 33 = .ok (.iload_n 1, 1) := by decide +kernel
theorem dX12_startPicks_34 : decode cX12_startPicks 34 = .ok (.invokevirtual 330, 3) := by decide +kernel
theorem dX12_startPicks_37 : decode cX12_startPicks 37 = .ok (.ifCond .eq 15, 3) := by decide +kernel
theorem dX12_startPicks_40 : decode cX12_startPicks 40 = .ok (.aload_n 0, 1) := by decide +kernel
theorem dX12_startPicks_41 : decode cX12_startPicks 41 = .ok (.getfield 24, 3) := by decide +kernel
theorem dX12_startPicks_44 : decode cX12_startPicks 44 = .ok (.iload_n 1, 1) := by decide +kernel
theorem dX12_startPicks_45 : decode cX12_startPicks 45 = .ok (.iaload, 1) := by decide +kernel
theorem dX12_startPicks_46 : decode cX12_startPicks 46 = .ok (.iconst (-1), 1) := by decide +kernel
theorem dX12_startPicks_47 : decode cX12_startPicks 47 = .ok (.if_icmp .ne 5, 3) := by decide +kernel
theorem dX12_startPicks_50 : decode cX12_startPicks 50 = .ok (.iconst 0, 1) := by decide +kernel
theorem dX12_startPicks_51 : decode cX12_startPicks 51 = .ok (.ireturn, 1) := by decide +kernel
theorem dX12_startPicks_52 : decode cX12_startPicks 52 = .ok (.iinc 1 1, 3) := by decide +kernel
theorem dX12_startPicks_55 : decode cX12_startPicks 55 = .ok (.goto (-53), 3) := by decide +kernel
theorem dX12_startPicks_58 : decode cX12_startPicks 58 = .ok (.aload_n 0, 1) := by decide +kernel
theorem dX12_startPicks_59 : decode cX12_startPicks 59 = .ok (.invokevirtual 354, 3) := by decide +kernel
theorem dX12_startPicks_62 : decode cX12_startPicks 62 = .ok (.ireturn, 1) := by decide +kernel
theorem dX12_nextPicks_0 : decode cX12_nextPicks 0 = .ok (.iconst 5, 1) := by decide +kernel
theorem dX12_nextPicks_1 : decode cX12_nextPicks 1 = .ok (.istore_n 1, 1) := by decide +kernel
theorem dX12_nextPicks_2 : decode cX12_nextPicks 2 = .ok (.iload_n 1, 1) := by decide +kernel
theorem dX12_nextPicks_3 : decode cX12_nextPicks 3 = .ok (.ifCond .lt 60, 3) := by decide +kernel
theorem dX12_nextPicks_6 : decode cX12_nextPicks 6 = .ok (.aload_n 0, 1) := by decide +kernel
theorem dX12_nextPicks_7 : decode cX12_nextPicks 7 = .ok (.iload_n 1, 1) := by decide +kernel
theorem dX12_nextPicks_8 : decode cX12_nextPicks 8 = .ok (.invokevirtual 330, 3) := by decide +kernel
theorem dX12_nextPicks_11 : decode cX12_nextPicks 11 = .ok (.ifCond .ne 6, 3) := by decide +kernel
theorem dX12_nextPicks_14 : decode cX12_nextPicks 14 = .ok (.goto 43, 3) := by decide +kernel
theorem dX12_nextPicks_17 : decode cX12_nextPicks 17 = .ok (.aload_n 0, 1) := by decide +kernel
theorem dX12_nextPicks_18 : decode cX12_nextPicks 18 = .ok (.iload_n 1, 1) := by decide +kernel
theorem dX12_nextPicks_19 : decode cX12_nextPicks 19 = .ok (.aload_n 0, 1) := by decide +kernel
theorem dX12_nextPicks_20 : decode cX12_nextPicks 20 = .ok (.getfield 24, 3) := by decide +kernel
theorem dX12_nextPicks_23 : decode cX12_nextPicks 23 = .ok (.iload_n 1, 1) := by decide +kernel
theorem dX12_nextPicks_24 : decode cX12_nextPicks 24 = .ok (.iaload, 1) := by decide +kernel
theorem dX12_nextPicks_25 : decode cX12_nextPicks 25 = .ok (.iconst 1, 1) := by decide +kernel
theorem dX12_nextPicks_26 : decode cX12_nextPicks 26 = .ok (.iadd, 1) := by decide +kernel
theorem dX12_nextPicks_27 : decode cX12_nextPicks 27 = .ok (.invokevirtual 351, 3) := by decide +kernel
theorem dX12_nextPicks_30 : decode cX12_nextPicks 30 = .ok (.istore_n 2, 1) := by decide +kernel
theorem dX12_nextPicks_31 : decode cX12_nextPicks 31 = .ok (.iload_n 2, 1) := by decide +kernel
theorem dX12_nextPicks_32 : decode cX12_nextPicks 32 = .ok (.iconst (-1), 1) := by decide +kernel
theorem dX12_nextPicks_33 : decode cX12_nextPicks 33 = .ok (.if_icmp .eq 12, 3) := by decide +kernel
theorem dX12_nextPicks_36 : decode cX12_nextPicks 36 = .ok (.aload_n 0, 1) := by decide +kernel
theorem dX12_nextPicks_37 : decode cX12_nextPicks 37 = .ok (.getfield 24, 3) := by decide +kernel
theorem dX12_nextPicks_40 : decode cX12_nextPicks 40 = .ok (.iload_n 1, 1) := by decide +kernel
theorem dX12_nextPicks_41 : decode cX12_nextPicks 41 = .ok (.iload_n 2, 1) := by decide +kernel
theorem dX12_nextPicks_42 : decode cX12_nextPicks 42 = .ok (.iastore, 1) := by decide +kernel
theorem dX12_nextPicks_43 : decode cX12_nextPicks 43 = .ok (.iconst 1, 1) := by decide +kernel
theorem dX12_nextPicks_44 : decode cX12_nextPicks 44 = .ok (.ireturn, 1) := by decide +kernel
theorem dX12_nextPicks_45 : decode cX12_nextPicks 45 = .ok (.aload_n 0, 1) := by decide +kernel
theorem dX12_nextPicks_46 : decode cX12_nextPicks 46 = .ok (.getfield 24, 3) := by decide +kernel
theorem dX12_nextPicks_49 : decode cX12_nextPicks 49 = .ok (.iload_n 1, 1) := by decide +kernel
theorem dX12_nextPicks_50 : decode cX12_nextPicks 50 = .ok (.aload_n 0, 1) := by decide +kernel
theorem dX12_nextPicks_51 : decode cX12_nextPicks 51 = .ok (.iload_n 1, 1) := by decide +kernel
theorem dX12_nextPicks_52 : decode cX12_nextPicks 52 = .ok (.iconst 0, 1) := by decide +kernel
theorem dX12_nextPicks_53 : decode cX12_nextPicks 53 = .ok (.invokevirtual 351, 3) := by decide +kernel
theorem dX12_nextPicks_56 : decode cX12_nextPicks 56 = .ok (.iastore, 1) := by decide +kernel
theorem dX12_nextPicks_57 : decode cX12_nextPicks 57 = .ok (.iinc 1 (-1), 3) := by decide +kernel
theorem dX12_nextPicks_60 : decode cX12_nextPicks 60 = .ok (.goto (-58), 3) := by decide +kernel
theorem dX12_nextPicks_63 : decode cX12_nextPicks 63 = .ok (.iconst 0, 1) := by decide +kernel
theorem dX12_nextPicks_64 : decode cX12_nextPicks 64 = .ok (.ireturn, 1) := by decide +kernel
theorem dX12_worthNow_0 : decode cX12_worthNow 0 = .ok (.iconst 0, 1) := by decide +kernel
theorem dX12_worthNow_1 : decode cX12_worthNow 1 = .ok (.istore_n 1, 1) := by decide +kernel
theorem dX12_worthNow_2 : decode cX12_worthNow 2 = .ok (.iconst 0, 1) := by decide +kernel
theorem dX12_worthNow_3 : decode cX12_worthNow 3 = .ok (.istore_n 2, 1) := by decide +kernel
theorem dX12_worthNow_4 : decode cX12_worthNow 4 = .ok (.iload_n 2, 1) := by decide +kernel
theorem dX12_worthNow_5 : decode cX12_worthNow 5 = .ok (.bipush 6, 2) := by decide +kernel
theorem dX12_worthNow_7 : decode cX12_worthNow 7 = .ok (.if_icmp .ge 36, 3) := by decide +kernel
theorem dX12_worthNow_10 : decode cX12_worthNow 10 = .ok (.iload_n 1, 1) := by decide +kernel
theorem dX12_worthNow_11 : decode cX12_worthNow 11 = .ok (.aload_n 0, 1) := by decide +kernel
theorem dX12_worthNow_12 : decode cX12_worthNow 12 = .ok (.iload_n 2, 1) := by decide +kernel
theorem dX12_worthNow_13 : decode cX12_worthNow 13 = .ok (.invokevirtual 330, 3) := by decide +kernel
theorem dX12_worthNow_16 : decode cX12_worthNow 16 = .ok (.ifCond .eq 18, 3) := by decide +kernel
theorem dX12_worthNow_19 : decode cX12_worthNow 19 = .ok (.aload_n 0, 1) := by decide +kernel
theorem dX12_worthNow_20 : decode cX12_worthNow 20 = .ok (.iload_n 2, 1) := by decide +kernel
theorem dX12_worthNow_21 : decode cX12_worthNow 21 = .ok (.aload_n 0, 1) := by decide +kernel
theorem dX12_worthNow_22 : decode cX12_worthNow 22 = .ok (.getfield 24, 3) := by decide +kernel
theorem dX12_worthNow_25 : decode cX12_worthNow 25 = .ok (.iload_n 2, 1) := by decide +kernel
theorem dX12_worthNow_26 : decode cX12_worthNow 26 = .ok (.iaload, 1) := by decide +kernel
theorem dX12_worthNow_27 : decode cX12_worthNow 27 = .ok (.iconst 3, 1) := by decide +kernel
theorem dX12_worthNow_28 : decode cX12_worthNow 28 = .ok (.invokevirtual 333, 3) := by decide +kernel
theorem dX12_worthNow_31 : decode cX12_worthNow 31 = .ok (.goto 4, 3) := by decide +kernel
theorem dX12_worthNow_34 : decode cX12_worthNow 34 = .ok (.iconst 0, 1) := by decide +kernel
theorem dX12_worthNow_35 : decode cX12_worthNow 35 = .ok (.iadd, 1) := by decide +kernel
theorem dX12_worthNow_36 : decode cX12_worthNow 36 = .ok (.istore_n 1, 1) := by decide +kernel
theorem dX12_worthNow_37 : decode cX12_worthNow 37 = .ok (.iinc 2 1, 3) := by decide +kernel
theorem dX12_worthNow_40 : decode cX12_worthNow 40 = .ok (.goto (-36), 3) := by decide +kernel
theorem dX12_worthNow_43 : decode cX12_worthNow 43 = .ok (.iload_n 1, 1) := by decide +kernel
theorem dX12_worthNow_44 : decode cX12_worthNow 44 = .ok (.ireturn, 1) := by decide +kernel
theorem dX12_survey_0 : decode cX12_survey 0 = .ok (.aload_n 0, 1) := by decide +kernel
theorem dX12_survey_1 : decode cX12_survey 1 = .ok (.iconst 0, 1) := by decide +kernel
theorem dX12_survey_2 : decode cX12_survey 2 = .ok (.putfield 357, 3) := by decide +kernel
theorem dX12_survey_5 : decode cX12_survey 5 = .ok (.aload_n 0, 1) := by decide +kernel
theorem dX12_survey_6 : decode cX12_survey 6 = .ok (.iconst 0, 1) := by decide +kernel
theorem dX12_survey_7 : decode cX12_survey 7 = .ok (.putfield 360, 3) := by decide +kernel
theorem dX12_survey_10 : decode cX12_survey 10 = .ok (.aload_n 0, 1) := by decide +kernel
theorem dX12_survey_11 : decode cX12_survey 11 = .ok (.iconst (-1), 1) := by decide +kernel
theorem dX12_survey_12 : decode cX12_survey 12 = .ok (.putfield 363, 3) := by decide +kernel
theorem dX12_survey_15 : decode cX12_survey 15 = .ok (.iconst 0, 1) := by decide +kernel
theorem dX12_survey_16 : decode cX12_survey 16 = .ok (.istore_n 1, 1) := by decide +kernel
theorem dX12_survey_17 : decode cX12_survey 17 = .ok (.iload_n 1, 1) := by decide +kernel
theorem dX12_survey_18 : decode cX12_survey 18 = .ok (.aload_n 0, 1) := by decide +kernel
theorem dX12_survey_19 : decode cX12_survey 19 = .ok (.getfield 27, 3) := by decide +kernel
theorem dX12_survey_22 : decode cX12_survey 22 = .ok (.arraylength, 1) := by decide +kernel
theorem dX12_survey_23 : decode cX12_survey 23 = .ok (.if_icmp .ge 16, 3) := by decide +kernel
theorem dX12_survey_26 : decode cX12_survey 26 = .ok (.aload_n 0, 1) := by decide +kernel
theorem dX12_survey_27 : decode cX12_survey 27 = .ok (.getfield 27, 3) := by decide +kernel
theorem dX12_survey_30 : decode cX12_survey 30 = .ok (.iload_n 1, 1) := by decide +kernel
theorem dX12_survey_31 : decode cX12_survey 31 = .ok (.iconst 0, 1) := by decide +kernel
theorem dX12_survey_32 : decode cX12_survey 32 = .ok (.iastore, 1) := by decide +kernel
theorem dX12_survey_33 : decode cX12_survey 33 = .ok (.iinc 1 1, 3) := by decide +kernel
theorem dX12_survey_36 : decode cX12_survey 36 = .ok (.goto (-19), 3) := by decide +kernel
theorem dX12_survey_39 : decode cX12_survey 39 = .ok (.aload_n 0, 1) := by decide +kernel
theorem dX12_survey_40 : decode cX12_survey 40 = .ok (.invokevirtual 366, 3) := by decide +kernel
theorem dX12_survey_43 : decode cX12_survey 43 = .ok (.istore_n 1, 1) := by decide +kernel
theorem dX12_survey_44 : decode cX12_survey 44 = .ok (.iload_n 1, 1) := by decide +kernel
theorem dX12_survey_45 : decode cX12_survey 45 = .ok (.ifCond .eq 32, 3) := by decide +kernel
theorem dX12_survey_48 : decode cX12_survey 48 = .ok (.aload_n 0, 1) := by decide +kernel
theorem dX12_survey_49 : decode cX12_survey 49 = .ok (.dup, 1) := by decide +kernel
theorem dX12_survey_50 : decode cX12_survey 50 = .ok (.getfield 360, 3) := by decide +kernel
theorem dX12_survey_53 : decode cX12_survey 53 = .ok (.iconst 1, 1) := by decide +kernel
theorem dX12_survey_54 : decode cX12_survey 54 = .ok (.iadd, 1) := by decide +kernel
theorem dX12_survey_55 : decode cX12_survey 55 = .ok (.putfield 360, 3) := by decide +kernel
theorem dX12_survey_58 : decode cX12_survey 58 = .ok (.aload_n 0, 1) := by decide +kernel
theorem dX12_survey_59 : decode cX12_survey 59 = .ok (.invokevirtual 369, 3) := by decide +kernel
theorem dX12_survey_62 : decode cX12_survey 62 = .ok (.ifCond .ne 7, 3) := by decide +kernel
theorem dX12_survey_65 : decode cX12_survey 65 = .ok (.aload_n 0, 1) := by decide +kernel
theorem dX12_survey_66 : decode cX12_survey 66 = .ok (.invokevirtual 372, 3) := by decide +kernel
theorem dX12_survey_69 : decode cX12_survey 69 = .ok (.aload_n 0, 1) := by decide +kernel
theorem dX12_survey_70 : decode cX12_survey 70 = .ok (.invokevirtual 375, 3) := by decide +kernel
theorem dX12_survey_73 : decode cX12_survey 73 = .ok (.istore_n 1, 1) := by decide +kernel
theorem dX12_survey_74 : decode cX12_survey 74 = .ok (.goto (-30), 3) := by decide +kernel
theorem dX12_survey_77 : decode cX12_survey 77 = .ok (.return_, 1) := by decide +kernel
theorem dX12_noteChoice_0 : decode cX12_noteChoice 0 = .ok (.aload_n 0, 1) := by decide +kernel
theorem dX12_noteChoice_1 : decode cX12_noteChoice 1 = .ok (.dup, 1) := by decide +kernel
theorem dX12_noteChoice_2 : decode cX12_noteChoice 2 = .ok (.getfield 357, 3) := by decide +kernel
theorem dX12_noteChoice_5 : decode cX12_noteChoice 5 = .ok (.iconst 1, 1) := by decide +kernel
theorem dX12_noteChoice_6 : decode cX12_noteChoice 6 = .ok (.iadd, 1) := by decide +kernel
theorem dX12_noteChoice_7 : decode cX12_noteChoice 7 = .ok (.putfield 357, 3) := by decide +kernel
theorem dX12_noteChoice_10 : decode cX12_noteChoice 10 = .ok (.iconst 0, 1) := by decide +kernel
theorem dX12_noteChoice_11 : decode cX12_noteChoice 11 = .ok (.istore_n 1, 1) := by decide +kernel
theorem dX12_noteChoice_12 : decode cX12_noteChoice 12 = .ok (.iload_n 1, 1) := by decide +kernel
theorem dX12_noteChoice_13 : decode cX12_noteChoice 13 = .ok (.bipush 6, 2) := by decide +kernel
theorem dX12_noteChoice_15 : decode cX12_noteChoice 15 = .ok (.if_icmp .ge 37, 3) := by decide +kernel
theorem dX12_noteChoice_18 : decode cX12_noteChoice 18 = .ok (.aload_n 0, 1) := by decide +kernel
theorem dX12_noteChoice_19 : decode cX12_noteChoice 19 = .ok (.iload_n 1, 1) := by decide +kernel
theorem dX12_noteChoice_20 : decode cX12_noteChoice 20 = .ok (.invokevirtual 330, 3) := by decide +kernel
theorem dX12_noteChoice_23 : decode cX12_noteChoice 23 = .ok (.ifCond .eq 23, 3) := by decide +kernel
theorem dX12_noteChoice_26 : decode cX12_noteChoice 26 = .ok (.aload_n 0, 1) := by decide +kernel
theorem dX12_noteChoice_27 : decode cX12_noteChoice 27 = .ok (.getfield 27, 3) := by decide +kernel
theorem dX12_noteChoice_30 : decode cX12_noteChoice 30 = .ok (.bipush 6, 2) := by decide +kernel
theorem dX12_noteChoice_32 : decode cX12_noteChoice 32 = .ok (.iload_n 1, 1) := by decide +kernel
theorem dX12_noteChoice_33 : decode cX12_noteChoice 33 = .ok (.imul, 1) := by decide +kernel
theorem dX12_noteChoice_34 : decode cX12_noteChoice 34 = .ok (.aload_n 0, 1) := by decide +kernel
theorem dX12_noteChoice_35 : decode cX12_noteChoice 35 = .ok (.getfield 24, 3) := by decide +kernel
theorem dX12_noteChoice_38 : decode cX12_noteChoice 38 = .ok (.iload_n 1, 1) := by decide +kernel
theorem dX12_noteChoice_39 : decode cX12_noteChoice 39 = .ok (.iaload, 1) := by decide +kernel
theorem dX12_noteChoice_40 : decode cX12_noteChoice 40 = .ok (.iadd, 1) := by decide +kernel
theorem dX12_noteChoice_41 : decode cX12_noteChoice 41 = .ok (.dup2, 1) := by decide +kernel
theorem dX12_noteChoice_42 : decode cX12_noteChoice 42 = .ok (.iaload, 1) := by decide +kernel
theorem dX12_noteChoice_43 : decode cX12_noteChoice 43 = .ok (.iconst 1, 1) := by decide +kernel
theorem dX12_noteChoice_44 : decode cX12_noteChoice 44 = .ok (.iadd, 1) := by decide +kernel
theorem dX12_noteChoice_45 : decode cX12_noteChoice 45 = .ok (.iastore, 1) := by decide +kernel
theorem dX12_noteChoice_46 : decode cX12_noteChoice 46 = .ok (.iinc 1 1, 3) := by decide +kernel
theorem dX12_noteChoice_49 : decode cX12_noteChoice 49 = .ok (.goto (-37), 3) := by decide +kernel
theorem dX12_noteChoice_52 : decode cX12_noteChoice 52 = .ok (.aload_n 0, 1) := by decide +kernel
theorem dX12_noteChoice_53 : decode cX12_noteChoice 53 = .ok (.invokevirtual 378, 3) := by decide +kernel
theorem dX12_noteChoice_56 : decode cX12_noteChoice 56 = .ok (.aload_n 0, 1) := by decide +kernel
theorem dX12_noteChoice_57 : decode cX12_noteChoice 57 = .ok (.getfield 363, 3) := by decide +kernel
theorem dX12_noteChoice_60 : decode cX12_noteChoice 60 = .ok (.if_icmp .gt 4, 3) := by decide +kernel
theorem dX12_noteChoice_63 : decode cX12_noteChoice 63 = .ok (.return_, 1) := by decide +kernel
theorem dX12_noteChoice_64 : decode cX12_noteChoice 64 = .ok (.aload_n 0, 1) := by decide +kernel
theorem dX12_noteChoice_65 : decode cX12_noteChoice 65 = .ok (.aload_n 0, 1) := by decide +kernel
theorem dX12_noteChoice_66 : decode cX12_noteChoice 66 = .ok (.invokevirtual 378, 3) := by decide +kernel
theorem dX12_noteChoice_69 : decode cX12_noteChoice 69 = .ok (.putfield 363, 3) := by decide +kernel
theorem dX12_noteChoice_72 : decode cX12_noteChoice 72 = .ok (.iconst 0, 1) := by decide +kernel
theorem dX12_noteChoice_73 : decode cX12_noteChoice 73 = .ok (.istore_n 1, 1) := by decide +kernel
theorem dX12_noteChoice_74 : decode cX12_noteChoice 74 = .ok (.iload_n 1, 1) := by decide +kernel
theorem dX12_noteChoice_75 : decode cX12_noteChoice 75 = .ok (.bipush 6, 2) := by decide +kernel
theorem dX12_noteChoice_77 : decode cX12_noteChoice 77 = .ok (.if_icmp .ge 21, 3) := by decide +kernel
theorem dX12_noteChoice_80 : decode cX12_noteChoice 80 = .ok (.aload_n 0, 1) := by decide +kernel
theorem dX12_noteChoice_81 : decode cX12_noteChoice 81 = .ok (.getfield 30, 3) := by decide +kernel
theorem dX12_noteChoice_84 : decode cX12_noteChoice 84 = .ok (.iload_n 1, 1) := by decide +kernel
theorem dX12_noteChoice_85 : decode cX12_noteChoice 85 = .ok (.aload_n 0, 1) := by decide +kernel
theorem dX12_noteChoice_86 : decode cX12_noteChoice 86 = .ok (.getfield 24, 3) := by decide +kernel
theorem dX12_noteChoice_89 : decode cX12_noteChoice 89 = .ok (.iload_n 1, 1) := by decide +kernel
theorem dX12_noteChoice_90 : decode cX12_noteChoice 90 = .ok (.iaload, 1) := by decide +kernel
theorem dX12_noteChoice_91 : decode cX12_noteChoice 91 = .ok (.iastore, 1) := by decide +kernel
theorem dX12_noteChoice_92 : decode cX12_noteChoice 92 = .ok (.iinc 1 1, 3) := by decide +kernel
theorem dX12_noteChoice_95 : decode cX12_noteChoice 95 = .ok (.goto (-21), 3) := by decide +kernel
theorem dX12_noteChoice_98 : decode cX12_noteChoice 98 = .ok (.return_, 1) := by decide +kernel
theorem dX12_isLeft_0 : decode cX12_isLeft 0 = .ok (.aload_n 0, 1) := by decide +kernel
theorem dX12_isLeft_1 : decode cX12_isLeft 1 = .ok (.getfield 27, 3) := by decide +kernel
theorem dX12_isLeft_4 : decode cX12_isLeft 4 = .ok (.bipush 6, 2) := by decide +kernel
theorem dX12_isLeft_6 : decode cX12_isLeft 6 = .ok (.iload_n 1, 1) := by decide +kernel
theorem dX12_isLeft_7 : decode cX12_isLeft 7 = .ok (.imul, 1) := by decide +kernel
theorem dX12_isLeft_8 : decode cX12_isLeft 8 = .ok (.iload_n 2, 1) := by decide +kernel
theorem dX12_isLeft_9 : decode cX12_isLeft 9 = .ok (.iadd, 1) := by decide +kernel
theorem dX12_isLeft_10 : decode cX12_isLeft 10 = .ok (.iaload, 1) := by decide +kernel
theorem dX12_isLeft_11 : decode cX12_isLeft 11 = .ok (.ifCond .le 7, 3) := by decide +kernel
theorem dX12_isLeft_14 : decode cX12_isLeft 14 = .ok (.iconst 1, 1) := by decide +kernel
theorem dX12_isLeft_15 : decode cX12_isLeft 15 = .ok (.goto 4, 3) := by decide +kernel
theorem dX12_isLeft_18 : decode cX12_isLeft 18 = .ok (.iconst 0, 1) := by decide +kernel
theorem dX12_isLeft_19 : decode cX12_isLeft 19 = .ok (.ireturn, 1) := by decide +kernel
theorem dX12_leftMany_0 : decode cX12_leftMany 0 = .ok (.iconst 0, 1) := by decide +kernel
theorem dX12_leftMany_1 : decode cX12_leftMany 1 = .ok (.istore_n 2, 1) := by decide +kernel
theorem dX12_leftMany_2 : decode cX12_leftMany 2 = .ok (.iconst 0, 1) := by decide +kernel
theorem dX12_leftMany_3 : decode cX12_leftMany 3 = .ok (.istore_n 3, 1) := by decide +kernel
theorem dX12_leftMany_4 : decode cX12_leftMany 4 = .ok (.iload_n 3, 1) := by decide +kernel
theorem dX12_leftMany_5 : decode cX12_leftMany 5 = .ok (.bipush 6, 2) := by decide +kernel
theorem dX12_leftMany_7 : decode cX12_leftMany 7 = .ok (.if_icmp .ge 26, 3) := by decide +kernel
theorem dX12_leftMany_10 : decode cX12_leftMany 10 = .ok (.iload_n 2, 1) := by decide +kernel
theorem dX12_leftMany_11 : decode cX12_leftMany 11 = .ok (.aload_n 0, 1) := by decide +kernel
theorem dX12_leftMany_12 : decode cX12_leftMany 12 = .ok (.iload_n 1, 1) := by decide +kernel
theorem dX12_leftMany_13 : decode cX12_leftMany 13 = .ok (.iload_n 3, 1) := by decide +kernel
theorem dX12_leftMany_14 : decode cX12_leftMany 14 = .ok (.invokevirtual 381, 3) := by decide +kernel
theorem dX12_leftMany_17 : decode cX12_leftMany 17 = .ok (.ifCond .eq 7, 3) := by decide +kernel
theorem dX12_leftMany_20 : decode cX12_leftMany 20 = .ok (.iconst 1, 1) := by decide +kernel
theorem dX12_leftMany_21 : decode cX12_leftMany 21 = .ok (.goto 4, 3) := by decide +kernel
theorem dX12_leftMany_24 : decode cX12_leftMany 24 = .ok (.iconst 0, 1) := by decide +kernel
theorem dX12_leftMany_25 : decode cX12_leftMany 25 = .ok (.iadd, 1) := by decide +kernel
theorem dX12_leftMany_26 : decode cX12_leftMany 26 = .ok (.istore_n 2, 1) := by decide +kernel
theorem dX12_leftMany_27 : decode cX12_leftMany 27 = .ok (.iinc 3 1, 3) := by decide +kernel
theorem dX12_leftMany_30 : decode cX12_leftMany 30 = .ok (.goto (-26), 3) := by decide +kernel
theorem dX12_leftMany_33 : decode cX12_leftMany 33 = .ok (.iload_n 2, 1) := by decide +kernel
theorem dX12_leftMany_34 : decode cX12_leftMany 34 = .ok (.ireturn, 1) := by decide +kernel
theorem dX12_leftAll_0 : decode cX12_leftAll 0 = .ok (.iconst 0, 1) := by decide +kernel
theorem dX12_leftAll_1 : decode cX12_leftAll 1 = .ok (.istore_n 1, 1) := by decide +kernel
theorem dX12_leftAll_2 : decode cX12_leftAll 2 = .ok (.iconst 0, 1) := by decide +kernel
theorem dX12_leftAll_3 : decode cX12_leftAll 3 = .ok (.istore_n 2, 1) := by decide +kernel
theorem dX12_leftAll_4 : decode cX12_leftAll 4 = .ok (.iload_n 2, 1) := by decide +kernel
theorem dX12_leftAll_5 : decode cX12_leftAll 5 = .ok (.bipush 6, 2) := by decide +kernel
theorem dX12_leftAll_7 : decode cX12_leftAll 7 = .ok (.if_icmp .ge 17, 3) := by decide +kernel
theorem dX12_leftAll_10 : decode cX12_leftAll 10 = .ok (.iload_n 1, 1) := by decide +kernel
theorem dX12_leftAll_11 : decode cX12_leftAll 11 = .ok (.aload_n 0, 1) := by decide +kernel
theorem dX12_leftAll_12 : decode cX12_leftAll 12 = .ok (.iload_n 2, 1) := by decide +kernel
theorem dX12_leftAll_13 : decode cX12_leftAll 13 = .ok (.invokevirtual 385, 3) := by decide +kernel
theorem dX12_leftAll_16 : decode cX12_leftAll 16 = .ok (.iadd, 1) := by decide +kernel
theorem dX12_leftAll_17 : decode cX12_leftAll 17 = .ok (.istore_n 1, 1) := by decide +kernel
theorem dX12_leftAll_18 : decode cX12_leftAll 18 = .ok (.iinc 2 1, 3) := by decide +kernel
theorem dX12_leftAll_21 : decode cX12_leftAll 21 = .ok (.goto (-17), 3) := by decide +kernel
theorem dX12_leftAll_24 : decode cX12_leftAll 24 = .ok (.iload_n 1, 1) := by decide +kernel
theorem dX12_leftAll_25 : decode cX12_leftAll 25 = .ok (.ireturn, 1) := by decide +kernel
theorem dX12_readings_0 : decode cX12_readings 0 = .ok (.aload_n 0, 1) := by decide +kernel
theorem dX12_readings_1 : decode cX12_readings 1 = .ok (.iconst 0, 1) := by decide +kernel
theorem dX12_readings_2 : decode cX12_readings 2 = .ok (.putfield 55, 3) := by decide +kernel
theorem dX12_readings_5 : decode cX12_readings 5 = .ok (.aload_n 0, 1) := by decide +kernel
theorem dX12_readings_6 : decode cX12_readings 6 = .ok (.iload_n 1, 1) := by decide +kernel
theorem dX12_readings_7 : decode cX12_readings 7 = .ok (.invokevirtual 321, 3) := by decide +kernel
theorem dX12_readings_10 : decode cX12_readings 10 = .ok (.ifCond .ne 5, 3) := by decide +kernel
theorem dX12_readings_13 : decode cX12_readings 13 = .ok (.iconst (-1), 1) := by decide +kernel
theorem dX12_readings_14 : decode cX12_readings 14 = .ok (.ireturn, 1) := by decide +kernel
theorem dX12_readings_15 : decode cX12_readings 15 = .ok (.aload_n 0, 1) := by decide +kernel
theorem dX12_readings_16 : decode cX12_readings 16 = .ok (.iload_n 1, 1) := by decide +kernel
theorem dX12_readings_17 : decode cX12_readings 17 = .ok (.invokevirtual 330, 3) := by decide +kernel
theorem dX12_readings_20 : decode cX12_readings 20 = .ok (.ifCond .ne 6, 3) := by decide +kernel
theorem dX12_readings_23 : decode cX12_readings 23 = .ok (.bipush (-2), 2) := by decide +kernel
theorem dX12_readings_25 : decode cX12_readings 25 = .ok (.ireturn, 1) := by decide +kernel
theorem dX12_readings_26 : decode cX12_readings 26 = .ok (.aload_n 0, 1) := by decide +kernel
theorem dX12_readings_27 : decode cX12_readings 27 = .ok (.invokevirtual 388, 3) := by decide +kernel
theorem dX12_readings_30 : decode cX12_readings 30 = .ok (.iconst 0, 1) := by decide +kernel
theorem dX12_readings_31 : decode cX12_readings 31 = .ok (.istore_n 2, 1) := by decide +kernel
theorem dX12_readings_32 : decode cX12_readings 32 = .ok (.iconst 0, 1) := by decide +kernel
theorem dX12_readings_33 : decode cX12_readings 33 = .ok (.istore_n 3, 1) := by decide +kernel
theorem dX12_readings_34 : decode cX12_readings 34 = .ok (.iconst 0, 1) := by decide +kernel
theorem dX12_readings_35 : decode cX12_readings 35 = .ok (.istore 4, 2) := by decide +kernel
theorem dX12_readings_37 : decode cX12_readings 37 = .ok (.iload 4, 2) := by decide +kernel
theorem dX12_readings_39 : decode cX12_readings 39 = .ok (.aload_n 0, 1) := by decide +kernel
theorem dX12_readings_40 : decode cX12_readings 40 = .ok (.getfield 9, 3) := by decide +kernel
theorem dX12_readings_43 : decode cX12_readings 43 = .ok (.iconst 2, 1) := by decide +kernel
theorem dX12_readings_44 : decode cX12_readings 44 = .ok (.iload_n 1, 1) := by decide +kernel
theorem dX12_readings_45 : decode cX12_readings 45 = .ok (.iadd, 1) := by decide +kernel
theorem dX12_readings_46 : decode cX12_readings 46 = .ok (.iaload, 1) := by decide +kernel
theorem dX12_readings_47 : decode cX12_readings 47 = .ok (.if_icmp .ge 44, 3) := by decide +kernel
theorem dX12_readings_50 : decode cX12_readings 50 = .ok (.iload_n 2, 1) := by decide +kernel
theorem dX12_readings_51 : decode cX12_readings 51 = .ok (.aload_n 0, 1) := by decide +kernel
theorem dX12_readings_52 : decode cX12_readings 52 = .ok (.iload_n 1, 1) := by decide +kernel
theorem dX12_readings_53 : decode cX12_readings 53 = .ok (.iload 4, 2) := by decide +kernel
theorem dX12_readings_55 : decode cX12_readings 55 = .ok (.iconst 4, 1) := by decide +kernel
theorem dX12_readings_56 : decode cX12_readings 56 = .ok (.invokevirtual 333, 3) := by decide +kernel
theorem dX12_readings_59 : decode cX12_readings 59 = .ok (.iload 4, 2) := by decide +kernel
theorem dX12_readings_61 : decode cX12_readings 61 = .ok (.ishl, 1) := by decide +kernel
theorem dX12_readings_62 : decode cX12_readings 62 = .ok (.ior, 1) := by decide +kernel
theorem dX12_readings_63 : decode cX12_readings 63 = .ok (.istore_n 2, 1) := by decide +kernel
theorem dX12_readings_64 : decode cX12_readings 64 = .ok (.iload_n 3, 1) := by decide +kernel
theorem dX12_readings_65 : decode cX12_readings 65 = .ok (.aload_n 0, 1) := by decide +kernel
theorem dX12_readings_66 : decode cX12_readings 66 = .ok (.iload_n 1, 1) := by decide +kernel
theorem dX12_readings_67 : decode cX12_readings 67 = .ok (.iload 4, 2) := by decide +kernel
theorem dX12_readings_69 : decode cX12_readings 69 = .ok (.invokevirtual 381, 3) := by decide +kernel
theorem dX12_readings_72 : decode cX12_readings 72 = .ok (.ifCond .eq 10, 3) := by decide +kernel
theorem dX12_readings_75 : decode cX12_readings 75 = .ok (.iconst 1, 1) := by decide +kernel
theorem dX12_readings_76 : decode cX12_readings 76 = .ok (.iload 4, 2) := by decide +kernel
theorem dX12_readings_78 : decode cX12_readings 78 = .ok (.ishl, 1) := by decide +kernel
theorem dX12_readings_79 : decode cX12_readings 79 = .ok (.goto 4, 3) := by decide +kernel
theorem dX12_readings_82 : decode cX12_readings 82 = .ok (.iconst 0, 1) := by decide +kernel
theorem dX12_readings_83 : decode cX12_readings 83 = .ok (.ior, 1) := by decide +kernel
theorem dX12_readings_84 : decode cX12_readings 84 = .ok (.istore_n 3, 1) := by decide +kernel
theorem dX12_readings_85 : decode cX12_readings 85 = .ok (.iinc 4 1, 3) := by decide +kernel
theorem dX12_readings_88 : decode cX12_readings 88 = .ok (.goto (-51), 3) := by decide +kernel
theorem dX12_readings_91 : decode cX12_readings 91 = .ok (.aload_n 0, 1) := by decide +kernel
theorem dX12_readings_92 : decode cX12_readings 92 = .ok (.iconst 0, 1) := by decide +kernel
theorem dX12_readings_93 : decode cX12_readings 93 = .ok (.putfield 59, 3) := by decide +kernel
theorem dX12_readings_96 : decode cX12_readings 96 = .ok (.aload_n 0, 1) := by decide +kernel
theorem dX12_readings_97 : decode cX12_readings 97 = .ok (.iload_n 2, 1) := by decide +kernel
theorem dX12_readings_98 : decode cX12_readings 98 = .ok (.i2l, 1) := by decide +kernel
theorem dX12_readings_99 : decode cX12_readings 99 = .ok (.invokevirtual 91, 3) := by decide +kernel
theorem dX12_readings_102 : decode cX12_readings 102 = .ok (.aload_n 0, 1) := by decide +kernel
theorem dX12_readings_103 : decode cX12_readings 103 = .ok (.iload_n 3, 1) := by decide +kernel
theorem dX12_readings_104 : decode cX12_readings 104 = .ok (.i2l, 1) := by decide +kernel
theorem dX12_readings_105 : decode cX12_readings 105 = .ok (.invokevirtual 91, 3) := by decide +kernel
theorem dX12_readings_108 : decode cX12_readings 108 = .ok (.aload_n 0, 1) := by decide +kernel
theorem dX12_readings_109 : decode cX12_readings 109 = .ok (.getfield 9, 3) := by decide +kernel
theorem dX12_readings_112 : decode cX12_readings 112 = .ok (.iconst 2, 1) := by decide +kernel
theorem dX12_readings_113 : decode cX12_readings 113 = .ok (.iload_n 1, 1) := by decide +kernel
theorem dX12_readings_114 : decode cX12_readings 114 = .ok (.iadd, 1) := by decide +kernel
theorem dX12_readings_115 : decode cX12_readings 115 = .ok (.iaload, 1) := by decide +kernel
theorem dX12_readings_116 : decode cX12_readings 116 = .ok (.ireturn, 1) := by decide +kernel
theorem dX12_isReading_0 : decode cX12_isReading 0 = .ok (.aload_n 0, 1) := by decide +kernel
theorem dX12_isReading_1 : decode cX12_isReading 1 = .ok (.iload_n 1, 1) := by decide +kernel
theorem dX12_isReading_2 : decode cX12_isReading 2 = .ok (.invokevirtual 330, 3) := by decide +kernel
theorem dX12_isReading_5 : decode cX12_isReading 5 = .ok (.ifCond .eq 25, 3) := by decide +kernel
theorem dX12_isReading_8 : decode cX12_isReading 8 = .ok (.iload_n 2, 1) := by decide +kernel
theorem dX12_isReading_9 : decode cX12_isReading 9 = .ok (.iconst 0, 1) := by decide +kernel
theorem dX12_isReading_10 : decode cX12_isReading 10 = .ok (.aload_n 0, 1) := by decide +kernel
theorem dX12_isReading_11 : decode cX12_isReading 11 = .ok (.getfield 9, 3) := by decide +kernel
theorem dX12_isReading_14 : decode cX12_isReading 14 = .ok (.iconst 2, 1) := by decide +kernel
theorem dX12_isReading_15 : decode cX12_isReading 15 = .ok (.iload_n 1, 1) := by decide +kernel
theorem dX12_isReading_16 : decode cX12_isReading 16 = .ok (.iadd, 1) := by decide +kernel
theorem dX12_isReading_17 : decode cX12_isReading 17 = .ok (.iaload, 1) := by decide +kernel
theorem dX12_isReading_18 : decode cX12_isReading 18 = .ok (.iconst 1, 1) := by decide +kernel
theorem dX12_isReading_19 : decode cX12_isReading 19 = .ok (.isub, 1) := by decide +kernel
theorem dX12_isReading_20 : decode cX12_isReading 20 = .ok (.invokestatic 62, 3) := by decide +kernel
theorem dX12_isReading_23 : decode cX12_isReading 23 = .ok (.ifCond .eq 7, 3) := by decide +kernel
theorem dX12_isReading_26 : decode cX12_isReading 26 = .ok (.iconst 1, 1) := by decide +kernel
theorem dX12_isReading_27 : decode cX12_isReading 27 = .ok (.goto 4, 3) := by decide +kernel
theorem dX12_isReading_30 : decode cX12_isReading 30 = .ok (.iconst 0, 1) := by decide +kernel
theorem dX12_isReading_31 : decode cX12_isReading 31 = .ok (.ireturn, 1) := by decide +kernel
theorem dX12_reading_0 : decode cX12_reading 0 = .ok (.aload_n 0, 1) := by decide +kernel
theorem dX12_reading_1 : decode cX12_reading 1 = .ok (.iconst 0, 1) := by decide +kernel
theorem dX12_reading_2 : decode cX12_reading 2 = .ok (.putfield 55, 3) := by decide +kernel
theorem dX12_reading_5 : decode cX12_reading 5 = .ok (.aload_n 0, 1) := by decide +kernel
theorem dX12_reading_6 : decode cX12_reading 6 = .ok (.iload_n 1, 1) := by decide +kernel
theorem dX12_reading_7 : decode cX12_reading 7 = .ok (.iload_n 2, 1) := by decide +kernel
theorem dX12_reading_8 : decode cX12_reading 8 = .ok (.invokevirtual 391, 3) := by decide +kernel
theorem dX12_reading_11 : decode cX12_reading 11 = .ok (.ifCond .eq 22, 3) := by decide +kernel
theorem dX12_reading_14 : decode cX12_reading 14 = .ok (.iload_n 3, 1) := by decide +kernel
theorem dX12_reading_15 : decode cX12_reading 15 = .ok (.iconst 0, 1) := by decide +kernel
theorem dX12_reading_16 : decode cX12_reading 16 = .ok (.iconst 4, 1) := by decide +kernel
theorem dX12_reading_17 : decode cX12_reading 17 = .ok (.invokestatic 62, 3) := by decide +kernel
theorem dX12_reading_20 : decode cX12_reading 20 = .ok (.ifCond .eq 13, 3) := by decide +kernel
theorem dX12_reading_23 : decode cX12_reading 23 = .ok (.aload_n 0, 1) := by decide +kernel
theorem dX12_reading_24 : decode cX12_reading 24 = .ok (.iload_n 1, 1) := by decide +kernel
theorem dX12_reading_25 : decode cX12_reading 25 = .ok (.iload_n 2, 1) := by decide +kernel
theorem dX12_reading_26 : decode cX12_reading 26 = .ok (.iload_n 3, 1) := by decide +kernel
theorem dX12_reading_27 : decode cX12_reading 27 = .ok (.invokevirtual 333, 3) := by decide +kernel
theorem dX12_reading_30 : decode cX12_reading 30 = .ok (.goto 7, 3) := by decide +kernel
theorem dX12_reading_33 : decode cX12_reading 33 = .ok (.aload_n 0, 1) := by decide +kernel
theorem dX12_reading_34 : decode cX12_reading 34 = .ok (.invokevirtual 394, 3) := by decide +kernel
theorem dX12_reading_37 : decode cX12_reading 37 = .ok (.ireturn, 1) := by decide +kernel
theorem dX12_hull_0 : decode cX12_hull 0 = .ok (.aload_n 0, 1) := by decide +kernel
theorem dX12_hull_1 : decode cX12_hull 1 = .ok (.iconst 0, 1) := by decide +kernel
theorem dX12_hull_2 : decode cX12_hull 2 = .ok (.putfield 55, 3) := by decide +kernel
theorem dX12_hull_5 : decode cX12_hull 5 = .ok (.aload_n 0, 1) := by decide +kernel
theorem dX12_hull_6 : decode cX12_hull 6 = .ok (.iload_n 1, 1) := by decide +kernel
theorem dX12_hull_7 : decode cX12_hull 7 = .ok (.invokevirtual 321, 3) := by decide +kernel
theorem dX12_hull_10 : decode cX12_hull 10 = .ok (.ifCond .ne 5, 3) := by decide +kernel
theorem dX12_hull_13 : decode cX12_hull 13 = .ok (.iconst (-1), 1) := by decide +kernel
theorem dX12_hull_14 : decode cX12_hull 14 = .ok (.ireturn, 1) := by decide +kernel
theorem dX12_hull_15 : decode cX12_hull 15 = .ok (.aload_n 0, 1) := by decide +kernel
theorem dX12_hull_16 : decode cX12_hull 16 = .ok (.invokevirtual 388, 3) := by decide +kernel
theorem dX12_hull_19 : decode cX12_hull 19 = .ok (.sipush 10000, 3) := by decide +kernel
theorem dX12_hull_22 : decode cX12_hull 22 = .ok (.istore_n 2, 1) := by decide +kernel
theorem dX12_hull_23 : decode cX12_hull 23 = .ok (.iconst (-1), 1) := by decide +kernel
theorem dX12_hull_24 : decode cX12_hull 24 = .ok (.istore_n 3, 1) := by decide +kernel
theorem dX12_hull_25 : decode cX12_hull 25 = .ok (.iconst 0, 1) := by decide +kernel
theorem dX12_hull_26 : decode cX12_hull 26 = .ok (.istore 4, 2) := by decide +kernel
theorem dX12_hull_28 : decode cX12_hull 28 = .ok (.iload 4, 2) := by decide +kernel
theorem dX12_hull_30 : decode cX12_hull 30 = .ok (.bipush 6, 2) := by decide +kernel
theorem dX12_hull_32 : decode cX12_hull 32 = .ok (.if_icmp .ge 48, 3) := by decide +kernel
theorem dX12_hull_35 : decode cX12_hull 35 = .ok (.aload_n 0, 1) := by decide +kernel
theorem dX12_hull_36 : decode cX12_hull 36 = .ok (.iload_n 1, 1) := by decide +kernel
theorem dX12_hull_37 : decode cX12_hull 37 = .ok (.iload 4, 2) := by decide +kernel
theorem dX12_hull_39 : decode cX12_hull 39 = .ok (.invokevirtual 381, 3) := by decide +kernel
theorem dX12_hull_42 : decode cX12_hull 42 = .ok (.ifCond .ne 6, 3) := by decide +kernel
theorem dX12_hull_45 : decode cX12_hull 45 = .ok (.goto 29, 3) := by decide +kernel
theorem dX12_hull_48 : decode cX12_hull 48 = .ok (.iload_n 2, 1) := by decide +kernel
theorem dX12_hull_49 : decode cX12_hull 49 = .ok (.aload_n 0, 1) := by decide +kernel
theorem dX12_hull_50 : decode cX12_hull 50 = .ok (.iload_n 1, 1) := by decide +kernel
theorem dX12_hull_51 : decode cX12_hull 51 = .ok (.iload 4, 2) := by decide +kernel
theorem dX12_hull_53 : decode cX12_hull 53 = .ok (.iconst 0, 1) := by decide +kernel
theorem dX12_hull_54 : decode cX12_hull 54 = .ok (.invokevirtual 333, 3) := by decide +kernel
theorem dX12_hull_57 : decode cX12_hull 57 = .ok (.invokestatic 101, 3) := by decide +kernel
theorem dX12_hull_60 : decode cX12_hull 60 = .ok (.istore_n 2, 1) := by decide +kernel
theorem dX12_hull_61 : decode cX12_hull 61 = .ok (.iload_n 3, 1) := by decide +kernel
theorem dX12_hull_62 : decode cX12_hull 62 = .ok (.aload_n 0, 1) := by decide +kernel
theorem dX12_hull_63 : decode cX12_hull 63 = .ok (.iload_n 1, 1) := by decide +kernel
theorem dX12_hull_64 : decode cX12_hull 64 = .ok (.iload 4, 2) := by decide +kernel
theorem dX12_hull_66 : decode cX12_hull 66 = .ok (.iconst 1, 1) := by decide +kernel
theorem dX12_hull_67 : decode cX12_hull 67 = .ok (.invokevirtual 333, 3) := by decide +kernel
theorem dX12_hull_70 : decode cX12_hull 70 = .ok (.invokestatic 179, 3) := by decide +kernel
theorem dX12_hull_73 : decode cX12_hull 73 = .ok (.istore_n 3, 1) := by decide +kernel
theorem dX12_hull_74 : decode cX12_hull 74 = .ok (.iinc 4 1, 3) := by decide +kernel
theorem dX12_hull_77 : decode cX12_hull 77 = .ok (.goto (-49), 3) := by decide +kernel
theorem dX12_hull_80 : decode cX12_hull 80 = .ok (.iload_n 3, 1) := by decide +kernel
theorem dX12_hull_81 : decode cX12_hull 81 = .ok (.iconst (-1), 1) := by decide +kernel
theorem dX12_hull_82 : decode cX12_hull 82 = .ok (.if_icmp .ne 6, 3) := by decide +kernel
theorem dX12_hull_85 : decode cX12_hull 85 = .ok (.bipush (-2), 2) := by decide +kernel
theorem dX12_hull_87 : decode cX12_hull 87 = .ok (.ireturn, 1) := by decide +kernel
theorem dX12_hull_88 : decode cX12_hull 88 = .ok (.aload_n 0, 1) := by decide +kernel
theorem dX12_hull_89 : decode cX12_hull 89 = .ok (.iconst 0, 1) := by decide +kernel
theorem dX12_hull_90 : decode cX12_hull 90 = .ok (.putfield 59, 3) := by decide +kernel
theorem dX12_hull_93 : decode cX12_hull 93 = .ok (.aload_n 0, 1) := by decide +kernel
theorem dX12_hull_94 : decode cX12_hull 94 = .ok (.iload_n 2, 1) := by decide +kernel
theorem dX12_hull_95 : decode cX12_hull 95 = .ok (.i2l, 1) := by decide +kernel
theorem dX12_hull_96 : decode cX12_hull 96 = .ok (.invokevirtual 91, 3) := by decide +kernel
theorem dX12_hull_99 : decode cX12_hull 99 = .ok (.aload_n 0, 1) := by decide +kernel
theorem dX12_hull_100 : decode cX12_hull 100 = .ok (.iload_n 3, 1) := by decide +kernel
theorem dX12_hull_101 : decode cX12_hull 101 = .ok (.i2l, 1) := by decide +kernel
theorem dX12_hull_102 : decode cX12_hull 102 = .ok (.invokevirtual 91, 3) := by decide +kernel
theorem dX12_hull_105 : decode cX12_hull 105 = .ok (.iload_n 3, 1) := by decide +kernel
theorem dX12_hull_106 : decode cX12_hull 106 = .ok (.iload_n 2, 1) := by decide +kernel
theorem dX12_hull_107 : decode cX12_hull 107 = .ok (.isub, 1) := by decide +kernel
theorem dX12_hull_108 : decode cX12_hull 108 = .ok (.iconst 1, 1) := by decide +kernel
theorem dX12_hull_109 : decode cX12_hull 109 = .ok (.iadd, 1) := by decide +kernel
theorem dX12_hull_110 : decode cX12_hull 110 = .ok (.ireturn, 1) := by decide +kernel
theorem dX12_isOrder_0 : decode cX12_isOrder 0 = .ok (.iload_n 1, 1) := by decide +kernel
theorem dX12_isOrder_1 : decode cX12_isOrder 1 = .ok (.iconst 0, 1) := by decide +kernel
theorem dX12_isOrder_2 : decode cX12_isOrder 2 = .ok (.iconst 4, 1) := by decide +kernel
theorem dX12_isOrder_3 : decode cX12_isOrder 3 = .ok (.invokestatic 62, 3) := by decide +kernel
theorem dX12_isOrder_6 : decode cX12_isOrder 6 = .ok (.ifCond .eq 28, 3) := by decide +kernel
theorem dX12_isOrder_9 : decode cX12_isOrder 9 = .ok (.aload_n 0, 1) := by decide +kernel
theorem dX12_isOrder_10 : decode cX12_isOrder 10 = .ok (.iload_n 2, 1) := by decide +kernel
theorem dX12_isOrder_11 : decode cX12_isOrder 11 = .ok (.invokevirtual 321, 3) := by decide +kernel
theorem dX12_isOrder_14 : decode cX12_isOrder 14 = .ok (.ifCond .eq 20, 3) := by decide +kernel
theorem dX12_isOrder_17 : decode cX12_isOrder 17 = .ok (.aload_n 0, 1) := by decide +kernel
theorem dX12_isOrder_18 : decode cX12_isOrder 18 = .ok (.iload_n 3, 1) := by decide +kernel
theorem dX12_isOrder_19 : decode cX12_isOrder 19 = .ok (.invokevirtual 321, 3) := by decide +kernel
theorem dX12_isOrder_22 : decode cX12_isOrder 22 = .ok (.ifCond .eq 12, 3) := by decide +kernel
theorem dX12_isOrder_25 : decode cX12_isOrder 25 = .ok (.iload_n 2, 1) := by decide +kernel
theorem dX12_isOrder_26 : decode cX12_isOrder 26 = .ok (.iload_n 3, 1) := by decide +kernel
theorem dX12_isOrder_27 : decode cX12_isOrder 27 = .ok (.if_icmp .eq 7, 3) := by decide +kernel
theorem dX12_isOrder_30 : decode cX12_isOrder 30 = .ok (.iconst 1, 1) := by decide +kernel
theorem dX12_isOrder_31 : decode cX12_isOrder 31 = .ok (.goto 4, 3) := by decide +kernel
theorem dX12_isOrder_34 : decode cX12_isOrder 34 = .ok (.iconst 0, 1) := by decide +kernel
theorem dX12_isOrder_35 : decode cX12_isOrder 35 = .ok (.ireturn, 1) := by decide +kernel
theorem dX12_refusesOrder_0 : decode cX12_refusesOrder 0 = .ok (.aload_n 0, 1) := by decide +kernel
theorem dX12_refusesOrder_1 : decode cX12_refusesOrder 1 = .ok (.iload_n 1, 1) := by decide +kernel
theorem dX12_refusesOrder_2 : decode cX12_refusesOrder 2 = .ok (.iload_n 2, 1) := by decide +kernel
theorem dX12_refusesOrder_3 : decode cX12_refusesOrder 3 = .ok (.iload_n 3, 1) := by decide +kernel
theorem dX12_refusesOrder_4 : decode cX12_refusesOrder 4 = .ok (.invokevirtual 397, 3) := by decide +kernel
theorem dX12_refusesOrder_7 : decode cX12_refusesOrder 7 = .ok (.ifCond .ne 5, 3) := by decide +kernel
theorem dX12_refusesOrder_10 : decode cX12_refusesOrder 10 = .ok (.iconst (-1), 1) := by decide +kernel
theorem dX12_refusesOrder_11 : decode cX12_refusesOrder 11 = .ok (.ireturn, 1) := by decide +kernel
theorem dX12_refusesOrder_12 : decode cX12_refusesOrder 12 = .ok (.iconst 0, 1) := by decide +kernel
theorem dX12_refusesOrder_13 : decode cX12_refusesOrder 13 = .ok (.istore 4, 2) := by decide +kernel
theorem dX12_refusesOrder_15 : decode cX12_refusesOrder 15 = .ok (.iload 4, 2) := by decide +kernel
theorem dX12_refusesOrder_17 : decode cX12_refusesOrder 17 = .ok (.aload_n 0, 1) := by decide +kernel
theorem dX12_refusesOrder_18 : decode cX12_refusesOrder 18 = .ok (.getfield 9, 3) := by decide +kernel
theorem dX12_refusesOrder_21 : decode cX12_refusesOrder 21 = .ok (.iconst 1, 1) := by decide +kernel
theorem dX12_refusesOrder_22 : decode cX12_refusesOrder 22 = .ok (.iaload, 1) := by decide +kernel
theorem dX12_refusesOrder_23 : decode cX12_refusesOrder 23 = .ok (.if_icmp .ge 67, 3) := by decide +kernel
theorem dX12_refusesOrder_26 : decode cX12_refusesOrder 26 = .ok (.aload_n 0, 1) := by decide +kernel
theorem dX12_refusesOrder_27 : decode cX12_refusesOrder 27 = .ok (.getfield 9, 3) := by decide +kernel
theorem dX12_refusesOrder_30 : decode cX12_refusesOrder 30 = .ok (.sipush 188, 3) := by decide +kernel
theorem dX12_refusesOrder_33 : decode cX12_refusesOrder 33 = .ok (.iconst 3, 1) := by decide +kernel
theorem dX12_refusesOrder_34 : decode cX12_refusesOrder 34 = .ok (.iload 4, 2) := by decide +kernel
theorem dX12_refusesOrder_36 : decode cX12_refusesOrder 36 = .ok (.imul, 1) := by decide +kernel
theorem dX12_refusesOrder_37 : decode cX12_refusesOrder 37 = .ok (.iadd, 1) := by decide +kernel
theorem dX12_refusesOrder_38 : decode cX12_refusesOrder 38 = .ok (.iaload, 1) := by decide +kernel
theorem dX12_refusesOrder_39 : decode cX12_refusesOrder 39 = .ok (.iload_n 1, 1) := by decide +kernel
theorem dX12_refusesOrder_40 : decode cX12_refusesOrder 40 = .ok (.if_icmp .ne 44, 3) := by decide +kernel
theorem dX12_refusesOrder_43 : decode cX12_refusesOrder 43 = .ok (.aload_n 0, 1) := by decide +kernel
theorem dX12_refusesOrder_44 : decode cX12_refusesOrder 44 = .ok (.getfield 9, 3) := by decide +kernel
theorem dX12_refusesOrder_47 : decode cX12_refusesOrder 47 = .ok (.sipush 188, 3) := by decide +kernel
theorem dX12_refusesOrder_50 : decode cX12_refusesOrder 50 = .ok (.iconst 3, 1) := by decide +kernel
theorem dX12_refusesOrder_51 : decode cX12_refusesOrder 51 = .ok (.iload 4, 2) := by decide +kernel
theorem dX12_refusesOrder_53 : decode cX12_refusesOrder 53 = .ok (.imul, 1) := by decide +kernel
theorem dX12_refusesOrder_54 : decode cX12_refusesOrder 54 = .ok (.iadd, 1) := by decide +kernel
theorem dX12_refusesOrder_55 : decode cX12_refusesOrder 55 = .ok (.iconst 1, 1) := by decide +kernel
theorem dX12_refusesOrder_56 : decode cX12_refusesOrder 56 = .ok (.iadd, 1) := by decide +kernel
theorem dX12_refusesOrder_57 : decode cX12_refusesOrder 57 = .ok (.iaload, 1) := by decide +kernel
theorem dX12_refusesOrder_58 : decode cX12_refusesOrder 58 = .ok (.iload_n 2, 1) := by decide +kernel
theorem dX12_refusesOrder_59 : decode cX12_refusesOrder 59 = .ok (.if_icmp .ne 25, 3) := by decide +kernel
theorem dX12_refusesOrder_62 : decode cX12_refusesOrder 62 = .ok (.aload_n 0, 1) := by decide +kernel
theorem dX12_refusesOrder_63 : decode cX12_refusesOrder 63 = .ok (.getfield 9, 3) := by decide +kernel
theorem dX12_refusesOrder_66 : decode cX12_refusesOrder 66 = .ok (.sipush 188, 3) := by decide +kernel
theorem dX12_refusesOrder_69 : decode cX12_refusesOrder 69 = .ok (.iconst 3, 1) := by decide +kernel
theorem dX12_refusesOrder_70 : decode cX12_refusesOrder 70 = .ok (.iload 4, 2) := by decide +kernel
theorem dX12_refusesOrder_72 : decode cX12_refusesOrder 72 = .ok (.imul, 1) := by decide +kernel
theorem dX12_refusesOrder_73 : decode cX12_refusesOrder 73 = .ok (.iadd, 1) := by decide +kernel
theorem dX12_refusesOrder_74 : decode cX12_refusesOrder 74 = .ok (.iconst 2, 1) := by decide +kernel
theorem dX12_refusesOrder_75 : decode cX12_refusesOrder 75 = .ok (.iadd, 1) := by decide +kernel
theorem dX12_refusesOrder_76 : decode cX12_refusesOrder 76 = .ok (.iaload, 1) := by decide +kernel
theorem dX12_refusesOrder_77 : decode cX12_refusesOrder 77 = .ok (.iload_n 3, 1) := by decide +kernel
theorem dX12_refusesOrder_78 : decode cX12_refusesOrder 78 = .ok (.if_icmp .ne 6, 3) := by decide +kernel
theorem dX12_refusesOrder_81 : decode cX12_refusesOrder 81 = .ok (.bipush (-2), 2) := by decide +kernel
theorem dX12_refusesOrder_83 : decode cX12_refusesOrder 83 = .ok (.ireturn, 1) := by decide +kernel
theorem dX12_refusesOrder_84 : decode cX12_refusesOrder 84 = .ok (.iinc 4 1, 3) := by decide +kernel
theorem dX12_refusesOrder_87 : decode cX12_refusesOrder 87 = .ok (.goto (-72), 3) := by decide +kernel
theorem dX12_refusesOrder_90 : decode cX12_refusesOrder 90 = .ok (.aload_n 0, 1) := by decide +kernel
theorem dX12_refusesOrder_91 : decode cX12_refusesOrder 91 = .ok (.getfield 9, 3) := by decide +kernel
theorem dX12_refusesOrder_94 : decode cX12_refusesOrder 94 = .ok (.iconst 1, 1) := by decide +kernel
theorem dX12_refusesOrder_95 : decode cX12_refusesOrder 95 = .ok (.iaload, 1) := by decide +kernel
theorem dX12_refusesOrder_96 : decode cX12_refusesOrder 96 = .ok (.bipush 10, 2) := by decide +kernel
theorem dX12_refusesOrder_98 : decode cX12_refusesOrder 98 = .ok (.if_icmp .ne 8, 3) := by decide +kernel
theorem dX12_refusesOrder_101 : decode cX12_refusesOrder 101 = .ok (.bipush (-3), 2) := by decide +kernel
theorem dX12_refusesOrder_103 : decode cX12_refusesOrder 103 = .ok (.goto 4, 3) := by decide +kernel
theorem dX12_refusesOrder_106 : decode cX12_refusesOrder 106 = .ok (.iconst 0, 1) := by decide +kernel
theorem dX12_refusesOrder_107 : decode cX12_refusesOrder 107 = .ok (.ireturn, 1) := by decide +kernel
theorem dX12_goOrder_0 : decode cX12_goOrder 0 = .ok (.sipush 188, 3) := by decide +kernel
theorem dX12_goOrder_3 : decode cX12_goOrder 3 = .ok (.iconst 3, 1) := by decide +kernel
theorem dX12_goOrder_4 : decode cX12_goOrder 4 = .ok (.aload_n 0, 1) := by decide +kernel
theorem dX12_goOrder_5 : decode cX12_goOrder 5 = .ok (.getfield 9, 3) := by decide +kernel
theorem dX12_goOrder_8 : decode cX12_goOrder 8 = .ok (.iconst 1, 1) := by decide +kernel
theorem dX12_goOrder_9 : decode cX12_goOrder 9 = .ok (.iaload, 1) := by decide +kernel
theorem dX12_goOrder_10 : decode cX12_goOrder 10 = .ok (.imul, 1) := by decide +kernel
theorem dX12_goOrder_11 : decode cX12_goOrder 11 = .ok (.iadd, 1) := by decide +kernel
theorem dX12_goOrder_12 : decode cX12_goOrder 12 = .ok (.istore 4, 2) := by decide +kernel
theorem dX12_goOrder_14 : decode cX12_goOrder 14 = .ok (.aload_n 0, 1) := by decide +kernel
theorem dX12_goOrder_15 : decode cX12_goOrder 15 = .ok (.getfield 9, 3) := by decide +kernel
theorem dX12_goOrder_18 : decode cX12_goOrder 18 = .ok (.iload 4, 2) := by decide +kernel
theorem dX12_goOrder_20 : decode cX12_goOrder 20 = .ok (.iload_n 1, 1) := by decide +kernel
theorem dX12_goOrder_21 : decode cX12_goOrder 21 = .ok (.iastore, 1) := by decide +kernel
theorem dX12_goOrder_22 : decode cX12_goOrder 22 = .ok (.aload_n 0, 1) := by decide +kernel
theorem dX12_goOrder_23 : decode cX12_goOrder 23 = .ok (.getfield 9, 3) := by decide +kernel
theorem dX12_goOrder_26 : decode cX12_goOrder 26 = .ok (.iload 4, 2) := by decide +kernel
theorem dX12_goOrder_28 : decode cX12_goOrder 28 = .ok (.iconst 1, 1) := by decide +kernel
theorem dX12_goOrder_29 : decode cX12_goOrder 29 = .ok (.iadd, 1) := by decide +kernel
theorem dX12_goOrder_30 : decode cX12_goOrder 30 = .ok (.iload_n 2, 1) := by decide +kernel
theorem dX12_goOrder_31 : decode cX12_goOrder 31 = .ok (.iastore, 1) := by decide +kernel
theorem dX12_goOrder_32 : decode cX12_goOrder 32 = .ok (.aload_n 0, 1) := by decide +kernel
theorem dX12_goOrder_33 : decode cX12_goOrder 33 = .ok (.getfield 9, 3) := by decide +kernel
theorem dX12_goOrder_36 : decode cX12_goOrder 36 = .ok (.iload 4, 2) := by decide +kernel
theorem dX12_goOrder_38 : decode cX12_goOrder 38 = .ok (.iconst 2, 1) := by decide +kernel
theorem dX12_goOrder_39 : decode cX12_goOrder 39 = .ok (.iadd, 1) := by decide +kernel
theorem dX12_goOrder_40 : decode cX12_goOrder 40 = .ok (.iload_n 3, 1) := by decide +kernel
theorem dX12_goOrder_41 : decode cX12_goOrder 41 = .ok (.iastore, 1) := by decide +kernel
theorem dX12_goOrder_42 : decode cX12_goOrder 42 = .ok (.aload_n 0, 1) := by decide +kernel
theorem dX12_goOrder_43 : decode cX12_goOrder 43 = .ok (.getfield 9, 3) := by decide +kernel
theorem dX12_goOrder_46 : decode cX12_goOrder 46 = .ok (.iconst 1, 1) := by decide +kernel
theorem dX12_goOrder_47 : decode cX12_goOrder 47 = .ok (.dup2, 1) := by decide +kernel
theorem dX12_goOrder_48 : decode cX12_goOrder 48 = .ok (.iaload, 1) := by decide +kernel
theorem dX12_goOrder_49 : decode cX12_goOrder 49 = .ok (.iconst 1, 1) := by decide +kernel
theorem dX12_goOrder_50 : decode cX12_goOrder 50 = .ok (.iadd, 1) := by decide +kernel
theorem dX12_goOrder_51 : decode cX12_goOrder 51 = .ok (.iastore, 1) := by decide +kernel
theorem dX12_goOrder_52 : decode cX12_goOrder 52 = .ok (.return_, 1) := by decide +kernel
theorem dX12_order_0 : decode cX12_order 0 = .ok (.aload_n 0, 1) := by decide +kernel
theorem dX12_order_1 : decode cX12_order 1 = .ok (.iconst 0, 1) := by decide +kernel
theorem dX12_order_2 : decode cX12_order 2 = .ok (.putfield 55, 3) := by decide +kernel
theorem dX12_order_5 : decode cX12_order 5 = .ok (.aload_n 0, 1) := by decide +kernel
theorem dX12_order_6 : decode cX12_order 6 = .ok (.iload_n 1, 1) := by decide +kernel
theorem dX12_order_7 : decode cX12_order 7 = .ok (.iload_n 2, 1) := by decide +kernel
theorem dX12_order_8 : decode cX12_order 8 = .ok (.iload_n 3, 1) := by decide +kernel
theorem dX12_order_9 : decode cX12_order 9 = .ok (.invokevirtual 400, 3) := by decide +kernel
theorem dX12_order_12 : decode cX12_order 12 = .ok (.istore 4, 2) := by decide +kernel
theorem dX12_order_14 : decode cX12_order 14 = .ok (.iload 4, 2) := by decide +kernel
theorem dX12_order_16 : decode cX12_order 16 = .ok (.ifCond .ge 6, 3) := by decide +kernel
theorem dX12_order_19 : decode cX12_order 19 = .ok (.iload 4, 2) := by decide +kernel
theorem dX12_order_21 : decode cX12_order 21 = .ok (.ireturn, 1) := by decide +kernel
theorem dX12_order_22 : decode cX12_order 22 = .ok (.aload_n 0, 1) := by decide +kernel
theorem dX12_order_23 : decode cX12_order 23 = .ok (.invokevirtual 344, 3) := by decide +kernel
theorem dX12_order_26 : decode cX12_order 26 = .ok (.aload_n 0, 1) := by decide +kernel
theorem dX12_order_27 : decode cX12_order 27 = .ok (.iload_n 1, 1) := by decide +kernel
theorem dX12_order_28 : decode cX12_order 28 = .ok (.iload_n 2, 1) := by decide +kernel
theorem dX12_order_29 : decode cX12_order 29 = .ok (.iload_n 3, 1) := by decide +kernel
theorem dX12_order_30 : decode cX12_order 30 = .ok (.invokevirtual 403, 3) := by decide +kernel
theorem dX12_order_33 : decode cX12_order 33 = .ok (.aload_n 0, 1) := by decide +kernel
theorem dX12_order_34 : decode cX12_order 34 = .ok (.getfield 9, 3) := by decide +kernel
theorem dX12_order_37 : decode cX12_order 37 = .ok (.iconst 1, 1) := by decide +kernel
theorem dX12_order_38 : decode cX12_order 38 = .ok (.iaload, 1) := by decide +kernel
theorem dX12_order_39 : decode cX12_order 39 = .ok (.iconst 1, 1) := by decide +kernel
theorem dX12_order_40 : decode cX12_order 40 = .ok (.isub, 1) := by decide +kernel
theorem dX12_order_41 : decode cX12_order 41 = .ok (.ireturn, 1) := by decide +kernel
theorem dX12_told_0 : decode cX12_told 0 = .ok (.aload_n 0, 1) := by decide +kernel
theorem dX12_told_1 : decode cX12_told 1 = .ok (.iconst 0, 1) := by decide +kernel
theorem dX12_told_2 : decode cX12_told 2 = .ok (.putfield 55, 3) := by decide +kernel
theorem dX12_told_5 : decode cX12_told 5 = .ok (.iload_n 1, 1) := by decide +kernel
theorem dX12_told_6 : decode cX12_told 6 = .ok (.iconst 0, 1) := by decide +kernel
theorem dX12_told_7 : decode cX12_told 7 = .ok (.aload_n 0, 1) := by decide +kernel
theorem dX12_told_8 : decode cX12_told 8 = .ok (.getfield 9, 3) := by decide +kernel
theorem dX12_told_11 : decode cX12_told 11 = .ok (.iconst 1, 1) := by decide +kernel
theorem dX12_told_12 : decode cX12_told 12 = .ok (.iaload, 1) := by decide +kernel
theorem dX12_told_13 : decode cX12_told 13 = .ok (.iconst 1, 1) := by decide +kernel
theorem dX12_told_14 : decode cX12_told 14 = .ok (.isub, 1) := by decide +kernel
theorem dX12_told_15 : decode cX12_told 15 = .ok (.invokestatic 62, 3) := by decide +kernel
theorem dX12_told_18 : decode cX12_told 18 = .ok (.ifCond .ne 5, 3) := by decide +kernel
theorem dX12_told_21 : decode cX12_told 21 = .ok (.iconst (-1), 1) := by decide +kernel
theorem dX12_told_22 : decode cX12_told 22 = .ok (.ireturn, 1) := by decide +kernel
theorem dX12_told_23 : decode cX12_told 23 = .ok (.aload_n 0, 1) := by decide +kernel
theorem dX12_told_24 : decode cX12_told 24 = .ok (.getfield 9, 3) := by decide +kernel
theorem dX12_told_27 : decode cX12_told 27 = .ok (.sipush 188, 3) := by decide +kernel
theorem dX12_told_30 : decode cX12_told 30 = .ok (.iconst 3, 1) := by decide +kernel
theorem dX12_told_31 : decode cX12_told 31 = .ok (.iload_n 1, 1) := by decide +kernel
theorem dX12_told_32 : decode cX12_told 32 = .ok (.imul, 1) := by decide +kernel
theorem dX12_told_33 : decode cX12_told 33 = .ok (.iadd, 1) := by decide +kernel
theorem dX12_told_34 : decode cX12_told 34 = .ok (.iaload, 1) := by decide +kernel
theorem dX12_told_35 : decode cX12_told 35 = .ok (.istore_n 2, 1) := by decide +kernel
theorem dX12_told_36 : decode cX12_told 36 = .ok (.aload_n 0, 1) := by decide +kernel
theorem dX12_told_37 : decode cX12_told 37 = .ok (.getfield 9, 3) := by decide +kernel
theorem dX12_told_40 : decode cX12_told 40 = .ok (.sipush 188, 3) := by decide +kernel
theorem dX12_told_43 : decode cX12_told 43 = .ok (.iconst 3, 1) := by decide +kernel
theorem dX12_told_44 : decode cX12_told 44 = .ok (.iload_n 1, 1) := by decide +kernel
theorem dX12_told_45 : decode cX12_told 45 = .ok (.imul, 1) := by decide +kernel
theorem dX12_told_46 : decode cX12_told 46 = .ok (.iadd, 1) := by decide +kernel
theorem dX12_told_47 : decode cX12_told 47 = .ok (.iconst 1, 1) := by decide +kernel
theorem dX12_told_48 : decode cX12_told 48 = .ok (.iadd, 1) := by decide +kernel
theorem dX12_told_49 : decode cX12_told 49 = .ok (.iaload, 1) := by decide +kernel
theorem dX12_told_50 : decode cX12_told 50 = .ok (.istore_n 3, 1) := by decide +kernel
theorem dX12_told_51 : decode cX12_told 51 = .ok (.aload_n 0, 1) := by decide +kernel
theorem dX12_told_52 : decode cX12_told 52 = .ok (.getfield 9, 3) := by decide +kernel
theorem dX12_told_55 : decode cX12_told 55 = .ok (.sipush 188, 3) := by decide +kernel
theorem dX12_told_58 : decode cX12_told 58 = .ok (.iconst 3, 1) := by decide +kernel
theorem dX12_told_59 : decode cX12_told 59 = .ok (.iload_n 1, 1) := by decide +kernel
theorem dX12_told_60 : decode cX12_told 60 = .ok (.imul, 1) := by decide +kernel
theorem dX12_told_61 : decode cX12_told 61 = .ok (.iadd, 1) := by decide +kernel
theorem dX12_told_62 : decode cX12_told 62 = .ok (.iconst 2, 1) := by decide +kernel
theorem dX12_told_63 : decode cX12_told 63 = .ok (.iadd, 1) := by decide +kernel
theorem dX12_told_64 : decode cX12_told 64 = .ok (.iaload, 1) := by decide +kernel
theorem dX12_told_65 : decode cX12_told 65 = .ok (.istore 4, 2) := by decide +kernel
theorem dX12_told_67 : decode cX12_told 67 = .ok (.aload_n 0, 1) := by decide +kernel
theorem dX12_told_68 : decode cX12_told 68 = .ok (.invokevirtual 388, 3) := by decide +kernel
theorem dX12_told_71 : decode cX12_told 71 = .ok (.iconst 0, 1) := by decide +kernel
theorem dX12_told_72 : decode cX12_told 72 = .ok (.istore 5, 2) := by decide +kernel
theorem dX12_told_74 : decode cX12_told 74 = .ok (.aload_n 0, 1) := by decide +kernel
theorem dX12_told_75 : decode cX12_told 75 = .ok (.iload_n 3, 1) := by decide +kernel
theorem dX12_told_76 : decode cX12_told 76 = .ok (.iconst 0, 1) := by decide +kernel
theorem dX12_told_77 : decode cX12_told 77 = .ok (.invokevirtual 351, 3) := by decide +kernel
theorem dX12_told_80 : decode cX12_told 80 = .ok (.istore 6, 2) := by decide +kernel
theorem dX12_told_82 : decode cX12_told 82 = .ok (.iload 6, 2) := by decide +kernel
theorem dX12_told_84 : decode cX12_told 84 = .ok (.iconst (-1), 1) := by decide +kernel
theorem dX12_told_85 : decode cX12_told 85 = .ok (.if_icmp .eq 72, 3) := by decide +kernel
theorem dX12_told_88 : decode cX12_told 88 = .ok (.aload_n 0, 1) := by decide +kernel
theorem dX12_told_89 : decode cX12_told 89 = .ok (.iload 4, 2) := by decide +kernel
theorem dX12_told_91 : decode cX12_told 91 = .ok (.iconst 0, 1) := by decide +kernel
theorem dX12_told_92 : decode cX12_told 92 = .ok (.invokevirtual 351, 3) := by decide +kernel
theorem dX12_told_95 : decode cX12_told 95 = .ok (.istore 7, 2) := by decide +kernel
theorem dX12_told_97 : decode cX12_told 97 = .ok (.iload 7, 2) := by decide +kernel
theorem dX12_told_99 : decode cX12_told 99 = .ok (.iconst (-1), 1) := by decide +kernel
theorem dX12_told_100 : decode cX12_told 100 = .ok (.if_icmp .eq 43, 3) := by decide +kernel
theorem dX12_told_103 : decode cX12_told 103 = .ok (.iload 5, 2) := by decide +kernel
theorem dX12_told_105 : decode cX12_told 105 = .ok (.aload_n 0, 1) := by decide +kernel
theorem dX12_told_106 : decode cX12_told 106 = .ok (.iload_n 2, 1) := by decide +kernel
theorem dX12_told_107 : decode cX12_told 107 = .ok (.iload_n 3, 1) := by decide +kernel
theorem dX12_told_108 : decode cX12_told 108 = .ok (.iload 6, 2) := by decide +kernel
theorem dX12_told_110 : decode cX12_told 110 = .ok (.iload 4, 2) := by decide +kernel
theorem dX12_told_112 : decode cX12_told 112 = .ok (.iload 7, 2) := by decide +kernel
theorem dX12_told_114 : decode cX12_told 114 = .ok (.invokevirtual 347, 3) := by decide +kernel
theorem dX12_told_117 : decode cX12_told 117 = .ok (.ifCond .eq 7, 3) := by decide +kernel
theorem dX12_told_120 : decode cX12_told 120 = .ok (.iconst 1, 1) := by decide +kernel
theorem dX12_told_121 : decode cX12_told 121 = .ok (.goto 4, 3) := by decide +kernel
theorem dX12_told_124 : decode cX12_told 124 = .ok (.iconst 0, 1) := by decide +kernel
theorem dX12_told_125 : decode cX12_told 125 = .ok (.iadd, 1) := by decide +kernel
theorem dX12_told_126 : decode cX12_told 126 = .ok (.istore 5, 2) := by decide +kernel
theorem dX12_told_128 : decode cX12_told 128 = .ok (.aload_n 0, 1) := by decide +kernel
theorem dX12_told_129 : decode cX12_told 129 = .ok (.iload 4, 2) := by decide +kernel
theorem dX12_told_131 : decode cX12_told 131 = .ok (.iload 7, 2) := by decide +kernel
theorem dX12_told_133 : decode cX12_told 133 = .ok (.iconst 1, 1) := by decide +kernel
theorem dX12_told_134 : decode cX12_told 134 = .ok (.iadd, 1) := by decide +kernel
theorem dX12_told_135 : decode cX12_told 135 = .ok (.invokevirtual 351, 3) := by decide +kernel
theorem dX12_told_138 : decode cX12_told 138 = .ok (.istore 7, 2) := by decide +kernel
theorem dX12_told_140 : decode cX12_told 140 = .ok (.goto (-43), 3) := by decide +kernel
theorem dX12_told_143 : decode cX12_told 143 = .ok (.aload_n 0, 1) := by decide +kernel
theorem dX12_told_144 : decode cX12_told 144 = .ok (.iload_n 3, 1) := by decide +kernel
theorem dX12_told_145 : decode cX12_told 145 = .ok (.iload 6, 2) := by decide +kernel
theorem dX12_told_147 : decode cX12_told 147 = .ok (.iconst 1, 1) := by decide +kernel
theorem dX12_told_148 : decode cX12_told 148 = .ok (.iadd, 1) := by decide +kernel
theorem dX12_told_149 : decode cX12_told 149 = .ok (.invokevirtual 351, 3) := by decide +kernel
theorem dX12_told_152 : decode cX12_told 152 = .ok (.istore 6, 2) := by decide +kernel
theorem dX12_told_154 : decode cX12_told 154 = .ok (.goto (-72), 3) := by decide +kernel
theorem dX12_told_157 : decode cX12_told 157 = .ok (.aload_n 0, 1) := by decide +kernel
theorem dX12_told_158 : decode cX12_told 158 = .ok (.iconst 0, 1) := by decide +kernel
theorem dX12_told_159 : decode cX12_told 159 = .ok (.putfield 59, 3) := by decide +kernel
theorem dX12_told_162 : decode cX12_told 162 = .ok (.aload_n 0, 1) := by decide +kernel
theorem dX12_told_163 : decode cX12_told 163 = .ok (.aload_n 0, 1) := by decide +kernel
theorem dX12_told_164 : decode cX12_told 164 = .ok (.getfield 357, 3) := by decide +kernel
theorem dX12_told_167 : decode cX12_told 167 = .ok (.ifCond .ne 9, 3) := by decide +kernel
theorem dX12_told_170 : decode cX12_told 170 = .ok (.ldc2_w 406, 3) := by decide +kernel
theorem dX12_told_173 : decode cX12_told 173 = .ok (.goto 4, 3) := by decide +kernel
theorem dX12_told_176 : decode cX12_told 176 = .ok (.lconst 1, 1) := by decide +kernel
theorem dX12_told_177 : decode cX12_told 177 = .ok (.invokevirtual 91, 3) := by decide +kernel
theorem dX12_told_180 : decode cX12_told 180 = .ok (.aload_n 0, 1) := by decide +kernel
theorem dX12_told_181 : decode cX12_told 181 = .ok (.iload 5, 2) := by decide +kernel
theorem dX12_told_183 : decode cX12_told 183 = .ok (.i2l, 1) := by decide +kernel
theorem dX12_told_184 : decode cX12_told 184 = .ok (.invokevirtual 91, 3) := by decide +kernel
theorem dX12_told_187 : decode cX12_told 187 = .ok (.bipush 100, 2) := by decide +kernel
theorem dX12_told_189 : decode cX12_told 189 = .ok (.iload_n 2, 1) := by decide +kernel
theorem dX12_told_190 : decode cX12_told 190 = .ok (.imul, 1) := by decide +kernel
theorem dX12_told_191 : decode cX12_told 191 = .ok (.bipush 10, 2) := by decide +kernel
theorem dX12_told_193 : decode cX12_told 193 = .ok (.iload_n 3, 1) := by decide +kernel
theorem dX12_told_194 : decode cX12_told 194 = .ok (.imul, 1) := by decide +kernel
theorem dX12_told_195 : decode cX12_told 195 = .ok (.iadd, 1) := by decide +kernel
theorem dX12_told_196 : decode cX12_told 196 = .ok (.iload 4, 2) := by decide +kernel
theorem dX12_told_198 : decode cX12_told 198 = .ok (.iadd, 1) := by decide +kernel
theorem dX12_told_199 : decode cX12_told 199 = .ok (.ireturn, 1) := by decide +kernel
theorem dX12_choices_0 : decode cX12_choices 0 = .ok (.aload_n 0, 1) := by decide +kernel
theorem dX12_choices_1 : decode cX12_choices 1 = .ok (.iconst 0, 1) := by decide +kernel
theorem dX12_choices_2 : decode cX12_choices 2 = .ok (.putfield 55, 3) := by decide +kernel
theorem dX12_choices_5 : decode cX12_choices 5 = .ok (.aload_n 0, 1) := by decide +kernel
theorem dX12_choices_6 : decode cX12_choices 6 = .ok (.invokevirtual 388, 3) := by decide +kernel
theorem dX12_choices_9 : decode cX12_choices 9 = .ok (.aload_n 0, 1) := by decide +kernel
theorem dX12_choices_10 : decode cX12_choices 10 = .ok (.iconst 0, 1) := by decide +kernel
theorem dX12_choices_11 : decode cX12_choices 11 = .ok (.putfield 59, 3) := by decide +kernel
theorem dX12_choices_14 : decode cX12_choices 14 = .ok (.aload_n 0, 1) := by decide +kernel
theorem dX12_choices_15 : decode cX12_choices 15 = .ok (.aload_n 0, 1) := by decide +kernel
theorem dX12_choices_16 : decode cX12_choices 16 = .ok (.getfield 360, 3) := by decide +kernel
theorem dX12_choices_19 : decode cX12_choices 19 = .ok (.i2l, 1) := by decide +kernel
theorem dX12_choices_20 : decode cX12_choices 20 = .ok (.invokevirtual 91, 3) := by decide +kernel
theorem dX12_choices_23 : decode cX12_choices 23 = .ok (.aload_n 0, 1) := by decide +kernel
theorem dX12_choices_24 : decode cX12_choices 24 = .ok (.getfield 357, 3) := by decide +kernel
theorem dX12_choices_27 : decode cX12_choices 27 = .ok (.ireturn, 1) := by decide +kernel
theorem dX12_tellPicks_0 : decode cX12_tellPicks 0 = .ok (.aload_n 0, 1) := by decide +kernel
theorem dX12_tellPicks_1 : decode cX12_tellPicks 1 = .ok (.iconst 0, 1) := by decide +kernel
theorem dX12_tellPicks_2 : decode cX12_tellPicks 2 = .ok (.putfield 59, 3) := by decide +kernel
theorem dX12_tellPicks_5 : decode cX12_tellPicks 5 = .ok (.iconst 0, 1) := by decide +kernel
theorem dX12_tellPicks_6 : decode cX12_tellPicks 6 = .ok (.istore_n 2, 1) := by decide +kernel
theorem dX12_tellPicks_7 : decode cX12_tellPicks 7 = .ok (.iload_n 2, 1) := by decide +kernel
theorem dX12_tellPicks_8 : decode cX12_tellPicks 8 = .ok (.bipush 6, 2) := by decide +kernel
theorem dX12_tellPicks_10 : decode cX12_tellPicks 10 = .ok (.if_icmp .ge 17, 3) := by decide +kernel
theorem dX12_tellPicks_13 : decode cX12_tellPicks 13 = .ok (.aload_n 0, 1) := by decide +kernel
theorem dX12_tellPicks_14 : decode cX12_tellPicks 14 = .ok (.aload_n 1, 1) := by decide +kernel
theorem dX12_tellPicks_15 : decode cX12_tellPicks 15 = .ok (.iload_n 2, 1) := by decide +kernel
theorem dX12_tellPicks_16 : decode cX12_tellPicks 16 = .ok (.iaload, 1) := by decide +kernel
theorem dX12_tellPicks_17 : decode cX12_tellPicks 17 = .ok (.i2l, 1) := by decide +kernel
theorem dX12_tellPicks_18 : decode cX12_tellPicks 18 = .ok (.invokevirtual 91, 3) := by decide +kernel
theorem dX12_tellPicks_21 : decode cX12_tellPicks 21 = .ok (.iinc 2 1, 3) := by decide +kernel
theorem dX12_tellPicks_24 : decode cX12_tellPicks 24 = .ok (.goto (-17), 3) := by decide +kernel
theorem dX12_tellPicks_27 : decode cX12_tellPicks 27 = .ok (.return_, 1) := by decide +kernel
theorem dX12_best_0 : decode cX12_best 0 = .ok (.aload_n 0, 1) := by decide +kernel
theorem dX12_best_1 : decode cX12_best 1 = .ok (.iconst 0, 1) := by decide +kernel
theorem dX12_best_2 : decode cX12_best 2 = .ok (.putfield 55, 3) := by decide +kernel
theorem dX12_best_5 : decode cX12_best 5 = .ok (.aload_n 0, 1) := by decide +kernel
theorem dX12_best_6 : decode cX12_best 6 = .ok (.invokevirtual 388, 3) := by decide +kernel
theorem dX12_best_9 : decode cX12_best 9 = .ok (.aload_n 0, 1) := by decide +kernel
theorem dX12_best_10 : decode cX12_best 10 = .ok (.getfield 357, 3) := by decide +kernel
theorem dX12_best_13 : decode cX12_best 13 = .ok (.ifCond .ne 6, 3) := by decide +kernel
theorem dX12_best_16 : decode cX12_best 16 = .ok (.bipush (-2), 2) := by decide +kernel
theorem dX12_best_18 : decode cX12_best 18 = .ok (.ireturn, 1) := by decide +kernel
theorem dX12_best_19 : decode cX12_best 19 = .ok (.aload_n 0, 1) := by decide +kernel
theorem dX12_best_20 : decode cX12_best 20 = .ok (.aload_n 0, 1) := by decide +kernel
theorem dX12_best_21 : decode cX12_best 21 = .ok (.getfield 30, 3) := by decide +kernel
theorem dX12_best_24 : decode cX12_best 24 = .ok (.invokevirtual 408, 3) := by decide +kernel
theorem dX12_best_27 : decode cX12_best 27 = .ok (.aload_n 0, 1) := by decide +kernel
theorem dX12_best_28 : decode cX12_best 28 = .ok (.getfield 363, 3) := by decide +kernel
theorem dX12_best_31 : decode cX12_best 31 = .ok (.ireturn, 1) := by decide +kernel
theorem dX12_isOther_0 : decode cX12_isOther 0 = .ok (.iconst 0, 1) := by decide +kernel
theorem dX12_isOther_1 : decode cX12_isOther 1 = .ok (.istore_n 1, 1) := by decide +kernel
theorem dX12_isOther_2 : decode cX12_isOther 2 = .ok (.iload_n 1, 1) := by decide +kernel
theorem dX12_isOther_3 : decode cX12_isOther 3 = .ok (.bipush 6, 2) := by decide +kernel
theorem dX12_isOther_5 : decode cX12_isOther 5 = .ok (.if_icmp .ge 35, 3) := by decide +kernel
theorem dX12_isOther_8 : decode cX12_isOther 8 = .ok (.aload_n 0, 1) := by decide +kernel
theorem dX12_isOther_9 : decode cX12_isOther 9 = .ok (.iload_n 1, 1) := by decide +kernel
theorem dX12_isOther_10 : decode cX12_isOther 10 = .ok (.invokevirtual 385, 3) := by decide +kernel
theorem dX12_isOther_13 : decode cX12_isOther 13 = .ok (.iconst 1, 1) := by decide +kernel
theorem dX12_isOther_14 : decode cX12_isOther 14 = .ok (.if_icmp .le 20, 3) := by decide +kernel
theorem dX12_isOther_17 : decode cX12_isOther 17 = .ok (.aload_n 0, 1) := by decide +kernel
theorem dX12_isOther_18 : decode cX12_isOther 18 = .ok (.getfield 24, 3) := by decide +kernel
theorem dX12_isOther_21 : decode cX12_isOther 21 = .ok (.iload_n 1, 1) := by decide +kernel
theorem dX12_isOther_22 : decode cX12_isOther 22 = .ok (.iaload, 1) := by decide +kernel
theorem dX12_isOther_23 : decode cX12_isOther 23 = .ok (.aload_n 0, 1) := by decide +kernel
theorem dX12_isOther_24 : decode cX12_isOther 24 = .ok (.getfield 30, 3) := by decide +kernel
theorem dX12_isOther_27 : decode cX12_isOther 27 = .ok (.iload_n 1, 1) := by decide +kernel
theorem dX12_isOther_28 : decode cX12_isOther 28 = .ok (.iaload, 1) := by decide +kernel
theorem dX12_isOther_29 : decode cX12_isOther 29 = .ok (.if_icmp .ne 5, 3) := by decide +kernel
theorem dX12_isOther_32 : decode cX12_isOther 32 = .ok (.iconst 0, 1) := by decide +kernel
theorem dX12_isOther_33 : decode cX12_isOther 33 = .ok (.ireturn, 1) := by decide +kernel
theorem dX12_isOther_34 : decode cX12_isOther 34 = .ok (.iinc 1 1, 3) := by decide +kernel
theorem dX12_isOther_37 : decode cX12_isOther 37 = .ok (.goto (-35), 3) := by decide +kernel
theorem dX12_isOther_40 : decode cX12_isOther 40 = .ok (.iconst 1, 1) := by decide +kernel
theorem dX12_isOther_41 : decode cX12_isOther 41 = .ok (.ireturn, 1) := by decide +kernel
theorem dX12_isBest_0 : decode cX12_isBest 0 = .ok (.iconst 0, 1) := by decide +kernel
theorem dX12_isBest_1 : decode cX12_isBest 1 = .ok (.istore_n 1, 1) := by decide +kernel
theorem dX12_isBest_2 : decode cX12_isBest 2 = .ok (.iload_n 1, 1) := by decide +kernel
theorem dX12_isBest_3 : decode cX12_isBest 3 = .ok (.bipush 6, 2) := by decide +kernel
theorem dX12_isBest_5 : decode cX12_isBest 5 = .ok (.if_icmp .ge 26, 3) := by decide +kernel
theorem dX12_isBest_8 : decode cX12_isBest 8 = .ok (.aload_n 0, 1) := by decide +kernel
theorem dX12_isBest_9 : decode cX12_isBest 9 = .ok (.getfield 24, 3) := by decide +kernel
theorem dX12_isBest_12 : decode cX12_isBest 12 = .ok (.iload_n 1, 1) := by decide +kernel
theorem dX12_isBest_13 : decode cX12_isBest 13 = .ok (.iaload, 1) := by decide +kernel
theorem dX12_isBest_14 : decode cX12_isBest 14 = .ok (.aload_n 0, 1) := by decide +kernel
theorem dX12_isBest_15 : decode cX12_isBest 15 = .ok (.getfield 30, 3) := by decide +kernel
theorem dX12_isBest_18 : decode cX12_isBest 18 = .ok (.iload_n 1, 1) := by decide +kernel
theorem dX12_isBest_19 : decode cX12_isBest 19 = .ok (.iaload, 1) := by decide +kernel
theorem dX12_isBest_20 : decode cX12_isBest 20 = .ok (.if_icmp .eq 5, 3) := by decide +kernel
theorem dX12_isBest_23 : decode cX12_isBest 23 = .ok (.iconst 0, 1) := by decide +kernel
theorem dX12_isBest_24 : decode cX12_isBest 24 = .ok (.ireturn, 1) := by decide +kernel
theorem dX12_isBest_25 : decode cX12_isBest 25 = .ok (.iinc 1 1, 3) := by decide +kernel
theorem dX12_isBest_28 : decode cX12_isBest 28 = .ok (.goto (-26), 3) := by decide +kernel
theorem dX12_isBest_31 : decode cX12_isBest 31 = .ok (.iconst 1, 1) := by decide +kernel
theorem dX12_isBest_32 : decode cX12_isBest 32 = .ok (.ireturn, 1) := by decide +kernel
theorem dX12_other_0 : decode cX12_other 0 = .ok (.aload_n 0, 1) := by decide +kernel
theorem dX12_other_1 : decode cX12_other 1 = .ok (.iconst 0, 1) := by decide +kernel
theorem dX12_other_2 : decode cX12_other 2 = .ok (.putfield 55, 3) := by decide +kernel
theorem dX12_other_5 : decode cX12_other 5 = .ok (.aload_n 0, 1) := by decide +kernel
theorem dX12_other_6 : decode cX12_other 6 = .ok (.invokevirtual 388, 3) := by decide +kernel
theorem dX12_other_9 : decode cX12_other 9 = .ok (.aload_n 0, 1) := by decide +kernel
theorem dX12_other_10 : decode cX12_other 10 = .ok (.getfield 357, 3) := by decide +kernel
theorem dX12_other_13 : decode cX12_other 13 = .ok (.ifCond .ne 6, 3) := by decide +kernel
theorem dX12_other_16 : decode cX12_other 16 = .ok (.bipush (-2), 2) := by decide +kernel
theorem dX12_other_18 : decode cX12_other 18 = .ok (.ireturn, 1) := by decide +kernel
theorem dX12_other_19 : decode cX12_other 19 = .ok (.iconst (-1), 1) := by decide +kernel
theorem dX12_other_20 : decode cX12_other 20 = .ok (.istore_n 1, 1) := by decide +kernel
theorem dX12_other_21 : decode cX12_other 21 = .ok (.aload_n 0, 1) := by decide +kernel
theorem dX12_other_22 : decode cX12_other 22 = .ok (.invokevirtual 366, 3) := by decide +kernel
theorem dX12_other_25 : decode cX12_other 25 = .ok (.istore_n 2, 1) := by decide +kernel
theorem dX12_other_26 : decode cX12_other 26 = .ok (.iload_n 2, 1) := by decide +kernel
theorem dX12_other_27 : decode cX12_other 27 = .ok (.ifCond .eq 71, 3) := by decide +kernel
theorem dX12_other_30 : decode cX12_other 30 = .ok (.aload_n 0, 1) := by decide +kernel
theorem dX12_other_31 : decode cX12_other 31 = .ok (.invokevirtual 369, 3) := by decide +kernel
theorem dX12_other_34 : decode cX12_other 34 = .ok (.ifCond .ne 56, 3) := by decide +kernel
theorem dX12_other_37 : decode cX12_other 37 = .ok (.aload_n 0, 1) := by decide +kernel
theorem dX12_other_38 : decode cX12_other 38 = .ok (.invokevirtual 412, 3) := by decide +kernel
theorem dX12_other_41 : decode cX12_other 41 = .ok (.ifCond .ne 49, 3) := by decide +kernel
theorem dX12_other_44 : decode cX12_other 44 = .ok (.aload_n 0, 1) := by decide +kernel
theorem dX12_other_45 : decode cX12_other 45 = .ok (.invokevirtual 415, 3) := by decide +kernel
theorem dX12_other_48 : decode cX12_other 48 = .ok (.ifCond .eq 42, 3) := by decide +kernel
theorem dX12_other_51 : decode cX12_other 51 = .ok (.aload_n 0, 1) := by decide +kernel
theorem dX12_other_52 : decode cX12_other 52 = .ok (.invokevirtual 378, 3) := by decide +kernel
theorem dX12_other_55 : decode cX12_other 55 = .ok (.iload_n 1, 1) := by decide +kernel
theorem dX12_other_56 : decode cX12_other 56 = .ok (.if_icmp .le 34, 3) := by decide +kernel
theorem dX12_other_59 : decode cX12_other 59 = .ok (.aload_n 0, 1) := by decide +kernel
theorem dX12_other_60 : decode cX12_other 60 = .ok (.invokevirtual 378, 3) := by decide +kernel
theorem dX12_other_63 : decode cX12_other 63 = .ok (.istore_n 1, 1) := by decide +kernel
theorem dX12_other_64 : decode cX12_other 64 = .ok (.iconst 0, 1) := by decide +kernel
theorem dX12_other_65 : decode cX12_other 65 = .ok (.istore_n 3, 1) := by decide +kernel
theorem dX12_other_66 : decode cX12_other 66 = .ok (.iload_n 3, 1) := by decide +kernel
theorem dX12_other_67 : decode cX12_other 67 = .ok (.bipush 6, 2) := by decide +kernel
theorem dX12_other_69 : decode cX12_other 69 = .ok (.if_icmp .ge 21, 3) := by decide +kernel
theorem dX12_other_72 : decode cX12_other 72 = .ok (.aload_n 0, 1) := by decide +kernel
theorem dX12_other_73 : decode cX12_other 73 = .ok (.getfield 33, 3) := by decide +kernel
theorem dX12_other_76 : decode cX12_other 76 = .ok (.iload_n 3, 1) := by decide +kernel
theorem dX12_other_77 : decode cX12_other 77 = .ok (.aload_n 0, 1) := by decide +kernel
theorem dX12_other_78 : decode cX12_other 78 = .ok (.getfield 24, 3) := by decide +kernel
theorem dX12_other_81 : decode cX12_other 81 = .ok (.iload_n 3, 1) := by decide +kernel
theorem dX12_other_82 : decode cX12_other 82 = .ok (.iaload, 1) := by decide +kernel
theorem dX12_other_83 : decode cX12_other 83 = .ok (.iastore, 1) := by decide +kernel
theorem dX12_other_84 : decode cX12_other 84 = .ok (.iinc 3 1, 3) := by decide +kernel
theorem dX12_other_87 : decode cX12_other 87 = .ok (.goto (-21), 3) := by decide +kernel
theorem dX12_other_90 : decode cX12_other 90 = .ok (.aload_n 0, 1) := by decide +kernel
theorem dX12_other_91 : decode cX12_other 91 = .ok (.invokevirtual 375, 3) := by decide +kernel
theorem dX12_other_94 : decode cX12_other 94 = .ok (.istore_n 2, 1) := by decide +kernel
theorem dX12_other_95 : decode cX12_other 95 = .ok (.goto (-69), 3) := by decide +kernel
theorem dX12_other_98 : decode cX12_other 98 = .ok (.iload_n 1, 1) := by decide +kernel
theorem dX12_other_99 : decode cX12_other 99 = .ok (.iconst (-1), 1) := by decide +kernel
theorem dX12_other_100 : decode cX12_other 100 = .ok (.if_icmp .ne 6, 3) := by decide +kernel
theorem dX12_other_103 : decode cX12_other 103 = .ok (.bipush (-2), 2) := by decide +kernel
theorem dX12_other_105 : decode cX12_other 105 = .ok (.ireturn, 1) := by decide +kernel
theorem dX12_other_106 : decode cX12_other 106 = .ok (.aload_n 0, 1) := by decide +kernel
theorem dX12_other_107 : decode cX12_other 107 = .ok (.aload_n 0, 1) := by decide +kernel
theorem dX12_other_108 : decode cX12_other 108 = .ok (.getfield 33, 3) := by decide +kernel
theorem dX12_other_111 : decode cX12_other 111 = .ok (.invokevirtual 408, 3) := by decide +kernel
theorem dX12_other_114 : decode cX12_other 114 = .ok (.iload_n 1, 1) := by decide +kernel
theorem dX12_other_115 : decode cX12_other 115 = .ok (.ireturn, 1) := by decide +kernel
theorem dX12_conflict_0 : decode cX12_conflict 0 = .ok (.aload_n 0, 1) := by decide +kernel
theorem dX12_conflict_1 : decode cX12_conflict 1 = .ok (.iconst 0, 1) := by decide +kernel
theorem dX12_conflict_2 : decode cX12_conflict 2 = .ok (.putfield 55, 3) := by decide +kernel
theorem dX12_conflict_5 : decode cX12_conflict 5 = .ok (.aload_n 0, 1) := by decide +kernel
theorem dX12_conflict_6 : decode cX12_conflict 6 = .ok (.invokevirtual 388, 3) := by decide +kernel
theorem dX12_conflict_9 : decode cX12_conflict 9 = .ok (.aload_n 0, 1) := by decide +kernel
theorem dX12_conflict_10 : decode cX12_conflict 10 = .ok (.getfield 357, 3) := by decide +kernel
theorem dX12_conflict_13 : decode cX12_conflict 13 = .ok (.ifCond .le 6, 3) := by decide +kernel
theorem dX12_conflict_16 : decode cX12_conflict 16 = .ok (.bipush (-2), 2) := by decide +kernel
theorem dX12_conflict_18 : decode cX12_conflict 18 = .ok (.ireturn, 1) := by decide +kernel
theorem dX12_conflict_19 : decode cX12_conflict 19 = .ok (.iconst (-1), 1) := by decide +kernel
theorem dX12_conflict_20 : decode cX12_conflict 20 = .ok (.istore_n 1, 1) := by decide +kernel
theorem dX12_conflict_21 : decode cX12_conflict 21 = .ok (.aload_n 0, 1) := by decide +kernel
theorem dX12_conflict_22 : decode cX12_conflict 22 = .ok (.invokevirtual 366, 3) := by decide +kernel
theorem dX12_conflict_25 : decode cX12_conflict 25 = .ok (.istore_n 2, 1) := by decide +kernel
theorem dX12_conflict_26 : decode cX12_conflict 26 = .ok (.iload_n 2, 1) := by decide +kernel
theorem dX12_conflict_27 : decode cX12_conflict 27 = .ok (.ifCond .eq 50, 3) := by decide +kernel
theorem dX12_conflict_30 : decode cX12_conflict 30 = .ok (.aload_n 0, 1) := by decide +kernel
theorem dX12_conflict_31 : decode cX12_conflict 31 = .ok (.invokevirtual 369, 3) := by decide +kernel
theorem dX12_conflict_34 : decode cX12_conflict 34 = .ok (.istore_n 3, 1) := by decide +kernel
theorem dX12_conflict_35 : decode cX12_conflict 35 = .ok (.iload_n 1, 1) := by decide +kernel
theorem dX12_conflict_36 : decode cX12_conflict 36 = .ok (.iconst (-1), 1) := by decide +kernel
theorem dX12_conflict_37 : decode cX12_conflict 37 = .ok (.if_icmp .eq 30, 3) := by decide +kernel
theorem dX12_conflict_40 : decode cX12_conflict 40 = .ok (.iload_n 3, 1) := by decide +kernel
theorem dX12_conflict_41 : decode cX12_conflict 41 = .ok (.invokestatic 418, 3) := by decide +kernel
theorem dX12_conflict_44 : decode cX12_conflict 44 = .ok (.iload_n 1, 1) := by decide +kernel
theorem dX12_conflict_45 : decode cX12_conflict 45 = .ok (.invokestatic 418, 3) := by decide +kernel
theorem dX12_conflict_48 : decode cX12_conflict 48 = .ok (.if_icmp .lt 19, 3) := by decide +kernel
theorem dX12_conflict_51 : decode cX12_conflict 51 = .ok (.iload_n 3, 1) := by decide +kernel
theorem dX12_conflict_52 : decode cX12_conflict 52 = .ok (.invokestatic 418, 3) := by decide +kernel
theorem dX12_conflict_55 : decode cX12_conflict 55 = .ok (.iload_n 1, 1) := by decide +kernel
theorem dX12_conflict_56 : decode cX12_conflict 56 = .ok (.invokestatic 418, 3) := by decide +kernel
theorem dX12_conflict_59 : decode cX12_conflict 59 = .ok (.if_icmp .ne 10, 3) := by decide +kernel
theorem dX12_conflict_62 : decode cX12_conflict 62 = .ok (.iload_n 3, 1) := by decide +kernel
theorem dX12_conflict_63 : decode cX12_conflict 63 = .ok (.iload_n 1, 1) := by decide +kernel
theorem dX12_conflict_64 : decode cX12_conflict 64 = .ok (.if_icmp .ge 5, 3) := by decide +kernel
theorem dX12_conflict_67 : decode cX12_conflict 67 = .ok (.iload_n 3, 1) := by decide +kernel
theorem dX12_conflict_68 : decode cX12_conflict 68 = .ok (.istore_n 1, 1) := by decide +kernel
theorem dX12_conflict_69 : decode cX12_conflict 69 = .ok (.aload_n 0, 1) := by decide +kernel
theorem dX12_conflict_70 : decode cX12_conflict 70 = .ok (.invokevirtual 375, 3) := by decide +kernel
theorem dX12_conflict_73 : decode cX12_conflict 73 = .ok (.istore_n 2, 1) := by decide +kernel
theorem dX12_conflict_74 : decode cX12_conflict 74 = .ok (.goto (-48), 3) := by decide +kernel
theorem dX12_conflict_77 : decode cX12_conflict 77 = .ok (.iload_n 1, 1) := by decide +kernel
theorem dX12_conflict_78 : decode cX12_conflict 78 = .ok (.iconst (-1), 1) := by decide +kernel
theorem dX12_conflict_79 : decode cX12_conflict 79 = .ok (.if_icmp .ne 6, 3) := by decide +kernel
theorem dX12_conflict_82 : decode cX12_conflict 82 = .ok (.bipush (-3), 2) := by decide +kernel
theorem dX12_conflict_84 : decode cX12_conflict 84 = .ok (.ireturn, 1) := by decide +kernel
theorem dX12_conflict_85 : decode cX12_conflict 85 = .ok (.iconst 0, 1) := by decide +kernel
theorem dX12_conflict_86 : decode cX12_conflict 86 = .ok (.istore_n 3, 1) := by decide +kernel
theorem dX12_conflict_87 : decode cX12_conflict 87 = .ok (.aload_n 0, 1) := by decide +kernel
theorem dX12_conflict_88 : decode cX12_conflict 88 = .ok (.invokevirtual 366, 3) := by decide +kernel
theorem dX12_conflict_91 : decode cX12_conflict 91 = .ok (.istore_n 2, 1) := by decide +kernel
theorem dX12_conflict_92 : decode cX12_conflict 92 = .ok (.iload_n 2, 1) := by decide +kernel
theorem dX12_conflict_93 : decode cX12_conflict 93 = .ok (.ifCond .eq 30, 3) := by decide +kernel
theorem dX12_conflict_96 : decode cX12_conflict 96 = .ok (.iload_n 3, 1) := by decide +kernel
theorem dX12_conflict_97 : decode cX12_conflict 97 = .ok (.aload_n 0, 1) := by decide +kernel
theorem dX12_conflict_98 : decode cX12_conflict 98 = .ok (.invokevirtual 369, 3) := by decide +kernel
theorem dX12_conflict_101 : decode cX12_conflict 101 = .ok (.iload_n 1, 1) := by decide +kernel
theorem dX12_conflict_102 : decode cX12_conflict 102 = .ok (.iconst (-1), 1) := by decide +kernel
theorem dX12_conflict_103 : decode cX12_conflict 103 = .ok (.ixor, 1) := by decide +kernel
theorem dX12_conflict_104 : decode cX12_conflict 104 = .ok (.iand, 1) := by decide +kernel
theorem dX12_conflict_105 : decode cX12_conflict 105 = .ok (.ifCond .ne 7, 3) := by decide +kernel
theorem dX12_conflict_108 : decode cX12_conflict 108 = .ok (.iconst 1, 1) := by decide +kernel
theorem dX12_conflict_109 : decode cX12_conflict 109 = .ok (.goto 4, 3) := by decide +kernel
theorem dX12_conflict_112 : decode cX12_conflict 112 = .ok (.iconst 0, 1) := by decide +kernel
theorem dX12_conflict_113 : decode cX12_conflict 113 = .ok (.iadd, 1) := by decide +kernel
theorem dX12_conflict_114 : decode cX12_conflict 114 = .ok (.istore_n 3, 1) := by decide +kernel
theorem dX12_conflict_115 : decode cX12_conflict 115 = .ok (.aload_n 0, 1) := by decide +kernel
theorem dX12_conflict_116 : decode cX12_conflict 116 = .ok (.invokevirtual 375, 3) := by decide +kernel
theorem dX12_conflict_119 : decode cX12_conflict 119 = .ok (.istore_n 2, 1) := by decide +kernel
theorem dX12_conflict_120 : decode cX12_conflict 120 = .ok (.goto (-28), 3) := by decide +kernel
theorem dX12_conflict_123 : decode cX12_conflict 123 = .ok (.aload_n 0, 1) := by decide +kernel
theorem dX12_conflict_124 : decode cX12_conflict 124 = .ok (.iconst 0, 1) := by decide +kernel
theorem dX12_conflict_125 : decode cX12_conflict 125 = .ok (.putfield 59, 3) := by decide +kernel
theorem dX12_conflict_128 : decode cX12_conflict 128 = .ok (.aload_n 0, 1) := by decide +kernel
theorem dX12_conflict_129 : decode cX12_conflict 129 = .ok (.iload_n 3, 1) := by decide +kernel
theorem dX12_conflict_130 : decode cX12_conflict 130 = .ok (.i2l, 1) := by decide +kernel
theorem dX12_conflict_131 : decode cX12_conflict 131 = .ok (.invokevirtual 91, 3) := by decide +kernel
theorem dX12_conflict_134 : decode cX12_conflict 134 = .ok (.iload_n 1, 1) := by decide +kernel
theorem dX12_conflict_135 : decode cX12_conflict 135 = .ok (.ireturn, 1) := by decide +kernel
theorem dX12_layAside_0 : decode cX12_layAside 0 = .ok (.iconst 0, 1) := by decide +kernel
theorem dX12_layAside_1 : decode cX12_layAside 1 = .ok (.istore_n 1, 1) := by decide +kernel
theorem dX12_layAside_2 : decode cX12_layAside 2 = .ok (.iload_n 1, 1) := by decide +kernel
theorem dX12_layAside_3 : decode cX12_layAside 3 = .ok (.sipush 218, 3) := by decide +kernel
theorem dX12_layAside_6 : decode cX12_layAside 6 = .ok (.if_icmp .ge 21, 3) := by decide +kernel
theorem dX12_layAside_9 : decode cX12_layAside 9 = .ok (.aload_n 0, 1) := by decide +kernel
theorem dX12_layAside_10 : decode cX12_layAside 10 = .ok (.getfield 36, 3) := by decide +kernel
theorem dX12_layAside_13 : decode cX12_layAside 13 = .ok (.iload_n 1, 1) := by decide +kernel
theorem dX12_layAside_14 : decode cX12_layAside 14 = .ok (.aload_n 0, 1) := by decide +kernel
theorem dX12_layAside_15 : decode cX12_layAside 15 = .ok (.getfield 9, 3) := by decide +kernel
theorem dX12_layAside_18 : decode cX12_layAside 18 = .ok (.iload_n 1, 1) := by decide +kernel
theorem dX12_layAside_19 : decode cX12_layAside 19 = .ok (.iaload, 1) := by decide +kernel
theorem dX12_layAside_20 : decode cX12_layAside 20 = .ok (.iastore, 1) := by decide +kernel
theorem dX12_layAside_21 : decode cX12_layAside 21 = .ok (.iinc 1 1, 3) := by decide +kernel
theorem dX12_layAside_24 : decode cX12_layAside 24 = .ok (.goto (-22), 3) := by decide +kernel
theorem dX12_layAside_27 : decode cX12_layAside 27 = .ok (.return_, 1) := by decide +kernel
theorem dX12_comesBack_0 : decode cX12_comesBack 0 = .ok (.iconst 0, 1) := by decide +kernel
theorem dX12_comesBack_1 : decode cX12_comesBack 1 = .ok (.istore_n 1, 1) := by decide +kernel
theorem dX12_comesBack_2 : decode cX12_comesBack 2 = .ok (.iload_n 1, 1) := by decide +kernel
theorem dX12_comesBack_3 : decode cX12_comesBack 3 = .ok (.sipush 218, 3) := by decide +kernel
theorem dX12_comesBack_6 : decode cX12_comesBack 6 = .ok (.if_icmp .ge 21, 3) := by decide +kernel
theorem dX12_comesBack_9 : decode cX12_comesBack 9 = .ok (.aload_n 0, 1) := by decide +kernel
theorem dX12_comesBack_10 : decode cX12_comesBack 10 = .ok (.getfield 9, 3) := by decide +kernel
theorem dX12_comesBack_13 : decode cX12_comesBack 13 = .ok (.iload_n 1, 1) := by decide +kernel
theorem dX12_comesBack_14 : decode cX12_comesBack 14 = .ok (.aload_n 0, 1) := by decide +kernel
theorem dX12_comesBack_15 : decode cX12_comesBack 15 = .ok (.getfield 36, 3) := by decide +kernel
theorem dX12_comesBack_18 : decode cX12_comesBack 18 = .ok (.iload_n 1, 1) := by decide +kernel
theorem dX12_comesBack_19 : decode cX12_comesBack 19 = .ok (.iaload, 1) := by decide +kernel
theorem dX12_comesBack_20 : decode cX12_comesBack 20 = .ok (.iastore, 1) := by decide +kernel
theorem dX12_comesBack_21 : decode cX12_comesBack 21 = .ok (.iinc 1 1, 3) := by decide +kernel
theorem dX12_comesBack_24 : decode cX12_comesBack 24 = .ok (.goto (-22), 3) := by decide +kernel
theorem dX12_comesBack_27 : decode cX12_comesBack 27 = .ok (.return_, 1) := by decide +kernel
theorem dX12_goGo_0 : decode cX12_goGo 0 = .ok (.sipush 188, 3) := by decide +kernel
theorem dX12_goGo_3 : decode cX12_goGo 3 = .ok (.iconst 3, 1) := by decide +kernel
theorem dX12_goGo_4 : decode cX12_goGo 4 = .ok (.iload_n 1, 1) := by decide +kernel
theorem dX12_goGo_5 : decode cX12_goGo 5 = .ok (.imul, 1) := by decide +kernel
theorem dX12_goGo_6 : decode cX12_goGo 6 = .ok (.iadd, 1) := by decide +kernel
theorem dX12_goGo_7 : decode cX12_goGo 7 = .ok (.istore_n 2, 1) := by decide +kernel
theorem dX12_goGo_8 : decode cX12_goGo 8 = .ok (.iload_n 2, 1) := by decide +kernel
theorem dX12_goGo_9 : decode cX12_goGo 9 = .ok (.sipush 218, 3) := by decide +kernel
theorem dX12_goGo_12 : decode cX12_goGo 12 = .ok (.if_icmp .ge 36, 3) := by decide +kernel
theorem dX12_goGo_15 : decode cX12_goGo 15 = .ok (.aload_n 0, 1) := by decide +kernel
theorem dX12_goGo_16 : decode cX12_goGo 16 = .ok (.getfield 9, 3) := by decide +kernel
theorem dX12_goGo_19 : decode cX12_goGo 19 = .ok (.iload_n 2, 1) := by decide +kernel
theorem dX12_goGo_20 : decode cX12_goGo 20 = .ok (.iload_n 2, 1) := by decide +kernel
theorem dX12_goGo_21 : decode cX12_goGo 21 = .ok (.iconst 3, 1) := by decide +kernel
theorem dX12_goGo_22 : decode cX12_goGo 22 = .ok (.iadd, 1) := by decide +kernel
theorem dX12_goGo_23 : decode cX12_goGo 23 = .ok (.sipush 218, 3) := by decide +kernel
theorem dX12_goGo_26 : decode cX12_goGo 26 = .ok (.if_icmp .ge 14, 3) := by decide +kernel
theorem dX12_goGo_29 : decode cX12_goGo 29 = .ok (.aload_n 0, 1) := by decide +kernel
theorem dX12_goGo_30 : decode cX12_goGo 30 = .ok (.getfield 9, 3) := by decide +kernel
theorem dX12_goGo_33 : decode cX12_goGo 33 = .ok (.iload_n 2, 1) := by decide +kernel
theorem dX12_goGo_34 : decode cX12_goGo 34 = .ok (.iconst 3, 1) := by decide +kernel
theorem dX12_goGo_35 : decode cX12_goGo 35 = .ok (.iadd, 1) := by decide +kernel
theorem dX12_goGo_36 : decode cX12_goGo 36 = .ok (.iaload, 1) := by decide +kernel
theorem dX12_goGo_37 : decode cX12_goGo 37 = .ok (.goto 4, 3) := by decide +kernel
theorem dX12_goGo_40 : decode cX12_goGo 40 = .ok (.iconst 0, 1) := by decide +kernel
theorem dX12_goGo_41 : decode cX12_goGo 41 = .ok (.iastore, 1) := by decide +kernel
theorem dX12_goGo_42 : decode cX12_goGo 42 = .ok (.iinc 2 1, 3) := by decide +kernel
theorem dX12_goGo_45 : decode cX12_goGo 45 = .ok (.goto (-37), 3) := by decide +kernel
theorem dX12_goGo_48 : decode cX12_goGo 48 = .ok (.aload_n 0, 1) := by decide +kernel
theorem dX12_goGo_49 : decode cX12_goGo 49 = .ok (.getfield 9, 3) := by decide +kernel
theorem dX12_goGo_52 : decode cX12_goGo 52 = .ok (.iconst 1, 1) := by decide +kernel
theorem dX12_goGo_53 : decode cX12_goGo 53 = .ok (.dup2, 1) := by decide +kernel
theorem dX12_goGo_54 : decode cX12_goGo 54 = .ok (.iaload, 1) := by decide +kernel
theorem dX12_goGo_55 : decode cX12_goGo 55 = .ok (.iconst 1, 1) := by decide +kernel
theorem dX12_goGo_56 : decode cX12_goGo 56 = .ok (.isub, 1) := by decide +kernel
theorem dX12_goGo_57 : decode cX12_goGo 57 = .ok (.iastore, 1) := by decide +kernel
theorem dX12_goGo_58 : decode cX12_goGo 58 = .ok (.return_, 1) := by decide +kernel
theorem dX12_without_0 : decode cX12_without 0 = .ok (.aload_n 0, 1) := by decide +kernel
theorem dX12_without_1 : decode cX12_without 1 = .ok (.iconst 0, 1) := by decide +kernel
theorem dX12_without_2 : decode cX12_without 2 = .ok (.putfield 55, 3) := by decide +kernel
theorem dX12_without_5 : decode cX12_without 5 = .ok (.iload_n 1, 1) := by decide +kernel
theorem dX12_without_6 : decode cX12_without 6 = .ok (.iconst 0, 1) := by decide +kernel
theorem dX12_without_7 : decode cX12_without 7 = .ok (.aload_n 0, 1) := by decide +kernel
theorem dX12_without_8 : decode cX12_without 8 = .ok (.getfield 9, 3) := by decide +kernel
theorem dX12_without_11 : decode cX12_without 11 = .ok (.iconst 1, 1) := by decide +kernel
theorem dX12_without_12 : decode cX12_without 12 = .ok (.iaload, 1) := by decide +kernel
theorem dX12_without_13 : decode cX12_without 13 = .ok (.iconst 1, 1) := by decide +kernel
theorem dX12_without_14 : decode cX12_without 14 = .ok (.isub, 1) := by decide +kernel
theorem dX12_without_15 : decode cX12_without 15 = .ok (.invokestatic 62, 3) := by decide +kernel
theorem dX12_without_18 : decode cX12_without 18 = .ok (.ifCond .ne 5, 3) := by decide +kernel
theorem dX12_without_21 : decode cX12_without 21 = .ok (.iconst (-1), 1) := by decide +kernel
theorem dX12_without_22 : decode cX12_without 22 = .ok (.ireturn, 1) := by decide +kernel
theorem dX12_without_23 : decode cX12_without 23 = .ok (.aload_n 0, 1) := by decide +kernel
theorem dX12_without_24 : decode cX12_without 24 = .ok (.invokevirtual 388, 3) := by decide +kernel
theorem dX12_without_27 : decode cX12_without 27 = .ok (.aload_n 0, 1) := by decide +kernel
theorem dX12_without_28 : decode cX12_without 28 = .ok (.invokevirtual 421, 3) := by decide +kernel
theorem dX12_without_31 : decode cX12_without 31 = .ok (.istore_n 2, 1) := by decide +kernel
theorem dX12_without_32 : decode cX12_without 32 = .ok (.aload_n 0, 1) := by decide +kernel
theorem dX12_without_33 : decode cX12_without 33 = .ok (.invokevirtual 424, 3) := by decide +kernel
theorem dX12_without_36 : decode cX12_without 36 = .ok (.aload_n 0, 1) := by decide +kernel
theorem dX12_without_37 : decode cX12_without 37 = .ok (.iload_n 1, 1) := by decide +kernel
theorem dX12_without_38 : decode cX12_without 38 = .ok (.invokevirtual 427, 3) := by decide +kernel
theorem dX12_without_41 : decode cX12_without 41 = .ok (.aload_n 0, 1) := by decide +kernel
theorem dX12_without_42 : decode cX12_without 42 = .ok (.invokevirtual 388, 3) := by decide +kernel
theorem dX12_without_45 : decode cX12_without 45 = .ok (.aload_n 0, 1) := by decide +kernel
theorem dX12_without_46 : decode cX12_without 46 = .ok (.invokevirtual 430, 3) := by decide +kernel
theorem dX12_without_49 : decode cX12_without 49 = .ok (.aload_n 0, 1) := by decide +kernel
theorem dX12_without_50 : decode cX12_without 50 = .ok (.iconst 0, 1) := by decide +kernel
theorem dX12_without_51 : decode cX12_without 51 = .ok (.putfield 59, 3) := by decide +kernel
theorem dX12_without_54 : decode cX12_without 54 = .ok (.aload_n 0, 1) := by decide +kernel
theorem dX12_without_55 : decode cX12_without 55 = .ok (.aload_n 0, 1) := by decide +kernel
theorem dX12_without_56 : decode cX12_without 56 = .ok (.invokevirtual 421, 3) := by decide +kernel
theorem dX12_without_59 : decode cX12_without 59 = .ok (.iload_n 2, 1) := by decide +kernel
theorem dX12_without_60 : decode cX12_without 60 = .ok (.isub, 1) := by decide +kernel
theorem dX12_without_61 : decode cX12_without 61 = .ok (.i2l, 1) := by decide +kernel
theorem dX12_without_62 : decode cX12_without 62 = .ok (.invokevirtual 91, 3) := by decide +kernel
theorem dX12_without_65 : decode cX12_without 65 = .ok (.aload_n 0, 1) := by decide +kernel
theorem dX12_without_66 : decode cX12_without 66 = .ok (.getfield 357, 3) := by decide +kernel
theorem dX12_without_69 : decode cX12_without 69 = .ok (.ireturn, 1) := by decide +kernel
theorem dX12_with_0 : decode cX12_with 0 = .ok (.aload_n 0, 1) := by decide +kernel
theorem dX12_with_1 : decode cX12_with 1 = .ok (.iconst 0, 1) := by decide +kernel
theorem dX12_with_2 : decode cX12_with 2 = .ok (.putfield 55, 3) := by decide +kernel
theorem dX12_with_5 : decode cX12_with 5 = .ok (.aload_n 0, 1) := by decide +kernel
theorem dX12_with_6 : decode cX12_with 6 = .ok (.iload_n 1, 1) := by decide +kernel
theorem dX12_with_7 : decode cX12_with 7 = .ok (.iload_n 2, 1) := by decide +kernel
theorem dX12_with_8 : decode cX12_with 8 = .ok (.iload_n 3, 1) := by decide +kernel
theorem dX12_with_9 : decode cX12_with 9 = .ok (.invokevirtual 397, 3) := by decide +kernel
theorem dX12_with_12 : decode cX12_with 12 = .ok (.ifCond .ne 5, 3) := by decide +kernel
theorem dX12_with_15 : decode cX12_with 15 = .ok (.iconst (-1), 1) := by decide +kernel
theorem dX12_with_16 : decode cX12_with 16 = .ok (.ireturn, 1) := by decide +kernel
theorem dX12_with_17 : decode cX12_with 17 = .ok (.aload_n 0, 1) := by decide +kernel
theorem dX12_with_18 : decode cX12_with 18 = .ok (.iload_n 1, 1) := by decide +kernel
theorem dX12_with_19 : decode cX12_with 19 = .ok (.iload_n 2, 1) := by decide +kernel
theorem dX12_with_20 : decode cX12_with 20 = .ok (.iload_n 3, 1) := by decide +kernel
theorem dX12_with_21 : decode cX12_with 21 = .ok (.invokevirtual 400, 3) := by decide +kernel
theorem dX12_with_24 : decode cX12_with 24 = .ok (.bipush (-2), 2) := by decide +kernel
theorem dX12_with_26 : decode cX12_with 26 = .ok (.if_icmp .ne 6, 3) := by decide +kernel
theorem dX12_with_29 : decode cX12_with 29 = .ok (.bipush (-2), 2) := by decide +kernel
theorem dX12_with_31 : decode cX12_with 31 = .ok (.ireturn, 1) := by decide +kernel
theorem dX12_with_32 : decode cX12_with 32 = .ok (.aload_n 0, 1) := by decide +kernel
theorem dX12_with_33 : decode cX12_with 33 = .ok (.invokevirtual 388, 3) := by decide +kernel
theorem dX12_with_36 : decode cX12_with 36 = .ok (.aload_n 0, 1) := by decide +kernel
theorem dX12_with_37 : decode cX12_with 37 = .ok (.invokevirtual 421, 3) := by decide +kernel
theorem dX12_with_40 : decode cX12_with 40 = .ok (.istore 4, 2) := by decide +kernel
theorem dX12_with_42 : decode cX12_with 42 = .ok (.iconst 0, 1) := by decide +kernel
theorem dX12_with_43 : decode cX12_with 43 = .ok (.istore 5, 2) := by decide +kernel
theorem dX12_with_45 : decode cX12_with 45 = .ok (.iconst 0, 1) := by decide +kernel
theorem dX12_with_46 : decode cX12_with 46 = .ok (.istore 6, 2) := by decide +kernel
theorem dX12_with_48 : decode cX12_with 48 = .ok (.iconst 0, 1) := by decide +kernel
theorem dX12_with_49 : decode cX12_with 49 = .ok (.istore 7, 2) := by decide +kernel
theorem dX12_with_51 : decode cX12_with 51 = .ok (.iload 7, 2) := by decide +kernel
theorem dX12_with_53 : decode cX12_with 53 = .ok (.aload_n 0, 1) := by decide +kernel
theorem dX12_with_54 : decode cX12_with 54 = .ok (.getfield 27, 3) := by decide +kernel
theorem dX12_with_57 : decode cX12_with 57 = .ok (.arraylength, 1) := by decide +kernel
theorem dX12_with_58 : decode cX12_with 58 = .ok (.if_icmp .ge 17, 3) := by decide +kernel
theorem dX12_with_61 : decode cX12_with 61 = .ok (.aload_n 0, 1) := by decide +kernel
theorem dX12_with_62 : decode cX12_with 62 = .ok (.getfield 27, 3) := by decide +kernel
theorem dX12_with_65 : decode cX12_with 65 = .ok (.iload 7, 2) := by decide +kernel
theorem dX12_with_67 : decode cX12_with 67 = .ok (.iconst 0, 1) := by decide +kernel
theorem dX12_with_68 : decode cX12_with 68 = .ok (.iastore, 1) := by decide +kernel
theorem dX12_with_69 : decode cX12_with 69 = .ok (.iinc 7 1, 3) := by decide +kernel
theorem dX12_with_72 : decode cX12_with 72 = .ok (.goto (-21), 3) := by decide +kernel
theorem dX12_with_75 : decode cX12_with 75 = .ok (.aload_n 0, 1) := by decide +kernel
theorem dX12_with_76 : decode cX12_with 76 = .ok (.invokevirtual 366, 3) := by decide +kernel
theorem dX12_with_79 : decode cX12_with 79 = .ok (.istore 7, 2) := by decide +kernel
theorem dX12_with_81 : decode cX12_with 81 = .ok (.iload 7, 2) := by decide +kernel
theorem dX12_with_83 : decode cX12_with 83 = .ok (.ifCond .eq 119, 3) := by decide +kernel
theorem dX12_with_86 : decode cX12_with 86 = .ok (.aload_n 0, 1) := by decide +kernel
theorem dX12_with_87 : decode cX12_with 87 = .ok (.iload_n 2, 1) := by decide +kernel
theorem dX12_with_88 : decode cX12_with 88 = .ok (.invokevirtual 330, 3) := by decide +kernel
theorem dX12_with_91 : decode cX12_with 91 = .ok (.ifCond .eq 33, 3) := by decide +kernel
theorem dX12_with_94 : decode cX12_with 94 = .ok (.aload_n 0, 1) := by decide +kernel
theorem dX12_with_95 : decode cX12_with 95 = .ok (.iload_n 3, 1) := by decide +kernel
theorem dX12_with_96 : decode cX12_with 96 = .ok (.invokevirtual 330, 3) := by decide +kernel
theorem dX12_with_99 : decode cX12_with 99 = .ok (.ifCond .eq 25, 3) := by decide +kernel
theorem dX12_with_102 : decode cX12_with 102 = .ok (.aload_n 0, 1) := by decide +kernel
theorem dX12_with_103 : decode cX12_with 103 = .ok (.iload_n 1, 1) := by decide +kernel
theorem dX12_with_104 : decode cX12_with 104 = .ok (.iload_n 2, 1) := by decide +kernel
theorem dX12_with_105 : decode cX12_with 105 = .ok (.aload_n 0, 1) := by decide +kernel
theorem dX12_with_106 : decode cX12_with 106 = .ok (.getfield 24, 3) := by decide +kernel
theorem dX12_with_109 : decode cX12_with 109 = .ok (.iload_n 2, 1) := by decide +kernel
theorem dX12_with_110 : decode cX12_with 110 = .ok (.iaload, 1) := by decide +kernel
theorem dX12_with_111 : decode cX12_with 111 = .ok (.iload_n 3, 1) := by decide +kernel
theorem dX12_with_112 : decode cX12_with 112 = .ok (.aload_n 0, 1) := by decide +kernel
theorem dX12_with_113 : decode cX12_with 113 = .ok (.getfield 24, 3) := by decide +kernel
theorem dX12_with_116 : decode cX12_with 116 = .ok (.iload_n 3, 1) := by decide +kernel
theorem dX12_with_117 : decode cX12_with 117 = .ok (.iaload, 1) := by decide +kernel
theorem dX12_with_118 : decode cX12_with 118 = .ok (.invokevirtual 347, 3) := by decide +kernel
theorem dX12_with_121 : decode cX12_with 121 = .ok (.ifCond .eq 7, 3) := by decide +kernel
theorem dX12_with_124 : decode cX12_with 124 = .ok (.iconst 1, 1) := by decide +kernel
theorem dX12_with_125 : decode cX12_with 125 = .ok (.goto 4, 3) := by decide +kernel
theorem dX12_with_128 : decode cX12_with 128 = .ok (.iconst 0, 1) := by decide +kernel
theorem dX12_with_129 : decode cX12_with 129 = .ok (.istore 8, 2) := by decide +kernel
theorem dX12_with_131 : decode cX12_with 131 = .ok (.iload 8, 2) := by decide +kernel
theorem dX12_with_133 : decode cX12_with 133 = .ok (.ifCond .eq 60, 3) := by decide +kernel
theorem dX12_with_136 : decode cX12_with 136 = .ok (.aload_n 0, 1) := by decide +kernel
theorem dX12_with_137 : decode cX12_with 137 = .ok (.invokevirtual 369, 3) := by decide +kernel
theorem dX12_with_140 : decode cX12_with 140 = .ok (.ifCond .ne 53, 3) := by decide +kernel
theorem dX12_with_143 : decode cX12_with 143 = .ok (.iinc 5 1, 3) := by decide +kernel
theorem dX12_with_146 : decode cX12_with 146 = .ok (.iconst 0, 1) := by decide +kernel
theorem dX12_with_147 : decode cX12_with 147 = .ok (.istore 9, 2) := by decide +kernel
theorem dX12_with_149 : decode cX12_with 149 = .ok (.iload 9, 2) := by decide +kernel
theorem dX12_with_151 : decode cX12_with 151 = .ok (.bipush 6, 2) := by decide +kernel
theorem dX12_with_153 : decode cX12_with 153 = .ok (.if_icmp .ge 40, 3) := by decide +kernel
theorem dX12_with_156 : decode cX12_with 156 = .ok (.aload_n 0, 1) := by decide +kernel
theorem dX12_with_157 : decode cX12_with 157 = .ok (.iload 9, 2) := by decide +kernel
theorem dX12_with_159 : decode cX12_with 159 = .ok (.invokevirtual 330, 3) := by decide +kernel
theorem dX12_with_162 : decode cX12_with 162 = .ok (.ifCond .eq 25, 3) := by decide +kernel
theorem dX12_with_165 : decode cX12_with 165 = .ok (.aload_n 0, 1) := by decide +kernel
theorem dX12_with_166 : decode cX12_with 166 = .ok (.getfield 27, 3) := by decide +kernel
theorem dX12_with_169 : decode cX12_with 169 = .ok (.bipush 6, 2) := by decide +kernel
theorem dX12_with_171 : decode cX12_with 171 = .ok (.iload 9, 2) := by decide +kernel
theorem dX12_with_173 : decode cX12_with 173 = .ok (.imul, 1) := by decide +kernel
theorem dX12_with_174 : decode cX12_with 174 = .ok (.aload_n 0, 1) := by decide +kernel
theorem dX12_with_175 : decode cX12_with 175 = .ok (.getfield 24, 3) := by decide +kernel
theorem dX12_with_178 : decode cX12_with 178 = .ok (.iload 9, 2) := by decide +kernel
theorem dX12_with_180 : decode cX12_with 180 = .ok (.iaload, 1) := by decide +kernel
theorem dX12_with_181 : decode cX12_with 181 = .ok (.iadd, 1) := by decide +kernel
theorem dX12_with_182 : decode cX12_with 182 = .ok (.dup2, 1) := by decide +kernel
theorem dX12_with_183 : decode cX12_with 183 = .ok (.iaload, 1) := by decide +kernel
theorem dX12_with_184 : decode cX12_with 184 = .ok (.iconst 1, 1) := by decide +kernel
theorem dX12_with_185 : decode cX12_with 185 = .ok (.iadd, 1) := by decide +kernel
theorem dX12_with_186 : decode cX12_with 186 = .ok (.iastore, 1) := by decide +kernel
theorem dX12_with_187 : decode cX12_with 187 = .ok (.iinc 9 1, 3) := by decide +kernel
theorem dX12_with_190 : decode cX12_with 190 = .ok (.goto (-41), 3) := by decide +kernel
theorem dX12_with_193 : decode cX12_with 193 = .ok (.aload_n 0, 1) := by decide +kernel
theorem dX12_with_194 : decode cX12_with 194 = .ok (.invokevirtual 375, 3) := by decide +kernel
theorem dX12_with_197 : decode cX12_with 197 = .ok (.istore 7, 2) := by decide +kernel
theorem dX12_with_199 : decode cX12_with 199 = .ok (.goto (-118), 3) := by decide +kernel
theorem dX12_with_202 : decode cX12_with 202 = .ok (.aload_n 0, 1) := by decide +kernel
theorem dX12_with_203 : decode cX12_with 203 = .ok (.invokevirtual 421, 3) := by decide +kernel
theorem dX12_with_206 : decode cX12_with 206 = .ok (.istore 6, 2) := by decide +kernel
theorem dX12_with_208 : decode cX12_with 208 = .ok (.aload_n 0, 1) := by decide +kernel
theorem dX12_with_209 : decode cX12_with 209 = .ok (.iconst 0, 1) := by decide +kernel
theorem dX12_with_210 : decode cX12_with 210 = .ok (.putfield 59, 3) := by decide +kernel
theorem dX12_with_213 : decode cX12_with 213 = .ok (.aload_n 0, 1) := by decide +kernel
theorem dX12_with_214 : decode cX12_with 214 = .ok (.iload 4, 2) := by decide +kernel
theorem dX12_with_216 : decode cX12_with 216 = .ok (.iload 6, 2) := by decide +kernel
theorem dX12_with_218 : decode cX12_with 218 = .ok (.isub, 1) := by decide +kernel
theorem dX12_with_219 : decode cX12_with 219 = .ok (.i2l, 1) := by decide +kernel
theorem dX12_with_220 : decode cX12_with 220 = .ok (.invokevirtual 91, 3) := by decide +kernel
theorem dX12_with_223 : decode cX12_with 223 = .ok (.iload 5, 2) := by decide +kernel
theorem dX12_with_225 : decode cX12_with 225 = .ok (.ireturn, 1) := by decide +kernel
theorem dX12_asks_0 : decode cX12_asks 0 = .ok (.aload_n 0, 1) := by decide +kernel
theorem dX12_asks_1 : decode cX12_asks 1 = .ok (.iconst 0, 1) := by decide +kernel
theorem dX12_asks_2 : decode cX12_asks 2 = .ok (.putfield 55, 3) := by decide +kernel
theorem dX12_asks_5 : decode cX12_asks 5 = .ok (.aload_n 0, 1) := by decide +kernel
theorem dX12_asks_6 : decode cX12_asks 6 = .ok (.invokevirtual 388, 3) := by decide +kernel
theorem dX12_asks_9 : decode cX12_asks 9 = .ok (.iconst (-1), 1) := by decide +kernel
theorem dX12_asks_10 : decode cX12_asks 10 = .ok (.istore_n 1, 1) := by decide +kernel
theorem dX12_asks_11 : decode cX12_asks 11 = .ok (.iconst 0, 1) := by decide +kernel
theorem dX12_asks_12 : decode cX12_asks 12 = .ok (.istore_n 2, 1) := by decide +kernel
theorem dX12_asks_13 : decode cX12_asks 13 = .ok (.iconst 0, 1) := by decide +kernel
theorem dX12_asks_14 : decode cX12_asks 14 = .ok (.istore_n 3, 1) := by decide +kernel
theorem dX12_asks_15 : decode cX12_asks 15 = .ok (.iload_n 3, 1) := by decide +kernel
theorem dX12_asks_16 : decode cX12_asks 16 = .ok (.bipush 6, 2) := by decide +kernel
theorem dX12_asks_18 : decode cX12_asks 18 = .ok (.if_icmp .ge 78, 3) := by decide +kernel
theorem dX12_asks_21 : decode cX12_asks 21 = .ok (.aload_n 0, 1) := by decide +kernel
theorem dX12_asks_22 : decode cX12_asks 22 = .ok (.iload_n 3, 1) := by decide +kernel
theorem dX12_asks_23 : decode cX12_asks 23 = .ok (.invokevirtual 385, 3) := by decide +kernel
theorem dX12_asks_26 : decode cX12_asks 26 = .ok (.iconst 2, 1) := by decide +kernel
theorem dX12_asks_27 : decode cX12_asks 27 = .ok (.if_icmp .ge 6, 3) := by decide +kernel
theorem dX12_asks_30 : decode cX12_asks 30 = .ok (.goto 60, 3) := by decide +kernel
theorem dX12_asks_33 : decode cX12_asks 33 = .ok (.iconst 0, 1) := by decide +kernel
theorem dX12_asks_34 : decode cX12_asks 34 = .ok (.istore 4, 2) := by decide +kernel
theorem dX12_asks_36 : decode cX12_asks 36 = .ok (.iconst 0, 1) := by decide +kernel
theorem dX12_asks_37 : decode cX12_asks 37 = .ok (.istore 5, 2) := by decide +kernel
theorem dX12_asks_39 : decode cX12_asks 39 = .ok (.iload 5, 2) := by decide +kernel
theorem dX12_asks_41 : decode cX12_asks 41 = .ok (.bipush 6, 2) := by decide +kernel
theorem dX12_asks_43 : decode cX12_asks 43 = .ok (.if_icmp .ge 28, 3) := by decide +kernel
theorem dX12_asks_46 : decode cX12_asks 46 = .ok (.iload 4, 2) := by decide +kernel
theorem dX12_asks_48 : decode cX12_asks 48 = .ok (.aload_n 0, 1) := by decide +kernel
theorem dX12_asks_49 : decode cX12_asks 49 = .ok (.getfield 27, 3) := by decide +kernel
theorem dX12_asks_52 : decode cX12_asks 52 = .ok (.bipush 6, 2) := by decide +kernel
theorem dX12_asks_54 : decode cX12_asks 54 = .ok (.iload_n 3, 1) := by decide +kernel
theorem dX12_asks_55 : decode cX12_asks 55 = .ok (.imul, 1) := by decide +kernel
theorem dX12_asks_56 : decode cX12_asks 56 = .ok (.iload 5, 2) := by decide +kernel
theorem dX12_asks_58 : decode cX12_asks 58 = .ok (.iadd, 1) := by decide +kernel
theorem dX12_asks_59 : decode cX12_asks 59 = .ok (.iaload, 1) := by decide +kernel
theorem dX12_asks_60 : decode cX12_asks 60 = .ok (.invokestatic 179, 3) := by decide +kernel
theorem dX12_asks_63 : decode cX12_asks 63 = .ok (.istore 4, 2) := by decide +kernel
theorem dX12_asks_65 : decode cX12_asks 65 = .ok (.iinc 5 1, 3) := by decide +kernel
theorem dX12_asks_68 : decode cX12_asks 68 = .ok (.goto (-29), 3) := by decide +kernel
theorem dX12_asks_71 : decode cX12_asks 71 = .ok (.iload_n 1, 1) := by decide +kernel
theorem dX12_asks_72 : decode cX12_asks 72 = .ok (.iconst (-1), 1) := by decide +kernel
theorem dX12_asks_73 : decode cX12_asks 73 = .ok (.if_icmp .eq 12, 3) := by decide +kernel
theorem dX12_asks_76 : decode cX12_asks 76 = .ok (.iload 4, 2) := by decide +kernel
theorem dX12_asks_78 : decode cX12_asks 78 = .ok (.iload_n 2, 1) := by decide +kernel
theorem dX12_asks_79 : decode cX12_asks 79 = .ok (.if_icmp .lt 6, 3) := by decide +kernel
theorem dX12_asks_82 : decode cX12_asks 82 = .ok (.goto 8, 3) := by decide +kernel
theorem dX12_asks_85 : decode cX12_asks 85 = .ok (.iload_n 3, 1) := by decide +kernel
theorem dX12_asks_86 : decode cX12_asks 86 = .ok (.istore_n 1, 1) := by decide +kernel
theorem dX12_asks_87 : decode cX12_asks 87 = .ok (.iload 4, 2) := by decide +kernel
theorem dX12_asks_89 : decode cX12_asks 89 = .ok (.istore_n 2, 1) := by decide +kernel
theorem dX12_asks_90 : decode cX12_asks 90 = .ok (.iinc 3 1, 3) := by decide +kernel
theorem dX12_asks_93 : decode cX12_asks 93 = .ok (.goto (-78), 3) := by decide +kernel
theorem dX12_asks_96 : decode cX12_asks 96 = .ok (.iload_n 1, 1) := by decide +kernel
theorem dX12_asks_97 : decode cX12_asks 97 = .ok (.iconst (-1), 1) := by decide +kernel
theorem dX12_asks_98 : decode cX12_asks 98 = .ok (.if_icmp .ne 6, 3) := by decide +kernel
theorem dX12_asks_101 : decode cX12_asks 101 = .ok (.bipush (-2), 2) := by decide +kernel
theorem dX12_asks_103 : decode cX12_asks 103 = .ok (.ireturn, 1) := by decide +kernel
theorem dX12_asks_104 : decode cX12_asks 104 = .ok (.aload_n 0, 1) := by decide +kernel
theorem dX12_asks_105 : decode cX12_asks 105 = .ok (.iconst 0, 1) := by decide +kernel
theorem dX12_asks_106 : decode cX12_asks 106 = .ok (.putfield 59, 3) := by decide +kernel
theorem dX12_asks_109 : decode cX12_asks 109 = .ok (.aload_n 0, 1) := by decide +kernel
theorem dX12_asks_110 : decode cX12_asks 110 = .ok (.iload_n 2, 1) := by decide +kernel
theorem dX12_asks_111 : decode cX12_asks 111 = .ok (.i2l, 1) := by decide +kernel
theorem dX12_asks_112 : decode cX12_asks 112 = .ok (.invokevirtual 91, 3) := by decide +kernel
theorem dX12_asks_115 : decode cX12_asks 115 = .ok (.iload_n 1, 1) := by decide +kernel
theorem dX12_asks_116 : decode cX12_asks 116 = .ok (.ireturn, 1) := by decide +kernel
theorem dX12_hasDay_0 : decode cX12_hasDay 0 = .ok (.iload_n 3, 1) := by decide +kernel
theorem dX12_hasDay_1 : decode cX12_hasDay 1 = .ok (.aload_n 0, 1) := by decide +kernel
theorem dX12_hasDay_2 : decode cX12_hasDay 2 = .ok (.iload_n 1, 1) := by decide +kernel
theorem dX12_hasDay_3 : decode cX12_hasDay 3 = .ok (.iload_n 2, 1) := by decide +kernel
theorem dX12_hasDay_4 : decode cX12_hasDay 4 = .ok (.iconst 0, 1) := by decide +kernel
theorem dX12_hasDay_5 : decode cX12_hasDay 5 = .ok (.invokevirtual 333, 3) := by decide +kernel
theorem dX12_hasDay_8 : decode cX12_hasDay 8 = .ok (.aload_n 0, 1) := by decide +kernel
theorem dX12_hasDay_9 : decode cX12_hasDay 9 = .ok (.iload_n 1, 1) := by decide +kernel
theorem dX12_hasDay_10 : decode cX12_hasDay 10 = .ok (.iload_n 2, 1) := by decide +kernel
theorem dX12_hasDay_11 : decode cX12_hasDay 11 = .ok (.iconst 1, 1) := by decide +kernel
theorem dX12_hasDay_12 : decode cX12_hasDay 12 = .ok (.invokevirtual 333, 3) := by decide +kernel
theorem dX12_hasDay_15 : decode cX12_hasDay 15 = .ok (.invokestatic 62, 3) := by decide +kernel
theorem dX12_hasDay_18 : decode cX12_hasDay 18 = .ok (.ireturn, 1) := by decide +kernel
theorem dX12_mayHave_0 : decode cX12_mayHave 0 = .ok (.iconst 0, 1) := by decide +kernel
theorem dX12_mayHave_1 : decode cX12_mayHave 1 = .ok (.istore_n 3, 1) := by decide +kernel
theorem dX12_mayHave_2 : decode cX12_mayHave 2 = .ok (.iload_n 3, 1) := by decide +kernel
theorem dX12_mayHave_3 : decode cX12_mayHave 3 = .ok (.bipush 6, 2) := by decide +kernel
theorem dX12_mayHave_5 : decode cX12_mayHave 5 = .ok (.if_icmp .ge 30, 3) := by decide +kernel
theorem dX12_mayHave_8 : decode cX12_mayHave 8 = .ok (.aload_n 0, 1) := by decide +kernel
theorem dX12_mayHave_9 : decode cX12_mayHave 9 = .ok (.iload_n 1, 1) := by decide +kernel
theorem dX12_mayHave_10 : decode cX12_mayHave 10 = .ok (.iload_n 3, 1) := by decide +kernel
theorem dX12_mayHave_11 : decode cX12_mayHave 11 = .ok (.invokevirtual 381, 3) := by decide +kernel
theorem dX12_mayHave_14 : decode cX12_mayHave 14 = .ok (.ifCond .eq 15, 3) := by decide +kernel
theorem dX12_mayHave_17 : decode cX12_mayHave 17 = .ok (.aload_n 0, 1) := by decide +kernel
theorem dX12_mayHave_18 : decode cX12_mayHave 18 = .ok (.iload_n 1, 1) := by decide +kernel
theorem dX12_mayHave_19 : decode cX12_mayHave 19 = .ok (.iload_n 3, 1) := by decide +kernel
theorem dX12_mayHave_20 : decode cX12_mayHave 20 = .ok (.iload_n 2, 1) := by decide +kernel
theorem dX12_mayHave_21 : decode cX12_mayHave 21 = .ok (.invokevirtual 433, 3) := by decide +kernel
theorem dX12_mayHave_24 : decode cX12_mayHave 24 = .ok (.ifCond .eq 5, 3) := by decide +kernel
theorem dX12_mayHave_27 : decode cX12_mayHave 27 = .ok (.iconst 1, 1) := by decide +kernel
theorem dX12_mayHave_28 : decode cX12_mayHave 28 = .ok (.ireturn, 1) := by decide +kernel
theorem dX12_mayHave_29 : decode cX12_mayHave 29 = .ok (.iinc 3 1, 3) := by decide +kernel
theorem dX12_mayHave_32 : decode cX12_mayHave 32 = .ok (.goto (-30), 3) := by decide +kernel
theorem dX12_mayHave_35 : decode cX12_mayHave 35 = .ok (.iconst 0, 1) := by decide +kernel
theorem dX12_mayHave_36 : decode cX12_mayHave 36 = .ok (.ireturn, 1) := by decide +kernel
theorem dX12_mustHave_0 : decode cX12_mustHave 0 = .ok (.iconst 0, 1) := by decide +kernel
theorem dX12_mustHave_1 : decode cX12_mustHave 1 = .ok (.istore_n 3, 1) := by decide +kernel
theorem dX12_mustHave_2 : decode cX12_mustHave 2 = .ok (.iload_n 3, 1) := by decide +kernel
theorem dX12_mustHave_3 : decode cX12_mustHave 3 = .ok (.bipush 6, 2) := by decide +kernel
theorem dX12_mustHave_5 : decode cX12_mustHave 5 = .ok (.if_icmp .ge 30, 3) := by decide +kernel
theorem dX12_mustHave_8 : decode cX12_mustHave 8 = .ok (.aload_n 0, 1) := by decide +kernel
theorem dX12_mustHave_9 : decode cX12_mustHave 9 = .ok (.iload_n 1, 1) := by decide +kernel
theorem dX12_mustHave_10 : decode cX12_mustHave 10 = .ok (.iload_n 3, 1) := by decide +kernel
theorem dX12_mustHave_11 : decode cX12_mustHave 11 = .ok (.invokevirtual 381, 3) := by decide +kernel
theorem dX12_mustHave_14 : decode cX12_mustHave 14 = .ok (.ifCond .eq 15, 3) := by decide +kernel
theorem dX12_mustHave_17 : decode cX12_mustHave 17 = .ok (.aload_n 0, 1) := by decide +kernel
theorem dX12_mustHave_18 : decode cX12_mustHave 18 = .ok (.iload_n 1, 1) := by decide +kernel
theorem dX12_mustHave_19 : decode cX12_mustHave 19 = .ok (.iload_n 3, 1) := by decide +kernel
theorem dX12_mustHave_20 : decode cX12_mustHave 20 = .ok (.iload_n 2, 1) := by decide +kernel
theorem dX12_mustHave_21 : decode cX12_mustHave 21 = .ok (.invokevirtual 433, 3) := by decide +kernel
theorem dX12_mustHave_24 : decode cX12_mustHave 24 = .ok (.ifCond .ne 5, 3) := by decide +kernel
theorem dX12_mustHave_27 : decode cX12_mustHave 27 = .ok (.iconst 0, 1) := by decide +kernel
theorem dX12_mustHave_28 : decode cX12_mustHave 28 = .ok (.ireturn, 1) := by decide +kernel
theorem dX12_mustHave_29 : decode cX12_mustHave 29 = .ok (.iinc 3 1, 3) := by decide +kernel
theorem dX12_mustHave_32 : decode cX12_mustHave 32 = .ok (.goto (-30), 3) := by decide +kernel
theorem dX12_mustHave_35 : decode cX12_mustHave 35 = .ok (.aload_n 0, 1) := by decide +kernel
theorem dX12_mustHave_36 : decode cX12_mustHave 36 = .ok (.iload_n 1, 1) := by decide +kernel
theorem dX12_mustHave_37 : decode cX12_mustHave 37 = .ok (.invokevirtual 385, 3) := by decide +kernel
theorem dX12_mustHave_40 : decode cX12_mustHave 40 = .ok (.ifCond .le 7, 3) := by decide +kernel
theorem dX12_mustHave_43 : decode cX12_mustHave 43 = .ok (.iconst 1, 1) := by decide +kernel
theorem dX12_mustHave_44 : decode cX12_mustHave 44 = .ok (.goto 4, 3) := by decide +kernel
theorem dX12_mustHave_47 : decode cX12_mustHave 47 = .ok (.iconst 0, 1) := by decide +kernel
theorem dX12_mustHave_48 : decode cX12_mustHave 48 = .ok (.ireturn, 1) := by decide +kernel
theorem dX12_mayMany_0 : decode cX12_mayMany 0 = .ok (.iconst 0, 1) := by decide +kernel
theorem dX12_mayMany_1 : decode cX12_mayMany 1 = .ok (.istore_n 2, 1) := by decide +kernel
theorem dX12_mayMany_2 : decode cX12_mayMany 2 = .ok (.iconst 0, 1) := by decide +kernel
theorem dX12_mayMany_3 : decode cX12_mayMany 3 = .ok (.istore_n 3, 1) := by decide +kernel
theorem dX12_mayMany_4 : decode cX12_mayMany 4 = .ok (.iload_n 3, 1) := by decide +kernel
theorem dX12_mayMany_5 : decode cX12_mayMany 5 = .ok (.bipush 6, 2) := by decide +kernel
theorem dX12_mayMany_7 : decode cX12_mayMany 7 = .ok (.if_icmp .ge 26, 3) := by decide +kernel
theorem dX12_mayMany_10 : decode cX12_mayMany 10 = .ok (.iload_n 2, 1) := by decide +kernel
theorem dX12_mayMany_11 : decode cX12_mayMany 11 = .ok (.aload_n 0, 1) := by decide +kernel
theorem dX12_mayMany_12 : decode cX12_mayMany 12 = .ok (.iload_n 3, 1) := by decide +kernel
theorem dX12_mayMany_13 : decode cX12_mayMany 13 = .ok (.iload_n 1, 1) := by decide +kernel
theorem dX12_mayMany_14 : decode cX12_mayMany 14 = .ok (.invokevirtual 436, 3) := by decide +kernel
theorem dX12_mayMany_17 : decode cX12_mayMany 17 = .ok (.ifCond .eq 7, 3) := by decide +kernel
theorem dX12_mayMany_20 : decode cX12_mayMany 20 = .ok (.iconst 1, 1) := by decide +kernel
theorem dX12_mayMany_21 : decode cX12_mayMany 21 = .ok (.goto 4, 3) := by decide +kernel
theorem dX12_mayMany_24 : decode cX12_mayMany 24 = .ok (.iconst 0, 1) := by decide +kernel
theorem dX12_mayMany_25 : decode cX12_mayMany 25 = .ok (.iadd, 1) := by decide +kernel
theorem dX12_mayMany_26 : decode cX12_mayMany 26 = .ok (.istore_n 2, 1) := by decide +kernel
theorem dX12_mayMany_27 : decode cX12_mayMany 27 = .ok (.iinc 3 1, 3) := by decide +kernel
theorem dX12_mayMany_30 : decode cX12_mayMany 30 = .ok (.goto (-26), 3) := by decide +kernel
theorem dX12_mayMany_33 : decode cX12_mayMany 33 = .ok (.iload_n 2, 1) := by decide +kernel
theorem dX12_mayMany_34 : decode cX12_mayMany 34 = .ok (.ireturn, 1) := by decide +kernel
theorem dX12_on_0 : decode cX12_on 0 = .ok (.aload_n 0, 1) := by decide +kernel
theorem dX12_on_1 : decode cX12_on 1 = .ok (.iconst 0, 1) := by decide +kernel
theorem dX12_on_2 : decode cX12_on 2 = .ok (.putfield 55, 3) := by decide +kernel
theorem dX12_on_5 : decode cX12_on 5 = .ok (.iload_n 1, 1) := by decide +kernel
theorem dX12_on_6 : decode cX12_on 6 = .ok (.invokestatic 83, 3) := by decide +kernel
theorem dX12_on_9 : decode cX12_on 9 = .ok (.ifCond .ne 5, 3) := by decide +kernel
theorem dX12_on_12 : decode cX12_on 12 = .ok (.iconst (-1), 1) := by decide +kernel
theorem dX12_on_13 : decode cX12_on 13 = .ok (.ireturn, 1) := by decide +kernel
theorem dX12_on_14 : decode cX12_on 14 = .ok (.aload_n 0, 1) := by decide +kernel
theorem dX12_on_15 : decode cX12_on 15 = .ok (.invokevirtual 388, 3) := by decide +kernel
theorem dX12_on_18 : decode cX12_on 18 = .ok (.iconst 0, 1) := by decide +kernel
theorem dX12_on_19 : decode cX12_on 19 = .ok (.istore_n 2, 1) := by decide +kernel
theorem dX12_on_20 : decode cX12_on 20 = .ok (.iconst 0, 1) := by decide +kernel
theorem dX12_on_21 : decode cX12_on 21 = .ok (.istore_n 3, 1) := by decide +kernel
theorem dX12_on_22 : decode cX12_on 22 = .ok (.iconst 0, 1) := by decide +kernel
theorem dX12_on_23 : decode cX12_on 23 = .ok (.istore 4, 2) := by decide +kernel
theorem dX12_on_25 : decode cX12_on 25 = .ok (.iload 4, 2) := by decide +kernel
theorem dX12_on_27 : decode cX12_on 27 = .ok (.bipush 6, 2) := by decide +kernel
theorem dX12_on_29 : decode cX12_on 29 = .ok (.if_icmp .ge 51, 3) := by decide +kernel
theorem dX12_on_32 : decode cX12_on 32 = .ok (.iload_n 2, 1) := by decide +kernel
theorem dX12_on_33 : decode cX12_on 33 = .ok (.aload_n 0, 1) := by decide +kernel
theorem dX12_on_34 : decode cX12_on 34 = .ok (.iload 4, 2) := by decide +kernel
theorem dX12_on_36 : decode cX12_on 36 = .ok (.iload_n 1, 1) := by decide +kernel
theorem dX12_on_37 : decode cX12_on 37 = .ok (.invokevirtual 436, 3) := by decide +kernel
theorem dX12_on_40 : decode cX12_on 40 = .ok (.ifCond .eq 10, 3) := by decide +kernel
theorem dX12_on_43 : decode cX12_on 43 = .ok (.iconst 1, 1) := by decide +kernel
theorem dX12_on_44 : decode cX12_on 44 = .ok (.iload 4, 2) := by decide +kernel
theorem dX12_on_46 : decode cX12_on 46 = .ok (.ishl, 1) := by decide +kernel
theorem dX12_on_47 : decode cX12_on 47 = .ok (.goto 4, 3) := by decide +kernel
theorem dX12_on_50 : decode cX12_on 50 = .ok (.iconst 0, 1) := by decide +kernel
theorem dX12_on_51 : decode cX12_on 51 = .ok (.ior, 1) := by decide +kernel
theorem dX12_on_52 : decode cX12_on 52 = .ok (.istore_n 2, 1) := by decide +kernel
theorem dX12_on_53 : decode cX12_on 53 = .ok (.iload_n 3, 1) := by decide +kernel
theorem dX12_on_54 : decode cX12_on 54 = .ok (.aload_n 0, 1) := by decide +kernel
theorem dX12_on_55 : decode cX12_on 55 = .ok (.iload 4, 2) := by decide +kernel
theorem dX12_on_57 : decode cX12_on 57 = .ok (.iload_n 1, 1) := by decide +kernel
theorem dX12_on_58 : decode cX12_on 58 = .ok (.invokevirtual 439, 3) := by decide +kernel
theorem dX12_on_61 : decode cX12_on 61 = .ok (.ifCond .eq 10, 3) := by decide +kernel
theorem dX12_on_64 : decode cX12_on 64 = .ok (.iconst 1, 1) := by decide +kernel
theorem dX12_on_65 : decode cX12_on 65 = .ok (.iload 4, 2) := by decide +kernel
theorem dX12_on_67 : decode cX12_on 67 = .ok (.ishl, 1) := by decide +kernel
theorem dX12_on_68 : decode cX12_on 68 = .ok (.goto 4, 3) := by decide +kernel
theorem dX12_on_71 : decode cX12_on 71 = .ok (.iconst 0, 1) := by decide +kernel
theorem dX12_on_72 : decode cX12_on 72 = .ok (.ior, 1) := by decide +kernel
theorem dX12_on_73 : decode cX12_on 73 = .ok (.istore_n 3, 1) := by decide +kernel
theorem dX12_on_74 : decode cX12_on 74 = .ok (.iinc 4 1, 3) := by decide +kernel
theorem dX12_on_77 : decode cX12_on 77 = .ok (.goto (-52), 3) := by decide +kernel
theorem dX12_on_80 : decode cX12_on 80 = .ok (.aload_n 0, 1) := by decide +kernel
theorem dX12_on_81 : decode cX12_on 81 = .ok (.iconst 0, 1) := by decide +kernel
theorem dX12_on_82 : decode cX12_on 82 = .ok (.putfield 59, 3) := by decide +kernel
theorem dX12_on_85 : decode cX12_on 85 = .ok (.aload_n 0, 1) := by decide +kernel
theorem dX12_on_86 : decode cX12_on 86 = .ok (.iload_n 3, 1) := by decide +kernel
theorem dX12_on_87 : decode cX12_on 87 = .ok (.i2l, 1) := by decide +kernel
theorem dX12_on_88 : decode cX12_on 88 = .ok (.invokevirtual 91, 3) := by decide +kernel
theorem dX12_on_91 : decode cX12_on 91 = .ok (.iload_n 2, 1) := by decide +kernel
theorem dX12_on_92 : decode cX12_on 92 = .ok (.ireturn, 1) := by decide +kernel
theorem dX12_busiest_0 : decode cX12_busiest 0 = .ok (.aload_n 0, 1) := by decide +kernel
theorem dX12_busiest_1 : decode cX12_busiest 1 = .ok (.iconst 0, 1) := by decide +kernel
theorem dX12_busiest_2 : decode cX12_busiest 2 = .ok (.putfield 55, 3) := by decide +kernel
theorem dX12_busiest_5 : decode cX12_busiest 5 = .ok (.aload_n 0, 1) := by decide +kernel
theorem dX12_busiest_6 : decode cX12_busiest 6 = .ok (.invokevirtual 388, 3) := by decide +kernel
theorem dX12_busiest_9 : decode cX12_busiest 9 = .ok (.iconst (-1), 1) := by decide +kernel
theorem dX12_busiest_10 : decode cX12_busiest 10 = .ok (.istore_n 1, 1) := by decide +kernel
theorem dX12_busiest_11 : decode cX12_busiest 11 = .ok (.iconst 0, 1) := by decide +kernel
theorem dX12_busiest_12 : decode cX12_busiest 12 = .ok (.istore_n 2, 1) := by decide +kernel
theorem dX12_busiest_13 : decode cX12_busiest 13 = .ok (.iconst 0, 1) := by decide +kernel
theorem dX12_busiest_14 : decode cX12_busiest 14 = .ok (.istore_n 3, 1) := by decide +kernel
theorem dX12_busiest_15 : decode cX12_busiest 15 = .ok (.iload_n 3, 1) := by decide +kernel
theorem dX12_busiest_16 : decode cX12_busiest 16 = .ok (.bipush 6, 2) := by decide +kernel
theorem dX12_busiest_18 : decode cX12_busiest 18 = .ok (.if_icmp .ge 83, 3) := by decide +kernel
theorem dX12_busiest_21 : decode cX12_busiest 21 = .ok (.iconst 0, 1) := by decide +kernel
theorem dX12_busiest_22 : decode cX12_busiest 22 = .ok (.istore 4, 2) := by decide +kernel
theorem dX12_busiest_24 : decode cX12_busiest 24 = .ok (.iload 4, 2) := by decide +kernel
theorem dX12_busiest_26 : decode cX12_busiest 26 = .ok (.bipush 6, 2) := by decide +kernel
theorem dX12_busiest_28 : decode cX12_busiest 28 = .ok (.if_icmp .ge 67, 3) := by decide +kernel
theorem dX12_busiest_31 : decode cX12_busiest 31 = .ok (.aload_n 0, 1) := by decide +kernel
theorem dX12_busiest_32 : decode cX12_busiest 32 = .ok (.iload_n 3, 1) := by decide +kernel
theorem dX12_busiest_33 : decode cX12_busiest 33 = .ok (.iload 4, 2) := by decide +kernel
theorem dX12_busiest_35 : decode cX12_busiest 35 = .ok (.invokevirtual 381, 3) := by decide +kernel
theorem dX12_busiest_38 : decode cX12_busiest 38 = .ok (.ifCond .ne 6, 3) := by decide +kernel
theorem dX12_busiest_41 : decode cX12_busiest 41 = .ok (.goto 48, 3) := by decide +kernel
theorem dX12_busiest_44 : decode cX12_busiest 44 = .ok (.aload_n 0, 1) := by decide +kernel
theorem dX12_busiest_45 : decode cX12_busiest 45 = .ok (.iload_n 3, 1) := by decide +kernel
theorem dX12_busiest_46 : decode cX12_busiest 46 = .ok (.iload 4, 2) := by decide +kernel
theorem dX12_busiest_48 : decode cX12_busiest 48 = .ok (.iconst 0, 1) := by decide +kernel
theorem dX12_busiest_49 : decode cX12_busiest 49 = .ok (.invokevirtual 333, 3) := by decide +kernel
theorem dX12_busiest_52 : decode cX12_busiest 52 = .ok (.istore 5, 2) := by decide +kernel
theorem dX12_busiest_54 : decode cX12_busiest 54 = .ok (.aload_n 0, 1) := by decide +kernel
theorem dX12_busiest_55 : decode cX12_busiest 55 = .ok (.iload 5, 2) := by decide +kernel
theorem dX12_busiest_57 : decode cX12_busiest 57 = .ok (.invokevirtual 442, 3) := by decide +kernel
theorem dX12_busiest_60 : decode cX12_busiest 60 = .ok (.istore 6, 2) := by decide +kernel
theorem dX12_busiest_62 : decode cX12_busiest 62 = .ok (.iload 6, 2) := by decide +kernel
theorem dX12_busiest_64 : decode cX12_busiest 64 = .ok (.iload_n 2, 1) := by decide +kernel
theorem dX12_busiest_65 : decode cX12_busiest 65 = .ok (.if_icmp .lt 24, 3) := by decide +kernel
theorem dX12_busiest_68 : decode cX12_busiest 68 = .ok (.iload 6, 2) := by decide +kernel
theorem dX12_busiest_70 : decode cX12_busiest 70 = .ok (.iload_n 2, 1) := by decide +kernel
theorem dX12_busiest_71 : decode cX12_busiest 71 = .ok (.if_icmp .ne 12, 3) := by decide +kernel
theorem dX12_busiest_74 : decode cX12_busiest 74 = .ok (.iload 5, 2) := by decide +kernel
theorem dX12_busiest_76 : decode cX12_busiest 76 = .ok (.iload_n 1, 1) := by decide +kernel
theorem dX12_busiest_77 : decode cX12_busiest 77 = .ok (.if_icmp .lt 6, 3) := by decide +kernel
theorem dX12_busiest_80 : decode cX12_busiest 80 = .ok (.goto 9, 3) := by decide +kernel
theorem dX12_busiest_83 : decode cX12_busiest 83 = .ok (.iload 6, 2) := by decide +kernel
theorem dX12_busiest_85 : decode cX12_busiest 85 = .ok (.istore_n 2, 1) := by decide +kernel
theorem dX12_busiest_86 : decode cX12_busiest 86 = .ok (.iload 5, 2) := by decide +kernel
theorem dX12_busiest_88 : decode cX12_busiest 88 = .ok (.istore_n 1, 1) := by decide +kernel
theorem dX12_busiest_89 : decode cX12_busiest 89 = .ok (.iinc 4 1, 3) := by decide +kernel
theorem dX12_busiest_92 : decode cX12_busiest 92 = .ok (.goto (-68), 3) := by decide +kernel
theorem dX12_busiest_95 : decode cX12_busiest 95 = .ok (.iinc 3 1, 3) := by decide +kernel
theorem dX12_busiest_98 : decode cX12_busiest 98 = .ok (.goto (-83), 3) := by decide +kernel
theorem dX12_busiest_101 : decode cX12_busiest 101 = .ok (.iload_n 1, 1) := by decide +kernel
theorem dX12_busiest_102 : decode cX12_busiest 102 = .ok (.iconst (-1), 1) := by decide +kernel
theorem dX12_busiest_103 : decode cX12_busiest 103 = .ok (.if_icmp .ne 6, 3) := by decide +kernel
theorem dX12_busiest_106 : decode cX12_busiest 106 = .ok (.bipush (-2), 2) := by decide +kernel
theorem dX12_busiest_108 : decode cX12_busiest 108 = .ok (.ireturn, 1) := by decide +kernel
theorem dX12_busiest_109 : decode cX12_busiest 109 = .ok (.aload_n 0, 1) := by decide +kernel
theorem dX12_busiest_110 : decode cX12_busiest 110 = .ok (.iconst 0, 1) := by decide +kernel
theorem dX12_busiest_111 : decode cX12_busiest 111 = .ok (.putfield 59, 3) := by decide +kernel
theorem dX12_busiest_114 : decode cX12_busiest 114 = .ok (.aload_n 0, 1) := by decide +kernel
theorem dX12_busiest_115 : decode cX12_busiest 115 = .ok (.iload_n 2, 1) := by decide +kernel
theorem dX12_busiest_116 : decode cX12_busiest 116 = .ok (.i2l, 1) := by decide +kernel
theorem dX12_busiest_117 : decode cX12_busiest 117 = .ok (.invokevirtual 91, 3) := by decide +kernel
theorem dX12_busiest_120 : decode cX12_busiest 120 = .ok (.iload_n 1, 1) := by decide +kernel
theorem dX12_busiest_121 : decode cX12_busiest 121 = .ok (.ireturn, 1) := by decide +kernel
theorem dX12_free_0 : decode cX12_free 0 = .ok (.aload_n 0, 1) := by decide +kernel
theorem dX12_free_1 : decode cX12_free 1 = .ok (.iconst 0, 1) := by decide +kernel
theorem dX12_free_2 : decode cX12_free 2 = .ok (.putfield 55, 3) := by decide +kernel
theorem dX12_free_5 : decode cX12_free 5 = .ok (.iload_n 1, 1) := by decide +kernel
theorem dX12_free_6 : decode cX12_free 6 = .ok (.invokestatic 83, 3) := by decide +kernel
theorem dX12_free_9 : decode cX12_free 9 = .ok (.ifCond .eq 13, 3) := by decide +kernel
theorem dX12_free_12 : decode cX12_free 12 = .ok (.iload_n 2, 1) := by decide +kernel
theorem dX12_free_13 : decode cX12_free 13 = .ok (.iconst 1, 1) := by decide +kernel
theorem dX12_free_14 : decode cX12_free 14 = .ok (.bipush 99, 2) := by decide +kernel
theorem dX12_free_16 : decode cX12_free 16 = .ok (.invokestatic 62, 3) := by decide +kernel
theorem dX12_free_19 : decode cX12_free 19 = .ok (.ifCond .ne 5, 3) := by decide +kernel
theorem dX12_free_22 : decode cX12_free 22 = .ok (.iconst (-1), 1) := by decide +kernel
theorem dX12_free_23 : decode cX12_free 23 = .ok (.ireturn, 1) := by decide +kernel
theorem dX12_free_24 : decode cX12_free 24 = .ok (.aload_n 0, 1) := by decide +kernel
theorem dX12_free_25 : decode cX12_free 25 = .ok (.invokevirtual 388, 3) := by decide +kernel
theorem dX12_free_28 : decode cX12_free 28 = .ok (.iload_n 1, 1) := by decide +kernel
theorem dX12_free_29 : decode cX12_free 29 = .ok (.istore_n 3, 1) := by decide +kernel
theorem dX12_free_30 : decode cX12_free 30 = .ok (.iload_n 1, 1) := by decide +kernel
theorem dX12_free_31 : decode cX12_free 31 = .ok (.istore 4, 2) := by decide +kernel
theorem dX12_free_33 : decode cX12_free 33 = .ok (.iload 4, 2) := by decide +kernel
theorem dX12_free_35 : decode cX12_free 35 = .ok (.sipush 9999, 3) := by decide +kernel
theorem dX12_free_38 : decode cX12_free 38 = .ok (.if_icmp .gt 35, 3) := by decide +kernel
theorem dX12_free_41 : decode cX12_free 41 = .ok (.aload_n 0, 1) := by decide +kernel
theorem dX12_free_42 : decode cX12_free 42 = .ok (.iload 4, 2) := by decide +kernel
theorem dX12_free_44 : decode cX12_free 44 = .ok (.invokevirtual 442, 3) := by decide +kernel
theorem dX12_free_47 : decode cX12_free 47 = .ok (.ifCond .le 8, 3) := by decide +kernel
theorem dX12_free_50 : decode cX12_free 50 = .ok (.iload 4, 2) := by decide +kernel
theorem dX12_free_52 : decode cX12_free 52 = .ok (.iconst 1, 1) := by decide +kernel
theorem dX12_free_53 : decode cX12_free 53 = .ok (.iadd, 1) := by decide +kernel
theorem dX12_free_54 : decode cX12_free 54 = .ok (.istore_n 3, 1) := by decide +kernel
theorem dX12_free_55 : decode cX12_free 55 = .ok (.iload 4, 2) := by decide +kernel
theorem dX12_free_57 : decode cX12_free 57 = .ok (.iload_n 3, 1) := by decide +kernel
theorem dX12_free_58 : decode cX12_free 58 = .ok (.isub, 1) := by decide +kernel
theorem dX12_free_59 : decode cX12_free 59 = .ok (.iconst 1, 1) := by decide +kernel
theorem dX12_free_60 : decode cX12_free 60 = .ok (.iadd, 1) := by decide +kernel
theorem dX12_free_61 : decode cX12_free 61 = .ok (.iload_n 2, 1) := by decide +kernel
theorem dX12_free_62 : decode cX12_free 62 = .ok (.if_icmp .ne 5, 3) := by decide +kernel
theorem dX12_free_65 : decode cX12_free 65 = .ok (.iload_n 3, 1) := by decide +kernel
theorem dX12_free_66 : decode cX12_free 66 = .ok (.ireturn, 1) := by decide +kernel
theorem dX12_free_67 : decode cX12_free 67 = .ok (.iinc 4 1, 3) := by decide +kernel
theorem dX12_free_70 : decode cX12_free 70 = .ok (.goto (-37), 3) := by decide +kernel
theorem dX12_free_73 : decode cX12_free 73 = .ok (.bipush (-2), 2) := by decide +kernel
theorem dX12_free_75 : decode cX12_free 75 = .ok (.ireturn, 1) := by decide +kernel
theorem dX12_lay_0 : decode cX12_lay 0 = .ok (.iconst 0, 1) := by decide +kernel
theorem dX12_lay_1 : decode cX12_lay 1 = .ok (.istore_n 1, 1) := by decide +kernel
theorem dX12_lay_2 : decode cX12_lay 2 = .ok (.iload_n 1, 1) := by decide +kernel
theorem dX12_lay_3 : decode cX12_lay 3 = .ok (.sipush 218, 3) := by decide +kernel
theorem dX12_lay_6 : decode cX12_lay 6 = .ok (.if_icmp .ge 21, 3) := by decide +kernel
theorem dX12_lay_9 : decode cX12_lay 9 = .ok (.aload_n 0, 1) := by decide +kernel
theorem dX12_lay_10 : decode cX12_lay 10 = .ok (.getfield 42, 3) := by decide +kernel
theorem dX12_lay_13 : decode cX12_lay 13 = .ok (.iload_n 1, 1) := by decide +kernel
theorem dX12_lay_14 : decode cX12_lay 14 = .ok (.aload_n 0, 1) := by decide +kernel
theorem dX12_lay_15 : decode cX12_lay 15 = .ok (.getfield 9, 3) := by decide +kernel
theorem dX12_lay_18 : decode cX12_lay 18 = .ok (.iload_n 1, 1) := by decide +kernel
theorem dX12_lay_19 : decode cX12_lay 19 = .ok (.iaload, 1) := by decide +kernel
theorem dX12_lay_20 : decode cX12_lay 20 = .ok (.iastore, 1) := by decide +kernel
theorem dX12_lay_21 : decode cX12_lay 21 = .ok (.iinc 1 1, 3) := by decide +kernel
theorem dX12_lay_24 : decode cX12_lay 24 = .ok (.goto (-22), 3) := by decide +kernel
theorem dX12_lay_27 : decode cX12_lay 27 = .ok (.return_, 1) := by decide +kernel
theorem dX12_note_0 : decode cX12_note 0 = .ok (.aload_n 0, 1) := by decide +kernel
theorem dX12_note_1 : decode cX12_note 1 = .ok (.getfield 445, 3) := by decide +kernel
theorem dX12_note_4 : decode cX12_note 4 = .ok (.bipush 8, 2) := by decide +kernel
theorem dX12_note_6 : decode cX12_note 6 = .ok (.if_icmp .ne 44, 3) := by decide +kernel
theorem dX12_note_9 : decode cX12_note 9 = .ok (.iconst 0, 1) := by decide +kernel
theorem dX12_note_10 : decode cX12_note 10 = .ok (.istore_n 1, 1) := by decide +kernel
theorem dX12_note_11 : decode cX12_note 11 = .ok (.iload_n 1, 1) := by decide +kernel
theorem dX12_note_12 : decode cX12_note 12 = .ok (.sipush 1526, 3) := by decide +kernel
theorem dX12_note_15 : decode cX12_note 15 = .ok (.if_icmp .ge 25, 3) := by decide +kernel
theorem dX12_note_18 : decode cX12_note 18 = .ok (.aload_n 0, 1) := by decide +kernel
theorem dX12_note_19 : decode cX12_note 19 = .ok (.getfield 39, 3) := by decide +kernel
theorem dX12_note_22 : decode cX12_note 22 = .ok (.iload_n 1, 1) := by decide +kernel
theorem dX12_note_23 : decode cX12_note 23 = .ok (.aload_n 0, 1) := by decide +kernel
theorem dX12_note_24 : decode cX12_note 24 = .ok (.getfield 39, 3) := by decide +kernel
theorem dX12_note_27 : decode cX12_note 27 = .ok (.iload_n 1, 1) := by decide +kernel
theorem dX12_note_28 : decode cX12_note 28 = .ok (.sipush 218, 3) := by decide +kernel
theorem dX12_note_31 : decode cX12_note 31 = .ok (.iadd, 1) := by decide +kernel
theorem dX12_note_32 : decode cX12_note 32 = .ok (.iaload, 1) := by decide +kernel
theorem dX12_note_33 : decode cX12_note 33 = .ok (.iastore, 1) := by decide +kernel
theorem dX12_note_34 : decode cX12_note 34 = .ok (.iinc 1 1, 3) := by decide +kernel
theorem dX12_note_37 : decode cX12_note 37 = .ok (.goto (-26), 3) := by decide +kernel
theorem dX12_note_40 : decode cX12_note 40 = .ok (.aload_n 0, 1) := by decide +kernel
theorem dX12_note_41 : decode cX12_note 41 = .ok (.dup, 1) := by decide +kernel
theorem dX12_note_42 : decode cX12_note 42 = .ok (.getfield 445, 3) := by decide +kernel
theorem dX12_note_45 : decode cX12_note 45 = .ok (.iconst 1, 1) := by decide +kernel
theorem dX12_note_46 : decode cX12_note 46 = .ok (.isub, 1) := by decide +kernel
theorem dX12_note_47 : decode cX12_note 47 = .ok (.putfield 445, 3) := by decide +kernel
theorem dX12_note_50 : decode cX12_note 50 = .ok (.iconst 0, 1) := by decide +kernel
theorem dX12_note_51 : decode cX12_note 51 = .ok (.istore_n 1, 1) := by decide +kernel
theorem dX12_note_52 : decode cX12_note 52 = .ok (.iload_n 1, 1) := by decide +kernel
theorem dX12_note_53 : decode cX12_note 53 = .ok (.sipush 218, 3) := by decide +kernel
theorem dX12_note_56 : decode cX12_note 56 = .ok (.if_icmp .ge 30, 3) := by decide +kernel
theorem dX12_note_59 : decode cX12_note 59 = .ok (.aload_n 0, 1) := by decide +kernel
theorem dX12_note_60 : decode cX12_note 60 = .ok (.getfield 39, 3) := by decide +kernel
theorem dX12_note_63 : decode cX12_note 63 = .ok (.sipush 218, 3) := by decide +kernel
theorem dX12_note_66 : decode cX12_note 66 = .ok (.aload_n 0, 1) := by decide +kernel
theorem dX12_note_67 : decode cX12_note 67 = .ok (.getfield 445, 3) := by decide +kernel
theorem dX12_note_70 : decode cX12_note 70 = .ok (.imul, 1) := by decide +kernel
theorem dX12_note_71 : decode cX12_note 71 = .ok (.iload_n 1, 1) := by decide +kernel
theorem dX12_note_72 : decode cX12_note 72 = .ok (.iadd, 1) := by decide +kernel
theorem dX12_note_73 : decode cX12_note 73 = .ok (.aload_n 0, 1) := by decide +kernel
theorem dX12_note_74 : decode cX12_note 74 = .ok (.getfield 42, 3) := by decide +kernel
theorem dX12_note_77 : decode cX12_note 77 = .ok (.iload_n 1, 1) := by decide +kernel
theorem dX12_note_78 : decode cX12_note 78 = .ok (.iaload, 1) := by decide +kernel
theorem dX12_note_79 : decode cX12_note 79 = .ok (.iastore, 1) := by decide +kernel
theorem dX12_note_80 : decode cX12_note 80 = .ok (.iinc 1 1, 3) := by decide +kernel
theorem dX12_note_83 : decode cX12_note 83 = .ok (.goto (-31), 3) := by decide +kernel
theorem dX12_note_86 : decode cX12_note 86 = .ok (.aload_n 0, 1) := by decide +kernel
theorem dX12_note_87 : decode cX12_note 87 = .ok (.dup, 1) := by decide +kernel
theorem dX12_note_88 : decode cX12_note 88 = .ok (.getfield 445, 3) := by decide +kernel
theorem dX12_note_91 : decode cX12_note 91 = .ok (.iconst 1, 1) := by decide +kernel
theorem dX12_note_92 : decode cX12_note 92 = .ok (.iadd, 1) := by decide +kernel
theorem dX12_note_93 : decode cX12_note 93 = .ok (.putfield 445, 3) := by decide +kernel
theorem dX12_note_96 : decode cX12_note 96 = .ok (.return_, 1) := by decide +kernel
theorem dX12_change_0 : decode cX12_change 0 = .ok (.aload_n 0, 1) := by decide +kernel
theorem dX12_change_1 : decode cX12_change 1 = .ok (.invokevirtual 448, 3) := by decide +kernel
theorem dX12_change_4 : decode cX12_change 4 = .ok (.aload_n 0, 1) := by decide +kernel
theorem dX12_change_5 : decode cX12_change 5 = .ok (.invokevirtual 451, 3) := by decide +kernel
theorem dX12_change_8 : decode cX12_change 8 = .ok (.return_, 1) := by decide +kernel
theorem dX12_refusesRef_0 : decode cX12_refusesRef 0 = .ok (.iload_n 1, 1) := by decide +kernel
theorem dX12_refusesRef_1 : decode cX12_refusesRef 1 = .ok (.invokestatic 83, 3) := by decide +kernel
theorem dX12_refusesRef_4 : decode cX12_refusesRef 4 = .ok (.ifCond .ne 7, 3) := by decide +kernel
theorem dX12_refusesRef_7 : decode cX12_refusesRef 7 = .ok (.iconst (-1), 1) := by decide +kernel
theorem dX12_refusesRef_8 : decode cX12_refusesRef 8 = .ok (.goto 19, 3) := by decide +kernel
theorem dX12_refusesRef_11 : decode cX12_refusesRef 11 = .ok (.iload_n 1, 1) := by decide +kernel
theorem dX12_refusesRef_12 : decode cX12_refusesRef 12 = .ok (.aload_n 0, 1) := by decide +kernel
theorem dX12_refusesRef_13 : decode cX12_refusesRef 13 = .ok (.getfield 9, 3) := by decide +kernel
theorem dX12_refusesRef_16 : decode cX12_refusesRef 16 = .ok (.iconst 0, 1) := by decide +kernel
theorem dX12_refusesRef_17 : decode cX12_refusesRef 17 = .ok (.iaload, 1) := by decide +kernel
theorem dX12_refusesRef_18 : decode cX12_refusesRef 18 = .ok (.if_icmp .ne 8, 3) := by decide +kernel
theorem dX12_refusesRef_21 : decode cX12_refusesRef 21 = .ok (.bipush (-2), 2) := by decide +kernel
theorem dX12_refusesRef_23 : decode cX12_refusesRef 23 = .ok (.goto 4, 3) := by decide +kernel
theorem dX12_refusesRef_26 : decode cX12_refusesRef 26 = .ok (.iconst 0, 1) := by decide +kernel
theorem dX12_refusesRef_27 : decode cX12_refusesRef 27 = .ok (.ireturn, 1) := by decide +kernel
theorem dX12_ref_0 : decode cX12_ref 0 = .ok (.aload_n 0, 1) := by decide +kernel
theorem dX12_ref_1 : decode cX12_ref 1 = .ok (.iconst 0, 1) := by decide +kernel
theorem dX12_ref_2 : decode cX12_ref 2 = .ok (.putfield 55, 3) := by decide +kernel
theorem dX12_ref_5 : decode cX12_ref 5 = .ok (.aload_n 0, 1) := by decide +kernel
theorem dX12_ref_6 : decode cX12_ref 6 = .ok (.iload_n 1, 1) := by decide +kernel
theorem dX12_ref_7 : decode cX12_ref 7 = .ok (.invokevirtual 454, 3) := by decide +kernel
theorem dX12_ref_10 : decode cX12_ref 10 = .ok (.istore_n 2, 1) := by decide +kernel
theorem dX12_ref_11 : decode cX12_ref 11 = .ok (.iload_n 2, 1) := by decide +kernel
theorem dX12_ref_12 : decode cX12_ref 12 = .ok (.ifCond .ge 5, 3) := by decide +kernel
theorem dX12_ref_15 : decode cX12_ref 15 = .ok (.iload_n 2, 1) := by decide +kernel
theorem dX12_ref_16 : decode cX12_ref 16 = .ok (.ireturn, 1) := by decide +kernel
theorem dX12_ref_17 : decode cX12_ref 17 = .ok (.aload_n 0, 1) := by decide +kernel
theorem dX12_ref_18 : decode cX12_ref 18 = .ok (.invokevirtual 344, 3) := by decide +kernel
theorem dX12_ref_21 : decode cX12_ref 21 = .ok (.aload_n 0, 1) := by decide +kernel
theorem dX12_ref_22 : decode cX12_ref 22 = .ok (.getfield 9, 3) := by decide +kernel
theorem dX12_ref_25 : decode cX12_ref 25 = .ok (.iconst 0, 1) := by decide +kernel
theorem dX12_ref_26 : decode cX12_ref 26 = .ok (.iaload, 1) := by decide +kernel
theorem dX12_ref_27 : decode cX12_ref 27 = .ok (.istore_n 3, 1) := by decide +kernel
theorem dX12_ref_28 : decode cX12_ref 28 = .ok (.aload_n 0, 1) := by decide +kernel
theorem dX12_ref_29 : decode cX12_ref 29 = .ok (.getfield 9, 3) := by decide +kernel
theorem dX12_ref_32 : decode cX12_ref 32 = .ok (.iconst 0, 1) := by decide +kernel
theorem dX12_ref_33 : decode cX12_ref 33 = .ok (.iload_n 1, 1) := by decide +kernel
theorem dX12_ref_34 : decode cX12_ref 34 = .ok (.iastore, 1) := by decide +kernel
theorem dX12_ref_35 : decode cX12_ref 35 = .ok (.iload_n 3, 1) := by decide +kernel
theorem dX12_ref_36 : decode cX12_ref 36 = .ok (.ireturn, 1) := by decide +kernel
theorem dX12_refusesRule_0 : decode cX12_refusesRule 0 = .ok (.aload_n 0, 1) := by decide +kernel
theorem dX12_refusesRule_1 : decode cX12_refusesRule 1 = .ok (.iload_n 1, 1) := by decide +kernel
theorem dX12_refusesRule_2 : decode cX12_refusesRule 2 = .ok (.iload_n 2, 1) := by decide +kernel
theorem dX12_refusesRule_3 : decode cX12_refusesRule 3 = .ok (.invokevirtual 391, 3) := by decide +kernel
theorem dX12_refusesRule_6 : decode cX12_refusesRule 6 = .ok (.ifCond .ne 7, 3) := by decide +kernel
theorem dX12_refusesRule_9 : decode cX12_refusesRule 9 = .ok (.iconst (-1), 1) := by decide +kernel
theorem dX12_refusesRule_10 : decode cX12_refusesRule 10 = .ok (.goto 28, 3) := by decide +kernel
theorem dX12_refusesRule_13 : decode cX12_refusesRule 13 = .ok (.aload_n 0, 1) := by decide +kernel
theorem dX12_refusesRule_14 : decode cX12_refusesRule 14 = .ok (.iload_n 1, 1) := by decide +kernel
theorem dX12_refusesRule_15 : decode cX12_refusesRule 15 = .ok (.iload_n 2, 1) := by decide +kernel
theorem dX12_refusesRule_16 : decode cX12_refusesRule 16 = .ok (.iconst 4, 1) := by decide +kernel
theorem dX12_refusesRule_17 : decode cX12_refusesRule 17 = .ok (.invokevirtual 333, 3) := by decide +kernel
theorem dX12_refusesRule_20 : decode cX12_refusesRule 20 = .ok (.iload_n 3, 1) := by decide +kernel
theorem dX12_refusesRule_21 : decode cX12_refusesRule 21 = .ok (.ifCond .eq 7, 3) := by decide +kernel
theorem dX12_refusesRule_24 : decode cX12_refusesRule 24 = .ok (.iconst 0, 1) := by decide +kernel
theorem dX12_refusesRule_25 : decode cX12_refusesRule 25 = .ok (.goto 4, 3) := by decide +kernel
theorem dX12_refusesRule_28 : decode cX12_refusesRule 28 = .ok (.iconst 1, 1) := by decide +kernel
theorem dX12_refusesRule_29 : decode cX12_refusesRule 29 = .ok (.if_icmp .ne 8, 3) := by decide +kernel
theorem dX12_refusesRule_32 : decode cX12_refusesRule 32 = .ok (.bipush (-2), 2) := by decide +kernel
theorem dX12_refusesRule_34 : decode cX12_refusesRule 34 = .ok (.goto 4, 3) := by decide +kernel
theorem dX12_refusesRule_37 : decode cX12_refusesRule 37 = .ok (.iconst 0, 1) := by decide +kernel
theorem dX12_refusesRule_38 : decode cX12_refusesRule 38 = .ok (.ireturn, 1) := by decide +kernel
theorem dX12_goRule_0 : decode cX12_goRule 0 = .ok (.aload_n 0, 1) := by decide +kernel
theorem dX12_goRule_1 : decode cX12_goRule 1 = .ok (.getfield 9, 3) := by decide +kernel
theorem dX12_goRule_4 : decode cX12_goRule 4 = .ok (.iload_n 1, 1) := by decide +kernel
theorem dX12_goRule_5 : decode cX12_goRule 5 = .ok (.iload_n 2, 1) := by decide +kernel
theorem dX12_goRule_6 : decode cX12_goRule 6 = .ok (.invokestatic 324, 3) := by decide +kernel
theorem dX12_goRule_9 : decode cX12_goRule 9 = .ok (.iconst 4, 1) := by decide +kernel
theorem dX12_goRule_10 : decode cX12_goRule 10 = .ok (.iadd, 1) := by decide +kernel
theorem dX12_goRule_11 : decode cX12_goRule 11 = .ok (.iload_n 3, 1) := by decide +kernel
theorem dX12_goRule_12 : decode cX12_goRule 12 = .ok (.ifCond .eq 7, 3) := by decide +kernel
theorem dX12_goRule_15 : decode cX12_goRule 15 = .ok (.iconst 0, 1) := by decide +kernel
theorem dX12_goRule_16 : decode cX12_goRule 16 = .ok (.goto 4, 3) := by decide +kernel
theorem dX12_goRule_19 : decode cX12_goRule 19 = .ok (.iconst 1, 1) := by decide +kernel
theorem dX12_goRule_20 : decode cX12_goRule 20 = .ok (.iastore, 1) := by decide +kernel
theorem dX12_goRule_21 : decode cX12_goRule 21 = .ok (.return_, 1) := by decide +kernel
theorem dX12_inMany_0 : decode cX12_inMany 0 = .ok (.iconst 0, 1) := by decide +kernel
theorem dX12_inMany_1 : decode cX12_inMany 1 = .ok (.istore_n 2, 1) := by decide +kernel
theorem dX12_inMany_2 : decode cX12_inMany 2 = .ok (.iconst 0, 1) := by decide +kernel
theorem dX12_inMany_3 : decode cX12_inMany 3 = .ok (.istore_n 3, 1) := by decide +kernel
theorem dX12_inMany_4 : decode cX12_inMany 4 = .ok (.iload_n 3, 1) := by decide +kernel
theorem dX12_inMany_5 : decode cX12_inMany 5 = .ok (.aload_n 0, 1) := by decide +kernel
theorem dX12_inMany_6 : decode cX12_inMany 6 = .ok (.getfield 9, 3) := by decide +kernel
theorem dX12_inMany_9 : decode cX12_inMany 9 = .ok (.iconst 2, 1) := by decide +kernel
theorem dX12_inMany_10 : decode cX12_inMany 10 = .ok (.iload_n 1, 1) := by decide +kernel
theorem dX12_inMany_11 : decode cX12_inMany 11 = .ok (.iadd, 1) := by decide +kernel
theorem dX12_inMany_12 : decode cX12_inMany 12 = .ok (.iaload, 1) := by decide +kernel
theorem dX12_inMany_13 : decode cX12_inMany 13 = .ok (.if_icmp .ge 19, 3) := by decide +kernel
theorem dX12_inMany_16 : decode cX12_inMany 16 = .ok (.iload_n 2, 1) := by decide +kernel
theorem dX12_inMany_17 : decode cX12_inMany 17 = .ok (.aload_n 0, 1) := by decide +kernel
theorem dX12_inMany_18 : decode cX12_inMany 18 = .ok (.iload_n 1, 1) := by decide +kernel
theorem dX12_inMany_19 : decode cX12_inMany 19 = .ok (.iload_n 3, 1) := by decide +kernel
theorem dX12_inMany_20 : decode cX12_inMany 20 = .ok (.iconst 4, 1) := by decide +kernel
theorem dX12_inMany_21 : decode cX12_inMany 21 = .ok (.invokevirtual 333, 3) := by decide +kernel
theorem dX12_inMany_24 : decode cX12_inMany 24 = .ok (.iadd, 1) := by decide +kernel
theorem dX12_inMany_25 : decode cX12_inMany 25 = .ok (.istore_n 2, 1) := by decide +kernel
theorem dX12_inMany_26 : decode cX12_inMany 26 = .ok (.iinc 3 1, 3) := by decide +kernel
theorem dX12_inMany_29 : decode cX12_inMany 29 = .ok (.goto (-25), 3) := by decide +kernel
theorem dX12_inMany_32 : decode cX12_inMany 32 = .ok (.iload_n 2, 1) := by decide +kernel
theorem dX12_inMany_33 : decode cX12_inMany 33 = .ok (.ireturn, 1) := by decide +kernel
theorem dX12_rules_0 : decode cX12_rules 0 = .ok (.aload_n 0, 1) := by decide +kernel
theorem dX12_rules_1 : decode cX12_rules 1 = .ok (.iconst 0, 1) := by decide +kernel
theorem dX12_rules_2 : decode cX12_rules 2 = .ok (.putfield 55, 3) := by decide +kernel
theorem dX12_rules_5 : decode cX12_rules 5 = .ok (.aload_n 0, 1) := by decide +kernel
theorem dX12_rules_6 : decode cX12_rules 6 = .ok (.iload_n 1, 1) := by decide +kernel
theorem dX12_rules_7 : decode cX12_rules 7 = .ok (.iload_n 2, 1) := by decide +kernel
theorem dX12_rules_8 : decode cX12_rules 8 = .ok (.iload_n 3, 1) := by decide +kernel
theorem dX12_rules_9 : decode cX12_rules 9 = .ok (.invokevirtual 457, 3) := by decide +kernel
theorem dX12_rules_12 : decode cX12_rules 12 = .ok (.istore 4, 2) := by decide +kernel
theorem dX12_rules_14 : decode cX12_rules 14 = .ok (.iload 4, 2) := by decide +kernel
theorem dX12_rules_16 : decode cX12_rules 16 = .ok (.ifCond .ge 6, 3) := by decide +kernel
theorem dX12_rules_19 : decode cX12_rules 19 = .ok (.iload 4, 2) := by decide +kernel
theorem dX12_rules_21 : decode cX12_rules 21 = .ok (.ireturn, 1) := by decide +kernel
theorem dX12_rules_22 : decode cX12_rules 22 = .ok (.aload_n 0, 1) := by decide +kernel
theorem dX12_rules_23 : decode cX12_rules 23 = .ok (.invokevirtual 344, 3) := by decide +kernel
theorem dX12_rules_26 : decode cX12_rules 26 = .ok (.aload_n 0, 1) := by decide +kernel
theorem dX12_rules_27 : decode cX12_rules 27 = .ok (.iload_n 1, 1) := by decide +kernel
theorem dX12_rules_28 : decode cX12_rules 28 = .ok (.iload_n 2, 1) := by decide +kernel
theorem dX12_rules_29 : decode cX12_rules 29 = .ok (.iload_n 3, 1) := by decide +kernel
theorem dX12_rules_30 : decode cX12_rules 30 = .ok (.invokevirtual 461, 3) := by decide +kernel
theorem dX12_rules_33 : decode cX12_rules 33 = .ok (.aload_n 0, 1) := by decide +kernel
theorem dX12_rules_34 : decode cX12_rules 34 = .ok (.iload_n 1, 1) := by decide +kernel
theorem dX12_rules_35 : decode cX12_rules 35 = .ok (.invokevirtual 465, 3) := by decide +kernel
theorem dX12_rules_38 : decode cX12_rules 38 = .ok (.ireturn, 1) := by decide +kernel
theorem dX12_refusesNarrow_0 : decode cX12_refusesNarrow 0 = .ok (.aload_n 0, 1) := by decide +kernel
theorem dX12_refusesNarrow_1 : decode cX12_refusesNarrow 1 = .ok (.invokevirtual 388, 3) := by decide +kernel
theorem dX12_refusesNarrow_4 : decode cX12_refusesNarrow 4 = .ok (.aload_n 0, 1) := by decide +kernel
theorem dX12_refusesNarrow_5 : decode cX12_refusesNarrow 5 = .ok (.getfield 357, 3) := by decide +kernel
theorem dX12_refusesNarrow_8 : decode cX12_refusesNarrow 8 = .ok (.ifCond .ne 6, 3) := by decide +kernel
theorem dX12_refusesNarrow_11 : decode cX12_refusesNarrow 11 = .ok (.bipush (-3), 2) := by decide +kernel
theorem dX12_refusesNarrow_13 : decode cX12_refusesNarrow 13 = .ok (.ireturn, 1) := by decide +kernel
theorem dX12_refusesNarrow_14 : decode cX12_refusesNarrow 14 = .ok (.iconst 0, 1) := by decide +kernel
theorem dX12_refusesNarrow_15 : decode cX12_refusesNarrow 15 = .ok (.istore_n 1, 1) := by decide +kernel
theorem dX12_refusesNarrow_16 : decode cX12_refusesNarrow 16 = .ok (.iconst 0, 1) := by decide +kernel
theorem dX12_refusesNarrow_17 : decode cX12_refusesNarrow 17 = .ok (.istore_n 2, 1) := by decide +kernel
theorem dX12_refusesNarrow_18 : decode cX12_refusesNarrow 18 = .ok (.iload_n 2, 1) := by decide +kernel
theorem dX12_refusesNarrow_19 : decode cX12_refusesNarrow 19 = .ok (.bipush 6, 2) := by decide +kernel
theorem dX12_refusesNarrow_21 : decode cX12_refusesNarrow 21 = .ok (.if_icmp .ge 23, 3) := by decide +kernel
theorem dX12_refusesNarrow_24 : decode cX12_refusesNarrow 24 = .ok (.iload_n 1, 1) := by decide +kernel
theorem dX12_refusesNarrow_25 : decode cX12_refusesNarrow 25 = .ok (.aload_n 0, 1) := by decide +kernel
theorem dX12_refusesNarrow_26 : decode cX12_refusesNarrow 26 = .ok (.iload_n 2, 1) := by decide +kernel
theorem dX12_refusesNarrow_27 : decode cX12_refusesNarrow 27 = .ok (.invokevirtual 465, 3) := by decide +kernel
theorem dX12_refusesNarrow_30 : decode cX12_refusesNarrow 30 = .ok (.aload_n 0, 1) := by decide +kernel
theorem dX12_refusesNarrow_31 : decode cX12_refusesNarrow 31 = .ok (.iload_n 2, 1) := by decide +kernel
theorem dX12_refusesNarrow_32 : decode cX12_refusesNarrow 32 = .ok (.invokevirtual 385, 3) := by decide +kernel
theorem dX12_refusesNarrow_35 : decode cX12_refusesNarrow 35 = .ok (.isub, 1) := by decide +kernel
theorem dX12_refusesNarrow_36 : decode cX12_refusesNarrow 36 = .ok (.iadd, 1) := by decide +kernel
theorem dX12_refusesNarrow_37 : decode cX12_refusesNarrow 37 = .ok (.istore_n 1, 1) := by decide +kernel
theorem dX12_refusesNarrow_38 : decode cX12_refusesNarrow 38 = .ok (.iinc 2 1, 3) := by decide +kernel
theorem dX12_refusesNarrow_41 : decode cX12_refusesNarrow 41 = .ok (.goto (-23), 3) := by decide +kernel
theorem dX12_refusesNarrow_44 : decode cX12_refusesNarrow 44 = .ok (.iload_n 1, 1) := by decide +kernel
theorem dX12_refusesNarrow_45 : decode cX12_refusesNarrow 45 = .ok (.ifCond .ne 8, 3) := by decide +kernel
theorem dX12_refusesNarrow_48 : decode cX12_refusesNarrow 48 = .ok (.bipush (-2), 2) := by decide +kernel
theorem dX12_refusesNarrow_50 : decode cX12_refusesNarrow 50 = .ok (.goto 4, 3) := by decide +kernel
theorem dX12_refusesNarrow_53 : decode cX12_refusesNarrow 53 = .ok (.iload_n 1, 1) := by decide +kernel
theorem dX12_refusesNarrow_54 : decode cX12_refusesNarrow 54 = .ok (.ireturn, 1) := by decide +kernel
theorem dX12_goNarrow_0 : decode cX12_goNarrow 0 = .ok (.iconst 0, 1) := by decide +kernel
theorem dX12_goNarrow_1 : decode cX12_goNarrow 1 = .ok (.istore_n 1, 1) := by decide +kernel
theorem dX12_goNarrow_2 : decode cX12_goNarrow 2 = .ok (.iload_n 1, 1) := by decide +kernel
theorem dX12_goNarrow_3 : decode cX12_goNarrow 3 = .ok (.bipush 6, 2) := by decide +kernel
theorem dX12_goNarrow_5 : decode cX12_goNarrow 5 = .ok (.if_icmp .ge 51, 3) := by decide +kernel
theorem dX12_goNarrow_8 : decode cX12_goNarrow 8 = .ok (.iconst 0, 1) := by decide +kernel
theorem dX12_goNarrow_9 : decode cX12_goNarrow 9 = .ok (.istore_n 2, 1) := by decide +kernel
theorem dX12_goNarrow_10 : decode cX12_goNarrow 10 = .ok (.iload_n 2, 1) := by decide +kernel
theorem dX12_goNarrow_11 : decode cX12_goNarrow 11 = .ok (.aload_n 0, 1) := by decide +kernel
theorem dX12_goNarrow_12 : decode cX12_goNarrow 12 = .ok (.getfield 9, 3) := by decide +kernel
theorem dX12_goNarrow_15 : decode cX12_goNarrow 15 = .ok (.iconst 2, 1) := by decide +kernel
theorem dX12_goNarrow_16 : decode cX12_goNarrow 16 = .ok (.iload_n 1, 1) := by decide +kernel
theorem dX12_goNarrow_17 : decode cX12_goNarrow 17 = .ok (.iadd, 1) := by decide +kernel
theorem dX12_goNarrow_18 : decode cX12_goNarrow 18 = .ok (.iaload, 1) := by decide +kernel
theorem dX12_goNarrow_19 : decode cX12_goNarrow 19 = .ok (.if_icmp .ge 31, 3) := by decide +kernel
theorem dX12_goNarrow_22 : decode cX12_goNarrow 22 = .ok (.aload_n 0, 1) := by decide +kernel
theorem dX12_goNarrow_23 : decode cX12_goNarrow 23 = .ok (.iload_n 1, 1) := by decide +kernel
theorem dX12_goNarrow_24 : decode cX12_goNarrow 24 = .ok (.iload_n 2, 1) := by decide +kernel
theorem dX12_goNarrow_25 : decode cX12_goNarrow 25 = .ok (.invokevirtual 381, 3) := by decide +kernel
theorem dX12_goNarrow_28 : decode cX12_goNarrow 28 = .ok (.ifCond .ne 16, 3) := by decide +kernel
theorem dX12_goNarrow_31 : decode cX12_goNarrow 31 = .ok (.aload_n 0, 1) := by decide +kernel
theorem dX12_goNarrow_32 : decode cX12_goNarrow 32 = .ok (.getfield 9, 3) := by decide +kernel
theorem dX12_goNarrow_35 : decode cX12_goNarrow 35 = .ok (.iload_n 1, 1) := by decide +kernel
theorem dX12_goNarrow_36 : decode cX12_goNarrow 36 = .ok (.iload_n 2, 1) := by decide +kernel
theorem dX12_goNarrow_37 : decode cX12_goNarrow 37 = .ok (.invokestatic 324, 3) := by decide +kernel
theorem dX12_goNarrow_40 : decode cX12_goNarrow 40 = .ok (.iconst 4, 1) := by decide +kernel
theorem dX12_goNarrow_41 : decode cX12_goNarrow 41 = .ok (.iadd, 1) := by decide +kernel
theorem dX12_goNarrow_42 : decode cX12_goNarrow 42 = .ok (.iconst 0, 1) := by decide +kernel
theorem dX12_goNarrow_43 : decode cX12_goNarrow 43 = .ok (.iastore, 1) := by decide +kernel
theorem dX12_goNarrow_44 : decode cX12_goNarrow 44 = .ok (.iinc 2 1, 3) := by decide +kernel
theorem dX12_goNarrow_47 : decode cX12_goNarrow 47 = .ok (.goto (-37), 3) := by decide +kernel
theorem dX12_goNarrow_50 : decode cX12_goNarrow 50 = .ok (.iinc 1 1, 3) := by decide +kernel
theorem dX12_goNarrow_53 : decode cX12_goNarrow 53 = .ok (.goto (-51), 3) := by decide +kernel
theorem dX12_goNarrow_56 : decode cX12_goNarrow 56 = .ok (.return_, 1) := by decide +kernel
theorem dX12_narrows_0 : decode cX12_narrows 0 = .ok (.aload_n 0, 1) := by decide +kernel
theorem dX12_narrows_1 : decode cX12_narrows 1 = .ok (.iconst 0, 1) := by decide +kernel
theorem dX12_narrows_2 : decode cX12_narrows 2 = .ok (.putfield 55, 3) := by decide +kernel
theorem dX12_narrows_5 : decode cX12_narrows 5 = .ok (.aload_n 0, 1) := by decide +kernel
theorem dX12_narrows_6 : decode cX12_narrows 6 = .ok (.invokevirtual 468, 3) := by decide +kernel
theorem dX12_narrows_9 : decode cX12_narrows 9 = .ok (.istore_n 1, 1) := by decide +kernel
theorem dX12_narrows_10 : decode cX12_narrows 10 = .ok (.iload_n 1, 1) := by decide +kernel
theorem dX12_narrows_11 : decode cX12_narrows 11 = .ok (.ifCond .ge 5, 3) := by decide +kernel
theorem dX12_narrows_14 : decode cX12_narrows 14 = .ok (.iload_n 1, 1) := by decide +kernel
theorem dX12_narrows_15 : decode cX12_narrows 15 = .ok (.ireturn, 1) := by decide +kernel
theorem dX12_narrows_16 : decode cX12_narrows 16 = .ok (.aload_n 0, 1) := by decide +kernel
theorem dX12_narrows_17 : decode cX12_narrows 17 = .ok (.invokevirtual 344, 3) := by decide +kernel
theorem dX12_narrows_20 : decode cX12_narrows 20 = .ok (.aload_n 0, 1) := by decide +kernel
theorem dX12_narrows_21 : decode cX12_narrows 21 = .ok (.invokevirtual 471, 3) := by decide +kernel
theorem dX12_narrows_24 : decode cX12_narrows 24 = .ok (.iload_n 1, 1) := by decide +kernel
theorem dX12_narrows_25 : decode cX12_narrows 25 = .ok (.ireturn, 1) := by decide +kernel
theorem dX12_toldMany_0 : decode cX12_toldMany 0 = .ok (.iconst 0, 1) := by decide +kernel
theorem dX12_toldMany_1 : decode cX12_toldMany 1 = .ok (.istore_n 1, 1) := by decide +kernel
theorem dX12_toldMany_2 : decode cX12_toldMany 2 = .ok (.iconst 0, 1) := by decide +kernel
theorem dX12_toldMany_3 : decode cX12_toldMany 3 = .ok (.istore_n 2, 1) := by decide +kernel
theorem dX12_toldMany_4 : decode cX12_toldMany 4 = .ok (.iload_n 2, 1) := by decide +kernel
theorem dX12_toldMany_5 : decode cX12_toldMany 5 = .ok (.bipush 6, 2) := by decide +kernel
theorem dX12_toldMany_7 : decode cX12_toldMany 7 = .ok (.if_icmp .ge 25, 3) := by decide +kernel
theorem dX12_toldMany_10 : decode cX12_toldMany 10 = .ok (.iload_n 1, 1) := by decide +kernel
theorem dX12_toldMany_11 : decode cX12_toldMany 11 = .ok (.aload_n 0, 1) := by decide +kernel
theorem dX12_toldMany_12 : decode cX12_toldMany 12 = .ok (.iload_n 2, 1) := by decide +kernel
theorem dX12_toldMany_13 : decode cX12_toldMany 13 = .ok (.invokevirtual 330, 3) := by decide +kernel
theorem dX12_toldMany_16 : decode cX12_toldMany 16 = .ok (.ifCond .eq 7, 3) := by decide +kernel
theorem dX12_toldMany_19 : decode cX12_toldMany 19 = .ok (.iconst 1, 1) := by decide +kernel
theorem dX12_toldMany_20 : decode cX12_toldMany 20 = .ok (.goto 4, 3) := by decide +kernel
theorem dX12_toldMany_23 : decode cX12_toldMany 23 = .ok (.iconst 0, 1) := by decide +kernel
theorem dX12_toldMany_24 : decode cX12_toldMany 24 = .ok (.iadd, 1) := by decide +kernel
theorem dX12_toldMany_25 : decode cX12_toldMany 25 = .ok (.istore_n 1, 1) := by decide +kernel
theorem dX12_toldMany_26 : decode cX12_toldMany 26 = .ok (.iinc 2 1, 3) := by decide +kernel
theorem dX12_toldMany_29 : decode cX12_toldMany 29 = .ok (.goto (-25), 3) := by decide +kernel
theorem dX12_toldMany_32 : decode cX12_toldMany 32 = .ok (.iload_n 1, 1) := by decide +kernel
theorem dX12_toldMany_33 : decode cX12_toldMany 33 = .ok (.ireturn, 1) := by decide +kernel
theorem dX12_goDrop_0 : decode cX12_goDrop 0 = .ok (.aload_n 0, 1) := by decide +kernel
theorem dX12_goDrop_1 : decode cX12_goDrop 1 = .ok (.getfield 9, 3) := by decide +kernel
theorem dX12_goDrop_4 : decode cX12_goDrop 4 = .ok (.iconst 2, 1) := by decide +kernel
theorem dX12_goDrop_5 : decode cX12_goDrop 5 = .ok (.iload_n 1, 1) := by decide +kernel
theorem dX12_goDrop_6 : decode cX12_goDrop 6 = .ok (.iadd, 1) := by decide +kernel
theorem dX12_goDrop_7 : decode cX12_goDrop 7 = .ok (.iconst (-1), 1) := by decide +kernel
theorem dX12_goDrop_8 : decode cX12_goDrop 8 = .ok (.iastore, 1) := by decide +kernel
theorem dX12_goDrop_9 : decode cX12_goDrop 9 = .ok (.iload_n 1, 1) := by decide +kernel
theorem dX12_goDrop_10 : decode cX12_goDrop 10 = .ok (.iconst 0, 1) := by decide +kernel
theorem dX12_goDrop_11 : decode cX12_goDrop 11 = .ok (.invokestatic 324, 3) := by decide +kernel
theorem dX12_goDrop_14 : decode cX12_goDrop 14 = .ok (.istore_n 2, 1) := by decide +kernel
theorem dX12_goDrop_15 : decode cX12_goDrop 15 = .ok (.iload_n 2, 1) := by decide +kernel
theorem dX12_goDrop_16 : decode cX12_goDrop 16 = .ok (.iload_n 1, 1) := by decide +kernel
theorem dX12_goDrop_17 : decode cX12_goDrop 17 = .ok (.bipush 6, 2) := by decide +kernel
theorem dX12_goDrop_19 : decode cX12_goDrop 19 = .ok (.invokestatic 324, 3) := by decide +kernel
theorem dX12_goDrop_22 : decode cX12_goDrop 22 = .ok (.if_icmp .ge 16, 3) := by decide +kernel
theorem dX12_goDrop_25 : decode cX12_goDrop 25 = .ok (.aload_n 0, 1) := by decide +kernel
theorem dX12_goDrop_26 : decode cX12_goDrop 26 = .ok (.getfield 9, 3) := by decide +kernel
theorem dX12_goDrop_29 : decode cX12_goDrop 29 = .ok (.iload_n 2, 1) := by decide +kernel
theorem dX12_goDrop_30 : decode cX12_goDrop 30 = .ok (.iconst 0, 1) := by decide +kernel
theorem dX12_goDrop_31 : decode cX12_goDrop 31 = .ok (.iastore, 1) := by decide +kernel
theorem dX12_goDrop_32 : decode cX12_goDrop 32 = .ok (.iinc 2 1, 3) := by decide +kernel
theorem dX12_goDrop_35 : decode cX12_goDrop 35 = .ok (.goto (-20), 3) := by decide +kernel
theorem dX12_goDrop_38 : decode cX12_goDrop 38 = .ok (.return_, 1) := by decide +kernel
theorem dX12_drops_0 : decode cX12_drops 0 = .ok (.aload_n 0, 1) := by decide +kernel
theorem dX12_drops_1 : decode cX12_drops 1 = .ok (.iconst 0, 1) := by decide +kernel
theorem dX12_drops_2 : decode cX12_drops 2 = .ok (.putfield 55, 3) := by decide +kernel
theorem dX12_drops_5 : decode cX12_drops 5 = .ok (.aload_n 0, 1) := by decide +kernel
theorem dX12_drops_6 : decode cX12_drops 6 = .ok (.iload_n 1, 1) := by decide +kernel
theorem dX12_drops_7 : decode cX12_drops 7 = .ok (.invokevirtual 321, 3) := by decide +kernel
theorem dX12_drops_10 : decode cX12_drops 10 = .ok (.ifCond .ne 5, 3) := by decide +kernel
theorem dX12_drops_13 : decode cX12_drops 13 = .ok (.iconst (-1), 1) := by decide +kernel
theorem dX12_drops_14 : decode cX12_drops 14 = .ok (.ireturn, 1) := by decide +kernel
theorem dX12_drops_15 : decode cX12_drops 15 = .ok (.aload_n 0, 1) := by decide +kernel
theorem dX12_drops_16 : decode cX12_drops 16 = .ok (.iload_n 1, 1) := by decide +kernel
theorem dX12_drops_17 : decode cX12_drops 17 = .ok (.invokevirtual 330, 3) := by decide +kernel
theorem dX12_drops_20 : decode cX12_drops 20 = .ok (.ifCond .ne 6, 3) := by decide +kernel
theorem dX12_drops_23 : decode cX12_drops 23 = .ok (.bipush (-2), 2) := by decide +kernel
theorem dX12_drops_25 : decode cX12_drops 25 = .ok (.ireturn, 1) := by decide +kernel
theorem dX12_drops_26 : decode cX12_drops 26 = .ok (.aload_n 0, 1) := by decide +kernel
theorem dX12_drops_27 : decode cX12_drops 27 = .ok (.invokevirtual 344, 3) := by decide +kernel
theorem dX12_drops_30 : decode cX12_drops 30 = .ok (.aload_n 0, 1) := by decide +kernel
theorem dX12_drops_31 : decode cX12_drops 31 = .ok (.iload_n 1, 1) := by decide +kernel
theorem dX12_drops_32 : decode cX12_drops 32 = .ok (.invokevirtual 474, 3) := by decide +kernel
theorem dX12_drops_35 : decode cX12_drops 35 = .ok (.aload_n 0, 1) := by decide +kernel
theorem dX12_drops_36 : decode cX12_drops 36 = .ok (.invokevirtual 477, 3) := by decide +kernel
theorem dX12_drops_39 : decode cX12_drops 39 = .ok (.ireturn, 1) := by decide +kernel
theorem dX12_goes_0 : decode cX12_goes 0 = .ok (.aload_n 0, 1) := by decide +kernel
theorem dX12_goes_1 : decode cX12_goes 1 = .ok (.iconst 0, 1) := by decide +kernel
theorem dX12_goes_2 : decode cX12_goes 2 = .ok (.putfield 55, 3) := by decide +kernel
theorem dX12_goes_5 : decode cX12_goes 5 = .ok (.iload_n 1, 1) := by decide +kernel
theorem dX12_goes_6 : decode cX12_goes 6 = .ok (.iconst 0, 1) := by decide +kernel
theorem dX12_goes_7 : decode cX12_goes 7 = .ok (.aload_n 0, 1) := by decide +kernel
theorem dX12_goes_8 : decode cX12_goes 8 = .ok (.getfield 9, 3) := by decide +kernel
theorem dX12_goes_11 : decode cX12_goes 11 = .ok (.iconst 1, 1) := by decide +kernel
theorem dX12_goes_12 : decode cX12_goes 12 = .ok (.iaload, 1) := by decide +kernel
theorem dX12_goes_13 : decode cX12_goes 13 = .ok (.iconst 1, 1) := by decide +kernel
theorem dX12_goes_14 : decode cX12_goes 14 = .ok (.isub, 1) := by decide +kernel
theorem dX12_goes_15 : decode cX12_goes 15 = .ok (.invokestatic 62, 3) := by decide +kernel
theorem dX12_goes_18 : decode cX12_goes 18 = .ok (.ifCond .ne 5, 3) := by decide +kernel
theorem dX12_goes_21 : decode cX12_goes 21 = .ok (.iconst (-1), 1) := by decide +kernel
theorem dX12_goes_22 : decode cX12_goes 22 = .ok (.ireturn, 1) := by decide +kernel
theorem dX12_goes_23 : decode cX12_goes 23 = .ok (.aload_n 0, 1) := by decide +kernel
theorem dX12_goes_24 : decode cX12_goes 24 = .ok (.invokevirtual 344, 3) := by decide +kernel
theorem dX12_goes_27 : decode cX12_goes 27 = .ok (.aload_n 0, 1) := by decide +kernel
theorem dX12_goes_28 : decode cX12_goes 28 = .ok (.iload_n 1, 1) := by decide +kernel
theorem dX12_goes_29 : decode cX12_goes 29 = .ok (.invokevirtual 427, 3) := by decide +kernel
theorem dX12_goes_32 : decode cX12_goes 32 = .ok (.aload_n 0, 1) := by decide +kernel
theorem dX12_goes_33 : decode cX12_goes 33 = .ok (.getfield 9, 3) := by decide +kernel
theorem dX12_goes_36 : decode cX12_goes 36 = .ok (.iconst 1, 1) := by decide +kernel
theorem dX12_goes_37 : decode cX12_goes 37 = .ok (.iaload, 1) := by decide +kernel
theorem dX12_goes_38 : decode cX12_goes 38 = .ok (.ireturn, 1) := by decide +kernel
theorem dX12_digit_0 : decode cX12_digit 0 = .ok (.aload_n 0, 1) := by decide +kernel
theorem dX12_digit_1 : decode cX12_digit 1 = .ok (.invokevirtual 121, 3) := by decide +kernel
theorem dX12_digit_4 : decode cX12_digit 4 = .ok (.ifCond .ne 5, 3) := by decide +kernel
theorem dX12_digit_7 : decode cX12_digit 7 = .ok (.iconst 0, 1) := by decide +kernel
theorem dX12_digit_8 : decode cX12_digit 8 = .ok (.ireturn, 1) := by decide +kernel
theorem dX12_digit_9 : decode cX12_digit 9 = .ok (.aload_n 0, 1) := by decide +kernel
theorem dX12_digit_10 : decode cX12_digit 10 = .ok (.invokevirtual 129, 3) := by decide +kernel
theorem dX12_digit_13 : decode cX12_digit 13 = .ok (.bipush 48, 2) := by decide +kernel
theorem dX12_digit_15 : decode cX12_digit 15 = .ok (.bipush 57, 2) := by decide +kernel
theorem dX12_digit_17 : decode cX12_digit 17 = .ok (.invokestatic 62, 3) := by decide +kernel
theorem dX12_digit_20 : decode cX12_digit 20 = .ok (.ifCond .ne 13, 3) := by decide +kernel
theorem dX12_digit_23 : decode cX12_digit 23 = .ok (.aload_n 0, 1) := by decide +kernel
theorem dX12_digit_24 : decode cX12_digit 24 = .ok (.aload_n 0, 1) := by decide +kernel
theorem dX12_digit_25 : decode cX12_digit 25 = .ok (.getfield 115, 3) := by decide +kernel
theorem dX12_digit_28 : decode cX12_digit 28 = .ok (.invokevirtual 125, 3) := by decide +kernel
theorem dX12_digit_31 : decode cX12_digit 31 = .ok (.iconst 0, 1) := by decide +kernel
theorem dX12_digit_32 : decode cX12_digit 32 = .ok (.ireturn, 1) := by decide +kernel
theorem dX12_digit_33 : decode cX12_digit 33 = .ok (.aload_n 0, 1) := by decide +kernel
theorem dX12_digit_34 : decode cX12_digit 34 = .ok (.dup, 1) := by decide +kernel
theorem dX12_digit_35 : decode cX12_digit 35 = .ok (.getfield 115, 3) := by decide +kernel
theorem dX12_digit_38 : decode cX12_digit 38 = .ok (.iconst 1, 1) := by decide +kernel
theorem dX12_digit_39 : decode cX12_digit 39 = .ok (.iadd, 1) := by decide +kernel
theorem dX12_digit_40 : decode cX12_digit 40 = .ok (.putfield 115, 3) := by decide +kernel
theorem dX12_digit_43 : decode cX12_digit 43 = .ok (.aload_n 0, 1) := by decide +kernel
theorem dX12_digit_44 : decode cX12_digit 44 = .ok (.getfield 13, 3) := by decide +kernel
theorem dX12_digit_47 : decode cX12_digit 47 = .ok (.aload_n 0, 1) := by decide +kernel
theorem dX12_digit_48 : decode cX12_digit 48 = .ok (.getfield 115, 3) := by decide +kernel
theorem dX12_digit_51 : decode cX12_digit 51 = .ok (.iconst 1, 1) := by decide +kernel
theorem dX12_digit_52 : decode cX12_digit 52 = .ok (.isub, 1) := by decide +kernel
theorem dX12_digit_53 : decode cX12_digit 53 = .ok (.baload, 1) := by decide +kernel
theorem dX12_digit_54 : decode cX12_digit 54 = .ok (.bipush 48, 2) := by decide +kernel
theorem dX12_digit_56 : decode cX12_digit 56 = .ok (.isub, 1) := by decide +kernel
theorem dX12_digit_57 : decode cX12_digit 57 = .ok (.ireturn, 1) := by decide +kernel
theorem dX12_readAct_0 : decode cX12_readAct 0 = .ok (.aload_n 0, 1) := by decide +kernel
theorem dX12_readAct_1 : decode cX12_readAct 1 = .ok (.invokevirtual 129, 3) := by decide +kernel
theorem dX12_readAct_4 : decode cX12_readAct 4 = .ok (.istore_n 2, 1) := by decide +kernel
theorem dX12_readAct_5 : decode cX12_readAct 5 = .ok (.iload_n 2, 1) := by decide +kernel
theorem dX12_readAct_6 : decode cX12_readAct 6 = .ok (.bipush 111, 2) := by decide +kernel
theorem dX12_readAct_8 : decode cX12_readAct 8 = .ok (.if_icmp .eq 48, 3) := by decide +kernel
theorem dX12_readAct_11 : decode cX12_readAct 11 = .ok (.iload_n 2, 1) := by decide +kernel
theorem dX12_readAct_12 : decode cX12_readAct 12 = .ok (.bipush 103, 2) := by decide +kernel
theorem dX12_readAct_14 : decode cX12_readAct 14 = .ok (.if_icmp .eq 42, 3) := by decide +kernel
theorem dX12_readAct_17 : decode cX12_readAct 17 = .ok (.iload_n 2, 1) := by decide +kernel
theorem dX12_readAct_18 : decode cX12_readAct 18 = .ok (.bipush 114, 2) := by decide +kernel
theorem dX12_readAct_20 : decode cX12_readAct 20 = .ok (.if_icmp .eq 36, 3) := by decide +kernel
theorem dX12_readAct_23 : decode cX12_readAct 23 = .ok (.iload_n 2, 1) := by decide +kernel
theorem dX12_readAct_24 : decode cX12_readAct 24 = .ok (.bipush 105, 2) := by decide +kernel
theorem dX12_readAct_26 : decode cX12_readAct 26 = .ok (.if_icmp .eq 30, 3) := by decide +kernel
theorem dX12_readAct_29 : decode cX12_readAct 29 = .ok (.iload_n 2, 1) := by decide +kernel
theorem dX12_readAct_30 : decode cX12_readAct 30 = .ok (.bipush 110, 2) := by decide +kernel
theorem dX12_readAct_32 : decode cX12_readAct 32 = .ok (.if_icmp .eq 24, 3) := by decide +kernel
theorem dX12_readAct_35 : decode cX12_readAct 35 = .ok (.iload_n 2, 1) := by decide +kernel
theorem dX12_readAct_36 : decode cX12_readAct 36 = .ok (.bipush 100, 2) := by decide +kernel
theorem dX12_readAct_38 : decode cX12_readAct 38 = .ok (.if_icmp .eq 18, 3) := by decide +kernel
theorem dX12_readAct_41 : decode cX12_readAct 41 = .ok (.iload_n 2, 1) := by decide +kernel
theorem dX12_readAct_42 : decode cX12_readAct 42 = .ok (.bipush 102, 2) := by decide +kernel
theorem dX12_readAct_44 : decode cX12_readAct 44 = .ok (.if_icmp .eq 12, 3) := by decide +kernel
theorem dX12_readAct_47 : decode cX12_readAct 47 = .ok (.aload_n 0, 1) := by decide +kernel
theorem dX12_readAct_48 : decode cX12_readAct 48 = .ok (.aload_n 0, 1) := by decide +kernel
theorem dX12_readAct_49 : decode cX12_readAct 49 = .ok (.getfield 115, 3) := by decide +kernel
theorem dX12_readAct_52 : decode cX12_readAct 52 = .ok (.invokevirtual 125, 3) := by decide +kernel
theorem dX12_readAct_55 : decode cX12_readAct 55 = .ok (.return_, 1) := by decide +kernel
theorem dX12_readAct_56 : decode cX12_readAct 56 = .ok (.aload_n 0, 1) := by decide +kernel
theorem dX12_readAct_57 : decode cX12_readAct 57 = .ok (.dup, 1) := by decide +kernel
theorem dX12_readAct_58 : decode cX12_readAct 58 = .ok (.getfield 115, 3) := by decide +kernel
theorem dX12_readAct_61 : decode cX12_readAct 61 = .ok (.iconst 1, 1) := by decide +kernel
theorem dX12_readAct_62 : decode cX12_readAct 62 = .ok (.iadd, 1) := by decide +kernel
theorem dX12_readAct_63 : decode cX12_readAct 63 = .ok (.putfield 115, 3) := by decide +kernel
theorem dX12_readAct_66 : decode cX12_readAct 66 = .ok (.aload_n 0, 1) := by decide +kernel
theorem dX12_readAct_67 : decode cX12_readAct 67 = .ok (.getfield 45, 3) := by decide +kernel
theorem dX12_readAct_70 : decode cX12_readAct 70 = .ok (.iload_n 1, 1) := by decide +kernel
theorem dX12_readAct_71 : decode cX12_readAct 71 = .ok (.iload_n 2, 1) := by decide +kernel
theorem dX12_readAct_72 : decode cX12_readAct 72 = .ok (.iastore, 1) := by decide +kernel
theorem dX12_readAct_73 : decode cX12_readAct 73 = .ok (.iload_n 2, 1) := by decide +kernel
theorem dX12_readAct_74 : decode cX12_readAct 74 = .ok (.bipush 111, 2) := by decide +kernel
theorem dX12_readAct_76 : decode cX12_readAct 76 = .ok (.if_icmp .ne 7, 3) := by decide +kernel
theorem dX12_readAct_79 : decode cX12_readAct 79 = .ok (.iconst 3, 1) := by decide +kernel
theorem dX12_readAct_80 : decode cX12_readAct 80 = .ok (.goto 36, 3) := by decide +kernel
theorem dX12_readAct_83 : decode cX12_readAct 83 = .ok (.iload_n 2, 1) := by decide +kernel
theorem dX12_readAct_84 : decode cX12_readAct 84 = .ok (.bipush 114, 2) := by decide +kernel
theorem dX12_readAct_86 : decode cX12_readAct 86 = .ok (.if_icmp .eq 9, 3) := by decide +kernel
theorem dX12_readAct_89 : decode cX12_readAct 89 = .ok (.iload_n 2, 1) := by decide +kernel
theorem dX12_readAct_90 : decode cX12_readAct 90 = .ok (.bipush 105, 2) := by decide +kernel
theorem dX12_readAct_92 : decode cX12_readAct 92 = .ok (.if_icmp .ne 7, 3) := by decide +kernel
theorem dX12_readAct_95 : decode cX12_readAct 95 = .ok (.iconst 2, 1) := by decide +kernel
theorem dX12_readAct_96 : decode cX12_readAct 96 = .ok (.goto 20, 3) := by decide +kernel
theorem dX12_readAct_99 : decode cX12_readAct 99 = .ok (.iload_n 2, 1) := by decide +kernel
theorem dX12_readAct_100 : decode cX12_readAct 100 = .ok (.bipush 110, 2) := by decide +kernel
theorem dX12_readAct_102 : decode cX12_readAct 102 = .ok (.if_icmp .eq 9, 3) := by decide +kernel
theorem dX12_readAct_105 : decode cX12_readAct 105 = .ok (.iload_n 2, 1) := by decide +kernel
theorem dX12_readAct_106 : decode cX12_readAct 106 = .ok (.bipush 102, 2) := by decide +kernel
theorem dX12_readAct_108 : decode cX12_readAct 108 = .ok (.if_icmp .ne 7, 3) := by decide +kernel
theorem dX12_readAct_111 : decode cX12_readAct 111 = .ok (.iconst 0, 1) := by decide +kernel
theorem dX12_readAct_112 : decode cX12_readAct 112 = .ok (.goto 4, 3) := by decide +kernel
theorem dX12_readAct_115 : decode cX12_readAct 115 = .ok (.iconst 1, 1) := by decide +kernel
theorem dX12_readAct_116 : decode cX12_readAct 116 = .ok (.istore_n 3, 1) := by decide +kernel
theorem dX12_readAct_117 : decode cX12_readAct 117 = .ok (.iconst 1, 1) := by decide +kernel
theorem dX12_readAct_118 : decode cX12_readAct 118 = .ok (.istore 4, 2) := by decide +kernel
theorem dX12_readAct_120 : decode cX12_readAct 120 = .ok (.iload 4, 2) := by decide +kernel
theorem dX12_readAct_122 : decode cX12_readAct 122 = .ok (.iload_n 3, 1) := by decide +kernel
theorem dX12_readAct_123 : decode cX12_readAct 123 = .ok (.if_icmp .gt 22, 3) := by decide +kernel
theorem dX12_readAct_126 : decode cX12_readAct 126 = .ok (.aload_n 0, 1) := by decide +kernel
theorem dX12_readAct_127 : decode cX12_readAct 127 = .ok (.getfield 45, 3) := by decide +kernel
theorem dX12_readAct_130 : decode cX12_readAct 130 = .ok (.iload_n 1, 1) := by decide +kernel
theorem dX12_readAct_131 : decode cX12_readAct 131 = .ok (.iload 4, 2) := by decide +kernel
theorem dX12_readAct_133 : decode cX12_readAct 133 = .ok (.iadd, 1) := by decide +kernel
theorem dX12_readAct_134 : decode cX12_readAct 134 = .ok (.aload_n 0, 1) := by decide +kernel
theorem dX12_readAct_135 : decode cX12_readAct 135 = .ok (.invokevirtual 480, 3) := by decide +kernel
theorem dX12_readAct_138 : decode cX12_readAct 138 = .ok (.iastore, 1) := by decide +kernel
theorem dX12_readAct_139 : decode cX12_readAct 139 = .ok (.iinc 4 1, 3) := by decide +kernel
theorem dX12_readAct_142 : decode cX12_readAct 142 = .ok (.goto (-22), 3) := by decide +kernel
theorem dX12_readAct_145 : decode cX12_readAct 145 = .ok (.iload_n 2, 1) := by decide +kernel
theorem dX12_readAct_146 : decode cX12_readAct 146 = .ok (.bipush 102, 2) := by decide +kernel
theorem dX12_readAct_148 : decode cX12_readAct 148 = .ok (.if_icmp .eq 4, 3) := by decide +kernel
theorem dX12_readAct_151 : decode cX12_readAct 151 = .ok (.return_, 1) := by decide +kernel
theorem dX12_readAct_152 : decode cX12_readAct 152 = .ok (.aload_n 0, 1) := by decide +kernel
theorem dX12_readAct_153 : decode cX12_readAct 153 = .ok (.getfield 45, 3) := by decide +kernel
theorem dX12_readAct_156 : decode cX12_readAct 156 = .ok (.iload_n 1, 1) := by decide +kernel
theorem dX12_readAct_157 : decode cX12_readAct 157 = .ok (.iconst 1, 1) := by decide +kernel
theorem dX12_readAct_158 : decode cX12_readAct 158 = .ok (.iadd, 1) := by decide +kernel
theorem dX12_readAct_159 : decode cX12_readAct 159 = .ok (.iconst 0, 1) := by decide +kernel
theorem dX12_readAct_160 : decode cX12_readAct 160 = .ok (.iastore, 1) := by decide +kernel
theorem dX12_readAct_161 : decode cX12_readAct 161 = .ok (.iconst 0, 1) := by decide +kernel
theorem dX12_readAct_162 : decode cX12_readAct 162 = .ok (.istore 4, 2) := by decide +kernel
theorem dX12_readAct_164 : decode cX12_readAct 164 = .ok (.iload 4, 2) := by decide +kernel
theorem dX12_readAct_166 : decode cX12_readAct 166 = .ok (.iconst 4, 1) := by decide +kernel
theorem dX12_readAct_167 : decode cX12_readAct 167 = .ok (.if_icmp .ge 33, 3) := by decide +kernel
theorem dX12_readAct_170 : decode cX12_readAct 170 = .ok (.aload_n 0, 1) := by decide +kernel
theorem dX12_readAct_171 : decode cX12_readAct 171 = .ok (.getfield 45, 3) := by decide +kernel
theorem dX12_readAct_174 : decode cX12_readAct 174 = .ok (.iload_n 1, 1) := by decide +kernel
theorem dX12_readAct_175 : decode cX12_readAct 175 = .ok (.iconst 1, 1) := by decide +kernel
theorem dX12_readAct_176 : decode cX12_readAct 176 = .ok (.iadd, 1) := by decide +kernel
theorem dX12_readAct_177 : decode cX12_readAct 177 = .ok (.bipush 10, 2) := by decide +kernel
theorem dX12_readAct_179 : decode cX12_readAct 179 = .ok (.aload_n 0, 1) := by decide +kernel
theorem dX12_readAct_180 : decode cX12_readAct 180 = .ok (.getfield 45, 3) := by decide +kernel
theorem dX12_readAct_183 : decode cX12_readAct 183 = .ok (.iload_n 1, 1) := by decide +kernel
theorem dX12_readAct_184 : decode cX12_readAct 184 = .ok (.iconst 1, 1) := by decide +kernel
theorem dX12_readAct_185 : decode cX12_readAct 185 = .ok (.iadd, 1) := by decide +kernel
theorem dX12_readAct_186 : decode cX12_readAct 186 = .ok (.iaload, 1) := by decide +kernel
theorem dX12_readAct_187 : decode cX12_readAct 187 = .ok (.imul, 1) := by decide +kernel
theorem dX12_readAct_188 : decode cX12_readAct 188 = .ok (.aload_n 0, 1) := by decide +kernel
theorem dX12_readAct_189 : decode cX12_readAct 189 = .ok (.invokevirtual 480, 3) := by decide +kernel
theorem dX12_readAct_192 : decode cX12_readAct 192 = .ok (.iadd, 1) := by decide +kernel
theorem dX12_readAct_193 : decode cX12_readAct 193 = .ok (.iastore, 1) := by decide +kernel
theorem dX12_readAct_194 : decode cX12_readAct 194 = .ok (.iinc 4 1, 3) := by decide +kernel
theorem dX12_readAct_197 : decode cX12_readAct 197 = .ok (.goto (-33), 3) := by decide +kernel
theorem dX12_readAct_200 : decode cX12_readAct 200 = .ok (.return_, 1) := by decide +kernel
theorem dX12_act_0 : decode cX12_act 0 = .ok (.aload_n 0, 1) := by decide +kernel
theorem dX12_act_1 : decode cX12_act 1 = .ok (.getfield 45, 3) := by decide +kernel
theorem dX12_act_4 : decode cX12_act 4 = .ok (.iload_n 1, 1) := by decide +kernel
theorem dX12_act_5 : decode cX12_act 5 = .ok (.iconst 1, 1) := by decide +kernel
theorem dX12_act_6 : decode cX12_act 6 = .ok (.iadd, 1) := by decide +kernel
theorem dX12_act_7 : decode cX12_act 7 = .ok (.iaload, 1) := by decide +kernel
theorem dX12_act_8 : decode cX12_act 8 = .ok (.istore_n 2, 1) := by decide +kernel
theorem dX12_act_9 : decode cX12_act 9 = .ok (.aload_n 0, 1) := by decide +kernel
theorem dX12_act_10 : decode cX12_act 10 = .ok (.getfield 45, 3) := by decide +kernel
theorem dX12_act_13 : decode cX12_act 13 = .ok (.iload_n 1, 1) := by decide +kernel
theorem dX12_act_14 : decode cX12_act 14 = .ok (.iconst 2, 1) := by decide +kernel
theorem dX12_act_15 : decode cX12_act 15 = .ok (.iadd, 1) := by decide +kernel
theorem dX12_act_16 : decode cX12_act 16 = .ok (.iaload, 1) := by decide +kernel
theorem dX12_act_17 : decode cX12_act 17 = .ok (.istore_n 3, 1) := by decide +kernel
theorem dX12_act_18 : decode cX12_act 18 = .ok (.aload_n 0, 1) := by decide +kernel
theorem dX12_act_19 : decode cX12_act 19 = .ok (.getfield 45, 3) := by decide +kernel
theorem dX12_act_22 : decode cX12_act 22 = .ok (.iload_n 1, 1) := by decide +kernel
theorem dX12_act_23 : decode cX12_act 23 = .ok (.iaload, 1) := by decide +kernel
theorem dX12_act_24 : decode cX12_act 24 = .ok (.tableswitch 213 100 114 #[196, 213, 213, 111, 213, 130, 213, 213, 213, 213, 181, 76, 213, 213, 130], 76) := by decide +kernel
theorem dX12_act_100 : decode cX12_act 100 = .ok (.aload_n 0, 1) := by decide +kernel
theorem dX12_act_101 : decode cX12_act 101 = .ok (.iload_n 2, 1) := by decide +kernel
theorem dX12_act_102 : decode cX12_act 102 = .ok (.iload_n 3, 1) := by decide +kernel
theorem dX12_act_103 : decode cX12_act 103 = .ok (.aload_n 0, 1) := by decide +kernel
theorem dX12_act_104 : decode cX12_act 104 = .ok (.getfield 45, 3) := by decide +kernel
theorem dX12_act_107 : decode cX12_act 107 = .ok (.iload_n 1, 1) := by decide +kernel
theorem dX12_act_108 : decode cX12_act 108 = .ok (.iconst 3, 1) := by decide +kernel
theorem dX12_act_109 : decode cX12_act 109 = .ok (.iadd, 1) := by decide +kernel
theorem dX12_act_110 : decode cX12_act 110 = .ok (.iaload, 1) := by decide +kernel
theorem dX12_act_111 : decode cX12_act 111 = .ok (.invokevirtual 400, 3) := by decide +kernel
theorem dX12_act_114 : decode cX12_act 114 = .ok (.ifCond .ge 5, 3) := by decide +kernel
theorem dX12_act_117 : decode cX12_act 117 = .ok (.iconst 0, 1) := by decide +kernel
theorem dX12_act_118 : decode cX12_act 118 = .ok (.ireturn, 1) := by decide +kernel
theorem dX12_act_119 : decode cX12_act 119 = .ok (.aload_n 0, 1) := by decide +kernel
theorem dX12_act_120 : decode cX12_act 120 = .ok (.iload_n 2, 1) := by decide +kernel
theorem dX12_act_121 : decode cX12_act 121 = .ok (.iload_n 3, 1) := by decide +kernel
theorem dX12_act_122 : decode cX12_act 122 = .ok (.aload_n 0, 1) := by decide +kernel
theorem dX12_act_123 : decode cX12_act 123 = .ok (.getfield 45, 3) := by decide +kernel
theorem dX12_act_126 : decode cX12_act 126 = .ok (.iload_n 1, 1) := by decide +kernel
theorem dX12_act_127 : decode cX12_act 127 = .ok (.iconst 3, 1) := by decide +kernel
theorem dX12_act_128 : decode cX12_act 128 = .ok (.iadd, 1) := by decide +kernel
theorem dX12_act_129 : decode cX12_act 129 = .ok (.iaload, 1) := by decide +kernel
theorem dX12_act_130 : decode cX12_act 130 = .ok (.invokevirtual 403, 3) := by decide +kernel
theorem dX12_act_133 : decode cX12_act 133 = .ok (.iconst 1, 1) := by decide +kernel
theorem dX12_act_134 : decode cX12_act 134 = .ok (.ireturn, 1) := by decide +kernel
theorem dX12_act_135 : decode cX12_act 135 = .ok (.iload_n 2, 1) := by decide +kernel
theorem dX12_act_136 : decode cX12_act 136 = .ok (.aload_n 0, 1) := by decide +kernel
theorem dX12_act_137 : decode cX12_act 137 = .ok (.getfield 9, 3) := by decide +kernel
theorem dX12_act_140 : decode cX12_act 140 = .ok (.iconst 1, 1) := by decide +kernel
theorem dX12_act_141 : decode cX12_act 141 = .ok (.iaload, 1) := by decide +kernel
theorem dX12_act_142 : decode cX12_act 142 = .ok (.if_icmp .lt 5, 3) := by decide +kernel
theorem dX12_act_145 : decode cX12_act 145 = .ok (.iconst 0, 1) := by decide +kernel
theorem dX12_act_146 : decode cX12_act 146 = .ok (.ireturn, 1) := by decide +kernel
theorem dX12_act_147 : decode cX12_act 147 = .ok (.aload_n 0, 1) := by decide +kernel
theorem dX12_act_148 : decode cX12_act 148 = .ok (.iload_n 2, 1) := by decide +kernel
theorem dX12_act_149 : decode cX12_act 149 = .ok (.invokevirtual 427, 3) := by decide +kernel
theorem dX12_act_152 : decode cX12_act 152 = .ok (.iconst 1, 1) := by decide +kernel
theorem dX12_act_153 : decode cX12_act 153 = .ok (.ireturn, 1) := by decide +kernel
theorem dX12_act_154 : decode cX12_act 154 = .ok (.aload_n 0, 1) := by decide +kernel
theorem dX12_act_155 : decode cX12_act 155 = .ok (.iload_n 2, 1) := by decide +kernel
theorem dX12_act_156 : decode cX12_act 156 = .ok (.iload_n 3, 1) := by decide +kernel
theorem dX12_act_157 : decode cX12_act 157 = .ok (.aload_n 0, 1) := by decide +kernel
theorem dX12_act_158 : decode cX12_act 158 = .ok (.getfield 45, 3) := by decide +kernel
theorem dX12_act_161 : decode cX12_act 161 = .ok (.iload_n 1, 1) := by decide +kernel
theorem dX12_act_162 : decode cX12_act 162 = .ok (.iaload, 1) := by decide +kernel
theorem dX12_act_163 : decode cX12_act 163 = .ok (.bipush 114, 2) := by decide +kernel
theorem dX12_act_165 : decode cX12_act 165 = .ok (.if_icmp .ne 7, 3) := by decide +kernel
theorem dX12_act_168 : decode cX12_act 168 = .ok (.iconst 1, 1) := by decide +kernel
theorem dX12_act_169 : decode cX12_act 169 = .ok (.goto 4, 3) := by decide +kernel
theorem dX12_act_172 : decode cX12_act 172 = .ok (.iconst 0, 1) := by decide +kernel
theorem dX12_act_173 : decode cX12_act 173 = .ok (.invokevirtual 457, 3) := by decide +kernel
theorem dX12_act_176 : decode cX12_act 176 = .ok (.ifCond .ge 5, 3) := by decide +kernel
theorem dX12_act_179 : decode cX12_act 179 = .ok (.iconst 0, 1) := by decide +kernel
theorem dX12_act_180 : decode cX12_act 180 = .ok (.ireturn, 1) := by decide +kernel
theorem dX12_act_181 : decode cX12_act 181 = .ok (.aload_n 0, 1) := by decide +kernel
theorem dX12_act_182 : decode cX12_act 182 = .ok (.iload_n 2, 1) := by decide +kernel
theorem dX12_act_183 : decode cX12_act 183 = .ok (.iload_n 3, 1) := by decide +kernel
theorem dX12_act_184 : decode cX12_act 184 = .ok (.aload_n 0, 1) := by decide +kernel
theorem dX12_act_185 : decode cX12_act 185 = .ok (.getfield 45, 3) := by decide +kernel
theorem dX12_act_188 : decode cX12_act 188 = .ok (.iload_n 1, 1) := by decide +kernel
theorem dX12_act_189 : decode cX12_act 189 = .ok (.iaload, 1) := by decide +kernel
theorem dX12_act_190 : decode cX12_act 190 = .ok (.bipush 114, 2) := by decide +kernel
theorem dX12_act_192 : decode cX12_act 192 = .ok (.if_icmp .ne 7, 3) := by decide +kernel
theorem dX12_act_195 : decode cX12_act 195 = .ok (.iconst 1, 1) := by decide +kernel
theorem dX12_act_196 : decode cX12_act 196 = .ok (.goto 4, 3) := by decide +kernel
theorem dX12_act_199 : decode cX12_act 199 = .ok (.iconst 0, 1) := by decide +kernel
theorem dX12_act_200 : decode cX12_act 200 = .ok (.invokevirtual 461, 3) := by decide +kernel
theorem dX12_act_203 : decode cX12_act 203 = .ok (.iconst 1, 1) := by decide +kernel
theorem dX12_act_204 : decode cX12_act 204 = .ok (.ireturn, 1) := by decide +kernel
theorem dX12_act_205 : decode cX12_act 205 = .ok (.aload_n 0, 1) := by decide +kernel
theorem dX12_act_206 : decode cX12_act 206 = .ok (.invokevirtual 468, 3) := by decide +kernel
theorem dX12_act_209 : decode cX12_act 209 = .ok (.ifCond .ge 5, 3) := by decide +kernel
theorem dX12_act_212 : decode cX12_act 212 = .ok (.iconst 0, 1) := by decide +kernel
theorem dX12_act_213 : decode cX12_act 213 = .ok (.ireturn, 1) := by decide +kernel
theorem dX12_act_214 : decode cX12_act 214 = .ok (.aload_n 0, 1) := by decide +kernel
theorem dX12_act_215 : decode cX12_act 215 = .ok (.invokevirtual 471, 3) := by decide +kernel
theorem dX12_act_218 : decode cX12_act 218 = .ok (.iconst 1, 1) := by decide +kernel
theorem dX12_act_219 : decode cX12_act 219 = .ok (.ireturn, 1) := by decide +kernel
theorem dX12_act_220 : decode cX12_act 220 = .ok (.aload_n 0, 1) := by decide +kernel
theorem dX12_act_221 : decode cX12_act 221 = .ok (.iload_n 2, 1) := by decide +kernel
theorem dX12_act_222 : decode cX12_act 222 = .ok (.invokevirtual 330, 3) := by decide +kernel
theorem dX12_act_225 : decode cX12_act 225 = .ok (.ifCond .ne 5, 3) := by decide +kernel
theorem dX12_act_228 : decode cX12_act 228 = .ok (.iconst 0, 1) := by decide +kernel
theorem dX12_act_229 : decode cX12_act 229 = .ok (.ireturn, 1) := by decide +kernel
theorem dX12_act_230 : decode cX12_act 230 = .ok (.aload_n 0, 1) := by decide +kernel
theorem dX12_act_231 : decode cX12_act 231 = .ok (.iload_n 2, 1) := by decide +kernel
theorem dX12_act_232 : decode cX12_act 232 = .ok (.invokevirtual 474, 3) := by decide +kernel
theorem dX12_act_235 : decode cX12_act 235 = .ok (.iconst 1, 1) := by decide +kernel
theorem dX12_act_236 : decode cX12_act 236 = .ok (.ireturn, 1) := by decide +kernel
theorem dX12_act_237 : decode cX12_act 237 = .ok (.aload_n 0, 1) := by decide +kernel
theorem dX12_act_238 : decode cX12_act 238 = .ok (.iload_n 2, 1) := by decide +kernel
theorem dX12_act_239 : decode cX12_act 239 = .ok (.invokevirtual 454, 3) := by decide +kernel
theorem dX12_act_242 : decode cX12_act 242 = .ok (.ifCond .ge 5, 3) := by decide +kernel
theorem dX12_act_245 : decode cX12_act 245 = .ok (.iconst 0, 1) := by decide +kernel
theorem dX12_act_246 : decode cX12_act 246 = .ok (.ireturn, 1) := by decide +kernel
theorem dX12_act_247 : decode cX12_act 247 = .ok (.aload_n 0, 1) := by decide +kernel
theorem dX12_act_248 : decode cX12_act 248 = .ok (.getfield 9, 3) := by decide +kernel
theorem dX12_act_251 : decode cX12_act 251 = .ok (.iconst 0, 1) := by decide +kernel
theorem dX12_act_252 : decode cX12_act 252 = .ok (.iload_n 2, 1) := by decide +kernel
theorem dX12_act_253 : decode cX12_act 253 = .ok (.iastore, 1) := by decide +kernel
theorem dX12_act_254 : decode cX12_act 254 = .ok (.iconst 1, 1) := by decide +kernel
theorem dX12_act_255 : decode cX12_act 255 = .ok (.ireturn, 1) := by decide +kernel
theorem dX12_work_0 : decode cX12_work 0 = .ok (.aload_n 0, 1) := by decide +kernel
theorem dX12_work_1 : decode cX12_work 1 = .ok (.iconst 0, 1) := by decide +kernel
theorem dX12_work_2 : decode cX12_work 2 = .ok (.putfield 55, 3) := by decide +kernel
theorem dX12_work_5 : decode cX12_work 5 = .ok (.aload_n 0, 1) := by decide +kernel
theorem dX12_work_6 : decode cX12_work 6 = .ok (.invokevirtual 327, 3) := by decide +kernel
theorem dX12_work_9 : decode cX12_work 9 = .ok (.iconst 0, 1) := by decide +kernel
theorem dX12_work_10 : decode cX12_work 10 = .ok (.istore_n 1, 1) := by decide +kernel
theorem dX12_work_11 : decode cX12_work 11 = .ok (.aload_n 0, 1) := by decide +kernel
theorem dX12_work_12 : decode cX12_work 12 = .ok (.invokevirtual 121, 3) := by decide +kernel
theorem dX12_work_15 : decode cX12_work 15 = .ok (.ifCond .eq 27, 3) := by decide +kernel
theorem dX12_work_18 : decode cX12_work 18 = .ok (.aload_n 0, 1) := by decide +kernel
theorem dX12_work_19 : decode cX12_work 19 = .ok (.getfield 115, 3) := by decide +kernel
theorem dX12_work_22 : decode cX12_work 22 = .ok (.aload_n 0, 1) := by decide +kernel
theorem dX12_work_23 : decode cX12_work 23 = .ok (.getfield 112, 3) := by decide +kernel
theorem dX12_work_26 : decode cX12_work 26 = .ok (.if_icmp .ge 16, 3) := by decide +kernel
theorem dX12_work_29 : decode cX12_work 29 = .ok (.aload_n 0, 1) := by decide +kernel
theorem dX12_work_30 : decode cX12_work 30 = .ok (.iconst 4, 1) := by decide +kernel
theorem dX12_work_31 : decode cX12_work 31 = .ok (.iload_n 1, 1) := by decide +kernel
theorem dX12_work_32 : decode cX12_work 32 = .ok (.imul, 1) := by decide +kernel
theorem dX12_work_33 : decode cX12_work 33 = .ok (.invokevirtual 483, 3) := by decide +kernel
theorem dX12_work_36 : decode cX12_work 36 = .ok (.iinc 1 1, 3) := by decide +kernel
theorem dX12_work_39 : decode cX12_work 39 = .ok (.goto (-28), 3) := by decide +kernel
theorem dX12_work_42 : decode cX12_work 42 = .ok (.aload_n 0, 1) := by decide +kernel
theorem dX12_work_43 : decode cX12_work 43 = .ok (.invokevirtual 318, 3) := by decide +kernel
theorem dX12_work_46 : decode cX12_work 46 = .ok (.ifCond .ne 10, 3) := by decide +kernel
theorem dX12_work_49 : decode cX12_work 49 = .ok (.iconst (-1), 1) := by decide +kernel
theorem dX12_work_50 : decode cX12_work 50 = .ok (.aload_n 0, 1) := by decide +kernel
theorem dX12_work_51 : decode cX12_work 51 = .ok (.getfield 118, 3) := by decide +kernel
theorem dX12_work_54 : decode cX12_work 54 = .ok (.isub, 1) := by decide +kernel
theorem dX12_work_55 : decode cX12_work 55 = .ok (.ireturn, 1) := by decide +kernel
theorem dX12_work_56 : decode cX12_work 56 = .ok (.aload_n 0, 1) := by decide +kernel
theorem dX12_work_57 : decode cX12_work 57 = .ok (.invokevirtual 448, 3) := by decide +kernel
theorem dX12_work_60 : decode cX12_work 60 = .ok (.iconst 0, 1) := by decide +kernel
theorem dX12_work_61 : decode cX12_work 61 = .ok (.istore_n 2, 1) := by decide +kernel
theorem dX12_work_62 : decode cX12_work 62 = .ok (.iload_n 2, 1) := by decide +kernel
theorem dX12_work_63 : decode cX12_work 63 = .ok (.iload_n 1, 1) := by decide +kernel
theorem dX12_work_64 : decode cX12_work 64 = .ok (.if_icmp .ge 19, 3) := by decide +kernel
theorem dX12_work_67 : decode cX12_work 67 = .ok (.aload_n 0, 1) := by decide +kernel
theorem dX12_work_68 : decode cX12_work 68 = .ok (.iconst 4, 1) := by decide +kernel
theorem dX12_work_69 : decode cX12_work 69 = .ok (.iload_n 2, 1) := by decide +kernel
theorem dX12_work_70 : decode cX12_work 70 = .ok (.imul, 1) := by decide +kernel
theorem dX12_work_71 : decode cX12_work 71 = .ok (.invokevirtual 486, 3) := by decide +kernel
theorem dX12_work_74 : decode cX12_work 74 = .ok (.ifCond .eq 9, 3) := by decide +kernel
theorem dX12_work_77 : decode cX12_work 77 = .ok (.iinc 2 1, 3) := by decide +kernel
theorem dX12_work_80 : decode cX12_work 80 = .ok (.goto (-18), 3) := by decide +kernel
theorem dX12_work_83 : decode cX12_work 83 = .ok (.iload_n 2, 1) := by decide +kernel
theorem dX12_work_84 : decode cX12_work 84 = .ok (.ifCond .le 7, 3) := by decide +kernel
theorem dX12_work_87 : decode cX12_work 87 = .ok (.aload_n 0, 1) := by decide +kernel
theorem dX12_work_88 : decode cX12_work 88 = .ok (.invokevirtual 451, 3) := by decide +kernel
theorem dX12_work_91 : decode cX12_work 91 = .ok (.aload_n 0, 1) := by decide +kernel
theorem dX12_work_92 : decode cX12_work 92 = .ok (.invokevirtual 388, 3) := by decide +kernel
theorem dX12_work_95 : decode cX12_work 95 = .ok (.aload_n 0, 1) := by decide +kernel
theorem dX12_work_96 : decode cX12_work 96 = .ok (.iconst 0, 1) := by decide +kernel
theorem dX12_work_97 : decode cX12_work 97 = .ok (.putfield 59, 3) := by decide +kernel
theorem dX12_work_100 : decode cX12_work 100 = .ok (.aload_n 0, 1) := by decide +kernel
theorem dX12_work_101 : decode cX12_work 101 = .ok (.iload_n 2, 1) := by decide +kernel
theorem dX12_work_102 : decode cX12_work 102 = .ok (.iload_n 1, 1) := by decide +kernel
theorem dX12_work_103 : decode cX12_work 103 = .ok (.if_icmp .ge 7, 3) := by decide +kernel
theorem dX12_work_106 : decode cX12_work 106 = .ok (.lconst 1, 1) := by decide +kernel
theorem dX12_work_107 : decode cX12_work 107 = .ok (.goto 4, 3) := by decide +kernel
theorem dX12_work_110 : decode cX12_work 110 = .ok (.lconst 0, 1) := by decide +kernel
theorem dX12_work_111 : decode cX12_work 111 = .ok (.invokevirtual 91, 3) := by decide +kernel
theorem dX12_work_114 : decode cX12_work 114 = .ok (.aload_n 0, 1) := by decide +kernel
theorem dX12_work_115 : decode cX12_work 115 = .ok (.aload_n 0, 1) := by decide +kernel
theorem dX12_work_116 : decode cX12_work 116 = .ok (.getfield 357, 3) := by decide +kernel
theorem dX12_work_119 : decode cX12_work 119 = .ok (.i2l, 1) := by decide +kernel
theorem dX12_work_120 : decode cX12_work 120 = .ok (.invokevirtual 91, 3) := by decide +kernel
theorem dX12_work_123 : decode cX12_work 123 = .ok (.iload_n 2, 1) := by decide +kernel
theorem dX12_work_124 : decode cX12_work 124 = .ok (.ireturn, 1) := by decide +kernel
theorem dX12_undo_0 : decode cX12_undo 0 = .ok (.aload_n 0, 1) := by decide +kernel
theorem dX12_undo_1 : decode cX12_undo 1 = .ok (.iconst 0, 1) := by decide +kernel
theorem dX12_undo_2 : decode cX12_undo 2 = .ok (.putfield 55, 3) := by decide +kernel
theorem dX12_undo_5 : decode cX12_undo 5 = .ok (.aload_n 0, 1) := by decide +kernel
theorem dX12_undo_6 : decode cX12_undo 6 = .ok (.getfield 445, 3) := by decide +kernel
theorem dX12_undo_9 : decode cX12_undo 9 = .ok (.ifCond .ne 5, 3) := by decide +kernel
theorem dX12_undo_12 : decode cX12_undo 12 = .ok (.iconst (-1), 1) := by decide +kernel
theorem dX12_undo_13 : decode cX12_undo 13 = .ok (.ireturn, 1) := by decide +kernel
theorem dX12_undo_14 : decode cX12_undo 14 = .ok (.aload_n 0, 1) := by decide +kernel
theorem dX12_undo_15 : decode cX12_undo 15 = .ok (.dup, 1) := by decide +kernel
theorem dX12_undo_16 : decode cX12_undo 16 = .ok (.getfield 445, 3) := by decide +kernel
theorem dX12_undo_19 : decode cX12_undo 19 = .ok (.iconst 1, 1) := by decide +kernel
theorem dX12_undo_20 : decode cX12_undo 20 = .ok (.isub, 1) := by decide +kernel
theorem dX12_undo_21 : decode cX12_undo 21 = .ok (.putfield 445, 3) := by decide +kernel
theorem dX12_undo_24 : decode cX12_undo 24 = .ok (.iconst 0, 1) := by decide +kernel
theorem dX12_undo_25 : decode cX12_undo 25 = .ok (.istore_n 1, 1) := by decide +kernel
theorem dX12_undo_26 : decode cX12_undo 26 = .ok (.iload_n 1, 1) := by decide +kernel
theorem dX12_undo_27 : decode cX12_undo 27 = .ok (.sipush 218, 3) := by decide +kernel
theorem dX12_undo_30 : decode cX12_undo 30 = .ok (.if_icmp .ge 30, 3) := by decide +kernel
theorem dX12_undo_33 : decode cX12_undo 33 = .ok (.aload_n 0, 1) := by decide +kernel
theorem dX12_undo_34 : decode cX12_undo 34 = .ok (.getfield 9, 3) := by decide +kernel
theorem dX12_undo_37 : decode cX12_undo 37 = .ok (.iload_n 1, 1) := by decide +kernel
theorem dX12_undo_38 : decode cX12_undo 38 = .ok (.aload_n 0, 1) := by decide +kernel
theorem dX12_undo_39 : decode cX12_undo 39 = .ok (.getfield 39, 3) := by decide +kernel
theorem dX12_undo_42 : decode cX12_undo 42 = .ok (.sipush 218, 3) := by decide +kernel
theorem dX12_undo_45 : decode cX12_undo 45 = .ok (.aload_n 0, 1) := by decide +kernel
theorem dX12_undo_46 : decode cX12_undo 46 = .ok (.getfield 445, 3) := by decide +kernel
theorem dX12_undo_49 : decode cX12_undo 49 = .ok (.imul, 1) := by decide +kernel
theorem dX12_undo_50 : decode cX12_undo 50 = .ok (.iload_n 1, 1) := by decide +kernel
theorem dX12_undo_51 : decode cX12_undo 51 = .ok (.iadd, 1) := by decide +kernel
theorem dX12_undo_52 : decode cX12_undo 52 = .ok (.iaload, 1) := by decide +kernel
theorem dX12_undo_53 : decode cX12_undo 53 = .ok (.iastore, 1) := by decide +kernel
theorem dX12_undo_54 : decode cX12_undo 54 = .ok (.iinc 1 1, 3) := by decide +kernel
theorem dX12_undo_57 : decode cX12_undo 57 = .ok (.goto (-31), 3) := by decide +kernel
theorem dX12_undo_60 : decode cX12_undo 60 = .ok (.aload_n 0, 1) := by decide +kernel
theorem dX12_undo_61 : decode cX12_undo 61 = .ok (.getfield 445, 3) := by decide +kernel
theorem dX12_undo_64 : decode cX12_undo 64 = .ok (.ireturn, 1) := by decide +kernel
theorem dX12_draw_0 : decode cX12_draw 0 = .ok (.aload_n 0, 1) := by decide +kernel
theorem dX12_draw_1 : decode cX12_draw 1 = .ok (.aload_n 0, 1) := by decide +kernel
theorem dX12_draw_2 : decode cX12_draw 2 = .ok (.getfield 489, 3) := by decide +kernel
theorem dX12_draw_5 : decode cX12_draw 5 = .ok (.ldc_w 492, 3) := by decide +kernel
theorem dX12_draw_8 : decode cX12_draw 8 = .ok (.imul, 1) := by decide +kernel
theorem dX12_draw_9 : decode cX12_draw 9 = .ok (.sipush 12345, 3) := by decide +kernel
theorem dX12_draw_12 : decode cX12_draw 12 = .ok (.iadd, 1) := by decide +kernel
theorem dX12_draw_13 : decode cX12_draw 13 = .ok (.putfield 489, 3) := by decide +kernel
theorem dX12_draw_16 : decode cX12_draw 16 = .ok (.aload_n 0, 1) := by decide +kernel
theorem dX12_draw_17 : decode cX12_draw 17 = .ok (.getfield 489, 3) := by decide +kernel
theorem dX12_draw_20 : decode cX12_draw 20 = .ok (.bipush 16, 2) := by decide +kernel
theorem dX12_draw_22 : decode cX12_draw 22 = .ok (.iushr, 1) := by decide +kernel
theorem dX12_draw_23 : decode cX12_draw 23 = .ok (.iload_n 1, 1) := by decide +kernel
theorem dX12_draw_24 : decode cX12_draw 24 = .ok (.irem, 1) := by decide +kernel
theorem dX12_draw_25 : decode cX12_draw 25 = .ok (.ireturn, 1) := by decide +kernel
theorem dX12_years_0 : decode cX12_years 0 = .ok (.aload_n 0, 1) := by decide +kernel
theorem dX12_years_1 : decode cX12_years 1 = .ok (.iconst 0, 1) := by decide +kernel
theorem dX12_years_2 : decode cX12_years 2 = .ok (.putfield 55, 3) := by decide +kernel
theorem dX12_years_5 : decode cX12_years 5 = .ok (.iload_n 2, 1) := by decide +kernel
theorem dX12_years_6 : decode cX12_years 6 = .ok (.iconst 1, 1) := by decide +kernel
theorem dX12_years_7 : decode cX12_years 7 = .ok (.bipush 20, 2) := by decide +kernel
theorem dX12_years_9 : decode cX12_years 9 = .ok (.invokestatic 62, 3) := by decide +kernel
theorem dX12_years_12 : decode cX12_years 12 = .ok (.ifCond .ne 5, 3) := by decide +kernel
theorem dX12_years_15 : decode cX12_years 15 = .ok (.iconst (-1), 1) := by decide +kernel
theorem dX12_years_16 : decode cX12_years 16 = .ok (.ireturn, 1) := by decide +kernel
theorem dX12_years_17 : decode cX12_years 17 = .ok (.aload_n 0, 1) := by decide +kernel
theorem dX12_years_18 : decode cX12_years 18 = .ok (.iload_n 1, 1) := by decide +kernel
theorem dX12_years_19 : decode cX12_years 19 = .ok (.putfield 489, 3) := by decide +kernel
theorem dX12_years_22 : decode cX12_years 22 = .ok (.aload_n 0, 1) := by decide +kernel
theorem dX12_years_23 : decode cX12_years 23 = .ok (.invokevirtual 424, 3) := by decide +kernel
theorem dX12_years_26 : decode cX12_years 26 = .ok (.iconst 0, 1) := by decide +kernel
theorem dX12_years_27 : decode cX12_years 27 = .ok (.istore_n 3, 1) := by decide +kernel
theorem dX12_years_28 : decode cX12_years 28 = .ok (.iload_n 3, 1) := by decide +kernel
theorem dX12_years_29 : decode cX12_years 29 = .ok (.iload_n 2, 1) := by decide +kernel
theorem dX12_years_30 : decode cX12_years 30 = .ok (.if_icmp .ge 55, 3) := by decide +kernel
theorem dX12_years_33 : decode cX12_years 33 = .ok (.aload_n 0, 1) := by decide +kernel
theorem dX12_years_34 : decode cX12_years 34 = .ok (.iconst 5, 1) := by decide +kernel
theorem dX12_years_35 : decode cX12_years 35 = .ok (.invokevirtual 493, 3) := by decide +kernel
theorem dX12_years_38 : decode cX12_years 38 = .ok (.istore 4, 2) := by decide +kernel
theorem dX12_years_40 : decode cX12_years 40 = .ok (.aload_n 0, 1) := by decide +kernel
theorem dX12_years_41 : decode cX12_years 41 = .ok (.bipush 6, 2) := by decide +kernel
theorem dX12_years_43 : decode cX12_years 43 = .ok (.invokevirtual 493, 3) := by decide +kernel
theorem dX12_years_46 : decode cX12_years 46 = .ok (.istore 5, 2) := by decide +kernel
theorem dX12_years_48 : decode cX12_years 48 = .ok (.aload_n 0, 1) := by decide +kernel
theorem dX12_years_49 : decode cX12_years 49 = .ok (.bipush 6, 2) := by decide +kernel
theorem dX12_years_51 : decode cX12_years 51 = .ok (.invokevirtual 493, 3) := by decide +kernel
theorem dX12_years_54 : decode cX12_years 54 = .ok (.istore 6, 2) := by decide +kernel
theorem dX12_years_56 : decode cX12_years 56 = .ok (.aload_n 0, 1) := by decide +kernel
theorem dX12_years_57 : decode cX12_years 57 = .ok (.iload 4, 2) := by decide +kernel
theorem dX12_years_59 : decode cX12_years 59 = .ok (.iload 5, 2) := by decide +kernel
theorem dX12_years_61 : decode cX12_years 61 = .ok (.iload 6, 2) := by decide +kernel
theorem dX12_years_63 : decode cX12_years 63 = .ok (.invokevirtual 400, 3) := by decide +kernel
theorem dX12_years_66 : decode cX12_years 66 = .ok (.ifCond .ne 13, 3) := by decide +kernel
theorem dX12_years_69 : decode cX12_years 69 = .ok (.aload_n 0, 1) := by decide +kernel
theorem dX12_years_70 : decode cX12_years 70 = .ok (.iload 4, 2) := by decide +kernel
theorem dX12_years_72 : decode cX12_years 72 = .ok (.iload 5, 2) := by decide +kernel
theorem dX12_years_74 : decode cX12_years 74 = .ok (.iload 6, 2) := by decide +kernel
theorem dX12_years_76 : decode cX12_years 76 = .ok (.invokevirtual 403, 3) := by decide +kernel
theorem dX12_years_79 : decode cX12_years 79 = .ok (.iinc 3 1, 3) := by decide +kernel
theorem dX12_years_82 : decode cX12_years 82 = .ok (.goto (-54), 3) := by decide +kernel
theorem dX12_years_85 : decode cX12_years 85 = .ok (.aload_n 0, 1) := by decide +kernel
theorem dX12_years_86 : decode cX12_years 86 = .ok (.invokevirtual 388, 3) := by decide +kernel
theorem dX12_years_89 : decode cX12_years 89 = .ok (.aload_n 0, 1) := by decide +kernel
theorem dX12_years_90 : decode cX12_years 90 = .ok (.iconst 0, 1) := by decide +kernel
theorem dX12_years_91 : decode cX12_years 91 = .ok (.putfield 59, 3) := by decide +kernel
theorem dX12_years_94 : decode cX12_years 94 = .ok (.aload_n 0, 1) := by decide +kernel
theorem dX12_years_95 : decode cX12_years 95 = .ok (.aload_n 0, 1) := by decide +kernel
theorem dX12_years_96 : decode cX12_years 96 = .ok (.getfield 9, 3) := by decide +kernel
theorem dX12_years_99 : decode cX12_years 99 = .ok (.iconst 1, 1) := by decide +kernel
theorem dX12_years_100 : decode cX12_years 100 = .ok (.iaload, 1) := by decide +kernel
theorem dX12_years_101 : decode cX12_years 101 = .ok (.i2l, 1) := by decide +kernel
theorem dX12_years_102 : decode cX12_years 102 = .ok (.invokevirtual 91, 3) := by decide +kernel
theorem dX12_years_105 : decode cX12_years 105 = .ok (.aload_n 0, 1) := by decide +kernel
theorem dX12_years_106 : decode cX12_years 106 = .ok (.aload_n 0, 1) := by decide +kernel
theorem dX12_years_107 : decode cX12_years 107 = .ok (.invokevirtual 421, 3) := by decide +kernel
theorem dX12_years_110 : decode cX12_years 110 = .ok (.i2l, 1) := by decide +kernel
theorem dX12_years_111 : decode cX12_years 111 = .ok (.invokevirtual 91, 3) := by decide +kernel
theorem dX12_years_114 : decode cX12_years 114 = .ok (.aload_n 0, 1) := by decide +kernel
theorem dX12_years_115 : decode cX12_years 115 = .ok (.invokevirtual 430, 3) := by decide +kernel
theorem dX12_years_118 : decode cX12_years 118 = .ok (.aload_n 0, 1) := by decide +kernel
theorem dX12_years_119 : decode cX12_years 119 = .ok (.getfield 357, 3) := by decide +kernel
theorem dX12_years_122 : decode cX12_years 122 = .ok (.ireturn, 1) := by decide +kernel
theorem dX12_keep_0 : decode cX12_keep 0 = .ok (.aload_n 0, 1) := by decide +kernel
theorem dX12_keep_1 : decode cX12_keep 1 = .ok (.iconst 0, 1) := by decide +kernel
theorem dX12_keep_2 : decode cX12_keep 2 = .ok (.putfield 55, 3) := by decide +kernel
theorem dX12_keep_5 : decode cX12_keep 5 = .ok (.iload_n 1, 1) := by decide +kernel
theorem dX12_keep_6 : decode cX12_keep 6 = .ok (.iconst 0, 1) := by decide +kernel
theorem dX12_keep_7 : decode cX12_keep 7 = .ok (.iconst 1, 1) := by decide +kernel
theorem dX12_keep_8 : decode cX12_keep 8 = .ok (.invokestatic 62, 3) := by decide +kernel
theorem dX12_keep_11 : decode cX12_keep 11 = .ok (.ifCond .ne 5, 3) := by decide +kernel
theorem dX12_keep_14 : decode cX12_keep 14 = .ok (.iconst 0, 1) := by decide +kernel
theorem dX12_keep_15 : decode cX12_keep 15 = .ok (.ireturn, 1) := by decide +kernel
theorem dX12_keep_16 : decode cX12_keep 16 = .ok (.aload_n 0, 1) := by decide +kernel
theorem dX12_keep_17 : decode cX12_keep 17 = .ok (.getfield 51, 3) := by decide +kernel
theorem dX12_keep_20 : decode cX12_keep 20 = .ok (.iload_n 1, 1) := by decide +kernel
theorem dX12_keep_21 : decode cX12_keep 21 = .ok (.iconst 1, 1) := by decide +kernel
theorem dX12_keep_22 : decode cX12_keep 22 = .ok (.bastore, 1) := by decide +kernel
theorem dX12_keep_23 : decode cX12_keep 23 = .ok (.iconst 0, 1) := by decide +kernel
theorem dX12_keep_24 : decode cX12_keep 24 = .ok (.istore_n 2, 1) := by decide +kernel
theorem dX12_keep_25 : decode cX12_keep 25 = .ok (.iload_n 2, 1) := by decide +kernel
theorem dX12_keep_26 : decode cX12_keep 26 = .ok (.sipush 218, 3) := by decide +kernel
theorem dX12_keep_29 : decode cX12_keep 29 = .ok (.if_icmp .ge 27, 3) := by decide +kernel
theorem dX12_keep_32 : decode cX12_keep 32 = .ok (.aload_n 0, 1) := by decide +kernel
theorem dX12_keep_33 : decode cX12_keep 33 = .ok (.getfield 48, 3) := by decide +kernel
theorem dX12_keep_36 : decode cX12_keep 36 = .ok (.sipush 218, 3) := by decide +kernel
theorem dX12_keep_39 : decode cX12_keep 39 = .ok (.iload_n 1, 1) := by decide +kernel
theorem dX12_keep_40 : decode cX12_keep 40 = .ok (.imul, 1) := by decide +kernel
theorem dX12_keep_41 : decode cX12_keep 41 = .ok (.iload_n 2, 1) := by decide +kernel
theorem dX12_keep_42 : decode cX12_keep 42 = .ok (.iadd, 1) := by decide +kernel
theorem dX12_keep_43 : decode cX12_keep 43 = .ok (.aload_n 0, 1) := by decide +kernel
theorem dX12_keep_44 : decode cX12_keep 44 = .ok (.getfield 9, 3) := by decide +kernel
theorem dX12_keep_47 : decode cX12_keep 47 = .ok (.iload_n 2, 1) := by decide +kernel
theorem dX12_keep_48 : decode cX12_keep 48 = .ok (.iaload, 1) := by decide +kernel
theorem dX12_keep_49 : decode cX12_keep 49 = .ok (.iastore, 1) := by decide +kernel
theorem dX12_keep_50 : decode cX12_keep 50 = .ok (.iinc 2 1, 3) := by decide +kernel
theorem dX12_keep_53 : decode cX12_keep 53 = .ok (.goto (-28), 3) := by decide +kernel
theorem dX12_keep_56 : decode cX12_keep 56 = .ok (.iconst 1, 1) := by decide +kernel
theorem dX12_keep_57 : decode cX12_keep 57 = .ok (.ireturn, 1) := by decide +kernel
theorem dX12_again_0 : decode cX12_again 0 = .ok (.aload_n 0, 1) := by decide +kernel
theorem dX12_again_1 : decode cX12_again 1 = .ok (.iconst 0, 1) := by decide +kernel
theorem dX12_again_2 : decode cX12_again 2 = .ok (.putfield 55, 3) := by decide +kernel
theorem dX12_again_5 : decode cX12_again 5 = .ok (.iload_n 1, 1) := by decide +kernel
theorem dX12_again_6 : decode cX12_again 6 = .ok (.iconst 0, 1) := by decide +kernel
theorem dX12_again_7 : decode cX12_again 7 = .ok (.iconst 1, 1) := by decide +kernel
theorem dX12_again_8 : decode cX12_again 8 = .ok (.invokestatic 62, 3) := by decide +kernel
theorem dX12_again_11 : decode cX12_again 11 = .ok (.ifCond .eq 12, 3) := by decide +kernel
theorem dX12_again_14 : decode cX12_again 14 = .ok (.aload_n 0, 1) := by decide +kernel
theorem dX12_again_15 : decode cX12_again 15 = .ok (.getfield 51, 3) := by decide +kernel
theorem dX12_again_18 : decode cX12_again 18 = .ok (.iload_n 1, 1) := by decide +kernel
theorem dX12_again_19 : decode cX12_again 19 = .ok (.baload, 1) := by decide +kernel
theorem dX12_again_20 : decode cX12_again 20 = .ok (.ifCond .ne 5, 3) := by decide +kernel
theorem dX12_again_23 : decode cX12_again 23 = .ok (.iconst 0, 1) := by decide +kernel
theorem dX12_again_24 : decode cX12_again 24 = .ok (.ireturn, 1) := by decide +kernel
theorem dX12_again_25 : decode cX12_again 25 = .ok (.iconst 0, 1) := by decide +kernel
theorem dX12_again_26 : decode cX12_again 26 = .ok (.istore_n 2, 1) := by decide +kernel
theorem dX12_again_27 : decode cX12_again 27 = .ok (.iload_n 2, 1) := by decide +kernel
theorem dX12_again_28 : decode cX12_again 28 = .ok (.sipush 218, 3) := by decide +kernel
theorem dX12_again_31 : decode cX12_again 31 = .ok (.if_icmp .ge 27, 3) := by decide +kernel
theorem dX12_again_34 : decode cX12_again 34 = .ok (.aload_n 0, 1) := by decide +kernel
theorem dX12_again_35 : decode cX12_again 35 = .ok (.getfield 9, 3) := by decide +kernel
theorem dX12_again_38 : decode cX12_again 38 = .ok (.iload_n 2, 1) := by decide +kernel
theorem dX12_again_39 : decode cX12_again 39 = .ok (.aload_n 0, 1) := by decide +kernel
theorem dX12_again_40 : decode cX12_again 40 = .ok (.getfield 48, 3) := by decide +kernel
theorem dX12_again_43 : decode cX12_again 43 = .ok (.sipush 218, 3) := by decide +kernel
theorem dX12_again_46 : decode cX12_again 46 = .ok (.iload_n 1, 1) := by decide +kernel
theorem dX12_again_47 : decode cX12_again 47 = .ok (.imul, 1) := by decide +kernel
theorem dX12_again_48 : decode cX12_again 48 = .ok (.iload_n 2, 1) := by decide +kernel
theorem dX12_again_49 : decode cX12_again 49 = .ok (.iadd, 1) := by decide +kernel
theorem dX12_again_50 : decode cX12_again 50 = .ok (.iaload, 1) := by decide +kernel
theorem dX12_again_51 : decode cX12_again 51 = .ok (.iastore, 1) := by decide +kernel
theorem dX12_again_52 : decode cX12_again 52 = .ok (.iinc 2 1, 3) := by decide +kernel
theorem dX12_again_55 : decode cX12_again 55 = .ok (.goto (-28), 3) := by decide +kernel
theorem dX12_again_58 : decode cX12_again 58 = .ok (.aload_n 0, 1) := by decide +kernel
theorem dX12_again_59 : decode cX12_again 59 = .ok (.iconst 0, 1) := by decide +kernel
theorem dX12_again_60 : decode cX12_again 60 = .ok (.putfield 445, 3) := by decide +kernel
theorem dX12_again_63 : decode cX12_again 63 = .ok (.iconst 1, 1) := by decide +kernel
theorem dX12_again_64 : decode cX12_again 64 = .ok (.ireturn, 1) := by decide +kernel
theorem dX12_readingMany_0 : decode cX12_readingMany 0 = .ok (.iconst 0, 1) := by decide +kernel
theorem dX12_readingMany_1 : decode cX12_readingMany 1 = .ok (.istore_n 1, 1) := by decide +kernel
theorem dX12_readingMany_2 : decode cX12_readingMany 2 = .ok (.iconst 0, 1) := by decide +kernel
theorem dX12_readingMany_3 : decode cX12_readingMany 3 = .ok (.istore_n 2, 1) := by decide +kernel
theorem dX12_readingMany_4 : decode cX12_readingMany 4 = .ok (.iload_n 2, 1) := by decide +kernel
theorem dX12_readingMany_5 : decode cX12_readingMany 5 = .ok (.bipush 6, 2) := by decide +kernel
theorem dX12_readingMany_7 : decode cX12_readingMany 7 = .ok (.if_icmp .ge 24, 3) := by decide +kernel
theorem dX12_readingMany_10 : decode cX12_readingMany 10 = .ok (.iload_n 1, 1) := by decide +kernel
theorem dX12_readingMany_11 : decode cX12_readingMany 11 = .ok (.iconst 0, 1) := by decide +kernel
theorem dX12_readingMany_12 : decode cX12_readingMany 12 = .ok (.aload_n 0, 1) := by decide +kernel
theorem dX12_readingMany_13 : decode cX12_readingMany 13 = .ok (.getfield 9, 3) := by decide +kernel
theorem dX12_readingMany_16 : decode cX12_readingMany 16 = .ok (.iconst 2, 1) := by decide +kernel
theorem dX12_readingMany_17 : decode cX12_readingMany 17 = .ok (.iload_n 2, 1) := by decide +kernel
theorem dX12_readingMany_18 : decode cX12_readingMany 18 = .ok (.iadd, 1) := by decide +kernel
theorem dX12_readingMany_19 : decode cX12_readingMany 19 = .ok (.iaload, 1) := by decide +kernel
theorem dX12_readingMany_20 : decode cX12_readingMany 20 = .ok (.invokestatic 179, 3) := by decide +kernel
theorem dX12_readingMany_23 : decode cX12_readingMany 23 = .ok (.iadd, 1) := by decide +kernel
theorem dX12_readingMany_24 : decode cX12_readingMany 24 = .ok (.istore_n 1, 1) := by decide +kernel
theorem dX12_readingMany_25 : decode cX12_readingMany 25 = .ok (.iinc 2 1, 3) := by decide +kernel
theorem dX12_readingMany_28 : decode cX12_readingMany 28 = .ok (.goto (-24), 3) := by decide +kernel
theorem dX12_readingMany_31 : decode cX12_readingMany 31 = .ok (.iload_n 1, 1) := by decide +kernel
theorem dX12_readingMany_32 : decode cX12_readingMany 32 = .ok (.ireturn, 1) := by decide +kernel
theorem dX12_inAll_0 : decode cX12_inAll 0 = .ok (.iconst 0, 1) := by decide +kernel
theorem dX12_inAll_1 : decode cX12_inAll 1 = .ok (.istore_n 1, 1) := by decide +kernel
theorem dX12_inAll_2 : decode cX12_inAll 2 = .ok (.iconst 0, 1) := by decide +kernel
theorem dX12_inAll_3 : decode cX12_inAll 3 = .ok (.istore_n 2, 1) := by decide +kernel
theorem dX12_inAll_4 : decode cX12_inAll 4 = .ok (.iload_n 2, 1) := by decide +kernel
theorem dX12_inAll_5 : decode cX12_inAll 5 = .ok (.bipush 6, 2) := by decide +kernel
theorem dX12_inAll_7 : decode cX12_inAll 7 = .ok (.if_icmp .ge 17, 3) := by decide +kernel
theorem dX12_inAll_10 : decode cX12_inAll 10 = .ok (.iload_n 1, 1) := by decide +kernel
theorem dX12_inAll_11 : decode cX12_inAll 11 = .ok (.aload_n 0, 1) := by decide +kernel
theorem dX12_inAll_12 : decode cX12_inAll 12 = .ok (.iload_n 2, 1) := by decide +kernel
theorem dX12_inAll_13 : decode cX12_inAll 13 = .ok (.invokevirtual 465, 3) := by decide +kernel
theorem dX12_inAll_16 : decode cX12_inAll 16 = .ok (.iadd, 1) := by decide +kernel
theorem dX12_inAll_17 : decode cX12_inAll 17 = .ok (.istore_n 1, 1) := by decide +kernel
theorem dX12_inAll_18 : decode cX12_inAll 18 = .ok (.iinc 2 1, 3) := by decide +kernel
theorem dX12_inAll_21 : decode cX12_inAll 21 = .ok (.goto (-17), 3) := by decide +kernel
theorem dX12_inAll_24 : decode cX12_inAll 24 = .ok (.iload_n 1, 1) := by decide +kernel
theorem dX12_inAll_25 : decode cX12_inAll 25 = .ok (.ireturn, 1) := by decide +kernel
theorem dX12_toldBits_0 : decode cX12_toldBits 0 = .ok (.iconst 0, 1) := by decide +kernel
theorem dX12_toldBits_1 : decode cX12_toldBits 1 = .ok (.istore_n 1, 1) := by decide +kernel
theorem dX12_toldBits_2 : decode cX12_toldBits 2 = .ok (.iconst 0, 1) := by decide +kernel
theorem dX12_toldBits_3 : decode cX12_toldBits 3 = .ok (.istore_n 2, 1) := by decide +kernel
theorem dX12_toldBits_4 : decode cX12_toldBits 4 = .ok (.iload_n 2, 1) := by decide +kernel
theorem dX12_toldBits_5 : decode cX12_toldBits 5 = .ok (.bipush 6, 2) := by decide +kernel
theorem dX12_toldBits_7 : decode cX12_toldBits 7 = .ok (.if_icmp .ge 27, 3) := by decide +kernel
theorem dX12_toldBits_10 : decode cX12_toldBits 10 = .ok (.iload_n 1, 1) := by decide +kernel
theorem dX12_toldBits_11 : decode cX12_toldBits 11 = .ok (.aload_n 0, 1) := by decide +kernel
theorem dX12_toldBits_12 : decode cX12_toldBits 12 = .ok (.iload_n 2, 1) := by decide +kernel
theorem dX12_toldBits_13 : decode cX12_toldBits 13 = .ok (.invokevirtual 330, 3) := by decide +kernel
theorem dX12_toldBits_16 : decode cX12_toldBits 16 = .ok (.ifCond .eq 9, 3) := by decide +kernel
theorem dX12_toldBits_19 : decode cX12_toldBits 19 = .ok (.iconst 1, 1) := by decide +kernel
theorem dX12_toldBits_20 : decode cX12_toldBits 20 = .ok (.iload_n 2, 1) := by decide +kernel
theorem dX12_toldBits_21 : decode cX12_toldBits 21 = .ok (.ishl, 1) := by decide +kernel
theorem dX12_toldBits_22 : decode cX12_toldBits 22 = .ok (.goto 4, 3) := by decide +kernel
theorem dX12_toldBits_25 : decode cX12_toldBits 25 = .ok (.iconst 0, 1) := by decide +kernel
theorem dX12_toldBits_26 : decode cX12_toldBits 26 = .ok (.ior, 1) := by decide +kernel
theorem dX12_toldBits_27 : decode cX12_toldBits 27 = .ok (.istore_n 1, 1) := by decide +kernel
theorem dX12_toldBits_28 : decode cX12_toldBits 28 = .ok (.iinc 2 1, 3) := by decide +kernel
theorem dX12_toldBits_31 : decode cX12_toldBits 31 = .ok (.goto (-27), 3) := by decide +kernel
theorem dX12_toldBits_34 : decode cX12_toldBits 34 = .ok (.iload_n 1, 1) := by decide +kernel
theorem dX12_toldBits_35 : decode cX12_toldBits 35 = .ok (.ireturn, 1) := by decide +kernel
theorem dX12_leftNow_0 : decode cX12_leftNow 0 = .ok (.aload_n 0, 1) := by decide +kernel
theorem dX12_leftNow_1 : decode cX12_leftNow 1 = .ok (.invokevirtual 388, 3) := by decide +kernel
theorem dX12_leftNow_4 : decode cX12_leftNow 4 = .ok (.aload_n 0, 1) := by decide +kernel
theorem dX12_leftNow_5 : decode cX12_leftNow 5 = .ok (.invokevirtual 421, 3) := by decide +kernel
theorem dX12_leftNow_8 : decode cX12_leftNow 8 = .ok (.ireturn, 1) := by decide +kernel
theorem dX12_count_0 : decode cX12_count 0 = .ok (.aload_n 0, 1) := by decide +kernel
theorem dX12_count_1 : decode cX12_count 1 = .ok (.iconst 0, 1) := by decide +kernel
theorem dX12_count_2 : decode cX12_count 2 = .ok (.putfield 55, 3) := by decide +kernel
theorem dX12_count_5 : decode cX12_count 5 = .ok (.iload_n 1, 1) := by decide +kernel
theorem dX12_count_6 : decode cX12_count 6 = .ok (.tableswitch 99 0 8 #[50, 55, 62, 69, 74, 79, 84, 89, 94], 50) := by decide +kernel
theorem dX12_count_56 : decode cX12_count 56 = .ok (.aload_n 0, 1) := by decide +kernel
theorem dX12_count_57 : decode cX12_count 57 = .ok (.invokevirtual 496, 3) := by decide +kernel
theorem dX12_count_60 : decode cX12_count 60 = .ok (.ireturn, 1) := by decide +kernel
theorem dX12_count_61 : decode cX12_count 61 = .ok (.aload_n 0, 1) := by decide +kernel
theorem dX12_count_62 : decode cX12_count 62 = .ok (.getfield 9, 3) := by decide +kernel
theorem dX12_count_65 : decode cX12_count 65 = .ok (.iconst 1, 1) := by decide +kernel
theorem dX12_count_66 : decode cX12_count 66 = .ok (.iaload, 1) := by decide +kernel
theorem dX12_count_67 : decode cX12_count 67 = .ok (.ireturn, 1) := by decide +kernel
theorem dX12_count_68 : decode cX12_count 68 = .ok (.aload_n 0, 1) := by decide +kernel
theorem dX12_count_69 : decode cX12_count 69 = .ok (.getfield 9, 3) := by decide +kernel
theorem dX12_count_72 : decode cX12_count 72 = .ok (.iconst 0, 1) := by decide +kernel
theorem dX12_count_73 : decode cX12_count 73 = .ok (.iaload, 1) := by decide +kernel
theorem dX12_count_74 : decode cX12_count 74 = .ok (.ireturn, 1) := by decide +kernel
theorem dX12_count_75 : decode cX12_count 75 = .ok (.aload_n 0, 1) := by decide +kernel
theorem dX12_count_76 : decode cX12_count 76 = .ok (.invokevirtual 499, 3) := by decide +kernel
theorem dX12_count_79 : decode cX12_count 79 = .ok (.ireturn, 1) := by decide +kernel
theorem dX12_count_80 : decode cX12_count 80 = .ok (.aload_n 0, 1) := by decide +kernel
theorem dX12_count_81 : decode cX12_count 81 = .ok (.invokevirtual 502, 3) := by decide +kernel
theorem dX12_count_84 : decode cX12_count 84 = .ok (.ireturn, 1) := by decide +kernel
theorem dX12_count_85 : decode cX12_count 85 = .ok (.aload_n 0, 1) := by decide +kernel
theorem dX12_count_86 : decode cX12_count 86 = .ok (.invokevirtual 505, 3) := by decide +kernel
theorem dX12_count_89 : decode cX12_count 89 = .ok (.ireturn, 1) := by decide +kernel
theorem dX12_count_90 : decode cX12_count 90 = .ok (.aload_n 0, 1) := by decide +kernel
theorem dX12_count_91 : decode cX12_count 91 = .ok (.getfield 445, 3) := by decide +kernel
theorem dX12_count_94 : decode cX12_count 94 = .ok (.ireturn, 1) := by decide +kernel
theorem dX12_count_95 : decode cX12_count 95 = .ok (.aload_n 0, 1) := by decide +kernel
theorem dX12_count_96 : decode cX12_count 96 = .ok (.getfield 59, 3) := by decide +kernel
theorem dX12_count_99 : decode cX12_count 99 = .ok (.ireturn, 1) := by decide +kernel
theorem dX12_count_100 : decode cX12_count 100 = .ok (.aload_n 0, 1) := by decide +kernel
theorem dX12_count_101 : decode cX12_count 101 = .ok (.getfield 109, 3) := by decide +kernel
theorem dX12_count_104 : decode cX12_count 104 = .ok (.ireturn, 1) := by decide +kernel
theorem dX12_count_105 : decode cX12_count 105 = .ok (.iconst (-1), 1) := by decide +kernel
theorem dX12_count_106 : decode cX12_count 106 = .ok (.ireturn, 1) := by decide +kernel
theorem dX12_row_0 : decode cX12_row 0 = .ok (.aload_n 0, 1) := by decide +kernel
theorem dX12_row_1 : decode cX12_row 1 = .ok (.iconst 0, 1) := by decide +kernel
theorem dX12_row_2 : decode cX12_row 2 = .ok (.putfield 55, 3) := by decide +kernel
theorem dX12_row_5 : decode cX12_row 5 = .ok (.iload_n 1, 1) := by decide +kernel
theorem dX12_row_6 : decode cX12_row 6 = .ok (.iconst 0, 1) := by decide +kernel
theorem dX12_row_7 : decode cX12_row 7 = .ok (.aload_n 0, 1) := by decide +kernel
theorem dX12_row_8 : decode cX12_row 8 = .ok (.getfield 59, 3) := by decide +kernel
theorem dX12_row_11 : decode cX12_row 11 = .ok (.iconst 1, 1) := by decide +kernel
theorem dX12_row_12 : decode cX12_row 12 = .ok (.isub, 1) := by decide +kernel
theorem dX12_row_13 : decode cX12_row 13 = .ok (.invokestatic 62, 3) := by decide +kernel
theorem dX12_row_16 : decode cX12_row 16 = .ok (.ifCond .eq 12, 3) := by decide +kernel
theorem dX12_row_19 : decode cX12_row 19 = .ok (.aload_n 0, 1) := by decide +kernel
theorem dX12_row_20 : decode cX12_row 20 = .ok (.getfield 17, 3) := by decide +kernel
theorem dX12_row_23 : decode cX12_row 23 = .ok (.iload_n 1, 1) := by decide +kernel
theorem dX12_row_24 : decode cX12_row 24 = .ok (.laload, 1) := by decide +kernel
theorem dX12_row_25 : decode cX12_row 25 = .ok (.goto 8, 3) := by decide +kernel
theorem dX12_row_28 : decode cX12_row 28 = .ok (.aload_n 0, 1) := by decide +kernel
theorem dX12_row_29 : decode cX12_row 29 = .ok (.invokevirtual 394, 3) := by decide +kernel
theorem dX12_row_32 : decode cX12_row 32 = .ok (.i2l, 1) := by decide +kernel
theorem dX12_row_33 : decode cX12_row 33 = .ok (.lreturn, 1) := by decide +kernel
