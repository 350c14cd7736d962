theorem dX8_init_0 : decode cX8_init 0 = .ok (.aload_n 0, 1) := by decide +kernel
theorem dX8_init_1 : decode cX8_init 1 = .ok (.invokespecial 1, 3) := by decide +kernel
theorem dX8_init_4 : decode cX8_init 4 = .ok (.aload_n 0, 1) := by decide +kernel
theorem dX8_init_5 : decode cX8_init 5 = .ok (.sipush 240, 3) := by decide +kernel
theorem dX8_init_8 : decode cX8_init 8 = .ok (.newarray .int, 2) := by decide +kernel
theorem dX8_init_10 : decode cX8_init 10 = .ok (.putfield 7, 3) := by decide +kernel
theorem dX8_init_13 : decode cX8_init 13 = .ok (.aload_n 0, 1) := by decide +kernel
theorem dX8_init_14 : decode cX8_init 14 = .ok (.bipush 27, 2) := by decide +kernel
theorem dX8_init_16 : decode cX8_init 16 = .ok (.newarray .int, 2) := by decide +kernel
theorem dX8_init_18 : decode cX8_init 18 = .ok (.putfield 13, 3) := by decide +kernel
theorem dX8_init_21 : decode cX8_init 21 = .ok (.aload_n 0, 1) := by decide +kernel
theorem dX8_init_22 : decode cX8_init 22 = .ok (.bipush 9, 2) := by decide +kernel
theorem dX8_init_24 : decode cX8_init 24 = .ok (.newarray .int, 2) := by decide +kernel
theorem dX8_init_26 : decode cX8_init 26 = .ok (.putfield 16, 3) := by decide +kernel
theorem dX8_init_29 : decode cX8_init 29 = .ok (.aload_n 0, 1) := by decide +kernel
theorem dX8_init_30 : decode cX8_init 30 = .ok (.bipush 49, 2) := by decide +kernel
theorem dX8_init_32 : decode cX8_init 32 = .ok (.newarray .int, 2) := by decide +kernel
theorem dX8_init_34 : decode cX8_init 34 = .ok (.putfield 19, 3) := by decide +kernel
theorem dX8_init_37 : decode cX8_init 37 = .ok (.aload_n 0, 1) := by decide +kernel
theorem dX8_init_38 : decode cX8_init 38 = .ok (.bipush 98, 2) := by decide +kernel
theorem dX8_init_40 : decode cX8_init 40 = .ok (.newarray .int, 2) := by decide +kernel
theorem dX8_init_42 : decode cX8_init 42 = .ok (.putfield 22, 3) := by decide +kernel
theorem dX8_init_45 : decode cX8_init 45 = .ok (.aload_n 0, 1) := by decide +kernel
theorem dX8_init_46 : decode cX8_init 46 = .ok (.iconst 2, 1) := by decide +kernel
theorem dX8_init_47 : decode cX8_init 47 = .ok (.newarray .boolean, 2) := by decide +kernel
theorem dX8_init_49 : decode cX8_init 49 = .ok (.putfield 25, 3) := by decide +kernel
theorem dX8_init_52 : decode cX8_init 52 = .ok (.aload_n 0, 1) := by decide +kernel
theorem dX8_init_53 : decode cX8_init 53 = .ok (.sipush 784, 3) := by decide +kernel
theorem dX8_init_56 : decode cX8_init 56 = .ok (.newarray .int, 2) := by decide +kernel
theorem dX8_init_58 : decode cX8_init 58 = .ok (.putfield 29, 3) := by decide +kernel
theorem dX8_init_61 : decode cX8_init 61 = .ok (.aload_n 0, 1) := by decide +kernel
theorem dX8_init_62 : decode cX8_init 62 = .ok (.bipush 15, 2) := by decide +kernel
theorem dX8_init_64 : decode cX8_init 64 = .ok (.newarray .int, 2) := by decide +kernel
theorem dX8_init_66 : decode cX8_init 66 = .ok (.putfield 32, 3) := by decide +kernel
theorem dX8_init_69 : decode cX8_init 69 = .ok (.aload_n 0, 1) := by decide +kernel
theorem dX8_init_70 : decode cX8_init 70 = .ok (.bipush 15, 2) := by decide +kernel
theorem dX8_init_72 : decode cX8_init 72 = .ok (.newarray .boolean, 2) := by decide +kernel
theorem dX8_init_74 : decode cX8_init 74 = .ok (.putfield 35, 3) := by decide +kernel
theorem dX8_init_77 : decode cX8_init 77 = .ok (.aload_n 0, 1) := by decide +kernel
theorem dX8_init_78 : decode cX8_init 78 = .ok (.bipush 9, 2) := by decide +kernel
theorem dX8_init_80 : decode cX8_init 80 = .ok (.newarray .int, 2) := by decide +kernel
theorem dX8_init_82 : decode cX8_init 82 = .ok (.putfield 38, 3) := by decide +kernel
theorem dX8_init_85 : decode cX8_init 85 = .ok (.aload_n 0, 1) := by decide +kernel
theorem dX8_init_86 : decode cX8_init 86 = .ok (.bipush 9, 2) := by decide +kernel
theorem dX8_init_88 : decode cX8_init 88 = .ok (.newarray .int, 2) := by decide +kernel
theorem dX8_init_90 : decode cX8_init 90 = .ok (.putfield 41, 3) := by decide +kernel
theorem dX8_init_93 : decode cX8_init 93 = .ok (.aload_n 0, 1) := by decide +kernel
theorem dX8_init_94 : decode cX8_init 94 = .ok (.bipush 9, 2) := by decide +kernel
theorem dX8_init_96 : decode cX8_init 96 = .ok (.newarray .int, 2) := by decide +kernel
theorem dX8_init_98 : decode cX8_init 98 = .ok (.putfield 44, 3) := by decide +kernel
theorem dX8_init_101 : decode cX8_init 101 = .ok (.aload_n 0, 1) := by decide +kernel
theorem dX8_init_102 : decode cX8_init 102 = .ok (.bipush 9, 2) := by decide +kernel
theorem dX8_init_104 : decode cX8_init 104 = .ok (.newarray .int, 2) := by decide +kernel
theorem dX8_init_106 : decode cX8_init 106 = .ok (.putfield 47, 3) := by decide +kernel
theorem dX8_init_109 : decode cX8_init 109 = .ok (.aload_n 0, 1) := by decide +kernel
theorem dX8_init_110 : decode cX8_init 110 = .ok (.bipush 10, 2) := by decide +kernel
theorem dX8_init_112 : decode cX8_init 112 = .ok (.newarray .int, 2) := by decide +kernel
theorem dX8_init_114 : decode cX8_init 114 = .ok (.putfield 50, 3) := by decide +kernel
theorem dX8_init_117 : decode cX8_init 117 = .ok (.aload_n 0, 1) := by decide +kernel
theorem dX8_init_118 : decode cX8_init 118 = .ok (.bipush 10, 2) := by decide +kernel
theorem dX8_init_120 : decode cX8_init 120 = .ok (.newarray .int, 2) := by decide +kernel
theorem dX8_init_122 : decode cX8_init 122 = .ok (.putfield 53, 3) := by decide +kernel
theorem dX8_init_125 : decode cX8_init 125 = .ok (.aload_n 0, 1) := by decide +kernel
theorem dX8_init_126 : decode cX8_init 126 = .ok (.bipush 10, 2) := by decide +kernel
theorem dX8_init_128 : decode cX8_init 128 = .ok (.newarray .int, 2) := by decide +kernel
theorem dX8_init_130 : decode cX8_init 130 = .ok (.putfield 56, 3) := by decide +kernel
theorem dX8_init_133 : decode cX8_init 133 = .ok (.aload_n 0, 1) := by decide +kernel
theorem dX8_init_134 : decode cX8_init 134 = .ok (.sipush 512, 3) := by decide +kernel
theorem dX8_init_137 : decode cX8_init 137 = .ok (.newarray .int, 2) := by decide +kernel
theorem dX8_init_139 : decode cX8_init 139 = .ok (.putfield 59, 3) := by decide +kernel
theorem dX8_init_142 : decode cX8_init 142 = .ok (.aload_n 0, 1) := by decide +kernel
theorem dX8_init_143 : decode cX8_init 143 = .ok (.sipush 512, 3) := by decide +kernel
theorem dX8_init_146 : decode cX8_init 146 = .ok (.newarray .int, 2) := by decide +kernel
theorem dX8_init_148 : decode cX8_init 148 = .ok (.putfield 62, 3) := by decide +kernel
theorem dX8_init_151 : decode cX8_init 151 = .ok (.aload_n 0, 1) := by decide +kernel
theorem dX8_init_152 : decode cX8_init 152 = .ok (.sipush 512, 3) := by decide +kernel
theorem dX8_init_155 : decode cX8_init 155 = .ok (.newarray .int, 2) := by decide +kernel
theorem dX8_init_157 : decode cX8_init 157 = .ok (.putfield 65, 3) := by decide +kernel
theorem dX8_init_160 : decode cX8_init 160 = .ok (.aload_n 0, 1) := by decide +kernel
theorem dX8_init_161 : decode cX8_init 161 = .ok (.iconst (-1), 1) := by decide +kernel
theorem dX8_init_162 : decode cX8_init 162 = .ok (.putfield 68, 3) := by decide +kernel
theorem dX8_init_165 : decode cX8_init 165 = .ok (.iconst 0, 1) := by decide +kernel
theorem dX8_init_166 : decode cX8_init 166 = .ok (.istore_n 1, 1) := by decide +kernel
theorem dX8_init_167 : decode cX8_init 167 = .ok (.iload_n 1, 1) := by decide +kernel
theorem dX8_init_168 : decode cX8_init 168 = .ok (.bipush 9, 2) := by decide +kernel
theorem dX8_init_170 : decode cX8_init 170 = .ok (.if_icmp .ge 19, 3) := by decide +kernel
theorem dX8_init_173 : decode cX8_init 173 = .ok (.aload_n 0, 1) := by decide +kernel
theorem dX8_init_174 : decode cX8_init 174 = .ok (.getfield 19, 3) := by decide +kernel
theorem dX8_init_177 : decode cX8_init 177 = .ok (.bipush 18, 2) := by decide +kernel
theorem dX8_init_179 : decode cX8_init 179 = .ok (.iload_n 1, 1) := by decide +kernel
theorem dX8_init_180 : decode cX8_init 180 = .ok (.iadd, 1) := by decide +kernel
theorem dX8_init_181 : decode cX8_init 181 = .ok (.iconst (-1), 1) := by decide +kernel
theorem dX8_init_182 : decode cX8_init 182 = .ok (.iastore, 1) := by decide +kernel
theorem dX8_init_183 : decode cX8_init 183 = .ok (.iinc 1 1, 3) := by decide +kernel
theorem dX8_init_186 : decode cX8_init 186 = .ok (.goto (-19), 3) := by decide +kernel
theorem dX8_init_189 : decode cX8_init 189 = .ok (.return_, 1) := by decide +kernel
theorem dX8_in_0 : decode cX8_in 0 = .ok (.iload_n 0, 1) := by decide +kernel
theorem dX8_in_1 : decode cX8_in 1 = .ok (.iload_n 1, 1) := by decide +kernel
theorem dX8_in_2 : decode cX8_in 2 = .ok (.if_icmp .lt 12, 3) := by decide +kernel
theorem dX8_in_5 : decode cX8_in 5 = .ok (.iload_n 0, 1) := by decide +kernel
theorem dX8_in_6 : decode cX8_in 6 = .ok (.iload_n 2, 1) := by decide +kernel
theorem dX8_in_7 : decode cX8_in 7 = .ok (.if_icmp .gt 7, 3) := by decide +kernel
theorem dX8_in_10 : decode cX8_in 10 = .ok (.iconst 1, 1) := by decide +kernel
theorem dX8_in_11 : decode cX8_in 11 = .ok (.goto 4, 3) := by decide +kernel
theorem dX8_in_14 : decode cX8_in 14 = .ok (.iconst 0, 1) := by decide +kernel
theorem dX8_in_15 : decode cX8_in 15 = .ok (.ireturn, 1) := by decide +kernel
theorem dX8_has_0 : decode cX8_has 0 = .ok (.iload_n 0, 1) := by decide +kernel
theorem dX8_has_1 : decode cX8_has 1 = .ok (.iload_n 1, 1) := by decide +kernel
theorem dX8_has_2 : decode cX8_has 2 = .ok (.ishr, 1) := by decide +kernel
theorem dX8_has_3 : decode cX8_has 3 = .ok (.iconst 1, 1) := by decide +kernel
theorem dX8_has_4 : decode cX8_has 4 = .ok (.iand, 1) := by decide +kernel
theorem dX8_has_5 : decode cX8_has 5 = .ok (.iconst 1, 1) := by decide +kernel
theorem dX8_has_6 : decode cX8_has 6 = .ok (.if_icmp .ne 7, 3) := by decide +kernel
theorem dX8_has_9 : decode cX8_has 9 = .ok (.iconst 1, 1) := by decide +kernel
theorem dX8_has_10 : decode cX8_has 10 = .ok (.goto 4, 3) := by decide +kernel
theorem dX8_has_13 : decode cX8_has 13 = .ok (.iconst 0, 1) := by decide +kernel
theorem dX8_has_14 : decode cX8_has 14 = .ok (.ireturn, 1) := by decide +kernel
theorem dX8_ones_0 : decode cX8_ones 0 = .ok (.iconst 0, 1) := by decide +kernel
theorem dX8_ones_1 : decode cX8_ones 1 = .ok (.istore_n 1, 1) := by decide +kernel
theorem dX8_ones_2 : decode cX8_ones 2 = .ok (.iconst 0, 1) := by decide +kernel
theorem dX8_ones_3 : decode cX8_ones 3 = .ok (.istore_n 2, 1) := by decide +kernel
theorem dX8_ones_4 : decode cX8_ones 4 = .ok (.iload_n 2, 1) := by decide +kernel
theorem dX8_ones_5 : decode cX8_ones 5 = .ok (.bipush 9, 2) := by decide +kernel
theorem dX8_ones_7 : decode cX8_ones 7 = .ok (.if_icmp .ge 17, 3) := by decide +kernel
theorem dX8_ones_10 : decode cX8_ones 10 = .ok (.iload_n 1, 1) := by decide +kernel
theorem dX8_ones_11 : decode cX8_ones 11 = .ok (.iload_n 0, 1) := by decide +kernel
theorem dX8_ones_12 : decode cX8_ones 12 = .ok (.iload_n 2, 1) := by decide +kernel
theorem dX8_ones_13 : decode cX8_ones 13 = .ok (.ishr, 1) := by decide +kernel
theorem dX8_ones_14 : decode cX8_ones 14 = .ok (.iconst 1, 1) := by decide +kernel
theorem dX8_ones_15 : decode cX8_ones 15 = .ok (.iand, 1) := by decide +kernel
theorem dX8_ones_16 : decode cX8_ones 16 = .ok (.iadd, 1) := by decide +kernel
theorem dX8_ones_17 : decode cX8_ones 17 = .ok (.istore_n 1, 1) := by decide +kernel
theorem dX8_ones_18 : decode cX8_ones 18 = .ok (.iinc 2 1, 3) := by decide +kernel
theorem dX8_ones_21 : decode cX8_ones 21 = .ok (.goto (-17), 3) := by decide +kernel
theorem dX8_ones_24 : decode cX8_ones 24 = .ok (.iload_n 1, 1) := by decide +kernel
theorem dX8_ones_25 : decode cX8_ones 25 = .ok (.ireturn, 1) := by decide +kernel
theorem dX8_feed_0 : decode cX8_feed 0 = .ok (.aload_n 0, 1) := by decide +kernel
theorem dX8_feed_1 : decode cX8_feed 1 = .ok (.iconst 0, 1) := by decide +kernel
theorem dX8_feed_2 : decode cX8_feed 2 = .ok (.putfield 72, 3) := by decide +kernel
theorem dX8_feed_5 : decode cX8_feed 5 = .ok (.iload_n 1, 1) := by decide +kernel
theorem dX8_feed_6 : decode cX8_feed 6 = .ok (.iconst 0, 1) := by decide +kernel
theorem dX8_feed_7 : decode cX8_feed 7 = .ok (.sipush 255, 3) := by decide +kernel
theorem dX8_feed_10 : decode cX8_feed 10 = .ok (.invokestatic 75, 3) := by decide +kernel
theorem dX8_feed_13 : decode cX8_feed 13 = .ok (.ifCond .ne 6, 3) := by decide +kernel
theorem dX8_feed_16 : decode cX8_feed 16 = .ok (.ldc 79, 2) := by decide +kernel
theorem dX8_feed_18 : decode cX8_feed 18 = .ok (.ireturn, 1) := by decide +kernel
theorem dX8_feed_19 : decode cX8_feed 19 = .ok (.aload_n 0, 1) := by decide +kernel
theorem dX8_feed_20 : decode cX8_feed 20 = .ok (.getfield 80, 3) := by decide +kernel
theorem dX8_feed_23 : decode cX8_feed 23 = .ok (.sipush 240, 3) := by decide +kernel
theorem dX8_feed_26 : decode cX8_feed 26 = .ok (.if_icmp .ne 6, 3) := by decide +kernel
theorem dX8_feed_29 : decode cX8_feed 29 = .ok (.ldc 83, 2) := by decide +kernel
theorem dX8_feed_31 : decode cX8_feed 31 = .ok (.ireturn, 1) := by decide +kernel
theorem dX8_feed_32 : decode cX8_feed 32 = .ok (.aload_n 0, 1) := by decide +kernel
theorem dX8_feed_33 : decode cX8_feed 33 = .ok (.getfield 7, 3) := by decide +kernel
theorem dX8_feed_36 : decode cX8_feed 36 = .ok (.aload_n 0, 1) := by decide +kernel
theorem dX8_feed_37 : decode cX8_feed 37 = .ok (.getfield 80, 3) := by decide +kernel
theorem dX8_feed_40 : decode cX8_feed 40 = .ok (.iload_n 1, 1) := by decide +kernel
theorem dX8_feed_41 : decode cX8_feed 41 = .ok (.iastore, 1) := by decide +kernel
theorem dX8_feed_42 : decode cX8_feed 42 = .ok (.aload_n 0, 1) := by decide +kernel
theorem dX8_feed_43 : decode cX8_feed 43 = .ok (.dup, 1) := by decide +kernel
theorem dX8_feed_44 : decode cX8_feed 44 = .ok (.getfield 80, 3) := by decide +kernel
theorem dX8_feed_47 : decode cX8_feed 47 = .ok (.iconst 1, 1) := by decide +kernel
theorem dX8_feed_48 : decode cX8_feed 48 = .ok (.iadd, 1) := by decide +kernel
theorem dX8_feed_49 : decode cX8_feed 49 = .ok (.putfield 80, 3) := by decide +kernel
theorem dX8_feed_52 : decode cX8_feed 52 = .ok (.aload_n 0, 1) := by decide +kernel
theorem dX8_feed_53 : decode cX8_feed 53 = .ok (.getfield 80, 3) := by decide +kernel
theorem dX8_feed_56 : decode cX8_feed 56 = .ok (.ireturn, 1) := by decide +kernel
theorem dX8_letterAt_0 : decode cX8_letterAt 0 = .ok (.iload_n 1, 1) := by decide +kernel
theorem dX8_letterAt_1 : decode cX8_letterAt 1 = .ok (.aload_n 0, 1) := by decide +kernel
theorem dX8_letterAt_2 : decode cX8_letterAt 2 = .ok (.getfield 80, 3) := by decide +kernel
theorem dX8_letterAt_5 : decode cX8_letterAt 5 = .ok (.if_icmp .ge 12, 3) := by decide +kernel
theorem dX8_letterAt_8 : decode cX8_letterAt 8 = .ok (.aload_n 0, 1) := by decide +kernel
theorem dX8_letterAt_9 : decode cX8_letterAt 9 = .ok (.getfield 7, 3) := by decide +kernel
theorem dX8_letterAt_12 : decode cX8_letterAt 12 = .ok (.iload_n 1, 1) := by decide +kernel
theorem dX8_letterAt_13 : decode cX8_letterAt 13 = .ok (.iaload, 1) := by decide +kernel
theorem dX8_letterAt_14 : decode cX8_letterAt 14 = .ok (.goto 4, 3) := by decide +kernel
theorem dX8_letterAt_17 : decode cX8_letterAt 17 = .ok (.iconst (-1), 1) := by decide +kernel
theorem dX8_letterAt_18 : decode cX8_letterAt 18 = .ok (.ireturn, 1) := by decide +kernel
theorem dX8_blanks_0 : decode cX8_blanks 0 = .ok (.aload_n 0, 1) := by decide +kernel
theorem dX8_blanks_1 : decode cX8_blanks 1 = .ok (.aload_n 0, 1) := by decide +kernel
theorem dX8_blanks_2 : decode cX8_blanks 2 = .ok (.getfield 84, 3) := by decide +kernel
theorem dX8_blanks_5 : decode cX8_blanks 5 = .ok (.invokevirtual 87, 3) := by decide +kernel
theorem dX8_blanks_8 : decode cX8_blanks 8 = .ok (.bipush 32, 2) := by decide +kernel
theorem dX8_blanks_10 : decode cX8_blanks 10 = .ok (.if_icmp .ne 16, 3) := by decide +kernel
theorem dX8_blanks_13 : decode cX8_blanks 13 = .ok (.aload_n 0, 1) := by decide +kernel
theorem dX8_blanks_14 : decode cX8_blanks 14 = .ok (.dup, 1) := by decide +kernel
theorem dX8_blanks_15 : decode cX8_blanks 15 = .ok (.getfield 84, 3) := by decide +kernel
theorem dX8_blanks_18 : decode cX8_blanks 18 = .ok (.iconst 1, 1) := by decide +kernel
theorem dX8_blanks_19 : decode cX8_blanks 19 = .ok (.iadd, 1) := by decide +kernel
theorem dX8_blanks_20 : decode cX8_blanks 20 = .ok (.putfield 84, 3) := by decide +kernel
theorem dX8_blanks_23 : decode cX8_blanks 23 = .ok (.goto (-23), 3) := by decide +kernel
theorem dX8_blanks_26 : decode cX8_blanks 26 = .ok (.return_, 1) := by decide +kernel
theorem dX8_isWell_0 : decode cX8_isWell 0 = .ok (.aload_n 0, 1) := by decide +kernel
theorem dX8_isWell_1 : decode cX8_isWell 1 = .ok (.getfield 91, 3) := by decide +kernel
theorem dX8_isWell_4 : decode cX8_isWell 4 = .ok (.ifCond .ne 7, 3) := by decide +kernel
theorem dX8_isWell_7 : decode cX8_isWell 7 = .ok (.iconst 1, 1) := by decide +kernel
theorem dX8_isWell_8 : decode cX8_isWell 8 = .ok (.goto 4, 3) := by decide +kernel
theorem dX8_isWell_11 : decode cX8_isWell 11 = .ok (.iconst 0, 1) := by decide +kernel
theorem dX8_isWell_12 : decode cX8_isWell 12 = .ok (.ireturn, 1) := by decide +kernel
theorem dX8_faulty_0 : decode cX8_faulty 0 = .ok (.aload_n 0, 1) := by decide +kernel
theorem dX8_faulty_1 : decode cX8_faulty 1 = .ok (.invokevirtual 94, 3) := by decide +kernel
theorem dX8_faulty_4 : decode cX8_faulty 4 = .ok (.ifCond .eq 13, 3) := by decide +kernel
theorem dX8_faulty_7 : decode cX8_faulty 7 = .ok (.aload_n 0, 1) := by decide +kernel
theorem dX8_faulty_8 : decode cX8_faulty 8 = .ok (.iload_n 1, 1) := by decide +kernel
theorem dX8_faulty_9 : decode cX8_faulty 9 = .ok (.putfield 91, 3) := by decide +kernel
theorem dX8_faulty_12 : decode cX8_faulty 12 = .ok (.aload_n 0, 1) := by decide +kernel
theorem dX8_faulty_13 : decode cX8_faulty 13 = .ok (.iload_n 2, 1) := by decide +kernel
theorem dX8_faulty_14 : decode cX8_faulty 14 = .ok (.putfield 98, 3) := by decide +kernel
theorem dX8_faulty_17 : decode cX8_faulty 17 = .ok (.return_, 1) := by decide +kernel
theorem dX8_due_0 : decode cX8_due 0 = .ok (.aload_n 0, 1) := by decide +kernel
theorem dX8_due_1 : decode cX8_due 1 = .ok (.invokevirtual 101, 3) := by decide +kernel
theorem dX8_due_4 : decode cX8_due 4 = .ok (.aload_n 0, 1) := by decide +kernel
theorem dX8_due_5 : decode cX8_due 5 = .ok (.getfield 84, 3) := by decide +kernel
theorem dX8_due_8 : decode cX8_due 8 = .ok (.istore_n 3, 1) := by decide +kernel
theorem dX8_due_9 : decode cX8_due 9 = .ok (.iconst 0, 1) := by decide +kernel
theorem dX8_due_10 : decode cX8_due 10 = .ok (.istore 4, 2) := by decide +kernel
theorem dX8_due_12 : decode cX8_due 12 = .ok (.aload_n 0, 1) := by decide +kernel
theorem dX8_due_13 : decode cX8_due 13 = .ok (.aload_n 0, 1) := by decide +kernel
theorem dX8_due_14 : decode cX8_due 14 = .ok (.getfield 84, 3) := by decide +kernel
theorem dX8_due_17 : decode cX8_due 17 = .ok (.invokevirtual 87, 3) := by decide +kernel
theorem dX8_due_20 : decode cX8_due 20 = .ok (.bipush 48, 2) := by decide +kernel
theorem dX8_due_22 : decode cX8_due 22 = .ok (.bipush 57, 2) := by decide +kernel
theorem dX8_due_24 : decode cX8_due 24 = .ok (.invokestatic 75, 3) := by decide +kernel
theorem dX8_due_27 : decode cX8_due 27 = .ok (.ifCond .eq 48, 3) := by decide +kernel
theorem dX8_due_30 : decode cX8_due 30 = .ok (.iload 4, 2) := by decide +kernel
theorem dX8_due_32 : decode cX8_due 32 = .ok (.sipush 9999, 3) := by decide +kernel
theorem dX8_due_35 : decode cX8_due 35 = .ok (.if_icmp .le 8, 3) := by decide +kernel
theorem dX8_due_38 : decode cX8_due 38 = .ok (.iload 4, 2) := by decide +kernel
theorem dX8_due_40 : decode cX8_due 40 = .ok (.goto 20, 3) := by decide +kernel
theorem dX8_due_43 : decode cX8_due 43 = .ok (.bipush 10, 2) := by decide +kernel
theorem dX8_due_45 : decode cX8_due 45 = .ok (.iload 4, 2) := by decide +kernel
theorem dX8_due_47 : decode cX8_due 47 = .ok (.imul, 1) := by decide +kernel
theorem dX8_due_48 : decode cX8_due 48 = .ok (.aload_n 0, 1) := by decide +kernel
theorem dX8_due_49 : decode cX8_due 49 = .ok (.aload_n 0, 1) := by decide +kernel
theorem dX8_due_50 : decode cX8_due 50 = .ok (.getfield 84, 3) := by decide +kernel
theorem dX8_due_53 : decode cX8_due 53 = .ok (.invokevirtual 87, 3) := by decide +kernel
theorem dX8_due_56 : decode cX8_due 56 = .ok (.iadd, 1) := by decide +kernel
theorem dX8_due_57 : decode cX8_due 57 = .ok (.bipush 48, 2) := by decide +kernel
theorem dX8_due_59 : decode cX8_due 59 = .ok (.isub, 1) := by decide +kernel
theorem dX8_due_60 : decode cX8_due 60 = .ok (.istore 4, 2) := by decide +kernel
theorem dX8_due_62 : decode cX8_due 62 = .ok (.aload_n 0, 1) := by decide +kernel
theorem dX8_due_63 : decode cX8_due 63 = .ok (.dup, 1) := by decide +kernel
theorem dX8_due_64 : decode cX8_due 64 = .ok (.getfield 84, 3) := by decide +kernel
theorem dX8_due_67 : decode cX8_due 67 = .ok (.iconst 1, 1) := by decide +kernel
theorem dX8_due_68 : decode cX8_due 68 = .ok (.iadd, 1) := by decide +kernel
theorem dX8_due_69 : decode cX8_due 69 = .ok (.putfield 84, 3) := by decide +kernel
theorem dX8_due_72 : decode cX8_due 72 = .ok (.goto (-60), 3) := by decide +kernel
theorem dX8_due_75 : decode cX8_due 75 = .ok (.aload_n 0, 1) := by decide +kernel
theorem dX8_due_76 : decode cX8_due 76 = .ok (.getfield 84, 3) := by decide +kernel
theorem dX8_due_79 : decode cX8_due 79 = .ok (.iload_n 3, 1) := by decide +kernel
theorem dX8_due_80 : decode cX8_due 80 = .ok (.if_icmp .ne 12, 3) := by decide +kernel
theorem dX8_due_83 : decode cX8_due 83 = .ok (.aload_n 0, 1) := by decide +kernel
theorem dX8_due_84 : decode cX8_due 84 = .ok (.iconst 1, 1) := by decide +kernel
theorem dX8_due_85 : decode cX8_due 85 = .ok (.iload_n 3, 1) := by decide +kernel
theorem dX8_due_86 : decode cX8_due 86 = .ok (.invokevirtual 104, 3) := by decide +kernel
theorem dX8_due_89 : decode cX8_due 89 = .ok (.goto 29, 3) := by decide +kernel
theorem dX8_due_92 : decode cX8_due 92 = .ok (.aload_n 0, 1) := by decide +kernel
theorem dX8_due_93 : decode cX8_due 93 = .ok (.getfield 84, 3) := by decide +kernel
theorem dX8_due_96 : decode cX8_due 96 = .ok (.iload_n 3, 1) := by decide +kernel
theorem dX8_due_97 : decode cX8_due 97 = .ok (.isub, 1) := by decide +kernel
theorem dX8_due_98 : decode cX8_due 98 = .ok (.iconst 3, 1) := by decide +kernel
theorem dX8_due_99 : decode cX8_due 99 = .ok (.if_icmp .gt 13, 3) := by decide +kernel
theorem dX8_due_102 : decode cX8_due 102 = .ok (.iload 4, 2) := by decide +kernel
theorem dX8_due_104 : decode cX8_due 104 = .ok (.iload_n 1, 1) := by decide +kernel
theorem dX8_due_105 : decode cX8_due 105 = .ok (.iload_n 2, 1) := by decide +kernel
theorem dX8_due_106 : decode cX8_due 106 = .ok (.invokestatic 75, 3) := by decide +kernel
theorem dX8_due_109 : decode cX8_due 109 = .ok (.ifCond .ne 9, 3) := by decide +kernel
theorem dX8_due_112 : decode cX8_due 112 = .ok (.aload_n 0, 1) := by decide +kernel
theorem dX8_due_113 : decode cX8_due 113 = .ok (.iconst 2, 1) := by decide +kernel
theorem dX8_due_114 : decode cX8_due 114 = .ok (.iload_n 3, 1) := by decide +kernel
theorem dX8_due_115 : decode cX8_due 115 = .ok (.invokevirtual 104, 3) := by decide +kernel
theorem dX8_due_118 : decode cX8_due 118 = .ok (.iload 4, 2) := by decide +kernel
theorem dX8_due_120 : decode cX8_due 120 = .ok (.ireturn, 1) := by decide +kernel
theorem dX8_ends_0 : decode cX8_ends 0 = .ok (.aload_n 0, 1) := by decide +kernel
theorem dX8_ends_1 : decode cX8_ends 1 = .ok (.invokevirtual 101, 3) := by decide +kernel
theorem dX8_ends_4 : decode cX8_ends 4 = .ok (.aload_n 0, 1) := by decide +kernel
theorem dX8_ends_5 : decode cX8_ends 5 = .ok (.aload_n 0, 1) := by decide +kernel
theorem dX8_ends_6 : decode cX8_ends 6 = .ok (.getfield 84, 3) := by decide +kernel
theorem dX8_ends_9 : decode cX8_ends 9 = .ok (.invokevirtual 87, 3) := by decide +kernel
theorem dX8_ends_12 : decode cX8_ends 12 = .ok (.bipush 59, 2) := by decide +kernel
theorem dX8_ends_14 : decode cX8_ends 14 = .ok (.if_icmp .eq 12, 3) := by decide +kernel
theorem dX8_ends_17 : decode cX8_ends 17 = .ok (.aload_n 0, 1) := by decide +kernel
theorem dX8_ends_18 : decode cX8_ends 18 = .ok (.iconst 1, 1) := by decide +kernel
theorem dX8_ends_19 : decode cX8_ends 19 = .ok (.aload_n 0, 1) := by decide +kernel
theorem dX8_ends_20 : decode cX8_ends 20 = .ok (.getfield 84, 3) := by decide +kernel
theorem dX8_ends_23 : decode cX8_ends 23 = .ok (.invokevirtual 104, 3) := by decide +kernel
theorem dX8_ends_26 : decode cX8_ends 26 = .ok (.aload_n 0, 1) := by decide +kernel
theorem dX8_ends_27 : decode cX8_ends 27 = .ok (.dup, 1) := by decide +kernel
theorem dX8_ends_28 : decode cX8_ends 28 = .ok (.getfield 84, 3) := by decide +kernel
theorem dX8_ends_31 : decode cX8_ends 31 = .ok (.iconst 1, 1) := by decide +kernel
theorem dX8_ends_32 : decode cX8_ends 32 = .ok (.iadd, 1) := by decide +kernel
theorem dX8_ends_33 : decode cX8_ends 33 = .ok (.putfield 84, 3) := by decide +kernel
theorem dX8_ends_36 : decode cX8_ends 36 = .ok (.return_, 1) := by decide +kernel
theorem dX8_tells_0 : decode cX8_tells 0 = .ok (.aload_n 0, 1) := by decide +kernel
theorem dX8_tells_1 : decode cX8_tells 1 = .ok (.getfield 108, 3) := by decide +kernel
theorem dX8_tells_4 : decode cX8_tells 4 = .ok (.istore_n 1, 1) := by decide +kernel
theorem dX8_tells_5 : decode cX8_tells 5 = .ok (.aload_n 0, 1) := by decide +kernel
theorem dX8_tells_6 : decode cX8_tells 6 = .ok (.getfield 13, 3) := by decide +kernel
theorem dX8_tells_9 : decode cX8_tells 9 = .ok (.iload_n 1, 1) := by decide +kernel
theorem dX8_tells_10 : decode cX8_tells 10 = .ok (.aload_n 0, 1) := by decide +kernel
theorem dX8_tells_11 : decode cX8_tells 11 = .ok (.iconst 0, 1) := by decide +kernel
theorem dX8_tells_12 : decode cX8_tells 12 = .ok (.iconst 3, 1) := by decide +kernel
theorem dX8_tells_13 : decode cX8_tells 13 = .ok (.invokevirtual 111, 3) := by decide +kernel
theorem dX8_tells_16 : decode cX8_tells 16 = .ok (.iastore, 1) := by decide +kernel
theorem dX8_tells_17 : decode cX8_tells 17 = .ok (.aload_n 0, 1) := by decide +kernel
theorem dX8_tells_18 : decode cX8_tells 18 = .ok (.invokevirtual 94, 3) := by decide +kernel
theorem dX8_tells_21 : decode cX8_tells 21 = .ok (.ifCond .eq 19, 3) := by decide +kernel
theorem dX8_tells_24 : decode cX8_tells 24 = .ok (.aload_n 0, 1) := by decide +kernel
theorem dX8_tells_25 : decode cX8_tells 25 = .ok (.getfield 13, 3) := by decide +kernel
theorem dX8_tells_28 : decode cX8_tells 28 = .ok (.bipush 9, 2) := by decide +kernel
theorem dX8_tells_30 : decode cX8_tells 30 = .ok (.iload_n 1, 1) := by decide +kernel
theorem dX8_tells_31 : decode cX8_tells 31 = .ok (.iadd, 1) := by decide +kernel
theorem dX8_tells_32 : decode cX8_tells 32 = .ok (.aload_n 0, 1) := by decide +kernel
theorem dX8_tells_33 : decode cX8_tells 33 = .ok (.iconst 1, 1) := by decide +kernel
theorem dX8_tells_34 : decode cX8_tells 34 = .ok (.bipush 20, 2) := by decide +kernel
theorem dX8_tells_36 : decode cX8_tells 36 = .ok (.invokevirtual 111, 3) := by decide +kernel
theorem dX8_tells_39 : decode cX8_tells 39 = .ok (.iastore, 1) := by decide +kernel
theorem dX8_tells_40 : decode cX8_tells 40 = .ok (.aload_n 0, 1) := by decide +kernel
theorem dX8_tells_41 : decode cX8_tells 41 = .ok (.invokevirtual 94, 3) := by decide +kernel
theorem dX8_tells_44 : decode cX8_tells 44 = .ok (.ifCond .eq 19, 3) := by decide +kernel
theorem dX8_tells_47 : decode cX8_tells 47 = .ok (.aload_n 0, 1) := by decide +kernel
theorem dX8_tells_48 : decode cX8_tells 48 = .ok (.getfield 13, 3) := by decide +kernel
theorem dX8_tells_51 : decode cX8_tells 51 = .ok (.bipush 18, 2) := by decide +kernel
theorem dX8_tells_53 : decode cX8_tells 53 = .ok (.iload_n 1, 1) := by decide +kernel
theorem dX8_tells_54 : decode cX8_tells 54 = .ok (.iadd, 1) := by decide +kernel
theorem dX8_tells_55 : decode cX8_tells 55 = .ok (.aload_n 0, 1) := by decide +kernel
theorem dX8_tells_56 : decode cX8_tells 56 = .ok (.iconst 0, 1) := by decide +kernel
theorem dX8_tells_57 : decode cX8_tells 57 = .ok (.bipush 9, 2) := by decide +kernel
theorem dX8_tells_59 : decode cX8_tells 59 = .ok (.invokevirtual 111, 3) := by decide +kernel
theorem dX8_tells_62 : decode cX8_tells 62 = .ok (.iastore, 1) := by decide +kernel
theorem dX8_tells_63 : decode cX8_tells 63 = .ok (.aload_n 0, 1) := by decide +kernel
theorem dX8_tells_64 : decode cX8_tells 64 = .ok (.dup, 1) := by decide +kernel
theorem dX8_tells_65 : decode cX8_tells 65 = .ok (.getfield 108, 3) := by decide +kernel
theorem dX8_tells_68 : decode cX8_tells 68 = .ok (.iconst 1, 1) := by decide +kernel
theorem dX8_tells_69 : decode cX8_tells 69 = .ok (.iadd, 1) := by decide +kernel
theorem dX8_tells_70 : decode cX8_tells 70 = .ok (.putfield 108, 3) := by decide +kernel
theorem dX8_tells_73 : decode cX8_tells 73 = .ok (.return_, 1) := by decide +kernel
theorem dX8_reads_0 : decode cX8_reads 0 = .ok (.iconst 0, 1) := by decide +kernel
theorem dX8_reads_1 : decode cX8_reads 1 = .ok (.istore_n 1, 1) := by decide +kernel
theorem dX8_reads_2 : decode cX8_reads 2 = .ok (.aload_n 0, 1) := by decide +kernel
theorem dX8_reads_3 : decode cX8_reads 3 = .ok (.invokevirtual 101, 3) := by decide +kernel
theorem dX8_reads_6 : decode cX8_reads 6 = .ok (.aload_n 0, 1) := by decide +kernel
theorem dX8_reads_7 : decode cX8_reads 7 = .ok (.invokevirtual 94, 3) := by decide +kernel
theorem dX8_reads_10 : decode cX8_reads 10 = .ok (.ifCond .eq 152, 3) := by decide +kernel
theorem dX8_reads_13 : decode cX8_reads 13 = .ok (.aload_n 0, 1) := by decide +kernel
theorem dX8_reads_14 : decode cX8_reads 14 = .ok (.getfield 84, 3) := by decide +kernel
theorem dX8_reads_17 : decode cX8_reads 17 = .ok (.aload_n 0, 1) := by decide +kernel
theorem dX8_reads_18 : decode cX8_reads 18 = .ok (.getfield 80, 3) := by decide +kernel
theorem dX8_reads_21 : decode cX8_reads 21 = .ok (.if_icmp .ge 141, 3) := by decide +kernel
theorem dX8_reads_24 : decode cX8_reads 24 = .ok (.aload_n 0, 1) := by decide +kernel
theorem dX8_reads_25 : decode cX8_reads 25 = .ok (.aload_n 0, 1) := by decide +kernel
theorem dX8_reads_26 : decode cX8_reads 26 = .ok (.getfield 84, 3) := by decide +kernel
theorem dX8_reads_29 : decode cX8_reads 29 = .ok (.invokevirtual 87, 3) := by decide +kernel
theorem dX8_reads_32 : decode cX8_reads 32 = .ok (.istore_n 2, 1) := by decide +kernel
theorem dX8_reads_33 : decode cX8_reads 33 = .ok (.iload_n 2, 1) := by decide +kernel
theorem dX8_reads_34 : decode cX8_reads 34 = .ok (.bipush 103, 2) := by decide +kernel
theorem dX8_reads_36 : decode cX8_reads 36 = .ok (.if_icmp .eq 13, 3) := by decide +kernel
theorem dX8_reads_39 : decode cX8_reads 39 = .ok (.iload_n 2, 1) := by decide +kernel
theorem dX8_reads_40 : decode cX8_reads 40 = .ok (.bipush 115, 2) := by decide +kernel
theorem dX8_reads_42 : decode cX8_reads 42 = .ok (.if_icmp .ne 11, 3) := by decide +kernel
theorem dX8_reads_45 : decode cX8_reads 45 = .ok (.iload_n 1, 1) := by decide +kernel
theorem dX8_reads_46 : decode cX8_reads 46 = .ok (.ifCond .eq 7, 3) := by decide +kernel
theorem dX8_reads_49 : decode cX8_reads 49 = .ok (.iconst 1, 1) := by decide +kernel
theorem dX8_reads_50 : decode cX8_reads 50 = .ok (.goto 4, 3) := by decide +kernel
theorem dX8_reads_53 : decode cX8_reads 53 = .ok (.iconst 0, 1) := by decide +kernel
theorem dX8_reads_54 : decode cX8_reads 54 = .ok (.istore_n 3, 1) := by decide +kernel
theorem dX8_reads_55 : decode cX8_reads 55 = .ok (.iload_n 3, 1) := by decide +kernel
theorem dX8_reads_56 : decode cX8_reads 56 = .ok (.ifCond .ne 15, 3) := by decide +kernel
theorem dX8_reads_59 : decode cX8_reads 59 = .ok (.aload_n 0, 1) := by decide +kernel
theorem dX8_reads_60 : decode cX8_reads 60 = .ok (.iconst 1, 1) := by decide +kernel
theorem dX8_reads_61 : decode cX8_reads 61 = .ok (.aload_n 0, 1) := by decide +kernel
theorem dX8_reads_62 : decode cX8_reads 62 = .ok (.getfield 84, 3) := by decide +kernel
theorem dX8_reads_65 : decode cX8_reads 65 = .ok (.invokevirtual 104, 3) := by decide +kernel
theorem dX8_reads_68 : decode cX8_reads 68 = .ok (.goto 91, 3) := by decide +kernel
theorem dX8_reads_71 : decode cX8_reads 71 = .ok (.iload_n 2, 1) := by decide +kernel
theorem dX8_reads_72 : decode cX8_reads 72 = .ok (.bipush 103, 2) := by decide +kernel
theorem dX8_reads_74 : decode cX8_reads 74 = .ok (.if_icmp .ne 7, 3) := by decide +kernel
theorem dX8_reads_77 : decode cX8_reads 77 = .ok (.iload_n 1, 1) := by decide +kernel
theorem dX8_reads_78 : decode cX8_reads 78 = .ok (.ifCond .ne 18, 3) := by decide +kernel
theorem dX8_reads_81 : decode cX8_reads 81 = .ok (.iload_n 2, 1) := by decide +kernel
theorem dX8_reads_82 : decode cX8_reads 82 = .ok (.bipush 115, 2) := by decide +kernel
theorem dX8_reads_84 : decode cX8_reads 84 = .ok (.if_icmp .ne 24, 3) := by decide +kernel
theorem dX8_reads_87 : decode cX8_reads 87 = .ok (.aload_n 0, 1) := by decide +kernel
theorem dX8_reads_88 : decode cX8_reads 88 = .ok (.getfield 108, 3) := by decide +kernel
theorem dX8_reads_91 : decode cX8_reads 91 = .ok (.bipush 9, 2) := by decide +kernel
theorem dX8_reads_93 : decode cX8_reads 93 = .ok (.if_icmp .ne 15, 3) := by decide +kernel
theorem dX8_reads_96 : decode cX8_reads 96 = .ok (.aload_n 0, 1) := by decide +kernel
theorem dX8_reads_97 : decode cX8_reads 97 = .ok (.iconst 3, 1) := by decide +kernel
theorem dX8_reads_98 : decode cX8_reads 98 = .ok (.aload_n 0, 1) := by decide +kernel
theorem dX8_reads_99 : decode cX8_reads 99 = .ok (.getfield 84, 3) := by decide +kernel
theorem dX8_reads_102 : decode cX8_reads 102 = .ok (.invokevirtual 104, 3) := by decide +kernel
theorem dX8_reads_105 : decode cX8_reads 105 = .ok (.goto 54, 3) := by decide +kernel
theorem dX8_reads_108 : decode cX8_reads 108 = .ok (.aload_n 0, 1) := by decide +kernel
theorem dX8_reads_109 : decode cX8_reads 109 = .ok (.dup, 1) := by decide +kernel
theorem dX8_reads_110 : decode cX8_reads 110 = .ok (.getfield 84, 3) := by decide +kernel
theorem dX8_reads_113 : decode cX8_reads 113 = .ok (.iconst 1, 1) := by decide +kernel
theorem dX8_reads_114 : decode cX8_reads 114 = .ok (.iadd, 1) := by decide +kernel
theorem dX8_reads_115 : decode cX8_reads 115 = .ok (.putfield 84, 3) := by decide +kernel
theorem dX8_reads_118 : decode cX8_reads 118 = .ok (.iload_n 2, 1) := by decide +kernel
theorem dX8_reads_119 : decode cX8_reads 119 = .ok (.bipush 103, 2) := by decide +kernel
theorem dX8_reads_121 : decode cX8_reads 121 = .ok (.if_icmp .ne 19, 3) := by decide +kernel
theorem dX8_reads_124 : decode cX8_reads 124 = .ok (.iconst 1, 1) := by decide +kernel
theorem dX8_reads_125 : decode cX8_reads 125 = .ok (.istore_n 1, 1) := by decide +kernel
theorem dX8_reads_126 : decode cX8_reads 126 = .ok (.aload_n 0, 1) := by decide +kernel
theorem dX8_reads_127 : decode cX8_reads 127 = .ok (.aload_n 0, 1) := by decide +kernel
theorem dX8_reads_128 : decode cX8_reads 128 = .ok (.iconst 0, 1) := by decide +kernel
theorem dX8_reads_129 : decode cX8_reads 129 = .ok (.bipush 9, 2) := by decide +kernel
theorem dX8_reads_131 : decode cX8_reads 131 = .ok (.invokevirtual 111, 3) := by decide +kernel
theorem dX8_reads_134 : decode cX8_reads 134 = .ok (.putfield 115, 3) := by decide +kernel
theorem dX8_reads_137 : decode cX8_reads 137 = .ok (.goto 7, 3) := by decide +kernel
theorem dX8_reads_140 : decode cX8_reads 140 = .ok (.aload_n 0, 1) := by decide +kernel
theorem dX8_reads_141 : decode cX8_reads 141 = .ok (.invokevirtual 118, 3) := by decide +kernel
theorem dX8_reads_144 : decode cX8_reads 144 = .ok (.aload_n 0, 1) := by decide +kernel
theorem dX8_reads_145 : decode cX8_reads 145 = .ok (.invokevirtual 94, 3) := by decide +kernel
theorem dX8_reads_148 : decode cX8_reads 148 = .ok (.ifCond .eq 11, 3) := by decide +kernel
theorem dX8_reads_151 : decode cX8_reads 151 = .ok (.aload_n 0, 1) := by decide +kernel
theorem dX8_reads_152 : decode cX8_reads 152 = .ok (.invokevirtual 121, 3) := by decide +kernel
theorem dX8_reads_155 : decode cX8_reads 155 = .ok (.aload_n 0, 1) := by decide +kernel
theorem dX8_reads_156 : decode cX8_reads 156 = .ok (.invokevirtual 101, 3) := by decide +kernel
theorem dX8_reads_159 : decode cX8_reads 159 = .ok (.goto (-153), 3) := by decide +kernel
theorem dX8_reads_162 : decode cX8_reads 162 = .ok (.return_, 1) := by decide +kernel
theorem dX8_county_0 : decode cX8_county 0 = .ok (.aload_n 0, 1) := by decide +kernel
theorem dX8_county_1 : decode cX8_county 1 = .ok (.iconst 0, 1) := by decide +kernel
theorem dX8_county_2 : decode cX8_county 2 = .ok (.putfield 72, 3) := by decide +kernel
theorem dX8_county_5 : decode cX8_county 5 = .ok (.aload_n 0, 1) := by decide +kernel
theorem dX8_county_6 : decode cX8_county 6 = .ok (.iconst 0, 1) := by decide +kernel
theorem dX8_county_7 : decode cX8_county 7 = .ok (.putfield 84, 3) := by decide +kernel
theorem dX8_county_10 : decode cX8_county 10 = .ok (.aload_n 0, 1) := by decide +kernel
theorem dX8_county_11 : decode cX8_county 11 = .ok (.iconst 0, 1) := by decide +kernel
theorem dX8_county_12 : decode cX8_county 12 = .ok (.putfield 91, 3) := by decide +kernel
theorem dX8_county_15 : decode cX8_county 15 = .ok (.aload_n 0, 1) := by decide +kernel
theorem dX8_county_16 : decode cX8_county 16 = .ok (.iconst (-1), 1) := by decide +kernel
theorem dX8_county_17 : decode cX8_county 17 = .ok (.putfield 115, 3) := by decide +kernel
theorem dX8_county_20 : decode cX8_county 20 = .ok (.aload_n 0, 1) := by decide +kernel
theorem dX8_county_21 : decode cX8_county 21 = .ok (.iconst 0, 1) := by decide +kernel
theorem dX8_county_22 : decode cX8_county 22 = .ok (.putfield 108, 3) := by decide +kernel
theorem dX8_county_25 : decode cX8_county 25 = .ok (.aload_n 0, 1) := by decide +kernel
theorem dX8_county_26 : decode cX8_county 26 = .ok (.invokevirtual 124, 3) := by decide +kernel
theorem dX8_county_29 : decode cX8_county 29 = .ok (.aload_n 0, 1) := by decide +kernel
theorem dX8_county_30 : decode cX8_county 30 = .ok (.iconst 0, 1) := by decide +kernel
theorem dX8_county_31 : decode cX8_county 31 = .ok (.putfield 80, 3) := by decide +kernel
theorem dX8_county_34 : decode cX8_county 34 = .ok (.aload_n 0, 1) := by decide +kernel
theorem dX8_county_35 : decode cX8_county 35 = .ok (.aload_n 0, 1) := by decide +kernel
theorem dX8_county_36 : decode cX8_county 36 = .ok (.invokevirtual 94, 3) := by decide +kernel
theorem dX8_county_39 : decode cX8_county 39 = .ok (.ifCond .eq 7, 3) := by decide +kernel
theorem dX8_county_42 : decode cX8_county 42 = .ok (.iconst (-1), 1) := by decide +kernel
theorem dX8_county_43 : decode cX8_county 43 = .ok (.goto 7, 3) := by decide +kernel
theorem dX8_county_46 : decode cX8_county 46 = .ok (.aload_n 0, 1) := by decide +kernel
theorem dX8_county_47 : decode cX8_county 47 = .ok (.getfield 98, 3) := by decide +kernel
theorem dX8_county_50 : decode cX8_county 50 = .ok (.putfield 68, 3) := by decide +kernel
theorem dX8_county_53 : decode cX8_county 53 = .ok (.aload_n 0, 1) := by decide +kernel
theorem dX8_county_54 : decode cX8_county 54 = .ok (.invokevirtual 94, 3) := by decide +kernel
theorem dX8_county_57 : decode cX8_county 57 = .ok (.ifCond .ne 11, 3) := by decide +kernel
theorem dX8_county_60 : decode cX8_county 60 = .ok (.bipush (-10), 2) := by decide +kernel
theorem dX8_county_62 : decode cX8_county 62 = .ok (.aload_n 0, 1) := by decide +kernel
theorem dX8_county_63 : decode cX8_county 63 = .ok (.getfield 91, 3) := by decide +kernel
theorem dX8_county_66 : decode cX8_county 66 = .ok (.isub, 1) := by decide +kernel
theorem dX8_county_67 : decode cX8_county 67 = .ok (.ireturn, 1) := by decide +kernel
theorem dX8_county_68 : decode cX8_county 68 = .ok (.aload_n 0, 1) := by decide +kernel
theorem dX8_county_69 : decode cX8_county 69 = .ok (.invokevirtual 127, 3) := by decide +kernel
theorem dX8_county_72 : decode cX8_county 72 = .ok (.aload_n 0, 1) := by decide +kernel
theorem dX8_county_73 : decode cX8_county 73 = .ok (.getfield 130, 3) := by decide +kernel
theorem dX8_county_76 : decode cX8_county 76 = .ok (.ireturn, 1) := by decide +kernel
theorem dX8_settles_0 : decode cX8_settles 0 = .ok (.aload_n 0, 1) := by decide +kernel
theorem dX8_settles_1 : decode cX8_settles 1 = .ok (.aload_n 0, 1) := by decide +kernel
theorem dX8_settles_2 : decode cX8_settles 2 = .ok (.getfield 115, 3) := by decide +kernel
theorem dX8_settles_5 : decode cX8_settles 5 = .ok (.iconst (-1), 1) := by decide +kernel
theorem dX8_settles_6 : decode cX8_settles 6 = .ok (.if_icmp .eq 7, 3) := by decide +kernel
theorem dX8_settles_9 : decode cX8_settles 9 = .ok (.iconst 1, 1) := by decide +kernel
theorem dX8_settles_10 : decode cX8_settles 10 = .ok (.goto 4, 3) := by decide +kernel
theorem dX8_settles_13 : decode cX8_settles 13 = .ok (.iconst 0, 1) := by decide +kernel
theorem dX8_settles_14 : decode cX8_settles 14 = .ok (.putfield 133, 3) := by decide +kernel
theorem dX8_settles_17 : decode cX8_settles 17 = .ok (.aload_n 0, 1) := by decide +kernel
theorem dX8_settles_18 : decode cX8_settles 18 = .ok (.aload_n 0, 1) := by decide +kernel
theorem dX8_settles_19 : decode cX8_settles 19 = .ok (.getfield 115, 3) := by decide +kernel
theorem dX8_settles_22 : decode cX8_settles 22 = .ok (.putfield 137, 3) := by decide +kernel
theorem dX8_settles_25 : decode cX8_settles 25 = .ok (.aload_n 0, 1) := by decide +kernel
theorem dX8_settles_26 : decode cX8_settles 26 = .ok (.aload_n 0, 1) := by decide +kernel
theorem dX8_settles_27 : decode cX8_settles 27 = .ok (.getfield 108, 3) := by decide +kernel
theorem dX8_settles_30 : decode cX8_settles 30 = .ok (.putfield 130, 3) := by decide +kernel
theorem dX8_settles_33 : decode cX8_settles 33 = .ok (.iconst 0, 1) := by decide +kernel
theorem dX8_settles_34 : decode cX8_settles 34 = .ok (.istore_n 1, 1) := by decide +kernel
theorem dX8_settles_35 : decode cX8_settles 35 = .ok (.iload_n 1, 1) := by decide +kernel
theorem dX8_settles_36 : decode cX8_settles 36 = .ok (.bipush 9, 2) := by decide +kernel
theorem dX8_settles_38 : decode cX8_settles 38 = .ok (.if_icmp .ge 124, 3) := by decide +kernel
theorem dX8_settles_41 : decode cX8_settles 41 = .ok (.iload_n 1, 1) := by decide +kernel
theorem dX8_settles_42 : decode cX8_settles 42 = .ok (.aload_n 0, 1) := by decide +kernel
theorem dX8_settles_43 : decode cX8_settles 43 = .ok (.getfield 130, 3) := by decide +kernel
theorem dX8_settles_46 : decode cX8_settles 46 = .ok (.if_icmp .ge 7, 3) := by decide +kernel
theorem dX8_settles_49 : decode cX8_settles 49 = .ok (.iconst 1, 1) := by decide +kernel
theorem dX8_settles_50 : decode cX8_settles 50 = .ok (.goto 4, 3) := by decide +kernel
theorem dX8_settles_53 : decode cX8_settles 53 = .ok (.iconst 0, 1) := by decide +kernel
theorem dX8_settles_54 : decode cX8_settles 54 = .ok (.istore_n 2, 1) := by decide +kernel
theorem dX8_settles_55 : decode cX8_settles 55 = .ok (.aload_n 0, 1) := by decide +kernel
theorem dX8_settles_56 : decode cX8_settles 56 = .ok (.getfield 19, 3) := by decide +kernel
theorem dX8_settles_59 : decode cX8_settles 59 = .ok (.iconst 0, 1) := by decide +kernel
theorem dX8_settles_60 : decode cX8_settles 60 = .ok (.iload_n 1, 1) := by decide +kernel
theorem dX8_settles_61 : decode cX8_settles 61 = .ok (.iadd, 1) := by decide +kernel
theorem dX8_settles_62 : decode cX8_settles 62 = .ok (.iload_n 1, 1) := by decide +kernel
theorem dX8_settles_63 : decode cX8_settles 63 = .ok (.iastore, 1) := by decide +kernel
theorem dX8_settles_64 : decode cX8_settles 64 = .ok (.aload_n 0, 1) := by decide +kernel
theorem dX8_settles_65 : decode cX8_settles 65 = .ok (.getfield 19, 3) := by decide +kernel
theorem dX8_settles_68 : decode cX8_settles 68 = .ok (.bipush 9, 2) := by decide +kernel
theorem dX8_settles_70 : decode cX8_settles 70 = .ok (.iload_n 1, 1) := by decide +kernel
theorem dX8_settles_71 : decode cX8_settles 71 = .ok (.iadd, 1) := by decide +kernel
theorem dX8_settles_72 : decode cX8_settles 72 = .ok (.iconst 0, 1) := by decide +kernel
theorem dX8_settles_73 : decode cX8_settles 73 = .ok (.iastore, 1) := by decide +kernel
theorem dX8_settles_74 : decode cX8_settles 74 = .ok (.aload_n 0, 1) := by decide +kernel
theorem dX8_settles_75 : decode cX8_settles 75 = .ok (.getfield 19, 3) := by decide +kernel
theorem dX8_settles_78 : decode cX8_settles 78 = .ok (.bipush 18, 2) := by decide +kernel
theorem dX8_settles_80 : decode cX8_settles 80 = .ok (.iload_n 1, 1) := by decide +kernel
theorem dX8_settles_81 : decode cX8_settles 81 = .ok (.iadd, 1) := by decide +kernel
theorem dX8_settles_82 : decode cX8_settles 82 = .ok (.iconst (-1), 1) := by decide +kernel
theorem dX8_settles_83 : decode cX8_settles 83 = .ok (.iastore, 1) := by decide +kernel
theorem dX8_settles_84 : decode cX8_settles 84 = .ok (.aload_n 0, 1) := by decide +kernel
theorem dX8_settles_85 : decode cX8_settles 85 = .ok (.getfield 19, 3) := by decide +kernel
theorem dX8_settles_88 : decode cX8_settles 88 = .ok (.bipush 27, 2) := by decide +kernel
theorem dX8_settles_90 : decode cX8_settles 90 = .ok (.iload_n 1, 1) := by decide +kernel
theorem dX8_settles_91 : decode cX8_settles 91 = .ok (.iadd, 1) := by decide +kernel
theorem dX8_settles_92 : decode cX8_settles 92 = .ok (.iload_n 2, 1) := by decide +kernel
theorem dX8_settles_93 : decode cX8_settles 93 = .ok (.ifCond .eq 12, 3) := by decide +kernel
theorem dX8_settles_96 : decode cX8_settles 96 = .ok (.aload_n 0, 1) := by decide +kernel
theorem dX8_settles_97 : decode cX8_settles 97 = .ok (.getfield 13, 3) := by decide +kernel
theorem dX8_settles_100 : decode cX8_settles 100 = .ok (.iload_n 1, 1) := by decide +kernel
theorem dX8_settles_101 : decode cX8_settles 101 = .ok (.iaload, 1) := by decide +kernel
theorem dX8_settles_102 : decode cX8_settles 102 = .ok (.goto 4, 3) := by decide +kernel
theorem dX8_settles_105 : decode cX8_settles 105 = .ok (.iconst 0, 1) := by decide +kernel
theorem dX8_settles_106 : decode cX8_settles 106 = .ok (.iastore, 1) := by decide +kernel
theorem dX8_settles_107 : decode cX8_settles 107 = .ok (.aload_n 0, 1) := by decide +kernel
theorem dX8_settles_108 : decode cX8_settles 108 = .ok (.getfield 16, 3) := by decide +kernel
theorem dX8_settles_111 : decode cX8_settles 111 = .ok (.iload_n 1, 1) := by decide +kernel
theorem dX8_settles_112 : decode cX8_settles 112 = .ok (.iload_n 2, 1) := by decide +kernel
theorem dX8_settles_113 : decode cX8_settles 113 = .ok (.ifCond .eq 15, 3) := by decide +kernel
theorem dX8_settles_116 : decode cX8_settles 116 = .ok (.aload_n 0, 1) := by decide +kernel
theorem dX8_settles_117 : decode cX8_settles 117 = .ok (.getfield 13, 3) := by decide +kernel
theorem dX8_settles_120 : decode cX8_settles 120 = .ok (.bipush 9, 2) := by decide +kernel
theorem dX8_settles_122 : decode cX8_settles 122 = .ok (.iload_n 1, 1) := by decide +kernel
theorem dX8_settles_123 : decode cX8_settles 123 = .ok (.iadd, 1) := by decide +kernel
theorem dX8_settles_124 : decode cX8_settles 124 = .ok (.iaload, 1) := by decide +kernel
theorem dX8_settles_125 : decode cX8_settles 125 = .ok (.goto 4, 3) := by decide +kernel
theorem dX8_settles_128 : decode cX8_settles 128 = .ok (.iconst 0, 1) := by decide +kernel
theorem dX8_settles_129 : decode cX8_settles 129 = .ok (.iastore, 1) := by decide +kernel
theorem dX8_settles_130 : decode cX8_settles 130 = .ok (.aload_n 0, 1) := by decide +kernel
theorem dX8_settles_131 : decode cX8_settles 131 = .ok (.getfield 19, 3) := by decide +kernel
theorem dX8_settles_134 : decode cX8_settles 134 = .ok (.bipush 36, 2) := by decide +kernel
theorem dX8_settles_136 : decode cX8_settles 136 = .ok (.iload_n 1, 1) := by decide +kernel
theorem dX8_settles_137 : decode cX8_settles 137 = .ok (.iadd, 1) := by decide +kernel
theorem dX8_settles_138 : decode cX8_settles 138 = .ok (.iload_n 2, 1) := by decide +kernel
theorem dX8_settles_139 : decode cX8_settles 139 = .ok (.ifCond .eq 15, 3) := by decide +kernel
theorem dX8_settles_142 : decode cX8_settles 142 = .ok (.aload_n 0, 1) := by decide +kernel
theorem dX8_settles_143 : decode cX8_settles 143 = .ok (.getfield 13, 3) := by decide +kernel
theorem dX8_settles_146 : decode cX8_settles 146 = .ok (.bipush 18, 2) := by decide +kernel
theorem dX8_settles_148 : decode cX8_settles 148 = .ok (.iload_n 1, 1) := by decide +kernel
theorem dX8_settles_149 : decode cX8_settles 149 = .ok (.iadd, 1) := by decide +kernel
theorem dX8_settles_150 : decode cX8_settles 150 = .ok (.iaload, 1) := by decide +kernel
theorem dX8_settles_151 : decode cX8_settles 151 = .ok (.goto 4, 3) := by decide +kernel
theorem dX8_settles_154 : decode cX8_settles 154 = .ok (.iconst 0, 1) := by decide +kernel
theorem dX8_settles_155 : decode cX8_settles 155 = .ok (.iastore, 1) := by decide +kernel
theorem dX8_settles_156 : decode cX8_settles 156 = .ok (.iinc 1 1, 3) := by decide +kernel
theorem dX8_settles_159 : decode cX8_settles 159 = .ok (.goto (-124), 3) := by decide +kernel
theorem dX8_settles_162 : decode cX8_settles 162 = .ok (.aload_n 0, 1) := by decide +kernel
theorem dX8_settles_163 : decode cX8_settles 163 = .ok (.getfield 19, 3) := by decide +kernel
theorem dX8_settles_166 : decode cX8_settles 166 = .ok (.bipush 45, 2) := by decide +kernel
theorem dX8_settles_168 : decode cX8_settles 168 = .ok (.iconst 1, 1) := by decide +kernel
theorem dX8_settles_169 : decode cX8_settles 169 = .ok (.aload_n 0, 1) := by decide +kernel
theorem dX8_settles_170 : decode cX8_settles 170 = .ok (.getfield 130, 3) := by decide +kernel
theorem dX8_settles_173 : decode cX8_settles 173 = .ok (.ishl, 1) := by decide +kernel
theorem dX8_settles_174 : decode cX8_settles 174 = .ok (.iconst 1, 1) := by decide +kernel
theorem dX8_settles_175 : decode cX8_settles 175 = .ok (.isub, 1) := by decide +kernel
theorem dX8_settles_176 : decode cX8_settles 176 = .ok (.iastore, 1) := by decide +kernel
theorem dX8_settles_177 : decode cX8_settles 177 = .ok (.aload_n 0, 1) := by decide +kernel
theorem dX8_settles_178 : decode cX8_settles 178 = .ok (.getfield 19, 3) := by decide +kernel
theorem dX8_settles_181 : decode cX8_settles 181 = .ok (.bipush 46, 2) := by decide +kernel
theorem dX8_settles_183 : decode cX8_settles 183 = .ok (.iconst 0, 1) := by decide +kernel
theorem dX8_settles_184 : decode cX8_settles 184 = .ok (.iastore, 1) := by decide +kernel
theorem dX8_settles_185 : decode cX8_settles 185 = .ok (.aload_n 0, 1) := by decide +kernel
theorem dX8_settles_186 : decode cX8_settles 186 = .ok (.getfield 19, 3) := by decide +kernel
theorem dX8_settles_189 : decode cX8_settles 189 = .ok (.bipush 47, 2) := by decide +kernel
theorem dX8_settles_191 : decode cX8_settles 191 = .ok (.iconst 0, 1) := by decide +kernel
theorem dX8_settles_192 : decode cX8_settles 192 = .ok (.iastore, 1) := by decide +kernel
theorem dX8_settles_193 : decode cX8_settles 193 = .ok (.aload_n 0, 1) := by decide +kernel
theorem dX8_settles_194 : decode cX8_settles 194 = .ok (.iconst 0, 1) := by decide +kernel
theorem dX8_settles_195 : decode cX8_settles 195 = .ok (.putfield 140, 3) := by decide +kernel
theorem dX8_settles_198 : decode cX8_settles 198 = .ok (.aload_n 0, 1) := by decide +kernel
theorem dX8_settles_199 : decode cX8_settles 199 = .ok (.iconst 0, 1) := by decide +kernel
theorem dX8_settles_200 : decode cX8_settles 200 = .ok (.putfield 143, 3) := by decide +kernel
theorem dX8_settles_203 : decode cX8_settles 203 = .ok (.aload_n 0, 1) := by decide +kernel
theorem dX8_settles_204 : decode cX8_settles 204 = .ok (.getfield 25, 3) := by decide +kernel
theorem dX8_settles_207 : decode cX8_settles 207 = .ok (.iconst 0, 1) := by decide +kernel
theorem dX8_settles_208 : decode cX8_settles 208 = .ok (.iconst 0, 1) := by decide +kernel
theorem dX8_settles_209 : decode cX8_settles 209 = .ok (.bastore, 1) := by decide +kernel
theorem dX8_settles_210 : decode cX8_settles 210 = .ok (.aload_n 0, 1) := by decide +kernel
theorem dX8_settles_211 : decode cX8_settles 211 = .ok (.getfield 25, 3) := by decide +kernel
theorem dX8_settles_214 : decode cX8_settles 214 = .ok (.iconst 1, 1) := by decide +kernel
theorem dX8_settles_215 : decode cX8_settles 215 = .ok (.iconst 0, 1) := by decide +kernel
theorem dX8_settles_216 : decode cX8_settles 216 = .ok (.bastore, 1) := by decide +kernel
theorem dX8_settles_217 : decode cX8_settles 217 = .ok (.return_, 1) := by decide +kernel
theorem dX8_fault_0 : decode cX8_fault 0 = .ok (.aload_n 0, 1) := by decide +kernel
theorem dX8_fault_1 : decode cX8_fault 1 = .ok (.iconst 0, 1) := by decide +kernel
theorem dX8_fault_2 : decode cX8_fault 2 = .ok (.putfield 72, 3) := by decide +kernel
theorem dX8_fault_5 : decode cX8_fault 5 = .ok (.aload_n 0, 1) := by decide +kernel
theorem dX8_fault_6 : decode cX8_fault 6 = .ok (.getfield 68, 3) := by decide +kernel
theorem dX8_fault_9 : decode cX8_fault 9 = .ok (.ireturn, 1) := by decide +kernel
theorem dX8_isSkittle_0 : decode cX8_isSkittle 0 = .ok (.iload_n 1, 1) := by decide +kernel
theorem dX8_isSkittle_1 : decode cX8_isSkittle 1 = .ok (.iconst 0, 1) := by decide +kernel
theorem dX8_isSkittle_2 : decode cX8_isSkittle 2 = .ok (.aload_n 0, 1) := by decide +kernel
theorem dX8_isSkittle_3 : decode cX8_isSkittle 3 = .ok (.getfield 130, 3) := by decide +kernel
theorem dX8_isSkittle_6 : decode cX8_isSkittle 6 = .ok (.iconst 1, 1) := by decide +kernel
theorem dX8_isSkittle_7 : decode cX8_isSkittle 7 = .ok (.isub, 1) := by decide +kernel
theorem dX8_isSkittle_8 : decode cX8_isSkittle 8 = .ok (.invokestatic 75, 3) := by decide +kernel
theorem dX8_isSkittle_11 : decode cX8_isSkittle 11 = .ok (.ireturn, 1) := by decide +kernel
theorem dX8_isSet_0 : decode cX8_isSet 0 = .ok (.iload_n 1, 1) := by decide +kernel
theorem dX8_isSet_1 : decode cX8_isSet 1 = .ok (.iconst 0, 1) := by decide +kernel
theorem dX8_isSet_2 : decode cX8_isSet 2 = .ok (.iconst 1, 1) := by decide +kernel
theorem dX8_isSet_3 : decode cX8_isSet 3 = .ok (.aload_n 0, 1) := by decide +kernel
theorem dX8_isSet_4 : decode cX8_isSet 4 = .ok (.getfield 130, 3) := by decide +kernel
theorem dX8_isSet_7 : decode cX8_isSet 7 = .ok (.ishl, 1) := by decide +kernel
theorem dX8_isSet_8 : decode cX8_isSet 8 = .ok (.iconst 1, 1) := by decide +kernel
theorem dX8_isSet_9 : decode cX8_isSet 9 = .ok (.isub, 1) := by decide +kernel
theorem dX8_isSet_10 : decode cX8_isSet 10 = .ok (.invokestatic 75, 3) := by decide +kernel
theorem dX8_isSet_13 : decode cX8_isSet 13 = .ok (.ireturn, 1) := by decide +kernel
theorem dX8_isPlate_0 : decode cX8_isPlate 0 = .ok (.iload_n 0, 1) := by decide +kernel
theorem dX8_isPlate_1 : decode cX8_isPlate 1 = .ok (.iconst 0, 1) := by decide +kernel
theorem dX8_isPlate_2 : decode cX8_isPlate 2 = .ok (.bipush 8, 2) := by decide +kernel
theorem dX8_isPlate_4 : decode cX8_isPlate 4 = .ok (.invokestatic 75, 3) := by decide +kernel
theorem dX8_isPlate_7 : decode cX8_isPlate 7 = .ok (.ireturn, 1) := by decide +kernel
theorem dX8_rowOf_0 : decode cX8_rowOf 0 = .ok (.iload_n 0, 1) := by decide +kernel
theorem dX8_rowOf_1 : decode cX8_rowOf 1 = .ok (.ifCond .ne 7, 3) := by decide +kernel
theorem dX8_rowOf_4 : decode cX8_rowOf 4 = .ok (.iconst 0, 1) := by decide +kernel
theorem dX8_rowOf_5 : decode cX8_rowOf 5 = .ok (.goto 33, 3) := by decide +kernel
theorem dX8_rowOf_8 : decode cX8_rowOf 8 = .ok (.iload_n 0, 1) := by decide +kernel
theorem dX8_rowOf_9 : decode cX8_rowOf 9 = .ok (.iconst 3, 1) := by decide +kernel
theorem dX8_rowOf_10 : decode cX8_rowOf 10 = .ok (.if_icmp .ge 7, 3) := by decide +kernel
theorem dX8_rowOf_13 : decode cX8_rowOf 13 = .ok (.iconst 1, 1) := by decide +kernel
theorem dX8_rowOf_14 : decode cX8_rowOf 14 = .ok (.goto 24, 3) := by decide +kernel
theorem dX8_rowOf_17 : decode cX8_rowOf 17 = .ok (.iload_n 0, 1) := by decide +kernel
theorem dX8_rowOf_18 : decode cX8_rowOf 18 = .ok (.bipush 6, 2) := by decide +kernel
theorem dX8_rowOf_20 : decode cX8_rowOf 20 = .ok (.if_icmp .ge 7, 3) := by decide +kernel
theorem dX8_rowOf_23 : decode cX8_rowOf 23 = .ok (.iconst 2, 1) := by decide +kernel
theorem dX8_rowOf_24 : decode cX8_rowOf 24 = .ok (.goto 14, 3) := by decide +kernel
theorem dX8_rowOf_27 : decode cX8_rowOf 27 = .ok (.iload_n 0, 1) := by decide +kernel
theorem dX8_rowOf_28 : decode cX8_rowOf 28 = .ok (.bipush 8, 2) := by decide +kernel
theorem dX8_rowOf_30 : decode cX8_rowOf 30 = .ok (.if_icmp .ge 7, 3) := by decide +kernel
theorem dX8_rowOf_33 : decode cX8_rowOf 33 = .ok (.iconst 3, 1) := by decide +kernel
theorem dX8_rowOf_34 : decode cX8_rowOf 34 = .ok (.goto 4, 3) := by decide +kernel
theorem dX8_rowOf_37 : decode cX8_rowOf 37 = .ok (.iconst 4, 1) := by decide +kernel
theorem dX8_rowOf_38 : decode cX8_rowOf 38 = .ok (.ireturn, 1) := by decide +kernel
theorem dX8_columnOf_0 : decode cX8_columnOf 0 = .ok (.iload_n 0, 1) := by decide +kernel
theorem dX8_columnOf_1 : decode cX8_columnOf 1 = .ok (.ifCond .eq 9, 3) := by decide +kernel
theorem dX8_columnOf_4 : decode cX8_columnOf 4 = .ok (.iload_n 0, 1) := by decide +kernel
theorem dX8_columnOf_5 : decode cX8_columnOf 5 = .ok (.bipush 8, 2) := by decide +kernel
theorem dX8_columnOf_7 : decode cX8_columnOf 7 = .ok (.if_icmp .ne 7, 3) := by decide +kernel
theorem dX8_columnOf_10 : decode cX8_columnOf 10 = .ok (.iconst 2, 1) := by decide +kernel
theorem dX8_columnOf_11 : decode cX8_columnOf 11 = .ok (.goto 37, 3) := by decide +kernel
theorem dX8_columnOf_14 : decode cX8_columnOf 14 = .ok (.iload_n 0, 1) := by decide +kernel
theorem dX8_columnOf_15 : decode cX8_columnOf 15 = .ok (.iconst 3, 1) := by decide +kernel
theorem dX8_columnOf_16 : decode cX8_columnOf 16 = .ok (.if_icmp .ge 11, 3) := by decide +kernel
theorem dX8_columnOf_19 : decode cX8_columnOf 19 = .ok (.iconst 2, 1) := by decide +kernel
theorem dX8_columnOf_20 : decode cX8_columnOf 20 = .ok (.iload_n 0, 1) := by decide +kernel
theorem dX8_columnOf_21 : decode cX8_columnOf 21 = .ok (.imul, 1) := by decide +kernel
theorem dX8_columnOf_22 : decode cX8_columnOf 22 = .ok (.iconst 1, 1) := by decide +kernel
theorem dX8_columnOf_23 : decode cX8_columnOf 23 = .ok (.isub, 1) := by decide +kernel
theorem dX8_columnOf_24 : decode cX8_columnOf 24 = .ok (.goto 24, 3) := by decide +kernel
theorem dX8_columnOf_27 : decode cX8_columnOf 27 = .ok (.iload_n 0, 1) := by decide +kernel
theorem dX8_columnOf_28 : decode cX8_columnOf 28 = .ok (.bipush 6, 2) := by decide +kernel
theorem dX8_columnOf_30 : decode cX8_columnOf 30 = .ok (.if_icmp .ge 12, 3) := by decide +kernel
theorem dX8_columnOf_33 : decode cX8_columnOf 33 = .ok (.iconst 2, 1) := by decide +kernel
theorem dX8_columnOf_34 : decode cX8_columnOf 34 = .ok (.iload_n 0, 1) := by decide +kernel
theorem dX8_columnOf_35 : decode cX8_columnOf 35 = .ok (.imul, 1) := by decide +kernel
theorem dX8_columnOf_36 : decode cX8_columnOf 36 = .ok (.bipush 6, 2) := by decide +kernel
theorem dX8_columnOf_38 : decode cX8_columnOf 38 = .ok (.isub, 1) := by decide +kernel
theorem dX8_columnOf_39 : decode cX8_columnOf 39 = .ok (.goto 9, 3) := by decide +kernel
theorem dX8_columnOf_42 : decode cX8_columnOf 42 = .ok (.iconst 2, 1) := by decide +kernel
theorem dX8_columnOf_43 : decode cX8_columnOf 43 = .ok (.iload_n 0, 1) := by decide +kernel
theorem dX8_columnOf_44 : decode cX8_columnOf 44 = .ok (.imul, 1) := by decide +kernel
theorem dX8_columnOf_45 : decode cX8_columnOf 45 = .ok (.bipush 11, 2) := by decide +kernel
theorem dX8_columnOf_47 : decode cX8_columnOf 47 = .ok (.isub, 1) := by decide +kernel
theorem dX8_columnOf_48 : decode cX8_columnOf 48 = .ok (.ireturn, 1) := by decide +kernel
theorem dX8_plateAt_0 : decode cX8_plateAt 0 = .ok (.iconst 0, 1) := by decide +kernel
theorem dX8_plateAt_1 : decode cX8_plateAt 1 = .ok (.istore_n 2, 1) := by decide +kernel
theorem dX8_plateAt_2 : decode cX8_plateAt 2 = .ok (.iload_n 2, 1) := by decide +kernel
theorem dX8_plateAt_3 : decode cX8_plateAt 3 = .ok (.bipush 9, 2) := by decide +kernel
theorem dX8_plateAt_5 : decode cX8_plateAt 5 = .ok (.if_icmp .ge 27, 3) := by decide +kernel
theorem dX8_plateAt_8 : decode cX8_plateAt 8 = .ok (.iload_n 2, 1) := by decide +kernel
theorem dX8_plateAt_9 : decode cX8_plateAt 9 = .ok (.invokestatic 146, 3) := by decide +kernel
theorem dX8_plateAt_12 : decode cX8_plateAt 12 = .ok (.iload_n 0, 1) := by decide +kernel
theorem dX8_plateAt_13 : decode cX8_plateAt 13 = .ok (.if_icmp .ne 13, 3) := by decide +kernel
theorem dX8_plateAt_16 : decode cX8_plateAt 16 = .ok (.iload_n 2, 1) := by decide +kernel
theorem dX8_plateAt_17 : decode cX8_plateAt 17 = .ok (.invokestatic 149, 3) := by decide +kernel
theorem dX8_plateAt_20 : decode cX8_plateAt 20 = .ok (.iload_n 1, 1) := by decide +kernel
theorem dX8_plateAt_21 : decode cX8_plateAt 21 = .ok (.if_icmp .ne 5, 3) := by decide +kernel
theorem dX8_plateAt_24 : decode cX8_plateAt 24 = .ok (.iload_n 2, 1) := by decide +kernel
theorem dX8_plateAt_25 : decode cX8_plateAt 25 = .ok (.ireturn, 1) := by decide +kernel
theorem dX8_plateAt_26 : decode cX8_plateAt 26 = .ok (.iinc 2 1, 3) := by decide +kernel
theorem dX8_plateAt_29 : decode cX8_plateAt 29 = .ok (.goto (-27), 3) := by decide +kernel
theorem dX8_plateAt_32 : decode cX8_plateAt 32 = .ok (.iconst (-1), 1) := by decide +kernel
theorem dX8_plateAt_33 : decode cX8_plateAt 33 = .ok (.ireturn, 1) := by decide +kernel
theorem dX8_bearsOn_0 : decode cX8_bearsOn 0 = .ok (.aload_n 0, 1) := by decide +kernel
theorem dX8_bearsOn_1 : decode cX8_bearsOn 1 = .ok (.getfield 19, 3) := by decide +kernel
theorem dX8_bearsOn_4 : decode cX8_bearsOn 4 = .ok (.bipush 27, 2) := by decide +kernel
theorem dX8_bearsOn_6 : decode cX8_bearsOn 6 = .ok (.iload_n 1, 1) := by decide +kernel
theorem dX8_bearsOn_7 : decode cX8_bearsOn 7 = .ok (.iadd, 1) := by decide +kernel
theorem dX8_bearsOn_8 : decode cX8_bearsOn 8 = .ok (.iaload, 1) := by decide +kernel
theorem dX8_bearsOn_9 : decode cX8_bearsOn 9 = .ok (.istore_n 3, 1) := by decide +kernel
theorem dX8_bearsOn_10 : decode cX8_bearsOn 10 = .ok (.aload_n 0, 1) := by decide +kernel
theorem dX8_bearsOn_11 : decode cX8_bearsOn 11 = .ok (.getfield 19, 3) := by decide +kernel
theorem dX8_bearsOn_14 : decode cX8_bearsOn 14 = .ok (.bipush 36, 2) := by decide +kernel
theorem dX8_bearsOn_16 : decode cX8_bearsOn 16 = .ok (.iload_n 1, 1) := by decide +kernel
theorem dX8_bearsOn_17 : decode cX8_bearsOn 17 = .ok (.iadd, 1) := by decide +kernel
theorem dX8_bearsOn_18 : decode cX8_bearsOn 18 = .ok (.iaload, 1) := by decide +kernel
theorem dX8_bearsOn_19 : decode cX8_bearsOn 19 = .ok (.istore 4, 2) := by decide +kernel
theorem dX8_bearsOn_21 : decode cX8_bearsOn 21 = .ok (.iload_n 3, 1) := by decide +kernel
theorem dX8_bearsOn_22 : decode cX8_bearsOn 22 = .ok (.iconst 3, 1) := by decide +kernel
theorem dX8_bearsOn_23 : decode cX8_bearsOn 23 = .ok (.if_icmp .ne 14, 3) := by decide +kernel
theorem dX8_bearsOn_26 : decode cX8_bearsOn 26 = .ok (.aload_n 0, 1) := by decide +kernel
theorem dX8_bearsOn_27 : decode cX8_bearsOn 27 = .ok (.getfield 16, 3) := by decide +kernel
theorem dX8_bearsOn_30 : decode cX8_bearsOn 30 = .ok (.iload_n 1, 1) := by decide +kernel
theorem dX8_bearsOn_31 : decode cX8_bearsOn 31 = .ok (.iaload, 1) := by decide +kernel
theorem dX8_bearsOn_32 : decode cX8_bearsOn 32 = .ok (.iconst 2, 1) := by decide +kernel
theorem dX8_bearsOn_33 : decode cX8_bearsOn 33 = .ok (.idiv, 1) := by decide +kernel
theorem dX8_bearsOn_34 : decode cX8_bearsOn 34 = .ok (.goto 24, 3) := by decide +kernel
theorem dX8_bearsOn_37 : decode cX8_bearsOn 37 = .ok (.aload_n 0, 1) := by decide +kernel
theorem dX8_bearsOn_38 : decode cX8_bearsOn 38 = .ok (.getfield 16, 3) := by decide +kernel
theorem dX8_bearsOn_41 : decode cX8_bearsOn 41 = .ok (.iload_n 1, 1) := by decide +kernel
theorem dX8_bearsOn_42 : decode cX8_bearsOn 42 = .ok (.iaload, 1) := by decide +kernel
theorem dX8_bearsOn_43 : decode cX8_bearsOn 43 = .ok (.iload_n 3, 1) := by decide +kernel
theorem dX8_bearsOn_44 : decode cX8_bearsOn 44 = .ok (.iconst 1, 1) := by decide +kernel
theorem dX8_bearsOn_45 : decode cX8_bearsOn 45 = .ok (.if_icmp .ne 10, 3) := by decide +kernel
theorem dX8_bearsOn_48 : decode cX8_bearsOn 48 = .ok (.iload 4, 2) := by decide +kernel
theorem dX8_bearsOn_50 : decode cX8_bearsOn 50 = .ok (.iconst 2, 1) := by decide +kernel
theorem dX8_bearsOn_51 : decode cX8_bearsOn 51 = .ok (.idiv, 1) := by decide +kernel
theorem dX8_bearsOn_52 : decode cX8_bearsOn 52 = .ok (.goto 5, 3) := by decide +kernel
theorem dX8_bearsOn_55 : decode cX8_bearsOn 55 = .ok (.iload 4, 2) := by decide +kernel
theorem dX8_bearsOn_57 : decode cX8_bearsOn 57 = .ok (.isub, 1) := by decide +kernel
theorem dX8_bearsOn_58 : decode cX8_bearsOn 58 = .ok (.istore 5, 2) := by decide +kernel
theorem dX8_bearsOn_60 : decode cX8_bearsOn 60 = .ok (.iload 5, 2) := by decide +kernel
theorem dX8_bearsOn_62 : decode cX8_bearsOn 62 = .ok (.iload_n 3, 1) := by decide +kernel
theorem dX8_bearsOn_63 : decode cX8_bearsOn 63 = .ok (.iconst 2, 1) := by decide +kernel
theorem dX8_bearsOn_64 : decode cX8_bearsOn 64 = .ok (.if_icmp .ne 14, 3) := by decide +kernel
theorem dX8_bearsOn_67 : decode cX8_bearsOn 67 = .ok (.iload_n 2, 1) := by decide +kernel
theorem dX8_bearsOn_68 : decode cX8_bearsOn 68 = .ok (.invokestatic 146, 3) := by decide +kernel
theorem dX8_bearsOn_71 : decode cX8_bearsOn 71 = .ok (.ifCond .ne 7, 3) := by decide +kernel
theorem dX8_bearsOn_74 : decode cX8_bearsOn 74 = .ok (.iconst 2, 1) := by decide +kernel
theorem dX8_bearsOn_75 : decode cX8_bearsOn 75 = .ok (.goto 4, 3) := by decide +kernel
theorem dX8_bearsOn_78 : decode cX8_bearsOn 78 = .ok (.iconst 0, 1) := by decide +kernel
theorem dX8_bearsOn_79 : decode cX8_bearsOn 79 = .ok (.iadd, 1) := by decide +kernel
theorem dX8_bearsOn_80 : decode cX8_bearsOn 80 = .ok (.istore 5, 2) := by decide +kernel
theorem dX8_bearsOn_82 : decode cX8_bearsOn 82 = .ok (.iload 5, 2) := by decide +kernel
theorem dX8_bearsOn_84 : decode cX8_bearsOn 84 = .ok (.iconst 1, 1) := by decide +kernel
theorem dX8_bearsOn_85 : decode cX8_bearsOn 85 = .ok (.if_icmp .ge 7, 3) := by decide +kernel
theorem dX8_bearsOn_88 : decode cX8_bearsOn 88 = .ok (.iconst 1, 1) := by decide +kernel
theorem dX8_bearsOn_89 : decode cX8_bearsOn 89 = .ok (.goto 5, 3) := by decide +kernel
theorem dX8_bearsOn_92 : decode cX8_bearsOn 92 = .ok (.iload 5, 2) := by decide +kernel
theorem dX8_bearsOn_94 : decode cX8_bearsOn 94 = .ok (.ireturn, 1) := by decide +kernel
theorem dX8_sets_0 : decode cX8_sets 0 = .ok (.iconst 0, 1) := by decide +kernel
theorem dX8_sets_1 : decode cX8_sets 1 = .ok (.istore_n 3, 1) := by decide +kernel
theorem dX8_sets_2 : decode cX8_sets 2 = .ok (.iload_n 3, 1) := by decide +kernel
theorem dX8_sets_3 : decode cX8_sets 3 = .ok (.bipush 9, 2) := by decide +kernel
theorem dX8_sets_5 : decode cX8_sets 5 = .ok (.if_icmp .ge 16, 3) := by decide +kernel
theorem dX8_sets_8 : decode cX8_sets 8 = .ok (.aload_n 0, 1) := by decide +kernel
theorem dX8_sets_9 : decode cX8_sets 9 = .ok (.getfield 38, 3) := by decide +kernel
theorem dX8_sets_12 : decode cX8_sets 12 = .ok (.iload_n 3, 1) := by decide +kernel
theorem dX8_sets_13 : decode cX8_sets 13 = .ok (.iconst (-1), 1) := by decide +kernel
theorem dX8_sets_14 : decode cX8_sets 14 = .ok (.iastore, 1) := by decide +kernel
theorem dX8_sets_15 : decode cX8_sets 15 = .ok (.iinc 3 1, 3) := by decide +kernel
theorem dX8_sets_18 : decode cX8_sets 18 = .ok (.goto (-16), 3) := by decide +kernel
theorem dX8_sets_21 : decode cX8_sets 21 = .ok (.iconst 0, 1) := by decide +kernel
theorem dX8_sets_22 : decode cX8_sets 22 = .ok (.istore_n 3, 1) := by decide +kernel
theorem dX8_sets_23 : decode cX8_sets 23 = .ok (.iload_n 3, 1) := by decide +kernel
theorem dX8_sets_24 : decode cX8_sets 24 = .ok (.aload_n 0, 1) := by decide +kernel
theorem dX8_sets_25 : decode cX8_sets 25 = .ok (.getfield 130, 3) := by decide +kernel
theorem dX8_sets_28 : decode cX8_sets 28 = .ok (.if_icmp .ge 64, 3) := by decide +kernel
theorem dX8_sets_31 : decode cX8_sets 31 = .ok (.aload_n 0, 1) := by decide +kernel
theorem dX8_sets_32 : decode cX8_sets 32 = .ok (.getfield 19, 3) := by decide +kernel
theorem dX8_sets_35 : decode cX8_sets 35 = .ok (.iconst 0, 1) := by decide +kernel
theorem dX8_sets_36 : decode cX8_sets 36 = .ok (.iload_n 3, 1) := by decide +kernel
theorem dX8_sets_37 : decode cX8_sets 37 = .ok (.iadd, 1) := by decide +kernel
theorem dX8_sets_38 : decode cX8_sets 38 = .ok (.iaload, 1) := by decide +kernel
theorem dX8_sets_39 : decode cX8_sets 39 = .ok (.istore 4, 2) := by decide +kernel
theorem dX8_sets_41 : decode cX8_sets 41 = .ok (.iload 4, 2) := by decide +kernel
theorem dX8_sets_43 : decode cX8_sets 43 = .ok (.iload_n 1, 1) := by decide +kernel
theorem dX8_sets_44 : decode cX8_sets 44 = .ok (.if_icmp .ne 7, 3) := by decide +kernel
theorem dX8_sets_47 : decode cX8_sets 47 = .ok (.iload_n 2, 1) := by decide +kernel
theorem dX8_sets_48 : decode cX8_sets 48 = .ok (.goto 15, 3) := by decide +kernel
theorem dX8_sets_51 : decode cX8_sets 51 = .ok (.iload 4, 2) := by decide +kernel
theorem dX8_sets_53 : decode cX8_sets 53 = .ok (.iload_n 2, 1) := by decide +kernel
theorem dX8_sets_54 : decode cX8_sets 54 = .ok (.if_icmp .ne 7, 3) := by decide +kernel
theorem dX8_sets_57 : decode cX8_sets 57 = .ok (.iload_n 1, 1) := by decide +kernel
theorem dX8_sets_58 : decode cX8_sets 58 = .ok (.goto 5, 3) := by decide +kernel
theorem dX8_sets_61 : decode cX8_sets 61 = .ok (.iload 4, 2) := by decide +kernel
theorem dX8_sets_63 : decode cX8_sets 63 = .ok (.istore 4, 2) := by decide +kernel
theorem dX8_sets_65 : decode cX8_sets 65 = .ok (.aload_n 0, 1) := by decide +kernel
theorem dX8_sets_66 : decode cX8_sets 66 = .ok (.getfield 38, 3) := by decide +kernel
theorem dX8_sets_69 : decode cX8_sets 69 = .ok (.iload 4, 2) := by decide +kernel
theorem dX8_sets_71 : decode cX8_sets 71 = .ok (.iload_n 3, 1) := by decide +kernel
theorem dX8_sets_72 : decode cX8_sets 72 = .ok (.iastore, 1) := by decide +kernel
theorem dX8_sets_73 : decode cX8_sets 73 = .ok (.aload_n 0, 1) := by decide +kernel
theorem dX8_sets_74 : decode cX8_sets 74 = .ok (.getfield 41, 3) := by decide +kernel
theorem dX8_sets_77 : decode cX8_sets 77 = .ok (.iload_n 3, 1) := by decide +kernel
theorem dX8_sets_78 : decode cX8_sets 78 = .ok (.aload_n 0, 1) := by decide +kernel
theorem dX8_sets_79 : decode cX8_sets 79 = .ok (.iload_n 3, 1) := by decide +kernel
theorem dX8_sets_80 : decode cX8_sets 80 = .ok (.iload 4, 2) := by decide +kernel
theorem dX8_sets_82 : decode cX8_sets 82 = .ok (.invokevirtual 152, 3) := by decide +kernel
theorem dX8_sets_85 : decode cX8_sets 85 = .ok (.iastore, 1) := by decide +kernel
theorem dX8_sets_86 : decode cX8_sets 86 = .ok (.iinc 3 1, 3) := by decide +kernel
theorem dX8_sets_89 : decode cX8_sets 89 = .ok (.goto (-66), 3) := by decide +kernel
theorem dX8_sets_92 : decode cX8_sets 92 = .ok (.return_, 1) := by decide +kernel
theorem dX8_rocksNow_0 : decode cX8_rocksNow 0 = .ok (.aload_n 0, 1) := by decide +kernel
theorem dX8_rocksNow_1 : decode cX8_rocksNow 1 = .ok (.getfield 44, 3) := by decide +kernel
theorem dX8_rocksNow_4 : decode cX8_rocksNow 4 = .ok (.iload_n 1, 1) := by decide +kernel
theorem dX8_rocksNow_5 : decode cX8_rocksNow 5 = .ok (.dup2, 1) := by decide +kernel
theorem dX8_rocksNow_6 : decode cX8_rocksNow 6 = .ok (.iaload, 1) := by decide +kernel
theorem dX8_rocksNow_7 : decode cX8_rocksNow 7 = .ok (.iconst 1, 1) := by decide +kernel
theorem dX8_rocksNow_8 : decode cX8_rocksNow 8 = .ok (.iadd, 1) := by decide +kernel
theorem dX8_rocksNow_9 : decode cX8_rocksNow 9 = .ok (.iastore, 1) := by decide +kernel
theorem dX8_rocksNow_10 : decode cX8_rocksNow 10 = .ok (.aload_n 0, 1) := by decide +kernel
theorem dX8_rocksNow_11 : decode cX8_rocksNow 11 = .ok (.dup, 1) := by decide +kernel
theorem dX8_rocksNow_12 : decode cX8_rocksNow 12 = .ok (.getfield 155, 3) := by decide +kernel
theorem dX8_rocksNow_15 : decode cX8_rocksNow 15 = .ok (.iconst 1, 1) := by decide +kernel
theorem dX8_rocksNow_16 : decode cX8_rocksNow 16 = .ok (.iadd, 1) := by decide +kernel
theorem dX8_rocksNow_17 : decode cX8_rocksNow 17 = .ok (.putfield 155, 3) := by decide +kernel
theorem dX8_rocksNow_20 : decode cX8_rocksNow 20 = .ok (.return_, 1) := by decide +kernel
theorem dX8_fallsNow_0 : decode cX8_fallsNow 0 = .ok (.aload_n 0, 1) := by decide +kernel
theorem dX8_fallsNow_1 : decode cX8_fallsNow 1 = .ok (.dup, 1) := by decide +kernel
theorem dX8_fallsNow_2 : decode cX8_fallsNow 2 = .ok (.getfield 158, 3) := by decide +kernel
theorem dX8_fallsNow_5 : decode cX8_fallsNow 5 = .ok (.iconst 1, 1) := by decide +kernel
theorem dX8_fallsNow_6 : decode cX8_fallsNow 6 = .ok (.iload_n 1, 1) := by decide +kernel
theorem dX8_fallsNow_7 : decode cX8_fallsNow 7 = .ok (.ishl, 1) := by decide +kernel
theorem dX8_fallsNow_8 : decode cX8_fallsNow 8 = .ok (.iconst (-1), 1) := by decide +kernel
theorem dX8_fallsNow_9 : decode cX8_fallsNow 9 = .ok (.ixor, 1) := by decide +kernel
theorem dX8_fallsNow_10 : decode cX8_fallsNow 10 = .ok (.iand, 1) := by decide +kernel
theorem dX8_fallsNow_11 : decode cX8_fallsNow 11 = .ok (.putfield 158, 3) := by decide +kernel
theorem dX8_fallsNow_14 : decode cX8_fallsNow 14 = .ok (.aload_n 0, 1) := by decide +kernel
theorem dX8_fallsNow_15 : decode cX8_fallsNow 15 = .ok (.getfield 47, 3) := by decide +kernel
theorem dX8_fallsNow_18 : decode cX8_fallsNow 18 = .ok (.iload_n 1, 1) := by decide +kernel
theorem dX8_fallsNow_19 : decode cX8_fallsNow 19 = .ok (.iload_n 2, 1) := by decide +kernel
theorem dX8_fallsNow_20 : decode cX8_fallsNow 20 = .ok (.iastore, 1) := by decide +kernel
theorem dX8_fallsNow_21 : decode cX8_fallsNow 21 = .ok (.return_, 1) := by decide +kernel
theorem dX8_plateOf_0 : decode cX8_plateOf 0 = .ok (.iconst 0, 1) := by decide +kernel
theorem dX8_plateOf_1 : decode cX8_plateOf 1 = .ok (.istore_n 2, 1) := by decide +kernel
theorem dX8_plateOf_2 : decode cX8_plateOf 2 = .ok (.aload_n 0, 1) := by decide +kernel
theorem dX8_plateOf_3 : decode cX8_plateOf 3 = .ok (.getfield 38, 3) := by decide +kernel
theorem dX8_plateOf_6 : decode cX8_plateOf 6 = .ok (.iload_n 2, 1) := by decide +kernel
theorem dX8_plateOf_7 : decode cX8_plateOf 7 = .ok (.iaload, 1) := by decide +kernel
theorem dX8_plateOf_8 : decode cX8_plateOf 8 = .ok (.iload_n 1, 1) := by decide +kernel
theorem dX8_plateOf_9 : decode cX8_plateOf 9 = .ok (.if_icmp .eq 9, 3) := by decide +kernel
theorem dX8_plateOf_12 : decode cX8_plateOf 12 = .ok (.iinc 2 1, 3) := by decide +kernel
theorem dX8_plateOf_15 : decode cX8_plateOf 15 = .ok (.goto (-13), 3) := by decide +kernel
theorem dX8_plateOf_18 : decode cX8_plateOf 18 = .ok (.iload_n 2, 1) := by decide +kernel
theorem dX8_plateOf_19 : decode cX8_plateOf 19 = .ok (.ireturn, 1) := by decide +kernel
theorem dX8_falls_0 : decode cX8_falls 0 = .ok (.aload_n 0, 1) := by decide +kernel
theorem dX8_falls_1 : decode cX8_falls 1 = .ok (.iload_n 1, 1) := by decide +kernel
theorem dX8_falls_2 : decode cX8_falls 2 = .ok (.iconst (-1), 1) := by decide +kernel
theorem dX8_falls_3 : decode cX8_falls 3 = .ok (.invokevirtual 161, 3) := by decide +kernel
theorem dX8_falls_6 : decode cX8_falls 6 = .ok (.aload_n 0, 1) := by decide +kernel
theorem dX8_falls_7 : decode cX8_falls 7 = .ok (.getfield 50, 3) := by decide +kernel
theorem dX8_falls_10 : decode cX8_falls 10 = .ok (.iconst 0, 1) := by decide +kernel
theorem dX8_falls_11 : decode cX8_falls 11 = .ok (.iload_n 1, 1) := by decide +kernel
theorem dX8_falls_12 : decode cX8_falls 12 = .ok (.iastore, 1) := by decide +kernel
theorem dX8_falls_13 : decode cX8_falls 13 = .ok (.aload_n 0, 1) := by decide +kernel
theorem dX8_falls_14 : decode cX8_falls 14 = .ok (.getfield 53, 3) := by decide +kernel
theorem dX8_falls_17 : decode cX8_falls 17 = .ok (.iconst 0, 1) := by decide +kernel
theorem dX8_falls_18 : decode cX8_falls 18 = .ok (.iload_n 2, 1) := by decide +kernel
theorem dX8_falls_19 : decode cX8_falls 19 = .ok (.iastore, 1) := by decide +kernel
theorem dX8_falls_20 : decode cX8_falls 20 = .ok (.aload_n 0, 1) := by decide +kernel
theorem dX8_falls_21 : decode cX8_falls 21 = .ok (.getfield 56, 3) := by decide +kernel
theorem dX8_falls_24 : decode cX8_falls 24 = .ok (.iconst 0, 1) := by decide +kernel
theorem dX8_falls_25 : decode cX8_falls 25 = .ok (.iconst (-1), 1) := by decide +kernel
theorem dX8_falls_26 : decode cX8_falls 26 = .ok (.iastore, 1) := by decide +kernel
theorem dX8_falls_27 : decode cX8_falls 27 = .ok (.iconst 0, 1) := by decide +kernel
theorem dX8_falls_28 : decode cX8_falls 28 = .ok (.istore_n 3, 1) := by decide +kernel
theorem dX8_falls_29 : decode cX8_falls 29 = .ok (.iload_n 3, 1) := by decide +kernel
theorem dX8_falls_30 : decode cX8_falls 30 = .ok (.ifCond .lt 179, 3) := by decide +kernel
theorem dX8_falls_33 : decode cX8_falls 33 = .ok (.aload_n 0, 1) := by decide +kernel
theorem dX8_falls_34 : decode cX8_falls 34 = .ok (.getfield 56, 3) := by decide +kernel
theorem dX8_falls_37 : decode cX8_falls 37 = .ok (.iload_n 3, 1) := by decide +kernel
theorem dX8_falls_38 : decode cX8_falls 38 = .ok (.iaload, 1) := by decide +kernel
theorem dX8_falls_39 : decode cX8_falls 39 = .ok (.iconst 1, 1) := by decide +kernel
theorem dX8_falls_40 : decode cX8_falls 40 = .ok (.if_icmp .le 9, 3) := by decide +kernel
theorem dX8_falls_43 : decode cX8_falls 43 = .ok (.iinc 3 (-1), 3) := by decide +kernel
theorem dX8_falls_46 : decode cX8_falls 46 = .ok (.goto (-17), 3) := by decide +kernel
theorem dX8_falls_49 : decode cX8_falls 49 = .ok (.aload_n 0, 1) := by decide +kernel
theorem dX8_falls_50 : decode cX8_falls 50 = .ok (.aload_n 0, 1) := by decide +kernel
theorem dX8_falls_51 : decode cX8_falls 51 = .ok (.getfield 50, 3) := by decide +kernel
theorem dX8_falls_54 : decode cX8_falls 54 = .ok (.iload_n 3, 1) := by decide +kernel
theorem dX8_falls_55 : decode cX8_falls 55 = .ok (.iaload, 1) := by decide +kernel
theorem dX8_falls_56 : decode cX8_falls 56 = .ok (.invokevirtual 164, 3) := by decide +kernel
theorem dX8_falls_59 : decode cX8_falls 59 = .ok (.istore 4, 2) := by decide +kernel
theorem dX8_falls_61 : decode cX8_falls 61 = .ok (.iload 4, 2) := by decide +kernel
theorem dX8_falls_63 : decode cX8_falls 63 = .ok (.invokestatic 146, 3) := by decide +kernel
theorem dX8_falls_66 : decode cX8_falls 66 = .ok (.iconst 1, 1) := by decide +kernel
theorem dX8_falls_67 : decode cX8_falls 67 = .ok (.iadd, 1) := by decide +kernel
theorem dX8_falls_68 : decode cX8_falls 68 = .ok (.iload 4, 2) := by decide +kernel
theorem dX8_falls_70 : decode cX8_falls 70 = .ok (.invokestatic 149, 3) := by decide +kernel
theorem dX8_falls_73 : decode cX8_falls 73 = .ok (.aload_n 0, 1) := by decide +kernel
theorem dX8_falls_74 : decode cX8_falls 74 = .ok (.getfield 56, 3) := by decide +kernel
theorem dX8_falls_77 : decode cX8_falls 77 = .ok (.iload_n 3, 1) := by decide +kernel
theorem dX8_falls_78 : decode cX8_falls 78 = .ok (.iaload, 1) := by decide +kernel
theorem dX8_falls_79 : decode cX8_falls 79 = .ok (.iadd, 1) := by decide +kernel
theorem dX8_falls_80 : decode cX8_falls 80 = .ok (.invokestatic 167, 3) := by decide +kernel
theorem dX8_falls_83 : decode cX8_falls 83 = .ok (.istore 5, 2) := by decide +kernel
theorem dX8_falls_85 : decode cX8_falls 85 = .ok (.aload_n 0, 1) := by decide +kernel
theorem dX8_falls_86 : decode cX8_falls 86 = .ok (.getfield 53, 3) := by decide +kernel
theorem dX8_falls_89 : decode cX8_falls 89 = .ok (.iload_n 3, 1) := by decide +kernel
theorem dX8_falls_90 : decode cX8_falls 90 = .ok (.iaload, 1) := by decide +kernel
theorem dX8_falls_91 : decode cX8_falls 91 = .ok (.iconst 2, 1) := by decide +kernel
theorem dX8_falls_92 : decode cX8_falls 92 = .ok (.idiv, 1) := by decide +kernel
theorem dX8_falls_93 : decode cX8_falls 93 = .ok (.istore 6, 2) := by decide +kernel
theorem dX8_falls_95 : decode cX8_falls 95 = .ok (.aload_n 0, 1) := by decide +kernel
theorem dX8_falls_96 : decode cX8_falls 96 = .ok (.getfield 56, 3) := by decide +kernel
theorem dX8_falls_99 : decode cX8_falls 99 = .ok (.iload_n 3, 1) := by decide +kernel
theorem dX8_falls_100 : decode cX8_falls 100 = .ok (.dup2, 1) := by decide +kernel
theorem dX8_falls_101 : decode cX8_falls 101 = .ok (.iaload, 1) := by decide +kernel
theorem dX8_falls_102 : decode cX8_falls 102 = .ok (.iconst 2, 1) := by decide +kernel
theorem dX8_falls_103 : decode cX8_falls 103 = .ok (.iadd, 1) := by decide +kernel
theorem dX8_falls_104 : decode cX8_falls 104 = .ok (.iastore, 1) := by decide +kernel
theorem dX8_falls_105 : decode cX8_falls 105 = .ok (.iload 5, 2) := by decide +kernel
theorem dX8_falls_107 : decode cX8_falls 107 = .ok (.iconst (-1), 1) := by decide +kernel
theorem dX8_falls_108 : decode cX8_falls 108 = .ok (.if_icmp .ne 7, 3) := by decide +kernel
theorem dX8_falls_111 : decode cX8_falls 111 = .ok (.iconst (-1), 1) := by decide +kernel
theorem dX8_falls_112 : decode cX8_falls 112 = .ok (.goto 10, 3) := by decide +kernel
theorem dX8_falls_115 : decode cX8_falls 115 = .ok (.aload_n 0, 1) := by decide +kernel
theorem dX8_falls_116 : decode cX8_falls 116 = .ok (.getfield 38, 3) := by decide +kernel
theorem dX8_falls_119 : decode cX8_falls 119 = .ok (.iload 5, 2) := by decide +kernel
theorem dX8_falls_121 : decode cX8_falls 121 = .ok (.iaload, 1) := by decide +kernel
theorem dX8_falls_122 : decode cX8_falls 122 = .ok (.istore 7, 2) := by decide +kernel
theorem dX8_falls_124 : decode cX8_falls 124 = .ok (.iload 7, 2) := by decide +kernel
theorem dX8_falls_126 : decode cX8_falls 126 = .ok (.iconst (-1), 1) := by decide +kernel
theorem dX8_falls_127 : decode cX8_falls 127 = .ok (.if_icmp .eq 79, 3) := by decide +kernel
theorem dX8_falls_130 : decode cX8_falls 130 = .ok (.aload_n 0, 1) := by decide +kernel
theorem dX8_falls_131 : decode cX8_falls 131 = .ok (.getfield 158, 3) := by decide +kernel
theorem dX8_falls_134 : decode cX8_falls 134 = .ok (.iload 7, 2) := by decide +kernel
theorem dX8_falls_136 : decode cX8_falls 136 = .ok (.invokestatic 170, 3) := by decide +kernel
theorem dX8_falls_139 : decode cX8_falls 139 = .ok (.ifCond .eq 67, 3) := by decide +kernel
theorem dX8_falls_142 : decode cX8_falls 142 = .ok (.iload 6, 2) := by decide +kernel
theorem dX8_falls_144 : decode cX8_falls 144 = .ok (.ifCond .le 62, 3) := by decide +kernel
theorem dX8_falls_147 : decode cX8_falls 147 = .ok (.iload 6, 2) := by decide +kernel
theorem dX8_falls_149 : decode cX8_falls 149 = .ok (.aload_n 0, 1) := by decide +kernel
theorem dX8_falls_150 : decode cX8_falls 150 = .ok (.getfield 41, 3) := by decide +kernel
theorem dX8_falls_153 : decode cX8_falls 153 = .ok (.iload 7, 2) := by decide +kernel
theorem dX8_falls_155 : decode cX8_falls 155 = .ok (.iaload, 1) := by decide +kernel
theorem dX8_falls_156 : decode cX8_falls 156 = .ok (.if_icmp .lt 44, 3) := by decide +kernel
theorem dX8_falls_159 : decode cX8_falls 159 = .ok (.aload_n 0, 1) := by decide +kernel
theorem dX8_falls_160 : decode cX8_falls 160 = .ok (.iload 7, 2) := by decide +kernel
theorem dX8_falls_162 : decode cX8_falls 162 = .ok (.aload_n 0, 1) := by decide +kernel
theorem dX8_falls_163 : decode cX8_falls 163 = .ok (.getfield 50, 3) := by decide +kernel
theorem dX8_falls_166 : decode cX8_falls 166 = .ok (.iload_n 3, 1) := by decide +kernel
theorem dX8_falls_167 : decode cX8_falls 167 = .ok (.iaload, 1) := by decide +kernel
theorem dX8_falls_168 : decode cX8_falls 168 = .ok (.invokevirtual 161, 3) := by decide +kernel
theorem dX8_falls_171 : decode cX8_falls 171 = .ok (.iinc 3 1, 3) := by decide +kernel
theorem dX8_falls_174 : decode cX8_falls 174 = .ok (.aload_n 0, 1) := by decide +kernel
theorem dX8_falls_175 : decode cX8_falls 175 = .ok (.getfield 50, 3) := by decide +kernel
theorem dX8_falls_178 : decode cX8_falls 178 = .ok (.iload_n 3, 1) := by decide +kernel
theorem dX8_falls_179 : decode cX8_falls 179 = .ok (.iload 7, 2) := by decide +kernel
theorem dX8_falls_181 : decode cX8_falls 181 = .ok (.iastore, 1) := by decide +kernel
theorem dX8_falls_182 : decode cX8_falls 182 = .ok (.aload_n 0, 1) := by decide +kernel
theorem dX8_falls_183 : decode cX8_falls 183 = .ok (.getfield 53, 3) := by decide +kernel
theorem dX8_falls_186 : decode cX8_falls 186 = .ok (.iload_n 3, 1) := by decide +kernel
theorem dX8_falls_187 : decode cX8_falls 187 = .ok (.iload 6, 2) := by decide +kernel
theorem dX8_falls_189 : decode cX8_falls 189 = .ok (.iastore, 1) := by decide +kernel
theorem dX8_falls_190 : decode cX8_falls 190 = .ok (.aload_n 0, 1) := by decide +kernel
theorem dX8_falls_191 : decode cX8_falls 191 = .ok (.getfield 56, 3) := by decide +kernel
theorem dX8_falls_194 : decode cX8_falls 194 = .ok (.iload_n 3, 1) := by decide +kernel
theorem dX8_falls_195 : decode cX8_falls 195 = .ok (.iconst (-1), 1) := by decide +kernel
theorem dX8_falls_196 : decode cX8_falls 196 = .ok (.iastore, 1) := by decide +kernel
theorem dX8_falls_197 : decode cX8_falls 197 = .ok (.goto 9, 3) := by decide +kernel
theorem dX8_falls_200 : decode cX8_falls 200 = .ok (.aload_n 0, 1) := by decide +kernel
theorem dX8_falls_201 : decode cX8_falls 201 = .ok (.iload 7, 2) := by decide +kernel
theorem dX8_falls_203 : decode cX8_falls 203 = .ok (.invokevirtual 174, 3) := by decide +kernel
theorem dX8_falls_206 : decode cX8_falls 206 = .ok (.goto (-177), 3) := by decide +kernel
theorem dX8_falls_209 : decode cX8_falls 209 = .ok (.return_, 1) := by decide +kernel
theorem dX8_goes_0 : decode cX8_goes 0 = .ok (.aload_n 0, 1) := by decide +kernel
theorem dX8_goes_1 : decode cX8_goes 1 = .ok (.iload_n 1, 1) := by decide +kernel
theorem dX8_goes_2 : decode cX8_goes 2 = .ok (.putfield 158, 3) := by decide +kernel
theorem dX8_goes_5 : decode cX8_goes 5 = .ok (.aload_n 0, 1) := by decide +kernel
theorem dX8_goes_6 : decode cX8_goes 6 = .ok (.iconst 0, 1) := by decide +kernel
theorem dX8_goes_7 : decode cX8_goes 7 = .ok (.putfield 155, 3) := by decide +kernel
theorem dX8_goes_10 : decode cX8_goes 10 = .ok (.aload_n 0, 1) := by decide +kernel
theorem dX8_goes_11 : decode cX8_goes 11 = .ok (.iconst (-1), 1) := by decide +kernel
theorem dX8_goes_12 : decode cX8_goes 12 = .ok (.putfield 178, 3) := by decide +kernel
theorem dX8_goes_15 : decode cX8_goes 15 = .ok (.iconst 0, 1) := by decide +kernel
theorem dX8_goes_16 : decode cX8_goes 16 = .ok (.istore 5, 2) := by decide +kernel
theorem dX8_goes_18 : decode cX8_goes 18 = .ok (.iload 5, 2) := by decide +kernel
theorem dX8_goes_20 : decode cX8_goes 20 = .ok (.bipush 9, 2) := by decide +kernel
theorem dX8_goes_22 : decode cX8_goes 22 = .ok (.if_icmp .ge 26, 3) := by decide +kernel
theorem dX8_goes_25 : decode cX8_goes 25 = .ok (.aload_n 0, 1) := by decide +kernel
theorem dX8_goes_26 : decode cX8_goes 26 = .ok (.getfield 44, 3) := by decide +kernel
theorem dX8_goes_29 : decode cX8_goes 29 = .ok (.iload 5, 2) := by decide +kernel
theorem dX8_goes_31 : decode cX8_goes 31 = .ok (.iconst 0, 1) := by decide +kernel
theorem dX8_goes_32 : decode cX8_goes 32 = .ok (.iastore, 1) := by decide +kernel
theorem dX8_goes_33 : decode cX8_goes 33 = .ok (.aload_n 0, 1) := by decide +kernel
theorem dX8_goes_34 : decode cX8_goes 34 = .ok (.getfield 47, 3) := by decide +kernel
theorem dX8_goes_37 : decode cX8_goes 37 = .ok (.iload 5, 2) := by decide +kernel
theorem dX8_goes_39 : decode cX8_goes 39 = .ok (.bipush (-2), 2) := by decide +kernel
theorem dX8_goes_41 : decode cX8_goes 41 = .ok (.iastore, 1) := by decide +kernel
theorem dX8_goes_42 : decode cX8_goes 42 = .ok (.iinc 5 1, 3) := by decide +kernel
theorem dX8_goes_45 : decode cX8_goes 45 = .ok (.goto (-27), 3) := by decide +kernel
theorem dX8_goes_48 : decode cX8_goes 48 = .ok (.iload_n 2, 1) := by decide +kernel
theorem dX8_goes_49 : decode cX8_goes 49 = .ok (.istore 5, 2) := by decide +kernel
theorem dX8_goes_51 : decode cX8_goes 51 = .ok (.iload 4, 2) := by decide +kernel
theorem dX8_goes_53 : decode cX8_goes 53 = .ok (.istore 6, 2) := by decide +kernel
theorem dX8_goes_55 : decode cX8_goes 55 = .ok (.iconst 0, 1) := by decide +kernel
theorem dX8_goes_56 : decode cX8_goes 56 = .ok (.istore 7, 2) := by decide +kernel
theorem dX8_goes_58 : decode cX8_goes 58 = .ok (.iload 7, 2) := by decide +kernel
theorem dX8_goes_60 : decode cX8_goes 60 = .ok (.iconst 5, 1) := by decide +kernel
theorem dX8_goes_61 : decode cX8_goes 61 = .ok (.if_icmp .ge 159, 3) := by decide +kernel
theorem dX8_goes_64 : decode cX8_goes 64 = .ok (.aload_n 0, 1) := by decide +kernel
theorem dX8_goes_65 : decode cX8_goes 65 = .ok (.getfield 178, 3) := by decide +kernel
theorem dX8_goes_68 : decode cX8_goes 68 = .ok (.iconst (-1), 1) := by decide +kernel
theorem dX8_goes_69 : decode cX8_goes 69 = .ok (.if_icmp .ne 151, 3) := by decide +kernel
theorem dX8_goes_72 : decode cX8_goes 72 = .ok (.iload 7, 2) := by decide +kernel
theorem dX8_goes_74 : decode cX8_goes 74 = .ok (.iload 5, 2) := by decide +kernel
theorem dX8_goes_76 : decode cX8_goes 76 = .ok (.invokestatic 167, 3) := by decide +kernel
theorem dX8_goes_79 : decode cX8_goes 79 = .ok (.istore 8, 2) := by decide +kernel
theorem dX8_goes_81 : decode cX8_goes 81 = .ok (.iload 8, 2) := by decide +kernel
theorem dX8_goes_83 : decode cX8_goes 83 = .ok (.iconst (-1), 1) := by decide +kernel
theorem dX8_goes_84 : decode cX8_goes 84 = .ok (.if_icmp .ne 7, 3) := by decide +kernel
theorem dX8_goes_87 : decode cX8_goes 87 = .ok (.iconst (-1), 1) := by decide +kernel
theorem dX8_goes_88 : decode cX8_goes 88 = .ok (.goto 10, 3) := by decide +kernel
theorem dX8_goes_91 : decode cX8_goes 91 = .ok (.aload_n 0, 1) := by decide +kernel
theorem dX8_goes_92 : decode cX8_goes 92 = .ok (.getfield 38, 3) := by decide +kernel
theorem dX8_goes_95 : decode cX8_goes 95 = .ok (.iload 8, 2) := by decide +kernel
theorem dX8_goes_97 : decode cX8_goes 97 = .ok (.iaload, 1) := by decide +kernel
theorem dX8_goes_98 : decode cX8_goes 98 = .ok (.istore 9, 2) := by decide +kernel
theorem dX8_goes_100 : decode cX8_goes 100 = .ok (.iload 9, 2) := by decide +kernel
theorem dX8_goes_102 : decode cX8_goes 102 = .ok (.iconst (-1), 1) := by decide +kernel
theorem dX8_goes_103 : decode cX8_goes 103 = .ok (.if_icmp .eq 66, 3) := by decide +kernel
theorem dX8_goes_106 : decode cX8_goes 106 = .ok (.aload_n 0, 1) := by decide +kernel
theorem dX8_goes_107 : decode cX8_goes 107 = .ok (.getfield 158, 3) := by decide +kernel
theorem dX8_goes_110 : decode cX8_goes 110 = .ok (.iload 9, 2) := by decide +kernel
theorem dX8_goes_112 : decode cX8_goes 112 = .ok (.invokestatic 170, 3) := by decide +kernel
theorem dX8_goes_115 : decode cX8_goes 115 = .ok (.ifCond .eq 54, 3) := by decide +kernel
theorem dX8_goes_118 : decode cX8_goes 118 = .ok (.iload 6, 2) := by decide +kernel
theorem dX8_goes_120 : decode cX8_goes 120 = .ok (.aload_n 0, 1) := by decide +kernel
theorem dX8_goes_121 : decode cX8_goes 121 = .ok (.getfield 41, 3) := by decide +kernel
theorem dX8_goes_124 : decode cX8_goes 124 = .ok (.iload 9, 2) := by decide +kernel
theorem dX8_goes_126 : decode cX8_goes 126 = .ok (.iaload, 1) := by decide +kernel
theorem dX8_goes_127 : decode cX8_goes 127 = .ok (.if_icmp .lt 30, 3) := by decide +kernel
theorem dX8_goes_130 : decode cX8_goes 130 = .ok (.aload_n 0, 1) := by decide +kernel
theorem dX8_goes_131 : decode cX8_goes 131 = .ok (.iload 9, 2) := by decide +kernel
theorem dX8_goes_133 : decode cX8_goes 133 = .ok (.iload 6, 2) := by decide +kernel
theorem dX8_goes_135 : decode cX8_goes 135 = .ok (.invokevirtual 181, 3) := by decide +kernel
theorem dX8_goes_138 : decode cX8_goes 138 = .ok (.iload 6, 2) := by decide +kernel
theorem dX8_goes_140 : decode cX8_goes 140 = .ok (.aload_n 0, 1) := by decide +kernel
theorem dX8_goes_141 : decode cX8_goes 141 = .ok (.getfield 41, 3) := by decide +kernel
theorem dX8_goes_144 : decode cX8_goes 144 = .ok (.iload 9, 2) := by decide +kernel
theorem dX8_goes_146 : decode cX8_goes 146 = .ok (.iaload, 1) := by decide +kernel
theorem dX8_goes_147 : decode cX8_goes 147 = .ok (.iconst 2, 1) := by decide +kernel
theorem dX8_goes_148 : decode cX8_goes 148 = .ok (.idiv, 1) := by decide +kernel
theorem dX8_goes_149 : decode cX8_goes 149 = .ok (.iconst 1, 1) := by decide +kernel
theorem dX8_goes_150 : decode cX8_goes 150 = .ok (.iadd, 1) := by decide +kernel
theorem dX8_goes_151 : decode cX8_goes 151 = .ok (.isub, 1) := by decide +kernel
theorem dX8_goes_152 : decode cX8_goes 152 = .ok (.istore 6, 2) := by decide +kernel
theorem dX8_goes_154 : decode cX8_goes 154 = .ok (.goto 15, 3) := by decide +kernel
theorem dX8_goes_157 : decode cX8_goes 157 = .ok (.aload_n 0, 1) := by decide +kernel
theorem dX8_goes_158 : decode cX8_goes 158 = .ok (.iload 9, 2) := by decide +kernel
theorem dX8_goes_160 : decode cX8_goes 160 = .ok (.invokevirtual 174, 3) := by decide +kernel
theorem dX8_goes_163 : decode cX8_goes 163 = .ok (.aload_n 0, 1) := by decide +kernel
theorem dX8_goes_164 : decode cX8_goes 164 = .ok (.iload 7, 2) := by decide +kernel
theorem dX8_goes_166 : decode cX8_goes 166 = .ok (.putfield 178, 3) := by decide +kernel
theorem dX8_goes_169 : decode cX8_goes 169 = .ok (.iload 6, 2) := by decide +kernel
theorem dX8_goes_171 : decode cX8_goes 171 = .ok (.aload_n 0, 1) := by decide +kernel
theorem dX8_goes_172 : decode cX8_goes 172 = .ok (.getfield 137, 3) := by decide +kernel
theorem dX8_goes_175 : decode cX8_goes 175 = .ok (.iconst 3, 1) := by decide +kernel
theorem dX8_goes_176 : decode cX8_goes 176 = .ok (.idiv, 1) := by decide +kernel
theorem dX8_goes_177 : decode cX8_goes 177 = .ok (.isub, 1) := by decide +kernel
theorem dX8_goes_178 : decode cX8_goes 178 = .ok (.istore 6, 2) := by decide +kernel
theorem dX8_goes_180 : decode cX8_goes 180 = .ok (.aload_n 0, 1) := by decide +kernel
theorem dX8_goes_181 : decode cX8_goes 181 = .ok (.aload_n 0, 1) := by decide +kernel
theorem dX8_goes_182 : decode cX8_goes 182 = .ok (.getfield 178, 3) := by decide +kernel
theorem dX8_goes_185 : decode cX8_goes 185 = .ok (.iconst (-1), 1) := by decide +kernel
theorem dX8_goes_186 : decode cX8_goes 186 = .ok (.if_icmp .ne 13, 3) := by decide +kernel
theorem dX8_goes_189 : decode cX8_goes 189 = .ok (.iload 6, 2) := by decide +kernel
theorem dX8_goes_191 : decode cX8_goes 191 = .ok (.ifCond .gt 8, 3) := by decide +kernel
theorem dX8_goes_194 : decode cX8_goes 194 = .ok (.iload 7, 2) := by decide +kernel
theorem dX8_goes_196 : decode cX8_goes 196 = .ok (.goto 7, 3) := by decide +kernel
theorem dX8_goes_199 : decode cX8_goes 199 = .ok (.aload_n 0, 1) := by decide +kernel
theorem dX8_goes_200 : decode cX8_goes 200 = .ok (.getfield 178, 3) := by decide +kernel
theorem dX8_goes_203 : decode cX8_goes 203 = .ok (.putfield 178, 3) := by decide +kernel
theorem dX8_goes_206 : decode cX8_goes 206 = .ok (.iload 5, 2) := by decide +kernel
theorem dX8_goes_208 : decode cX8_goes 208 = .ok (.iload_n 3, 1) := by decide +kernel
theorem dX8_goes_209 : decode cX8_goes 209 = .ok (.iconst 1, 1) := by decide +kernel
theorem dX8_goes_210 : decode cX8_goes 210 = .ok (.isub, 1) := by decide +kernel
theorem dX8_goes_211 : decode cX8_goes 211 = .ok (.iadd, 1) := by decide +kernel
theorem dX8_goes_212 : decode cX8_goes 212 = .ok (.istore 5, 2) := by decide +kernel
theorem dX8_goes_214 : decode cX8_goes 214 = .ok (.iinc 7 1, 3) := by decide +kernel
theorem dX8_goes_217 : decode cX8_goes 217 = .ok (.goto (-159), 3) := by decide +kernel
theorem dX8_goes_220 : decode cX8_goes 220 = .ok (.iload_n 1, 1) := by decide +kernel
theorem dX8_goes_221 : decode cX8_goes 221 = .ok (.aload_n 0, 1) := by decide +kernel
theorem dX8_goes_222 : decode cX8_goes 222 = .ok (.getfield 158, 3) := by decide +kernel
theorem dX8_goes_225 : decode cX8_goes 225 = .ok (.iconst (-1), 1) := by decide +kernel
theorem dX8_goes_226 : decode cX8_goes 226 = .ok (.ixor, 1) := by decide +kernel
theorem dX8_goes_227 : decode cX8_goes 227 = .ok (.iand, 1) := by decide +kernel
theorem dX8_goes_228 : decode cX8_goes 228 = .ok (.ireturn, 1) := by decide +kernel
theorem dX8_goesBy_0 : decode cX8_goesBy 0 = .ok (.aload_n 0, 1) := by decide +kernel
theorem dX8_goesBy_1 : decode cX8_goesBy 1 = .ok (.iload_n 1, 1) := by decide +kernel
theorem dX8_goesBy_2 : decode cX8_goesBy 2 = .ok (.iload_n 2, 1) := by decide +kernel
theorem dX8_goesBy_3 : decode cX8_goesBy 3 = .ok (.bipush 120, 2) := by decide +kernel
theorem dX8_goesBy_5 : decode cX8_goesBy 5 = .ok (.idiv, 1) := by decide +kernel
theorem dX8_goesBy_6 : decode cX8_goesBy 6 = .ok (.iload_n 2, 1) := by decide +kernel
