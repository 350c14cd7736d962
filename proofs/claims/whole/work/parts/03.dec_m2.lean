theorem dX8_goesBy_7 : decode cX8_goesBy 7 = .ok (.bipush 40, 2) := by decide +kernel
theorem dX8_goesBy_9 : decode cX8_goesBy 9 = .ok (.idiv, 1) := by decide +kernel
theorem dX8_goesBy_10 : decode cX8_goesBy 10 = .ok (.iconst 3, 1) := by decide +kernel
theorem dX8_goesBy_11 : decode cX8_goesBy 11 = .ok (.irem, 1) := by decide +kernel
theorem dX8_goesBy_12 : decode cX8_goesBy 12 = .ok (.iconst 1, 1) := by decide +kernel
theorem dX8_goesBy_13 : decode cX8_goesBy 13 = .ok (.iload_n 2, 1) := by decide +kernel
theorem dX8_goesBy_14 : decode cX8_goesBy 14 = .ok (.bipush 40, 2) := by decide +kernel
theorem dX8_goesBy_16 : decode cX8_goesBy 16 = .ok (.irem, 1) := by decide +kernel
theorem dX8_goesBy_17 : decode cX8_goesBy 17 = .ok (.iadd, 1) := by decide +kernel
theorem dX8_goesBy_18 : decode cX8_goesBy 18 = .ok (.invokevirtual 184, 3) := by decide +kernel
theorem dX8_goesBy_21 : decode cX8_goesBy 21 = .ok (.ireturn, 1) := by decide +kernel
theorem dX8_numberOf_0 : decode cX8_numberOf 0 = .ok (.sipush 1000, 3) := by decide +kernel
theorem dX8_numberOf_3 : decode cX8_numberOf 3 = .ok (.iload_n 0, 1) := by decide +kernel
theorem dX8_numberOf_4 : decode cX8_numberOf 4 = .ok (.bipush 120, 2) := by decide +kernel
theorem dX8_numberOf_6 : decode cX8_numberOf 6 = .ok (.idiv, 1) := by decide +kernel
theorem dX8_numberOf_7 : decode cX8_numberOf 7 = .ok (.imul, 1) := by decide +kernel
theorem dX8_numberOf_8 : decode cX8_numberOf 8 = .ok (.bipush 100, 2) := by decide +kernel
theorem dX8_numberOf_10 : decode cX8_numberOf 10 = .ok (.iload_n 0, 1) := by decide +kernel
theorem dX8_numberOf_11 : decode cX8_numberOf 11 = .ok (.bipush 40, 2) := by decide +kernel
theorem dX8_numberOf_13 : decode cX8_numberOf 13 = .ok (.idiv, 1) := by decide +kernel
theorem dX8_numberOf_14 : decode cX8_numberOf 14 = .ok (.iconst 3, 1) := by decide +kernel
theorem dX8_numberOf_15 : decode cX8_numberOf 15 = .ok (.irem, 1) := by decide +kernel
theorem dX8_numberOf_16 : decode cX8_numberOf 16 = .ok (.imul, 1) := by decide +kernel
theorem dX8_numberOf_17 : decode cX8_numberOf 17 = .ok (.iadd, 1) := by decide +kernel
theorem dX8_numberOf_18 : decode cX8_numberOf 18 = .ok (.iconst 1, 1) := by decide +kernel
theorem dX8_numberOf_19 : decode cX8_numberOf 19 = .ok (.iadd, 1) := by decide +kernel
theorem dX8_numberOf_20 : decode cX8_numberOf 20 = .ok (.iload_n 0, 1) := by decide +kernel
theorem dX8_numberOf_21 : decode cX8_numberOf 21 = .ok (.bipush 40, 2) := by decide +kernel
theorem dX8_numberOf_23 : decode cX8_numberOf 23 = .ok (.irem, 1) := by decide +kernel
theorem dX8_numberOf_24 : decode cX8_numberOf 24 = .ok (.iadd, 1) := by decide +kernel
theorem dX8_numberOf_25 : decode cX8_numberOf 25 = .ok (.ireturn, 1) := by decide +kernel
theorem dX8_isBall_0 : decode cX8_isBall 0 = .ok (.iload_n 1, 1) := by decide +kernel
theorem dX8_isBall_1 : decode cX8_isBall 1 = .ok (.iconst 0, 1) := by decide +kernel
theorem dX8_isBall_2 : decode cX8_isBall 2 = .ok (.iconst 4, 1) := by decide +kernel
theorem dX8_isBall_3 : decode cX8_isBall 3 = .ok (.invokestatic 75, 3) := by decide +kernel
theorem dX8_isBall_6 : decode cX8_isBall 6 = .ok (.ifCond .eq 26, 3) := by decide +kernel
theorem dX8_isBall_9 : decode cX8_isBall 9 = .ok (.iload_n 2, 1) := by decide +kernel
theorem dX8_isBall_10 : decode cX8_isBall 10 = .ok (.iconst 0, 1) := by decide +kernel
theorem dX8_isBall_11 : decode cX8_isBall 11 = .ok (.iconst 2, 1) := by decide +kernel
theorem dX8_isBall_12 : decode cX8_isBall 12 = .ok (.invokestatic 75, 3) := by decide +kernel
theorem dX8_isBall_15 : decode cX8_isBall 15 = .ok (.ifCond .eq 17, 3) := by decide +kernel
theorem dX8_isBall_18 : decode cX8_isBall 18 = .ok (.iload_n 3, 1) := by decide +kernel
theorem dX8_isBall_19 : decode cX8_isBall 19 = .ok (.iconst 1, 1) := by decide +kernel
theorem dX8_isBall_20 : decode cX8_isBall 20 = .ok (.bipush 40, 2) := by decide +kernel
theorem dX8_isBall_22 : decode cX8_isBall 22 = .ok (.invokestatic 75, 3) := by decide +kernel
theorem dX8_isBall_25 : decode cX8_isBall 25 = .ok (.ifCond .eq 7, 3) := by decide +kernel
theorem dX8_isBall_28 : decode cX8_isBall 28 = .ok (.iconst 1, 1) := by decide +kernel
theorem dX8_isBall_29 : decode cX8_isBall 29 = .ok (.goto 4, 3) := by decide +kernel
theorem dX8_isBall_32 : decode cX8_isBall 32 = .ok (.iconst 0, 1) := by decide +kernel
theorem dX8_isBall_33 : decode cX8_isBall 33 = .ok (.ireturn, 1) := by decide +kernel
theorem dX8_worst_0 : decode cX8_worst 0 = .ok (.aload_n 0, 1) := by decide +kernel
theorem dX8_worst_1 : decode cX8_worst 1 = .ok (.getfield 133, 3) := by decide +kernel
theorem dX8_worst_4 : decode cX8_worst 4 = .ok (.ifCond .ne 5, 3) := by decide +kernel
theorem dX8_worst_7 : decode cX8_worst 7 = .ok (.iconst (-1), 1) := by decide +kernel
theorem dX8_worst_8 : decode cX8_worst 8 = .ok (.ireturn, 1) := by decide +kernel
theorem dX8_worst_9 : decode cX8_worst 9 = .ok (.aload_n 0, 1) := by decide +kernel
theorem dX8_worst_10 : decode cX8_worst 10 = .ok (.iconst 0, 1) := by decide +kernel
theorem dX8_worst_11 : decode cX8_worst 11 = .ok (.iconst 0, 1) := by decide +kernel
theorem dX8_worst_12 : decode cX8_worst 12 = .ok (.invokevirtual 188, 3) := by decide +kernel
theorem dX8_worst_15 : decode cX8_worst 15 = .ok (.iconst 0, 1) := by decide +kernel
theorem dX8_worst_16 : decode cX8_worst 16 = .ok (.istore_n 2, 1) := by decide +kernel
theorem dX8_worst_17 : decode cX8_worst 17 = .ok (.iconst (-1), 1) := by decide +kernel
theorem dX8_worst_18 : decode cX8_worst 18 = .ok (.istore_n 3, 1) := by decide +kernel
theorem dX8_worst_19 : decode cX8_worst 19 = .ok (.iconst 0, 1) := by decide +kernel
theorem dX8_worst_20 : decode cX8_worst 20 = .ok (.istore 4, 2) := by decide +kernel
theorem dX8_worst_22 : decode cX8_worst 22 = .ok (.iload 4, 2) := by decide +kernel
theorem dX8_worst_24 : decode cX8_worst 24 = .ok (.sipush 600, 3) := by decide +kernel
theorem dX8_worst_27 : decode cX8_worst 27 = .ok (.if_icmp .ge 56, 3) := by decide +kernel
theorem dX8_worst_30 : decode cX8_worst 30 = .ok (.aload_n 0, 1) := by decide +kernel
theorem dX8_worst_31 : decode cX8_worst 31 = .ok (.aload_n 0, 1) := by decide +kernel
theorem dX8_worst_32 : decode cX8_worst 32 = .ok (.getfield 19, 3) := by decide +kernel
theorem dX8_worst_35 : decode cX8_worst 35 = .ok (.bipush 45, 2) := by decide +kernel
theorem dX8_worst_37 : decode cX8_worst 37 = .ok (.iaload, 1) := by decide +kernel
theorem dX8_worst_38 : decode cX8_worst 38 = .ok (.iload 4, 2) := by decide +kernel
theorem dX8_worst_40 : decode cX8_worst 40 = .ok (.invokevirtual 191, 3) := by decide +kernel
theorem dX8_worst_43 : decode cX8_worst 43 = .ok (.invokestatic 194, 3) := by decide +kernel
theorem dX8_worst_46 : decode cX8_worst 46 = .ok (.istore 5, 2) := by decide +kernel
theorem dX8_worst_48 : decode cX8_worst 48 = .ok (.iload 5, 2) := by decide +kernel
theorem dX8_worst_50 : decode cX8_worst 50 = .ok (.iload_n 3, 1) := by decide +kernel
theorem dX8_worst_51 : decode cX8_worst 51 = .ok (.if_icmp .le 11, 3) := by decide +kernel
theorem dX8_worst_54 : decode cX8_worst 54 = .ok (.iload 4, 2) := by decide +kernel
theorem dX8_worst_56 : decode cX8_worst 56 = .ok (.invokestatic 197, 3) := by decide +kernel
theorem dX8_worst_59 : decode cX8_worst 59 = .ok (.goto 4, 3) := by decide +kernel
theorem dX8_worst_62 : decode cX8_worst 62 = .ok (.iload_n 2, 1) := by decide +kernel
theorem dX8_worst_63 : decode cX8_worst 63 = .ok (.istore_n 2, 1) := by decide +kernel
theorem dX8_worst_64 : decode cX8_worst 64 = .ok (.iload 5, 2) := by decide +kernel
theorem dX8_worst_66 : decode cX8_worst 66 = .ok (.iload_n 3, 1) := by decide +kernel
theorem dX8_worst_67 : decode cX8_worst 67 = .ok (.if_icmp .le 8, 3) := by decide +kernel
theorem dX8_worst_70 : decode cX8_worst 70 = .ok (.iload 5, 2) := by decide +kernel
theorem dX8_worst_72 : decode cX8_worst 72 = .ok (.goto 4, 3) := by decide +kernel
theorem dX8_worst_75 : decode cX8_worst 75 = .ok (.iload_n 3, 1) := by decide +kernel
theorem dX8_worst_76 : decode cX8_worst 76 = .ok (.istore_n 3, 1) := by decide +kernel
theorem dX8_worst_77 : decode cX8_worst 77 = .ok (.iinc 4 1, 3) := by decide +kernel
theorem dX8_worst_80 : decode cX8_worst 80 = .ok (.goto (-58), 3) := by decide +kernel
theorem dX8_worst_83 : decode cX8_worst 83 = .ok (.iload_n 1, 1) := by decide +kernel
theorem dX8_worst_84 : decode cX8_worst 84 = .ok (.ifCond .ne 7, 3) := by decide +kernel
theorem dX8_worst_87 : decode cX8_worst 87 = .ok (.iload_n 2, 1) := by decide +kernel
theorem dX8_worst_88 : decode cX8_worst 88 = .ok (.goto 4, 3) := by decide +kernel
theorem dX8_worst_91 : decode cX8_worst 91 = .ok (.iload_n 3, 1) := by decide +kernel
theorem dX8_worst_92 : decode cX8_worst 92 = .ok (.ireturn, 1) := by decide +kernel
theorem dX8_safest_0 : decode cX8_safest 0 = .ok (.aload_n 0, 1) := by decide +kernel
theorem dX8_safest_1 : decode cX8_safest 1 = .ok (.getfield 133, 3) := by decide +kernel
theorem dX8_safest_4 : decode cX8_safest 4 = .ok (.ifCond .eq 13, 3) := by decide +kernel
theorem dX8_safest_7 : decode cX8_safest 7 = .ok (.aload_n 0, 1) := by decide +kernel
theorem dX8_safest_8 : decode cX8_safest 8 = .ok (.getfield 19, 3) := by decide +kernel
theorem dX8_safest_11 : decode cX8_safest 11 = .ok (.bipush 45, 2) := by decide +kernel
theorem dX8_safest_13 : decode cX8_safest 13 = .ok (.iaload, 1) := by decide +kernel
theorem dX8_safest_14 : decode cX8_safest 14 = .ok (.ifCond .ne 5, 3) := by decide +kernel
theorem dX8_safest_17 : decode cX8_safest 17 = .ok (.iconst (-1), 1) := by decide +kernel
theorem dX8_safest_18 : decode cX8_safest 18 = .ok (.ireturn, 1) := by decide +kernel
theorem dX8_safest_19 : decode cX8_safest 19 = .ok (.aload_n 0, 1) := by decide +kernel
theorem dX8_safest_20 : decode cX8_safest 20 = .ok (.iconst 0, 1) := by decide +kernel
theorem dX8_safest_21 : decode cX8_safest 21 = .ok (.iconst 0, 1) := by decide +kernel
theorem dX8_safest_22 : decode cX8_safest 22 = .ok (.invokevirtual 188, 3) := by decide +kernel
theorem dX8_safest_25 : decode cX8_safest 25 = .ok (.iconst (-1), 1) := by decide +kernel
theorem dX8_safest_26 : decode cX8_safest 26 = .ok (.istore_n 2, 1) := by decide +kernel
theorem dX8_safest_27 : decode cX8_safest 27 = .ok (.sipush 1000, 3) := by decide +kernel
theorem dX8_safest_30 : decode cX8_safest 30 = .ok (.istore_n 3, 1) := by decide +kernel
theorem dX8_safest_31 : decode cX8_safest 31 = .ok (.iconst 0, 1) := by decide +kernel
theorem dX8_safest_32 : decode cX8_safest 32 = .ok (.istore 4, 2) := by decide +kernel
theorem dX8_safest_34 : decode cX8_safest 34 = .ok (.iload 4, 2) := by decide +kernel
theorem dX8_safest_36 : decode cX8_safest 36 = .ok (.aload_n 0, 1) := by decide +kernel
theorem dX8_safest_37 : decode cX8_safest 37 = .ok (.getfield 130, 3) := by decide +kernel
theorem dX8_safest_40 : decode cX8_safest 40 = .ok (.if_icmp .ge 101, 3) := by decide +kernel
theorem dX8_safest_43 : decode cX8_safest 43 = .ok (.aload_n 0, 1) := by decide +kernel
theorem dX8_safest_44 : decode cX8_safest 44 = .ok (.getfield 19, 3) := by decide +kernel
theorem dX8_safest_47 : decode cX8_safest 47 = .ok (.bipush 45, 2) := by decide +kernel
theorem dX8_safest_49 : decode cX8_safest 49 = .ok (.iaload, 1) := by decide +kernel
theorem dX8_safest_50 : decode cX8_safest 50 = .ok (.iload 4, 2) := by decide +kernel
theorem dX8_safest_52 : decode cX8_safest 52 = .ok (.invokestatic 170, 3) := by decide +kernel
theorem dX8_safest_55 : decode cX8_safest 55 = .ok (.ifCond .eq 80, 3) := by decide +kernel
theorem dX8_safest_58 : decode cX8_safest 58 = .ok (.iconst 0, 1) := by decide +kernel
theorem dX8_safest_59 : decode cX8_safest 59 = .ok (.istore 5, 2) := by decide +kernel
theorem dX8_safest_61 : decode cX8_safest 61 = .ok (.iconst 0, 1) := by decide +kernel
theorem dX8_safest_62 : decode cX8_safest 62 = .ok (.istore 6, 2) := by decide +kernel
theorem dX8_safest_64 : decode cX8_safest 64 = .ok (.iload 6, 2) := by decide +kernel
theorem dX8_safest_66 : decode cX8_safest 66 = .ok (.sipush 600, 3) := by decide +kernel
theorem dX8_safest_69 : decode cX8_safest 69 = .ok (.if_icmp .ge 40, 3) := by decide +kernel
theorem dX8_safest_72 : decode cX8_safest 72 = .ok (.iload 5, 2) := by decide +kernel
theorem dX8_safest_74 : decode cX8_safest 74 = .ok (.aload_n 0, 1) := by decide +kernel
theorem dX8_safest_75 : decode cX8_safest 75 = .ok (.aload_n 0, 1) := by decide +kernel
theorem dX8_safest_76 : decode cX8_safest 76 = .ok (.getfield 19, 3) := by decide +kernel
theorem dX8_safest_79 : decode cX8_safest 79 = .ok (.bipush 45, 2) := by decide +kernel
theorem dX8_safest_81 : decode cX8_safest 81 = .ok (.iaload, 1) := by decide +kernel
theorem dX8_safest_82 : decode cX8_safest 82 = .ok (.iload 6, 2) := by decide +kernel
theorem dX8_safest_84 : decode cX8_safest 84 = .ok (.invokevirtual 191, 3) := by decide +kernel
theorem dX8_safest_87 : decode cX8_safest 87 = .ok (.iload 4, 2) := by decide +kernel
theorem dX8_safest_89 : decode cX8_safest 89 = .ok (.invokestatic 170, 3) := by decide +kernel
theorem dX8_safest_92 : decode cX8_safest 92 = .ok (.ifCond .eq 7, 3) := by decide +kernel
theorem dX8_safest_95 : decode cX8_safest 95 = .ok (.iconst 1, 1) := by decide +kernel
theorem dX8_safest_96 : decode cX8_safest 96 = .ok (.goto 4, 3) := by decide +kernel
theorem dX8_safest_99 : decode cX8_safest 99 = .ok (.iconst 0, 1) := by decide +kernel
theorem dX8_safest_100 : decode cX8_safest 100 = .ok (.iadd, 1) := by decide +kernel
theorem dX8_safest_101 : decode cX8_safest 101 = .ok (.istore 5, 2) := by decide +kernel
theorem dX8_safest_103 : decode cX8_safest 103 = .ok (.iinc 6 1, 3) := by decide +kernel
theorem dX8_safest_106 : decode cX8_safest 106 = .ok (.goto (-42), 3) := by decide +kernel
theorem dX8_safest_109 : decode cX8_safest 109 = .ok (.iload 5, 2) := by decide +kernel
theorem dX8_safest_111 : decode cX8_safest 111 = .ok (.iload_n 3, 1) := by decide +kernel
theorem dX8_safest_112 : decode cX8_safest 112 = .ok (.if_icmp .ge 8, 3) := by decide +kernel
theorem dX8_safest_115 : decode cX8_safest 115 = .ok (.iload 4, 2) := by decide +kernel
theorem dX8_safest_117 : decode cX8_safest 117 = .ok (.goto 4, 3) := by decide +kernel
theorem dX8_safest_120 : decode cX8_safest 120 = .ok (.iload_n 2, 1) := by decide +kernel
theorem dX8_safest_121 : decode cX8_safest 121 = .ok (.istore_n 2, 1) := by decide +kernel
theorem dX8_safest_122 : decode cX8_safest 122 = .ok (.iload 5, 2) := by decide +kernel
theorem dX8_safest_124 : decode cX8_safest 124 = .ok (.iload_n 3, 1) := by decide +kernel
theorem dX8_safest_125 : decode cX8_safest 125 = .ok (.if_icmp .ge 8, 3) := by decide +kernel
theorem dX8_safest_128 : decode cX8_safest 128 = .ok (.iload 5, 2) := by decide +kernel
theorem dX8_safest_130 : decode cX8_safest 130 = .ok (.goto 4, 3) := by decide +kernel
theorem dX8_safest_133 : decode cX8_safest 133 = .ok (.iload_n 3, 1) := by decide +kernel
theorem dX8_safest_134 : decode cX8_safest 134 = .ok (.istore_n 3, 1) := by decide +kernel
theorem dX8_safest_135 : decode cX8_safest 135 = .ok (.iinc 4 1, 3) := by decide +kernel
theorem dX8_safest_138 : decode cX8_safest 138 = .ok (.goto (-104), 3) := by decide +kernel
theorem dX8_safest_141 : decode cX8_safest 141 = .ok (.iload_n 1, 1) := by decide +kernel
theorem dX8_safest_142 : decode cX8_safest 142 = .ok (.ifCond .ne 7, 3) := by decide +kernel
theorem dX8_safest_145 : decode cX8_safest 145 = .ok (.iload_n 2, 1) := by decide +kernel
theorem dX8_safest_146 : decode cX8_safest 146 = .ok (.goto 4, 3) := by decide +kernel
theorem dX8_safest_149 : decode cX8_safest 149 = .ok (.iload_n 3, 1) := by decide +kernel
theorem dX8_safest_150 : decode cX8_safest 150 = .ok (.ireturn, 1) := by decide +kernel
theorem dX8_firm_0 : decode cX8_firm 0 = .ok (.aload_n 0, 1) := by decide +kernel
theorem dX8_firm_1 : decode cX8_firm 1 = .ok (.getfield 133, 3) := by decide +kernel
theorem dX8_firm_4 : decode cX8_firm 4 = .ok (.ifCond .ne 5, 3) := by decide +kernel
theorem dX8_firm_7 : decode cX8_firm 7 = .ok (.iconst (-1), 1) := by decide +kernel
theorem dX8_firm_8 : decode cX8_firm 8 = .ok (.ireturn, 1) := by decide +kernel
theorem dX8_firm_9 : decode cX8_firm 9 = .ok (.aload_n 0, 1) := by decide +kernel
theorem dX8_firm_10 : decode cX8_firm 10 = .ok (.iconst 0, 1) := by decide +kernel
theorem dX8_firm_11 : decode cX8_firm 11 = .ok (.iconst 0, 1) := by decide +kernel
theorem dX8_firm_12 : decode cX8_firm 12 = .ok (.invokevirtual 200, 3) := by decide +kernel
theorem dX8_firm_15 : decode cX8_firm 15 = .ok (.ireturn, 1) := by decide +kernel
theorem dX8_talks_0 : decode cX8_talks 0 = .ok (.iconst 0, 1) := by decide +kernel
theorem dX8_talks_1 : decode cX8_talks 1 = .ok (.istore_n 1, 1) := by decide +kernel
theorem dX8_talks_2 : decode cX8_talks 2 = .ok (.iconst 0, 1) := by decide +kernel
theorem dX8_talks_3 : decode cX8_talks 3 = .ok (.istore_n 2, 1) := by decide +kernel
theorem dX8_talks_4 : decode cX8_talks 4 = .ok (.iload_n 2, 1) := by decide +kernel
theorem dX8_talks_5 : decode cX8_talks 5 = .ok (.aload_n 0, 1) := by decide +kernel
theorem dX8_talks_6 : decode cX8_talks 6 = .ok (.getfield 130, 3) := by decide +kernel
theorem dX8_talks_9 : decode cX8_talks 9 = .ok (.if_icmp .ge 143, 3) := by decide +kernel
theorem dX8_talks_12 : decode cX8_talks 12 = .ok (.iload_n 2, 1) := by decide +kernel
theorem dX8_talks_13 : decode cX8_talks 13 = .ok (.iconst 1, 1) := by decide +kernel
theorem dX8_talks_14 : decode cX8_talks 14 = .ok (.iadd, 1) := by decide +kernel
theorem dX8_talks_15 : decode cX8_talks 15 = .ok (.istore_n 3, 1) := by decide +kernel
theorem dX8_talks_16 : decode cX8_talks 16 = .ok (.iload_n 3, 1) := by decide +kernel
theorem dX8_talks_17 : decode cX8_talks 17 = .ok (.aload_n 0, 1) := by decide +kernel
theorem dX8_talks_18 : decode cX8_talks 18 = .ok (.getfield 130, 3) := by decide +kernel
theorem dX8_talks_21 : decode cX8_talks 21 = .ok (.if_icmp .ge 125, 3) := by decide +kernel
theorem dX8_talks_24 : decode cX8_talks 24 = .ok (.aload_n 0, 1) := by decide +kernel
theorem dX8_talks_25 : decode cX8_talks 25 = .ok (.getfield 19, 3) := by decide +kernel
theorem dX8_talks_28 : decode cX8_talks 28 = .ok (.iconst 0, 1) := by decide +kernel
theorem dX8_talks_29 : decode cX8_talks 29 = .ok (.iload_n 2, 1) := by decide +kernel
theorem dX8_talks_30 : decode cX8_talks 30 = .ok (.iadd, 1) := by decide +kernel
theorem dX8_talks_31 : decode cX8_talks 31 = .ok (.iaload, 1) := by decide +kernel
theorem dX8_talks_32 : decode cX8_talks 32 = .ok (.invokestatic 146, 3) := by decide +kernel
theorem dX8_talks_35 : decode cX8_talks 35 = .ok (.aload_n 0, 1) := by decide +kernel
theorem dX8_talks_36 : decode cX8_talks 36 = .ok (.getfield 19, 3) := by decide +kernel
theorem dX8_talks_39 : decode cX8_talks 39 = .ok (.iconst 0, 1) := by decide +kernel
theorem dX8_talks_40 : decode cX8_talks 40 = .ok (.iload_n 3, 1) := by decide +kernel
theorem dX8_talks_41 : decode cX8_talks 41 = .ok (.iadd, 1) := by decide +kernel
theorem dX8_talks_42 : decode cX8_talks 42 = .ok (.iaload, 1) := by decide +kernel
theorem dX8_talks_43 : decode cX8_talks 43 = .ok (.invokestatic 146, 3) := by decide +kernel
theorem dX8_talks_46 : decode cX8_talks 46 = .ok (.isub, 1) := by decide +kernel
theorem dX8_talks_47 : decode cX8_talks 47 = .ok (.istore 4, 2) := by decide +kernel
theorem dX8_talks_49 : decode cX8_talks 49 = .ok (.aload_n 0, 1) := by decide +kernel
theorem dX8_talks_50 : decode cX8_talks 50 = .ok (.getfield 19, 3) := by decide +kernel
theorem dX8_talks_53 : decode cX8_talks 53 = .ok (.iconst 0, 1) := by decide +kernel
theorem dX8_talks_54 : decode cX8_talks 54 = .ok (.iload_n 2, 1) := by decide +kernel
theorem dX8_talks_55 : decode cX8_talks 55 = .ok (.iadd, 1) := by decide +kernel
theorem dX8_talks_56 : decode cX8_talks 56 = .ok (.iaload, 1) := by decide +kernel
theorem dX8_talks_57 : decode cX8_talks 57 = .ok (.invokestatic 149, 3) := by decide +kernel
theorem dX8_talks_60 : decode cX8_talks 60 = .ok (.aload_n 0, 1) := by decide +kernel
theorem dX8_talks_61 : decode cX8_talks 61 = .ok (.getfield 19, 3) := by decide +kernel
theorem dX8_talks_64 : decode cX8_talks 64 = .ok (.iconst 0, 1) := by decide +kernel
theorem dX8_talks_65 : decode cX8_talks 65 = .ok (.iload_n 3, 1) := by decide +kernel
theorem dX8_talks_66 : decode cX8_talks 66 = .ok (.iadd, 1) := by decide +kernel
theorem dX8_talks_67 : decode cX8_talks 67 = .ok (.iaload, 1) := by decide +kernel
theorem dX8_talks_68 : decode cX8_talks 68 = .ok (.invokestatic 149, 3) := by decide +kernel
theorem dX8_talks_71 : decode cX8_talks 71 = .ok (.isub, 1) := by decide +kernel
theorem dX8_talks_72 : decode cX8_talks 72 = .ok (.istore 5, 2) := by decide +kernel
theorem dX8_talks_74 : decode cX8_talks 74 = .ok (.iload 4, 2) := by decide +kernel
theorem dX8_talks_76 : decode cX8_talks 76 = .ok (.iload 4, 2) := by decide +kernel
theorem dX8_talks_78 : decode cX8_talks 78 = .ok (.imul, 1) := by decide +kernel
theorem dX8_talks_79 : decode cX8_talks 79 = .ok (.iconst 1, 1) := by decide +kernel
theorem dX8_talks_80 : decode cX8_talks 80 = .ok (.if_icmp .ne 16, 3) := by decide +kernel
theorem dX8_talks_83 : decode cX8_talks 83 = .ok (.iload 5, 2) := by decide +kernel
theorem dX8_talks_85 : decode cX8_talks 85 = .ok (.iload 5, 2) := by decide +kernel
theorem dX8_talks_87 : decode cX8_talks 87 = .ok (.imul, 1) := by decide +kernel
theorem dX8_talks_88 : decode cX8_talks 88 = .ok (.iconst 1, 1) := by decide +kernel
theorem dX8_talks_89 : decode cX8_talks 89 = .ok (.if_icmp .ne 7, 3) := by decide +kernel
theorem dX8_talks_92 : decode cX8_talks 92 = .ok (.iconst 1, 1) := by decide +kernel
theorem dX8_talks_93 : decode cX8_talks 93 = .ok (.goto 4, 3) := by decide +kernel
theorem dX8_talks_96 : decode cX8_talks 96 = .ok (.iconst 0, 1) := by decide +kernel
theorem dX8_talks_97 : decode cX8_talks 97 = .ok (.istore 6, 2) := by decide +kernel
theorem dX8_talks_99 : decode cX8_talks 99 = .ok (.iload_n 1, 1) := by decide +kernel
theorem dX8_talks_100 : decode cX8_talks 100 = .ok (.iload 6, 2) := by decide +kernel
theorem dX8_talks_102 : decode cX8_talks 102 = .ok (.ifCond .eq 35, 3) := by decide +kernel
theorem dX8_talks_105 : decode cX8_talks 105 = .ok (.aload_n 0, 1) := by decide +kernel
theorem dX8_talks_106 : decode cX8_talks 106 = .ok (.getfield 19, 3) := by decide +kernel
theorem dX8_talks_109 : decode cX8_talks 109 = .ok (.bipush 45, 2) := by decide +kernel
theorem dX8_talks_111 : decode cX8_talks 111 = .ok (.iaload, 1) := by decide +kernel
theorem dX8_talks_112 : decode cX8_talks 112 = .ok (.iload_n 2, 1) := by decide +kernel
theorem dX8_talks_113 : decode cX8_talks 113 = .ok (.invokestatic 170, 3) := by decide +kernel
theorem dX8_talks_116 : decode cX8_talks 116 = .ok (.ifCond .ne 21, 3) := by decide +kernel
theorem dX8_talks_119 : decode cX8_talks 119 = .ok (.aload_n 0, 1) := by decide +kernel
theorem dX8_talks_120 : decode cX8_talks 120 = .ok (.getfield 19, 3) := by decide +kernel
theorem dX8_talks_123 : decode cX8_talks 123 = .ok (.bipush 45, 2) := by decide +kernel
theorem dX8_talks_125 : decode cX8_talks 125 = .ok (.iaload, 1) := by decide +kernel
theorem dX8_talks_126 : decode cX8_talks 126 = .ok (.iload_n 3, 1) := by decide +kernel
theorem dX8_talks_127 : decode cX8_talks 127 = .ok (.invokestatic 170, 3) := by decide +kernel
theorem dX8_talks_130 : decode cX8_talks 130 = .ok (.ifCond .ne 7, 3) := by decide +kernel
theorem dX8_talks_133 : decode cX8_talks 133 = .ok (.iconst 1, 1) := by decide +kernel
theorem dX8_talks_134 : decode cX8_talks 134 = .ok (.goto 4, 3) := by decide +kernel
theorem dX8_talks_137 : decode cX8_talks 137 = .ok (.iconst 0, 1) := by decide +kernel
theorem dX8_talks_138 : decode cX8_talks 138 = .ok (.iadd, 1) := by decide +kernel
theorem dX8_talks_139 : decode cX8_talks 139 = .ok (.istore_n 1, 1) := by decide +kernel
theorem dX8_talks_140 : decode cX8_talks 140 = .ok (.iinc 3 1, 3) := by decide +kernel
theorem dX8_talks_143 : decode cX8_talks 143 = .ok (.goto (-127), 3) := by decide +kernel
theorem dX8_talks_146 : decode cX8_talks 146 = .ok (.iinc 2 1, 3) := by decide +kernel
theorem dX8_talks_149 : decode cX8_talks 149 = .ok (.goto (-145), 3) := by decide +kernel
theorem dX8_talks_152 : decode cX8_talks 152 = .ok (.iload_n 1, 1) := by decide +kernel
theorem dX8_talks_153 : decode cX8_talks 153 = .ok (.ireturn, 1) := by decide +kernel
theorem dX8_told_0 : decode cX8_told 0 = .ok (.aload_n 0, 1) := by decide +kernel
theorem dX8_told_1 : decode cX8_told 1 = .ok (.iconst 0, 1) := by decide +kernel
theorem dX8_told_2 : decode cX8_told 2 = .ok (.putfield 72, 3) := by decide +kernel
theorem dX8_told_5 : decode cX8_told 5 = .ok (.iload_n 1, 1) := by decide +kernel
theorem dX8_told_6 : decode cX8_told 6 = .ok (.iconst 0, 1) := by decide +kernel
theorem dX8_told_7 : decode cX8_told 7 = .ok (.bipush 13, 2) := by decide +kernel
theorem dX8_told_9 : decode cX8_told 9 = .ok (.invokestatic 75, 3) := by decide +kernel
theorem dX8_told_12 : decode cX8_told 12 = .ok (.ifCond .ne 6, 3) := by decide +kernel
theorem dX8_told_15 : decode cX8_told 15 = .ok (.ldc 79, 2) := by decide +kernel
theorem dX8_told_17 : decode cX8_told 17 = .ok (.ireturn, 1) := by decide +kernel
theorem dX8_told_18 : decode cX8_told 18 = .ok (.iload_n 1, 1) := by decide +kernel
theorem dX8_told_19 : decode cX8_told 19 = .ok (.bipush 6, 2) := by decide +kernel
theorem dX8_told_21 : decode cX8_told 21 = .ok (.if_icmp .ge 87, 3) := by decide +kernel
theorem dX8_told_24 : decode cX8_told 24 = .ok (.iload_n 1, 1) := by decide +kernel
theorem dX8_told_25 : decode cX8_told 25 = .ok (.ifCond .ne 21, 3) := by decide +kernel
theorem dX8_told_28 : decode cX8_told 28 = .ok (.aload_n 0, 1) := by decide +kernel
theorem dX8_told_29 : decode cX8_told 29 = .ok (.getfield 133, 3) := by decide +kernel
theorem dX8_told_32 : decode cX8_told 32 = .ok (.ifCond .eq 10, 3) := by decide +kernel
theorem dX8_told_35 : decode cX8_told 35 = .ok (.aload_n 0, 1) := by decide +kernel
theorem dX8_told_36 : decode cX8_told 36 = .ok (.getfield 137, 3) := by decide +kernel
theorem dX8_told_39 : decode cX8_told 39 = .ok (.goto 68, 3) := by decide +kernel
theorem dX8_told_42 : decode cX8_told 42 = .ok (.iconst (-1), 1) := by decide +kernel
theorem dX8_told_43 : decode cX8_told 43 = .ok (.goto 64, 3) := by decide +kernel
theorem dX8_told_46 : decode cX8_told 46 = .ok (.iload_n 1, 1) := by decide +kernel
theorem dX8_told_47 : decode cX8_told 47 = .ok (.iconst 1, 1) := by decide +kernel
theorem dX8_told_48 : decode cX8_told 48 = .ok (.if_icmp .ne 10, 3) := by decide +kernel
theorem dX8_told_51 : decode cX8_told 51 = .ok (.aload_n 0, 1) := by decide +kernel
theorem dX8_told_52 : decode cX8_told 52 = .ok (.getfield 130, 3) := by decide +kernel
theorem dX8_told_55 : decode cX8_told 55 = .ok (.goto 52, 3) := by decide +kernel
theorem dX8_told_58 : decode cX8_told 58 = .ok (.iload_n 1, 1) := by decide +kernel
theorem dX8_told_59 : decode cX8_told 59 = .ok (.iconst 2, 1) := by decide +kernel
theorem dX8_told_60 : decode cX8_told 60 = .ok (.if_icmp .ne 10, 3) := by decide +kernel
theorem dX8_told_63 : decode cX8_told 63 = .ok (.aload_n 0, 1) := by decide +kernel
theorem dX8_told_64 : decode cX8_told 64 = .ok (.getfield 80, 3) := by decide +kernel
theorem dX8_told_67 : decode cX8_told 67 = .ok (.goto 40, 3) := by decide +kernel
theorem dX8_told_70 : decode cX8_told 70 = .ok (.iload_n 1, 1) := by decide +kernel
theorem dX8_told_71 : decode cX8_told 71 = .ok (.iconst 3, 1) := by decide +kernel
theorem dX8_told_72 : decode cX8_told 72 = .ok (.if_icmp .ne 13, 3) := by decide +kernel
theorem dX8_told_75 : decode cX8_told 75 = .ok (.aload_n 0, 1) := by decide +kernel
theorem dX8_told_76 : decode cX8_told 76 = .ok (.getfield 19, 3) := by decide +kernel
theorem dX8_told_79 : decode cX8_told 79 = .ok (.bipush 45, 2) := by decide +kernel
theorem dX8_told_81 : decode cX8_told 81 = .ok (.iaload, 1) := by decide +kernel
theorem dX8_told_82 : decode cX8_told 82 = .ok (.goto 25, 3) := by decide +kernel
theorem dX8_told_85 : decode cX8_told 85 = .ok (.iload_n 1, 1) := by decide +kernel
theorem dX8_told_86 : decode cX8_told 86 = .ok (.iconst 4, 1) := by decide +kernel
theorem dX8_told_87 : decode cX8_told 87 = .ok (.if_icmp .ne 13, 3) := by decide +kernel
theorem dX8_told_90 : decode cX8_told 90 = .ok (.aload_n 0, 1) := by decide +kernel
theorem dX8_told_91 : decode cX8_told 91 = .ok (.getfield 19, 3) := by decide +kernel
theorem dX8_told_94 : decode cX8_told 94 = .ok (.bipush 46, 2) := by decide +kernel
theorem dX8_told_96 : decode cX8_told 96 = .ok (.iaload, 1) := by decide +kernel
theorem dX8_told_97 : decode cX8_told 97 = .ok (.goto 10, 3) := by decide +kernel
theorem dX8_told_100 : decode cX8_told 100 = .ok (.aload_n 0, 1) := by decide +kernel
theorem dX8_told_101 : decode cX8_told 101 = .ok (.getfield 19, 3) := by decide +kernel
theorem dX8_told_104 : decode cX8_told 104 = .ok (.bipush 47, 2) := by decide +kernel
theorem dX8_told_106 : decode cX8_told 106 = .ok (.iaload, 1) := by decide +kernel
theorem dX8_told_107 : decode cX8_told 107 = .ok (.ireturn, 1) := by decide +kernel
theorem dX8_told_108 : decode cX8_told 108 = .ok (.iload_n 1, 1) := by decide +kernel
theorem dX8_told_109 : decode cX8_told 109 = .ok (.bipush 10, 2) := by decide +kernel
theorem dX8_told_111 : decode cX8_told 111 = .ok (.if_icmp .ge 29, 3) := by decide +kernel
theorem dX8_told_114 : decode cX8_told 114 = .ok (.iload_n 1, 1) := by decide +kernel
theorem dX8_told_115 : decode cX8_told 115 = .ok (.bipush 8, 2) := by decide +kernel
theorem dX8_told_117 : decode cX8_told 117 = .ok (.if_icmp .ge 14, 3) := by decide +kernel
theorem dX8_told_120 : decode cX8_told 120 = .ok (.aload_n 0, 1) := by decide +kernel
theorem dX8_told_121 : decode cX8_told 121 = .ok (.iload_n 1, 1) := by decide +kernel
theorem dX8_told_122 : decode cX8_told 122 = .ok (.bipush 6, 2) := by decide +kernel
theorem dX8_told_124 : decode cX8_told 124 = .ok (.isub, 1) := by decide +kernel
theorem dX8_told_125 : decode cX8_told 125 = .ok (.invokevirtual 203, 3) := by decide +kernel
theorem dX8_told_128 : decode cX8_told 128 = .ok (.goto 11, 3) := by decide +kernel
theorem dX8_told_131 : decode cX8_told 131 = .ok (.aload_n 0, 1) := by decide +kernel
theorem dX8_told_132 : decode cX8_told 132 = .ok (.iload_n 1, 1) := by decide +kernel
theorem dX8_told_133 : decode cX8_told 133 = .ok (.bipush 8, 2) := by decide +kernel
theorem dX8_told_135 : decode cX8_told 135 = .ok (.isub, 1) := by decide +kernel
theorem dX8_told_136 : decode cX8_told 136 = .ok (.invokevirtual 206, 3) := by decide +kernel
theorem dX8_told_139 : decode cX8_told 139 = .ok (.ireturn, 1) := by decide +kernel
theorem dX8_told_140 : decode cX8_told 140 = .ok (.iload_n 1, 1) := by decide +kernel
theorem dX8_told_141 : decode cX8_told 141 = .ok (.bipush 10, 2) := by decide +kernel
theorem dX8_told_143 : decode cX8_told 143 = .ok (.if_icmp .ne 10, 3) := by decide +kernel
theorem dX8_told_146 : decode cX8_told 146 = .ok (.aload_n 0, 1) := by decide +kernel
theorem dX8_told_147 : decode cX8_told 147 = .ok (.invokevirtual 209, 3) := by decide +kernel
theorem dX8_told_150 : decode cX8_told 150 = .ok (.goto 33, 3) := by decide +kernel
theorem dX8_told_153 : decode cX8_told 153 = .ok (.iload_n 1, 1) := by decide +kernel
theorem dX8_told_154 : decode cX8_told 154 = .ok (.bipush 11, 2) := by decide +kernel
theorem dX8_told_156 : decode cX8_told 156 = .ok (.if_icmp .ne 10, 3) := by decide +kernel
theorem dX8_told_159 : decode cX8_told 159 = .ok (.aload_n 0, 1) := by decide +kernel
theorem dX8_told_160 : decode cX8_told 160 = .ok (.invokevirtual 213, 3) := by decide +kernel
theorem dX8_told_163 : decode cX8_told 163 = .ok (.goto 20, 3) := by decide +kernel
theorem dX8_told_166 : decode cX8_told 166 = .ok (.iload_n 1, 1) := by decide +kernel
theorem dX8_told_167 : decode cX8_told 167 = .ok (.bipush 12, 2) := by decide +kernel
theorem dX8_told_169 : decode cX8_told 169 = .ok (.if_icmp .ne 10, 3) := by decide +kernel
theorem dX8_told_172 : decode cX8_told 172 = .ok (.aload_n 0, 1) := by decide +kernel
theorem dX8_told_173 : decode cX8_told 173 = .ok (.getfield 140, 3) := by decide +kernel
theorem dX8_told_176 : decode cX8_told 176 = .ok (.goto 7, 3) := by decide +kernel
theorem dX8_told_179 : decode cX8_told 179 = .ok (.aload_n 0, 1) := by decide +kernel
theorem dX8_told_180 : decode cX8_told 180 = .ok (.getfield 143, 3) := by decide +kernel
theorem dX8_told_183 : decode cX8_told 183 = .ok (.ireturn, 1) := by decide +kernel
theorem dX8_firstTaker_0 : decode cX8_firstTaker 0 = .ok (.iload_n 1, 1) := by decide +kernel
theorem dX8_firstTaker_1 : decode cX8_firstTaker 1 = .ok (.istore_n 2, 1) := by decide +kernel
theorem dX8_firstTaker_2 : decode cX8_firstTaker 2 = .ok (.iconst 0, 1) := by decide +kernel
theorem dX8_firstTaker_3 : decode cX8_firstTaker 3 = .ok (.istore_n 3, 1) := by decide +kernel
theorem dX8_firstTaker_4 : decode cX8_firstTaker 4 = .ok (.iload_n 3, 1) := by decide +kernel
theorem dX8_firstTaker_5 : decode cX8_firstTaker 5 = .ok (.bipush 9, 2) := by decide +kernel
theorem dX8_firstTaker_7 : decode cX8_firstTaker 7 = .ok (.if_icmp .ge 32, 3) := by decide +kernel
theorem dX8_firstTaker_10 : decode cX8_firstTaker 10 = .ok (.aload_n 0, 1) := by decide +kernel
theorem dX8_firstTaker_11 : decode cX8_firstTaker 11 = .ok (.getfield 19, 3) := by decide +kernel
theorem dX8_firstTaker_14 : decode cX8_firstTaker 14 = .ok (.bipush 18, 2) := by decide +kernel
theorem dX8_firstTaker_16 : decode cX8_firstTaker 16 = .ok (.iload_n 2, 1) := by decide +kernel
theorem dX8_firstTaker_17 : decode cX8_firstTaker 17 = .ok (.iadd, 1) := by decide +kernel
theorem dX8_firstTaker_18 : decode cX8_firstTaker 18 = .ok (.iaload, 1) := by decide +kernel
theorem dX8_firstTaker_19 : decode cX8_firstTaker 19 = .ok (.iconst (-1), 1) := by decide +kernel
theorem dX8_firstTaker_20 : decode cX8_firstTaker 20 = .ok (.if_icmp .eq 19, 3) := by decide +kernel
theorem dX8_firstTaker_23 : decode cX8_firstTaker 23 = .ok (.aload_n 0, 1) := by decide +kernel
theorem dX8_firstTaker_24 : decode cX8_firstTaker 24 = .ok (.getfield 19, 3) := by decide +kernel
theorem dX8_firstTaker_27 : decode cX8_firstTaker 27 = .ok (.bipush 18, 2) := by decide +kernel
theorem dX8_firstTaker_29 : decode cX8_firstTaker 29 = .ok (.iload_n 2, 1) := by decide +kernel
theorem dX8_firstTaker_30 : decode cX8_firstTaker 30 = .ok (.iadd, 1) := by decide +kernel
theorem dX8_firstTaker_31 : decode cX8_firstTaker 31 = .ok (.iaload, 1) := by decide +kernel
theorem dX8_firstTaker_32 : decode cX8_firstTaker 32 = .ok (.istore_n 2, 1) := by decide +kernel
theorem dX8_firstTaker_33 : decode cX8_firstTaker 33 = .ok (.iinc 3 1, 3) := by decide +kernel
theorem dX8_firstTaker_36 : decode cX8_firstTaker 36 = .ok (.goto (-32), 3) := by decide +kernel
theorem dX8_firstTaker_39 : decode cX8_firstTaker 39 = .ok (.iload_n 2, 1) := by decide +kernel
theorem dX8_firstTaker_40 : decode cX8_firstTaker 40 = .ok (.ireturn, 1) := by decide +kernel
theorem dX8_skittle_0 : decode cX8_skittle 0 = .ok (.aload_n 0, 1) := by decide +kernel
theorem dX8_skittle_1 : decode cX8_skittle 1 = .ok (.iconst 0, 1) := by decide +kernel
theorem dX8_skittle_2 : decode cX8_skittle 2 = .ok (.putfield 72, 3) := by decide +kernel
theorem dX8_skittle_5 : decode cX8_skittle 5 = .ok (.aload_n 0, 1) := by decide +kernel
theorem dX8_skittle_6 : decode cX8_skittle 6 = .ok (.iload_n 1, 1) := by decide +kernel
theorem dX8_skittle_7 : decode cX8_skittle 7 = .ok (.invokevirtual 216, 3) := by decide +kernel
theorem dX8_skittle_10 : decode cX8_skittle 10 = .ok (.ifCond .ne 6, 3) := by decide +kernel
theorem dX8_skittle_13 : decode cX8_skittle 13 = .ok (.ldc 220, 2) := by decide +kernel
theorem dX8_skittle_15 : decode cX8_skittle 15 = .ok (.ireturn, 1) := by decide +kernel
theorem dX8_skittle_16 : decode cX8_skittle 16 = .ok (.iload_n 2, 1) := by decide +kernel
theorem dX8_skittle_17 : decode cX8_skittle 17 = .ok (.iconst 0, 1) := by decide +kernel
theorem dX8_skittle_18 : decode cX8_skittle 18 = .ok (.bipush 8, 2) := by decide +kernel
theorem dX8_skittle_20 : decode cX8_skittle 20 = .ok (.invokestatic 75, 3) := by decide +kernel
theorem dX8_skittle_23 : decode cX8_skittle 23 = .ok (.ifCond .ne 6, 3) := by decide +kernel
theorem dX8_skittle_26 : decode cX8_skittle 26 = .ok (.ldc 79, 2) := by decide +kernel
theorem dX8_skittle_28 : decode cX8_skittle 28 = .ok (.ireturn, 1) := by decide +kernel
theorem dX8_skittle_29 : decode cX8_skittle 29 = .ok (.iload_n 2, 1) := by decide +kernel
theorem dX8_skittle_30 : decode cX8_skittle 30 = .ok (.iconst 4, 1) := by decide +kernel
theorem dX8_skittle_31 : decode cX8_skittle 31 = .ok (.if_icmp .ge 59, 3) := by decide +kernel
theorem dX8_skittle_34 : decode cX8_skittle 34 = .ok (.iload_n 2, 1) := by decide +kernel
theorem dX8_skittle_35 : decode cX8_skittle 35 = .ok (.ifCond .ne 15, 3) := by decide +kernel
theorem dX8_skittle_38 : decode cX8_skittle 38 = .ok (.aload_n 0, 1) := by decide +kernel
theorem dX8_skittle_39 : decode cX8_skittle 39 = .ok (.getfield 19, 3) := by decide +kernel
theorem dX8_skittle_42 : decode cX8_skittle 42 = .ok (.bipush 27, 2) := by decide +kernel
theorem dX8_skittle_44 : decode cX8_skittle 44 = .ok (.iload_n 1, 1) := by decide +kernel
theorem dX8_skittle_45 : decode cX8_skittle 45 = .ok (.iadd, 1) := by decide +kernel
theorem dX8_skittle_46 : decode cX8_skittle 46 = .ok (.iaload, 1) := by decide +kernel
theorem dX8_skittle_47 : decode cX8_skittle 47 = .ok (.goto 42, 3) := by decide +kernel
theorem dX8_skittle_50 : decode cX8_skittle 50 = .ok (.iload_n 2, 1) := by decide +kernel
theorem dX8_skittle_51 : decode cX8_skittle 51 = .ok (.iconst 1, 1) := by decide +kernel
theorem dX8_skittle_52 : decode cX8_skittle 52 = .ok (.if_icmp .ne 12, 3) := by decide +kernel
theorem dX8_skittle_55 : decode cX8_skittle 55 = .ok (.aload_n 0, 1) := by decide +kernel
theorem dX8_skittle_56 : decode cX8_skittle 56 = .ok (.getfield 16, 3) := by decide +kernel
theorem dX8_skittle_59 : decode cX8_skittle 59 = .ok (.iload_n 1, 1) := by decide +kernel
theorem dX8_skittle_60 : decode cX8_skittle 60 = .ok (.iaload, 1) := by decide +kernel
theorem dX8_skittle_61 : decode cX8_skittle 61 = .ok (.goto 28, 3) := by decide +kernel
theorem dX8_skittle_64 : decode cX8_skittle 64 = .ok (.iload_n 2, 1) := by decide +kernel
theorem dX8_skittle_65 : decode cX8_skittle 65 = .ok (.iconst 2, 1) := by decide +kernel
theorem dX8_skittle_66 : decode cX8_skittle 66 = .ok (.if_icmp .ne 15, 3) := by decide +kernel
theorem dX8_skittle_69 : decode cX8_skittle 69 = .ok (.aload_n 0, 1) := by decide +kernel
theorem dX8_skittle_70 : decode cX8_skittle 70 = .ok (.getfield 19, 3) := by decide +kernel
theorem dX8_skittle_73 : decode cX8_skittle 73 = .ok (.bipush 36, 2) := by decide +kernel
theorem dX8_skittle_75 : decode cX8_skittle 75 = .ok (.iload_n 1, 1) := by decide +kernel
theorem dX8_skittle_76 : decode cX8_skittle 76 = .ok (.iadd, 1) := by decide +kernel
theorem dX8_skittle_77 : decode cX8_skittle 77 = .ok (.iaload, 1) := by decide +kernel
theorem dX8_skittle_78 : decode cX8_skittle 78 = .ok (.goto 11, 3) := by decide +kernel
theorem dX8_skittle_81 : decode cX8_skittle 81 = .ok (.aload_n 0, 1) := by decide +kernel
theorem dX8_skittle_82 : decode cX8_skittle 82 = .ok (.getfield 19, 3) := by decide +kernel
theorem dX8_skittle_85 : decode cX8_skittle 85 = .ok (.iconst 0, 1) := by decide +kernel
theorem dX8_skittle_86 : decode cX8_skittle 86 = .ok (.iload_n 1, 1) := by decide +kernel
theorem dX8_skittle_87 : decode cX8_skittle 87 = .ok (.iadd, 1) := by decide +kernel
theorem dX8_skittle_88 : decode cX8_skittle 88 = .ok (.iaload, 1) := by decide +kernel
theorem dX8_skittle_89 : decode cX8_skittle 89 = .ok (.ireturn, 1) := by decide +kernel
theorem dX8_skittle_90 : decode cX8_skittle 90 = .ok (.iload_n 2, 1) := by decide +kernel
theorem dX8_skittle_91 : decode cX8_skittle 91 = .ok (.bipush 7, 2) := by decide +kernel
theorem dX8_skittle_93 : decode cX8_skittle 93 = .ok (.if_icmp .ge 49, 3) := by decide +kernel
theorem dX8_skittle_96 : decode cX8_skittle 96 = .ok (.iload_n 2, 1) := by decide +kernel
theorem dX8_skittle_97 : decode cX8_skittle 97 = .ok (.iconst 4, 1) := by decide +kernel
theorem dX8_skittle_98 : decode cX8_skittle 98 = .ok (.if_icmp .ne 17, 3) := by decide +kernel
theorem dX8_skittle_101 : decode cX8_skittle 101 = .ok (.aload_n 0, 1) := by decide +kernel
theorem dX8_skittle_102 : decode cX8_skittle 102 = .ok (.getfield 19, 3) := by decide +kernel
theorem dX8_skittle_105 : decode cX8_skittle 105 = .ok (.bipush 45, 2) := by decide +kernel
theorem dX8_skittle_107 : decode cX8_skittle 107 = .ok (.iaload, 1) := by decide +kernel
theorem dX8_skittle_108 : decode cX8_skittle 108 = .ok (.iload_n 1, 1) := by decide +kernel
theorem dX8_skittle_109 : decode cX8_skittle 109 = .ok (.ishr, 1) := by decide +kernel
theorem dX8_skittle_110 : decode cX8_skittle 110 = .ok (.iconst 1, 1) := by decide +kernel
theorem dX8_skittle_111 : decode cX8_skittle 111 = .ok (.iand, 1) := by decide +kernel
theorem dX8_skittle_112 : decode cX8_skittle 112 = .ok (.goto 29, 3) := by decide +kernel
theorem dX8_skittle_115 : decode cX8_skittle 115 = .ok (.iload_n 2, 1) := by decide +kernel
theorem dX8_skittle_116 : decode cX8_skittle 116 = .ok (.iconst 5, 1) := by decide +kernel
theorem dX8_skittle_117 : decode cX8_skittle 117 = .ok (.if_icmp .ne 15, 3) := by decide +kernel
theorem dX8_skittle_120 : decode cX8_skittle 120 = .ok (.aload_n 0, 1) := by decide +kernel
theorem dX8_skittle_121 : decode cX8_skittle 121 = .ok (.getfield 19, 3) := by decide +kernel
theorem dX8_skittle_124 : decode cX8_skittle 124 = .ok (.bipush 9, 2) := by decide +kernel
theorem dX8_skittle_126 : decode cX8_skittle 126 = .ok (.iload_n 1, 1) := by decide +kernel
theorem dX8_skittle_127 : decode cX8_skittle 127 = .ok (.iadd, 1) := by decide +kernel
theorem dX8_skittle_128 : decode cX8_skittle 128 = .ok (.iaload, 1) := by decide +kernel
theorem dX8_skittle_129 : decode cX8_skittle 129 = .ok (.goto 12, 3) := by decide +kernel
theorem dX8_skittle_132 : decode cX8_skittle 132 = .ok (.aload_n 0, 1) := by decide +kernel
theorem dX8_skittle_133 : decode cX8_skittle 133 = .ok (.getfield 19, 3) := by decide +kernel
theorem dX8_skittle_136 : decode cX8_skittle 136 = .ok (.bipush 18, 2) := by decide +kernel
theorem dX8_skittle_138 : decode cX8_skittle 138 = .ok (.iload_n 1, 1) := by decide +kernel
theorem dX8_skittle_139 : decode cX8_skittle 139 = .ok (.iadd, 1) := by decide +kernel
theorem dX8_skittle_140 : decode cX8_skittle 140 = .ok (.iaload, 1) := by decide +kernel
theorem dX8_skittle_141 : decode cX8_skittle 141 = .ok (.ireturn, 1) := by decide +kernel
theorem dX8_skittle_142 : decode cX8_skittle 142 = .ok (.iload_n 2, 1) := by decide +kernel
theorem dX8_skittle_143 : decode cX8_skittle 143 = .ok (.bipush 7, 2) := by decide +kernel
theorem dX8_skittle_145 : decode cX8_skittle 145 = .ok (.if_icmp .ne 11, 3) := by decide +kernel
theorem dX8_skittle_148 : decode cX8_skittle 148 = .ok (.aload_n 0, 1) := by decide +kernel
theorem dX8_skittle_149 : decode cX8_skittle 149 = .ok (.iload_n 1, 1) := by decide +kernel
theorem dX8_skittle_150 : decode cX8_skittle 150 = .ok (.invokevirtual 221, 3) := by decide +kernel
theorem dX8_skittle_153 : decode cX8_skittle 153 = .ok (.goto 16, 3) := by decide +kernel
theorem dX8_skittle_156 : decode cX8_skittle 156 = .ok (.aload_n 0, 1) := by decide +kernel
theorem dX8_skittle_157 : decode cX8_skittle 157 = .ok (.iload_n 1, 1) := by decide +kernel
theorem dX8_skittle_158 : decode cX8_skittle 158 = .ok (.aload_n 0, 1) := by decide +kernel
theorem dX8_skittle_159 : decode cX8_skittle 159 = .ok (.getfield 19, 3) := by decide +kernel
theorem dX8_skittle_162 : decode cX8_skittle 162 = .ok (.iconst 0, 1) := by decide +kernel
theorem dX8_skittle_163 : decode cX8_skittle 163 = .ok (.iload_n 1, 1) := by decide +kernel
theorem dX8_skittle_164 : decode cX8_skittle 164 = .ok (.iadd, 1) := by decide +kernel
theorem dX8_skittle_165 : decode cX8_skittle 165 = .ok (.iaload, 1) := by decide +kernel
theorem dX8_skittle_166 : decode cX8_skittle 166 = .ok (.invokevirtual 152, 3) := by decide +kernel
theorem dX8_skittle_169 : decode cX8_skittle 169 = .ok (.ireturn, 1) := by decide +kernel
theorem dX8_whoOn_0 : decode cX8_whoOn 0 = .ok (.iconst (-1), 1) := by decide +kernel
theorem dX8_whoOn_1 : decode cX8_whoOn 1 = .ok (.istore_n 2, 1) := by decide +kernel
theorem dX8_whoOn_2 : decode cX8_whoOn 2 = .ok (.iconst 0, 1) := by decide +kernel
theorem dX8_whoOn_3 : decode cX8_whoOn 3 = .ok (.istore_n 3, 1) := by decide +kernel
theorem dX8_whoOn_4 : decode cX8_whoOn 4 = .ok (.iload_n 3, 1) := by decide +kernel
theorem dX8_whoOn_5 : decode cX8_whoOn 5 = .ok (.aload_n 0, 1) := by decide +kernel
theorem dX8_whoOn_6 : decode cX8_whoOn 6 = .ok (.getfield 130, 3) := by decide +kernel
theorem dX8_whoOn_9 : decode cX8_whoOn 9 = .ok (.if_icmp .ge 27, 3) := by decide +kernel
theorem dX8_whoOn_12 : decode cX8_whoOn 12 = .ok (.aload_n 0, 1) := by decide +kernel
theorem dX8_whoOn_13 : decode cX8_whoOn 13 = .ok (.getfield 19, 3) := by decide +kernel
theorem dX8_whoOn_16 : decode cX8_whoOn 16 = .ok (.iconst 0, 1) := by decide +kernel
theorem dX8_whoOn_17 : decode cX8_whoOn 17 = .ok (.iload_n 3, 1) := by decide +kernel
theorem dX8_whoOn_18 : decode cX8_whoOn 18 = .ok (.iadd, 1) := by decide +kernel
theorem dX8_whoOn_19 : decode cX8_whoOn 19 = .ok (.iaload, 1) := by decide +kernel
theorem dX8_whoOn_20 : decode cX8_whoOn 20 = .ok (.iload_n 1, 1) := by decide +kernel
theorem dX8_whoOn_21 : decode cX8_whoOn 21 = .ok (.if_icmp .ne 7, 3) := by decide +kernel
theorem dX8_whoOn_24 : decode cX8_whoOn 24 = .ok (.iload_n 3, 1) := by decide +kernel
theorem dX8_whoOn_25 : decode cX8_whoOn 25 = .ok (.goto 4, 3) := by decide +kernel
theorem dX8_whoOn_28 : decode cX8_whoOn 28 = .ok (.iload_n 2, 1) := by decide +kernel
theorem dX8_whoOn_29 : decode cX8_whoOn 29 = .ok (.istore_n 2, 1) := by decide +kernel
theorem dX8_whoOn_30 : decode cX8_whoOn 30 = .ok (.iinc 3 1, 3) := by decide +kernel
theorem dX8_whoOn_33 : decode cX8_whoOn 33 = .ok (.goto (-29), 3) := by decide +kernel
theorem dX8_whoOn_36 : decode cX8_whoOn 36 = .ok (.iload_n 2, 1) := by decide +kernel
theorem dX8_whoOn_37 : decode cX8_whoOn 37 = .ok (.ireturn, 1) := by decide +kernel
theorem dX8_plate_0 : decode cX8_plate 0 = .ok (.aload_n 0, 1) := by decide +kernel
theorem dX8_plate_1 : decode cX8_plate 1 = .ok (.iconst 0, 1) := by decide +kernel
theorem dX8_plate_2 : decode cX8_plate 2 = .ok (.putfield 72, 3) := by decide +kernel
theorem dX8_plate_5 : decode cX8_plate 5 = .ok (.iload_n 1, 1) := by decide +kernel
theorem dX8_plate_6 : decode cX8_plate 6 = .ok (.invokestatic 224, 3) := by decide +kernel
theorem dX8_plate_9 : decode cX8_plate 9 = .ok (.ifCond .eq 11, 3) := by decide +kernel
theorem dX8_plate_12 : decode cX8_plate 12 = .ok (.aload_n 0, 1) := by decide +kernel
theorem dX8_plate_13 : decode cX8_plate 13 = .ok (.iload_n 1, 1) := by decide +kernel
theorem dX8_plate_14 : decode cX8_plate 14 = .ok (.invokevirtual 227, 3) := by decide +kernel
theorem dX8_plate_17 : decode cX8_plate 17 = .ok (.goto 5, 3) := by decide +kernel
theorem dX8_plate_20 : decode cX8_plate 20 = .ok (.ldc 220, 2) := by decide +kernel
theorem dX8_plate_22 : decode cX8_plate 22 = .ok (.ireturn, 1) := by decide +kernel
theorem dX8_notes_0 : decode cX8_notes 0 = .ok (.aload_n 0, 1) := by decide +kernel
theorem dX8_notes_1 : decode cX8_notes 1 = .ok (.getfield 143, 3) := by decide +kernel
theorem dX8_notes_4 : decode cX8_notes 4 = .ok (.bipush 16, 2) := by decide +kernel
theorem dX8_notes_6 : decode cX8_notes 6 = .ok (.if_icmp .ne 39, 3) := by decide +kernel
theorem dX8_notes_9 : decode cX8_notes 9 = .ok (.iconst 0, 1) := by decide +kernel
theorem dX8_notes_10 : decode cX8_notes 10 = .ok (.istore_n 1, 1) := by decide +kernel
theorem dX8_notes_11 : decode cX8_notes 11 = .ok (.iload_n 1, 1) := by decide +kernel
theorem dX8_notes_12 : decode cX8_notes 12 = .ok (.sipush 735, 3) := by decide +kernel
theorem dX8_notes_15 : decode cX8_notes 15 = .ok (.if_icmp .ge 24, 3) := by decide +kernel
theorem dX8_notes_18 : decode cX8_notes 18 = .ok (.aload_n 0, 1) := by decide +kernel
theorem dX8_notes_19 : decode cX8_notes 19 = .ok (.getfield 29, 3) := by decide +kernel
theorem dX8_notes_22 : decode cX8_notes 22 = .ok (.iload_n 1, 1) := by decide +kernel
theorem dX8_notes_23 : decode cX8_notes 23 = .ok (.aload_n 0, 1) := by decide +kernel
theorem dX8_notes_24 : decode cX8_notes 24 = .ok (.getfield 29, 3) := by decide +kernel
theorem dX8_notes_27 : decode cX8_notes 27 = .ok (.iload_n 1, 1) := by decide +kernel
theorem dX8_notes_28 : decode cX8_notes 28 = .ok (.bipush 49, 2) := by decide +kernel
theorem dX8_notes_30 : decode cX8_notes 30 = .ok (.iadd, 1) := by decide +kernel
theorem dX8_notes_31 : decode cX8_notes 31 = .ok (.iaload, 1) := by decide +kernel
theorem dX8_notes_32 : decode cX8_notes 32 = .ok (.iastore, 1) := by decide +kernel
theorem dX8_notes_33 : decode cX8_notes 33 = .ok (.iinc 1 1, 3) := by decide +kernel
theorem dX8_notes_36 : decode cX8_notes 36 = .ok (.goto (-25), 3) := by decide +kernel
theorem dX8_notes_39 : decode cX8_notes 39 = .ok (.aload_n 0, 1) := by decide +kernel
theorem dX8_notes_40 : decode cX8_notes 40 = .ok (.bipush 15, 2) := by decide +kernel
theorem dX8_notes_42 : decode cX8_notes 42 = .ok (.putfield 143, 3) := by decide +kernel
theorem dX8_notes_45 : decode cX8_notes 45 = .ok (.iconst 0, 1) := by decide +kernel
theorem dX8_notes_46 : decode cX8_notes 46 = .ok (.istore_n 1, 1) := by decide +kernel
theorem dX8_notes_47 : decode cX8_notes 47 = .ok (.iload_n 1, 1) := by decide +kernel
theorem dX8_notes_48 : decode cX8_notes 48 = .ok (.bipush 49, 2) := by decide +kernel
theorem dX8_notes_50 : decode cX8_notes 50 = .ok (.if_icmp .ge 29, 3) := by decide +kernel
theorem dX8_notes_53 : decode cX8_notes 53 = .ok (.aload_n 0, 1) := by decide +kernel
theorem dX8_notes_54 : decode cX8_notes 54 = .ok (.getfield 29, 3) := by decide +kernel
theorem dX8_notes_57 : decode cX8_notes 57 = .ok (.bipush 49, 2) := by decide +kernel
theorem dX8_notes_59 : decode cX8_notes 59 = .ok (.aload_n 0, 1) := by decide +kernel
theorem dX8_notes_60 : decode cX8_notes 60 = .ok (.getfield 143, 3) := by decide +kernel
theorem dX8_notes_63 : decode cX8_notes 63 = .ok (.imul, 1) := by decide +kernel
theorem dX8_notes_64 : decode cX8_notes 64 = .ok (.iload_n 1, 1) := by decide +kernel
theorem dX8_notes_65 : decode cX8_notes 65 = .ok (.iadd, 1) := by decide +kernel
theorem dX8_notes_66 : decode cX8_notes 66 = .ok (.aload_n 0, 1) := by decide +kernel
theorem dX8_notes_67 : decode cX8_notes 67 = .ok (.getfield 19, 3) := by decide +kernel
theorem dX8_notes_70 : decode cX8_notes 70 = .ok (.iload_n 1, 1) := by decide +kernel
theorem dX8_notes_71 : decode cX8_notes 71 = .ok (.iaload, 1) := by decide +kernel
theorem dX8_notes_72 : decode cX8_notes 72 = .ok (.iastore, 1) := by decide +kernel
theorem dX8_notes_73 : decode cX8_notes 73 = .ok (.iinc 1 1, 3) := by decide +kernel
theorem dX8_notes_76 : decode cX8_notes 76 = .ok (.goto (-29), 3) := by decide +kernel
theorem dX8_notes_79 : decode cX8_notes 79 = .ok (.aload_n 0, 1) := by decide +kernel
theorem dX8_notes_80 : decode cX8_notes 80 = .ok (.dup, 1) := by decide +kernel
theorem dX8_notes_81 : decode cX8_notes 81 = .ok (.getfield 143, 3) := by decide +kernel
theorem dX8_notes_84 : decode cX8_notes 84 = .ok (.iconst 1, 1) := by decide +kernel
theorem dX8_notes_85 : decode cX8_notes 85 = .ok (.iadd, 1) := by decide +kernel
theorem dX8_notes_86 : decode cX8_notes 86 = .ok (.putfield 143, 3) := by decide +kernel
theorem dX8_notes_89 : decode cX8_notes 89 = .ok (.return_, 1) := by decide +kernel
theorem dX8_throwsBall_0 : decode cX8_throwsBall 0 = .ok (.aload_n 0, 1) := by decide +kernel
theorem dX8_throwsBall_1 : decode cX8_throwsBall 1 = .ok (.iconst 0, 1) := by decide +kernel
theorem dX8_throwsBall_2 : decode cX8_throwsBall 2 = .ok (.iconst 0, 1) := by decide +kernel
theorem dX8_throwsBall_3 : decode cX8_throwsBall 3 = .ok (.invokevirtual 188, 3) := by decide +kernel
theorem dX8_throwsBall_6 : decode cX8_throwsBall 6 = .ok (.aload_n 0, 1) := by decide +kernel
theorem dX8_throwsBall_7 : decode cX8_throwsBall 7 = .ok (.getfield 130, 3) := by decide +kernel
theorem dX8_throwsBall_10 : decode cX8_throwsBall 10 = .ok (.bipush 9, 2) := by decide +kernel
theorem dX8_throwsBall_12 : decode cX8_throwsBall 12 = .ok (.if_icmp .ne 20, 3) := by decide +kernel
theorem dX8_throwsBall_15 : decode cX8_throwsBall 15 = .ok (.aload_n 0, 1) := by decide +kernel
theorem dX8_throwsBall_16 : decode cX8_throwsBall 16 = .ok (.getfield 19, 3) := by decide +kernel
theorem dX8_throwsBall_19 : decode cX8_throwsBall 19 = .ok (.bipush 45, 2) := by decide +kernel
theorem dX8_throwsBall_21 : decode cX8_throwsBall 21 = .ok (.iaload, 1) := by decide +kernel
theorem dX8_throwsBall_22 : decode cX8_throwsBall 22 = .ok (.sipush 511, 3) := by decide +kernel
theorem dX8_throwsBall_25 : decode cX8_throwsBall 25 = .ok (.if_icmp .ne 7, 3) := by decide +kernel
theorem dX8_throwsBall_28 : decode cX8_throwsBall 28 = .ok (.iconst 1, 1) := by decide +kernel
theorem dX8_throwsBall_29 : decode cX8_throwsBall 29 = .ok (.goto 4, 3) := by decide +kernel
theorem dX8_throwsBall_32 : decode cX8_throwsBall 32 = .ok (.iconst 0, 1) := by decide +kernel
theorem dX8_throwsBall_33 : decode cX8_throwsBall 33 = .ok (.istore 4, 2) := by decide +kernel
theorem dX8_throwsBall_35 : decode cX8_throwsBall 35 = .ok (.aload_n 0, 1) := by decide +kernel
theorem dX8_throwsBall_36 : decode cX8_throwsBall 36 = .ok (.aload_n 0, 1) := by decide +kernel
theorem dX8_throwsBall_37 : decode cX8_throwsBall 37 = .ok (.getfield 19, 3) := by decide +kernel
theorem dX8_throwsBall_40 : decode cX8_throwsBall 40 = .ok (.bipush 45, 2) := by decide +kernel
theorem dX8_throwsBall_42 : decode cX8_throwsBall 42 = .ok (.iaload, 1) := by decide +kernel
theorem dX8_throwsBall_43 : decode cX8_throwsBall 43 = .ok (.iload_n 1, 1) := by decide +kernel
theorem dX8_throwsBall_44 : decode cX8_throwsBall 44 = .ok (.iload_n 2, 1) := by decide +kernel
theorem dX8_throwsBall_45 : decode cX8_throwsBall 45 = .ok (.iload_n 3, 1) := by decide +kernel
theorem dX8_throwsBall_46 : decode cX8_throwsBall 46 = .ok (.invokevirtual 184, 3) := by decide +kernel
theorem dX8_throwsBall_49 : decode cX8_throwsBall 49 = .ok (.istore 5, 2) := by decide +kernel
theorem dX8_throwsBall_51 : decode cX8_throwsBall 51 = .ok (.aload_n 0, 1) := by decide +kernel
theorem dX8_throwsBall_52 : decode cX8_throwsBall 52 = .ok (.getfield 19, 3) := by decide +kernel
theorem dX8_throwsBall_55 : decode cX8_throwsBall 55 = .ok (.bipush 45, 2) := by decide +kernel
theorem dX8_throwsBall_57 : decode cX8_throwsBall 57 = .ok (.aload_n 0, 1) := by decide +kernel
theorem dX8_throwsBall_58 : decode cX8_throwsBall 58 = .ok (.getfield 158, 3) := by decide +kernel
theorem dX8_throwsBall_61 : decode cX8_throwsBall 61 = .ok (.iastore, 1) := by decide +kernel
theorem dX8_throwsBall_62 : decode cX8_throwsBall 62 = .ok (.iconst 0, 1) := by decide +kernel
theorem dX8_throwsBall_63 : decode cX8_throwsBall 63 = .ok (.istore 6, 2) := by decide +kernel
theorem dX8_throwsBall_65 : decode cX8_throwsBall 65 = .ok (.iload 6, 2) := by decide +kernel
theorem dX8_throwsBall_67 : decode cX8_throwsBall 67 = .ok (.bipush 9, 2) := by decide +kernel
theorem dX8_throwsBall_69 : decode cX8_throwsBall 69 = .ok (.if_icmp .ge 97, 3) := by decide +kernel
theorem dX8_throwsBall_72 : decode cX8_throwsBall 72 = .ok (.aload_n 0, 1) := by decide +kernel
theorem dX8_throwsBall_73 : decode cX8_throwsBall 73 = .ok (.getfield 19, 3) := by decide +kernel
theorem dX8_throwsBall_76 : decode cX8_throwsBall 76 = .ok (.bipush 9, 2) := by decide +kernel
theorem dX8_throwsBall_78 : decode cX8_throwsBall 78 = .ok (.iload 6, 2) := by decide +kernel
theorem dX8_throwsBall_80 : decode cX8_throwsBall 80 = .ok (.iadd, 1) := by decide +kernel
theorem dX8_throwsBall_81 : decode cX8_throwsBall 81 = .ok (.iaload, 1) := by decide +kernel
theorem dX8_throwsBall_82 : decode cX8_throwsBall 82 = .ok (.aload_n 0, 1) := by decide +kernel
theorem dX8_throwsBall_83 : decode cX8_throwsBall 83 = .ok (.getfield 44, 3) := by decide +kernel
theorem dX8_throwsBall_86 : decode cX8_throwsBall 86 = .ok (.iload 6, 2) := by decide +kernel
theorem dX8_throwsBall_88 : decode cX8_throwsBall 88 = .ok (.iaload, 1) := by decide +kernel
theorem dX8_throwsBall_89 : decode cX8_throwsBall 89 = .ok (.iadd, 1) := by decide +kernel
theorem dX8_throwsBall_90 : decode cX8_throwsBall 90 = .ok (.istore 7, 2) := by decide +kernel
theorem dX8_throwsBall_92 : decode cX8_throwsBall 92 = .ok (.aload_n 0, 1) := by decide +kernel
theorem dX8_throwsBall_93 : decode cX8_throwsBall 93 = .ok (.getfield 19, 3) := by decide +kernel
theorem dX8_throwsBall_96 : decode cX8_throwsBall 96 = .ok (.bipush 9, 2) := by decide +kernel
theorem dX8_throwsBall_98 : decode cX8_throwsBall 98 = .ok (.iload 6, 2) := by decide +kernel
theorem dX8_throwsBall_100 : decode cX8_throwsBall 100 = .ok (.iadd, 1) := by decide +kernel
theorem dX8_throwsBall_101 : decode cX8_throwsBall 101 = .ok (.iload 7, 2) := by decide +kernel
theorem dX8_throwsBall_103 : decode cX8_throwsBall 103 = .ok (.sipush 9999, 3) := by decide +kernel
theorem dX8_throwsBall_106 : decode cX8_throwsBall 106 = .ok (.if_icmp .le 9, 3) := by decide +kernel
theorem dX8_throwsBall_109 : decode cX8_throwsBall 109 = .ok (.sipush 9999, 3) := by decide +kernel
theorem dX8_throwsBall_112 : decode cX8_throwsBall 112 = .ok (.goto 5, 3) := by decide +kernel
theorem dX8_throwsBall_115 : decode cX8_throwsBall 115 = .ok (.iload 7, 2) := by decide +kernel
theorem dX8_throwsBall_117 : decode cX8_throwsBall 117 = .ok (.iastore, 1) := by decide +kernel
theorem dX8_throwsBall_118 : decode cX8_throwsBall 118 = .ok (.aload_n 0, 1) := by decide +kernel
theorem dX8_throwsBall_119 : decode cX8_throwsBall 119 = .ok (.getfield 19, 3) := by decide +kernel
theorem dX8_throwsBall_122 : decode cX8_throwsBall 122 = .ok (.bipush 18, 2) := by decide +kernel
theorem dX8_throwsBall_124 : decode cX8_throwsBall 124 = .ok (.iload 6, 2) := by decide +kernel
theorem dX8_throwsBall_126 : decode cX8_throwsBall 126 = .ok (.iadd, 1) := by decide +kernel
theorem dX8_throwsBall_127 : decode cX8_throwsBall 127 = .ok (.aload_n 0, 1) := by decide +kernel
theorem dX8_throwsBall_128 : decode cX8_throwsBall 128 = .ok (.getfield 47, 3) := by decide +kernel
theorem dX8_throwsBall_131 : decode cX8_throwsBall 131 = .ok (.iload 6, 2) := by decide +kernel
theorem dX8_throwsBall_133 : decode cX8_throwsBall 133 = .ok (.iaload, 1) := by decide +kernel
theorem dX8_throwsBall_134 : decode cX8_throwsBall 134 = .ok (.bipush (-2), 2) := by decide +kernel
theorem dX8_throwsBall_136 : decode cX8_throwsBall 136 = .ok (.if_icmp .ne 16, 3) := by decide +kernel
theorem dX8_throwsBall_139 : decode cX8_throwsBall 139 = .ok (.aload_n 0, 1) := by decide +kernel
theorem dX8_throwsBall_140 : decode cX8_throwsBall 140 = .ok (.getfield 19, 3) := by decide +kernel
theorem dX8_throwsBall_143 : decode cX8_throwsBall 143 = .ok (.bipush 18, 2) := by decide +kernel
theorem dX8_throwsBall_145 : decode cX8_throwsBall 145 = .ok (.iload 6, 2) := by decide +kernel
theorem dX8_throwsBall_147 : decode cX8_throwsBall 147 = .ok (.iadd, 1) := by decide +kernel
theorem dX8_throwsBall_148 : decode cX8_throwsBall 148 = .ok (.iaload, 1) := by decide +kernel
theorem dX8_throwsBall_149 : decode cX8_throwsBall 149 = .ok (.goto 10, 3) := by decide +kernel
theorem dX8_throwsBall_152 : decode cX8_throwsBall 152 = .ok (.aload_n 0, 1) := by decide +kernel
theorem dX8_throwsBall_153 : decode cX8_throwsBall 153 = .ok (.getfield 47, 3) := by decide +kernel
theorem dX8_throwsBall_156 : decode cX8_throwsBall 156 = .ok (.iload 6, 2) := by decide +kernel
theorem dX8_throwsBall_158 : decode cX8_throwsBall 158 = .ok (.iaload, 1) := by decide +kernel
theorem dX8_throwsBall_159 : decode cX8_throwsBall 159 = .ok (.iastore, 1) := by decide +kernel
theorem dX8_throwsBall_160 : decode cX8_throwsBall 160 = .ok (.iinc 6 1, 3) := by decide +kernel
theorem dX8_throwsBall_163 : decode cX8_throwsBall 163 = .ok (.goto (-98), 3) := by decide +kernel
theorem dX8_throwsBall_166 : decode cX8_throwsBall 166 = .ok (.aload_n 0, 1) := by decide +kernel
theorem dX8_throwsBall_167 : decode cX8_throwsBall 167 = .ok (.getfield 19, 3) := by decide +kernel
theorem dX8_throwsBall_170 : decode cX8_throwsBall 170 = .ok (.bipush 46, 2) := by decide +kernel
theorem dX8_throwsBall_172 : decode cX8_throwsBall 172 = .ok (.dup2, 1) := by decide +kernel
theorem dX8_throwsBall_173 : decode cX8_throwsBall 173 = .ok (.iaload, 1) := by decide +kernel
theorem dX8_throwsBall_174 : decode cX8_throwsBall 174 = .ok (.iconst 1, 1) := by decide +kernel
theorem dX8_throwsBall_175 : decode cX8_throwsBall 175 = .ok (.iadd, 1) := by decide +kernel
theorem dX8_throwsBall_176 : decode cX8_throwsBall 176 = .ok (.iastore, 1) := by decide +kernel
theorem dX8_throwsBall_177 : decode cX8_throwsBall 177 = .ok (.aload_n 0, 1) := by decide +kernel
theorem dX8_throwsBall_178 : decode cX8_throwsBall 178 = .ok (.getfield 19, 3) := by decide +kernel
theorem dX8_throwsBall_181 : decode cX8_throwsBall 181 = .ok (.bipush 47, 2) := by decide +kernel
theorem dX8_throwsBall_183 : decode cX8_throwsBall 183 = .ok (.dup2, 1) := by decide +kernel
theorem dX8_throwsBall_184 : decode cX8_throwsBall 184 = .ok (.iaload, 1) := by decide +kernel
theorem dX8_throwsBall_185 : decode cX8_throwsBall 185 = .ok (.iload 4, 2) := by decide +kernel
theorem dX8_throwsBall_187 : decode cX8_throwsBall 187 = .ok (.ifCond .eq 15, 3) := by decide +kernel
theorem dX8_throwsBall_190 : decode cX8_throwsBall 190 = .ok (.iload 5, 2) := by decide +kernel
theorem dX8_throwsBall_192 : decode cX8_throwsBall 192 = .ok (.sipush 511, 3) := by decide +kernel
theorem dX8_throwsBall_195 : decode cX8_throwsBall 195 = .ok (.if_icmp .ne 7, 3) := by decide +kernel
theorem dX8_throwsBall_198 : decode cX8_throwsBall 198 = .ok (.iconst 1, 1) := by decide +kernel
theorem dX8_throwsBall_199 : decode cX8_throwsBall 199 = .ok (.goto 4, 3) := by decide +kernel
theorem dX8_throwsBall_202 : decode cX8_throwsBall 202 = .ok (.iconst 0, 1) := by decide +kernel
theorem dX8_throwsBall_203 : decode cX8_throwsBall 203 = .ok (.iadd, 1) := by decide +kernel
theorem dX8_throwsBall_204 : decode cX8_throwsBall 204 = .ok (.iastore, 1) := by decide +kernel
theorem dX8_throwsBall_205 : decode cX8_throwsBall 205 = .ok (.iload 5, 2) := by decide +kernel
theorem dX8_throwsBall_207 : decode cX8_throwsBall 207 = .ok (.ireturn, 1) := by decide +kernel
theorem dX8_ball_0 : decode cX8_ball 0 = .ok (.aload_n 0, 1) := by decide +kernel
theorem dX8_ball_1 : decode cX8_ball 1 = .ok (.iconst 0, 1) := by decide +kernel
theorem dX8_ball_2 : decode cX8_ball 2 = .ok (.putfield 72, 3) := by decide +kernel
theorem dX8_ball_5 : decode cX8_ball 5 = .ok (.aload_n 0, 1) := by decide +kernel
theorem dX8_ball_6 : decode cX8_ball 6 = .ok (.iload_n 1, 1) := by decide +kernel
theorem dX8_ball_7 : decode cX8_ball 7 = .ok (.iload_n 2, 1) := by decide +kernel
theorem dX8_ball_8 : decode cX8_ball 8 = .ok (.iload_n 3, 1) := by decide +kernel
theorem dX8_ball_9 : decode cX8_ball 9 = .ok (.invokevirtual 230, 3) := by decide +kernel
theorem dX8_ball_12 : decode cX8_ball 12 = .ok (.ifCond .ne 6, 3) := by decide +kernel
theorem dX8_ball_15 : decode cX8_ball 15 = .ok (.ldc 79, 2) := by decide +kernel
theorem dX8_ball_17 : decode cX8_ball 17 = .ok (.ireturn, 1) := by decide +kernel
theorem dX8_ball_18 : decode cX8_ball 18 = .ok (.aload_n 0, 1) := by decide +kernel
theorem dX8_ball_19 : decode cX8_ball 19 = .ok (.getfield 133, 3) := by decide +kernel
theorem dX8_ball_22 : decode cX8_ball 22 = .ok (.ifCond .ne 6, 3) := by decide +kernel
theorem dX8_ball_25 : decode cX8_ball 25 = .ok (.ldc 233, 2) := by decide +kernel
theorem dX8_ball_27 : decode cX8_ball 27 = .ok (.ireturn, 1) := by decide +kernel
theorem dX8_ball_28 : decode cX8_ball 28 = .ok (.aload_n 0, 1) := by decide +kernel
theorem dX8_ball_29 : decode cX8_ball 29 = .ok (.invokevirtual 234, 3) := by decide +kernel
theorem dX8_ball_32 : decode cX8_ball 32 = .ok (.aload_n 0, 1) := by decide +kernel
theorem dX8_ball_33 : decode cX8_ball 33 = .ok (.iload_n 1, 1) := by decide +kernel
theorem dX8_ball_34 : decode cX8_ball 34 = .ok (.iload_n 2, 1) := by decide +kernel
theorem dX8_ball_35 : decode cX8_ball 35 = .ok (.iload_n 3, 1) := by decide +kernel
theorem dX8_ball_36 : decode cX8_ball 36 = .ok (.invokevirtual 237, 3) := by decide +kernel
theorem dX8_ball_39 : decode cX8_ball 39 = .ok (.ireturn, 1) := by decide +kernel
theorem dX8_setUp_0 : decode cX8_setUp 0 = .ok (.aload_n 0, 1) := by decide +kernel
theorem dX8_setUp_1 : decode cX8_setUp 1 = .ok (.iconst 0, 1) := by decide +kernel
theorem dX8_setUp_2 : decode cX8_setUp 2 = .ok (.putfield 72, 3) := by decide +kernel
theorem dX8_setUp_5 : decode cX8_setUp 5 = .ok (.aload_n 0, 1) := by decide +kernel
theorem dX8_setUp_6 : decode cX8_setUp 6 = .ok (.getfield 133, 3) := by decide +kernel
theorem dX8_setUp_9 : decode cX8_setUp 9 = .ok (.ifCond .ne 6, 3) := by decide +kernel
theorem dX8_setUp_12 : decode cX8_setUp 12 = .ok (.ldc 233, 2) := by decide +kernel
theorem dX8_setUp_14 : decode cX8_setUp 14 = .ok (.ireturn, 1) := by decide +kernel
theorem dX8_setUp_15 : decode cX8_setUp 15 = .ok (.aload_n 0, 1) := by decide +kernel
theorem dX8_setUp_16 : decode cX8_setUp 16 = .ok (.invokevirtual 234, 3) := by decide +kernel
theorem dX8_setUp_19 : decode cX8_setUp 19 = .ok (.aload_n 0, 1) := by decide +kernel
theorem dX8_setUp_20 : decode cX8_setUp 20 = .ok (.getfield 130, 3) := by decide +kernel
theorem dX8_setUp_23 : decode cX8_setUp 23 = .ok (.aload_n 0, 1) := by decide +kernel
theorem dX8_setUp_24 : decode cX8_setUp 24 = .ok (.getfield 19, 3) := by decide +kernel
theorem dX8_setUp_27 : decode cX8_setUp 27 = .ok (.bipush 45, 2) := by decide +kernel
theorem dX8_setUp_29 : decode cX8_setUp 29 = .ok (.iaload, 1) := by decide +kernel
theorem dX8_setUp_30 : decode cX8_setUp 30 = .ok (.invokestatic 194, 3) := by decide +kernel
theorem dX8_setUp_33 : decode cX8_setUp 33 = .ok (.isub, 1) := by decide +kernel
theorem dX8_setUp_34 : decode cX8_setUp 34 = .ok (.istore_n 1, 1) := by decide +kernel
theorem dX8_setUp_35 : decode cX8_setUp 35 = .ok (.aload_n 0, 1) := by decide +kernel
theorem dX8_setUp_36 : decode cX8_setUp 36 = .ok (.getfield 19, 3) := by decide +kernel
theorem dX8_setUp_39 : decode cX8_setUp 39 = .ok (.bipush 45, 2) := by decide +kernel
theorem dX8_setUp_41 : decode cX8_setUp 41 = .ok (.iconst 1, 1) := by decide +kernel
theorem dX8_setUp_42 : decode cX8_setUp 42 = .ok (.aload_n 0, 1) := by decide +kernel
theorem dX8_setUp_43 : decode cX8_setUp 43 = .ok (.getfield 130, 3) := by decide +kernel
theorem dX8_setUp_46 : decode cX8_setUp 46 = .ok (.ishl, 1) := by decide +kernel
theorem dX8_setUp_47 : decode cX8_setUp 47 = .ok (.iconst 1, 1) := by decide +kernel
theorem dX8_setUp_48 : decode cX8_setUp 48 = .ok (.isub, 1) := by decide +kernel
theorem dX8_setUp_49 : decode cX8_setUp 49 = .ok (.iastore, 1) := by decide +kernel
theorem dX8_setUp_50 : decode cX8_setUp 50 = .ok (.iload_n 1, 1) := by decide +kernel
theorem dX8_setUp_51 : decode cX8_setUp 51 = .ok (.ireturn, 1) := by decide +kernel
theorem dX8_lift_0 : decode cX8_lift 0 = .ok (.aload_n 0, 1) := by decide +kernel
theorem dX8_lift_1 : decode cX8_lift 1 = .ok (.iconst 0, 1) := by decide +kernel
theorem dX8_lift_2 : decode cX8_lift 2 = .ok (.putfield 72, 3) := by decide +kernel
theorem dX8_lift_5 : decode cX8_lift 5 = .ok (.aload_n 0, 1) := by decide +kernel
theorem dX8_lift_6 : decode cX8_lift 6 = .ok (.iload_n 1, 1) := by decide +kernel
theorem dX8_lift_7 : decode cX8_lift 7 = .ok (.invokevirtual 216, 3) := by decide +kernel
theorem dX8_lift_10 : decode cX8_lift 10 = .ok (.ifCond .ne 6, 3) := by decide +kernel
theorem dX8_lift_13 : decode cX8_lift 13 = .ok (.ldc 220, 2) := by decide +kernel
theorem dX8_lift_15 : decode cX8_lift 15 = .ok (.ireturn, 1) := by decide +kernel
theorem dX8_lift_16 : decode cX8_lift 16 = .ok (.aload_n 0, 1) := by decide +kernel
theorem dX8_lift_17 : decode cX8_lift 17 = .ok (.getfield 19, 3) := by decide +kernel
theorem dX8_lift_20 : decode cX8_lift 20 = .ok (.bipush 45, 2) := by decide +kernel
theorem dX8_lift_22 : decode cX8_lift 22 = .ok (.iaload, 1) := by decide +kernel
theorem dX8_lift_23 : decode cX8_lift 23 = .ok (.iload_n 1, 1) := by decide +kernel
theorem dX8_lift_24 : decode cX8_lift 24 = .ok (.invokestatic 170, 3) := by decide +kernel
theorem dX8_lift_27 : decode cX8_lift 27 = .ok (.ifCond .eq 6, 3) := by decide +kernel
theorem dX8_lift_30 : decode cX8_lift 30 = .ok (.ldc 233, 2) := by decide +kernel
theorem dX8_lift_32 : decode cX8_lift 32 = .ok (.ireturn, 1) := by decide +kernel
theorem dX8_lift_33 : decode cX8_lift 33 = .ok (.aload_n 0, 1) := by decide +kernel
theorem dX8_lift_34 : decode cX8_lift 34 = .ok (.invokevirtual 234, 3) := by decide +kernel
theorem dX8_lift_37 : decode cX8_lift 37 = .ok (.aload_n 0, 1) := by decide +kernel
theorem dX8_lift_38 : decode cX8_lift 38 = .ok (.getfield 19, 3) := by decide +kernel
theorem dX8_lift_41 : decode cX8_lift 41 = .ok (.bipush 45, 2) := by decide +kernel
theorem dX8_lift_43 : decode cX8_lift 43 = .ok (.dup2, 1) := by decide +kernel
theorem dX8_lift_44 : decode cX8_lift 44 = .ok (.iaload, 1) := by decide +kernel
theorem dX8_lift_45 : decode cX8_lift 45 = .ok (.iconst 1, 1) := by decide +kernel
theorem dX8_lift_46 : decode cX8_lift 46 = .ok (.iload_n 1, 1) := by decide +kernel
theorem dX8_lift_47 : decode cX8_lift 47 = .ok (.ishl, 1) := by decide +kernel
theorem dX8_lift_48 : decode cX8_lift 48 = .ok (.ior, 1) := by decide +kernel
theorem dX8_lift_49 : decode cX8_lift 49 = .ok (.iastore, 1) := by decide +kernel
theorem dX8_lift_50 : decode cX8_lift 50 = .ok (.aload_n 0, 1) := by decide +kernel
theorem dX8_lift_51 : decode cX8_lift 51 = .ok (.getfield 19, 3) := by decide +kernel
theorem dX8_lift_54 : decode cX8_lift 54 = .ok (.bipush 45, 2) := by decide +kernel
theorem dX8_lift_56 : decode cX8_lift 56 = .ok (.iaload, 1) := by decide +kernel
theorem dX8_lift_57 : decode cX8_lift 57 = .ok (.invokestatic 194, 3) := by decide +kernel
theorem dX8_lift_60 : decode cX8_lift 60 = .ok (.ireturn, 1) := by decide +kernel
theorem dX8_changes_0 : decode cX8_changes 0 = .ok (.aload_n 0, 1) := by decide +kernel
theorem dX8_changes_1 : decode cX8_changes 1 = .ok (.iload_n 1, 1) := by decide +kernel
theorem dX8_changes_2 : decode cX8_changes 2 = .ok (.invokevirtual 227, 3) := by decide +kernel
theorem dX8_changes_5 : decode cX8_changes 5 = .ok (.istore_n 3, 1) := by decide +kernel
theorem dX8_changes_6 : decode cX8_changes 6 = .ok (.aload_n 0, 1) := by decide +kernel
theorem dX8_changes_7 : decode cX8_changes 7 = .ok (.iload_n 2, 1) := by decide +kernel
theorem dX8_changes_8 : decode cX8_changes 8 = .ok (.invokevirtual 227, 3) := by decide +kernel
theorem dX8_changes_11 : decode cX8_changes 11 = .ok (.istore 4, 2) := by decide +kernel
theorem dX8_changes_13 : decode cX8_changes 13 = .ok (.iload_n 3, 1) := by decide +kernel
theorem dX8_changes_14 : decode cX8_changes 14 = .ok (.iconst (-1), 1) := by decide +kernel
theorem dX8_changes_15 : decode cX8_changes 15 = .ok (.if_icmp .eq 12, 3) := by decide +kernel
theorem dX8_changes_18 : decode cX8_changes 18 = .ok (.aload_n 0, 1) := by decide +kernel
theorem dX8_changes_19 : decode cX8_changes 19 = .ok (.getfield 19, 3) := by decide +kernel
theorem dX8_changes_22 : decode cX8_changes 22 = .ok (.iconst 0, 1) := by decide +kernel
theorem dX8_changes_23 : decode cX8_changes 23 = .ok (.iload_n 3, 1) := by decide +kernel
theorem dX8_changes_24 : decode cX8_changes 24 = .ok (.iadd, 1) := by decide +kernel
theorem dX8_changes_25 : decode cX8_changes 25 = .ok (.iload_n 2, 1) := by decide +kernel
theorem dX8_changes_26 : decode cX8_changes 26 = .ok (.iastore, 1) := by decide +kernel
theorem dX8_changes_27 : decode cX8_changes 27 = .ok (.iload 4, 2) := by decide +kernel
theorem dX8_changes_29 : decode cX8_changes 29 = .ok (.iconst (-1), 1) := by decide +kernel
theorem dX8_changes_30 : decode cX8_changes 30 = .ok (.if_icmp .eq 13, 3) := by decide +kernel
theorem dX8_changes_33 : decode cX8_changes 33 = .ok (.aload_n 0, 1) := by decide +kernel
theorem dX8_changes_34 : decode cX8_changes 34 = .ok (.getfield 19, 3) := by decide +kernel
theorem dX8_changes_37 : decode cX8_changes 37 = .ok (.iconst 0, 1) := by decide +kernel
theorem dX8_changes_38 : decode cX8_changes 38 = .ok (.iload 4, 2) := by decide +kernel
theorem dX8_changes_40 : decode cX8_changes 40 = .ok (.iadd, 1) := by decide +kernel
theorem dX8_changes_41 : decode cX8_changes 41 = .ok (.iload_n 1, 1) := by decide +kernel
theorem dX8_changes_42 : decode cX8_changes 42 = .ok (.iastore, 1) := by decide +kernel
theorem dX8_changes_43 : decode cX8_changes 43 = .ok (.return_, 1) := by decide +kernel
theorem dX8_change_0 : decode cX8_change 0 = .ok (.aload_n 0, 1) := by decide +kernel
theorem dX8_change_1 : decode cX8_change 1 = .ok (.iconst 0, 1) := by decide +kernel
theorem dX8_change_2 : decode cX8_change 2 = .ok (.putfield 72, 3) := by decide +kernel
theorem dX8_change_5 : decode cX8_change 5 = .ok (.iload_n 1, 1) := by decide +kernel
theorem dX8_change_6 : decode cX8_change 6 = .ok (.invokestatic 224, 3) := by decide +kernel
theorem dX8_change_9 : decode cX8_change 9 = .ok (.ifCond .eq 15, 3) := by decide +kernel
theorem dX8_change_12 : decode cX8_change 12 = .ok (.iload_n 2, 1) := by decide +kernel
theorem dX8_change_13 : decode cX8_change 13 = .ok (.invokestatic 224, 3) := by decide +kernel
theorem dX8_change_16 : decode cX8_change 16 = .ok (.ifCond .eq 8, 3) := by decide +kernel
theorem dX8_change_19 : decode cX8_change 19 = .ok (.iload_n 1, 1) := by decide +kernel
theorem dX8_change_20 : decode cX8_change 20 = .ok (.iload_n 2, 1) := by decide +kernel
theorem dX8_change_21 : decode cX8_change 21 = .ok (.if_icmp .ne 6, 3) := by decide +kernel
theorem dX8_change_24 : decode cX8_change 24 = .ok (.ldc 220, 2) := by decide +kernel
theorem dX8_change_26 : decode cX8_change 26 = .ok (.ireturn, 1) := by decide +kernel
theorem dX8_change_27 : decode cX8_change 27 = .ok (.aload_n 0, 1) := by decide +kernel
theorem dX8_change_28 : decode cX8_change 28 = .ok (.invokevirtual 234, 3) := by decide +kernel
theorem dX8_change_31 : decode cX8_change 31 = .ok (.aload_n 0, 1) := by decide +kernel
theorem dX8_change_32 : decode cX8_change 32 = .ok (.iload_n 1, 1) := by decide +kernel
theorem dX8_change_33 : decode cX8_change 33 = .ok (.iload_n 2, 1) := by decide +kernel
theorem dX8_change_34 : decode cX8_change 34 = .ok (.invokevirtual 241, 3) := by decide +kernel
theorem dX8_change_37 : decode cX8_change 37 = .ok (.aload_n 0, 1) := by decide +kernel
theorem dX8_change_38 : decode cX8_change 38 = .ok (.iload_n 1, 1) := by decide +kernel
theorem dX8_change_39 : decode cX8_change 39 = .ok (.invokevirtual 227, 3) := by decide +kernel
theorem dX8_change_42 : decode cX8_change 42 = .ok (.ireturn, 1) := by decide +kernel
theorem dX8_chip_0 : decode cX8_chip 0 = .ok (.aload_n 0, 1) := by decide +kernel
theorem dX8_chip_1 : decode cX8_chip 1 = .ok (.iconst 0, 1) := by decide +kernel
theorem dX8_chip_2 : decode cX8_chip 2 = .ok (.putfield 72, 3) := by decide +kernel
theorem dX8_chip_5 : decode cX8_chip 5 = .ok (.aload_n 0, 1) := by decide +kernel
theorem dX8_chip_6 : decode cX8_chip 6 = .ok (.iload_n 1, 1) := by decide +kernel
theorem dX8_chip_7 : decode cX8_chip 7 = .ok (.invokevirtual 216, 3) := by decide +kernel
theorem dX8_chip_10 : decode cX8_chip 10 = .ok (.ifCond .ne 6, 3) := by decide +kernel
theorem dX8_chip_13 : decode cX8_chip 13 = .ok (.ldc 220, 2) := by decide +kernel
theorem dX8_chip_15 : decode cX8_chip 15 = .ok (.ireturn, 1) := by decide +kernel
theorem dX8_chip_16 : decode cX8_chip 16 = .ok (.iload_n 2, 1) := by decide +kernel
theorem dX8_chip_17 : decode cX8_chip 17 = .ok (.iconst 0, 1) := by decide +kernel
theorem dX8_chip_18 : decode cX8_chip 18 = .ok (.bipush 9, 2) := by decide +kernel
theorem dX8_chip_20 : decode cX8_chip 20 = .ok (.invokestatic 75, 3) := by decide +kernel
theorem dX8_chip_23 : decode cX8_chip 23 = .ok (.ifCond .ne 6, 3) := by decide +kernel
theorem dX8_chip_26 : decode cX8_chip 26 = .ok (.ldc 79, 2) := by decide +kernel
theorem dX8_chip_28 : decode cX8_chip 28 = .ok (.ireturn, 1) := by decide +kernel
theorem dX8_chip_29 : decode cX8_chip 29 = .ok (.aload_n 0, 1) := by decide +kernel
theorem dX8_chip_30 : decode cX8_chip 30 = .ok (.invokevirtual 234, 3) := by decide +kernel
theorem dX8_chip_33 : decode cX8_chip 33 = .ok (.aload_n 0, 1) := by decide +kernel
theorem dX8_chip_34 : decode cX8_chip 34 = .ok (.getfield 19, 3) := by decide +kernel
theorem dX8_chip_37 : decode cX8_chip 37 = .ok (.bipush 36, 2) := by decide +kernel
theorem dX8_chip_39 : decode cX8_chip 39 = .ok (.iload_n 1, 1) := by decide +kernel
theorem dX8_chip_40 : decode cX8_chip 40 = .ok (.iadd, 1) := by decide +kernel
theorem dX8_chip_41 : decode cX8_chip 41 = .ok (.iaload, 1) := by decide +kernel
theorem dX8_chip_42 : decode cX8_chip 42 = .ok (.istore_n 3, 1) := by decide +kernel
theorem dX8_chip_43 : decode cX8_chip 43 = .ok (.aload_n 0, 1) := by decide +kernel
theorem dX8_chip_44 : decode cX8_chip 44 = .ok (.getfield 19, 3) := by decide +kernel
theorem dX8_chip_47 : decode cX8_chip 47 = .ok (.bipush 36, 2) := by decide +kernel
theorem dX8_chip_49 : decode cX8_chip 49 = .ok (.iload_n 1, 1) := by decide +kernel
theorem dX8_chip_50 : decode cX8_chip 50 = .ok (.iadd, 1) := by decide +kernel
theorem dX8_chip_51 : decode cX8_chip 51 = .ok (.iload_n 2, 1) := by decide +kernel
theorem dX8_chip_52 : decode cX8_chip 52 = .ok (.iastore, 1) := by decide +kernel
theorem dX8_chip_53 : decode cX8_chip 53 = .ok (.iload_n 3, 1) := by decide +kernel
theorem dX8_chip_54 : decode cX8_chip 54 = .ok (.ireturn, 1) := by decide +kernel
theorem dX8_replace_0 : decode cX8_replace 0 = .ok (.aload_n 0, 1) := by decide +kernel
theorem dX8_replace_1 : decode cX8_replace 1 = .ok (.iconst 0, 1) := by decide +kernel
theorem dX8_replace_2 : decode cX8_replace 2 = .ok (.putfield 72, 3) := by decide +kernel
theorem dX8_replace_5 : decode cX8_replace 5 = .ok (.aload_n 0, 1) := by decide +kernel
theorem dX8_replace_6 : decode cX8_replace 6 = .ok (.iload_n 1, 1) := by decide +kernel
theorem dX8_replace_7 : decode cX8_replace 7 = .ok (.invokevirtual 216, 3) := by decide +kernel
theorem dX8_replace_10 : decode cX8_replace 10 = .ok (.ifCond .ne 6, 3) := by decide +kernel
theorem dX8_replace_13 : decode cX8_replace 13 = .ok (.ldc 220, 2) := by decide +kernel
theorem dX8_replace_15 : decode cX8_replace 15 = .ok (.ireturn, 1) := by decide +kernel
theorem dX8_replace_16 : decode cX8_replace 16 = .ok (.aload_n 0, 1) := by decide +kernel
theorem dX8_replace_17 : decode cX8_replace 17 = .ok (.getfield 19, 3) := by decide +kernel
theorem dX8_replace_20 : decode cX8_replace 20 = .ok (.bipush 27, 2) := by decide +kernel
theorem dX8_replace_22 : decode cX8_replace 22 = .ok (.iload_n 1, 1) := by decide +kernel
theorem dX8_replace_23 : decode cX8_replace 23 = .ok (.iadd, 1) := by decide +kernel
theorem dX8_replace_24 : decode cX8_replace 24 = .ok (.iaload, 1) := by decide +kernel
theorem dX8_replace_25 : decode cX8_replace 25 = .ok (.istore_n 2, 1) := by decide +kernel
theorem dX8_replace_26 : decode cX8_replace 26 = .ok (.iload_n 2, 1) := by decide +kernel
theorem dX8_replace_27 : decode cX8_replace 27 = .ok (.iconst 3, 1) := by decide +kernel
theorem dX8_replace_28 : decode cX8_replace 28 = .ok (.if_icmp .ne 6, 3) := by decide +kernel
theorem dX8_replace_31 : decode cX8_replace 31 = .ok (.ldc 233, 2) := by decide +kernel
theorem dX8_replace_33 : decode cX8_replace 33 = .ok (.ireturn, 1) := by decide +kernel
theorem dX8_replace_34 : decode cX8_replace 34 = .ok (.aload_n 0, 1) := by decide +kernel
theorem dX8_replace_35 : decode cX8_replace 35 = .ok (.invokevirtual 234, 3) := by decide +kernel
theorem dX8_replace_38 : decode cX8_replace 38 = .ok (.aload_n 0, 1) := by decide +kernel
theorem dX8_replace_39 : decode cX8_replace 39 = .ok (.getfield 19, 3) := by decide +kernel
theorem dX8_replace_42 : decode cX8_replace 42 = .ok (.bipush 27, 2) := by decide +kernel
theorem dX8_replace_44 : decode cX8_replace 44 = .ok (.iload_n 1, 1) := by decide +kernel
theorem dX8_replace_45 : decode cX8_replace 45 = .ok (.iadd, 1) := by decide +kernel
theorem dX8_replace_46 : decode cX8_replace 46 = .ok (.iconst 3, 1) := by decide +kernel
theorem dX8_replace_47 : decode cX8_replace 47 = .ok (.iastore, 1) := by decide +kernel
theorem dX8_replace_48 : decode cX8_replace 48 = .ok (.iload_n 2, 1) := by decide +kernel
theorem dX8_replace_49 : decode cX8_replace 49 = .ok (.ireturn, 1) := by decide +kernel
theorem dX8_draw_0 : decode cX8_draw 0 = .ok (.aload_n 0, 1) := by decide +kernel
theorem dX8_draw_1 : decode cX8_draw 1 = .ok (.getfield 19, 3) := by decide +kernel
theorem dX8_draw_4 : decode cX8_draw 4 = .ok (.bipush 48, 2) := by decide +kernel
theorem dX8_draw_6 : decode cX8_draw 6 = .ok (.iaload, 1) := by decide +kernel
theorem dX8_draw_7 : decode cX8_draw 7 = .ok (.i2l, 1) := by decide +kernel
theorem dX8_draw_8 : decode cX8_draw 8 = .ok (.lstore_n 2, 1) := by decide +kernel
theorem dX8_draw_9 : decode cX8_draw 9 = .ok (.lload_n 2, 1) := by decide +kernel
theorem dX8_draw_10 : decode cX8_draw 10 = .ok (.ldc2_w 244, 3) := by decide +kernel
theorem dX8_draw_13 : decode cX8_draw 13 = .ok (.lmul, 1) := by decide +kernel
theorem dX8_draw_14 : decode cX8_draw 14 = .ok (.ldc2_w 246, 3) := by decide +kernel
theorem dX8_draw_17 : decode cX8_draw 17 = .ok (.ladd, 1) := by decide +kernel
theorem dX8_draw_18 : decode cX8_draw 18 = .ok (.ldc2_w 248, 3) := by decide +kernel
theorem dX8_draw_21 : decode cX8_draw 21 = .ok (.lrem, 1) := by decide +kernel
theorem dX8_draw_22 : decode cX8_draw 22 = .ok (.lstore_n 2, 1) := by decide +kernel
theorem dX8_draw_23 : decode cX8_draw 23 = .ok (.aload_n 0, 1) := by decide +kernel
theorem dX8_draw_24 : decode cX8_draw 24 = .ok (.getfield 19, 3) := by decide +kernel
theorem dX8_draw_27 : decode cX8_draw 27 = .ok (.bipush 48, 2) := by decide +kernel
theorem dX8_draw_29 : decode cX8_draw 29 = .ok (.lload_n 2, 1) := by decide +kernel
theorem dX8_draw_30 : decode cX8_draw 30 = .ok (.l2i, 1) := by decide +kernel
theorem dX8_draw_31 : decode cX8_draw 31 = .ok (.iastore, 1) := by decide +kernel
theorem dX8_draw_32 : decode cX8_draw 32 = .ok (.aload_n 0, 1) := by decide +kernel
theorem dX8_draw_33 : decode cX8_draw 33 = .ok (.getfield 19, 3) := by decide +kernel
theorem dX8_draw_36 : decode cX8_draw 36 = .ok (.bipush 48, 2) := by decide +kernel
theorem dX8_draw_38 : decode cX8_draw 38 = .ok (.iaload, 1) := by decide +kernel
theorem dX8_draw_39 : decode cX8_draw 39 = .ok (.ldc 250, 2) := by decide +kernel
theorem dX8_draw_41 : decode cX8_draw 41 = .ok (.idiv, 1) := by decide +kernel
theorem dX8_draw_42 : decode cX8_draw 42 = .ok (.iload_n 1, 1) := by decide +kernel
theorem dX8_draw_43 : decode cX8_draw 43 = .ok (.irem, 1) := by decide +kernel
theorem dX8_draw_44 : decode cX8_draw 44 = .ok (.ireturn, 1) := by decide +kernel
theorem dX8_drift_0 : decode cX8_drift 0 = .ok (.aload_n 0, 1) := by decide +kernel
theorem dX8_drift_1 : decode cX8_drift 1 = .ok (.iconst 0, 1) := by decide +kernel
theorem dX8_drift_2 : decode cX8_drift 2 = .ok (.putfield 72, 3) := by decide +kernel
theorem dX8_drift_5 : decode cX8_drift 5 = .ok (.iload_n 1, 1) := by decide +kernel
theorem dX8_drift_6 : decode cX8_drift 6 = .ok (.iconst 1, 1) := by decide +kernel
theorem dX8_drift_7 : decode cX8_drift 7 = .ok (.bipush 30, 2) := by decide +kernel
theorem dX8_drift_9 : decode cX8_drift 9 = .ok (.invokestatic 75, 3) := by decide +kernel
theorem dX8_drift_12 : decode cX8_drift 12 = .ok (.ifCond .ne 6, 3) := by decide +kernel
theorem dX8_drift_15 : decode cX8_drift 15 = .ok (.ldc 79, 2) := by decide +kernel
theorem dX8_drift_17 : decode cX8_drift 17 = .ok (.ireturn, 1) := by decide +kernel
theorem dX8_drift_18 : decode cX8_drift 18 = .ok (.aload_n 0, 1) := by decide +kernel
theorem dX8_drift_19 : decode cX8_drift 19 = .ok (.getfield 133, 3) := by decide +kernel
theorem dX8_drift_22 : decode cX8_drift 22 = .ok (.ifCond .ne 6, 3) := by decide +kernel
theorem dX8_drift_25 : decode cX8_drift 25 = .ok (.ldc 233, 2) := by decide +kernel
theorem dX8_drift_27 : decode cX8_drift 27 = .ok (.ireturn, 1) := by decide +kernel
theorem dX8_drift_28 : decode cX8_drift 28 = .ok (.aload_n 0, 1) := by decide +kernel
theorem dX8_drift_29 : decode cX8_drift 29 = .ok (.invokevirtual 234, 3) := by decide +kernel
theorem dX8_drift_32 : decode cX8_drift 32 = .ok (.iconst 0, 1) := by decide +kernel
theorem dX8_drift_33 : decode cX8_drift 33 = .ok (.istore_n 2, 1) := by decide +kernel
theorem dX8_drift_34 : decode cX8_drift 34 = .ok (.iload_n 2, 1) := by decide +kernel
theorem dX8_drift_35 : decode cX8_drift 35 = .ok (.iload_n 1, 1) := by decide +kernel
theorem dX8_drift_36 : decode cX8_drift 36 = .ok (.if_icmp .ge 112, 3) := by decide +kernel
theorem dX8_drift_39 : decode cX8_drift 39 = .ok (.aload_n 0, 1) := by decide +kernel
theorem dX8_drift_40 : decode cX8_drift 40 = .ok (.iconst 4, 1) := by decide +kernel
theorem dX8_drift_41 : decode cX8_drift 41 = .ok (.invokevirtual 251, 3) := by decide +kernel
theorem dX8_drift_44 : decode cX8_drift 44 = .ok (.istore_n 3, 1) := by decide +kernel
theorem dX8_drift_45 : decode cX8_drift 45 = .ok (.iload_n 3, 1) := by decide +kernel
theorem dX8_drift_46 : decode cX8_drift 46 = .ok (.iconst 2, 1) := by decide +kernel
theorem dX8_drift_47 : decode cX8_drift 47 = .ok (.if_icmp .ge 41, 3) := by decide +kernel
theorem dX8_drift_50 : decode cX8_drift 50 = .ok (.aload_n 0, 1) := by decide +kernel
theorem dX8_drift_51 : decode cX8_drift 51 = .ok (.iconst 5, 1) := by decide +kernel
theorem dX8_drift_52 : decode cX8_drift 52 = .ok (.invokevirtual 251, 3) := by decide +kernel
theorem dX8_drift_55 : decode cX8_drift 55 = .ok (.istore 4, 2) := by decide +kernel
theorem dX8_drift_57 : decode cX8_drift 57 = .ok (.aload_n 0, 1) := by decide +kernel
theorem dX8_drift_58 : decode cX8_drift 58 = .ok (.iconst 3, 1) := by decide +kernel
theorem dX8_drift_59 : decode cX8_drift 59 = .ok (.invokevirtual 251, 3) := by decide +kernel
theorem dX8_drift_62 : decode cX8_drift 62 = .ok (.istore 5, 2) := by decide +kernel
theorem dX8_drift_64 : decode cX8_drift 64 = .ok (.iconst 1, 1) := by decide +kernel
theorem dX8_drift_65 : decode cX8_drift 65 = .ok (.aload_n 0, 1) := by decide +kernel
theorem dX8_drift_66 : decode cX8_drift 66 = .ok (.bipush 40, 2) := by decide +kernel
theorem dX8_drift_68 : decode cX8_drift 68 = .ok (.invokevirtual 251, 3) := by decide +kernel
theorem dX8_drift_71 : decode cX8_drift 71 = .ok (.iadd, 1) := by decide +kernel
theorem dX8_drift_72 : decode cX8_drift 72 = .ok (.istore 6, 2) := by decide +kernel
theorem dX8_drift_74 : decode cX8_drift 74 = .ok (.aload_n 0, 1) := by decide +kernel
theorem dX8_drift_75 : decode cX8_drift 75 = .ok (.iload 4, 2) := by decide +kernel
theorem dX8_drift_77 : decode cX8_drift 77 = .ok (.iload 5, 2) := by decide +kernel
theorem dX8_drift_79 : decode cX8_drift 79 = .ok (.iload 6, 2) := by decide +kernel
theorem dX8_drift_81 : decode cX8_drift 81 = .ok (.invokevirtual 237, 3) := by decide +kernel
theorem dX8_drift_84 : decode cX8_drift 84 = .ok (.pop, 1) := by decide +kernel
theorem dX8_drift_85 : decode cX8_drift 85 = .ok (.goto 57, 3) := by decide +kernel
theorem dX8_drift_88 : decode cX8_drift 88 = .ok (.iload_n 3, 1) := by decide +kernel
theorem dX8_drift_89 : decode cX8_drift 89 = .ok (.iconst 2, 1) := by decide +kernel
theorem dX8_drift_90 : decode cX8_drift 90 = .ok (.if_icmp .ne 21, 3) := by decide +kernel
theorem dX8_drift_93 : decode cX8_drift 93 = .ok (.aload_n 0, 1) := by decide +kernel
theorem dX8_drift_94 : decode cX8_drift 94 = .ok (.getfield 19, 3) := by decide +kernel
theorem dX8_drift_97 : decode cX8_drift 97 = .ok (.bipush 45, 2) := by decide +kernel
theorem dX8_drift_99 : decode cX8_drift 99 = .ok (.iconst 1, 1) := by decide +kernel
theorem dX8_drift_100 : decode cX8_drift 100 = .ok (.aload_n 0, 1) := by decide +kernel
theorem dX8_drift_101 : decode cX8_drift 101 = .ok (.getfield 130, 3) := by decide +kernel
theorem dX8_drift_104 : decode cX8_drift 104 = .ok (.ishl, 1) := by decide +kernel
theorem dX8_drift_105 : decode cX8_drift 105 = .ok (.iconst 1, 1) := by decide +kernel
theorem dX8_drift_106 : decode cX8_drift 106 = .ok (.isub, 1) := by decide +kernel
theorem dX8_drift_107 : decode cX8_drift 107 = .ok (.iastore, 1) := by decide +kernel
theorem dX8_drift_108 : decode cX8_drift 108 = .ok (.goto 34, 3) := by decide +kernel
theorem dX8_drift_111 : decode cX8_drift 111 = .ok (.aload_n 0, 1) := by decide +kernel
theorem dX8_drift_112 : decode cX8_drift 112 = .ok (.bipush 9, 2) := by decide +kernel
theorem dX8_drift_114 : decode cX8_drift 114 = .ok (.invokevirtual 251, 3) := by decide +kernel
theorem dX8_drift_117 : decode cX8_drift 117 = .ok (.istore 4, 2) := by decide +kernel
theorem dX8_drift_119 : decode cX8_drift 119 = .ok (.aload_n 0, 1) := by decide +kernel
theorem dX8_drift_120 : decode cX8_drift 120 = .ok (.bipush 9, 2) := by decide +kernel
theorem dX8_drift_122 : decode cX8_drift 122 = .ok (.invokevirtual 251, 3) := by decide +kernel
theorem dX8_drift_125 : decode cX8_drift 125 = .ok (.istore 5, 2) := by decide +kernel
theorem dX8_drift_127 : decode cX8_drift 127 = .ok (.iload 4, 2) := by decide +kernel
theorem dX8_drift_129 : decode cX8_drift 129 = .ok (.iload 5, 2) := by decide +kernel
theorem dX8_drift_131 : decode cX8_drift 131 = .ok (.if_icmp .eq 11, 3) := by decide +kernel
theorem dX8_drift_134 : decode cX8_drift 134 = .ok (.aload_n 0, 1) := by decide +kernel
theorem dX8_drift_135 : decode cX8_drift 135 = .ok (.iload 4, 2) := by decide +kernel
theorem dX8_drift_137 : decode cX8_drift 137 = .ok (.iload 5, 2) := by decide +kernel
theorem dX8_drift_139 : decode cX8_drift 139 = .ok (.invokevirtual 241, 3) := by decide +kernel
theorem dX8_drift_142 : decode cX8_drift 142 = .ok (.iinc 2 1, 3) := by decide +kernel
theorem dX8_drift_145 : decode cX8_drift 145 = .ok (.goto (-111), 3) := by decide +kernel
theorem dX8_drift_148 : decode cX8_drift 148 = .ok (.aload_n 0, 1) := by decide +kernel
theorem dX8_drift_149 : decode cX8_drift 149 = .ok (.getfield 19, 3) := by decide +kernel
theorem dX8_drift_152 : decode cX8_drift 152 = .ok (.bipush 45, 2) := by decide +kernel
theorem dX8_drift_154 : decode cX8_drift 154 = .ok (.iaload, 1) := by decide +kernel
theorem dX8_drift_155 : decode cX8_drift 155 = .ok (.ireturn, 1) := by decide +kernel
theorem dX8_undo_0 : decode cX8_undo 0 = .ok (.aload_n 0, 1) := by decide +kernel
theorem dX8_undo_1 : decode cX8_undo 1 = .ok (.iconst 0, 1) := by decide +kernel
theorem dX8_undo_2 : decode cX8_undo 2 = .ok (.putfield 72, 3) := by decide +kernel
theorem dX8_undo_5 : decode cX8_undo 5 = .ok (.aload_n 0, 1) := by decide +kernel
theorem dX8_undo_6 : decode cX8_undo 6 = .ok (.getfield 143, 3) := by decide +kernel
theorem dX8_undo_9 : decode cX8_undo 9 = .ok (.ifCond .ne 6, 3) := by decide +kernel
theorem dX8_undo_12 : decode cX8_undo 12 = .ok (.ldc 233, 2) := by decide +kernel
theorem dX8_undo_14 : decode cX8_undo 14 = .ok (.ireturn, 1) := by decide +kernel
theorem dX8_undo_15 : decode cX8_undo 15 = .ok (.aload_n 0, 1) := by decide +kernel
theorem dX8_undo_16 : decode cX8_undo 16 = .ok (.dup, 1) := by decide +kernel
theorem dX8_undo_17 : decode cX8_undo 17 = .ok (.getfield 143, 3) := by decide +kernel
theorem dX8_undo_20 : decode cX8_undo 20 = .ok (.iconst 1, 1) := by decide +kernel
theorem dX8_undo_21 : decode cX8_undo 21 = .ok (.isub, 1) := by decide +kernel
theorem dX8_undo_22 : decode cX8_undo 22 = .ok (.putfield 143, 3) := by decide +kernel
theorem dX8_undo_25 : decode cX8_undo 25 = .ok (.iconst 0, 1) := by decide +kernel
theorem dX8_undo_26 : decode cX8_undo 26 = .ok (.istore_n 1, 1) := by decide +kernel
theorem dX8_undo_27 : decode cX8_undo 27 = .ok (.iload_n 1, 1) := by decide +kernel
theorem dX8_undo_28 : decode cX8_undo 28 = .ok (.bipush 48, 2) := by decide +kernel
theorem dX8_undo_30 : decode cX8_undo 30 = .ok (.if_icmp .ge 29, 3) := by decide +kernel
theorem dX8_undo_33 : decode cX8_undo 33 = .ok (.aload_n 0, 1) := by decide +kernel
theorem dX8_undo_34 : decode cX8_undo 34 = .ok (.getfield 19, 3) := by decide +kernel
theorem dX8_undo_37 : decode cX8_undo 37 = .ok (.iload_n 1, 1) := by decide +kernel
theorem dX8_undo_38 : decode cX8_undo 38 = .ok (.aload_n 0, 1) := by decide +kernel
theorem dX8_undo_39 : decode cX8_undo 39 = .ok (.getfield 29, 3) := by decide +kernel
theorem dX8_undo_42 : decode cX8_undo 42 = .ok (.bipush 49, 2) := by decide +kernel
theorem dX8_undo_44 : decode cX8_undo 44 = .ok (.aload_n 0, 1) := by decide +kernel
theorem dX8_undo_45 : decode cX8_undo 45 = .ok (.getfield 143, 3) := by decide +kernel
theorem dX8_undo_48 : decode cX8_undo 48 = .ok (.imul, 1) := by decide +kernel
theorem dX8_undo_49 : decode cX8_undo 49 = .ok (.iload_n 1, 1) := by decide +kernel
theorem dX8_undo_50 : decode cX8_undo 50 = .ok (.iadd, 1) := by decide +kernel
theorem dX8_undo_51 : decode cX8_undo 51 = .ok (.iaload, 1) := by decide +kernel
theorem dX8_undo_52 : decode cX8_undo 52 = .ok (.iastore, 1) := by decide +kernel
theorem dX8_undo_53 : decode cX8_undo 53 = .ok (.iinc 1 1, 3) := by decide +kernel
theorem dX8_undo_56 : decode cX8_undo 56 = .ok (.goto (-29), 3) := by decide +kernel
theorem dX8_undo_59 : decode cX8_undo 59 = .ok (.aload_n 0, 1) := by decide +kernel
theorem dX8_undo_60 : decode cX8_undo 60 = .ok (.getfield 143, 3) := by decide +kernel
theorem dX8_undo_63 : decode cX8_undo 63 = .ok (.ireturn, 1) := by decide +kernel
theorem dX8_wouldFall_0 : decode cX8_wouldFall 0 = .ok (.aload_n 0, 1) := by decide +kernel
theorem dX8_wouldFall_1 : decode cX8_wouldFall 1 = .ok (.iconst 0, 1) := by decide +kernel
theorem dX8_wouldFall_2 : decode cX8_wouldFall 2 = .ok (.putfield 72, 3) := by decide +kernel
theorem dX8_wouldFall_5 : decode cX8_wouldFall 5 = .ok (.aload_n 0, 1) := by decide +kernel
theorem dX8_wouldFall_6 : decode cX8_wouldFall 6 = .ok (.iload_n 1, 1) := by decide +kernel
theorem dX8_wouldFall_7 : decode cX8_wouldFall 7 = .ok (.iload_n 2, 1) := by decide +kernel
theorem dX8_wouldFall_8 : decode cX8_wouldFall 8 = .ok (.iload_n 3, 1) := by decide +kernel
theorem dX8_wouldFall_9 : decode cX8_wouldFall 9 = .ok (.invokevirtual 230, 3) := by decide +kernel
theorem dX8_wouldFall_12 : decode cX8_wouldFall 12 = .ok (.ifCond .eq 13, 3) := by decide +kernel
theorem dX8_wouldFall_15 : decode cX8_wouldFall 15 = .ok (.iload 4, 2) := by decide +kernel
theorem dX8_wouldFall_17 : decode cX8_wouldFall 17 = .ok (.iconst 0, 1) := by decide +kernel
theorem dX8_wouldFall_18 : decode cX8_wouldFall 18 = .ok (.iconst 2, 1) := by decide +kernel
theorem dX8_wouldFall_19 : decode cX8_wouldFall 19 = .ok (.invokestatic 75, 3) := by decide +kernel
theorem dX8_wouldFall_22 : decode cX8_wouldFall 22 = .ok (.ifCond .ne 6, 3) := by decide +kernel
theorem dX8_wouldFall_25 : decode cX8_wouldFall 25 = .ok (.ldc 79, 2) := by decide +kernel
theorem dX8_wouldFall_27 : decode cX8_wouldFall 27 = .ok (.ireturn, 1) := by decide +kernel
theorem dX8_wouldFall_28 : decode cX8_wouldFall 28 = .ok (.aload_n 0, 1) := by decide +kernel
theorem dX8_wouldFall_29 : decode cX8_wouldFall 29 = .ok (.getfield 133, 3) := by decide +kernel
theorem dX8_wouldFall_32 : decode cX8_wouldFall 32 = .ok (.ifCond .ne 6, 3) := by decide +kernel
theorem dX8_wouldFall_35 : decode cX8_wouldFall 35 = .ok (.ldc 233, 2) := by decide +kernel
theorem dX8_wouldFall_37 : decode cX8_wouldFall 37 = .ok (.ireturn, 1) := by decide +kernel
theorem dX8_wouldFall_38 : decode cX8_wouldFall 38 = .ok (.aload_n 0, 1) := by decide +kernel
theorem dX8_wouldFall_39 : decode cX8_wouldFall 39 = .ok (.iconst 0, 1) := by decide +kernel
theorem dX8_wouldFall_40 : decode cX8_wouldFall 40 = .ok (.iconst 0, 1) := by decide +kernel
theorem dX8_wouldFall_41 : decode cX8_wouldFall 41 = .ok (.invokevirtual 188, 3) := by decide +kernel
theorem dX8_wouldFall_44 : decode cX8_wouldFall 44 = .ok (.aload_n 0, 1) := by decide +kernel
theorem dX8_wouldFall_45 : decode cX8_wouldFall 45 = .ok (.aload_n 0, 1) := by decide +kernel
theorem dX8_wouldFall_46 : decode cX8_wouldFall 46 = .ok (.getfield 19, 3) := by decide +kernel
theorem dX8_wouldFall_49 : decode cX8_wouldFall 49 = .ok (.bipush 45, 2) := by decide +kernel
theorem dX8_wouldFall_51 : decode cX8_wouldFall 51 = .ok (.iaload, 1) := by decide +kernel
theorem dX8_wouldFall_52 : decode cX8_wouldFall 52 = .ok (.iload_n 1, 1) := by decide +kernel
theorem dX8_wouldFall_53 : decode cX8_wouldFall 53 = .ok (.iload_n 2, 1) := by decide +kernel
theorem dX8_wouldFall_54 : decode cX8_wouldFall 54 = .ok (.iload_n 3, 1) := by decide +kernel
theorem dX8_wouldFall_55 : decode cX8_wouldFall 55 = .ok (.invokevirtual 184, 3) := by decide +kernel
theorem dX8_wouldFall_58 : decode cX8_wouldFall 58 = .ok (.istore 5, 2) := by decide +kernel
theorem dX8_wouldFall_60 : decode cX8_wouldFall 60 = .ok (.iload 4, 2) := by decide +kernel
theorem dX8_wouldFall_62 : decode cX8_wouldFall 62 = .ok (.ifCond .ne 8, 3) := by decide +kernel
