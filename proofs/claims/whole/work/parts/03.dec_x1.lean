theorem dX0_init_0 : decode cX0_init 0 = .ok (.aload_n 0, 1) := by decide +kernel
theorem dX0_init_1 : decode cX0_init 1 = .ok (.invokespecial 3, 3) := by decide +kernel
theorem dX0_init_4 : decode cX0_init 4 = .ok (.aload_n 0, 1) := by decide +kernel
theorem dX0_init_5 : decode cX0_init 5 = .ok (.sipush 512, 3) := by decide +kernel
theorem dX0_init_8 : decode cX0_init 8 = .ok (.newarray .int, 2) := by decide +kernel
theorem dX0_init_10 : decode cX0_init 10 = .ok (.putfield 9, 3) := by decide +kernel
theorem dX0_init_13 : decode cX0_init 13 = .ok (.aload_n 0, 1) := by decide +kernel
theorem dX0_init_14 : decode cX0_init 14 = .ok (.sipush 512, 3) := by decide +kernel
theorem dX0_init_17 : decode cX0_init 17 = .ok (.newarray .int, 2) := by decide +kernel
theorem dX0_init_19 : decode cX0_init 19 = .ok (.putfield 15, 3) := by decide +kernel
theorem dX0_init_22 : decode cX0_init 22 = .ok (.aload_n 0, 1) := by decide +kernel
theorem dX0_init_23 : decode cX0_init 23 = .ok (.sipush 512, 3) := by decide +kernel
theorem dX0_init_26 : decode cX0_init 26 = .ok (.newarray .int, 2) := by decide +kernel
theorem dX0_init_28 : decode cX0_init 28 = .ok (.putfield 18, 3) := by decide +kernel
theorem dX0_init_31 : decode cX0_init 31 = .ok (.return_, 1) := by decide +kernel
theorem dX0_run_0 : decode cX0_run 0 = .ok (.aload_n 0, 1) := by decide +kernel
theorem dX0_run_1 : decode cX0_run 1 = .ok (.getfield 21, 3) := by decide +kernel
theorem dX0_run_4 : decode cX0_run 4 = .ok (.ifCond .eq 4, 3) := by decide +kernel
theorem dX0_run_7 : decode cX0_run 7 = .ok (.return_, 1) := by decide +kernel
theorem dX0_run_8 : decode cX0_run 8 = .ok (.aload_n 1, 1) := by decide +kernel
theorem dX0_run_9 : decode cX0_run 9 = .ok (.aload_n 2, 1) := by decide +kernel
theorem dX0_run_10 : decode cX0_run 10 = .ok (.invokevirtual 25, 3) := by decide +kernel
theorem dX0_run_13 : decode cX0_run 13 = .ok (.aload_n 0, 1) := by decide +kernel
theorem dX0_run_14 : decode cX0_run 14 = .ok (.getfield 15, 3) := by decide +kernel
theorem dX0_run_17 : decode cX0_run 17 = .ok (.iconst (-1), 1) := by decide +kernel
theorem dX0_run_18 : decode cX0_run 18 = .ok (.invokestatic 31, 3) := by decide +kernel
theorem dX0_run_21 : decode cX0_run 21 = .ok (.aload_n 0, 1) := by decide +kernel
theorem dX0_run_22 : decode cX0_run 22 = .ok (.iconst 0, 1) := by decide +kernel
theorem dX0_run_23 : decode cX0_run 23 = .ok (.putfield 37, 3) := by decide +kernel
theorem dX0_run_26 : decode cX0_run 26 = .ok (.aload_n 0, 1) := by decide +kernel
theorem dX0_run_27 : decode cX0_run 27 = .ok (.aload_n 2, 1) := by decide +kernel
theorem dX0_run_28 : decode cX0_run 28 = .ok (.getfield 41, 3) := by decide +kernel
theorem dX0_run_31 : decode cX0_run 31 = .ok (.iconst 0, 1) := by decide +kernel
theorem dX0_run_32 : decode cX0_run 32 = .ok (.iconst (-1), 1) := by decide +kernel
theorem dX0_run_33 : decode cX0_run 33 = .ok (.invokevirtual 46, 3) := by decide +kernel
theorem dX0_run_36 : decode cX0_run 36 = .ok (.iconst 0, 1) := by decide +kernel
theorem dX0_run_37 : decode cX0_run 37 = .ok (.istore_n 3, 1) := by decide +kernel
theorem dX0_run_38 : decode cX0_run 38 = .ok (.iload_n 3, 1) := by decide +kernel
theorem dX0_run_39 : decode cX0_run 39 = .ok (.aload_n 0, 1) := by decide +kernel
theorem dX0_run_40 : decode cX0_run 40 = .ok (.getfield 37, 3) := by decide +kernel
theorem dX0_run_43 : decode cX0_run 43 = .ok (.if_icmp .ge 37, 3) := by decide +kernel
theorem dX0_run_46 : decode cX0_run 46 = .ok (.iload_n 3, 1) := by decide +kernel
theorem dX0_run_47 : decode cX0_run 47 = .ok (.sipush 512, 3) := by decide +kernel
theorem dX0_run_50 : decode cX0_run 50 = .ok (.if_icmp .ge 30, 3) := by decide +kernel
theorem dX0_run_53 : decode cX0_run 53 = .ok (.aload_n 0, 1) := by decide +kernel
theorem dX0_run_54 : decode cX0_run 54 = .ok (.getfield 15, 3) := by decide +kernel
theorem dX0_run_57 : decode cX0_run 57 = .ok (.iconst 0, 1) := by decide +kernel
theorem dX0_run_58 : decode cX0_run 58 = .ok (.iaload, 1) := by decide +kernel
theorem dX0_run_59 : decode cX0_run 59 = .ok (.iconst (-1), 1) := by decide +kernel
theorem dX0_run_60 : decode cX0_run 60 = .ok (.if_icmp .ne 20, 3) := by decide +kernel
theorem dX0_run_63 : decode cX0_run 63 = .ok (.aload_n 0, 1) := by decide +kernel
theorem dX0_run_64 : decode cX0_run 64 = .ok (.aload_n 1, 1) := by decide +kernel
theorem dX0_run_65 : decode cX0_run 65 = .ok (.aload_n 0, 1) := by decide +kernel
theorem dX0_run_66 : decode cX0_run 66 = .ok (.getfield 9, 3) := by decide +kernel
theorem dX0_run_69 : decode cX0_run 69 = .ok (.iload_n 3, 1) := by decide +kernel
theorem dX0_run_70 : decode cX0_run 70 = .ok (.iaload, 1) := by decide +kernel
theorem dX0_run_71 : decode cX0_run 71 = .ok (.invokevirtual 50, 3) := by decide +kernel
theorem dX0_run_74 : decode cX0_run 74 = .ok (.iinc 3 1, 3) := by decide +kernel
theorem dX0_run_77 : decode cX0_run 77 = .ok (.goto (-39), 3) := by decide +kernel
theorem dX0_run_80 : decode cX0_run 80 = .ok (.aload_n 0, 1) := by decide +kernel
theorem dX0_run_81 : decode cX0_run 81 = .ok (.aload_n 0, 1) := by decide +kernel
theorem dX0_run_82 : decode cX0_run 82 = .ok (.getfield 15, 3) := by decide +kernel
theorem dX0_run_85 : decode cX0_run 85 = .ok (.iconst 0, 1) := by decide +kernel
theorem dX0_run_86 : decode cX0_run 86 = .ok (.iaload, 1) := by decide +kernel
theorem dX0_run_87 : decode cX0_run 87 = .ok (.putfield 54, 3) := by decide +kernel
theorem dX0_run_90 : decode cX0_run 90 = .ok (.aload_n 0, 1) := by decide +kernel
theorem dX0_run_91 : decode cX0_run 91 = .ok (.aload_n 0, 1) := by decide +kernel
theorem dX0_run_92 : decode cX0_run 92 = .ok (.getfield 54, 3) := by decide +kernel
theorem dX0_run_95 : decode cX0_run 95 = .ok (.iconst (-1), 1) := by decide +kernel
theorem dX0_run_96 : decode cX0_run 96 = .ok (.if_icmp .ne 7, 3) := by decide +kernel
theorem dX0_run_99 : decode cX0_run 99 = .ok (.iconst (-1), 1) := by decide +kernel
theorem dX0_run_100 : decode cX0_run 100 = .ok (.goto 9, 3) := by decide +kernel
theorem dX0_run_103 : decode cX0_run 103 = .ok (.aload_n 0, 1) := by decide +kernel
theorem dX0_run_104 : decode cX0_run 104 = .ok (.getfield 18, 3) := by decide +kernel
theorem dX0_run_107 : decode cX0_run 107 = .ok (.iconst 0, 1) := by decide +kernel
theorem dX0_run_108 : decode cX0_run 108 = .ok (.iaload, 1) := by decide +kernel
theorem dX0_run_109 : decode cX0_run 109 = .ok (.putfield 57, 3) := by decide +kernel
theorem dX0_run_112 : decode cX0_run 112 = .ok (.aload_n 0, 1) := by decide +kernel
theorem dX0_run_113 : decode cX0_run 113 = .ok (.iconst 1, 1) := by decide +kernel
theorem dX0_run_114 : decode cX0_run 114 = .ok (.putfield 21, 3) := by decide +kernel
theorem dX0_run_117 : decode cX0_run 117 = .ok (.return_, 1) := by decide +kernel
theorem dX0_goOn_0 : decode cX0_goOn 0 = .ok (.iload_n 2, 1) := by decide +kernel
theorem dX0_goOn_1 : decode cX0_goOn 1 = .ok (.ifCond .lt 10, 3) := by decide +kernel
theorem dX0_goOn_4 : decode cX0_goOn 4 = .ok (.iload_n 2, 1) := by decide +kernel
theorem dX0_goOn_5 : decode cX0_goOn 5 = .ok (.sipush 512, 3) := by decide +kernel
theorem dX0_goOn_8 : decode cX0_goOn 8 = .ok (.if_icmp .lt 4, 3) := by decide +kernel
theorem dX0_goOn_11 : decode cX0_goOn 11 = .ok (.return_, 1) := by decide +kernel
theorem dX0_goOn_12 : decode cX0_goOn 12 = .ok (.iconst 0, 1) := by decide +kernel
theorem dX0_goOn_13 : decode cX0_goOn 13 = .ok (.istore_n 3, 1) := by decide +kernel
theorem dX0_goOn_14 : decode cX0_goOn 14 = .ok (.iload_n 3, 1) := by decide +kernel
theorem dX0_goOn_15 : decode cX0_goOn 15 = .ok (.bipush 15, 2) := by decide +kernel
theorem dX0_goOn_17 : decode cX0_goOn 17 = .ok (.if_icmp .ge 115, 3) := by decide +kernel
theorem dX0_goOn_20 : decode cX0_goOn 20 = .ok (.aload_n 0, 1) := by decide +kernel
theorem dX0_goOn_21 : decode cX0_goOn 21 = .ok (.getfield 15, 3) := by decide +kernel
theorem dX0_goOn_24 : decode cX0_goOn 24 = .ok (.iconst 0, 1) := by decide +kernel
theorem dX0_goOn_25 : decode cX0_goOn 25 = .ok (.iaload, 1) := by decide +kernel
theorem dX0_goOn_26 : decode cX0_goOn 26 = .ok (.iconst (-1), 1) := by decide +kernel
theorem dX0_goOn_27 : decode cX0_goOn 27 = .ok (.if_icmp .ne 105, 3) := by decide +kernel
theorem dX0_goOn_30 : decode cX0_goOn 30 = .ok (.iload_n 3, 1) := by decide +kernel
theorem dX0_goOn_31 : decode cX0_goOn 31 = .ok (.iconst 3, 1) := by decide +kernel
theorem dX0_goOn_32 : decode cX0_goOn 32 = .ok (.idiv, 1) := by decide +kernel
theorem dX0_goOn_33 : decode cX0_goOn 33 = .ok (.istore 4, 2) := by decide +kernel
theorem dX0_goOn_35 : decode cX0_goOn 35 = .ok (.iload_n 3, 1) := by decide +kernel
theorem dX0_goOn_36 : decode cX0_goOn 36 = .ok (.iconst 3, 1) := by decide +kernel
theorem dX0_goOn_37 : decode cX0_goOn 37 = .ok (.irem, 1) := by decide +kernel
theorem dX0_goOn_38 : decode cX0_goOn 38 = .ok (.istore 5, 2) := by decide +kernel
theorem dX0_goOn_40 : decode cX0_goOn 40 = .ok (.aload_n 1, 1) := by decide +kernel
theorem dX0_goOn_41 : decode cX0_goOn 41 = .ok (.iload 4, 2) := by decide +kernel
theorem dX0_goOn_43 : decode cX0_goOn 43 = .ok (.iload 5, 2) := by decide +kernel
theorem dX0_goOn_45 : decode cX0_goOn 45 = .ok (.iload_n 2, 1) := by decide +kernel
theorem dX0_goOn_46 : decode cX0_goOn 46 = .ok (.invokevirtual 60, 3) := by decide +kernel
theorem dX0_goOn_49 : decode cX0_goOn 49 = .ok (.istore 6, 2) := by decide +kernel
theorem dX0_goOn_51 : decode cX0_goOn 51 = .ok (.iload 6, 2) := by decide +kernel
theorem dX0_goOn_53 : decode cX0_goOn 53 = .ok (.bipush 40, 2) := by decide +kernel
theorem dX0_goOn_55 : decode cX0_goOn 55 = .ok (.if_icmp .gt 71, 3) := by decide +kernel
theorem dX0_goOn_58 : decode cX0_goOn 58 = .ok (.aload_n 1, 1) := by decide +kernel
theorem dX0_goOn_59 : decode cX0_goOn 59 = .ok (.iload 4, 2) := by decide +kernel
theorem dX0_goOn_61 : decode cX0_goOn 61 = .ok (.iload 5, 2) := by decide +kernel
theorem dX0_goOn_63 : decode cX0_goOn 63 = .ok (.iload 6, 2) := by decide +kernel
theorem dX0_goOn_65 : decode cX0_goOn 65 = .ok (.iload_n 2, 1) := by decide +kernel
theorem dX0_goOn_66 : decode cX0_goOn 66 = .ok (.invokevirtual 64, 3) := by decide +kernel
theorem dX0_goOn_69 : decode cX0_goOn 69 = .ok (.istore 7, 2) := by decide +kernel
theorem dX0_goOn_71 : decode cX0_goOn 71 = .ok (.aload_n 0, 1) := by decide +kernel
theorem dX0_goOn_72 : decode cX0_goOn 72 = .ok (.getfield 15, 3) := by decide +kernel
theorem dX0_goOn_75 : decode cX0_goOn 75 = .ok (.iload_n 2, 1) := by decide +kernel
theorem dX0_goOn_76 : decode cX0_goOn 76 = .ok (.iaload, 1) := by decide +kernel
theorem dX0_goOn_77 : decode cX0_goOn 77 = .ok (.ifCond .ne 15, 3) := by decide +kernel
theorem dX0_goOn_80 : decode cX0_goOn 80 = .ok (.iload_n 3, 1) := by decide +kernel
theorem dX0_goOn_81 : decode cX0_goOn 81 = .ok (.bipush 40, 2) := by decide +kernel
theorem dX0_goOn_83 : decode cX0_goOn 83 = .ok (.imul, 1) := by decide +kernel
theorem dX0_goOn_84 : decode cX0_goOn 84 = .ok (.iload 6, 2) := by decide +kernel
theorem dX0_goOn_86 : decode cX0_goOn 86 = .ok (.iadd, 1) := by decide +kernel
theorem dX0_goOn_87 : decode cX0_goOn 87 = .ok (.iconst 1, 1) := by decide +kernel
theorem dX0_goOn_88 : decode cX0_goOn 88 = .ok (.isub, 1) := by decide +kernel
theorem dX0_goOn_89 : decode cX0_goOn 89 = .ok (.goto 9, 3) := by decide +kernel
theorem dX0_goOn_92 : decode cX0_goOn 92 = .ok (.aload_n 0, 1) := by decide +kernel
theorem dX0_goOn_93 : decode cX0_goOn 93 = .ok (.getfield 18, 3) := by decide +kernel
theorem dX0_goOn_96 : decode cX0_goOn 96 = .ok (.iload_n 2, 1) := by decide +kernel
theorem dX0_goOn_97 : decode cX0_goOn 97 = .ok (.iaload, 1) := by decide +kernel
theorem dX0_goOn_98 : decode cX0_goOn 98 = .ok (.istore 8, 2) := by decide +kernel
theorem dX0_goOn_100 : decode cX0_goOn 100 = .ok (.aload_n 0, 1) := by decide +kernel
theorem dX0_goOn_101 : decode cX0_goOn 101 = .ok (.iload_n 2, 1) := by decide +kernel
theorem dX0_goOn_102 : decode cX0_goOn 102 = .ok (.iload 7, 2) := by decide +kernel
theorem dX0_goOn_104 : decode cX0_goOn 104 = .ok (.iconst (-1), 1) := by decide +kernel
theorem dX0_goOn_105 : decode cX0_goOn 105 = .ok (.ixor, 1) := by decide +kernel
theorem dX0_goOn_106 : decode cX0_goOn 106 = .ok (.iand, 1) := by decide +kernel
theorem dX0_goOn_107 : decode cX0_goOn 107 = .ok (.aload_n 0, 1) := by decide +kernel
theorem dX0_goOn_108 : decode cX0_goOn 108 = .ok (.getfield 15, 3) := by decide +kernel
theorem dX0_goOn_111 : decode cX0_goOn 111 = .ok (.iload_n 2, 1) := by decide +kernel
theorem dX0_goOn_112 : decode cX0_goOn 112 = .ok (.iaload, 1) := by decide +kernel
theorem dX0_goOn_113 : decode cX0_goOn 113 = .ok (.iconst 1, 1) := by decide +kernel
theorem dX0_goOn_114 : decode cX0_goOn 114 = .ok (.iadd, 1) := by decide +kernel
theorem dX0_goOn_115 : decode cX0_goOn 115 = .ok (.iload 8, 2) := by decide +kernel
theorem dX0_goOn_117 : decode cX0_goOn 117 = .ok (.invokevirtual 46, 3) := by decide +kernel
theorem dX0_goOn_120 : decode cX0_goOn 120 = .ok (.iinc 6 1, 3) := by decide +kernel
theorem dX0_goOn_123 : decode cX0_goOn 123 = .ok (.goto (-72), 3) := by decide +kernel
theorem dX0_goOn_126 : decode cX0_goOn 126 = .ok (.iinc 3 1, 3) := by decide +kernel
theorem dX0_goOn_129 : decode cX0_goOn 129 = .ok (.goto (-115), 3) := by decide +kernel
theorem dX0_goOn_132 : decode cX0_goOn 132 = .ok (.return_, 1) := by decide +kernel
theorem dX0_reach_0 : decode cX0_reach 0 = .ok (.iload_n 1, 1) := by decide +kernel
theorem dX0_reach_1 : decode cX0_reach 1 = .ok (.ifCond .lt 30, 3) := by decide +kernel
theorem dX0_reach_4 : decode cX0_reach 4 = .ok (.iload_n 1, 1) := by decide +kernel
theorem dX0_reach_5 : decode cX0_reach 5 = .ok (.sipush 512, 3) := by decide +kernel
theorem dX0_reach_8 : decode cX0_reach 8 = .ok (.if_icmp .ge 23, 3) := by decide +kernel
theorem dX0_reach_11 : decode cX0_reach 11 = .ok (.aload_n 0, 1) := by decide +kernel
theorem dX0_reach_12 : decode cX0_reach 12 = .ok (.getfield 37, 3) := by decide +kernel
theorem dX0_reach_15 : decode cX0_reach 15 = .ok (.sipush 512, 3) := by decide +kernel
theorem dX0_reach_18 : decode cX0_reach 18 = .ok (.if_icmp .ge 13, 3) := by decide +kernel
theorem dX0_reach_21 : decode cX0_reach 21 = .ok (.aload_n 0, 1) := by decide +kernel
theorem dX0_reach_22 : decode cX0_reach 22 = .ok (.getfield 15, 3) := by decide +kernel
theorem dX0_reach_25 : decode cX0_reach 25 = .ok (.iload_n 1, 1) := by decide +kernel
theorem dX0_reach_26 : decode cX0_reach 26 = .ok (.iaload, 1) := by decide +kernel
theorem dX0_reach_27 : decode cX0_reach 27 = .ok (.iconst (-1), 1) := by decide +kernel
theorem dX0_reach_28 : decode cX0_reach 28 = .ok (.if_icmp .eq 4, 3) := by decide +kernel
theorem dX0_reach_31 : decode cX0_reach 31 = .ok (.return_, 1) := by decide +kernel
theorem dX0_reach_32 : decode cX0_reach 32 = .ok (.aload_n 0, 1) := by decide +kernel
theorem dX0_reach_33 : decode cX0_reach 33 = .ok (.getfield 15, 3) := by decide +kernel
theorem dX0_reach_36 : decode cX0_reach 36 = .ok (.iload_n 1, 1) := by decide +kernel
theorem dX0_reach_37 : decode cX0_reach 37 = .ok (.iload_n 2, 1) := by decide +kernel
theorem dX0_reach_38 : decode cX0_reach 38 = .ok (.iastore, 1) := by decide +kernel
theorem dX0_reach_39 : decode cX0_reach 39 = .ok (.aload_n 0, 1) := by decide +kernel
theorem dX0_reach_40 : decode cX0_reach 40 = .ok (.getfield 18, 3) := by decide +kernel
theorem dX0_reach_43 : decode cX0_reach 43 = .ok (.iload_n 1, 1) := by decide +kernel
theorem dX0_reach_44 : decode cX0_reach 44 = .ok (.iload_n 3, 1) := by decide +kernel
theorem dX0_reach_45 : decode cX0_reach 45 = .ok (.iastore, 1) := by decide +kernel
theorem dX0_reach_46 : decode cX0_reach 46 = .ok (.aload_n 0, 1) := by decide +kernel
theorem dX0_reach_47 : decode cX0_reach 47 = .ok (.getfield 9, 3) := by decide +kernel
theorem dX0_reach_50 : decode cX0_reach 50 = .ok (.aload_n 0, 1) := by decide +kernel
theorem dX0_reach_51 : decode cX0_reach 51 = .ok (.getfield 37, 3) := by decide +kernel
theorem dX0_reach_54 : decode cX0_reach 54 = .ok (.iload_n 1, 1) := by decide +kernel
theorem dX0_reach_55 : decode cX0_reach 55 = .ok (.iastore, 1) := by decide +kernel
theorem dX0_reach_56 : decode cX0_reach 56 = .ok (.aload_n 0, 1) := by decide +kernel
theorem dX0_reach_57 : decode cX0_reach 57 = .ok (.dup, 1) := by decide +kernel
theorem dX0_reach_58 : decode cX0_reach 58 = .ok (.getfield 37, 3) := by decide +kernel
theorem dX0_reach_61 : decode cX0_reach 61 = .ok (.iconst 1, 1) := by decide +kernel
theorem dX0_reach_62 : decode cX0_reach 62 = .ok (.iadd, 1) := by decide +kernel
theorem dX0_reach_63 : decode cX0_reach 63 = .ok (.putfield 37, 3) := by decide +kernel
theorem dX0_reach_66 : decode cX0_reach 66 = .ok (.return_, 1) := by decide +kernel
theorem dX1_init_0 : decode cX1_init 0 = .ok (.aload_n 0, 1) := by decide +kernel
theorem dX1_init_1 : decode cX1_init 1 = .ok (.invokespecial 3, 3) := by decide +kernel
theorem dX1_init_4 : decode cX1_init 4 = .ok (.aload_n 0, 1) := by decide +kernel
theorem dX1_init_5 : decode cX1_init 5 = .ok (.bipush 15, 2) := by decide +kernel
theorem dX1_init_7 : decode cX1_init 7 = .ok (.newarray .int, 2) := by decide +kernel
theorem dX1_init_9 : decode cX1_init 9 = .ok (.putfield 9, 3) := by decide +kernel
theorem dX1_init_12 : decode cX1_init 12 = .ok (.aload_n 0, 1) := by decide +kernel
theorem dX1_init_13 : decode cX1_init 13 = .ok (.bipush 15, 2) := by decide +kernel
theorem dX1_init_15 : decode cX1_init 15 = .ok (.newarray .boolean, 2) := by decide +kernel
theorem dX1_init_17 : decode cX1_init 17 = .ok (.putfield 15, 3) := by decide +kernel
theorem dX1_init_20 : decode cX1_init 20 = .ok (.return_, 1) := by decide +kernel
theorem dX1_append_0 : decode cX1_append 0 = .ok (.aload_n 0, 1) := by decide +kernel
theorem dX1_append_1 : decode cX1_append 1 = .ok (.getfield 19, 3) := by decide +kernel
theorem dX1_append_4 : decode cX1_append 4 = .ok (.bipush 15, 2) := by decide +kernel
theorem dX1_append_6 : decode cX1_append 6 = .ok (.if_icmp .lt 6, 3) := by decide +kernel
theorem dX1_append_9 : decode cX1_append 9 = .ok (.ldc 23, 2) := by decide +kernel
theorem dX1_append_11 : decode cX1_append 11 = .ok (.ireturn, 1) := by decide +kernel
theorem dX1_append_12 : decode cX1_append 12 = .ok (.aload_n 0, 1) := by decide +kernel
theorem dX1_append_13 : decode cX1_append 13 = .ok (.getfield 9, 3) := by decide +kernel
theorem dX1_append_16 : decode cX1_append 16 = .ok (.aload_n 0, 1) := by decide +kernel
theorem dX1_append_17 : decode cX1_append 17 = .ok (.getfield 19, 3) := by decide +kernel
theorem dX1_append_20 : decode cX1_append 20 = .ok (.iload_n 1, 1) := by decide +kernel
theorem dX1_append_21 : decode cX1_append 21 = .ok (.iastore, 1) := by decide +kernel
theorem dX1_append_22 : decode cX1_append 22 = .ok (.aload_n 0, 1) := by decide +kernel
theorem dX1_append_23 : decode cX1_append 23 = .ok (.getfield 15, 3) := by decide +kernel
theorem dX1_append_26 : decode cX1_append 26 = .ok (.aload_n 0, 1) := by decide +kernel
theorem dX1_append_27 : decode cX1_append 27 = .ok (.getfield 19, 3) := by decide +kernel
theorem dX1_append_30 : decode cX1_append 30 = .ok (.iload_n 2, 1) := by decide +kernel
theorem dX1_append_31 : decode cX1_append 31 = .ok (.bastore, 1) := by decide +kernel
theorem dX1_append_32 : decode cX1_append 32 = .ok (.aload_n 0, 1) := by decide +kernel
theorem dX1_append_33 : decode cX1_append 33 = .ok (.dup, 1) := by decide +kernel
theorem dX1_append_34 : decode cX1_append 34 = .ok (.getfield 19, 3) := by decide +kernel
theorem dX1_append_37 : decode cX1_append 37 = .ok (.iconst 1, 1) := by decide +kernel
theorem dX1_append_38 : decode cX1_append 38 = .ok (.iadd, 1) := by decide +kernel
theorem dX1_append_39 : decode cX1_append 39 = .ok (.putfield 19, 3) := by decide +kernel
theorem dX1_append_42 : decode cX1_append 42 = .ok (.aload_n 0, 1) := by decide +kernel
theorem dX1_append_43 : decode cX1_append 43 = .ok (.getfield 19, 3) := by decide +kernel
theorem dX1_append_46 : decode cX1_append 46 = .ok (.ireturn, 1) := by decide +kernel
theorem dX1_clear_0 : decode cX1_clear 0 = .ok (.aload_n 0, 1) := by decide +kernel
theorem dX1_clear_1 : decode cX1_clear 1 = .ok (.iconst 0, 1) := by decide +kernel
theorem dX1_clear_2 : decode cX1_clear 2 = .ok (.putfield 19, 3) := by decide +kernel
theorem dX1_clear_5 : decode cX1_clear 5 = .ok (.return_, 1) := by decide +kernel
theorem dX1_firstWrong_0 : decode cX1_firstWrong 0 = .ok (.iconst 0, 1) := by decide +kernel
theorem dX1_firstWrong_1 : decode cX1_firstWrong 1 = .ok (.istore_n 2, 1) := by decide +kernel
theorem dX1_firstWrong_2 : decode cX1_firstWrong 2 = .ok (.iload_n 2, 1) := by decide +kernel
theorem dX1_firstWrong_3 : decode cX1_firstWrong 3 = .ok (.aload_n 0, 1) := by decide +kernel
theorem dX1_firstWrong_4 : decode cX1_firstWrong 4 = .ok (.getfield 19, 3) := by decide +kernel
theorem dX1_firstWrong_7 : decode cX1_firstWrong 7 = .ok (.if_icmp .ge 47, 3) := by decide +kernel
theorem dX1_firstWrong_10 : decode cX1_firstWrong 10 = .ok (.iload_n 2, 1) := by decide +kernel
theorem dX1_firstWrong_11 : decode cX1_firstWrong 11 = .ok (.bipush 15, 2) := by decide +kernel
theorem dX1_firstWrong_13 : decode cX1_firstWrong 13 = .ok (.if_icmp .ge 41, 3) := by decide +kernel
theorem dX1_firstWrong_16 : decode cX1_firstWrong 16 = .ok (.iload_n 1, 1) := by decide +kernel
theorem dX1_firstWrong_17 : decode cX1_firstWrong 17 = .ok (.aload_n 0, 1) := by decide +kernel
theorem dX1_firstWrong_18 : decode cX1_firstWrong 18 = .ok (.getfield 9, 3) := by decide +kernel
theorem dX1_firstWrong_21 : decode cX1_firstWrong 21 = .ok (.iload_n 2, 1) := by decide +kernel
theorem dX1_firstWrong_22 : decode cX1_firstWrong 22 = .ok (.iaload, 1) := by decide +kernel
theorem dX1_firstWrong_23 : decode cX1_firstWrong 23 = .ok (.ishr, 1) := by decide +kernel
theorem dX1_firstWrong_24 : decode cX1_firstWrong 24 = .ok (.iconst 1, 1) := by decide +kernel
theorem dX1_firstWrong_25 : decode cX1_firstWrong 25 = .ok (.iand, 1) := by decide +kernel
theorem dX1_firstWrong_26 : decode cX1_firstWrong 26 = .ok (.iconst 1, 1) := by decide +kernel
theorem dX1_firstWrong_27 : decode cX1_firstWrong 27 = .ok (.if_icmp .ne 7, 3) := by decide +kernel
theorem dX1_firstWrong_30 : decode cX1_firstWrong 30 = .ok (.iconst 1, 1) := by decide +kernel
theorem dX1_firstWrong_31 : decode cX1_firstWrong 31 = .ok (.goto 4, 3) := by decide +kernel
theorem dX1_firstWrong_34 : decode cX1_firstWrong 34 = .ok (.iconst 0, 1) := by decide +kernel
theorem dX1_firstWrong_35 : decode cX1_firstWrong 35 = .ok (.istore_n 3, 1) := by decide +kernel
theorem dX1_firstWrong_36 : decode cX1_firstWrong 36 = .ok (.iload_n 3, 1) := by decide +kernel
theorem dX1_firstWrong_37 : decode cX1_firstWrong 37 = .ok (.aload_n 0, 1) := by decide +kernel
theorem dX1_firstWrong_38 : decode cX1_firstWrong 38 = .ok (.getfield 15, 3) := by decide +kernel
theorem dX1_firstWrong_41 : decode cX1_firstWrong 41 = .ok (.iload_n 2, 1) := by decide +kernel
theorem dX1_firstWrong_42 : decode cX1_firstWrong 42 = .ok (.baload, 1) := by decide +kernel
theorem dX1_firstWrong_43 : decode cX1_firstWrong 43 = .ok (.if_icmp .eq 5, 3) := by decide +kernel
theorem dX1_firstWrong_46 : decode cX1_firstWrong 46 = .ok (.iload_n 2, 1) := by decide +kernel
theorem dX1_firstWrong_47 : decode cX1_firstWrong 47 = .ok (.ireturn, 1) := by decide +kernel
theorem dX1_firstWrong_48 : decode cX1_firstWrong 48 = .ok (.iinc 2 1, 3) := by decide +kernel
theorem dX1_firstWrong_51 : decode cX1_firstWrong 51 = .ok (.goto (-49), 3) := by decide +kernel
theorem dX1_firstWrong_54 : decode cX1_firstWrong 54 = .ok (.iconst (-1), 1) := by decide +kernel
theorem dX1_firstWrong_55 : decode cX1_firstWrong 55 = .ok (.ireturn, 1) := by decide +kernel
theorem dX2_init_0 : decode cX2_init 0 = .ok (.aload_n 0, 1) := by decide +kernel
theorem dX2_init_1 : decode cX2_init 1 = .ok (.invokespecial 3, 3) := by decide +kernel
theorem dX2_init_4 : decode cX2_init 4 = .ok (.aload_n 0, 1) := by decide +kernel
theorem dX2_init_5 : decode cX2_init 5 = .ok (.sipush 240, 3) := by decide +kernel
theorem dX2_init_8 : decode cX2_init 8 = .ok (.newarray .int, 2) := by decide +kernel
theorem dX2_init_10 : decode cX2_init 10 = .ok (.putfield 9, 3) := by decide +kernel
theorem dX2_init_13 : decode cX2_init 13 = .ok (.aload_n 0, 1) := by decide +kernel
theorem dX2_init_14 : decode cX2_init 14 = .ok (.bipush 9, 2) := by decide +kernel
theorem dX2_init_16 : decode cX2_init 16 = .ok (.newarray .int, 2) := by decide +kernel
theorem dX2_init_18 : decode cX2_init 18 = .ok (.putfield 15, 3) := by decide +kernel
theorem dX2_init_21 : decode cX2_init 21 = .ok (.aload_n 0, 1) := by decide +kernel
theorem dX2_init_22 : decode cX2_init 22 = .ok (.bipush 9, 2) := by decide +kernel
theorem dX2_init_24 : decode cX2_init 24 = .ok (.newarray .int, 2) := by decide +kernel
theorem dX2_init_26 : decode cX2_init 26 = .ok (.putfield 18, 3) := by decide +kernel
theorem dX2_init_29 : decode cX2_init 29 = .ok (.aload_n 0, 1) := by decide +kernel
theorem dX2_init_30 : decode cX2_init 30 = .ok (.bipush 9, 2) := by decide +kernel
theorem dX2_init_32 : decode cX2_init 32 = .ok (.newarray .int, 2) := by decide +kernel
theorem dX2_init_34 : decode cX2_init 34 = .ok (.putfield 21, 3) := by decide +kernel
theorem dX2_init_37 : decode cX2_init 37 = .ok (.return_, 1) := by decide +kernel
theorem dX2_append_0 : decode cX2_append 0 = .ok (.aload_n 0, 1) := by decide +kernel
theorem dX2_append_1 : decode cX2_append 1 = .ok (.getfield 24, 3) := by decide +kernel
theorem dX2_append_4 : decode cX2_append 4 = .ok (.sipush 240, 3) := by decide +kernel
theorem dX2_append_7 : decode cX2_append 7 = .ok (.if_icmp .lt 6, 3) := by decide +kernel
theorem dX2_append_10 : decode cX2_append 10 = .ok (.ldc 28, 2) := by decide +kernel
theorem dX2_append_12 : decode cX2_append 12 = .ok (.ireturn, 1) := by decide +kernel
theorem dX2_append_13 : decode cX2_append 13 = .ok (.aload_n 0, 1) := by decide +kernel
theorem dX2_append_14 : decode cX2_append 14 = .ok (.getfield 9, 3) := by decide +kernel
theorem dX2_append_17 : decode cX2_append 17 = .ok (.aload_n 0, 1) := by decide +kernel
theorem dX2_append_18 : decode cX2_append 18 = .ok (.getfield 24, 3) := by decide +kernel
theorem dX2_append_21 : decode cX2_append 21 = .ok (.iload_n 1, 1) := by decide +kernel
theorem dX2_append_22 : decode cX2_append 22 = .ok (.iastore, 1) := by decide +kernel
theorem dX2_append_23 : decode cX2_append 23 = .ok (.aload_n 0, 1) := by decide +kernel
theorem dX2_append_24 : decode cX2_append 24 = .ok (.dup, 1) := by decide +kernel
theorem dX2_append_25 : decode cX2_append 25 = .ok (.getfield 24, 3) := by decide +kernel
theorem dX2_append_28 : decode cX2_append 28 = .ok (.iconst 1, 1) := by decide +kernel
theorem dX2_append_29 : decode cX2_append 29 = .ok (.iadd, 1) := by decide +kernel
theorem dX2_append_30 : decode cX2_append 30 = .ok (.putfield 24, 3) := by decide +kernel
theorem dX2_append_33 : decode cX2_append 33 = .ok (.aload_n 0, 1) := by decide +kernel
theorem dX2_append_34 : decode cX2_append 34 = .ok (.getfield 24, 3) := by decide +kernel
theorem dX2_append_37 : decode cX2_append 37 = .ok (.ireturn, 1) := by decide +kernel
theorem dX2_read_0 : decode cX2_read 0 = .ok (.aload_n 0, 1) := by decide +kernel
theorem dX2_read_1 : decode cX2_read 1 = .ok (.iconst 0, 1) := by decide +kernel
theorem dX2_read_2 : decode cX2_read 2 = .ok (.putfield 29, 3) := by decide +kernel
theorem dX2_read_5 : decode cX2_read 5 = .ok (.aload_n 0, 1) := by decide +kernel
theorem dX2_read_6 : decode cX2_read 6 = .ok (.iconst (-1), 1) := by decide +kernel
theorem dX2_read_7 : decode cX2_read 7 = .ok (.putfield 32, 3) := by decide +kernel
theorem dX2_read_10 : decode cX2_read 10 = .ok (.aload_n 0, 1) := by decide +kernel
theorem dX2_read_11 : decode cX2_read 11 = .ok (.iconst 0, 1) := by decide +kernel
theorem dX2_read_12 : decode cX2_read 12 = .ok (.putfield 35, 3) := by decide +kernel
theorem dX2_read_15 : decode cX2_read 15 = .ok (.aload_n 0, 1) := by decide +kernel
theorem dX2_read_16 : decode cX2_read 16 = .ok (.iconst 0, 1) := by decide +kernel
theorem dX2_read_17 : decode cX2_read 17 = .ok (.putfield 38, 3) := by decide +kernel
theorem dX2_read_20 : decode cX2_read 20 = .ok (.aload_n 0, 1) := by decide +kernel
theorem dX2_read_21 : decode cX2_read 21 = .ok (.iconst (-1), 1) := by decide +kernel
theorem dX2_read_22 : decode cX2_read 22 = .ok (.putfield 41, 3) := by decide +kernel
theorem dX2_read_25 : decode cX2_read 25 = .ok (.aload_n 0, 1) := by decide +kernel
theorem dX2_read_26 : decode cX2_read 26 = .ok (.invokevirtual 44, 3) := by decide +kernel
theorem dX2_read_29 : decode cX2_read 29 = .ok (.ifCond .eq 7, 3) := by decide +kernel
theorem dX2_read_32 : decode cX2_read 32 = .ok (.aload_n 0, 1) := by decide +kernel
theorem dX2_read_33 : decode cX2_read 33 = .ok (.invokevirtual 48, 3) := by decide +kernel
theorem dX2_read_36 : decode cX2_read 36 = .ok (.iconst 0, 1) := by decide +kernel
theorem dX2_read_37 : decode cX2_read 37 = .ok (.istore_n 1, 1) := by decide +kernel
theorem dX2_read_38 : decode cX2_read 38 = .ok (.iload_n 1, 1) := by decide +kernel
theorem dX2_read_39 : decode cX2_read 39 = .ok (.sipush 240, 3) := by decide +kernel
theorem dX2_read_42 : decode cX2_read 42 = .ok (.if_icmp .ge 27, 3) := by decide +kernel
theorem dX2_read_45 : decode cX2_read 45 = .ok (.aload_n 0, 1) := by decide +kernel
theorem dX2_read_46 : decode cX2_read 46 = .ok (.getfield 38, 3) := by decide +kernel
theorem dX2_read_49 : decode cX2_read 49 = .ok (.ifCond .ne 20, 3) := by decide +kernel
theorem dX2_read_52 : decode cX2_read 52 = .ok (.aload_n 0, 1) := by decide +kernel
theorem dX2_read_53 : decode cX2_read 53 = .ok (.invokevirtual 44, 3) := by decide +kernel
theorem dX2_read_56 : decode cX2_read 56 = .ok (.ifCond .eq 13, 3) := by decide +kernel
theorem dX2_read_59 : decode cX2_read 59 = .ok (.aload_n 0, 1) := by decide +kernel
theorem dX2_read_60 : decode cX2_read 60 = .ok (.invokevirtual 51, 3) := by decide +kernel
theorem dX2_read_63 : decode cX2_read 63 = .ok (.iinc 1 1, 3) := by decide +kernel
theorem dX2_read_66 : decode cX2_read 66 = .ok (.goto (-28), 3) := by decide +kernel
theorem dX2_read_69 : decode cX2_read 69 = .ok (.aload_n 0, 1) := by decide +kernel
theorem dX2_read_70 : decode cX2_read 70 = .ok (.iconst 0, 1) := by decide +kernel
theorem dX2_read_71 : decode cX2_read 71 = .ok (.putfield 24, 3) := by decide +kernel
theorem dX2_read_74 : decode cX2_read 74 = .ok (.aload_n 0, 1) := by decide +kernel
theorem dX2_read_75 : decode cX2_read 75 = .ok (.getfield 38, 3) := by decide +kernel
theorem dX2_read_78 : decode cX2_read 78 = .ok (.ireturn, 1) := by decide +kernel
theorem dX2_readFloor_0 : decode cX2_readFloor 0 = .ok (.aload_n 0, 1) := by decide +kernel
theorem dX2_readFloor_1 : decode cX2_readFloor 1 = .ok (.bipush 103, 2) := by decide +kernel
theorem dX2_readFloor_3 : decode cX2_readFloor 3 = .ok (.invokevirtual 54, 3) := by decide +kernel
theorem dX2_readFloor_6 : decode cX2_readFloor 6 = .ok (.aload_n 0, 1) := by decide +kernel
theorem dX2_readFloor_7 : decode cX2_readFloor 7 = .ok (.aload_n 0, 1) := by decide +kernel
theorem dX2_readFloor_8 : decode cX2_readFloor 8 = .ok (.iconst 0, 1) := by decide +kernel
theorem dX2_readFloor_9 : decode cX2_readFloor 9 = .ok (.bipush 9, 2) := by decide +kernel
theorem dX2_readFloor_11 : decode cX2_readFloor 11 = .ok (.invokevirtual 58, 3) := by decide +kernel
theorem dX2_readFloor_14 : decode cX2_readFloor 14 = .ok (.putfield 32, 3) := by decide +kernel
theorem dX2_readFloor_17 : decode cX2_readFloor 17 = .ok (.aload_n 0, 1) := by decide +kernel
theorem dX2_readFloor_18 : decode cX2_readFloor 18 = .ok (.bipush 59, 2) := by decide +kernel
theorem dX2_readFloor_20 : decode cX2_readFloor 20 = .ok (.invokevirtual 54, 3) := by decide +kernel
theorem dX2_readFloor_23 : decode cX2_readFloor 23 = .ok (.return_, 1) := by decide +kernel
theorem dX2_readSkittle_0 : decode cX2_readSkittle 0 = .ok (.aload_n 0, 1) := by decide +kernel
theorem dX2_readSkittle_1 : decode cX2_readSkittle 1 = .ok (.bipush 103, 2) := by decide +kernel
theorem dX2_readSkittle_3 : decode cX2_readSkittle 3 = .ok (.invokevirtual 62, 3) := by decide +kernel
theorem dX2_readSkittle_6 : decode cX2_readSkittle 6 = .ok (.ifCond .ne 21, 3) := by decide +kernel
theorem dX2_readSkittle_9 : decode cX2_readSkittle 9 = .ok (.aload_n 0, 1) := by decide +kernel
theorem dX2_readSkittle_10 : decode cX2_readSkittle 10 = .ok (.bipush 115, 2) := by decide +kernel
theorem dX2_readSkittle_12 : decode cX2_readSkittle 12 = .ok (.invokevirtual 62, 3) := by decide +kernel
theorem dX2_readSkittle_15 : decode cX2_readSkittle 15 = .ok (.ifCond .eq 22, 3) := by decide +kernel
theorem dX2_readSkittle_18 : decode cX2_readSkittle 18 = .ok (.aload_n 0, 1) := by decide +kernel
theorem dX2_readSkittle_19 : decode cX2_readSkittle 19 = .ok (.getfield 35, 3) := by decide +kernel
theorem dX2_readSkittle_22 : decode cX2_readSkittle 22 = .ok (.bipush 9, 2) := by decide +kernel
theorem dX2_readSkittle_24 : decode cX2_readSkittle 24 = .ok (.if_icmp .lt 13, 3) := by decide +kernel
theorem dX2_readSkittle_27 : decode cX2_readSkittle 27 = .ok (.aload_n 0, 1) := by decide +kernel
theorem dX2_readSkittle_28 : decode cX2_readSkittle 28 = .ok (.iconst 3, 1) := by decide +kernel
theorem dX2_readSkittle_29 : decode cX2_readSkittle 29 = .ok (.aload_n 0, 1) := by decide +kernel
theorem dX2_readSkittle_30 : decode cX2_readSkittle 30 = .ok (.getfield 29, 3) := by decide +kernel
theorem dX2_readSkittle_33 : decode cX2_readSkittle 33 = .ok (.invokevirtual 66, 3) := by decide +kernel
theorem dX2_readSkittle_36 : decode cX2_readSkittle 36 = .ok (.return_, 1) := by decide +kernel
theorem dX2_readSkittle_37 : decode cX2_readSkittle 37 = .ok (.aload_n 0, 1) := by decide +kernel
theorem dX2_readSkittle_38 : decode cX2_readSkittle 38 = .ok (.bipush 115, 2) := by decide +kernel
theorem dX2_readSkittle_40 : decode cX2_readSkittle 40 = .ok (.invokevirtual 54, 3) := by decide +kernel
theorem dX2_readSkittle_43 : decode cX2_readSkittle 43 = .ok (.aload_n 0, 1) := by decide +kernel
theorem dX2_readSkittle_44 : decode cX2_readSkittle 44 = .ok (.iconst 0, 1) := by decide +kernel
theorem dX2_readSkittle_45 : decode cX2_readSkittle 45 = .ok (.iconst 3, 1) := by decide +kernel
theorem dX2_readSkittle_46 : decode cX2_readSkittle 46 = .ok (.invokevirtual 58, 3) := by decide +kernel
theorem dX2_readSkittle_49 : decode cX2_readSkittle 49 = .ok (.istore_n 1, 1) := by decide +kernel
theorem dX2_readSkittle_50 : decode cX2_readSkittle 50 = .ok (.aload_n 0, 1) := by decide +kernel
theorem dX2_readSkittle_51 : decode cX2_readSkittle 51 = .ok (.iconst 1, 1) := by decide +kernel
theorem dX2_readSkittle_52 : decode cX2_readSkittle 52 = .ok (.bipush 20, 2) := by decide +kernel
theorem dX2_readSkittle_54 : decode cX2_readSkittle 54 = .ok (.invokevirtual 58, 3) := by decide +kernel
theorem dX2_readSkittle_57 : decode cX2_readSkittle 57 = .ok (.istore_n 2, 1) := by decide +kernel
theorem dX2_readSkittle_58 : decode cX2_readSkittle 58 = .ok (.aload_n 0, 1) := by decide +kernel
theorem dX2_readSkittle_59 : decode cX2_readSkittle 59 = .ok (.iconst 0, 1) := by decide +kernel
theorem dX2_readSkittle_60 : decode cX2_readSkittle 60 = .ok (.bipush 9, 2) := by decide +kernel
theorem dX2_readSkittle_62 : decode cX2_readSkittle 62 = .ok (.invokevirtual 58, 3) := by decide +kernel
theorem dX2_readSkittle_65 : decode cX2_readSkittle 65 = .ok (.istore_n 3, 1) := by decide +kernel
theorem dX2_readSkittle_66 : decode cX2_readSkittle 66 = .ok (.aload_n 0, 1) := by decide +kernel
theorem dX2_readSkittle_67 : decode cX2_readSkittle 67 = .ok (.bipush 59, 2) := by decide +kernel
theorem dX2_readSkittle_69 : decode cX2_readSkittle 69 = .ok (.invokevirtual 54, 3) := by decide +kernel
theorem dX2_readSkittle_72 : decode cX2_readSkittle 72 = .ok (.aload_n 0, 1) := by decide +kernel
theorem dX2_readSkittle_73 : decode cX2_readSkittle 73 = .ok (.getfield 38, 3) := by decide +kernel
theorem dX2_readSkittle_76 : decode cX2_readSkittle 76 = .ok (.ifCond .ne 52, 3) := by decide +kernel
theorem dX2_readSkittle_79 : decode cX2_readSkittle 79 = .ok (.aload_n 0, 1) := by decide +kernel
theorem dX2_readSkittle_80 : decode cX2_readSkittle 80 = .ok (.getfield 35, 3) := by decide +kernel
theorem dX2_readSkittle_83 : decode cX2_readSkittle 83 = .ok (.bipush 9, 2) := by decide +kernel
theorem dX2_readSkittle_85 : decode cX2_readSkittle 85 = .ok (.if_icmp .ge 43, 3) := by decide +kernel
theorem dX2_readSkittle_88 : decode cX2_readSkittle 88 = .ok (.aload_n 0, 1) := by decide +kernel
theorem dX2_readSkittle_89 : decode cX2_readSkittle 89 = .ok (.getfield 15, 3) := by decide +kernel
theorem dX2_readSkittle_92 : decode cX2_readSkittle 92 = .ok (.aload_n 0, 1) := by decide +kernel
theorem dX2_readSkittle_93 : decode cX2_readSkittle 93 = .ok (.getfield 35, 3) := by decide +kernel
theorem dX2_readSkittle_96 : decode cX2_readSkittle 96 = .ok (.iload_n 1, 1) := by decide +kernel
theorem dX2_readSkittle_97 : decode cX2_readSkittle 97 = .ok (.iastore, 1) := by decide +kernel
theorem dX2_readSkittle_98 : decode cX2_readSkittle 98 = .ok (.aload_n 0, 1) := by decide +kernel
theorem dX2_readSkittle_99 : decode cX2_readSkittle 99 = .ok (.getfield 18, 3) := by decide +kernel
theorem dX2_readSkittle_102 : decode cX2_readSkittle 102 = .ok (.aload_n 0, 1) := by decide +kernel
theorem dX2_readSkittle_103 : decode cX2_readSkittle 103 = .ok (.getfield 35, 3) := by decide +kernel
theorem dX2_readSkittle_106 : decode cX2_readSkittle 106 = .ok (.iload_n 2, 1) := by decide +kernel
theorem dX2_readSkittle_107 : decode cX2_readSkittle 107 = .ok (.iastore, 1) := by decide +kernel
theorem dX2_readSkittle_108 : decode cX2_readSkittle 108 = .ok (.aload_n 0, 1) := by decide +kernel
theorem dX2_readSkittle_109 : decode cX2_readSkittle 109 = .ok (.getfield 21, 3) := by decide +kernel
theorem dX2_readSkittle_112 : decode cX2_readSkittle 112 = .ok (.aload_n 0, 1) := by decide +kernel
theorem dX2_readSkittle_113 : decode cX2_readSkittle 113 = .ok (.getfield 35, 3) := by decide +kernel
theorem dX2_readSkittle_116 : decode cX2_readSkittle 116 = .ok (.iload_n 3, 1) := by decide +kernel
theorem dX2_readSkittle_117 : decode cX2_readSkittle 117 = .ok (.iastore, 1) := by decide +kernel
theorem dX2_readSkittle_118 : decode cX2_readSkittle 118 = .ok (.aload_n 0, 1) := by decide +kernel
theorem dX2_readSkittle_119 : decode cX2_readSkittle 119 = .ok (.dup, 1) := by decide +kernel
theorem dX2_readSkittle_120 : decode cX2_readSkittle 120 = .ok (.getfield 35, 3) := by decide +kernel
theorem dX2_readSkittle_123 : decode cX2_readSkittle 123 = .ok (.iconst 1, 1) := by decide +kernel
theorem dX2_readSkittle_124 : decode cX2_readSkittle 124 = .ok (.iadd, 1) := by decide +kernel
theorem dX2_readSkittle_125 : decode cX2_readSkittle 125 = .ok (.putfield 35, 3) := by decide +kernel
theorem dX2_readSkittle_128 : decode cX2_readSkittle 128 = .ok (.return_, 1) := by decide +kernel
theorem dX2_isMore_0 : decode cX2_isMore 0 = .ok (.aload_n 0, 1) := by decide +kernel
theorem dX2_isMore_1 : decode cX2_isMore 1 = .ok (.getfield 29, 3) := by decide +kernel
theorem dX2_isMore_4 : decode cX2_isMore 4 = .ok (.aload_n 0, 1) := by decide +kernel
theorem dX2_isMore_5 : decode cX2_isMore 5 = .ok (.getfield 24, 3) := by decide +kernel
theorem dX2_isMore_8 : decode cX2_isMore 8 = .ok (.if_icmp .ge 25, 3) := by decide +kernel
theorem dX2_isMore_11 : decode cX2_isMore 11 = .ok (.aload_n 0, 1) := by decide +kernel
theorem dX2_isMore_12 : decode cX2_isMore 12 = .ok (.bipush 32, 2) := by decide +kernel
theorem dX2_isMore_14 : decode cX2_isMore 14 = .ok (.invokevirtual 62, 3) := by decide +kernel
theorem dX2_isMore_17 : decode cX2_isMore 17 = .ok (.ifCond .eq 16, 3) := by decide +kernel
theorem dX2_isMore_20 : decode cX2_isMore 20 = .ok (.aload_n 0, 1) := by decide +kernel
theorem dX2_isMore_21 : decode cX2_isMore 21 = .ok (.dup, 1) := by decide +kernel
theorem dX2_isMore_22 : decode cX2_isMore 22 = .ok (.getfield 29, 3) := by decide +kernel
theorem dX2_isMore_25 : decode cX2_isMore 25 = .ok (.iconst 1, 1) := by decide +kernel
theorem dX2_isMore_26 : decode cX2_isMore 26 = .ok (.iadd, 1) := by decide +kernel
theorem dX2_isMore_27 : decode cX2_isMore 27 = .ok (.putfield 29, 3) := by decide +kernel
theorem dX2_isMore_30 : decode cX2_isMore 30 = .ok (.goto (-30), 3) := by decide +kernel
theorem dX2_isMore_33 : decode cX2_isMore 33 = .ok (.aload_n 0, 1) := by decide +kernel
theorem dX2_isMore_34 : decode cX2_isMore 34 = .ok (.getfield 29, 3) := by decide +kernel
theorem dX2_isMore_37 : decode cX2_isMore 37 = .ok (.aload_n 0, 1) := by decide +kernel
theorem dX2_isMore_38 : decode cX2_isMore 38 = .ok (.getfield 24, 3) := by decide +kernel
theorem dX2_isMore_41 : decode cX2_isMore 41 = .ok (.if_icmp .ge 7, 3) := by decide +kernel
theorem dX2_isMore_44 : decode cX2_isMore 44 = .ok (.iconst 1, 1) := by decide +kernel
theorem dX2_isMore_45 : decode cX2_isMore 45 = .ok (.goto 4, 3) := by decide +kernel
theorem dX2_isMore_48 : decode cX2_isMore 48 = .ok (.iconst 0, 1) := by decide +kernel
theorem dX2_isMore_49 : decode cX2_isMore 49 = .ok (.ireturn, 1) := by decide +kernel
theorem dX2_sees_0 : decode cX2_sees 0 = .ok (.aload_n 0, 1) := by decide +kernel
theorem dX2_sees_1 : decode cX2_sees 1 = .ok (.getfield 29, 3) := by decide +kernel
theorem dX2_sees_4 : decode cX2_sees 4 = .ok (.aload_n 0, 1) := by decide +kernel
theorem dX2_sees_5 : decode cX2_sees 5 = .ok (.getfield 24, 3) := by decide +kernel
theorem dX2_sees_8 : decode cX2_sees 8 = .ok (.if_icmp .ge 30, 3) := by decide +kernel
theorem dX2_sees_11 : decode cX2_sees 11 = .ok (.aload_n 0, 1) := by decide +kernel
theorem dX2_sees_12 : decode cX2_sees 12 = .ok (.getfield 29, 3) := by decide +kernel
theorem dX2_sees_15 : decode cX2_sees 15 = .ok (.sipush 240, 3) := by decide +kernel
theorem dX2_sees_18 : decode cX2_sees 18 = .ok (.if_icmp .ge 20, 3) := by decide +kernel
theorem dX2_sees_21 : decode cX2_sees 21 = .ok (.aload_n 0, 1) := by decide +kernel
theorem dX2_sees_22 : decode cX2_sees 22 = .ok (.getfield 9, 3) := by decide +kernel
theorem dX2_sees_25 : decode cX2_sees 25 = .ok (.aload_n 0, 1) := by decide +kernel
theorem dX2_sees_26 : decode cX2_sees 26 = .ok (.getfield 29, 3) := by decide +kernel
theorem dX2_sees_29 : decode cX2_sees 29 = .ok (.iaload, 1) := by decide +kernel
theorem dX2_sees_30 : decode cX2_sees 30 = .ok (.iload_n 1, 1) := by decide +kernel
theorem dX2_sees_31 : decode cX2_sees 31 = .ok (.if_icmp .ne 7, 3) := by decide +kernel
theorem dX2_sees_34 : decode cX2_sees 34 = .ok (.iconst 1, 1) := by decide +kernel
theorem dX2_sees_35 : decode cX2_sees 35 = .ok (.goto 4, 3) := by decide +kernel
theorem dX2_sees_38 : decode cX2_sees 38 = .ok (.iconst 0, 1) := by decide +kernel
theorem dX2_sees_39 : decode cX2_sees 39 = .ok (.ireturn, 1) := by decide +kernel
theorem dX2_seesFigure_0 : decode cX2_seesFigure 0 = .ok (.aload_n 0, 1) := by decide +kernel
theorem dX2_seesFigure_1 : decode cX2_seesFigure 1 = .ok (.getfield 29, 3) := by decide +kernel
theorem dX2_seesFigure_4 : decode cX2_seesFigure 4 = .ok (.aload_n 0, 1) := by decide +kernel
theorem dX2_seesFigure_5 : decode cX2_seesFigure 5 = .ok (.getfield 24, 3) := by decide +kernel
theorem dX2_seesFigure_8 : decode cX2_seesFigure 8 = .ok (.if_icmp .ge 45, 3) := by decide +kernel
theorem dX2_seesFigure_11 : decode cX2_seesFigure 11 = .ok (.aload_n 0, 1) := by decide +kernel
theorem dX2_seesFigure_12 : decode cX2_seesFigure 12 = .ok (.getfield 29, 3) := by decide +kernel
theorem dX2_seesFigure_15 : decode cX2_seesFigure 15 = .ok (.sipush 240, 3) := by decide +kernel
theorem dX2_seesFigure_18 : decode cX2_seesFigure 18 = .ok (.if_icmp .ge 35, 3) := by decide +kernel
theorem dX2_seesFigure_21 : decode cX2_seesFigure 21 = .ok (.aload_n 0, 1) := by decide +kernel
theorem dX2_seesFigure_22 : decode cX2_seesFigure 22 = .ok (.getfield 9, 3) := by decide +kernel
theorem dX2_seesFigure_25 : decode cX2_seesFigure 25 = .ok (.aload_n 0, 1) := by decide +kernel
theorem dX2_seesFigure_26 : decode cX2_seesFigure 26 = .ok (.getfield 29, 3) := by decide +kernel
theorem dX2_seesFigure_29 : decode cX2_seesFigure 29 = .ok (.iaload, 1) := by decide +kernel
theorem dX2_seesFigure_30 : decode cX2_seesFigure 30 = .ok (.bipush 48, 2) := by decide +kernel
theorem dX2_seesFigure_32 : decode cX2_seesFigure 32 = .ok (.if_icmp .lt 21, 3) := by decide +kernel
theorem dX2_seesFigure_35 : decode cX2_seesFigure 35 = .ok (.aload_n 0, 1) := by decide +kernel
theorem dX2_seesFigure_36 : decode cX2_seesFigure 36 = .ok (.getfield 9, 3) := by decide +kernel
theorem dX2_seesFigure_39 : decode cX2_seesFigure 39 = .ok (.aload_n 0, 1) := by decide +kernel
theorem dX2_seesFigure_40 : decode cX2_seesFigure 40 = .ok (.getfield 29, 3) := by decide +kernel
theorem dX2_seesFigure_43 : decode cX2_seesFigure 43 = .ok (.iaload, 1) := by decide +kernel
theorem dX2_seesFigure_44 : decode cX2_seesFigure 44 = .ok (.bipush 57, 2) := by decide +kernel
theorem dX2_seesFigure_46 : decode cX2_seesFigure 46 = .ok (.if_icmp .gt 7, 3) := by decide +kernel
theorem dX2_seesFigure_49 : decode cX2_seesFigure 49 = .ok (.iconst 1, 1) := by decide +kernel
theorem dX2_seesFigure_50 : decode cX2_seesFigure 50 = .ok (.goto 4, 3) := by decide +kernel
theorem dX2_seesFigure_53 : decode cX2_seesFigure 53 = .ok (.iconst 0, 1) := by decide +kernel
theorem dX2_seesFigure_54 : decode cX2_seesFigure 54 = .ok (.ireturn, 1) := by decide +kernel
theorem dX2_takeSign_0 : decode cX2_takeSign 0 = .ok (.aload_n 0, 1) := by decide +kernel
theorem dX2_takeSign_1 : decode cX2_takeSign 1 = .ok (.getfield 38, 3) := by decide +kernel
theorem dX2_takeSign_4 : decode cX2_takeSign 4 = .ok (.ifCond .eq 4, 3) := by decide +kernel
theorem dX2_takeSign_7 : decode cX2_takeSign 7 = .ok (.return_, 1) := by decide +kernel
theorem dX2_takeSign_8 : decode cX2_takeSign 8 = .ok (.aload_n 0, 1) := by decide +kernel
theorem dX2_takeSign_9 : decode cX2_takeSign 9 = .ok (.invokevirtual 44, 3) := by decide +kernel
theorem dX2_takeSign_12 : decode cX2_takeSign 12 = .ok (.ifCond .eq 24, 3) := by decide +kernel
theorem dX2_takeSign_15 : decode cX2_takeSign 15 = .ok (.aload_n 0, 1) := by decide +kernel
theorem dX2_takeSign_16 : decode cX2_takeSign 16 = .ok (.iload_n 1, 1) := by decide +kernel
theorem dX2_takeSign_17 : decode cX2_takeSign 17 = .ok (.invokevirtual 62, 3) := by decide +kernel
theorem dX2_takeSign_20 : decode cX2_takeSign 20 = .ok (.ifCond .eq 16, 3) := by decide +kernel
theorem dX2_takeSign_23 : decode cX2_takeSign 23 = .ok (.aload_n 0, 1) := by decide +kernel
theorem dX2_takeSign_24 : decode cX2_takeSign 24 = .ok (.dup, 1) := by decide +kernel
theorem dX2_takeSign_25 : decode cX2_takeSign 25 = .ok (.getfield 29, 3) := by decide +kernel
theorem dX2_takeSign_28 : decode cX2_takeSign 28 = .ok (.iconst 1, 1) := by decide +kernel
theorem dX2_takeSign_29 : decode cX2_takeSign 29 = .ok (.iadd, 1) := by decide +kernel
theorem dX2_takeSign_30 : decode cX2_takeSign 30 = .ok (.putfield 29, 3) := by decide +kernel
theorem dX2_takeSign_33 : decode cX2_takeSign 33 = .ok (.goto 12, 3) := by decide +kernel
theorem dX2_takeSign_36 : decode cX2_takeSign 36 = .ok (.aload_n 0, 1) := by decide +kernel
theorem dX2_takeSign_37 : decode cX2_takeSign 37 = .ok (.iconst 1, 1) := by decide +kernel
theorem dX2_takeSign_38 : decode cX2_takeSign 38 = .ok (.aload_n 0, 1) := by decide +kernel
theorem dX2_takeSign_39 : decode cX2_takeSign 39 = .ok (.getfield 29, 3) := by decide +kernel
theorem dX2_takeSign_42 : decode cX2_takeSign 42 = .ok (.invokevirtual 66, 3) := by decide +kernel
theorem dX2_takeSign_45 : decode cX2_takeSign 45 = .ok (.return_, 1) := by decide +kernel
theorem dX2_takeNumber_0 : decode cX2_takeNumber 0 = .ok (.aload_n 0, 1) := by decide +kernel
theorem dX2_takeNumber_1 : decode cX2_takeNumber 1 = .ok (.getfield 38, 3) := by decide +kernel
theorem dX2_takeNumber_4 : decode cX2_takeNumber 4 = .ok (.ifCond .eq 5, 3) := by decide +kernel
theorem dX2_takeNumber_7 : decode cX2_takeNumber 7 = .ok (.iload_n 1, 1) := by decide +kernel
theorem dX2_takeNumber_8 : decode cX2_takeNumber 8 = .ok (.ireturn, 1) := by decide +kernel
theorem dX2_takeNumber_9 : decode cX2_takeNumber 9 = .ok (.aload_n 0, 1) := by decide +kernel
theorem dX2_takeNumber_10 : decode cX2_takeNumber 10 = .ok (.invokevirtual 44, 3) := by decide +kernel
theorem dX2_takeNumber_13 : decode cX2_takeNumber 13 = .ok (.ifCond .eq 10, 3) := by decide +kernel
theorem dX2_takeNumber_16 : decode cX2_takeNumber 16 = .ok (.aload_n 0, 1) := by decide +kernel
theorem dX2_takeNumber_17 : decode cX2_takeNumber 17 = .ok (.invokevirtual 70, 3) := by decide +kernel
theorem dX2_takeNumber_20 : decode cX2_takeNumber 20 = .ok (.ifCond .ne 14, 3) := by decide +kernel
theorem dX2_takeNumber_23 : decode cX2_takeNumber 23 = .ok (.aload_n 0, 1) := by decide +kernel
theorem dX2_takeNumber_24 : decode cX2_takeNumber 24 = .ok (.iconst 1, 1) := by decide +kernel
theorem dX2_takeNumber_25 : decode cX2_takeNumber 25 = .ok (.aload_n 0, 1) := by decide +kernel
theorem dX2_takeNumber_26 : decode cX2_takeNumber 26 = .ok (.getfield 29, 3) := by decide +kernel
theorem dX2_takeNumber_29 : decode cX2_takeNumber 29 = .ok (.invokevirtual 66, 3) := by decide +kernel
theorem dX2_takeNumber_32 : decode cX2_takeNumber 32 = .ok (.iload_n 1, 1) := by decide +kernel
theorem dX2_takeNumber_33 : decode cX2_takeNumber 33 = .ok (.ireturn, 1) := by decide +kernel
theorem dX2_takeNumber_34 : decode cX2_takeNumber 34 = .ok (.aload_n 0, 1) := by decide +kernel
theorem dX2_takeNumber_35 : decode cX2_takeNumber 35 = .ok (.getfield 29, 3) := by decide +kernel
theorem dX2_takeNumber_38 : decode cX2_takeNumber 38 = .ok (.istore_n 3, 1) := by decide +kernel
theorem dX2_takeNumber_39 : decode cX2_takeNumber 39 = .ok (.iconst 0, 1) := by decide +kernel
theorem dX2_takeNumber_40 : decode cX2_takeNumber 40 = .ok (.istore 4, 2) := by decide +kernel
theorem dX2_takeNumber_42 : decode cX2_takeNumber 42 = .ok (.aload_n 0, 1) := by decide +kernel
theorem dX2_takeNumber_43 : decode cX2_takeNumber 43 = .ok (.getfield 29, 3) := by decide +kernel
theorem dX2_takeNumber_46 : decode cX2_takeNumber 46 = .ok (.aload_n 0, 1) := by decide +kernel
theorem dX2_takeNumber_47 : decode cX2_takeNumber 47 = .ok (.getfield 24, 3) := by decide +kernel
theorem dX2_takeNumber_50 : decode cX2_takeNumber 50 = .ok (.if_icmp .ge 53, 3) := by decide +kernel
theorem dX2_takeNumber_53 : decode cX2_takeNumber 53 = .ok (.aload_n 0, 1) := by decide +kernel
theorem dX2_takeNumber_54 : decode cX2_takeNumber 54 = .ok (.invokevirtual 70, 3) := by decide +kernel
theorem dX2_takeNumber_57 : decode cX2_takeNumber 57 = .ok (.ifCond .eq 46, 3) := by decide +kernel
theorem dX2_takeNumber_60 : decode cX2_takeNumber 60 = .ok (.aload_n 0, 1) := by decide +kernel
theorem dX2_takeNumber_61 : decode cX2_takeNumber 61 = .ok (.getfield 29, 3) := by decide +kernel
theorem dX2_takeNumber_64 : decode cX2_takeNumber 64 = .ok (.iload_n 3, 1) := by decide +kernel
theorem dX2_takeNumber_65 : decode cX2_takeNumber 65 = .ok (.isub, 1) := by decide +kernel
theorem dX2_takeNumber_66 : decode cX2_takeNumber 66 = .ok (.iconst 3, 1) := by decide +kernel
theorem dX2_takeNumber_67 : decode cX2_takeNumber 67 = .ok (.if_icmp .ge 23, 3) := by decide +kernel
theorem dX2_takeNumber_70 : decode cX2_takeNumber 70 = .ok (.bipush 10, 2) := by decide +kernel
theorem dX2_takeNumber_72 : decode cX2_takeNumber 72 = .ok (.iload 4, 2) := by decide +kernel
theorem dX2_takeNumber_74 : decode cX2_takeNumber 74 = .ok (.imul, 1) := by decide +kernel
theorem dX2_takeNumber_75 : decode cX2_takeNumber 75 = .ok (.aload_n 0, 1) := by decide +kernel
theorem dX2_takeNumber_76 : decode cX2_takeNumber 76 = .ok (.getfield 9, 3) := by decide +kernel
theorem dX2_takeNumber_79 : decode cX2_takeNumber 79 = .ok (.aload_n 0, 1) := by decide +kernel
theorem dX2_takeNumber_80 : decode cX2_takeNumber 80 = .ok (.getfield 29, 3) := by decide +kernel
theorem dX2_takeNumber_83 : decode cX2_takeNumber 83 = .ok (.iaload, 1) := by decide +kernel
theorem dX2_takeNumber_84 : decode cX2_takeNumber 84 = .ok (.iadd, 1) := by decide +kernel
theorem dX2_takeNumber_85 : decode cX2_takeNumber 85 = .ok (.bipush 48, 2) := by decide +kernel
theorem dX2_takeNumber_87 : decode cX2_takeNumber 87 = .ok (.isub, 1) := by decide +kernel
theorem dX2_takeNumber_88 : decode cX2_takeNumber 88 = .ok (.istore 4, 2) := by decide +kernel
theorem dX2_takeNumber_90 : decode cX2_takeNumber 90 = .ok (.aload_n 0, 1) := by decide +kernel
theorem dX2_takeNumber_91 : decode cX2_takeNumber 91 = .ok (.dup, 1) := by decide +kernel
theorem dX2_takeNumber_92 : decode cX2_takeNumber 92 = .ok (.getfield 29, 3) := by decide +kernel
theorem dX2_takeNumber_95 : decode cX2_takeNumber 95 = .ok (.iconst 1, 1) := by decide +kernel
theorem dX2_takeNumber_96 : decode cX2_takeNumber 96 = .ok (.iadd, 1) := by decide +kernel
theorem dX2_takeNumber_97 : decode cX2_takeNumber 97 = .ok (.putfield 29, 3) := by decide +kernel
theorem dX2_takeNumber_100 : decode cX2_takeNumber 100 = .ok (.goto (-58), 3) := by decide +kernel
theorem dX2_takeNumber_103 : decode cX2_takeNumber 103 = .ok (.aload_n 0, 1) := by decide +kernel
theorem dX2_takeNumber_104 : decode cX2_takeNumber 104 = .ok (.getfield 29, 3) := by decide +kernel
theorem dX2_takeNumber_107 : decode cX2_takeNumber 107 = .ok (.iload_n 3, 1) := by decide +kernel
theorem dX2_takeNumber_108 : decode cX2_takeNumber 108 = .ok (.isub, 1) := by decide +kernel
theorem dX2_takeNumber_109 : decode cX2_takeNumber 109 = .ok (.iconst 3, 1) := by decide +kernel
theorem dX2_takeNumber_110 : decode cX2_takeNumber 110 = .ok (.if_icmp .gt 15, 3) := by decide +kernel
theorem dX2_takeNumber_113 : decode cX2_takeNumber 113 = .ok (.iload 4, 2) := by decide +kernel
theorem dX2_takeNumber_115 : decode cX2_takeNumber 115 = .ok (.iload_n 1, 1) := by decide +kernel
theorem dX2_takeNumber_116 : decode cX2_takeNumber 116 = .ok (.if_icmp .lt 9, 3) := by decide +kernel
theorem dX2_takeNumber_119 : decode cX2_takeNumber 119 = .ok (.iload 4, 2) := by decide +kernel
theorem dX2_takeNumber_121 : decode cX2_takeNumber 121 = .ok (.iload_n 2, 1) := by decide +kernel
theorem dX2_takeNumber_122 : decode cX2_takeNumber 122 = .ok (.if_icmp .le 9, 3) := by decide +kernel
theorem dX2_takeNumber_125 : decode cX2_takeNumber 125 = .ok (.aload_n 0, 1) := by decide +kernel
theorem dX2_takeNumber_126 : decode cX2_takeNumber 126 = .ok (.iconst 2, 1) := by decide +kernel
theorem dX2_takeNumber_127 : decode cX2_takeNumber 127 = .ok (.iload_n 3, 1) := by decide +kernel
theorem dX2_takeNumber_128 : decode cX2_takeNumber 128 = .ok (.invokevirtual 66, 3) := by decide +kernel
theorem dX2_takeNumber_131 : decode cX2_takeNumber 131 = .ok (.iload 4, 2) := by decide +kernel
theorem dX2_takeNumber_133 : decode cX2_takeNumber 133 = .ok (.ireturn, 1) := by decide +kernel
theorem dX2_fail_0 : decode cX2_fail 0 = .ok (.aload_n 0, 1) := by decide +kernel
theorem dX2_fail_1 : decode cX2_fail 1 = .ok (.iload_n 1, 1) := by decide +kernel
theorem dX2_fail_2 : decode cX2_fail 2 = .ok (.putfield 38, 3) := by decide +kernel
theorem dX2_fail_5 : decode cX2_fail 5 = .ok (.aload_n 0, 1) := by decide +kernel
theorem dX2_fail_6 : decode cX2_fail 6 = .ok (.iload_n 2, 1) := by decide +kernel
theorem dX2_fail_7 : decode cX2_fail 7 = .ok (.putfield 41, 3) := by decide +kernel
theorem dX2_fail_10 : decode cX2_fail 10 = .ok (.return_, 1) := by decide +kernel
theorem dX3_init_0 : decode cX3_init 0 = .ok (.aload_n 0, 1) := by decide +kernel
theorem dX3_init_1 : decode cX3_init 1 = .ok (.invokespecial 3, 3) := by decide +kernel
theorem dX3_init_4 : decode cX3_init 4 = .ok (.aload_n 0, 1) := by decide +kernel
theorem dX3_init_5 : decode cX3_init 5 = .ok (.bipush 9, 2) := by decide +kernel
theorem dX3_init_7 : decode cX3_init 7 = .ok (.newarray .int, 2) := by decide +kernel
theorem dX3_init_9 : decode cX3_init 9 = .ok (.putfield 9, 3) := by decide +kernel
theorem dX3_init_12 : decode cX3_init 12 = .ok (.aload_n 0, 1) := by decide +kernel
theorem dX3_init_13 : decode cX3_init 13 = .ok (.bipush 9, 2) := by decide +kernel
theorem dX3_init_15 : decode cX3_init 15 = .ok (.newarray .int, 2) := by decide +kernel
theorem dX3_init_17 : decode cX3_init 17 = .ok (.putfield 15, 3) := by decide +kernel
theorem dX3_init_20 : decode cX3_init 20 = .ok (.aload_n 0, 1) := by decide +kernel
theorem dX3_init_21 : decode cX3_init 21 = .ok (.bipush 9, 2) := by decide +kernel
theorem dX3_init_23 : decode cX3_init 23 = .ok (.newarray .int, 2) := by decide +kernel
theorem dX3_init_25 : decode cX3_init 25 = .ok (.putfield 18, 3) := by decide +kernel
theorem dX3_init_28 : decode cX3_init 28 = .ok (.aload_n 0, 1) := by decide +kernel
theorem dX3_init_29 : decode cX3_init 29 = .ok (.bipush 9, 2) := by decide +kernel
theorem dX3_init_31 : decode cX3_init 31 = .ok (.newarray .int, 2) := by decide +kernel
theorem dX3_init_33 : decode cX3_init 33 = .ok (.putfield 21, 3) := by decide +kernel
theorem dX3_init_36 : decode cX3_init 36 = .ok (.aload_n 0, 1) := by decide +kernel
theorem dX3_init_37 : decode cX3_init 37 = .ok (.bipush 9, 2) := by decide +kernel
theorem dX3_init_39 : decode cX3_init 39 = .ok (.newarray .int, 2) := by decide +kernel
theorem dX3_init_41 : decode cX3_init 41 = .ok (.putfield 24, 3) := by decide +kernel
theorem dX3_init_44 : decode cX3_init 44 = .ok (.aload_n 0, 1) := by decide +kernel
theorem dX3_init_45 : decode cX3_init 45 = .ok (.bipush 9, 2) := by decide +kernel
theorem dX3_init_47 : decode cX3_init 47 = .ok (.newarray .int, 2) := by decide +kernel
theorem dX3_init_49 : decode cX3_init 49 = .ok (.putfield 27, 3) := by decide +kernel
theorem dX3_init_52 : decode cX3_init 52 = .ok (.aload_n 0, 1) := by decide +kernel
theorem dX3_init_53 : decode cX3_init 53 = .ok (.bipush 9, 2) := by decide +kernel
theorem dX3_init_55 : decode cX3_init 55 = .ok (.newarray .int, 2) := by decide +kernel
theorem dX3_init_57 : decode cX3_init 57 = .ok (.putfield 30, 3) := by decide +kernel
theorem dX3_init_60 : decode cX3_init 60 = .ok (.aload_n 0, 1) := by decide +kernel
theorem dX3_init_61 : decode cX3_init 61 = .ok (.iconst (-1), 1) := by decide +kernel
theorem dX3_init_62 : decode cX3_init 62 = .ok (.putfield 33, 3) := by decide +kernel
theorem dX3_init_65 : decode cX3_init 65 = .ok (.iconst 0, 1) := by decide +kernel
theorem dX3_init_66 : decode cX3_init 66 = .ok (.istore_n 1, 1) := by decide +kernel
theorem dX3_init_67 : decode cX3_init 67 = .ok (.iload_n 1, 1) := by decide +kernel
theorem dX3_init_68 : decode cX3_init 68 = .ok (.bipush 9, 2) := by decide +kernel
theorem dX3_init_70 : decode cX3_init 70 = .ok (.if_icmp .ge 16, 3) := by decide +kernel
theorem dX3_init_73 : decode cX3_init 73 = .ok (.aload_n 0, 1) := by decide +kernel
theorem dX3_init_74 : decode cX3_init 74 = .ok (.getfield 30, 3) := by decide +kernel
theorem dX3_init_77 : decode cX3_init 77 = .ok (.iload_n 1, 1) := by decide +kernel
theorem dX3_init_78 : decode cX3_init 78 = .ok (.iconst (-1), 1) := by decide +kernel
theorem dX3_init_79 : decode cX3_init 79 = .ok (.iastore, 1) := by decide +kernel
theorem dX3_init_80 : decode cX3_init 80 = .ok (.iinc 1 1, 3) := by decide +kernel
theorem dX3_init_83 : decode cX3_init 83 = .ok (.goto (-16), 3) := by decide +kernel
theorem dX3_init_86 : decode cX3_init 86 = .ok (.return_, 1) := by decide +kernel
theorem dX3_copy_0 : decode cX3_copy 0 = .ok (.aload_n 1, 1) := by decide +kernel
theorem dX3_copy_1 : decode cX3_copy 1 = .ok (.getfield 9, 3) := by decide +kernel
theorem dX3_copy_4 : decode cX3_copy 4 = .ok (.iconst 0, 1) := by decide +kernel
theorem dX3_copy_5 : decode cX3_copy 5 = .ok (.aload_n 0, 1) := by decide +kernel
theorem dX3_copy_6 : decode cX3_copy 6 = .ok (.getfield 9, 3) := by decide +kernel
theorem dX3_copy_9 : decode cX3_copy 9 = .ok (.iconst 0, 1) := by decide +kernel
theorem dX3_copy_10 : decode cX3_copy 10 = .ok (.bipush 9, 2) := by decide +kernel
theorem dX3_copy_12 : decode cX3_copy 12 = .ok (.invokestatic 37, 3) := by decide +kernel
theorem dX3_copy_15 : decode cX3_copy 15 = .ok (.aload_n 1, 1) := by decide +kernel
theorem dX3_copy_16 : decode cX3_copy 16 = .ok (.getfield 15, 3) := by decide +kernel
theorem dX3_copy_19 : decode cX3_copy 19 = .ok (.iconst 0, 1) := by decide +kernel
theorem dX3_copy_20 : decode cX3_copy 20 = .ok (.aload_n 0, 1) := by decide +kernel
theorem dX3_copy_21 : decode cX3_copy 21 = .ok (.getfield 15, 3) := by decide +kernel
theorem dX3_copy_24 : decode cX3_copy 24 = .ok (.iconst 0, 1) := by decide +kernel
theorem dX3_copy_25 : decode cX3_copy 25 = .ok (.bipush 9, 2) := by decide +kernel
theorem dX3_copy_27 : decode cX3_copy 27 = .ok (.invokestatic 37, 3) := by decide +kernel
theorem dX3_copy_30 : decode cX3_copy 30 = .ok (.aload_n 1, 1) := by decide +kernel
theorem dX3_copy_31 : decode cX3_copy 31 = .ok (.getfield 18, 3) := by decide +kernel
theorem dX3_copy_34 : decode cX3_copy 34 = .ok (.iconst 0, 1) := by decide +kernel
theorem dX3_copy_35 : decode cX3_copy 35 = .ok (.aload_n 0, 1) := by decide +kernel
theorem dX3_copy_36 : decode cX3_copy 36 = .ok (.getfield 18, 3) := by decide +kernel
theorem dX3_copy_39 : decode cX3_copy 39 = .ok (.iconst 0, 1) := by decide +kernel
theorem dX3_copy_40 : decode cX3_copy 40 = .ok (.bipush 9, 2) := by decide +kernel
theorem dX3_copy_42 : decode cX3_copy 42 = .ok (.invokestatic 37, 3) := by decide +kernel
theorem dX3_copy_45 : decode cX3_copy 45 = .ok (.aload_n 1, 1) := by decide +kernel
theorem dX3_copy_46 : decode cX3_copy 46 = .ok (.getfield 21, 3) := by decide +kernel
theorem dX3_copy_49 : decode cX3_copy 49 = .ok (.iconst 0, 1) := by decide +kernel
theorem dX3_copy_50 : decode cX3_copy 50 = .ok (.aload_n 0, 1) := by decide +kernel
theorem dX3_copy_51 : decode cX3_copy 51 = .ok (.getfield 21, 3) := by decide +kernel
theorem dX3_copy_54 : decode cX3_copy 54 = .ok (.iconst 0, 1) := by decide +kernel
theorem dX3_copy_55 : decode cX3_copy 55 = .ok (.bipush 9, 2) := by decide +kernel
theorem dX3_copy_57 : decode cX3_copy 57 = .ok (.invokestatic 37, 3) := by decide +kernel
theorem dX3_copy_60 : decode cX3_copy 60 = .ok (.aload_n 1, 1) := by decide +kernel
theorem dX3_copy_61 : decode cX3_copy 61 = .ok (.getfield 24, 3) := by decide +kernel
theorem dX3_copy_64 : decode cX3_copy 64 = .ok (.iconst 0, 1) := by decide +kernel
theorem dX3_copy_65 : decode cX3_copy 65 = .ok (.aload_n 0, 1) := by decide +kernel
theorem dX3_copy_66 : decode cX3_copy 66 = .ok (.getfield 24, 3) := by decide +kernel
theorem dX3_copy_69 : decode cX3_copy 69 = .ok (.iconst 0, 1) := by decide +kernel
theorem dX3_copy_70 : decode cX3_copy 70 = .ok (.bipush 9, 2) := by decide +kernel
theorem dX3_copy_72 : decode cX3_copy 72 = .ok (.invokestatic 37, 3) := by decide +kernel
theorem dX3_copy_75 : decode cX3_copy 75 = .ok (.aload_n 1, 1) := by decide +kernel
theorem dX3_copy_76 : decode cX3_copy 76 = .ok (.getfield 27, 3) := by decide +kernel
theorem dX3_copy_79 : decode cX3_copy 79 = .ok (.iconst 0, 1) := by decide +kernel
theorem dX3_copy_80 : decode cX3_copy 80 = .ok (.aload_n 0, 1) := by decide +kernel
theorem dX3_copy_81 : decode cX3_copy 81 = .ok (.getfield 27, 3) := by decide +kernel
theorem dX3_copy_84 : decode cX3_copy 84 = .ok (.iconst 0, 1) := by decide +kernel
theorem dX3_copy_85 : decode cX3_copy 85 = .ok (.bipush 9, 2) := by decide +kernel
theorem dX3_copy_87 : decode cX3_copy 87 = .ok (.invokestatic 37, 3) := by decide +kernel
theorem dX3_copy_90 : decode cX3_copy 90 = .ok (.aload_n 1, 1) := by decide +kernel
theorem dX3_copy_91 : decode cX3_copy 91 = .ok (.getfield 30, 3) := by decide +kernel
theorem dX3_copy_94 : decode cX3_copy 94 = .ok (.iconst 0, 1) := by decide +kernel
theorem dX3_copy_95 : decode cX3_copy 95 = .ok (.aload_n 0, 1) := by decide +kernel
theorem dX3_copy_96 : decode cX3_copy 96 = .ok (.getfield 30, 3) := by decide +kernel
theorem dX3_copy_99 : decode cX3_copy 99 = .ok (.iconst 0, 1) := by decide +kernel
theorem dX3_copy_100 : decode cX3_copy 100 = .ok (.bipush 9, 2) := by decide +kernel
theorem dX3_copy_102 : decode cX3_copy 102 = .ok (.invokestatic 37, 3) := by decide +kernel
theorem dX3_copy_105 : decode cX3_copy 105 = .ok (.aload_n 0, 1) := by decide +kernel
theorem dX3_copy_106 : decode cX3_copy 106 = .ok (.aload_n 1, 1) := by decide +kernel
theorem dX3_copy_107 : decode cX3_copy 107 = .ok (.getfield 33, 3) := by decide +kernel
theorem dX3_copy_110 : decode cX3_copy 110 = .ok (.putfield 33, 3) := by decide +kernel
theorem dX3_copy_113 : decode cX3_copy 113 = .ok (.aload_n 0, 1) := by decide +kernel
theorem dX3_copy_114 : decode cX3_copy 114 = .ok (.aload_n 1, 1) := by decide +kernel
theorem dX3_copy_115 : decode cX3_copy 115 = .ok (.getfield 43, 3) := by decide +kernel
theorem dX3_copy_118 : decode cX3_copy 118 = .ok (.putfield 43, 3) := by decide +kernel
theorem dX3_copy_121 : decode cX3_copy 121 = .ok (.aload_n 0, 1) := by decide +kernel
theorem dX3_copy_122 : decode cX3_copy 122 = .ok (.aload_n 1, 1) := by decide +kernel
theorem dX3_copy_123 : decode cX3_copy 123 = .ok (.getfield 46, 3) := by decide +kernel
theorem dX3_copy_126 : decode cX3_copy 126 = .ok (.putfield 46, 3) := by decide +kernel
theorem dX3_copy_129 : decode cX3_copy 129 = .ok (.aload_n 0, 1) := by decide +kernel
theorem dX3_copy_130 : decode cX3_copy 130 = .ok (.aload_n 1, 1) := by decide +kernel
theorem dX3_copy_131 : decode cX3_copy 131 = .ok (.getfield 49, 3) := by decide +kernel
theorem dX3_copy_134 : decode cX3_copy 134 = .ok (.putfield 49, 3) := by decide +kernel
theorem dX3_copy_137 : decode cX3_copy 137 = .ok (.aload_n 0, 1) := by decide +kernel
theorem dX3_copy_138 : decode cX3_copy 138 = .ok (.aload_n 1, 1) := by decide +kernel
theorem dX3_copy_139 : decode cX3_copy 139 = .ok (.getfield 52, 3) := by decide +kernel
theorem dX3_copy_142 : decode cX3_copy 142 = .ok (.putfield 52, 3) := by decide +kernel
theorem dX3_copy_145 : decode cX3_copy 145 = .ok (.return_, 1) := by decide +kernel
theorem dX3_found_0 : decode cX3_found 0 = .ok (.aload_n 0, 1) := by decide +kernel
theorem dX3_found_1 : decode cX3_found 1 = .ok (.aload_n 1, 1) := by decide +kernel
theorem dX3_found_2 : decode cX3_found 2 = .ok (.getfield 55, 3) := by decide +kernel
theorem dX3_found_5 : decode cX3_found 5 = .ok (.putfield 33, 3) := by decide +kernel
theorem dX3_found_8 : decode cX3_found 8 = .ok (.aload_n 0, 1) := by decide +kernel
theorem dX3_found_9 : decode cX3_found 9 = .ok (.aload_n 1, 1) := by decide +kernel
theorem dX3_found_10 : decode cX3_found 10 = .ok (.getfield 58, 3) := by decide +kernel
theorem dX3_found_13 : decode cX3_found 13 = .ok (.putfield 43, 3) := by decide +kernel
theorem dX3_found_16 : decode cX3_found 16 = .ok (.iconst 0, 1) := by decide +kernel
theorem dX3_found_17 : decode cX3_found 17 = .ok (.istore_n 2, 1) := by decide +kernel
theorem dX3_found_18 : decode cX3_found 18 = .ok (.iload_n 2, 1) := by decide +kernel
theorem dX3_found_19 : decode cX3_found 19 = .ok (.bipush 9, 2) := by decide +kernel
theorem dX3_found_21 : decode cX3_found 21 = .ok (.if_icmp .ge 85, 3) := by decide +kernel
theorem dX3_found_24 : decode cX3_found 24 = .ok (.aload_n 0, 1) := by decide +kernel
theorem dX3_found_25 : decode cX3_found 25 = .ok (.getfield 9, 3) := by decide +kernel
theorem dX3_found_28 : decode cX3_found 28 = .ok (.iload_n 2, 1) := by decide +kernel
theorem dX3_found_29 : decode cX3_found 29 = .ok (.aload_n 1, 1) := by decide +kernel
theorem dX3_found_30 : decode cX3_found 30 = .ok (.getfield 59, 3) := by decide +kernel
theorem dX3_found_33 : decode cX3_found 33 = .ok (.iload_n 2, 1) := by decide +kernel
theorem dX3_found_34 : decode cX3_found 34 = .ok (.iaload, 1) := by decide +kernel
theorem dX3_found_35 : decode cX3_found 35 = .ok (.iastore, 1) := by decide +kernel
theorem dX3_found_36 : decode cX3_found 36 = .ok (.aload_n 0, 1) := by decide +kernel
theorem dX3_found_37 : decode cX3_found 37 = .ok (.getfield 15, 3) := by decide +kernel
theorem dX3_found_40 : decode cX3_found 40 = .ok (.iload_n 2, 1) := by decide +kernel
theorem dX3_found_41 : decode cX3_found 41 = .ok (.aload_n 1, 1) := by decide +kernel
theorem dX3_found_42 : decode cX3_found 42 = .ok (.getfield 60, 3) := by decide +kernel
theorem dX3_found_45 : decode cX3_found 45 = .ok (.iload_n 2, 1) := by decide +kernel
theorem dX3_found_46 : decode cX3_found 46 = .ok (.iaload, 1) := by decide +kernel
theorem dX3_found_47 : decode cX3_found 47 = .ok (.iastore, 1) := by decide +kernel
theorem dX3_found_48 : decode cX3_found 48 = .ok (.aload_n 0, 1) := by decide +kernel
theorem dX3_found_49 : decode cX3_found 49 = .ok (.getfield 18, 3) := by decide +kernel
theorem dX3_found_52 : decode cX3_found 52 = .ok (.iload_n 2, 1) := by decide +kernel
theorem dX3_found_53 : decode cX3_found 53 = .ok (.aload_n 1, 1) := by decide +kernel
theorem dX3_found_54 : decode cX3_found 54 = .ok (.getfield 61, 3) := by decide +kernel
theorem dX3_found_57 : decode cX3_found 57 = .ok (.iload_n 2, 1) := by decide +kernel
theorem dX3_found_58 : decode cX3_found 58 = .ok (.iaload, 1) := by decide +kernel
theorem dX3_found_59 : decode cX3_found 59 = .ok (.iastore, 1) := by decide +kernel
theorem dX3_found_60 : decode cX3_found 60 = .ok (.aload_n 0, 1) := by decide +kernel
theorem dX3_found_61 : decode cX3_found 61 = .ok (.getfield 21, 3) := by decide +kernel
theorem dX3_found_64 : decode cX3_found 64 = .ok (.iload_n 2, 1) := by decide +kernel
theorem dX3_found_65 : decode cX3_found 65 = .ok (.iload_n 2, 1) := by decide +kernel
theorem dX3_found_66 : decode cX3_found 66 = .ok (.iastore, 1) := by decide +kernel
theorem dX3_found_67 : decode cX3_found 67 = .ok (.aload_n 0, 1) := by decide +kernel
theorem dX3_found_68 : decode cX3_found 68 = .ok (.getfield 24, 3) := by decide +kernel
theorem dX3_found_71 : decode cX3_found 71 = .ok (.iload_n 2, 1) := by decide +kernel
theorem dX3_found_72 : decode cX3_found 72 = .ok (.iconst 0, 1) := by decide +kernel
theorem dX3_found_73 : decode cX3_found 73 = .ok (.iastore, 1) := by decide +kernel
theorem dX3_found_74 : decode cX3_found 74 = .ok (.aload_n 0, 1) := by decide +kernel
theorem dX3_found_75 : decode cX3_found 75 = .ok (.getfield 27, 3) := by decide +kernel
theorem dX3_found_78 : decode cX3_found 78 = .ok (.iload_n 2, 1) := by decide +kernel
theorem dX3_found_79 : decode cX3_found 79 = .ok (.iconst (-1), 1) := by decide +kernel
theorem dX3_found_80 : decode cX3_found 80 = .ok (.iastore, 1) := by decide +kernel
theorem dX3_found_81 : decode cX3_found 81 = .ok (.aload_n 0, 1) := by decide +kernel
theorem dX3_found_82 : decode cX3_found 82 = .ok (.getfield 30, 3) := by decide +kernel
theorem dX3_found_85 : decode cX3_found 85 = .ok (.iload_n 2, 1) := by decide +kernel
theorem dX3_found_86 : decode cX3_found 86 = .ok (.iload_n 2, 1) := by decide +kernel
theorem dX3_found_87 : decode cX3_found 87 = .ok (.aload_n 0, 1) := by decide +kernel
theorem dX3_found_88 : decode cX3_found 88 = .ok (.getfield 43, 3) := by decide +kernel
theorem dX3_found_91 : decode cX3_found 91 = .ok (.if_icmp .ge 7, 3) := by decide +kernel
theorem dX3_found_94 : decode cX3_found 94 = .ok (.iload_n 2, 1) := by decide +kernel
theorem dX3_found_95 : decode cX3_found 95 = .ok (.goto 4, 3) := by decide +kernel
theorem dX3_found_98 : decode cX3_found 98 = .ok (.iconst (-1), 1) := by decide +kernel
theorem dX3_found_99 : decode cX3_found 99 = .ok (.iastore, 1) := by decide +kernel
theorem dX3_found_100 : decode cX3_found 100 = .ok (.iinc 2 1, 3) := by decide +kernel
theorem dX3_found_103 : decode cX3_found 103 = .ok (.goto (-85), 3) := by decide +kernel
theorem dX3_found_106 : decode cX3_found 106 = .ok (.aload_n 0, 1) := by decide +kernel
theorem dX3_found_107 : decode cX3_found 107 = .ok (.invokevirtual 62, 3) := by decide +kernel
theorem dX3_found_110 : decode cX3_found 110 = .ok (.aload_n 0, 1) := by decide +kernel
theorem dX3_found_111 : decode cX3_found 111 = .ok (.iconst 0, 1) := by decide +kernel
theorem dX3_found_112 : decode cX3_found 112 = .ok (.putfield 49, 3) := by decide +kernel
theorem dX3_found_115 : decode cX3_found 115 = .ok (.aload_n 0, 1) := by decide +kernel
theorem dX3_found_116 : decode cX3_found 116 = .ok (.iconst 0, 1) := by decide +kernel
theorem dX3_found_117 : decode cX3_found 117 = .ok (.putfield 52, 3) := by decide +kernel
theorem dX3_found_120 : decode cX3_found 120 = .ok (.return_, 1) := by decide +kernel
theorem dX3_isCounty_0 : decode cX3_isCounty 0 = .ok (.aload_n 0, 1) := by decide +kernel
theorem dX3_isCounty_1 : decode cX3_isCounty 1 = .ok (.getfield 33, 3) := by decide +kernel
theorem dX3_isCounty_4 : decode cX3_isCounty 4 = .ok (.iconst (-1), 1) := by decide +kernel
theorem dX3_isCounty_5 : decode cX3_isCounty 5 = .ok (.if_icmp .eq 7, 3) := by decide +kernel
theorem dX3_isCounty_8 : decode cX3_isCounty 8 = .ok (.iconst 1, 1) := by decide +kernel
theorem dX3_isCounty_9 : decode cX3_isCounty 9 = .ok (.goto 4, 3) := by decide +kernel
theorem dX3_isCounty_12 : decode cX3_isCounty 12 = .ok (.iconst 0, 1) := by decide +kernel
theorem dX3_isCounty_13 : decode cX3_isCounty 13 = .ok (.ireturn, 1) := by decide +kernel
theorem dX3_has_0 : decode cX3_has 0 = .ok (.iload_n 1, 1) := by decide +kernel
theorem dX3_has_1 : decode cX3_has 1 = .ok (.ifCond .lt 21, 3) := by decide +kernel
theorem dX3_has_4 : decode cX3_has 4 = .ok (.iload_n 1, 1) := by decide +kernel
theorem dX3_has_5 : decode cX3_has 5 = .ok (.aload_n 0, 1) := by decide +kernel
theorem dX3_has_6 : decode cX3_has 6 = .ok (.getfield 43, 3) := by decide +kernel
theorem dX3_has_9 : decode cX3_has 9 = .ok (.if_icmp .ge 13, 3) := by decide +kernel
theorem dX3_has_12 : decode cX3_has 12 = .ok (.iload_n 1, 1) := by decide +kernel
theorem dX3_has_13 : decode cX3_has 13 = .ok (.bipush 9, 2) := by decide +kernel
theorem dX3_has_15 : decode cX3_has 15 = .ok (.if_icmp .ge 7, 3) := by decide +kernel
theorem dX3_has_18 : decode cX3_has 18 = .ok (.iconst 1, 1) := by decide +kernel
theorem dX3_has_19 : decode cX3_has 19 = .ok (.goto 4, 3) := by decide +kernel
theorem dX3_has_22 : decode cX3_has 22 = .ok (.iconst 0, 1) := by decide +kernel
theorem dX3_has_23 : decode cX3_has 23 = .ok (.ireturn, 1) := by decide +kernel
theorem dX3_hasAll_0 : decode cX3_hasAll 0 = .ok (.iload_n 1, 1) := by decide +kernel
theorem dX3_hasAll_1 : decode cX3_hasAll 1 = .ok (.ifCond .lt 17, 3) := by decide +kernel
theorem dX3_hasAll_4 : decode cX3_hasAll 4 = .ok (.iload_n 1, 1) := by decide +kernel
theorem dX3_hasAll_5 : decode cX3_hasAll 5 = .ok (.iconst 1, 1) := by decide +kernel
theorem dX3_hasAll_6 : decode cX3_hasAll 6 = .ok (.aload_n 0, 1) := by decide +kernel
theorem dX3_hasAll_7 : decode cX3_hasAll 7 = .ok (.getfield 43, 3) := by decide +kernel
theorem dX3_hasAll_10 : decode cX3_hasAll 10 = .ok (.ishl, 1) := by decide +kernel
theorem dX3_hasAll_11 : decode cX3_hasAll 11 = .ok (.if_icmp .ge 7, 3) := by decide +kernel
theorem dX3_hasAll_14 : decode cX3_hasAll 14 = .ok (.iconst 1, 1) := by decide +kernel
theorem dX3_hasAll_15 : decode cX3_hasAll 15 = .ok (.goto 4, 3) := by decide +kernel
theorem dX3_hasAll_18 : decode cX3_hasAll 18 = .ok (.iconst 0, 1) := by decide +kernel
theorem dX3_hasAll_19 : decode cX3_hasAll 19 = .ok (.ireturn, 1) := by decide +kernel
theorem dX3_stands_0 : decode cX3_stands 0 = .ok (.aload_n 0, 1) := by decide +kernel
theorem dX3_stands_1 : decode cX3_stands 1 = .ok (.iload_n 1, 1) := by decide +kernel
theorem dX3_stands_2 : decode cX3_stands 2 = .ok (.invokevirtual 65, 3) := by decide +kernel
theorem dX3_stands_5 : decode cX3_stands 5 = .ok (.ifCond .eq 19, 3) := by decide +kernel
theorem dX3_stands_8 : decode cX3_stands 8 = .ok (.aload_n 0, 1) := by decide +kernel
theorem dX3_stands_9 : decode cX3_stands 9 = .ok (.getfield 46, 3) := by decide +kernel
theorem dX3_stands_12 : decode cX3_stands 12 = .ok (.iload_n 1, 1) := by decide +kernel
theorem dX3_stands_13 : decode cX3_stands 13 = .ok (.ishr, 1) := by decide +kernel
theorem dX3_stands_14 : decode cX3_stands 14 = .ok (.iconst 1, 1) := by decide +kernel
theorem dX3_stands_15 : decode cX3_stands 15 = .ok (.iand, 1) := by decide +kernel
theorem dX3_stands_16 : decode cX3_stands 16 = .ok (.iconst 1, 1) := by decide +kernel
theorem dX3_stands_17 : decode cX3_stands 17 = .ok (.if_icmp .ne 7, 3) := by decide +kernel
theorem dX3_stands_20 : decode cX3_stands 20 = .ok (.iconst 1, 1) := by decide +kernel
theorem dX3_stands_21 : decode cX3_stands 21 = .ok (.goto 4, 3) := by decide +kernel
theorem dX3_stands_24 : decode cX3_stands 24 = .ok (.iconst 0, 1) := by decide +kernel
theorem dX3_stands_25 : decode cX3_stands 25 = .ok (.ireturn, 1) := by decide +kernel
theorem dX3_lies_0 : decode cX3_lies 0 = .ok (.aload_n 0, 1) := by decide +kernel
theorem dX3_lies_1 : decode cX3_lies 1 = .ok (.iload_n 1, 1) := by decide +kernel
theorem dX3_lies_2 : decode cX3_lies 2 = .ok (.invokevirtual 65, 3) := by decide +kernel
theorem dX3_lies_5 : decode cX3_lies 5 = .ok (.ifCond .eq 18, 3) := by decide +kernel
theorem dX3_lies_8 : decode cX3_lies 8 = .ok (.aload_n 0, 1) := by decide +kernel
theorem dX3_lies_9 : decode cX3_lies 9 = .ok (.getfield 46, 3) := by decide +kernel
theorem dX3_lies_12 : decode cX3_lies 12 = .ok (.iload_n 1, 1) := by decide +kernel
theorem dX3_lies_13 : decode cX3_lies 13 = .ok (.ishr, 1) := by decide +kernel
theorem dX3_lies_14 : decode cX3_lies 14 = .ok (.iconst 1, 1) := by decide +kernel
theorem dX3_lies_15 : decode cX3_lies 15 = .ok (.iand, 1) := by decide +kernel
theorem dX3_lies_16 : decode cX3_lies 16 = .ok (.ifCond .ne 7, 3) := by decide +kernel
theorem dX3_lies_19 : decode cX3_lies 19 = .ok (.iconst 1, 1) := by decide +kernel
theorem dX3_lies_20 : decode cX3_lies 20 = .ok (.goto 4, 3) := by decide +kernel
theorem dX3_lies_23 : decode cX3_lies 23 = .ok (.iconst 0, 1) := by decide +kernel
theorem dX3_lies_24 : decode cX3_lies 24 = .ok (.ireturn, 1) := by decide +kernel
theorem dX3_standAll_0 : decode cX3_standAll 0 = .ok (.aload_n 0, 1) := by decide +kernel
theorem dX3_standAll_1 : decode cX3_standAll 1 = .ok (.iconst 1, 1) := by decide +kernel
theorem dX3_standAll_2 : decode cX3_standAll 2 = .ok (.aload_n 0, 1) := by decide +kernel
theorem dX3_standAll_3 : decode cX3_standAll 3 = .ok (.getfield 43, 3) := by decide +kernel
theorem dX3_standAll_6 : decode cX3_standAll 6 = .ok (.ishl, 1) := by decide +kernel
theorem dX3_standAll_7 : decode cX3_standAll 7 = .ok (.iconst 1, 1) := by decide +kernel
theorem dX3_standAll_8 : decode cX3_standAll 8 = .ok (.isub, 1) := by decide +kernel
theorem dX3_standAll_9 : decode cX3_standAll 9 = .ok (.putfield 46, 3) := by decide +kernel
theorem dX3_standAll_12 : decode cX3_standAll 12 = .ok (.return_, 1) := by decide +kernel
theorem dX3_bears_0 : decode cX3_bears 0 = .ok (.aload_n 0, 1) := by decide +kernel
theorem dX3_bears_1 : decode cX3_bears 1 = .ok (.iload_n 1, 1) := by decide +kernel
theorem dX3_bears_2 : decode cX3_bears 2 = .ok (.invokevirtual 65, 3) := by decide +kernel
theorem dX3_bears_5 : decode cX3_bears 5 = .ok (.ifCond .ne 5, 3) := by decide +kernel
theorem dX3_bears_8 : decode cX3_bears 8 = .ok (.iconst 1, 1) := by decide +kernel
theorem dX3_bears_9 : decode cX3_bears 9 = .ok (.ireturn, 1) := by decide +kernel
theorem dX3_bears_10 : decode cX3_bears 10 = .ok (.aload_n 0, 1) := by decide +kernel
theorem dX3_bears_11 : decode cX3_bears 11 = .ok (.getfield 15, 3) := by decide +kernel
theorem dX3_bears_14 : decode cX3_bears 14 = .ok (.iload_n 1, 1) := by decide +kernel
theorem dX3_bears_15 : decode cX3_bears 15 = .ok (.iaload, 1) := by decide +kernel
theorem dX3_bears_16 : decode cX3_bears 16 = .ok (.aload_n 0, 1) := by decide +kernel
theorem dX3_bears_17 : decode cX3_bears 17 = .ok (.getfield 18, 3) := by decide +kernel
theorem dX3_bears_20 : decode cX3_bears 20 = .ok (.iload_n 1, 1) := by decide +kernel
theorem dX3_bears_21 : decode cX3_bears 21 = .ok (.iaload, 1) := by decide +kernel
theorem dX3_bears_22 : decode cX3_bears 22 = .ok (.isub, 1) := by decide +kernel
theorem dX3_bears_23 : decode cX3_bears 23 = .ok (.istore_n 2, 1) := by decide +kernel
theorem dX3_bears_24 : decode cX3_bears 24 = .ok (.aload_n 0, 1) := by decide +kernel
theorem dX3_bears_25 : decode cX3_bears 25 = .ok (.getfield 9, 3) := by decide +kernel
theorem dX3_bears_28 : decode cX3_bears 28 = .ok (.iload_n 1, 1) := by decide +kernel
theorem dX3_bears_29 : decode cX3_bears 29 = .ok (.iaload, 1) := by decide +kernel
theorem dX3_bears_30 : decode cX3_bears 30 = .ok (.iconst 1, 1) := by decide +kernel
theorem dX3_bears_31 : decode cX3_bears 31 = .ok (.if_icmp .ne 22, 3) := by decide +kernel
theorem dX3_bears_34 : decode cX3_bears 34 = .ok (.aload_n 0, 1) := by decide +kernel
theorem dX3_bears_35 : decode cX3_bears 35 = .ok (.getfield 15, 3) := by decide +kernel
theorem dX3_bears_38 : decode cX3_bears 38 = .ok (.iload_n 1, 1) := by decide +kernel
theorem dX3_bears_39 : decode cX3_bears 39 = .ok (.iaload, 1) := by decide +kernel
theorem dX3_bears_40 : decode cX3_bears 40 = .ok (.aload_n 0, 1) := by decide +kernel
theorem dX3_bears_41 : decode cX3_bears 41 = .ok (.getfield 18, 3) := by decide +kernel
theorem dX3_bears_44 : decode cX3_bears 44 = .ok (.iload_n 1, 1) := by decide +kernel
theorem dX3_bears_45 : decode cX3_bears 45 = .ok (.iaload, 1) := by decide +kernel
theorem dX3_bears_46 : decode cX3_bears 46 = .ok (.iconst 2, 1) := by decide +kernel
theorem dX3_bears_47 : decode cX3_bears 47 = .ok (.idiv, 1) := by decide +kernel
theorem dX3_bears_48 : decode cX3_bears 48 = .ok (.isub, 1) := by decide +kernel
theorem dX3_bears_49 : decode cX3_bears 49 = .ok (.istore_n 2, 1) := by decide +kernel
theorem dX3_bears_50 : decode cX3_bears 50 = .ok (.goto 47, 3) := by decide +kernel
theorem dX3_bears_53 : decode cX3_bears 53 = .ok (.aload_n 0, 1) := by decide +kernel
theorem dX3_bears_54 : decode cX3_bears 54 = .ok (.getfield 9, 3) := by decide +kernel
theorem dX3_bears_57 : decode cX3_bears 57 = .ok (.iload_n 1, 1) := by decide +kernel
theorem dX3_bears_58 : decode cX3_bears 58 = .ok (.iaload, 1) := by decide +kernel
theorem dX3_bears_59 : decode cX3_bears 59 = .ok (.iconst 2, 1) := by decide +kernel
theorem dX3_bears_60 : decode cX3_bears 60 = .ok (.if_icmp .ne 18, 3) := by decide +kernel
theorem dX3_bears_63 : decode cX3_bears 63 = .ok (.aload_n 0, 1) := by decide +kernel
theorem dX3_bears_64 : decode cX3_bears 64 = .ok (.getfield 21, 3) := by decide +kernel
theorem dX3_bears_67 : decode cX3_bears 67 = .ok (.iload_n 1, 1) := by decide +kernel
theorem dX3_bears_68 : decode cX3_bears 68 = .ok (.iaload, 1) := by decide +kernel
theorem dX3_bears_69 : decode cX3_bears 69 = .ok (.ifCond .ne 9, 3) := by decide +kernel
theorem dX3_bears_72 : decode cX3_bears 72 = .ok (.iinc 2 2, 3) := by decide +kernel
theorem dX3_bears_75 : decode cX3_bears 75 = .ok (.goto 22, 3) := by decide +kernel
theorem dX3_bears_78 : decode cX3_bears 78 = .ok (.aload_n 0, 1) := by decide +kernel
theorem dX3_bears_79 : decode cX3_bears 79 = .ok (.getfield 9, 3) := by decide +kernel
theorem dX3_bears_82 : decode cX3_bears 82 = .ok (.iload_n 1, 1) := by decide +kernel
theorem dX3_bears_83 : decode cX3_bears 83 = .ok (.iaload, 1) := by decide +kernel
theorem dX3_bears_84 : decode cX3_bears 84 = .ok (.iconst 3, 1) := by decide +kernel
theorem dX3_bears_85 : decode cX3_bears 85 = .ok (.if_icmp .ne 12, 3) := by decide +kernel
theorem dX3_bears_88 : decode cX3_bears 88 = .ok (.aload_n 0, 1) := by decide +kernel
theorem dX3_bears_89 : decode cX3_bears 89 = .ok (.getfield 15, 3) := by decide +kernel
theorem dX3_bears_92 : decode cX3_bears 92 = .ok (.iload_n 1, 1) := by decide +kernel
theorem dX3_bears_93 : decode cX3_bears 93 = .ok (.iaload, 1) := by decide +kernel
theorem dX3_bears_94 : decode cX3_bears 94 = .ok (.iconst 2, 1) := by decide +kernel
theorem dX3_bears_95 : decode cX3_bears 95 = .ok (.idiv, 1) := by decide +kernel
theorem dX3_bears_96 : decode cX3_bears 96 = .ok (.istore_n 2, 1) := by decide +kernel
theorem dX3_bears_97 : decode cX3_bears 97 = .ok (.iconst 1, 1) := by decide +kernel
theorem dX3_bears_98 : decode cX3_bears 98 = .ok (.iload_n 2, 1) := by decide +kernel
theorem dX3_bears_99 : decode cX3_bears 99 = .ok (.invokestatic 69, 3) := by decide +kernel
theorem dX3_bears_102 : decode cX3_bears 102 = .ok (.ireturn, 1) := by decide +kernel
theorem dX3_swap_0 : decode cX3_swap 0 = .ok (.iload_n 1, 1) := by decide +kernel
theorem dX3_swap_1 : decode cX3_swap 1 = .ok (.invokestatic 75, 3) := by decide +kernel
theorem dX3_swap_4 : decode cX3_swap 4 = .ok (.ifCond .eq 10, 3) := by decide +kernel
theorem dX3_swap_7 : decode cX3_swap 7 = .ok (.iload_n 2, 1) := by decide +kernel
theorem dX3_swap_8 : decode cX3_swap 8 = .ok (.invokestatic 75, 3) := by decide +kernel
theorem dX3_swap_11 : decode cX3_swap 11 = .ok (.ifCond .ne 4, 3) := by decide +kernel
theorem dX3_swap_14 : decode cX3_swap 14 = .ok (.return_, 1) := by decide +kernel
theorem dX3_swap_15 : decode cX3_swap 15 = .ok (.aload_n 0, 1) := by decide +kernel
theorem dX3_swap_16 : decode cX3_swap 16 = .ok (.getfield 30, 3) := by decide +kernel
theorem dX3_swap_19 : decode cX3_swap 19 = .ok (.iload_n 1, 1) := by decide +kernel
theorem dX3_swap_20 : decode cX3_swap 20 = .ok (.iaload, 1) := by decide +kernel
theorem dX3_swap_21 : decode cX3_swap 21 = .ok (.istore_n 3, 1) := by decide +kernel
theorem dX3_swap_22 : decode cX3_swap 22 = .ok (.aload_n 0, 1) := by decide +kernel
theorem dX3_swap_23 : decode cX3_swap 23 = .ok (.getfield 30, 3) := by decide +kernel
theorem dX3_swap_26 : decode cX3_swap 26 = .ok (.iload_n 2, 1) := by decide +kernel
theorem dX3_swap_27 : decode cX3_swap 27 = .ok (.iaload, 1) := by decide +kernel
theorem dX3_swap_28 : decode cX3_swap 28 = .ok (.istore 4, 2) := by decide +kernel
theorem dX3_swap_30 : decode cX3_swap 30 = .ok (.aload_n 0, 1) := by decide +kernel
theorem dX3_swap_31 : decode cX3_swap 31 = .ok (.iload_n 3, 1) := by decide +kernel
theorem dX3_swap_32 : decode cX3_swap 32 = .ok (.iload_n 2, 1) := by decide +kernel
theorem dX3_swap_33 : decode cX3_swap 33 = .ok (.invokevirtual 78, 3) := by decide +kernel
theorem dX3_swap_36 : decode cX3_swap 36 = .ok (.aload_n 0, 1) := by decide +kernel
theorem dX3_swap_37 : decode cX3_swap 37 = .ok (.iload 4, 2) := by decide +kernel
theorem dX3_swap_39 : decode cX3_swap 39 = .ok (.iload_n 1, 1) := by decide +kernel
theorem dX3_swap_40 : decode cX3_swap 40 = .ok (.invokevirtual 78, 3) := by decide +kernel
theorem dX3_swap_43 : decode cX3_swap 43 = .ok (.return_, 1) := by decide +kernel
theorem dX3_put_0 : decode cX3_put 0 = .ok (.aload_n 0, 1) := by decide +kernel
theorem dX3_put_1 : decode cX3_put 1 = .ok (.getfield 30, 3) := by decide +kernel
theorem dX3_put_4 : decode cX3_put 4 = .ok (.iload_n 2, 1) := by decide +kernel
theorem dX3_put_5 : decode cX3_put 5 = .ok (.iload_n 1, 1) := by decide +kernel
theorem dX3_put_6 : decode cX3_put 6 = .ok (.iastore, 1) := by decide +kernel
theorem dX3_put_7 : decode cX3_put 7 = .ok (.aload_n 0, 1) := by decide +kernel
theorem dX3_put_8 : decode cX3_put 8 = .ok (.iload_n 1, 1) := by decide +kernel
theorem dX3_put_9 : decode cX3_put 9 = .ok (.invokevirtual 65, 3) := by decide +kernel
theorem dX3_put_12 : decode cX3_put 12 = .ok (.ifCond .eq 10, 3) := by decide +kernel
theorem dX3_put_15 : decode cX3_put 15 = .ok (.aload_n 0, 1) := by decide +kernel
theorem dX3_put_16 : decode cX3_put 16 = .ok (.getfield 21, 3) := by decide +kernel
theorem dX3_put_19 : decode cX3_put 19 = .ok (.iload_n 1, 1) := by decide +kernel
theorem dX3_put_20 : decode cX3_put 20 = .ok (.iload_n 2, 1) := by decide +kernel
theorem dX3_put_21 : decode cX3_put 21 = .ok (.iastore, 1) := by decide +kernel
theorem dX3_put_22 : decode cX3_put 22 = .ok (.return_, 1) := by decide +kernel
theorem dX3_suffer_0 : decode cX3_suffer 0 = .ok (.iconst 0, 1) := by decide +kernel
theorem dX3_suffer_1 : decode cX3_suffer 1 = .ok (.istore_n 3, 1) := by decide +kernel
theorem dX3_suffer_2 : decode cX3_suffer 2 = .ok (.iload_n 3, 1) := by decide +kernel
theorem dX3_suffer_3 : decode cX3_suffer 3 = .ok (.bipush 9, 2) := by decide +kernel
theorem dX3_suffer_5 : decode cX3_suffer 5 = .ok (.if_icmp .ge 55, 3) := by decide +kernel
theorem dX3_suffer_8 : decode cX3_suffer 8 = .ok (.aload_n 0, 1) := by decide +kernel
theorem dX3_suffer_9 : decode cX3_suffer 9 = .ok (.getfield 24, 3) := by decide +kernel
theorem dX3_suffer_12 : decode cX3_suffer 12 = .ok (.iload_n 3, 1) := by decide +kernel
theorem dX3_suffer_13 : decode cX3_suffer 13 = .ok (.sipush 9999, 3) := by decide +kernel
theorem dX3_suffer_16 : decode cX3_suffer 16 = .ok (.aload_n 0, 1) := by decide +kernel
theorem dX3_suffer_17 : decode cX3_suffer 17 = .ok (.getfield 24, 3) := by decide +kernel
theorem dX3_suffer_20 : decode cX3_suffer 20 = .ok (.iload_n 3, 1) := by decide +kernel
theorem dX3_suffer_21 : decode cX3_suffer 21 = .ok (.iaload, 1) := by decide +kernel
theorem dX3_suffer_22 : decode cX3_suffer 22 = .ok (.aload_n 1, 1) := by decide +kernel
theorem dX3_suffer_23 : decode cX3_suffer 23 = .ok (.getfield 82, 3) := by decide +kernel
theorem dX3_suffer_26 : decode cX3_suffer 26 = .ok (.iload_n 3, 1) := by decide +kernel
theorem dX3_suffer_27 : decode cX3_suffer 27 = .ok (.iaload, 1) := by decide +kernel
theorem dX3_suffer_28 : decode cX3_suffer 28 = .ok (.iadd, 1) := by decide +kernel
theorem dX3_suffer_29 : decode cX3_suffer 29 = .ok (.invokestatic 85, 3) := by decide +kernel
theorem dX3_suffer_32 : decode cX3_suffer 32 = .ok (.iastore, 1) := by decide +kernel
theorem dX3_suffer_33 : decode cX3_suffer 33 = .ok (.iload_n 2, 1) := by decide +kernel
theorem dX3_suffer_34 : decode cX3_suffer 34 = .ok (.iload_n 3, 1) := by decide +kernel
theorem dX3_suffer_35 : decode cX3_suffer 35 = .ok (.ishr, 1) := by decide +kernel
theorem dX3_suffer_36 : decode cX3_suffer 36 = .ok (.iconst 1, 1) := by decide +kernel
theorem dX3_suffer_37 : decode cX3_suffer 37 = .ok (.iand, 1) := by decide +kernel
theorem dX3_suffer_38 : decode cX3_suffer 38 = .ok (.iconst 1, 1) := by decide +kernel
theorem dX3_suffer_39 : decode cX3_suffer 39 = .ok (.if_icmp .ne 15, 3) := by decide +kernel
theorem dX3_suffer_42 : decode cX3_suffer 42 = .ok (.aload_n 0, 1) := by decide +kernel
theorem dX3_suffer_43 : decode cX3_suffer 43 = .ok (.getfield 27, 3) := by decide +kernel
theorem dX3_suffer_46 : decode cX3_suffer 46 = .ok (.iload_n 3, 1) := by decide +kernel
theorem dX3_suffer_47 : decode cX3_suffer 47 = .ok (.aload_n 1, 1) := by decide +kernel
theorem dX3_suffer_48 : decode cX3_suffer 48 = .ok (.getfield 88, 3) := by decide +kernel
theorem dX3_suffer_51 : decode cX3_suffer 51 = .ok (.iload_n 3, 1) := by decide +kernel
theorem dX3_suffer_52 : decode cX3_suffer 52 = .ok (.iaload, 1) := by decide +kernel
theorem dX3_suffer_53 : decode cX3_suffer 53 = .ok (.iastore, 1) := by decide +kernel
theorem dX3_suffer_54 : decode cX3_suffer 54 = .ok (.iinc 3 1, 3) := by decide +kernel
theorem dX3_suffer_57 : decode cX3_suffer 57 = .ok (.goto (-55), 3) := by decide +kernel
theorem dX3_suffer_60 : decode cX3_suffer 60 = .ok (.aload_n 0, 1) := by decide +kernel
theorem dX3_suffer_61 : decode cX3_suffer 61 = .ok (.dup, 1) := by decide +kernel
theorem dX3_suffer_62 : decode cX3_suffer 62 = .ok (.getfield 46, 3) := by decide +kernel
theorem dX3_suffer_65 : decode cX3_suffer 65 = .ok (.iload_n 2, 1) := by decide +kernel
theorem dX3_suffer_66 : decode cX3_suffer 66 = .ok (.iconst (-1), 1) := by decide +kernel
theorem dX3_suffer_67 : decode cX3_suffer 67 = .ok (.ixor, 1) := by decide +kernel
theorem dX3_suffer_68 : decode cX3_suffer 68 = .ok (.iand, 1) := by decide +kernel
theorem dX3_suffer_69 : decode cX3_suffer 69 = .ok (.putfield 46, 3) := by decide +kernel
theorem dX3_suffer_72 : decode cX3_suffer 72 = .ok (.aload_n 0, 1) := by decide +kernel
theorem dX3_suffer_73 : decode cX3_suffer 73 = .ok (.dup, 1) := by decide +kernel
theorem dX3_suffer_74 : decode cX3_suffer 74 = .ok (.getfield 49, 3) := by decide +kernel
theorem dX3_suffer_77 : decode cX3_suffer 77 = .ok (.iconst 1, 1) := by decide +kernel
theorem dX3_suffer_78 : decode cX3_suffer 78 = .ok (.iadd, 1) := by decide +kernel
theorem dX3_suffer_79 : decode cX3_suffer 79 = .ok (.putfield 49, 3) := by decide +kernel
theorem dX3_suffer_82 : decode cX3_suffer 82 = .ok (.iload_n 2, 1) := by decide +kernel
theorem dX3_suffer_83 : decode cX3_suffer 83 = .ok (.invokestatic 89, 3) := by decide +kernel
theorem dX3_suffer_86 : decode cX3_suffer 86 = .ok (.bipush 9, 2) := by decide +kernel
theorem dX3_suffer_88 : decode cX3_suffer 88 = .ok (.if_icmp .ne 13, 3) := by decide +kernel
theorem dX3_suffer_91 : decode cX3_suffer 91 = .ok (.aload_n 0, 1) := by decide +kernel
theorem dX3_suffer_92 : decode cX3_suffer 92 = .ok (.dup, 1) := by decide +kernel
theorem dX3_suffer_93 : decode cX3_suffer 93 = .ok (.getfield 52, 3) := by decide +kernel
theorem dX3_suffer_96 : decode cX3_suffer 96 = .ok (.iconst 1, 1) := by decide +kernel
theorem dX3_suffer_97 : decode cX3_suffer 97 = .ok (.iadd, 1) := by decide +kernel
theorem dX3_suffer_98 : decode cX3_suffer 98 = .ok (.putfield 52, 3) := by decide +kernel
theorem dX3_suffer_101 : decode cX3_suffer 101 = .ok (.return_, 1) := by decide +kernel
theorem dX3_firstTaker_0 : decode cX3_firstTaker 0 = .ok (.iload_n 1, 1) := by decide +kernel
theorem dX3_firstTaker_1 : decode cX3_firstTaker 1 = .ok (.istore_n 2, 1) := by decide +kernel
theorem dX3_firstTaker_2 : decode cX3_firstTaker 2 = .ok (.iconst 0, 1) := by decide +kernel
theorem dX3_firstTaker_3 : decode cX3_firstTaker 3 = .ok (.istore_n 3, 1) := by decide +kernel
theorem dX3_firstTaker_4 : decode cX3_firstTaker 4 = .ok (.iload_n 3, 1) := by decide +kernel
theorem dX3_firstTaker_5 : decode cX3_firstTaker 5 = .ok (.bipush 9, 2) := by decide +kernel
theorem dX3_firstTaker_7 : decode cX3_firstTaker 7 = .ok (.if_icmp .ge 40, 3) := by decide +kernel
theorem dX3_firstTaker_10 : decode cX3_firstTaker 10 = .ok (.aload_n 0, 1) := by decide +kernel
theorem dX3_firstTaker_11 : decode cX3_firstTaker 11 = .ok (.iload_n 2, 1) := by decide +kernel
theorem dX3_firstTaker_12 : decode cX3_firstTaker 12 = .ok (.invokevirtual 65, 3) := by decide +kernel
theorem dX3_firstTaker_15 : decode cX3_firstTaker 15 = .ok (.ifCond .eq 12, 3) := by decide +kernel
theorem dX3_firstTaker_18 : decode cX3_firstTaker 18 = .ok (.aload_n 0, 1) := by decide +kernel
theorem dX3_firstTaker_19 : decode cX3_firstTaker 19 = .ok (.getfield 27, 3) := by decide +kernel
theorem dX3_firstTaker_22 : decode cX3_firstTaker 22 = .ok (.iload_n 2, 1) := by decide +kernel
theorem dX3_firstTaker_23 : decode cX3_firstTaker 23 = .ok (.iaload, 1) := by decide +kernel
theorem dX3_firstTaker_24 : decode cX3_firstTaker 24 = .ok (.goto 4, 3) := by decide +kernel
theorem dX3_firstTaker_27 : decode cX3_firstTaker 27 = .ok (.iconst (-1), 1) := by decide +kernel
theorem dX3_firstTaker_28 : decode cX3_firstTaker 28 = .ok (.istore 4, 2) := by decide +kernel
theorem dX3_firstTaker_30 : decode cX3_firstTaker 30 = .ok (.iload 4, 2) := by decide +kernel
theorem dX3_firstTaker_32 : decode cX3_firstTaker 32 = .ok (.iconst (-1), 1) := by decide +kernel
theorem dX3_firstTaker_33 : decode cX3_firstTaker 33 = .ok (.if_icmp .ne 5, 3) := by decide +kernel
theorem dX3_firstTaker_36 : decode cX3_firstTaker 36 = .ok (.iload_n 2, 1) := by decide +kernel
theorem dX3_firstTaker_37 : decode cX3_firstTaker 37 = .ok (.ireturn, 1) := by decide +kernel
theorem dX3_firstTaker_38 : decode cX3_firstTaker 38 = .ok (.iload 4, 2) := by decide +kernel
theorem dX3_firstTaker_40 : decode cX3_firstTaker 40 = .ok (.istore_n 2, 1) := by decide +kernel
theorem dX3_firstTaker_41 : decode cX3_firstTaker 41 = .ok (.iinc 3 1, 3) := by decide +kernel
theorem dX3_firstTaker_44 : decode cX3_firstTaker 44 = .ok (.goto (-40), 3) := by decide +kernel
theorem dX3_firstTaker_47 : decode cX3_firstTaker 47 = .ok (.iload_n 2, 1) := by decide +kernel
theorem dX3_firstTaker_48 : decode cX3_firstTaker 48 = .ok (.ireturn, 1) := by decide +kernel
theorem dX3_pairsThatTalk_0 : decode cX3_pairsThatTalk 0 = .ok (.iconst 0, 1) := by decide +kernel
theorem dX3_pairsThatTalk_1 : decode cX3_pairsThatTalk 1 = .ok (.istore_n 1, 1) := by decide +kernel
theorem dX3_pairsThatTalk_2 : decode cX3_pairsThatTalk 2 = .ok (.iconst 0, 1) := by decide +kernel
theorem dX3_pairsThatTalk_3 : decode cX3_pairsThatTalk 3 = .ok (.istore_n 2, 1) := by decide +kernel
theorem dX3_pairsThatTalk_4 : decode cX3_pairsThatTalk 4 = .ok (.iload_n 2, 1) := by decide +kernel
theorem dX3_pairsThatTalk_5 : decode cX3_pairsThatTalk 5 = .ok (.bipush 9, 2) := by decide +kernel
theorem dX3_pairsThatTalk_7 : decode cX3_pairsThatTalk 7 = .ok (.if_icmp .ge 62, 3) := by decide +kernel
theorem dX3_pairsThatTalk_10 : decode cX3_pairsThatTalk 10 = .ok (.iload_n 2, 1) := by decide +kernel
theorem dX3_pairsThatTalk_11 : decode cX3_pairsThatTalk 11 = .ok (.iconst 1, 1) := by decide +kernel
theorem dX3_pairsThatTalk_12 : decode cX3_pairsThatTalk 12 = .ok (.iadd, 1) := by decide +kernel
theorem dX3_pairsThatTalk_13 : decode cX3_pairsThatTalk 13 = .ok (.istore_n 3, 1) := by decide +kernel
theorem dX3_pairsThatTalk_14 : decode cX3_pairsThatTalk 14 = .ok (.iload_n 3, 1) := by decide +kernel
theorem dX3_pairsThatTalk_15 : decode cX3_pairsThatTalk 15 = .ok (.bipush 9, 2) := by decide +kernel
theorem dX3_pairsThatTalk_17 : decode cX3_pairsThatTalk 17 = .ok (.if_icmp .ge 46, 3) := by decide +kernel
theorem dX3_pairsThatTalk_20 : decode cX3_pairsThatTalk 20 = .ok (.aload_n 0, 1) := by decide +kernel
theorem dX3_pairsThatTalk_21 : decode cX3_pairsThatTalk 21 = .ok (.aload_n 0, 1) := by decide +kernel
