theorem dX8_wouldFall_65 : decode cX8_wouldFall 65 = .ok (.iload 5, 2) := by decide +kernel
theorem dX8_wouldFall_67 : decode cX8_wouldFall 67 = .ok (.goto 20, 3) := by decide +kernel
theorem dX8_wouldFall_70 : decode cX8_wouldFall 70 = .ok (.iload 4, 2) := by decide +kernel
theorem dX8_wouldFall_72 : decode cX8_wouldFall 72 = .ok (.iconst 1, 1) := by decide +kernel
theorem dX8_wouldFall_73 : decode cX8_wouldFall 73 = .ok (.if_icmp .ne 10, 3) := by decide +kernel
theorem dX8_wouldFall_76 : decode cX8_wouldFall 76 = .ok (.aload_n 0, 1) := by decide +kernel
theorem dX8_wouldFall_77 : decode cX8_wouldFall 77 = .ok (.getfield 155, 3) := by decide +kernel
theorem dX8_wouldFall_80 : decode cX8_wouldFall 80 = .ok (.goto 7, 3) := by decide +kernel
theorem dX8_wouldFall_83 : decode cX8_wouldFall 83 = .ok (.aload_n 0, 1) := by decide +kernel
theorem dX8_wouldFall_84 : decode cX8_wouldFall 84 = .ok (.getfield 178, 3) := by decide +kernel
theorem dX8_wouldFall_87 : decode cX8_wouldFall 87 = .ok (.ireturn, 1) := by decide +kernel
theorem dX8_ballsFor_0 : decode cX8_ballsFor 0 = .ok (.aload_n 0, 1) := by decide +kernel
theorem dX8_ballsFor_1 : decode cX8_ballsFor 1 = .ok (.iconst 0, 1) := by decide +kernel
theorem dX8_ballsFor_2 : decode cX8_ballsFor 2 = .ok (.iconst 0, 1) := by decide +kernel
theorem dX8_ballsFor_3 : decode cX8_ballsFor 3 = .ok (.invokevirtual 188, 3) := by decide +kernel
theorem dX8_ballsFor_6 : decode cX8_ballsFor 6 = .ok (.iconst 0, 1) := by decide +kernel
theorem dX8_ballsFor_7 : decode cX8_ballsFor 7 = .ok (.istore_n 3, 1) := by decide +kernel
theorem dX8_ballsFor_8 : decode cX8_ballsFor 8 = .ok (.iconst (-1), 1) := by decide +kernel
theorem dX8_ballsFor_9 : decode cX8_ballsFor 9 = .ok (.istore 4, 2) := by decide +kernel
theorem dX8_ballsFor_11 : decode cX8_ballsFor 11 = .ok (.iconst 0, 1) := by decide +kernel
theorem dX8_ballsFor_12 : decode cX8_ballsFor 12 = .ok (.istore 5, 2) := by decide +kernel
theorem dX8_ballsFor_14 : decode cX8_ballsFor 14 = .ok (.iload 5, 2) := by decide +kernel
theorem dX8_ballsFor_16 : decode cX8_ballsFor 16 = .ok (.sipush 600, 3) := by decide +kernel
theorem dX8_ballsFor_19 : decode cX8_ballsFor 19 = .ok (.if_icmp .ge 45, 3) := by decide +kernel
theorem dX8_ballsFor_22 : decode cX8_ballsFor 22 = .ok (.aload_n 0, 1) := by decide +kernel
theorem dX8_ballsFor_23 : decode cX8_ballsFor 23 = .ok (.aload_n 0, 1) := by decide +kernel
theorem dX8_ballsFor_24 : decode cX8_ballsFor 24 = .ok (.getfield 19, 3) := by decide +kernel
theorem dX8_ballsFor_27 : decode cX8_ballsFor 27 = .ok (.bipush 45, 2) := by decide +kernel
theorem dX8_ballsFor_29 : decode cX8_ballsFor 29 = .ok (.iaload, 1) := by decide +kernel
theorem dX8_ballsFor_30 : decode cX8_ballsFor 30 = .ok (.iload 5, 2) := by decide +kernel
theorem dX8_ballsFor_32 : decode cX8_ballsFor 32 = .ok (.invokevirtual 191, 3) := by decide +kernel
theorem dX8_ballsFor_35 : decode cX8_ballsFor 35 = .ok (.iload_n 1, 1) := by decide +kernel
theorem dX8_ballsFor_36 : decode cX8_ballsFor 36 = .ok (.if_icmp .ne 22, 3) := by decide +kernel
theorem dX8_ballsFor_39 : decode cX8_ballsFor 39 = .ok (.iload_n 3, 1) := by decide +kernel
theorem dX8_ballsFor_40 : decode cX8_ballsFor 40 = .ok (.ifCond .ne 11, 3) := by decide +kernel
theorem dX8_ballsFor_43 : decode cX8_ballsFor 43 = .ok (.iload 5, 2) := by decide +kernel
theorem dX8_ballsFor_45 : decode cX8_ballsFor 45 = .ok (.invokestatic 197, 3) := by decide +kernel
theorem dX8_ballsFor_48 : decode cX8_ballsFor 48 = .ok (.goto 5, 3) := by decide +kernel
theorem dX8_ballsFor_51 : decode cX8_ballsFor 51 = .ok (.iload 4, 2) := by decide +kernel
theorem dX8_ballsFor_53 : decode cX8_ballsFor 53 = .ok (.istore 4, 2) := by decide +kernel
theorem dX8_ballsFor_55 : decode cX8_ballsFor 55 = .ok (.iinc 3 1, 3) := by decide +kernel
theorem dX8_ballsFor_58 : decode cX8_ballsFor 58 = .ok (.iinc 5 1, 3) := by decide +kernel
theorem dX8_ballsFor_61 : decode cX8_ballsFor 61 = .ok (.goto (-47), 3) := by decide +kernel
theorem dX8_ballsFor_64 : decode cX8_ballsFor 64 = .ok (.iload_n 2, 1) := by decide +kernel
theorem dX8_ballsFor_65 : decode cX8_ballsFor 65 = .ok (.ifCond .ne 7, 3) := by decide +kernel
theorem dX8_ballsFor_68 : decode cX8_ballsFor 68 = .ok (.iload_n 3, 1) := by decide +kernel
theorem dX8_ballsFor_69 : decode cX8_ballsFor 69 = .ok (.goto 5, 3) := by decide +kernel
theorem dX8_ballsFor_72 : decode cX8_ballsFor 72 = .ok (.iload 4, 2) := by decide +kernel
theorem dX8_ballsFor_74 : decode cX8_ballsFor 74 = .ok (.ireturn, 1) := by decide +kernel
theorem dX8_balls_0 : decode cX8_balls 0 = .ok (.aload_n 0, 1) := by decide +kernel
theorem dX8_balls_1 : decode cX8_balls 1 = .ok (.iconst 0, 1) := by decide +kernel
theorem dX8_balls_2 : decode cX8_balls 2 = .ok (.putfield 72, 3) := by decide +kernel
theorem dX8_balls_5 : decode cX8_balls 5 = .ok (.aload_n 0, 1) := by decide +kernel
theorem dX8_balls_6 : decode cX8_balls 6 = .ok (.iload_n 1, 1) := by decide +kernel
theorem dX8_balls_7 : decode cX8_balls 7 = .ok (.invokevirtual 254, 3) := by decide +kernel
theorem dX8_balls_10 : decode cX8_balls 10 = .ok (.ifCond .ne 6, 3) := by decide +kernel
theorem dX8_balls_13 : decode cX8_balls 13 = .ok (.ldc 220, 2) := by decide +kernel
theorem dX8_balls_15 : decode cX8_balls 15 = .ok (.ireturn, 1) := by decide +kernel
theorem dX8_balls_16 : decode cX8_balls 16 = .ok (.iload_n 2, 1) := by decide +kernel
theorem dX8_balls_17 : decode cX8_balls 17 = .ok (.iconst 0, 1) := by decide +kernel
theorem dX8_balls_18 : decode cX8_balls 18 = .ok (.iconst 1, 1) := by decide +kernel
theorem dX8_balls_19 : decode cX8_balls 19 = .ok (.invokestatic 75, 3) := by decide +kernel
theorem dX8_balls_22 : decode cX8_balls 22 = .ok (.ifCond .ne 6, 3) := by decide +kernel
theorem dX8_balls_25 : decode cX8_balls 25 = .ok (.ldc 79, 2) := by decide +kernel
theorem dX8_balls_27 : decode cX8_balls 27 = .ok (.ireturn, 1) := by decide +kernel
theorem dX8_balls_28 : decode cX8_balls 28 = .ok (.aload_n 0, 1) := by decide +kernel
theorem dX8_balls_29 : decode cX8_balls 29 = .ok (.getfield 133, 3) := by decide +kernel
theorem dX8_balls_32 : decode cX8_balls 32 = .ok (.ifCond .eq 12, 3) := by decide +kernel
theorem dX8_balls_35 : decode cX8_balls 35 = .ok (.aload_n 0, 1) := by decide +kernel
theorem dX8_balls_36 : decode cX8_balls 36 = .ok (.iload_n 1, 1) := by decide +kernel
theorem dX8_balls_37 : decode cX8_balls 37 = .ok (.iload_n 2, 1) := by decide +kernel
theorem dX8_balls_38 : decode cX8_balls 38 = .ok (.invokevirtual 200, 3) := by decide +kernel
theorem dX8_balls_41 : decode cX8_balls 41 = .ok (.goto 5, 3) := by decide +kernel
theorem dX8_balls_44 : decode cX8_balls 44 = .ok (.ldc 233, 2) := by decide +kernel
theorem dX8_balls_46 : decode cX8_balls 46 = .ok (.ireturn, 1) := by decide +kernel
theorem dX8_spare_0 : decode cX8_spare 0 = .ok (.aload_n 0, 1) := by decide +kernel
theorem dX8_spare_1 : decode cX8_spare 1 = .ok (.iconst 0, 1) := by decide +kernel
theorem dX8_spare_2 : decode cX8_spare 2 = .ok (.putfield 72, 3) := by decide +kernel
theorem dX8_spare_5 : decode cX8_spare 5 = .ok (.aload_n 0, 1) := by decide +kernel
theorem dX8_spare_6 : decode cX8_spare 6 = .ok (.iload_n 1, 1) := by decide +kernel
theorem dX8_spare_7 : decode cX8_spare 7 = .ok (.invokevirtual 254, 3) := by decide +kernel
theorem dX8_spare_10 : decode cX8_spare 10 = .ok (.ifCond .eq 11, 3) := by decide +kernel
theorem dX8_spare_13 : decode cX8_spare 13 = .ok (.aload_n 0, 1) := by decide +kernel
theorem dX8_spare_14 : decode cX8_spare 14 = .ok (.iload_n 2, 1) := by decide +kernel
theorem dX8_spare_15 : decode cX8_spare 15 = .ok (.invokevirtual 254, 3) := by decide +kernel
theorem dX8_spare_18 : decode cX8_spare 18 = .ok (.ifCond .ne 6, 3) := by decide +kernel
theorem dX8_spare_21 : decode cX8_spare 21 = .ok (.ldc 220, 2) := by decide +kernel
theorem dX8_spare_23 : decode cX8_spare 23 = .ok (.ireturn, 1) := by decide +kernel
theorem dX8_spare_24 : decode cX8_spare 24 = .ok (.aload_n 0, 1) := by decide +kernel
theorem dX8_spare_25 : decode cX8_spare 25 = .ok (.getfield 133, 3) := by decide +kernel
theorem dX8_spare_28 : decode cX8_spare 28 = .ok (.ifCond .ne 6, 3) := by decide +kernel
theorem dX8_spare_31 : decode cX8_spare 31 = .ok (.ldc 233, 2) := by decide +kernel
theorem dX8_spare_33 : decode cX8_spare 33 = .ok (.ireturn, 1) := by decide +kernel
theorem dX8_spare_34 : decode cX8_spare 34 = .ok (.aload_n 0, 1) := by decide +kernel
theorem dX8_spare_35 : decode cX8_spare 35 = .ok (.iconst 0, 1) := by decide +kernel
theorem dX8_spare_36 : decode cX8_spare 36 = .ok (.iconst 0, 1) := by decide +kernel
theorem dX8_spare_37 : decode cX8_spare 37 = .ok (.invokevirtual 188, 3) := by decide +kernel
theorem dX8_spare_40 : decode cX8_spare 40 = .ok (.iconst (-1), 1) := by decide +kernel
theorem dX8_spare_41 : decode cX8_spare 41 = .ok (.istore_n 3, 1) := by decide +kernel
theorem dX8_spare_42 : decode cX8_spare 42 = .ok (.bipush 41, 2) := by decide +kernel
theorem dX8_spare_44 : decode cX8_spare 44 = .ok (.istore 4, 2) := by decide +kernel
theorem dX8_spare_46 : decode cX8_spare 46 = .ok (.iconst 0, 1) := by decide +kernel
theorem dX8_spare_47 : decode cX8_spare 47 = .ok (.istore 5, 2) := by decide +kernel
theorem dX8_spare_49 : decode cX8_spare 49 = .ok (.iload 5, 2) := by decide +kernel
theorem dX8_spare_51 : decode cX8_spare 51 = .ok (.sipush 600, 3) := by decide +kernel
theorem dX8_spare_54 : decode cX8_spare 54 = .ok (.if_icmp .ge 92, 3) := by decide +kernel
theorem dX8_spare_57 : decode cX8_spare 57 = .ok (.aload_n 0, 1) := by decide +kernel
theorem dX8_spare_58 : decode cX8_spare 58 = .ok (.aload_n 0, 1) := by decide +kernel
theorem dX8_spare_59 : decode cX8_spare 59 = .ok (.getfield 19, 3) := by decide +kernel
theorem dX8_spare_62 : decode cX8_spare 62 = .ok (.bipush 45, 2) := by decide +kernel
theorem dX8_spare_64 : decode cX8_spare 64 = .ok (.iaload, 1) := by decide +kernel
theorem dX8_spare_65 : decode cX8_spare 65 = .ok (.iload 5, 2) := by decide +kernel
theorem dX8_spare_67 : decode cX8_spare 67 = .ok (.invokevirtual 191, 3) := by decide +kernel
theorem dX8_spare_70 : decode cX8_spare 70 = .ok (.istore 6, 2) := by decide +kernel
theorem dX8_spare_72 : decode cX8_spare 72 = .ok (.iconst 1, 1) := by decide +kernel
theorem dX8_spare_73 : decode cX8_spare 73 = .ok (.iload 5, 2) := by decide +kernel
theorem dX8_spare_75 : decode cX8_spare 75 = .ok (.bipush 40, 2) := by decide +kernel
theorem dX8_spare_77 : decode cX8_spare 77 = .ok (.irem, 1) := by decide +kernel
theorem dX8_spare_78 : decode cX8_spare 78 = .ok (.iadd, 1) := by decide +kernel
theorem dX8_spare_79 : decode cX8_spare 79 = .ok (.istore 7, 2) := by decide +kernel
theorem dX8_spare_81 : decode cX8_spare 81 = .ok (.iload_n 1, 1) := by decide +kernel
theorem dX8_spare_82 : decode cX8_spare 82 = .ok (.iload 6, 2) := by decide +kernel
theorem dX8_spare_84 : decode cX8_spare 84 = .ok (.iconst (-1), 1) := by decide +kernel
theorem dX8_spare_85 : decode cX8_spare 85 = .ok (.ixor, 1) := by decide +kernel
theorem dX8_spare_86 : decode cX8_spare 86 = .ok (.iand, 1) := by decide +kernel
theorem dX8_spare_87 : decode cX8_spare 87 = .ok (.ifCond .ne 21, 3) := by decide +kernel
theorem dX8_spare_90 : decode cX8_spare 90 = .ok (.iload_n 2, 1) := by decide +kernel
theorem dX8_spare_91 : decode cX8_spare 91 = .ok (.iload 6, 2) := by decide +kernel
theorem dX8_spare_93 : decode cX8_spare 93 = .ok (.iand, 1) := by decide +kernel
theorem dX8_spare_94 : decode cX8_spare 94 = .ok (.ifCond .ne 14, 3) := by decide +kernel
theorem dX8_spare_97 : decode cX8_spare 97 = .ok (.iload 7, 2) := by decide +kernel
theorem dX8_spare_99 : decode cX8_spare 99 = .ok (.iload 4, 2) := by decide +kernel
theorem dX8_spare_101 : decode cX8_spare 101 = .ok (.if_icmp .ge 7, 3) := by decide +kernel
theorem dX8_spare_104 : decode cX8_spare 104 = .ok (.iconst 1, 1) := by decide +kernel
theorem dX8_spare_105 : decode cX8_spare 105 = .ok (.goto 4, 3) := by decide +kernel
theorem dX8_spare_108 : decode cX8_spare 108 = .ok (.iconst 0, 1) := by decide +kernel
theorem dX8_spare_109 : decode cX8_spare 109 = .ok (.istore 8, 2) := by decide +kernel
theorem dX8_spare_111 : decode cX8_spare 111 = .ok (.iload 8, 2) := by decide +kernel
theorem dX8_spare_113 : decode cX8_spare 113 = .ok (.ifCond .eq 11, 3) := by decide +kernel
theorem dX8_spare_116 : decode cX8_spare 116 = .ok (.iload 5, 2) := by decide +kernel
theorem dX8_spare_118 : decode cX8_spare 118 = .ok (.invokestatic 197, 3) := by decide +kernel
theorem dX8_spare_121 : decode cX8_spare 121 = .ok (.goto 4, 3) := by decide +kernel
theorem dX8_spare_124 : decode cX8_spare 124 = .ok (.iload_n 3, 1) := by decide +kernel
theorem dX8_spare_125 : decode cX8_spare 125 = .ok (.istore_n 3, 1) := by decide +kernel
theorem dX8_spare_126 : decode cX8_spare 126 = .ok (.iload 8, 2) := by decide +kernel
theorem dX8_spare_128 : decode cX8_spare 128 = .ok (.ifCond .eq 8, 3) := by decide +kernel
theorem dX8_spare_131 : decode cX8_spare 131 = .ok (.iload 7, 2) := by decide +kernel
theorem dX8_spare_133 : decode cX8_spare 133 = .ok (.goto 5, 3) := by decide +kernel
theorem dX8_spare_136 : decode cX8_spare 136 = .ok (.iload 4, 2) := by decide +kernel
theorem dX8_spare_138 : decode cX8_spare 138 = .ok (.istore 4, 2) := by decide +kernel
theorem dX8_spare_140 : decode cX8_spare 140 = .ok (.iinc 5 1, 3) := by decide +kernel
theorem dX8_spare_143 : decode cX8_spare 143 = .ok (.goto (-94), 3) := by decide +kernel
theorem dX8_spare_146 : decode cX8_spare 146 = .ok (.iload_n 3, 1) := by decide +kernel
theorem dX8_spare_147 : decode cX8_spare 147 = .ok (.ireturn, 1) := by decide +kernel
theorem dX8_allDown_0 : decode cX8_allDown 0 = .ok (.aload_n 0, 1) := by decide +kernel
theorem dX8_allDown_1 : decode cX8_allDown 1 = .ok (.iconst 0, 1) := by decide +kernel
theorem dX8_allDown_2 : decode cX8_allDown 2 = .ok (.putfield 72, 3) := by decide +kernel
theorem dX8_allDown_5 : decode cX8_allDown 5 = .ok (.iload_n 1, 1) := by decide +kernel
theorem dX8_allDown_6 : decode cX8_allDown 6 = .ok (.iconst 0, 1) := by decide +kernel
theorem dX8_allDown_7 : decode cX8_allDown 7 = .ok (.iconst 1, 1) := by decide +kernel
theorem dX8_allDown_8 : decode cX8_allDown 8 = .ok (.invokestatic 75, 3) := by decide +kernel
theorem dX8_allDown_11 : decode cX8_allDown 11 = .ok (.ifCond .ne 6, 3) := by decide +kernel
theorem dX8_allDown_14 : decode cX8_allDown 14 = .ok (.ldc 79, 2) := by decide +kernel
theorem dX8_allDown_16 : decode cX8_allDown 16 = .ok (.ireturn, 1) := by decide +kernel
theorem dX8_allDown_17 : decode cX8_allDown 17 = .ok (.aload_n 0, 1) := by decide +kernel
theorem dX8_allDown_18 : decode cX8_allDown 18 = .ok (.getfield 133, 3) := by decide +kernel
theorem dX8_allDown_21 : decode cX8_allDown 21 = .ok (.ifCond .ne 6, 3) := by decide +kernel
theorem dX8_allDown_24 : decode cX8_allDown 24 = .ok (.ldc 233, 2) := by decide +kernel
theorem dX8_allDown_26 : decode cX8_allDown 26 = .ok (.ireturn, 1) := by decide +kernel
theorem dX8_allDown_27 : decode cX8_allDown 27 = .ok (.aload_n 0, 1) := by decide +kernel
theorem dX8_allDown_28 : decode cX8_allDown 28 = .ok (.iconst 0, 1) := by decide +kernel
theorem dX8_allDown_29 : decode cX8_allDown 29 = .ok (.iconst 0, 1) := by decide +kernel
theorem dX8_allDown_30 : decode cX8_allDown 30 = .ok (.invokevirtual 188, 3) := by decide +kernel
theorem dX8_allDown_33 : decode cX8_allDown 33 = .ok (.iconst 0, 1) := by decide +kernel
theorem dX8_allDown_34 : decode cX8_allDown 34 = .ok (.istore_n 2, 1) := by decide +kernel
theorem dX8_allDown_35 : decode cX8_allDown 35 = .ok (.iload_n 2, 1) := by decide +kernel
theorem dX8_allDown_36 : decode cX8_allDown 36 = .ok (.sipush 512, 3) := by decide +kernel
theorem dX8_allDown_39 : decode cX8_allDown 39 = .ok (.if_icmp .ge 23, 3) := by decide +kernel
theorem dX8_allDown_42 : decode cX8_allDown 42 = .ok (.aload_n 0, 1) := by decide +kernel
theorem dX8_allDown_43 : decode cX8_allDown 43 = .ok (.getfield 59, 3) := by decide +kernel
theorem dX8_allDown_46 : decode cX8_allDown 46 = .ok (.iload_n 2, 1) := by decide +kernel
theorem dX8_allDown_47 : decode cX8_allDown 47 = .ok (.iconst (-1), 1) := by decide +kernel
theorem dX8_allDown_48 : decode cX8_allDown 48 = .ok (.iastore, 1) := by decide +kernel
theorem dX8_allDown_49 : decode cX8_allDown 49 = .ok (.aload_n 0, 1) := by decide +kernel
theorem dX8_allDown_50 : decode cX8_allDown 50 = .ok (.getfield 62, 3) := by decide +kernel
theorem dX8_allDown_53 : decode cX8_allDown 53 = .ok (.iload_n 2, 1) := by decide +kernel
theorem dX8_allDown_54 : decode cX8_allDown 54 = .ok (.iconst (-1), 1) := by decide +kernel
theorem dX8_allDown_55 : decode cX8_allDown 55 = .ok (.iastore, 1) := by decide +kernel
theorem dX8_allDown_56 : decode cX8_allDown 56 = .ok (.iinc 2 1, 3) := by decide +kernel
theorem dX8_allDown_59 : decode cX8_allDown 59 = .ok (.goto (-24), 3) := by decide +kernel
theorem dX8_allDown_62 : decode cX8_allDown 62 = .ok (.aload_n 0, 1) := by decide +kernel
theorem dX8_allDown_63 : decode cX8_allDown 63 = .ok (.getfield 59, 3) := by decide +kernel
theorem dX8_allDown_66 : decode cX8_allDown 66 = .ok (.aload_n 0, 1) := by decide +kernel
theorem dX8_allDown_67 : decode cX8_allDown 67 = .ok (.getfield 19, 3) := by decide +kernel
theorem dX8_allDown_70 : decode cX8_allDown 70 = .ok (.bipush 45, 2) := by decide +kernel
theorem dX8_allDown_72 : decode cX8_allDown 72 = .ok (.iaload, 1) := by decide +kernel
theorem dX8_allDown_73 : decode cX8_allDown 73 = .ok (.iconst 0, 1) := by decide +kernel
theorem dX8_allDown_74 : decode cX8_allDown 74 = .ok (.iastore, 1) := by decide +kernel
theorem dX8_allDown_75 : decode cX8_allDown 75 = .ok (.aload_n 0, 1) := by decide +kernel
theorem dX8_allDown_76 : decode cX8_allDown 76 = .ok (.getfield 65, 3) := by decide +kernel
theorem dX8_allDown_79 : decode cX8_allDown 79 = .ok (.iconst 0, 1) := by decide +kernel
theorem dX8_allDown_80 : decode cX8_allDown 80 = .ok (.aload_n 0, 1) := by decide +kernel
theorem dX8_allDown_81 : decode cX8_allDown 81 = .ok (.getfield 19, 3) := by decide +kernel
theorem dX8_allDown_84 : decode cX8_allDown 84 = .ok (.bipush 45, 2) := by decide +kernel
theorem dX8_allDown_86 : decode cX8_allDown 86 = .ok (.iaload, 1) := by decide +kernel
theorem dX8_allDown_87 : decode cX8_allDown 87 = .ok (.iastore, 1) := by decide +kernel
theorem dX8_allDown_88 : decode cX8_allDown 88 = .ok (.iconst 1, 1) := by decide +kernel
theorem dX8_allDown_89 : decode cX8_allDown 89 = .ok (.istore_n 2, 1) := by decide +kernel
theorem dX8_allDown_90 : decode cX8_allDown 90 = .ok (.iconst 0, 1) := by decide +kernel
theorem dX8_allDown_91 : decode cX8_allDown 91 = .ok (.istore_n 3, 1) := by decide +kernel
theorem dX8_allDown_92 : decode cX8_allDown 92 = .ok (.iload_n 3, 1) := by decide +kernel
theorem dX8_allDown_93 : decode cX8_allDown 93 = .ok (.iload_n 2, 1) := by decide +kernel
theorem dX8_allDown_94 : decode cX8_allDown 94 = .ok (.if_icmp .ge 196, 3) := by decide +kernel
theorem dX8_allDown_97 : decode cX8_allDown 97 = .ok (.aload_n 0, 1) := by decide +kernel
theorem dX8_allDown_98 : decode cX8_allDown 98 = .ok (.getfield 59, 3) := by decide +kernel
theorem dX8_allDown_101 : decode cX8_allDown 101 = .ok (.iconst 0, 1) := by decide +kernel
theorem dX8_allDown_102 : decode cX8_allDown 102 = .ok (.iaload, 1) := by decide +kernel
theorem dX8_allDown_103 : decode cX8_allDown 103 = .ok (.iconst (-1), 1) := by decide +kernel
theorem dX8_allDown_104 : decode cX8_allDown 104 = .ok (.if_icmp .eq 23, 3) := by decide +kernel
theorem dX8_allDown_107 : decode cX8_allDown 107 = .ok (.aload_n 0, 1) := by decide +kernel
theorem dX8_allDown_108 : decode cX8_allDown 108 = .ok (.getfield 59, 3) := by decide +kernel
theorem dX8_allDown_111 : decode cX8_allDown 111 = .ok (.aload_n 0, 1) := by decide +kernel
theorem dX8_allDown_112 : decode cX8_allDown 112 = .ok (.getfield 65, 3) := by decide +kernel
theorem dX8_allDown_115 : decode cX8_allDown 115 = .ok (.iload_n 3, 1) := by decide +kernel
theorem dX8_allDown_116 : decode cX8_allDown 116 = .ok (.iaload, 1) := by decide +kernel
theorem dX8_allDown_117 : decode cX8_allDown 117 = .ok (.iaload, 1) := by decide +kernel
theorem dX8_allDown_118 : decode cX8_allDown 118 = .ok (.aload_n 0, 1) := by decide +kernel
theorem dX8_allDown_119 : decode cX8_allDown 119 = .ok (.getfield 59, 3) := by decide +kernel
theorem dX8_allDown_122 : decode cX8_allDown 122 = .ok (.iconst 0, 1) := by decide +kernel
theorem dX8_allDown_123 : decode cX8_allDown 123 = .ok (.iaload, 1) := by decide +kernel
theorem dX8_allDown_124 : decode cX8_allDown 124 = .ok (.if_icmp .ge 166, 3) := by decide +kernel
theorem dX8_allDown_127 : decode cX8_allDown 127 = .ok (.aload_n 0, 1) := by decide +kernel
theorem dX8_allDown_128 : decode cX8_allDown 128 = .ok (.getfield 65, 3) := by decide +kernel
theorem dX8_allDown_131 : decode cX8_allDown 131 = .ok (.iload_n 3, 1) := by decide +kernel
theorem dX8_allDown_132 : decode cX8_allDown 132 = .ok (.iaload, 1) := by decide +kernel
theorem dX8_allDown_133 : decode cX8_allDown 133 = .ok (.istore 4, 2) := by decide +kernel
theorem dX8_allDown_135 : decode cX8_allDown 135 = .ok (.iconst 0, 1) := by decide +kernel
theorem dX8_allDown_136 : decode cX8_allDown 136 = .ok (.istore 5, 2) := by decide +kernel
theorem dX8_allDown_138 : decode cX8_allDown 138 = .ok (.iload 5, 2) := by decide +kernel
theorem dX8_allDown_140 : decode cX8_allDown 140 = .ok (.sipush 600, 3) := by decide +kernel
theorem dX8_allDown_143 : decode cX8_allDown 143 = .ok (.if_icmp .ge 141, 3) := by decide +kernel
theorem dX8_allDown_146 : decode cX8_allDown 146 = .ok (.iload 4, 2) := by decide +kernel
theorem dX8_allDown_148 : decode cX8_allDown 148 = .ok (.aload_n 0, 1) := by decide +kernel
theorem dX8_allDown_149 : decode cX8_allDown 149 = .ok (.iload 4, 2) := by decide +kernel
theorem dX8_allDown_151 : decode cX8_allDown 151 = .ok (.iload 5, 2) := by decide +kernel
theorem dX8_allDown_153 : decode cX8_allDown 153 = .ok (.invokevirtual 191, 3) := by decide +kernel
theorem dX8_allDown_156 : decode cX8_allDown 156 = .ok (.iconst (-1), 1) := by decide +kernel
theorem dX8_allDown_157 : decode cX8_allDown 157 = .ok (.ixor, 1) := by decide +kernel
theorem dX8_allDown_158 : decode cX8_allDown 158 = .ok (.iand, 1) := by decide +kernel
theorem dX8_allDown_159 : decode cX8_allDown 159 = .ok (.istore 6, 2) := by decide +kernel
theorem dX8_allDown_161 : decode cX8_allDown 161 = .ok (.aload_n 0, 1) := by decide +kernel
theorem dX8_allDown_162 : decode cX8_allDown 162 = .ok (.getfield 59, 3) := by decide +kernel
theorem dX8_allDown_165 : decode cX8_allDown 165 = .ok (.iload 4, 2) := by decide +kernel
theorem dX8_allDown_167 : decode cX8_allDown 167 = .ok (.iaload, 1) := by decide +kernel
theorem dX8_allDown_168 : decode cX8_allDown 168 = .ok (.ifCond .ne 11, 3) := by decide +kernel
theorem dX8_allDown_171 : decode cX8_allDown 171 = .ok (.iload 5, 2) := by decide +kernel
theorem dX8_allDown_173 : decode cX8_allDown 173 = .ok (.invokestatic 197, 3) := by decide +kernel
theorem dX8_allDown_176 : decode cX8_allDown 176 = .ok (.goto 10, 3) := by decide +kernel
theorem dX8_allDown_179 : decode cX8_allDown 179 = .ok (.aload_n 0, 1) := by decide +kernel
theorem dX8_allDown_180 : decode cX8_allDown 180 = .ok (.getfield 62, 3) := by decide +kernel
theorem dX8_allDown_183 : decode cX8_allDown 183 = .ok (.iload 4, 2) := by decide +kernel
theorem dX8_allDown_185 : decode cX8_allDown 185 = .ok (.iaload, 1) := by decide +kernel
theorem dX8_allDown_186 : decode cX8_allDown 186 = .ok (.istore 7, 2) := by decide +kernel
theorem dX8_allDown_188 : decode cX8_allDown 188 = .ok (.aload_n 0, 1) := by decide +kernel
theorem dX8_allDown_189 : decode cX8_allDown 189 = .ok (.getfield 59, 3) := by decide +kernel
theorem dX8_allDown_192 : decode cX8_allDown 192 = .ok (.iload 6, 2) := by decide +kernel
theorem dX8_allDown_194 : decode cX8_allDown 194 = .ok (.iaload, 1) := by decide +kernel
theorem dX8_allDown_195 : decode cX8_allDown 195 = .ok (.iconst (-1), 1) := by decide +kernel
theorem dX8_allDown_196 : decode cX8_allDown 196 = .ok (.if_icmp .ne 42, 3) := by decide +kernel
theorem dX8_allDown_199 : decode cX8_allDown 199 = .ok (.aload_n 0, 1) := by decide +kernel
theorem dX8_allDown_200 : decode cX8_allDown 200 = .ok (.getfield 59, 3) := by decide +kernel
theorem dX8_allDown_203 : decode cX8_allDown 203 = .ok (.iload 6, 2) := by decide +kernel
theorem dX8_allDown_205 : decode cX8_allDown 205 = .ok (.aload_n 0, 1) := by decide +kernel
theorem dX8_allDown_206 : decode cX8_allDown 206 = .ok (.getfield 59, 3) := by decide +kernel
theorem dX8_allDown_209 : decode cX8_allDown 209 = .ok (.iload 4, 2) := by decide +kernel
theorem dX8_allDown_211 : decode cX8_allDown 211 = .ok (.iaload, 1) := by decide +kernel
theorem dX8_allDown_212 : decode cX8_allDown 212 = .ok (.iconst 1, 1) := by decide +kernel
theorem dX8_allDown_213 : decode cX8_allDown 213 = .ok (.iadd, 1) := by decide +kernel
theorem dX8_allDown_214 : decode cX8_allDown 214 = .ok (.iastore, 1) := by decide +kernel
theorem dX8_allDown_215 : decode cX8_allDown 215 = .ok (.aload_n 0, 1) := by decide +kernel
theorem dX8_allDown_216 : decode cX8_allDown 216 = .ok (.getfield 62, 3) := by decide +kernel
theorem dX8_allDown_219 : decode cX8_allDown 219 = .ok (.iload 6, 2) := by decide +kernel
theorem dX8_allDown_221 : decode cX8_allDown 221 = .ok (.iload 7, 2) := by decide +kernel
theorem dX8_allDown_223 : decode cX8_allDown 223 = .ok (.iastore, 1) := by decide +kernel
theorem dX8_allDown_224 : decode cX8_allDown 224 = .ok (.aload_n 0, 1) := by decide +kernel
theorem dX8_allDown_225 : decode cX8_allDown 225 = .ok (.getfield 65, 3) := by decide +kernel
theorem dX8_allDown_228 : decode cX8_allDown 228 = .ok (.iload_n 2, 1) := by decide +kernel
theorem dX8_allDown_229 : decode cX8_allDown 229 = .ok (.iload 6, 2) := by decide +kernel
theorem dX8_allDown_231 : decode cX8_allDown 231 = .ok (.iastore, 1) := by decide +kernel
theorem dX8_allDown_232 : decode cX8_allDown 232 = .ok (.iinc 2 1, 3) := by decide +kernel
theorem dX8_allDown_235 : decode cX8_allDown 235 = .ok (.goto 43, 3) := by decide +kernel
theorem dX8_allDown_238 : decode cX8_allDown 238 = .ok (.aload_n 0, 1) := by decide +kernel
theorem dX8_allDown_239 : decode cX8_allDown 239 = .ok (.getfield 59, 3) := by decide +kernel
theorem dX8_allDown_242 : decode cX8_allDown 242 = .ok (.iload 6, 2) := by decide +kernel
theorem dX8_allDown_244 : decode cX8_allDown 244 = .ok (.iaload, 1) := by decide +kernel
theorem dX8_allDown_245 : decode cX8_allDown 245 = .ok (.aload_n 0, 1) := by decide +kernel
theorem dX8_allDown_246 : decode cX8_allDown 246 = .ok (.getfield 59, 3) := by decide +kernel
theorem dX8_allDown_249 : decode cX8_allDown 249 = .ok (.iload 4, 2) := by decide +kernel
theorem dX8_allDown_251 : decode cX8_allDown 251 = .ok (.iaload, 1) := by decide +kernel
theorem dX8_allDown_252 : decode cX8_allDown 252 = .ok (.iconst 1, 1) := by decide +kernel
theorem dX8_allDown_253 : decode cX8_allDown 253 = .ok (.iadd, 1) := by decide +kernel
theorem dX8_allDown_254 : decode cX8_allDown 254 = .ok (.if_icmp .ne 24, 3) := by decide +kernel
theorem dX8_allDown_257 : decode cX8_allDown 257 = .ok (.iload 7, 2) := by decide +kernel
theorem dX8_allDown_259 : decode cX8_allDown 259 = .ok (.aload_n 0, 1) := by decide +kernel
theorem dX8_allDown_260 : decode cX8_allDown 260 = .ok (.getfield 62, 3) := by decide +kernel
theorem dX8_allDown_263 : decode cX8_allDown 263 = .ok (.iload 6, 2) := by decide +kernel
theorem dX8_allDown_265 : decode cX8_allDown 265 = .ok (.iaload, 1) := by decide +kernel
theorem dX8_allDown_266 : decode cX8_allDown 266 = .ok (.if_icmp .ge 12, 3) := by decide +kernel
theorem dX8_allDown_269 : decode cX8_allDown 269 = .ok (.aload_n 0, 1) := by decide +kernel
theorem dX8_allDown_270 : decode cX8_allDown 270 = .ok (.getfield 62, 3) := by decide +kernel
theorem dX8_allDown_273 : decode cX8_allDown 273 = .ok (.iload 6, 2) := by decide +kernel
theorem dX8_allDown_275 : decode cX8_allDown 275 = .ok (.iload 7, 2) := by decide +kernel
theorem dX8_allDown_277 : decode cX8_allDown 277 = .ok (.iastore, 1) := by decide +kernel
theorem dX8_allDown_278 : decode cX8_allDown 278 = .ok (.iinc 5 1, 3) := by decide +kernel
theorem dX8_allDown_281 : decode cX8_allDown 281 = .ok (.goto (-143), 3) := by decide +kernel
theorem dX8_allDown_284 : decode cX8_allDown 284 = .ok (.iinc 3 1, 3) := by decide +kernel
theorem dX8_allDown_287 : decode cX8_allDown 287 = .ok (.goto (-195), 3) := by decide +kernel
theorem dX8_allDown_290 : decode cX8_allDown 290 = .ok (.iload_n 1, 1) := by decide +kernel
theorem dX8_allDown_291 : decode cX8_allDown 291 = .ok (.ifCond .ne 12, 3) := by decide +kernel
theorem dX8_allDown_294 : decode cX8_allDown 294 = .ok (.aload_n 0, 1) := by decide +kernel
theorem dX8_allDown_295 : decode cX8_allDown 295 = .ok (.getfield 59, 3) := by decide +kernel
theorem dX8_allDown_298 : decode cX8_allDown 298 = .ok (.iconst 0, 1) := by decide +kernel
theorem dX8_allDown_299 : decode cX8_allDown 299 = .ok (.iaload, 1) := by decide +kernel
theorem dX8_allDown_300 : decode cX8_allDown 300 = .ok (.goto 9, 3) := by decide +kernel
theorem dX8_allDown_303 : decode cX8_allDown 303 = .ok (.aload_n 0, 1) := by decide +kernel
theorem dX8_allDown_304 : decode cX8_allDown 304 = .ok (.getfield 62, 3) := by decide +kernel
theorem dX8_allDown_307 : decode cX8_allDown 307 = .ok (.iconst 0, 1) := by decide +kernel
theorem dX8_allDown_308 : decode cX8_allDown 308 = .ok (.iaload, 1) := by decide +kernel
theorem dX8_allDown_309 : decode cX8_allDown 309 = .ok (.ireturn, 1) := by decide +kernel
theorem dX8_mend_0 : decode cX8_mend 0 = .ok (.aload_n 0, 1) := by decide +kernel
theorem dX8_mend_1 : decode cX8_mend 1 = .ok (.iconst 0, 1) := by decide +kernel
theorem dX8_mend_2 : decode cX8_mend 2 = .ok (.putfield 72, 3) := by decide +kernel
theorem dX8_mend_5 : decode cX8_mend 5 = .ok (.aload_n 0, 1) := by decide +kernel
theorem dX8_mend_6 : decode cX8_mend 6 = .ok (.iload_n 1, 1) := by decide +kernel
theorem dX8_mend_7 : decode cX8_mend 7 = .ok (.iload_n 2, 1) := by decide +kernel
theorem dX8_mend_8 : decode cX8_mend 8 = .ok (.iload_n 3, 1) := by decide +kernel
theorem dX8_mend_9 : decode cX8_mend 9 = .ok (.invokevirtual 230, 3) := by decide +kernel
theorem dX8_mend_12 : decode cX8_mend 12 = .ok (.ifCond .eq 13, 3) := by decide +kernel
theorem dX8_mend_15 : decode cX8_mend 15 = .ok (.iload 4, 2) := by decide +kernel
theorem dX8_mend_17 : decode cX8_mend 17 = .ok (.iconst 0, 1) := by decide +kernel
theorem dX8_mend_18 : decode cX8_mend 18 = .ok (.iconst 1, 1) := by decide +kernel
theorem dX8_mend_19 : decode cX8_mend 19 = .ok (.invokestatic 75, 3) := by decide +kernel
theorem dX8_mend_22 : decode cX8_mend 22 = .ok (.ifCond .ne 6, 3) := by decide +kernel
theorem dX8_mend_25 : decode cX8_mend 25 = .ok (.ldc 79, 2) := by decide +kernel
theorem dX8_mend_27 : decode cX8_mend 27 = .ok (.ireturn, 1) := by decide +kernel
theorem dX8_mend_28 : decode cX8_mend 28 = .ok (.aload_n 0, 1) := by decide +kernel
theorem dX8_mend_29 : decode cX8_mend 29 = .ok (.getfield 133, 3) := by decide +kernel
theorem dX8_mend_32 : decode cX8_mend 32 = .ok (.ifCond .ne 6, 3) := by decide +kernel
theorem dX8_mend_35 : decode cX8_mend 35 = .ok (.ldc 233, 2) := by decide +kernel
theorem dX8_mend_37 : decode cX8_mend 37 = .ok (.ireturn, 1) := by decide +kernel
theorem dX8_mend_38 : decode cX8_mend 38 = .ok (.iconst (-1), 1) := by decide +kernel
theorem dX8_mend_39 : decode cX8_mend 39 = .ok (.istore 5, 2) := by decide +kernel
theorem dX8_mend_41 : decode cX8_mend 41 = .ok (.bipush 10, 2) := by decide +kernel
theorem dX8_mend_43 : decode cX8_mend 43 = .ok (.istore 6, 2) := by decide +kernel
theorem dX8_mend_45 : decode cX8_mend 45 = .ok (.iconst 0, 1) := by decide +kernel
theorem dX8_mend_46 : decode cX8_mend 46 = .ok (.istore 7, 2) := by decide +kernel
theorem dX8_mend_48 : decode cX8_mend 48 = .ok (.iload 7, 2) := by decide +kernel
theorem dX8_mend_50 : decode cX8_mend 50 = .ok (.bipush 9, 2) := by decide +kernel
theorem dX8_mend_52 : decode cX8_mend 52 = .ok (.if_icmp .ge 93, 3) := by decide +kernel
theorem dX8_mend_55 : decode cX8_mend 55 = .ok (.iload 7, 2) := by decide +kernel
theorem dX8_mend_57 : decode cX8_mend 57 = .ok (.iconst 1, 1) := by decide +kernel
theorem dX8_mend_58 : decode cX8_mend 58 = .ok (.iadd, 1) := by decide +kernel
theorem dX8_mend_59 : decode cX8_mend 59 = .ok (.istore 8, 2) := by decide +kernel
theorem dX8_mend_61 : decode cX8_mend 61 = .ok (.iload 8, 2) := by decide +kernel
theorem dX8_mend_63 : decode cX8_mend 63 = .ok (.bipush 9, 2) := by decide +kernel
theorem dX8_mend_65 : decode cX8_mend 65 = .ok (.if_icmp .ge 74, 3) := by decide +kernel
theorem dX8_mend_68 : decode cX8_mend 68 = .ok (.aload_n 0, 1) := by decide +kernel
theorem dX8_mend_69 : decode cX8_mend 69 = .ok (.iload 7, 2) := by decide +kernel
theorem dX8_mend_71 : decode cX8_mend 71 = .ok (.iload 8, 2) := by decide +kernel
theorem dX8_mend_73 : decode cX8_mend 73 = .ok (.invokevirtual 188, 3) := by decide +kernel
theorem dX8_mend_76 : decode cX8_mend 76 = .ok (.aload_n 0, 1) := by decide +kernel
theorem dX8_mend_77 : decode cX8_mend 77 = .ok (.aload_n 0, 1) := by decide +kernel
theorem dX8_mend_78 : decode cX8_mend 78 = .ok (.getfield 19, 3) := by decide +kernel
theorem dX8_mend_81 : decode cX8_mend 81 = .ok (.bipush 45, 2) := by decide +kernel
theorem dX8_mend_83 : decode cX8_mend 83 = .ok (.iaload, 1) := by decide +kernel
theorem dX8_mend_84 : decode cX8_mend 84 = .ok (.iload_n 1, 1) := by decide +kernel
theorem dX8_mend_85 : decode cX8_mend 85 = .ok (.iload_n 2, 1) := by decide +kernel
theorem dX8_mend_86 : decode cX8_mend 86 = .ok (.iload_n 3, 1) := by decide +kernel
theorem dX8_mend_87 : decode cX8_mend 87 = .ok (.invokevirtual 184, 3) := by decide +kernel
theorem dX8_mend_90 : decode cX8_mend 90 = .ok (.invokestatic 194, 3) := by decide +kernel
theorem dX8_mend_93 : decode cX8_mend 93 = .ok (.istore 9, 2) := by decide +kernel
theorem dX8_mend_95 : decode cX8_mend 95 = .ok (.iload 9, 2) := by decide +kernel
theorem dX8_mend_97 : decode cX8_mend 97 = .ok (.iload 6, 2) := by decide +kernel
theorem dX8_mend_99 : decode cX8_mend 99 = .ok (.if_icmp .ge 14, 3) := by decide +kernel
theorem dX8_mend_102 : decode cX8_mend 102 = .ok (.bipush 10, 2) := by decide +kernel
theorem dX8_mend_104 : decode cX8_mend 104 = .ok (.iload 7, 2) := by decide +kernel
theorem dX8_mend_106 : decode cX8_mend 106 = .ok (.imul, 1) := by decide +kernel
theorem dX8_mend_107 : decode cX8_mend 107 = .ok (.iload 8, 2) := by decide +kernel
theorem dX8_mend_109 : decode cX8_mend 109 = .ok (.iadd, 1) := by decide +kernel
theorem dX8_mend_110 : decode cX8_mend 110 = .ok (.goto 5, 3) := by decide +kernel
theorem dX8_mend_113 : decode cX8_mend 113 = .ok (.iload 5, 2) := by decide +kernel
theorem dX8_mend_115 : decode cX8_mend 115 = .ok (.istore 5, 2) := by decide +kernel
theorem dX8_mend_117 : decode cX8_mend 117 = .ok (.iload 9, 2) := by decide +kernel
theorem dX8_mend_119 : decode cX8_mend 119 = .ok (.iload 6, 2) := by decide +kernel
theorem dX8_mend_121 : decode cX8_mend 121 = .ok (.if_icmp .ge 8, 3) := by decide +kernel
theorem dX8_mend_124 : decode cX8_mend 124 = .ok (.iload 9, 2) := by decide +kernel
theorem dX8_mend_126 : decode cX8_mend 126 = .ok (.goto 5, 3) := by decide +kernel
theorem dX8_mend_129 : decode cX8_mend 129 = .ok (.iload 6, 2) := by decide +kernel
theorem dX8_mend_131 : decode cX8_mend 131 = .ok (.istore 6, 2) := by decide +kernel
theorem dX8_mend_133 : decode cX8_mend 133 = .ok (.iinc 8 1, 3) := by decide +kernel
theorem dX8_mend_136 : decode cX8_mend 136 = .ok (.goto (-75), 3) := by decide +kernel
theorem dX8_mend_139 : decode cX8_mend 139 = .ok (.iinc 7 1, 3) := by decide +kernel
theorem dX8_mend_142 : decode cX8_mend 142 = .ok (.goto (-94), 3) := by decide +kernel
theorem dX8_mend_145 : decode cX8_mend 145 = .ok (.iload 4, 2) := by decide +kernel
theorem dX8_mend_147 : decode cX8_mend 147 = .ok (.ifCond .ne 8, 3) := by decide +kernel
theorem dX8_mend_150 : decode cX8_mend 150 = .ok (.iload 5, 2) := by decide +kernel
theorem dX8_mend_152 : decode cX8_mend 152 = .ok (.goto 5, 3) := by decide +kernel
theorem dX8_mend_155 : decode cX8_mend 155 = .ok (.iload 6, 2) := by decide +kernel
theorem dX8_mend_157 : decode cX8_mend 157 = .ok (.ireturn, 1) := by decide +kernel
theorem dX8_hand_0 : decode cX8_hand 0 = .ok (.aload_n 0, 1) := by decide +kernel
theorem dX8_hand_1 : decode cX8_hand 1 = .ok (.iconst 0, 1) := by decide +kernel
theorem dX8_hand_2 : decode cX8_hand 2 = .ok (.putfield 72, 3) := by decide +kernel
theorem dX8_hand_5 : decode cX8_hand 5 = .ok (.aload_n 0, 1) := by decide +kernel
theorem dX8_hand_6 : decode cX8_hand 6 = .ok (.iload_n 1, 1) := by decide +kernel
theorem dX8_hand_7 : decode cX8_hand 7 = .ok (.invokevirtual 254, 3) := by decide +kernel
theorem dX8_hand_10 : decode cX8_hand 10 = .ok (.ifCond .ne 6, 3) := by decide +kernel
theorem dX8_hand_13 : decode cX8_hand 13 = .ok (.ldc 220, 2) := by decide +kernel
theorem dX8_hand_15 : decode cX8_hand 15 = .ok (.ireturn, 1) := by decide +kernel
theorem dX8_hand_16 : decode cX8_hand 16 = .ok (.aload_n 0, 1) := by decide +kernel
theorem dX8_hand_17 : decode cX8_hand 17 = .ok (.getfield 133, 3) := by decide +kernel
theorem dX8_hand_20 : decode cX8_hand 20 = .ok (.ifCond .ne 6, 3) := by decide +kernel
theorem dX8_hand_23 : decode cX8_hand 23 = .ok (.ldc 233, 2) := by decide +kernel
theorem dX8_hand_25 : decode cX8_hand 25 = .ok (.ireturn, 1) := by decide +kernel
theorem dX8_hand_26 : decode cX8_hand 26 = .ok (.aload_n 0, 1) := by decide +kernel
theorem dX8_hand_27 : decode cX8_hand 27 = .ok (.iconst 0, 1) := by decide +kernel
theorem dX8_hand_28 : decode cX8_hand 28 = .ok (.iconst 0, 1) := by decide +kernel
theorem dX8_hand_29 : decode cX8_hand 29 = .ok (.invokevirtual 188, 3) := by decide +kernel
theorem dX8_hand_32 : decode cX8_hand 32 = .ok (.iconst 0, 1) := by decide +kernel
theorem dX8_hand_33 : decode cX8_hand 33 = .ok (.istore_n 2, 1) := by decide +kernel
theorem dX8_hand_34 : decode cX8_hand 34 = .ok (.iconst 0, 1) := by decide +kernel
theorem dX8_hand_35 : decode cX8_hand 35 = .ok (.istore_n 3, 1) := by decide +kernel
theorem dX8_hand_36 : decode cX8_hand 36 = .ok (.iload_n 3, 1) := by decide +kernel
theorem dX8_hand_37 : decode cX8_hand 37 = .ok (.sipush 600, 3) := by decide +kernel
theorem dX8_hand_40 : decode cX8_hand 40 = .ok (.if_icmp .ge 38, 3) := by decide +kernel
theorem dX8_hand_43 : decode cX8_hand 43 = .ok (.iload_n 2, 1) := by decide +kernel
theorem dX8_hand_44 : decode cX8_hand 44 = .ok (.aload_n 0, 1) := by decide +kernel
theorem dX8_hand_45 : decode cX8_hand 45 = .ok (.aload_n 0, 1) := by decide +kernel
theorem dX8_hand_46 : decode cX8_hand 46 = .ok (.getfield 19, 3) := by decide +kernel
theorem dX8_hand_49 : decode cX8_hand 49 = .ok (.bipush 45, 2) := by decide +kernel
theorem dX8_hand_51 : decode cX8_hand 51 = .ok (.iaload, 1) := by decide +kernel
theorem dX8_hand_52 : decode cX8_hand 52 = .ok (.iload_n 3, 1) := by decide +kernel
theorem dX8_hand_53 : decode cX8_hand 53 = .ok (.invokevirtual 191, 3) := by decide +kernel
theorem dX8_hand_56 : decode cX8_hand 56 = .ok (.iload_n 1, 1) := by decide +kernel
theorem dX8_hand_57 : decode cX8_hand 57 = .ok (.if_icmp .ne 12, 3) := by decide +kernel
theorem dX8_hand_60 : decode cX8_hand 60 = .ok (.iconst 1, 1) := by decide +kernel
theorem dX8_hand_61 : decode cX8_hand 61 = .ok (.iload_n 3, 1) := by decide +kernel
theorem dX8_hand_62 : decode cX8_hand 62 = .ok (.bipush 120, 2) := by decide +kernel
theorem dX8_hand_64 : decode cX8_hand 64 = .ok (.idiv, 1) := by decide +kernel
theorem dX8_hand_65 : decode cX8_hand 65 = .ok (.ishl, 1) := by decide +kernel
theorem dX8_hand_66 : decode cX8_hand 66 = .ok (.goto 4, 3) := by decide +kernel
theorem dX8_hand_69 : decode cX8_hand 69 = .ok (.iconst 0, 1) := by decide +kernel
theorem dX8_hand_70 : decode cX8_hand 70 = .ok (.ior, 1) := by decide +kernel
theorem dX8_hand_71 : decode cX8_hand 71 = .ok (.istore_n 2, 1) := by decide +kernel
theorem dX8_hand_72 : decode cX8_hand 72 = .ok (.iinc 3 1, 3) := by decide +kernel
theorem dX8_hand_75 : decode cX8_hand 75 = .ok (.goto (-39), 3) := by decide +kernel
theorem dX8_hand_78 : decode cX8_hand 78 = .ok (.iload_n 2, 1) := by decide +kernel
theorem dX8_hand_79 : decode cX8_hand 79 = .ok (.ireturn, 1) := by decide +kernel
theorem dX8_ask_0 : decode cX8_ask 0 = .ok (.aload_n 0, 1) := by decide +kernel
theorem dX8_ask_1 : decode cX8_ask 1 = .ok (.iconst 0, 1) := by decide +kernel
theorem dX8_ask_2 : decode cX8_ask 2 = .ok (.putfield 72, 3) := by decide +kernel
theorem dX8_ask_5 : decode cX8_ask 5 = .ok (.iload_n 1, 1) := by decide +kernel
theorem dX8_ask_6 : decode cX8_ask 6 = .ok (.iconst 0, 1) := by decide +kernel
theorem dX8_ask_7 : decode cX8_ask 7 = .ok (.iconst 4, 1) := by decide +kernel
theorem dX8_ask_8 : decode cX8_ask 8 = .ok (.invokestatic 75, 3) := by decide +kernel
theorem dX8_ask_11 : decode cX8_ask 11 = .ok (.ifCond .ne 6, 3) := by decide +kernel
theorem dX8_ask_14 : decode cX8_ask 14 = .ok (.ldc 79, 2) := by decide +kernel
theorem dX8_ask_16 : decode cX8_ask 16 = .ok (.ireturn, 1) := by decide +kernel
theorem dX8_ask_17 : decode cX8_ask 17 = .ok (.aload_n 0, 1) := by decide +kernel
theorem dX8_ask_18 : decode cX8_ask 18 = .ok (.getfield 133, 3) := by decide +kernel
theorem dX8_ask_21 : decode cX8_ask 21 = .ok (.ifCond .ne 6, 3) := by decide +kernel
theorem dX8_ask_24 : decode cX8_ask 24 = .ok (.ldc 233, 2) := by decide +kernel
theorem dX8_ask_26 : decode cX8_ask 26 = .ok (.ireturn, 1) := by decide +kernel
theorem dX8_ask_27 : decode cX8_ask 27 = .ok (.aload_n 0, 1) := by decide +kernel
theorem dX8_ask_28 : decode cX8_ask 28 = .ok (.iconst 0, 1) := by decide +kernel
theorem dX8_ask_29 : decode cX8_ask 29 = .ok (.iconst 0, 1) := by decide +kernel
theorem dX8_ask_30 : decode cX8_ask 30 = .ok (.invokevirtual 188, 3) := by decide +kernel
theorem dX8_ask_33 : decode cX8_ask 33 = .ok (.iconst (-1), 1) := by decide +kernel
theorem dX8_ask_34 : decode cX8_ask 34 = .ok (.istore_n 2, 1) := by decide +kernel
theorem dX8_ask_35 : decode cX8_ask 35 = .ok (.bipush 120, 2) := by decide +kernel
theorem dX8_ask_37 : decode cX8_ask 37 = .ok (.istore_n 3, 1) := by decide +kernel
theorem dX8_ask_38 : decode cX8_ask 38 = .ok (.iconst 0, 1) := by decide +kernel
theorem dX8_ask_39 : decode cX8_ask 39 = .ok (.istore 4, 2) := by decide +kernel
theorem dX8_ask_41 : decode cX8_ask 41 = .ok (.iload 4, 2) := by decide +kernel
theorem dX8_ask_43 : decode cX8_ask 43 = .ok (.aload_n 0, 1) := by decide +kernel
theorem dX8_ask_44 : decode cX8_ask 44 = .ok (.getfield 130, 3) := by decide +kernel
theorem dX8_ask_47 : decode cX8_ask 47 = .ok (.if_icmp .ge 112, 3) := by decide +kernel
theorem dX8_ask_50 : decode cX8_ask 50 = .ok (.iconst 0, 1) := by decide +kernel
theorem dX8_ask_51 : decode cX8_ask 51 = .ok (.istore 5, 2) := by decide +kernel
theorem dX8_ask_53 : decode cX8_ask 53 = .ok (.iconst 0, 1) := by decide +kernel
theorem dX8_ask_54 : decode cX8_ask 54 = .ok (.istore 6, 2) := by decide +kernel
theorem dX8_ask_56 : decode cX8_ask 56 = .ok (.iload 6, 2) := by decide +kernel
theorem dX8_ask_58 : decode cX8_ask 58 = .ok (.bipush 120, 2) := by decide +kernel
theorem dX8_ask_60 : decode cX8_ask 60 = .ok (.if_icmp .ge 45, 3) := by decide +kernel
theorem dX8_ask_63 : decode cX8_ask 63 = .ok (.iload 5, 2) := by decide +kernel
theorem dX8_ask_65 : decode cX8_ask 65 = .ok (.aload_n 0, 1) := by decide +kernel
theorem dX8_ask_66 : decode cX8_ask 66 = .ok (.aload_n 0, 1) := by decide +kernel
theorem dX8_ask_67 : decode cX8_ask 67 = .ok (.getfield 19, 3) := by decide +kernel
theorem dX8_ask_70 : decode cX8_ask 70 = .ok (.bipush 45, 2) := by decide +kernel
theorem dX8_ask_72 : decode cX8_ask 72 = .ok (.iaload, 1) := by decide +kernel
theorem dX8_ask_73 : decode cX8_ask 73 = .ok (.bipush 120, 2) := by decide +kernel
theorem dX8_ask_75 : decode cX8_ask 75 = .ok (.iload_n 1, 1) := by decide +kernel
theorem dX8_ask_76 : decode cX8_ask 76 = .ok (.imul, 1) := by decide +kernel
theorem dX8_ask_77 : decode cX8_ask 77 = .ok (.iload 6, 2) := by decide +kernel
theorem dX8_ask_79 : decode cX8_ask 79 = .ok (.iadd, 1) := by decide +kernel
theorem dX8_ask_80 : decode cX8_ask 80 = .ok (.invokevirtual 191, 3) := by decide +kernel
theorem dX8_ask_83 : decode cX8_ask 83 = .ok (.iload 4, 2) := by decide +kernel
theorem dX8_ask_85 : decode cX8_ask 85 = .ok (.invokestatic 170, 3) := by decide +kernel
theorem dX8_ask_88 : decode cX8_ask 88 = .ok (.ifCond .eq 7, 3) := by decide +kernel
theorem dX8_ask_91 : decode cX8_ask 91 = .ok (.iconst 1, 1) := by decide +kernel
theorem dX8_ask_92 : decode cX8_ask 92 = .ok (.goto 4, 3) := by decide +kernel
theorem dX8_ask_95 : decode cX8_ask 95 = .ok (.iconst 0, 1) := by decide +kernel
theorem dX8_ask_96 : decode cX8_ask 96 = .ok (.iadd, 1) := by decide +kernel
theorem dX8_ask_97 : decode cX8_ask 97 = .ok (.istore 5, 2) := by decide +kernel
theorem dX8_ask_99 : decode cX8_ask 99 = .ok (.iinc 6 1, 3) := by decide +kernel
theorem dX8_ask_102 : decode cX8_ask 102 = .ok (.goto (-46), 3) := by decide +kernel
theorem dX8_ask_105 : decode cX8_ask 105 = .ok (.iload 5, 2) := by decide +kernel
theorem dX8_ask_107 : decode cX8_ask 107 = .ok (.bipush 120, 2) := by decide +kernel
theorem dX8_ask_109 : decode cX8_ask 109 = .ok (.iload 5, 2) := by decide +kernel
theorem dX8_ask_111 : decode cX8_ask 111 = .ok (.isub, 1) := by decide +kernel
theorem dX8_ask_112 : decode cX8_ask 112 = .ok (.if_icmp .le 8, 3) := by decide +kernel
theorem dX8_ask_115 : decode cX8_ask 115 = .ok (.iload 5, 2) := by decide +kernel
theorem dX8_ask_117 : decode cX8_ask 117 = .ok (.goto 8, 3) := by decide +kernel
theorem dX8_ask_120 : decode cX8_ask 120 = .ok (.bipush 120, 2) := by decide +kernel
theorem dX8_ask_122 : decode cX8_ask 122 = .ok (.iload 5, 2) := by decide +kernel
theorem dX8_ask_124 : decode cX8_ask 124 = .ok (.isub, 1) := by decide +kernel
theorem dX8_ask_125 : decode cX8_ask 125 = .ok (.istore 6, 2) := by decide +kernel
theorem dX8_ask_127 : decode cX8_ask 127 = .ok (.iload 6, 2) := by decide +kernel
theorem dX8_ask_129 : decode cX8_ask 129 = .ok (.iload_n 3, 1) := by decide +kernel
theorem dX8_ask_130 : decode cX8_ask 130 = .ok (.if_icmp .ge 8, 3) := by decide +kernel
theorem dX8_ask_133 : decode cX8_ask 133 = .ok (.iload 4, 2) := by decide +kernel
theorem dX8_ask_135 : decode cX8_ask 135 = .ok (.goto 4, 3) := by decide +kernel
theorem dX8_ask_138 : decode cX8_ask 138 = .ok (.iload_n 2, 1) := by decide +kernel
theorem dX8_ask_139 : decode cX8_ask 139 = .ok (.istore_n 2, 1) := by decide +kernel
theorem dX8_ask_140 : decode cX8_ask 140 = .ok (.iload 6, 2) := by decide +kernel
theorem dX8_ask_142 : decode cX8_ask 142 = .ok (.iload_n 3, 1) := by decide +kernel
theorem dX8_ask_143 : decode cX8_ask 143 = .ok (.if_icmp .ge 8, 3) := by decide +kernel
theorem dX8_ask_146 : decode cX8_ask 146 = .ok (.iload 6, 2) := by decide +kernel
theorem dX8_ask_148 : decode cX8_ask 148 = .ok (.goto 4, 3) := by decide +kernel
theorem dX8_ask_151 : decode cX8_ask 151 = .ok (.iload_n 3, 1) := by decide +kernel
theorem dX8_ask_152 : decode cX8_ask 152 = .ok (.istore_n 3, 1) := by decide +kernel
theorem dX8_ask_153 : decode cX8_ask 153 = .ok (.iinc 4 1, 3) := by decide +kernel
theorem dX8_ask_156 : decode cX8_ask 156 = .ok (.goto (-115), 3) := by decide +kernel
theorem dX8_ask_159 : decode cX8_ask 159 = .ok (.iload_n 2, 1) := by decide +kernel
theorem dX8_ask_160 : decode cX8_ask 160 = .ok (.ireturn, 1) := by decide +kernel
theorem dX8_calm_0 : decode cX8_calm 0 = .ok (.aload_n 0, 1) := by decide +kernel
theorem dX8_calm_1 : decode cX8_calm 1 = .ok (.iconst 0, 1) := by decide +kernel
theorem dX8_calm_2 : decode cX8_calm 2 = .ok (.putfield 72, 3) := by decide +kernel
theorem dX8_calm_5 : decode cX8_calm 5 = .ok (.iload_n 1, 1) := by decide +kernel
theorem dX8_calm_6 : decode cX8_calm 6 = .ok (.iconst 0, 1) := by decide +kernel
theorem dX8_calm_7 : decode cX8_calm 7 = .ok (.bipush 60, 2) := by decide +kernel
theorem dX8_calm_9 : decode cX8_calm 9 = .ok (.invokestatic 75, 3) := by decide +kernel
theorem dX8_calm_12 : decode cX8_calm 12 = .ok (.ifCond .eq 13, 3) := by decide +kernel
theorem dX8_calm_15 : decode cX8_calm 15 = .ok (.iload_n 2, 1) := by decide +kernel
theorem dX8_calm_16 : decode cX8_calm 16 = .ok (.iconst 0, 1) := by decide +kernel
theorem dX8_calm_17 : decode cX8_calm 17 = .ok (.bipush 100, 2) := by decide +kernel
theorem dX8_calm_19 : decode cX8_calm 19 = .ok (.invokestatic 75, 3) := by decide +kernel
theorem dX8_calm_22 : decode cX8_calm 22 = .ok (.ifCond .ne 6, 3) := by decide +kernel
theorem dX8_calm_25 : decode cX8_calm 25 = .ok (.ldc 79, 2) := by decide +kernel
theorem dX8_calm_27 : decode cX8_calm 27 = .ok (.ireturn, 1) := by decide +kernel
theorem dX8_calm_28 : decode cX8_calm 28 = .ok (.ldc2_w 257, 3) := by decide +kernel
theorem dX8_calm_31 : decode cX8_calm 31 = .ok (.lstore_n 3, 1) := by decide +kernel
theorem dX8_calm_32 : decode cX8_calm 32 = .ok (.iconst 0, 1) := by decide +kernel
theorem dX8_calm_33 : decode cX8_calm 33 = .ok (.istore 5, 2) := by decide +kernel
theorem dX8_calm_35 : decode cX8_calm 35 = .ok (.iload 5, 2) := by decide +kernel
theorem dX8_calm_37 : decode cX8_calm 37 = .ok (.iload_n 1, 1) := by decide +kernel
theorem dX8_calm_38 : decode cX8_calm 38 = .ok (.if_icmp .ge 18, 3) := by decide +kernel
theorem dX8_calm_41 : decode cX8_calm 41 = .ok (.lload_n 3, 1) := by decide +kernel
theorem dX8_calm_42 : decode cX8_calm 42 = .ok (.iload_n 2, 1) := by decide +kernel
theorem dX8_calm_43 : decode cX8_calm 43 = .ok (.i2l, 1) := by decide +kernel
theorem dX8_calm_44 : decode cX8_calm 44 = .ok (.lmul, 1) := by decide +kernel
theorem dX8_calm_45 : decode cX8_calm 45 = .ok (.ldc2_w 259, 3) := by decide +kernel
theorem dX8_calm_48 : decode cX8_calm 48 = .ok (.ldiv, 1) := by decide +kernel
theorem dX8_calm_49 : decode cX8_calm 49 = .ok (.lstore_n 3, 1) := by decide +kernel
theorem dX8_calm_50 : decode cX8_calm 50 = .ok (.iinc 5 1, 3) := by decide +kernel
theorem dX8_calm_53 : decode cX8_calm 53 = .ok (.goto (-18), 3) := by decide +kernel
theorem dX8_calm_56 : decode cX8_calm 56 = .ok (.lload_n 3, 1) := by decide +kernel
theorem dX8_calm_57 : decode cX8_calm 57 = .ok (.l2i, 1) := by decide +kernel
theorem dX8_calm_58 : decode cX8_calm 58 = .ok (.ireturn, 1) := by decide +kernel
theorem dX8_write_0 : decode cX8_write 0 = .ok (.aload_n 0, 1) := by decide +kernel
theorem dX8_write_1 : decode cX8_write 1 = .ok (.iconst 0, 1) := by decide +kernel
theorem dX8_write_2 : decode cX8_write 2 = .ok (.putfield 72, 3) := by decide +kernel
theorem dX8_write_5 : decode cX8_write 5 = .ok (.aload_n 0, 1) := by decide +kernel
theorem dX8_write_6 : decode cX8_write 6 = .ok (.iload_n 1, 1) := by decide +kernel
theorem dX8_write_7 : decode cX8_write 7 = .ok (.invokevirtual 216, 3) := by decide +kernel
theorem dX8_write_10 : decode cX8_write 10 = .ok (.ifCond .ne 6, 3) := by decide +kernel
theorem dX8_write_13 : decode cX8_write 13 = .ok (.ldc 220, 2) := by decide +kernel
theorem dX8_write_15 : decode cX8_write 15 = .ok (.ireturn, 1) := by decide +kernel
theorem dX8_write_16 : decode cX8_write 16 = .ok (.aload_n 0, 1) := by decide +kernel
theorem dX8_write_17 : decode cX8_write 17 = .ok (.getfield 140, 3) := by decide +kernel
theorem dX8_write_20 : decode cX8_write 20 = .ok (.bipush 15, 2) := by decide +kernel
theorem dX8_write_22 : decode cX8_write 22 = .ok (.if_icmp .ne 6, 3) := by decide +kernel
theorem dX8_write_25 : decode cX8_write 25 = .ok (.ldc 83, 2) := by decide +kernel
theorem dX8_write_27 : decode cX8_write 27 = .ok (.ireturn, 1) := by decide +kernel
theorem dX8_write_28 : decode cX8_write 28 = .ok (.aload_n 0, 1) := by decide +kernel
theorem dX8_write_29 : decode cX8_write 29 = .ok (.getfield 32, 3) := by decide +kernel
theorem dX8_write_32 : decode cX8_write 32 = .ok (.aload_n 0, 1) := by decide +kernel
theorem dX8_write_33 : decode cX8_write 33 = .ok (.getfield 140, 3) := by decide +kernel
theorem dX8_write_36 : decode cX8_write 36 = .ok (.iload_n 1, 1) := by decide +kernel
theorem dX8_write_37 : decode cX8_write 37 = .ok (.iastore, 1) := by decide +kernel
theorem dX8_write_38 : decode cX8_write 38 = .ok (.aload_n 0, 1) := by decide +kernel
theorem dX8_write_39 : decode cX8_write 39 = .ok (.getfield 35, 3) := by decide +kernel
theorem dX8_write_42 : decode cX8_write 42 = .ok (.aload_n 0, 1) := by decide +kernel
theorem dX8_write_43 : decode cX8_write 43 = .ok (.getfield 140, 3) := by decide +kernel
theorem dX8_write_46 : decode cX8_write 46 = .ok (.iload_n 2, 1) := by decide +kernel
theorem dX8_write_47 : decode cX8_write 47 = .ok (.bastore, 1) := by decide +kernel
theorem dX8_write_48 : decode cX8_write 48 = .ok (.aload_n 0, 1) := by decide +kernel
theorem dX8_write_49 : decode cX8_write 49 = .ok (.dup, 1) := by decide +kernel
theorem dX8_write_50 : decode cX8_write 50 = .ok (.getfield 140, 3) := by decide +kernel
theorem dX8_write_53 : decode cX8_write 53 = .ok (.iconst 1, 1) := by decide +kernel
theorem dX8_write_54 : decode cX8_write 54 = .ok (.iadd, 1) := by decide +kernel
theorem dX8_write_55 : decode cX8_write 55 = .ok (.putfield 140, 3) := by decide +kernel
theorem dX8_write_58 : decode cX8_write 58 = .ok (.aload_n 0, 1) := by decide +kernel
theorem dX8_write_59 : decode cX8_write 59 = .ok (.getfield 140, 3) := by decide +kernel
theorem dX8_write_62 : decode cX8_write 62 = .ok (.ireturn, 1) := by decide +kernel
theorem dX8_tear_0 : decode cX8_tear 0 = .ok (.aload_n 0, 1) := by decide +kernel
theorem dX8_tear_1 : decode cX8_tear 1 = .ok (.iconst 0, 1) := by decide +kernel
theorem dX8_tear_2 : decode cX8_tear 2 = .ok (.putfield 72, 3) := by decide +kernel
theorem dX8_tear_5 : decode cX8_tear 5 = .ok (.aload_n 0, 1) := by decide +kernel
theorem dX8_tear_6 : decode cX8_tear 6 = .ok (.getfield 140, 3) := by decide +kernel
theorem dX8_tear_9 : decode cX8_tear 9 = .ok (.istore_n 1, 1) := by decide +kernel
theorem dX8_tear_10 : decode cX8_tear 10 = .ok (.aload_n 0, 1) := by decide +kernel
theorem dX8_tear_11 : decode cX8_tear 11 = .ok (.iconst 0, 1) := by decide +kernel
theorem dX8_tear_12 : decode cX8_tear 12 = .ok (.putfield 140, 3) := by decide +kernel
theorem dX8_tear_15 : decode cX8_tear 15 = .ok (.iload_n 1, 1) := by decide +kernel
theorem dX8_tear_16 : decode cX8_tear 16 = .ok (.ireturn, 1) := by decide +kernel
theorem dX8_judge_0 : decode cX8_judge 0 = .ok (.aload_n 0, 1) := by decide +kernel
theorem dX8_judge_1 : decode cX8_judge 1 = .ok (.iconst 0, 1) := by decide +kernel
theorem dX8_judge_2 : decode cX8_judge 2 = .ok (.putfield 72, 3) := by decide +kernel
theorem dX8_judge_5 : decode cX8_judge 5 = .ok (.iconst 0, 1) := by decide +kernel
theorem dX8_judge_6 : decode cX8_judge 6 = .ok (.istore_n 1, 1) := by decide +kernel
theorem dX8_judge_7 : decode cX8_judge 7 = .ok (.iload_n 1, 1) := by decide +kernel
theorem dX8_judge_8 : decode cX8_judge 8 = .ok (.aload_n 0, 1) := by decide +kernel
theorem dX8_judge_9 : decode cX8_judge 9 = .ok (.getfield 140, 3) := by decide +kernel
theorem dX8_judge_12 : decode cX8_judge 12 = .ok (.if_icmp .ge 36, 3) := by decide +kernel
theorem dX8_judge_15 : decode cX8_judge 15 = .ok (.aload_n 0, 1) := by decide +kernel
theorem dX8_judge_16 : decode cX8_judge 16 = .ok (.getfield 19, 3) := by decide +kernel
theorem dX8_judge_19 : decode cX8_judge 19 = .ok (.bipush 45, 2) := by decide +kernel
theorem dX8_judge_21 : decode cX8_judge 21 = .ok (.iaload, 1) := by decide +kernel
theorem dX8_judge_22 : decode cX8_judge 22 = .ok (.aload_n 0, 1) := by decide +kernel
theorem dX8_judge_23 : decode cX8_judge 23 = .ok (.getfield 32, 3) := by decide +kernel
theorem dX8_judge_26 : decode cX8_judge 26 = .ok (.iload_n 1, 1) := by decide +kernel
theorem dX8_judge_27 : decode cX8_judge 27 = .ok (.iaload, 1) := by decide +kernel
theorem dX8_judge_28 : decode cX8_judge 28 = .ok (.invokestatic 170, 3) := by decide +kernel
theorem dX8_judge_31 : decode cX8_judge 31 = .ok (.aload_n 0, 1) := by decide +kernel
theorem dX8_judge_32 : decode cX8_judge 32 = .ok (.getfield 35, 3) := by decide +kernel
theorem dX8_judge_35 : decode cX8_judge 35 = .ok (.iload_n 1, 1) := by decide +kernel
theorem dX8_judge_36 : decode cX8_judge 36 = .ok (.baload, 1) := by decide +kernel
theorem dX8_judge_37 : decode cX8_judge 37 = .ok (.if_icmp .eq 5, 3) := by decide +kernel
theorem dX8_judge_40 : decode cX8_judge 40 = .ok (.iload_n 1, 1) := by decide +kernel
theorem dX8_judge_41 : decode cX8_judge 41 = .ok (.ireturn, 1) := by decide +kernel
theorem dX8_judge_42 : decode cX8_judge 42 = .ok (.iinc 1 1, 3) := by decide +kernel
theorem dX8_judge_45 : decode cX8_judge 45 = .ok (.goto (-38), 3) := by decide +kernel
theorem dX8_judge_48 : decode cX8_judge 48 = .ok (.iconst (-1), 1) := by decide +kernel
theorem dX8_judge_49 : decode cX8_judge 49 = .ok (.ireturn, 1) := by decide +kernel
theorem dX8_seed_0 : decode cX8_seed 0 = .ok (.aload_n 0, 1) := by decide +kernel
theorem dX8_seed_1 : decode cX8_seed 1 = .ok (.iconst 0, 1) := by decide +kernel
theorem dX8_seed_2 : decode cX8_seed 2 = .ok (.putfield 72, 3) := by decide +kernel
theorem dX8_seed_5 : decode cX8_seed 5 = .ok (.iload_n 1, 1) := by decide +kernel
theorem dX8_seed_6 : decode cX8_seed 6 = .ok (.ifCond .ge 6, 3) := by decide +kernel
theorem dX8_seed_9 : decode cX8_seed 9 = .ok (.ldc 79, 2) := by decide +kernel
theorem dX8_seed_11 : decode cX8_seed 11 = .ok (.ireturn, 1) := by decide +kernel
theorem dX8_seed_12 : decode cX8_seed 12 = .ok (.aload_n 0, 1) := by decide +kernel
theorem dX8_seed_13 : decode cX8_seed 13 = .ok (.getfield 19, 3) := by decide +kernel
theorem dX8_seed_16 : decode cX8_seed 16 = .ok (.bipush 48, 2) := by decide +kernel
theorem dX8_seed_18 : decode cX8_seed 18 = .ok (.iaload, 1) := by decide +kernel
theorem dX8_seed_19 : decode cX8_seed 19 = .ok (.istore_n 2, 1) := by decide +kernel
theorem dX8_seed_20 : decode cX8_seed 20 = .ok (.aload_n 0, 1) := by decide +kernel
theorem dX8_seed_21 : decode cX8_seed 21 = .ok (.getfield 19, 3) := by decide +kernel
theorem dX8_seed_24 : decode cX8_seed 24 = .ok (.bipush 48, 2) := by decide +kernel
theorem dX8_seed_26 : decode cX8_seed 26 = .ok (.iload_n 1, 1) := by decide +kernel
theorem dX8_seed_27 : decode cX8_seed 27 = .ok (.iastore, 1) := by decide +kernel
theorem dX8_seed_28 : decode cX8_seed 28 = .ok (.iload_n 2, 1) := by decide +kernel
theorem dX8_seed_29 : decode cX8_seed 29 = .ok (.ireturn, 1) := by decide +kernel
theorem dX8_keep_0 : decode cX8_keep 0 = .ok (.aload_n 0, 1) := by decide +kernel
theorem dX8_keep_1 : decode cX8_keep 1 = .ok (.iconst 0, 1) := by decide +kernel
theorem dX8_keep_2 : decode cX8_keep 2 = .ok (.putfield 72, 3) := by decide +kernel
theorem dX8_keep_5 : decode cX8_keep 5 = .ok (.iload_n 1, 1) := by decide +kernel
theorem dX8_keep_6 : decode cX8_keep 6 = .ok (.iconst 0, 1) := by decide +kernel
theorem dX8_keep_7 : decode cX8_keep 7 = .ok (.iconst 1, 1) := by decide +kernel
theorem dX8_keep_8 : decode cX8_keep 8 = .ok (.invokestatic 75, 3) := by decide +kernel
theorem dX8_keep_11 : decode cX8_keep 11 = .ok (.ifCond .ne 6, 3) := by decide +kernel
theorem dX8_keep_14 : decode cX8_keep 14 = .ok (.ldc 220, 2) := by decide +kernel
theorem dX8_keep_16 : decode cX8_keep 16 = .ok (.ireturn, 1) := by decide +kernel
theorem dX8_keep_17 : decode cX8_keep 17 = .ok (.iconst 0, 1) := by decide +kernel
theorem dX8_keep_18 : decode cX8_keep 18 = .ok (.istore_n 2, 1) := by decide +kernel
theorem dX8_keep_19 : decode cX8_keep 19 = .ok (.iload_n 2, 1) := by decide +kernel
theorem dX8_keep_20 : decode cX8_keep 20 = .ok (.bipush 49, 2) := by decide +kernel
theorem dX8_keep_22 : decode cX8_keep 22 = .ok (.if_icmp .ge 26, 3) := by decide +kernel
theorem dX8_keep_25 : decode cX8_keep 25 = .ok (.aload_n 0, 1) := by decide +kernel
theorem dX8_keep_26 : decode cX8_keep 26 = .ok (.getfield 22, 3) := by decide +kernel
theorem dX8_keep_29 : decode cX8_keep 29 = .ok (.bipush 49, 2) := by decide +kernel
theorem dX8_keep_31 : decode cX8_keep 31 = .ok (.iload_n 1, 1) := by decide +kernel
theorem dX8_keep_32 : decode cX8_keep 32 = .ok (.imul, 1) := by decide +kernel
theorem dX8_keep_33 : decode cX8_keep 33 = .ok (.iload_n 2, 1) := by decide +kernel
theorem dX8_keep_34 : decode cX8_keep 34 = .ok (.iadd, 1) := by decide +kernel
theorem dX8_keep_35 : decode cX8_keep 35 = .ok (.aload_n 0, 1) := by decide +kernel
theorem dX8_keep_36 : decode cX8_keep 36 = .ok (.getfield 19, 3) := by decide +kernel
theorem dX8_keep_39 : decode cX8_keep 39 = .ok (.iload_n 2, 1) := by decide +kernel
theorem dX8_keep_40 : decode cX8_keep 40 = .ok (.iaload, 1) := by decide +kernel
theorem dX8_keep_41 : decode cX8_keep 41 = .ok (.iastore, 1) := by decide +kernel
theorem dX8_keep_42 : decode cX8_keep 42 = .ok (.iinc 2 1, 3) := by decide +kernel
theorem dX8_keep_45 : decode cX8_keep 45 = .ok (.goto (-26), 3) := by decide +kernel
theorem dX8_keep_48 : decode cX8_keep 48 = .ok (.aload_n 0, 1) := by decide +kernel
theorem dX8_keep_49 : decode cX8_keep 49 = .ok (.getfield 25, 3) := by decide +kernel
theorem dX8_keep_52 : decode cX8_keep 52 = .ok (.iload_n 1, 1) := by decide +kernel
theorem dX8_keep_53 : decode cX8_keep 53 = .ok (.iconst 1, 1) := by decide +kernel
theorem dX8_keep_54 : decode cX8_keep 54 = .ok (.bastore, 1) := by decide +kernel
theorem dX8_keep_55 : decode cX8_keep 55 = .ok (.aload_n 0, 1) := by decide +kernel
theorem dX8_keep_56 : decode cX8_keep 56 = .ok (.iconst 0, 1) := by decide +kernel
theorem dX8_keep_57 : decode cX8_keep 57 = .ok (.putfield 143, 3) := by decide +kernel
theorem dX8_keep_60 : decode cX8_keep 60 = .ok (.iconst 1, 1) := by decide +kernel
theorem dX8_keep_61 : decode cX8_keep 61 = .ok (.ireturn, 1) := by decide +kernel
theorem dX8_goBack_0 : decode cX8_goBack 0 = .ok (.aload_n 0, 1) := by decide +kernel
theorem dX8_goBack_1 : decode cX8_goBack 1 = .ok (.iconst 0, 1) := by decide +kernel
theorem dX8_goBack_2 : decode cX8_goBack 2 = .ok (.putfield 72, 3) := by decide +kernel
theorem dX8_goBack_5 : decode cX8_goBack 5 = .ok (.iload_n 1, 1) := by decide +kernel
theorem dX8_goBack_6 : decode cX8_goBack 6 = .ok (.iconst 0, 1) := by decide +kernel
theorem dX8_goBack_7 : decode cX8_goBack 7 = .ok (.iconst 1, 1) := by decide +kernel
theorem dX8_goBack_8 : decode cX8_goBack 8 = .ok (.invokestatic 75, 3) := by decide +kernel
theorem dX8_goBack_11 : decode cX8_goBack 11 = .ok (.ifCond .ne 6, 3) := by decide +kernel
theorem dX8_goBack_14 : decode cX8_goBack 14 = .ok (.ldc 220, 2) := by decide +kernel
theorem dX8_goBack_16 : decode cX8_goBack 16 = .ok (.ireturn, 1) := by decide +kernel
theorem dX8_goBack_17 : decode cX8_goBack 17 = .ok (.aload_n 0, 1) := by decide +kernel
theorem dX8_goBack_18 : decode cX8_goBack 18 = .ok (.getfield 25, 3) := by decide +kernel
theorem dX8_goBack_21 : decode cX8_goBack 21 = .ok (.iload_n 1, 1) := by decide +kernel
theorem dX8_goBack_22 : decode cX8_goBack 22 = .ok (.baload, 1) := by decide +kernel
theorem dX8_goBack_23 : decode cX8_goBack 23 = .ok (.ifCond .ne 6, 3) := by decide +kernel
theorem dX8_goBack_26 : decode cX8_goBack 26 = .ok (.ldc 233, 2) := by decide +kernel
theorem dX8_goBack_28 : decode cX8_goBack 28 = .ok (.ireturn, 1) := by decide +kernel
theorem dX8_goBack_29 : decode cX8_goBack 29 = .ok (.iconst 0, 1) := by decide +kernel
theorem dX8_goBack_30 : decode cX8_goBack 30 = .ok (.istore_n 2, 1) := by decide +kernel
theorem dX8_goBack_31 : decode cX8_goBack 31 = .ok (.iload_n 2, 1) := by decide +kernel
theorem dX8_goBack_32 : decode cX8_goBack 32 = .ok (.bipush 49, 2) := by decide +kernel
theorem dX8_goBack_34 : decode cX8_goBack 34 = .ok (.if_icmp .ge 26, 3) := by decide +kernel
theorem dX8_goBack_37 : decode cX8_goBack 37 = .ok (.aload_n 0, 1) := by decide +kernel
theorem dX8_goBack_38 : decode cX8_goBack 38 = .ok (.getfield 19, 3) := by decide +kernel
theorem dX8_goBack_41 : decode cX8_goBack 41 = .ok (.iload_n 2, 1) := by decide +kernel
theorem dX8_goBack_42 : decode cX8_goBack 42 = .ok (.aload_n 0, 1) := by decide +kernel
theorem dX8_goBack_43 : decode cX8_goBack 43 = .ok (.getfield 22, 3) := by decide +kernel
theorem dX8_goBack_46 : decode cX8_goBack 46 = .ok (.bipush 49, 2) := by decide +kernel
theorem dX8_goBack_48 : decode cX8_goBack 48 = .ok (.iload_n 1, 1) := by decide +kernel
theorem dX8_goBack_49 : decode cX8_goBack 49 = .ok (.imul, 1) := by decide +kernel
theorem dX8_goBack_50 : decode cX8_goBack 50 = .ok (.iload_n 2, 1) := by decide +kernel
theorem dX8_goBack_51 : decode cX8_goBack 51 = .ok (.iadd, 1) := by decide +kernel
theorem dX8_goBack_52 : decode cX8_goBack 52 = .ok (.iaload, 1) := by decide +kernel
theorem dX8_goBack_53 : decode cX8_goBack 53 = .ok (.iastore, 1) := by decide +kernel
theorem dX8_goBack_54 : decode cX8_goBack 54 = .ok (.iinc 2 1, 3) := by decide +kernel
theorem dX8_goBack_57 : decode cX8_goBack 57 = .ok (.goto (-26), 3) := by decide +kernel
theorem dX8_goBack_60 : decode cX8_goBack 60 = .ok (.aload_n 0, 1) := by decide +kernel
theorem dX8_goBack_61 : decode cX8_goBack 61 = .ok (.iconst 0, 1) := by decide +kernel
theorem dX8_goBack_62 : decode cX8_goBack 62 = .ok (.putfield 143, 3) := by decide +kernel
theorem dX8_goBack_65 : decode cX8_goBack 65 = .ok (.iconst 1, 1) := by decide +kernel
theorem dX8_goBack_66 : decode cX8_goBack 66 = .ok (.ireturn, 1) := by decide +kernel
