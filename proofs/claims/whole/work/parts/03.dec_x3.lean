theorem dX7_change_43 : decode cX7_change 43 = .ok (.iaload, 1) := by decide +kernel
theorem dX7_change_44 : decode cX7_change 44 = .ok (.ireturn, 1) := by decide +kernel
theorem dX7_chip_0 : decode cX7_chip 0 = .ok (.aload_n 0, 1) := by decide +kernel
theorem dX7_chip_1 : decode cX7_chip 1 = .ok (.getfield 19, 3) := by decide +kernel
theorem dX7_chip_4 : decode cX7_chip 4 = .ok (.iload_n 1, 1) := by decide +kernel
theorem dX7_chip_5 : decode cX7_chip 5 = .ok (.invokevirtual 130, 3) := by decide +kernel
theorem dX7_chip_8 : decode cX7_chip 8 = .ok (.ifCond .ne 6, 3) := by decide +kernel
theorem dX7_chip_11 : decode cX7_chip 11 = .ok (.ldc 134, 2) := by decide +kernel
theorem dX7_chip_13 : decode cX7_chip 13 = .ok (.ireturn, 1) := by decide +kernel
theorem dX7_chip_14 : decode cX7_chip 14 = .ok (.iload_n 2, 1) := by decide +kernel
theorem dX7_chip_15 : decode cX7_chip 15 = .ok (.ifCond .lt 9, 3) := by decide +kernel
theorem dX7_chip_18 : decode cX7_chip 18 = .ok (.iload_n 2, 1) := by decide +kernel
theorem dX7_chip_19 : decode cX7_chip 19 = .ok (.bipush 9, 2) := by decide +kernel
theorem dX7_chip_21 : decode cX7_chip 21 = .ok (.if_icmp .le 6, 3) := by decide +kernel
theorem dX7_chip_24 : decode cX7_chip 24 = .ok (.ldc 77, 2) := by decide +kernel
theorem dX7_chip_26 : decode cX7_chip 26 = .ok (.ireturn, 1) := by decide +kernel
theorem dX7_chip_27 : decode cX7_chip 27 = .ok (.aload_n 0, 1) := by decide +kernel
theorem dX7_chip_28 : decode cX7_chip 28 = .ok (.invokevirtual 177, 3) := by decide +kernel
theorem dX7_chip_31 : decode cX7_chip 31 = .ok (.aload_n 0, 1) := by decide +kernel
theorem dX7_chip_32 : decode cX7_chip 32 = .ok (.getfield 19, 3) := by decide +kernel
theorem dX7_chip_35 : decode cX7_chip 35 = .ok (.getfield 141, 3) := by decide +kernel
theorem dX7_chip_38 : decode cX7_chip 38 = .ok (.iload_n 1, 1) := by decide +kernel
theorem dX7_chip_39 : decode cX7_chip 39 = .ok (.iaload, 1) := by decide +kernel
theorem dX7_chip_40 : decode cX7_chip 40 = .ok (.istore_n 3, 1) := by decide +kernel
theorem dX7_chip_41 : decode cX7_chip 41 = .ok (.aload_n 0, 1) := by decide +kernel
theorem dX7_chip_42 : decode cX7_chip 42 = .ok (.getfield 19, 3) := by decide +kernel
theorem dX7_chip_45 : decode cX7_chip 45 = .ok (.getfield 141, 3) := by decide +kernel
theorem dX7_chip_48 : decode cX7_chip 48 = .ok (.iload_n 1, 1) := by decide +kernel
theorem dX7_chip_49 : decode cX7_chip 49 = .ok (.iload_n 2, 1) := by decide +kernel
theorem dX7_chip_50 : decode cX7_chip 50 = .ok (.iastore, 1) := by decide +kernel
theorem dX7_chip_51 : decode cX7_chip 51 = .ok (.iload_n 3, 1) := by decide +kernel
theorem dX7_chip_52 : decode cX7_chip 52 = .ok (.ireturn, 1) := by decide +kernel
theorem dX7_replace_0 : decode cX7_replace 0 = .ok (.aload_n 0, 1) := by decide +kernel
theorem dX7_replace_1 : decode cX7_replace 1 = .ok (.getfield 19, 3) := by decide +kernel
theorem dX7_replace_4 : decode cX7_replace 4 = .ok (.iload_n 1, 1) := by decide +kernel
theorem dX7_replace_5 : decode cX7_replace 5 = .ok (.invokevirtual 130, 3) := by decide +kernel
theorem dX7_replace_8 : decode cX7_replace 8 = .ok (.ifCond .ne 6, 3) := by decide +kernel
theorem dX7_replace_11 : decode cX7_replace 11 = .ok (.ldc 134, 2) := by decide +kernel
theorem dX7_replace_13 : decode cX7_replace 13 = .ok (.ireturn, 1) := by decide +kernel
theorem dX7_replace_14 : decode cX7_replace 14 = .ok (.aload_n 0, 1) := by decide +kernel
theorem dX7_replace_15 : decode cX7_replace 15 = .ok (.getfield 19, 3) := by decide +kernel
theorem dX7_replace_18 : decode cX7_replace 18 = .ok (.getfield 135, 3) := by decide +kernel
theorem dX7_replace_21 : decode cX7_replace 21 = .ok (.iload_n 1, 1) := by decide +kernel
theorem dX7_replace_22 : decode cX7_replace 22 = .ok (.iaload, 1) := by decide +kernel
theorem dX7_replace_23 : decode cX7_replace 23 = .ok (.istore_n 2, 1) := by decide +kernel
theorem dX7_replace_24 : decode cX7_replace 24 = .ok (.iload_n 2, 1) := by decide +kernel
theorem dX7_replace_25 : decode cX7_replace 25 = .ok (.iconst 3, 1) := by decide +kernel
theorem dX7_replace_26 : decode cX7_replace 26 = .ok (.if_icmp .ne 6, 3) := by decide +kernel
theorem dX7_replace_29 : decode cX7_replace 29 = .ok (.ldc 176, 2) := by decide +kernel
theorem dX7_replace_31 : decode cX7_replace 31 = .ok (.ireturn, 1) := by decide +kernel
theorem dX7_replace_32 : decode cX7_replace 32 = .ok (.aload_n 0, 1) := by decide +kernel
theorem dX7_replace_33 : decode cX7_replace 33 = .ok (.invokevirtual 177, 3) := by decide +kernel
theorem dX7_replace_36 : decode cX7_replace 36 = .ok (.aload_n 0, 1) := by decide +kernel
theorem dX7_replace_37 : decode cX7_replace 37 = .ok (.getfield 19, 3) := by decide +kernel
theorem dX7_replace_40 : decode cX7_replace 40 = .ok (.getfield 135, 3) := by decide +kernel
theorem dX7_replace_43 : decode cX7_replace 43 = .ok (.iload_n 1, 1) := by decide +kernel
theorem dX7_replace_44 : decode cX7_replace 44 = .ok (.iconst 3, 1) := by decide +kernel
theorem dX7_replace_45 : decode cX7_replace 45 = .ok (.iastore, 1) := by decide +kernel
theorem dX7_replace_46 : decode cX7_replace 46 = .ok (.iload_n 2, 1) := by decide +kernel
theorem dX7_replace_47 : decode cX7_replace 47 = .ok (.ireturn, 1) := by decide +kernel
theorem dX7_drift_0 : decode cX7_drift 0 = .ok (.iload_n 1, 1) := by decide +kernel
theorem dX7_drift_1 : decode cX7_drift 1 = .ok (.iconst 1, 1) := by decide +kernel
theorem dX7_drift_2 : decode cX7_drift 2 = .ok (.if_icmp .lt 9, 3) := by decide +kernel
theorem dX7_drift_5 : decode cX7_drift 5 = .ok (.iload_n 1, 1) := by decide +kernel
theorem dX7_drift_6 : decode cX7_drift 6 = .ok (.bipush 30, 2) := by decide +kernel
theorem dX7_drift_8 : decode cX7_drift 8 = .ok (.if_icmp .le 6, 3) := by decide +kernel
theorem dX7_drift_11 : decode cX7_drift 11 = .ok (.ldc 77, 2) := by decide +kernel
theorem dX7_drift_13 : decode cX7_drift 13 = .ok (.ireturn, 1) := by decide +kernel
theorem dX7_drift_14 : decode cX7_drift 14 = .ok (.aload_n 0, 1) := by decide +kernel
theorem dX7_drift_15 : decode cX7_drift 15 = .ok (.getfield 19, 3) := by decide +kernel
theorem dX7_drift_18 : decode cX7_drift 18 = .ok (.invokevirtual 172, 3) := by decide +kernel
theorem dX7_drift_21 : decode cX7_drift 21 = .ok (.ifCond .ne 6, 3) := by decide +kernel
theorem dX7_drift_24 : decode cX7_drift 24 = .ok (.ldc 176, 2) := by decide +kernel
theorem dX7_drift_26 : decode cX7_drift 26 = .ok (.ireturn, 1) := by decide +kernel
theorem dX7_drift_27 : decode cX7_drift 27 = .ok (.aload_n 0, 1) := by decide +kernel
theorem dX7_drift_28 : decode cX7_drift 28 = .ok (.invokevirtual 177, 3) := by decide +kernel
theorem dX7_drift_31 : decode cX7_drift 31 = .ok (.iconst 0, 1) := by decide +kernel
theorem dX7_drift_32 : decode cX7_drift 32 = .ok (.istore_n 2, 1) := by decide +kernel
theorem dX7_drift_33 : decode cX7_drift 33 = .ok (.iload_n 2, 1) := by decide +kernel
theorem dX7_drift_34 : decode cX7_drift 34 = .ok (.iload_n 1, 1) := by decide +kernel
theorem dX7_drift_35 : decode cX7_drift 35 = .ok (.if_icmp .ge 13, 3) := by decide +kernel
theorem dX7_drift_38 : decode cX7_drift 38 = .ok (.aload_n 0, 1) := by decide +kernel
theorem dX7_drift_39 : decode cX7_drift 39 = .ok (.invokevirtual 196, 3) := by decide +kernel
theorem dX7_drift_42 : decode cX7_drift 42 = .ok (.iinc 2 1, 3) := by decide +kernel
theorem dX7_drift_45 : decode cX7_drift 45 = .ok (.goto (-12), 3) := by decide +kernel
theorem dX7_drift_48 : decode cX7_drift 48 = .ok (.aload_n 0, 1) := by decide +kernel
theorem dX7_drift_49 : decode cX7_drift 49 = .ok (.getfield 19, 3) := by decide +kernel
theorem dX7_drift_52 : decode cX7_drift 52 = .ok (.getfield 111, 3) := by decide +kernel
theorem dX7_drift_55 : decode cX7_drift 55 = .ok (.ireturn, 1) := by decide +kernel
theorem dX7_undo_0 : decode cX7_undo 0 = .ok (.aload_n 0, 1) := by decide +kernel
theorem dX7_undo_1 : decode cX7_undo 1 = .ok (.getfield 29, 3) := by decide +kernel
theorem dX7_undo_4 : decode cX7_undo 4 = .ok (.getfield 129, 3) := by decide +kernel
theorem dX7_undo_7 : decode cX7_undo 7 = .ok (.ifCond .ne 6, 3) := by decide +kernel
theorem dX7_undo_10 : decode cX7_undo 10 = .ok (.ldc 176, 2) := by decide +kernel
theorem dX7_undo_12 : decode cX7_undo 12 = .ok (.ireturn, 1) := by decide +kernel
theorem dX7_undo_13 : decode cX7_undo 13 = .ok (.aload_n 0, 1) := by decide +kernel
theorem dX7_undo_14 : decode cX7_undo 14 = .ok (.getfield 29, 3) := by decide +kernel
theorem dX7_undo_17 : decode cX7_undo 17 = .ok (.aload_n 0, 1) := by decide +kernel
theorem dX7_undo_18 : decode cX7_undo 18 = .ok (.getfield 19, 3) := by decide +kernel
theorem dX7_undo_21 : decode cX7_undo 21 = .ok (.invokevirtual 199, 3) := by decide +kernel
theorem dX7_undo_24 : decode cX7_undo 24 = .ok (.aload_n 0, 1) := by decide +kernel
theorem dX7_undo_25 : decode cX7_undo 25 = .ok (.invokevirtual 99, 3) := by decide +kernel
theorem dX7_undo_28 : decode cX7_undo 28 = .ok (.aload_n 0, 1) := by decide +kernel
theorem dX7_undo_29 : decode cX7_undo 29 = .ok (.getfield 29, 3) := by decide +kernel
theorem dX7_undo_32 : decode cX7_undo 32 = .ok (.getfield 129, 3) := by decide +kernel
theorem dX7_undo_35 : decode cX7_undo 35 = .ok (.ireturn, 1) := by decide +kernel
theorem dX7_wouldFall_0 : decode cX7_wouldFall 0 = .ok (.iload_n 1, 1) := by decide +kernel
theorem dX7_wouldFall_1 : decode cX7_wouldFall 1 = .ok (.iload_n 2, 1) := by decide +kernel
theorem dX7_wouldFall_2 : decode cX7_wouldFall 2 = .ok (.iload_n 3, 1) := by decide +kernel
theorem dX7_wouldFall_3 : decode cX7_wouldFall 3 = .ok (.invokestatic 168, 3) := by decide +kernel
theorem dX7_wouldFall_6 : decode cX7_wouldFall 6 = .ok (.ifCond .eq 14, 3) := by decide +kernel
theorem dX7_wouldFall_9 : decode cX7_wouldFall 9 = .ok (.iload 4, 2) := by decide +kernel
theorem dX7_wouldFall_11 : decode cX7_wouldFall 11 = .ok (.ifCond .lt 9, 3) := by decide +kernel
theorem dX7_wouldFall_14 : decode cX7_wouldFall 14 = .ok (.iload 4, 2) := by decide +kernel
theorem dX7_wouldFall_16 : decode cX7_wouldFall 16 = .ok (.iconst 2, 1) := by decide +kernel
theorem dX7_wouldFall_17 : decode cX7_wouldFall 17 = .ok (.if_icmp .le 6, 3) := by decide +kernel
theorem dX7_wouldFall_20 : decode cX7_wouldFall 20 = .ok (.ldc 77, 2) := by decide +kernel
theorem dX7_wouldFall_22 : decode cX7_wouldFall 22 = .ok (.ireturn, 1) := by decide +kernel
theorem dX7_wouldFall_23 : decode cX7_wouldFall 23 = .ok (.aload_n 0, 1) := by decide +kernel
theorem dX7_wouldFall_24 : decode cX7_wouldFall 24 = .ok (.getfield 19, 3) := by decide +kernel
theorem dX7_wouldFall_27 : decode cX7_wouldFall 27 = .ok (.invokevirtual 172, 3) := by decide +kernel
theorem dX7_wouldFall_30 : decode cX7_wouldFall 30 = .ok (.ifCond .ne 6, 3) := by decide +kernel
theorem dX7_wouldFall_33 : decode cX7_wouldFall 33 = .ok (.ldc 176, 2) := by decide +kernel
theorem dX7_wouldFall_35 : decode cX7_wouldFall 35 = .ok (.ireturn, 1) := by decide +kernel
theorem dX7_wouldFall_36 : decode cX7_wouldFall 36 = .ok (.aload_n 0, 1) := by decide +kernel
theorem dX7_wouldFall_37 : decode cX7_wouldFall 37 = .ok (.getfield 48, 3) := by decide +kernel
theorem dX7_wouldFall_40 : decode cX7_wouldFall 40 = .ok (.aload_n 0, 1) := by decide +kernel
theorem dX7_wouldFall_41 : decode cX7_wouldFall 41 = .ok (.getfield 19, 3) := by decide +kernel
theorem dX7_wouldFall_44 : decode cX7_wouldFall 44 = .ok (.invokevirtual 203, 3) := by decide +kernel
theorem dX7_wouldFall_47 : decode cX7_wouldFall 47 = .ok (.aload_n 0, 1) := by decide +kernel
theorem dX7_wouldFall_48 : decode cX7_wouldFall 48 = .ok (.getfield 48, 3) := by decide +kernel
theorem dX7_wouldFall_51 : decode cX7_wouldFall 51 = .ok (.iload_n 1, 1) := by decide +kernel
theorem dX7_wouldFall_52 : decode cX7_wouldFall 52 = .ok (.iload_n 2, 1) := by decide +kernel
theorem dX7_wouldFall_53 : decode cX7_wouldFall 53 = .ok (.iload_n 3, 1) := by decide +kernel
theorem dX7_wouldFall_54 : decode cX7_wouldFall 54 = .ok (.aload_n 0, 1) := by decide +kernel
theorem dX7_wouldFall_55 : decode cX7_wouldFall 55 = .ok (.getfield 19, 3) := by decide +kernel
theorem dX7_wouldFall_58 : decode cX7_wouldFall 58 = .ok (.getfield 111, 3) := by decide +kernel
theorem dX7_wouldFall_61 : decode cX7_wouldFall 61 = .ok (.invokevirtual 206, 3) := by decide +kernel
theorem dX7_wouldFall_64 : decode cX7_wouldFall 64 = .ok (.istore 5, 2) := by decide +kernel
theorem dX7_wouldFall_66 : decode cX7_wouldFall 66 = .ok (.iload 4, 2) := by decide +kernel
theorem dX7_wouldFall_68 : decode cX7_wouldFall 68 = .ok (.ifCond .ne 6, 3) := by decide +kernel
theorem dX7_wouldFall_71 : decode cX7_wouldFall 71 = .ok (.iload 5, 2) := by decide +kernel
theorem dX7_wouldFall_73 : decode cX7_wouldFall 73 = .ok (.ireturn, 1) := by decide +kernel
theorem dX7_wouldFall_74 : decode cX7_wouldFall 74 = .ok (.iload 4, 2) := by decide +kernel
theorem dX7_wouldFall_76 : decode cX7_wouldFall 76 = .ok (.iconst 1, 1) := by decide +kernel
theorem dX7_wouldFall_77 : decode cX7_wouldFall 77 = .ok (.if_icmp .ne 13, 3) := by decide +kernel
theorem dX7_wouldFall_80 : decode cX7_wouldFall 80 = .ok (.aload_n 0, 1) := by decide +kernel
theorem dX7_wouldFall_81 : decode cX7_wouldFall 81 = .ok (.getfield 48, 3) := by decide +kernel
theorem dX7_wouldFall_84 : decode cX7_wouldFall 84 = .ok (.getfield 210, 3) := by decide +kernel
theorem dX7_wouldFall_87 : decode cX7_wouldFall 87 = .ok (.goto 10, 3) := by decide +kernel
theorem dX7_wouldFall_90 : decode cX7_wouldFall 90 = .ok (.aload_n 0, 1) := by decide +kernel
theorem dX7_wouldFall_91 : decode cX7_wouldFall 91 = .ok (.getfield 48, 3) := by decide +kernel
theorem dX7_wouldFall_94 : decode cX7_wouldFall 94 = .ok (.getfield 213, 3) := by decide +kernel
theorem dX7_wouldFall_97 : decode cX7_wouldFall 97 = .ok (.ireturn, 1) := by decide +kernel
theorem dX7_balls_0 : decode cX7_balls 0 = .ok (.aload_n 0, 1) := by decide +kernel
theorem dX7_balls_1 : decode cX7_balls 1 = .ok (.getfield 19, 3) := by decide +kernel
theorem dX7_balls_4 : decode cX7_balls 4 = .ok (.iload_n 1, 1) := by decide +kernel
theorem dX7_balls_5 : decode cX7_balls 5 = .ok (.invokevirtual 216, 3) := by decide +kernel
theorem dX7_balls_8 : decode cX7_balls 8 = .ok (.ifCond .ne 6, 3) := by decide +kernel
theorem dX7_balls_11 : decode cX7_balls 11 = .ok (.ldc 134, 2) := by decide +kernel
theorem dX7_balls_13 : decode cX7_balls 13 = .ok (.ireturn, 1) := by decide +kernel
theorem dX7_balls_14 : decode cX7_balls 14 = .ok (.iload_n 2, 1) := by decide +kernel
theorem dX7_balls_15 : decode cX7_balls 15 = .ok (.ifCond .lt 8, 3) := by decide +kernel
theorem dX7_balls_18 : decode cX7_balls 18 = .ok (.iload_n 2, 1) := by decide +kernel
theorem dX7_balls_19 : decode cX7_balls 19 = .ok (.iconst 1, 1) := by decide +kernel
theorem dX7_balls_20 : decode cX7_balls 20 = .ok (.if_icmp .le 6, 3) := by decide +kernel
theorem dX7_balls_23 : decode cX7_balls 23 = .ok (.ldc 77, 2) := by decide +kernel
theorem dX7_balls_25 : decode cX7_balls 25 = .ok (.ireturn, 1) := by decide +kernel
theorem dX7_balls_26 : decode cX7_balls 26 = .ok (.aload_n 0, 1) := by decide +kernel
theorem dX7_balls_27 : decode cX7_balls 27 = .ok (.getfield 19, 3) := by decide +kernel
theorem dX7_balls_30 : decode cX7_balls 30 = .ok (.invokevirtual 172, 3) := by decide +kernel
theorem dX7_balls_33 : decode cX7_balls 33 = .ok (.ifCond .ne 6, 3) := by decide +kernel
theorem dX7_balls_36 : decode cX7_balls 36 = .ok (.ldc 176, 2) := by decide +kernel
theorem dX7_balls_38 : decode cX7_balls 38 = .ok (.ireturn, 1) := by decide +kernel
theorem dX7_balls_39 : decode cX7_balls 39 = .ok (.aload_n 0, 1) := by decide +kernel
theorem dX7_balls_40 : decode cX7_balls 40 = .ok (.getfield 55, 3) := by decide +kernel
theorem dX7_balls_43 : decode cX7_balls 43 = .ok (.aload_n 0, 1) := by decide +kernel
theorem dX7_balls_44 : decode cX7_balls 44 = .ok (.getfield 48, 3) := by decide +kernel
theorem dX7_balls_47 : decode cX7_balls 47 = .ok (.aload_n 0, 1) := by decide +kernel
theorem dX7_balls_48 : decode cX7_balls 48 = .ok (.getfield 19, 3) := by decide +kernel
theorem dX7_balls_51 : decode cX7_balls 51 = .ok (.invokevirtual 219, 3) := by decide +kernel
theorem dX7_balls_54 : decode cX7_balls 54 = .ok (.iload_n 2, 1) := by decide +kernel
theorem dX7_balls_55 : decode cX7_balls 55 = .ok (.ifCond .ne 14, 3) := by decide +kernel
theorem dX7_balls_58 : decode cX7_balls 58 = .ok (.aload_n 0, 1) := by decide +kernel
theorem dX7_balls_59 : decode cX7_balls 59 = .ok (.getfield 55, 3) := by decide +kernel
theorem dX7_balls_62 : decode cX7_balls 62 = .ok (.iload_n 1, 1) := by decide +kernel
theorem dX7_balls_63 : decode cX7_balls 63 = .ok (.invokevirtual 223, 3) := by decide +kernel
theorem dX7_balls_66 : decode cX7_balls 66 = .ok (.goto 14, 3) := by decide +kernel
theorem dX7_balls_69 : decode cX7_balls 69 = .ok (.aload_n 0, 1) := by decide +kernel
theorem dX7_balls_70 : decode cX7_balls 70 = .ok (.getfield 55, 3) := by decide +kernel
theorem dX7_balls_73 : decode cX7_balls 73 = .ok (.iload_n 1, 1) := by decide +kernel
theorem dX7_balls_74 : decode cX7_balls 74 = .ok (.invokevirtual 226, 3) := by decide +kernel
theorem dX7_balls_77 : decode cX7_balls 77 = .ok (.invokestatic 229, 3) := by decide +kernel
theorem dX7_balls_80 : decode cX7_balls 80 = .ok (.ireturn, 1) := by decide +kernel
theorem dX7_spare_0 : decode cX7_spare 0 = .ok (.aload_n 0, 1) := by decide +kernel
theorem dX7_spare_1 : decode cX7_spare 1 = .ok (.getfield 19, 3) := by decide +kernel
theorem dX7_spare_4 : decode cX7_spare 4 = .ok (.iload_n 1, 1) := by decide +kernel
theorem dX7_spare_5 : decode cX7_spare 5 = .ok (.invokevirtual 216, 3) := by decide +kernel
theorem dX7_spare_8 : decode cX7_spare 8 = .ok (.ifCond .eq 14, 3) := by decide +kernel
theorem dX7_spare_11 : decode cX7_spare 11 = .ok (.aload_n 0, 1) := by decide +kernel
theorem dX7_spare_12 : decode cX7_spare 12 = .ok (.getfield 19, 3) := by decide +kernel
theorem dX7_spare_15 : decode cX7_spare 15 = .ok (.iload_n 2, 1) := by decide +kernel
theorem dX7_spare_16 : decode cX7_spare 16 = .ok (.invokevirtual 216, 3) := by decide +kernel
theorem dX7_spare_19 : decode cX7_spare 19 = .ok (.ifCond .ne 6, 3) := by decide +kernel
theorem dX7_spare_22 : decode cX7_spare 22 = .ok (.ldc 134, 2) := by decide +kernel
theorem dX7_spare_24 : decode cX7_spare 24 = .ok (.ireturn, 1) := by decide +kernel
theorem dX7_spare_25 : decode cX7_spare 25 = .ok (.aload_n 0, 1) := by decide +kernel
theorem dX7_spare_26 : decode cX7_spare 26 = .ok (.getfield 19, 3) := by decide +kernel
theorem dX7_spare_29 : decode cX7_spare 29 = .ok (.invokevirtual 172, 3) := by decide +kernel
theorem dX7_spare_32 : decode cX7_spare 32 = .ok (.ifCond .ne 6, 3) := by decide +kernel
theorem dX7_spare_35 : decode cX7_spare 35 = .ok (.ldc 176, 2) := by decide +kernel
theorem dX7_spare_37 : decode cX7_spare 37 = .ok (.ireturn, 1) := by decide +kernel
theorem dX7_spare_38 : decode cX7_spare 38 = .ok (.aload_n 0, 1) := by decide +kernel
theorem dX7_spare_39 : decode cX7_spare 39 = .ok (.getfield 55, 3) := by decide +kernel
theorem dX7_spare_42 : decode cX7_spare 42 = .ok (.aload_n 0, 1) := by decide +kernel
theorem dX7_spare_43 : decode cX7_spare 43 = .ok (.getfield 48, 3) := by decide +kernel
theorem dX7_spare_46 : decode cX7_spare 46 = .ok (.aload_n 0, 1) := by decide +kernel
theorem dX7_spare_47 : decode cX7_spare 47 = .ok (.getfield 19, 3) := by decide +kernel
theorem dX7_spare_50 : decode cX7_spare 50 = .ok (.invokevirtual 219, 3) := by decide +kernel
theorem dX7_spare_53 : decode cX7_spare 53 = .ok (.aload_n 0, 1) := by decide +kernel
theorem dX7_spare_54 : decode cX7_spare 54 = .ok (.getfield 55, 3) := by decide +kernel
theorem dX7_spare_57 : decode cX7_spare 57 = .ok (.iload_n 1, 1) := by decide +kernel
theorem dX7_spare_58 : decode cX7_spare 58 = .ok (.iload_n 2, 1) := by decide +kernel
theorem dX7_spare_59 : decode cX7_spare 59 = .ok (.invokevirtual 232, 3) := by decide +kernel
theorem dX7_spare_62 : decode cX7_spare 62 = .ok (.invokestatic 229, 3) := by decide +kernel
theorem dX7_spare_65 : decode cX7_spare 65 = .ok (.ireturn, 1) := by decide +kernel
theorem dX7_allDown_0 : decode cX7_allDown 0 = .ok (.iload_n 1, 1) := by decide +kernel
theorem dX7_allDown_1 : decode cX7_allDown 1 = .ok (.ifCond .lt 8, 3) := by decide +kernel
theorem dX7_allDown_4 : decode cX7_allDown 4 = .ok (.iload_n 1, 1) := by decide +kernel
theorem dX7_allDown_5 : decode cX7_allDown 5 = .ok (.iconst 1, 1) := by decide +kernel
theorem dX7_allDown_6 : decode cX7_allDown 6 = .ok (.if_icmp .le 6, 3) := by decide +kernel
theorem dX7_allDown_9 : decode cX7_allDown 9 = .ok (.ldc 77, 2) := by decide +kernel
theorem dX7_allDown_11 : decode cX7_allDown 11 = .ok (.ireturn, 1) := by decide +kernel
theorem dX7_allDown_12 : decode cX7_allDown 12 = .ok (.aload_n 0, 1) := by decide +kernel
theorem dX7_allDown_13 : decode cX7_allDown 13 = .ok (.getfield 19, 3) := by decide +kernel
theorem dX7_allDown_16 : decode cX7_allDown 16 = .ok (.invokevirtual 172, 3) := by decide +kernel
theorem dX7_allDown_19 : decode cX7_allDown 19 = .ok (.ifCond .ne 6, 3) := by decide +kernel
theorem dX7_allDown_22 : decode cX7_allDown 22 = .ok (.ldc 176, 2) := by decide +kernel
theorem dX7_allDown_24 : decode cX7_allDown 24 = .ok (.ireturn, 1) := by decide +kernel
theorem dX7_allDown_25 : decode cX7_allDown 25 = .ok (.aload_n 0, 1) := by decide +kernel
theorem dX7_allDown_26 : decode cX7_allDown 26 = .ok (.getfield 62, 3) := by decide +kernel
theorem dX7_allDown_29 : decode cX7_allDown 29 = .ok (.aload_n 0, 1) := by decide +kernel
theorem dX7_allDown_30 : decode cX7_allDown 30 = .ok (.getfield 48, 3) := by decide +kernel
theorem dX7_allDown_33 : decode cX7_allDown 33 = .ok (.aload_n 0, 1) := by decide +kernel
theorem dX7_allDown_34 : decode cX7_allDown 34 = .ok (.getfield 19, 3) := by decide +kernel
theorem dX7_allDown_37 : decode cX7_allDown 37 = .ok (.invokevirtual 236, 3) := by decide +kernel
theorem dX7_allDown_40 : decode cX7_allDown 40 = .ok (.iload_n 1, 1) := by decide +kernel
theorem dX7_allDown_41 : decode cX7_allDown 41 = .ok (.ifCond .ne 13, 3) := by decide +kernel
theorem dX7_allDown_44 : decode cX7_allDown 44 = .ok (.aload_n 0, 1) := by decide +kernel
theorem dX7_allDown_45 : decode cX7_allDown 45 = .ok (.getfield 62, 3) := by decide +kernel
theorem dX7_allDown_48 : decode cX7_allDown 48 = .ok (.getfield 239, 3) := by decide +kernel
theorem dX7_allDown_51 : decode cX7_allDown 51 = .ok (.goto 13, 3) := by decide +kernel
theorem dX7_allDown_54 : decode cX7_allDown 54 = .ok (.aload_n 0, 1) := by decide +kernel
theorem dX7_allDown_55 : decode cX7_allDown 55 = .ok (.getfield 62, 3) := by decide +kernel
theorem dX7_allDown_58 : decode cX7_allDown 58 = .ok (.getfield 242, 3) := by decide +kernel
theorem dX7_allDown_61 : decode cX7_allDown 61 = .ok (.invokestatic 229, 3) := by decide +kernel
theorem dX7_allDown_64 : decode cX7_allDown 64 = .ok (.ireturn, 1) := by decide +kernel
theorem dX7_mend_0 : decode cX7_mend 0 = .ok (.iload_n 1, 1) := by decide +kernel
theorem dX7_mend_1 : decode cX7_mend 1 = .ok (.iload_n 2, 1) := by decide +kernel
theorem dX7_mend_2 : decode cX7_mend 2 = .ok (.iload_n 3, 1) := by decide +kernel
theorem dX7_mend_3 : decode cX7_mend 3 = .ok (.invokestatic 168, 3) := by decide +kernel
theorem dX7_mend_6 : decode cX7_mend 6 = .ok (.ifCond .eq 14, 3) := by decide +kernel
theorem dX7_mend_9 : decode cX7_mend 9 = .ok (.iload 4, 2) := by decide +kernel
theorem dX7_mend_11 : decode cX7_mend 11 = .ok (.ifCond .lt 9, 3) := by decide +kernel
theorem dX7_mend_14 : decode cX7_mend 14 = .ok (.iload 4, 2) := by decide +kernel
theorem dX7_mend_16 : decode cX7_mend 16 = .ok (.iconst 1, 1) := by decide +kernel
theorem dX7_mend_17 : decode cX7_mend 17 = .ok (.if_icmp .le 6, 3) := by decide +kernel
theorem dX7_mend_20 : decode cX7_mend 20 = .ok (.ldc 77, 2) := by decide +kernel
theorem dX7_mend_22 : decode cX7_mend 22 = .ok (.ireturn, 1) := by decide +kernel
theorem dX7_mend_23 : decode cX7_mend 23 = .ok (.aload_n 0, 1) := by decide +kernel
theorem dX7_mend_24 : decode cX7_mend 24 = .ok (.getfield 19, 3) := by decide +kernel
theorem dX7_mend_27 : decode cX7_mend 27 = .ok (.invokevirtual 172, 3) := by decide +kernel
theorem dX7_mend_30 : decode cX7_mend 30 = .ok (.ifCond .ne 6, 3) := by decide +kernel
theorem dX7_mend_33 : decode cX7_mend 33 = .ok (.ldc 176, 2) := by decide +kernel
theorem dX7_mend_35 : decode cX7_mend 35 = .ok (.ireturn, 1) := by decide +kernel
theorem dX7_mend_36 : decode cX7_mend 36 = .ok (.aload_n 0, 1) := by decide +kernel
theorem dX7_mend_37 : decode cX7_mend 37 = .ok (.getfield 23, 3) := by decide +kernel
theorem dX7_mend_40 : decode cX7_mend 40 = .ok (.aload_n 0, 1) := by decide +kernel
theorem dX7_mend_41 : decode cX7_mend 41 = .ok (.getfield 19, 3) := by decide +kernel
theorem dX7_mend_44 : decode cX7_mend 44 = .ok (.invokevirtual 245, 3) := by decide +kernel
theorem dX7_mend_47 : decode cX7_mend 47 = .ok (.iconst (-1), 1) := by decide +kernel
theorem dX7_mend_48 : decode cX7_mend 48 = .ok (.istore 5, 2) := by decide +kernel
theorem dX7_mend_50 : decode cX7_mend 50 = .ok (.bipush 10, 2) := by decide +kernel
theorem dX7_mend_52 : decode cX7_mend 52 = .ok (.istore 6, 2) := by decide +kernel
theorem dX7_mend_54 : decode cX7_mend 54 = .ok (.iconst 0, 1) := by decide +kernel
theorem dX7_mend_55 : decode cX7_mend 55 = .ok (.istore 7, 2) := by decide +kernel
theorem dX7_mend_57 : decode cX7_mend 57 = .ok (.iload 7, 2) := by decide +kernel
theorem dX7_mend_59 : decode cX7_mend 59 = .ok (.bipush 9, 2) := by decide +kernel
theorem dX7_mend_61 : decode cX7_mend 61 = .ok (.if_icmp .ge 62, 3) := by decide +kernel
theorem dX7_mend_64 : decode cX7_mend 64 = .ok (.iload 7, 2) := by decide +kernel
theorem dX7_mend_66 : decode cX7_mend 66 = .ok (.iconst 1, 1) := by decide +kernel
theorem dX7_mend_67 : decode cX7_mend 67 = .ok (.iadd, 1) := by decide +kernel
theorem dX7_mend_68 : decode cX7_mend 68 = .ok (.istore 8, 2) := by decide +kernel
theorem dX7_mend_70 : decode cX7_mend 70 = .ok (.iload 8, 2) := by decide +kernel
theorem dX7_mend_72 : decode cX7_mend 72 = .ok (.bipush 9, 2) := by decide +kernel
theorem dX7_mend_74 : decode cX7_mend 74 = .ok (.if_icmp .ge 43, 3) := by decide +kernel
theorem dX7_mend_77 : decode cX7_mend 77 = .ok (.aload_n 0, 1) := by decide +kernel
theorem dX7_mend_78 : decode cX7_mend 78 = .ok (.iload 7, 2) := by decide +kernel
theorem dX7_mend_80 : decode cX7_mend 80 = .ok (.iload 8, 2) := by decide +kernel
theorem dX7_mend_82 : decode cX7_mend 82 = .ok (.iload_n 1, 1) := by decide +kernel
theorem dX7_mend_83 : decode cX7_mend 83 = .ok (.iload_n 2, 1) := by decide +kernel
theorem dX7_mend_84 : decode cX7_mend 84 = .ok (.iload_n 3, 1) := by decide +kernel
theorem dX7_mend_85 : decode cX7_mend 85 = .ok (.invokevirtual 248, 3) := by decide +kernel
theorem dX7_mend_88 : decode cX7_mend 88 = .ok (.istore 9, 2) := by decide +kernel
theorem dX7_mend_90 : decode cX7_mend 90 = .ok (.iload 9, 2) := by decide +kernel
theorem dX7_mend_92 : decode cX7_mend 92 = .ok (.iload 6, 2) := by decide +kernel
theorem dX7_mend_94 : decode cX7_mend 94 = .ok (.if_icmp .ge 17, 3) := by decide +kernel
theorem dX7_mend_97 : decode cX7_mend 97 = .ok (.iload 9, 2) := by decide +kernel
theorem dX7_mend_99 : decode cX7_mend 99 = .ok (.istore 6, 2) := by decide +kernel
theorem dX7_mend_101 : decode cX7_mend 101 = .ok (.bipush 10, 2) := by decide +kernel
theorem dX7_mend_103 : decode cX7_mend 103 = .ok (.iload 7, 2) := by decide +kernel
theorem dX7_mend_105 : decode cX7_mend 105 = .ok (.imul, 1) := by decide +kernel
theorem dX7_mend_106 : decode cX7_mend 106 = .ok (.iload 8, 2) := by decide +kernel
theorem dX7_mend_108 : decode cX7_mend 108 = .ok (.iadd, 1) := by decide +kernel
theorem dX7_mend_109 : decode cX7_mend 109 = .ok (.istore 5, 2) := by decide +kernel
theorem dX7_mend_111 : decode cX7_mend 111 = .ok (.iinc 8 1, 3) := by decide +kernel
theorem dX7_mend_114 : decode cX7_mend 114 = .ok (.goto (-44), 3) := by decide +kernel
theorem dX7_mend_117 : decode cX7_mend 117 = .ok (.iinc 7 1, 3) := by decide +kernel
theorem dX7_mend_120 : decode cX7_mend 120 = .ok (.goto (-63), 3) := by decide +kernel
theorem dX7_mend_123 : decode cX7_mend 123 = .ok (.iload 4, 2) := by decide +kernel
theorem dX7_mend_125 : decode cX7_mend 125 = .ok (.ifCond .ne 8, 3) := by decide +kernel
theorem dX7_mend_128 : decode cX7_mend 128 = .ok (.iload 5, 2) := by decide +kernel
theorem dX7_mend_130 : decode cX7_mend 130 = .ok (.goto 5, 3) := by decide +kernel
theorem dX7_mend_133 : decode cX7_mend 133 = .ok (.iload 6, 2) := by decide +kernel
theorem dX7_mend_135 : decode cX7_mend 135 = .ok (.ireturn, 1) := by decide +kernel
theorem dX7_hand_0 : decode cX7_hand 0 = .ok (.aload_n 0, 1) := by decide +kernel
theorem dX7_hand_1 : decode cX7_hand 1 = .ok (.getfield 19, 3) := by decide +kernel
theorem dX7_hand_4 : decode cX7_hand 4 = .ok (.iload_n 1, 1) := by decide +kernel
theorem dX7_hand_5 : decode cX7_hand 5 = .ok (.invokevirtual 216, 3) := by decide +kernel
theorem dX7_hand_8 : decode cX7_hand 8 = .ok (.ifCond .ne 6, 3) := by decide +kernel
theorem dX7_hand_11 : decode cX7_hand 11 = .ok (.ldc 134, 2) := by decide +kernel
theorem dX7_hand_13 : decode cX7_hand 13 = .ok (.ireturn, 1) := by decide +kernel
theorem dX7_hand_14 : decode cX7_hand 14 = .ok (.aload_n 0, 1) := by decide +kernel
theorem dX7_hand_15 : decode cX7_hand 15 = .ok (.getfield 19, 3) := by decide +kernel
theorem dX7_hand_18 : decode cX7_hand 18 = .ok (.invokevirtual 172, 3) := by decide +kernel
theorem dX7_hand_21 : decode cX7_hand 21 = .ok (.ifCond .ne 6, 3) := by decide +kernel
theorem dX7_hand_24 : decode cX7_hand 24 = .ok (.ldc 176, 2) := by decide +kernel
theorem dX7_hand_26 : decode cX7_hand 26 = .ok (.ireturn, 1) := by decide +kernel
theorem dX7_hand_27 : decode cX7_hand 27 = .ok (.aload_n 0, 1) := by decide +kernel
theorem dX7_hand_28 : decode cX7_hand 28 = .ok (.getfield 55, 3) := by decide +kernel
theorem dX7_hand_31 : decode cX7_hand 31 = .ok (.aload_n 0, 1) := by decide +kernel
theorem dX7_hand_32 : decode cX7_hand 32 = .ok (.getfield 48, 3) := by decide +kernel
theorem dX7_hand_35 : decode cX7_hand 35 = .ok (.aload_n 0, 1) := by decide +kernel
theorem dX7_hand_36 : decode cX7_hand 36 = .ok (.getfield 19, 3) := by decide +kernel
theorem dX7_hand_39 : decode cX7_hand 39 = .ok (.invokevirtual 219, 3) := by decide +kernel
theorem dX7_hand_42 : decode cX7_hand 42 = .ok (.aload_n 0, 1) := by decide +kernel
theorem dX7_hand_43 : decode cX7_hand 43 = .ok (.getfield 55, 3) := by decide +kernel
theorem dX7_hand_46 : decode cX7_hand 46 = .ok (.iload_n 1, 1) := by decide +kernel
theorem dX7_hand_47 : decode cX7_hand 47 = .ok (.invokevirtual 252, 3) := by decide +kernel
theorem dX7_hand_50 : decode cX7_hand 50 = .ok (.ireturn, 1) := by decide +kernel
theorem dX7_ask_0 : decode cX7_ask 0 = .ok (.iload_n 1, 1) := by decide +kernel
theorem dX7_ask_1 : decode cX7_ask 1 = .ok (.ifCond .lt 8, 3) := by decide +kernel
theorem dX7_ask_4 : decode cX7_ask 4 = .ok (.iload_n 1, 1) := by decide +kernel
theorem dX7_ask_5 : decode cX7_ask 5 = .ok (.iconst 5, 1) := by decide +kernel
theorem dX7_ask_6 : decode cX7_ask 6 = .ok (.if_icmp .lt 6, 3) := by decide +kernel
theorem dX7_ask_9 : decode cX7_ask 9 = .ok (.ldc 77, 2) := by decide +kernel
theorem dX7_ask_11 : decode cX7_ask 11 = .ok (.ireturn, 1) := by decide +kernel
theorem dX7_ask_12 : decode cX7_ask 12 = .ok (.aload_n 0, 1) := by decide +kernel
theorem dX7_ask_13 : decode cX7_ask 13 = .ok (.getfield 19, 3) := by decide +kernel
theorem dX7_ask_16 : decode cX7_ask 16 = .ok (.invokevirtual 172, 3) := by decide +kernel
theorem dX7_ask_19 : decode cX7_ask 19 = .ok (.ifCond .ne 6, 3) := by decide +kernel
theorem dX7_ask_22 : decode cX7_ask 22 = .ok (.ldc 176, 2) := by decide +kernel
theorem dX7_ask_24 : decode cX7_ask 24 = .ok (.ireturn, 1) := by decide +kernel
theorem dX7_ask_25 : decode cX7_ask 25 = .ok (.aload_n 0, 1) := by decide +kernel
theorem dX7_ask_26 : decode cX7_ask 26 = .ok (.getfield 55, 3) := by decide +kernel
theorem dX7_ask_29 : decode cX7_ask 29 = .ok (.aload_n 0, 1) := by decide +kernel
theorem dX7_ask_30 : decode cX7_ask 30 = .ok (.getfield 48, 3) := by decide +kernel
theorem dX7_ask_33 : decode cX7_ask 33 = .ok (.aload_n 0, 1) := by decide +kernel
theorem dX7_ask_34 : decode cX7_ask 34 = .ok (.getfield 19, 3) := by decide +kernel
theorem dX7_ask_37 : decode cX7_ask 37 = .ok (.invokevirtual 219, 3) := by decide +kernel
theorem dX7_ask_40 : decode cX7_ask 40 = .ok (.aload_n 0, 1) := by decide +kernel
theorem dX7_ask_41 : decode cX7_ask 41 = .ok (.getfield 55, 3) := by decide +kernel
theorem dX7_ask_44 : decode cX7_ask 44 = .ok (.iload_n 1, 1) := by decide +kernel
theorem dX7_ask_45 : decode cX7_ask 45 = .ok (.aload_n 0, 1) := by decide +kernel
theorem dX7_ask_46 : decode cX7_ask 46 = .ok (.getfield 19, 3) := by decide +kernel
theorem dX7_ask_49 : decode cX7_ask 49 = .ok (.getfield 102, 3) := by decide +kernel
theorem dX7_ask_52 : decode cX7_ask 52 = .ok (.invokevirtual 255, 3) := by decide +kernel
theorem dX7_ask_55 : decode cX7_ask 55 = .ok (.ireturn, 1) := by decide +kernel
theorem dX7_calm_0 : decode cX7_calm 0 = .ok (.iload_n 1, 1) := by decide +kernel
theorem dX7_calm_1 : decode cX7_calm 1 = .ok (.ifCond .lt 19, 3) := by decide +kernel
theorem dX7_calm_4 : decode cX7_calm 4 = .ok (.iload_n 1, 1) := by decide +kernel
theorem dX7_calm_5 : decode cX7_calm 5 = .ok (.bipush 60, 2) := by decide +kernel
theorem dX7_calm_7 : decode cX7_calm 7 = .ok (.if_icmp .gt 13, 3) := by decide +kernel
theorem dX7_calm_10 : decode cX7_calm 10 = .ok (.iload_n 2, 1) := by decide +kernel
theorem dX7_calm_11 : decode cX7_calm 11 = .ok (.ifCond .lt 9, 3) := by decide +kernel
theorem dX7_calm_14 : decode cX7_calm 14 = .ok (.iload_n 2, 1) := by decide +kernel
theorem dX7_calm_15 : decode cX7_calm 15 = .ok (.bipush 100, 2) := by decide +kernel
theorem dX7_calm_17 : decode cX7_calm 17 = .ok (.if_icmp .le 6, 3) := by decide +kernel
theorem dX7_calm_20 : decode cX7_calm 20 = .ok (.ldc 77, 2) := by decide +kernel
theorem dX7_calm_22 : decode cX7_calm 22 = .ok (.ireturn, 1) := by decide +kernel
theorem dX7_calm_23 : decode cX7_calm 23 = .ok (.ldc2_w 258, 3) := by decide +kernel
theorem dX7_calm_26 : decode cX7_calm 26 = .ok (.lstore_n 3, 1) := by decide +kernel
theorem dX7_calm_27 : decode cX7_calm 27 = .ok (.iconst 0, 1) := by decide +kernel
theorem dX7_calm_28 : decode cX7_calm 28 = .ok (.istore 5, 2) := by decide +kernel
theorem dX7_calm_30 : decode cX7_calm 30 = .ok (.iload 5, 2) := by decide +kernel
theorem dX7_calm_32 : decode cX7_calm 32 = .ok (.iload_n 1, 1) := by decide +kernel
theorem dX7_calm_33 : decode cX7_calm 33 = .ok (.if_icmp .ge 18, 3) := by decide +kernel
theorem dX7_calm_36 : decode cX7_calm 36 = .ok (.lload_n 3, 1) := by decide +kernel
theorem dX7_calm_37 : decode cX7_calm 37 = .ok (.iload_n 2, 1) := by decide +kernel
theorem dX7_calm_38 : decode cX7_calm 38 = .ok (.i2l, 1) := by decide +kernel
theorem dX7_calm_39 : decode cX7_calm 39 = .ok (.lmul, 1) := by decide +kernel
theorem dX7_calm_40 : decode cX7_calm 40 = .ok (.ldc2_w 260, 3) := by decide +kernel
theorem dX7_calm_43 : decode cX7_calm 43 = .ok (.ldiv, 1) := by decide +kernel
theorem dX7_calm_44 : decode cX7_calm 44 = .ok (.lstore_n 3, 1) := by decide +kernel
theorem dX7_calm_45 : decode cX7_calm 45 = .ok (.iinc 5 1, 3) := by decide +kernel
theorem dX7_calm_48 : decode cX7_calm 48 = .ok (.goto (-18), 3) := by decide +kernel
theorem dX7_calm_51 : decode cX7_calm 51 = .ok (.lload_n 3, 1) := by decide +kernel
theorem dX7_calm_52 : decode cX7_calm 52 = .ok (.l2i, 1) := by decide +kernel
theorem dX7_calm_53 : decode cX7_calm 53 = .ok (.ireturn, 1) := by decide +kernel
theorem dX7_write_0 : decode cX7_write 0 = .ok (.aload_n 0, 1) := by decide +kernel
theorem dX7_write_1 : decode cX7_write 1 = .ok (.getfield 19, 3) := by decide +kernel
theorem dX7_write_4 : decode cX7_write 4 = .ok (.iload_n 1, 1) := by decide +kernel
theorem dX7_write_5 : decode cX7_write 5 = .ok (.invokevirtual 130, 3) := by decide +kernel
theorem dX7_write_8 : decode cX7_write 8 = .ok (.ifCond .eq 15, 3) := by decide +kernel
theorem dX7_write_11 : decode cX7_write 11 = .ok (.aload_n 0, 1) := by decide +kernel
theorem dX7_write_12 : decode cX7_write 12 = .ok (.getfield 69, 3) := by decide +kernel
theorem dX7_write_15 : decode cX7_write 15 = .ok (.iload_n 1, 1) := by decide +kernel
theorem dX7_write_16 : decode cX7_write 16 = .ok (.iload_n 2, 1) := by decide +kernel
theorem dX7_write_17 : decode cX7_write 17 = .ok (.invokevirtual 262, 3) := by decide +kernel
theorem dX7_write_20 : decode cX7_write 20 = .ok (.goto 5, 3) := by decide +kernel
theorem dX7_write_23 : decode cX7_write 23 = .ok (.ldc 134, 2) := by decide +kernel
theorem dX7_write_25 : decode cX7_write 25 = .ok (.ireturn, 1) := by decide +kernel
theorem dX7_tear_0 : decode cX7_tear 0 = .ok (.aload_n 0, 1) := by decide +kernel
theorem dX7_tear_1 : decode cX7_tear 1 = .ok (.getfield 69, 3) := by decide +kernel
theorem dX7_tear_4 : decode cX7_tear 4 = .ok (.getfield 126, 3) := by decide +kernel
theorem dX7_tear_7 : decode cX7_tear 7 = .ok (.istore_n 1, 1) := by decide +kernel
theorem dX7_tear_8 : decode cX7_tear 8 = .ok (.aload_n 0, 1) := by decide +kernel
theorem dX7_tear_9 : decode cX7_tear 9 = .ok (.getfield 69, 3) := by decide +kernel
theorem dX7_tear_12 : decode cX7_tear 12 = .ok (.invokevirtual 96, 3) := by decide +kernel
theorem dX7_tear_15 : decode cX7_tear 15 = .ok (.iload_n 1, 1) := by decide +kernel
theorem dX7_tear_16 : decode cX7_tear 16 = .ok (.ireturn, 1) := by decide +kernel
theorem dX7_judge_0 : decode cX7_judge 0 = .ok (.aload_n 0, 1) := by decide +kernel
theorem dX7_judge_1 : decode cX7_judge 1 = .ok (.getfield 69, 3) := by decide +kernel
theorem dX7_judge_4 : decode cX7_judge 4 = .ok (.aload_n 0, 1) := by decide +kernel
theorem dX7_judge_5 : decode cX7_judge 5 = .ok (.getfield 19, 3) := by decide +kernel
theorem dX7_judge_8 : decode cX7_judge 8 = .ok (.getfield 111, 3) := by decide +kernel
theorem dX7_judge_11 : decode cX7_judge 11 = .ok (.invokevirtual 265, 3) := by decide +kernel
theorem dX7_judge_14 : decode cX7_judge 14 = .ok (.ireturn, 1) := by decide +kernel
theorem dX7_seed_0 : decode cX7_seed 0 = .ok (.iload_n 1, 1) := by decide +kernel
theorem dX7_seed_1 : decode cX7_seed 1 = .ok (.ifCond .ge 6, 3) := by decide +kernel
theorem dX7_seed_4 : decode cX7_seed 4 = .ok (.ldc 77, 2) := by decide +kernel
theorem dX7_seed_6 : decode cX7_seed 6 = .ok (.ireturn, 1) := by decide +kernel
theorem dX7_seed_7 : decode cX7_seed 7 = .ok (.aload_n 0, 1) := by decide +kernel
theorem dX7_seed_8 : decode cX7_seed 8 = .ok (.getfield 268, 3) := by decide +kernel
theorem dX7_seed_11 : decode cX7_seed 11 = .ok (.istore_n 2, 1) := by decide +kernel
theorem dX7_seed_12 : decode cX7_seed 12 = .ok (.aload_n 0, 1) := by decide +kernel
theorem dX7_seed_13 : decode cX7_seed 13 = .ok (.iload_n 1, 1) := by decide +kernel
theorem dX7_seed_14 : decode cX7_seed 14 = .ok (.putfield 268, 3) := by decide +kernel
theorem dX7_seed_17 : decode cX7_seed 17 = .ok (.iload_n 2, 1) := by decide +kernel
theorem dX7_seed_18 : decode cX7_seed 18 = .ok (.ireturn, 1) := by decide +kernel
theorem dX7_keep_0 : decode cX7_keep 0 = .ok (.iload_n 1, 1) := by decide +kernel
theorem dX7_keep_1 : decode cX7_keep 1 = .ok (.ifCond .lt 8, 3) := by decide +kernel
theorem dX7_keep_4 : decode cX7_keep 4 = .ok (.iload_n 1, 1) := by decide +kernel
theorem dX7_keep_5 : decode cX7_keep 5 = .ok (.iconst 2, 1) := by decide +kernel
theorem dX7_keep_6 : decode cX7_keep 6 = .ok (.if_icmp .lt 6, 3) := by decide +kernel
theorem dX7_keep_9 : decode cX7_keep 9 = .ok (.ldc 134, 2) := by decide +kernel
theorem dX7_keep_11 : decode cX7_keep 11 = .ok (.ireturn, 1) := by decide +kernel
theorem dX7_keep_12 : decode cX7_keep 12 = .ok (.aload_n 0, 1) := by decide +kernel
theorem dX7_keep_13 : decode cX7_keep 13 = .ok (.getfield 33, 3) := by decide +kernel
theorem dX7_keep_16 : decode cX7_keep 16 = .ok (.iload_n 1, 1) := by decide +kernel
theorem dX7_keep_17 : decode cX7_keep 17 = .ok (.aaload, 1) := by decide +kernel
theorem dX7_keep_18 : decode cX7_keep 18 = .ok (.aload_n 0, 1) := by decide +kernel
theorem dX7_keep_19 : decode cX7_keep 19 = .ok (.getfield 19, 3) := by decide +kernel
theorem dX7_keep_22 : decode cX7_keep 22 = .ok (.invokevirtual 245, 3) := by decide +kernel
theorem dX7_keep_25 : decode cX7_keep 25 = .ok (.aload_n 0, 1) := by decide +kernel
theorem dX7_keep_26 : decode cX7_keep 26 = .ok (.getfield 41, 3) := by decide +kernel
theorem dX7_keep_29 : decode cX7_keep 29 = .ok (.iload_n 1, 1) := by decide +kernel
theorem dX7_keep_30 : decode cX7_keep 30 = .ok (.aload_n 0, 1) := by decide +kernel
theorem dX7_keep_31 : decode cX7_keep 31 = .ok (.getfield 268, 3) := by decide +kernel
theorem dX7_keep_34 : decode cX7_keep 34 = .ok (.iastore, 1) := by decide +kernel
theorem dX7_keep_35 : decode cX7_keep 35 = .ok (.aload_n 0, 1) := by decide +kernel
theorem dX7_keep_36 : decode cX7_keep 36 = .ok (.getfield 37, 3) := by decide +kernel
theorem dX7_keep_39 : decode cX7_keep 39 = .ok (.iload_n 1, 1) := by decide +kernel
theorem dX7_keep_40 : decode cX7_keep 40 = .ok (.iconst 1, 1) := by decide +kernel
theorem dX7_keep_41 : decode cX7_keep 41 = .ok (.bastore, 1) := by decide +kernel
theorem dX7_keep_42 : decode cX7_keep 42 = .ok (.aload_n 0, 1) := by decide +kernel
theorem dX7_keep_43 : decode cX7_keep 43 = .ok (.getfield 29, 3) := by decide +kernel
theorem dX7_keep_46 : decode cX7_keep 46 = .ok (.invokevirtual 93, 3) := by decide +kernel
theorem dX7_keep_49 : decode cX7_keep 49 = .ok (.iconst 1, 1) := by decide +kernel
theorem dX7_keep_50 : decode cX7_keep 50 = .ok (.ireturn, 1) := by decide +kernel
theorem dX7_goBack_0 : decode cX7_goBack 0 = .ok (.iload_n 1, 1) := by decide +kernel
theorem dX7_goBack_1 : decode cX7_goBack 1 = .ok (.ifCond .lt 8, 3) := by decide +kernel
theorem dX7_goBack_4 : decode cX7_goBack 4 = .ok (.iload_n 1, 1) := by decide +kernel
theorem dX7_goBack_5 : decode cX7_goBack 5 = .ok (.iconst 2, 1) := by decide +kernel
theorem dX7_goBack_6 : decode cX7_goBack 6 = .ok (.if_icmp .lt 6, 3) := by decide +kernel
theorem dX7_goBack_9 : decode cX7_goBack 9 = .ok (.ldc 134, 2) := by decide +kernel
theorem dX7_goBack_11 : decode cX7_goBack 11 = .ok (.ireturn, 1) := by decide +kernel
theorem dX7_goBack_12 : decode cX7_goBack 12 = .ok (.aload_n 0, 1) := by decide +kernel
theorem dX7_goBack_13 : decode cX7_goBack 13 = .ok (.getfield 37, 3) := by decide +kernel
theorem dX7_goBack_16 : decode cX7_goBack 16 = .ok (.iload_n 1, 1) := by decide +kernel
theorem dX7_goBack_17 : decode cX7_goBack 17 = .ok (.baload, 1) := by decide +kernel
theorem dX7_goBack_18 : decode cX7_goBack 18 = .ok (.ifCond .ne 6, 3) := by decide +kernel
theorem dX7_goBack_21 : decode cX7_goBack 21 = .ok (.ldc 176, 2) := by decide +kernel
theorem dX7_goBack_23 : decode cX7_goBack 23 = .ok (.ireturn, 1) := by decide +kernel
theorem dX7_goBack_24 : decode cX7_goBack 24 = .ok (.aload_n 0, 1) := by decide +kernel
theorem dX7_goBack_25 : decode cX7_goBack 25 = .ok (.getfield 19, 3) := by decide +kernel
theorem dX7_goBack_28 : decode cX7_goBack 28 = .ok (.aload_n 0, 1) := by decide +kernel
theorem dX7_goBack_29 : decode cX7_goBack 29 = .ok (.getfield 33, 3) := by decide +kernel
theorem dX7_goBack_32 : decode cX7_goBack 32 = .ok (.iload_n 1, 1) := by decide +kernel
theorem dX7_goBack_33 : decode cX7_goBack 33 = .ok (.aaload, 1) := by decide +kernel
theorem dX7_goBack_34 : decode cX7_goBack 34 = .ok (.invokevirtual 245, 3) := by decide +kernel
theorem dX7_goBack_37 : decode cX7_goBack 37 = .ok (.aload_n 0, 1) := by decide +kernel
theorem dX7_goBack_38 : decode cX7_goBack 38 = .ok (.aload_n 0, 1) := by decide +kernel
theorem dX7_goBack_39 : decode cX7_goBack 39 = .ok (.getfield 41, 3) := by decide +kernel
theorem dX7_goBack_42 : decode cX7_goBack 42 = .ok (.iload_n 1, 1) := by decide +kernel
theorem dX7_goBack_43 : decode cX7_goBack 43 = .ok (.iaload, 1) := by decide +kernel
theorem dX7_goBack_44 : decode cX7_goBack 44 = .ok (.putfield 268, 3) := by decide +kernel
theorem dX7_goBack_47 : decode cX7_goBack 47 = .ok (.aload_n 0, 1) := by decide +kernel
theorem dX7_goBack_48 : decode cX7_goBack 48 = .ok (.getfield 29, 3) := by decide +kernel
theorem dX7_goBack_51 : decode cX7_goBack 51 = .ok (.invokevirtual 93, 3) := by decide +kernel
theorem dX7_goBack_54 : decode cX7_goBack 54 = .ok (.aload_n 0, 1) := by decide +kernel
theorem dX7_goBack_55 : decode cX7_goBack 55 = .ok (.invokevirtual 99, 3) := by decide +kernel
theorem dX7_goBack_58 : decode cX7_goBack 58 = .ok (.iconst 1, 1) := by decide +kernel
theorem dX7_goBack_59 : decode cX7_goBack 59 = .ok (.ireturn, 1) := by decide +kernel
theorem dX7_isPlate_0 : decode cX7_isPlate 0 = .ok (.iload_n 0, 1) := by decide +kernel
theorem dX7_isPlate_1 : decode cX7_isPlate 1 = .ok (.ifCond .lt 13, 3) := by decide +kernel
theorem dX7_isPlate_4 : decode cX7_isPlate 4 = .ok (.iload_n 0, 1) := by decide +kernel
theorem dX7_isPlate_5 : decode cX7_isPlate 5 = .ok (.bipush 9, 2) := by decide +kernel
theorem dX7_isPlate_7 : decode cX7_isPlate 7 = .ok (.if_icmp .ge 7, 3) := by decide +kernel
theorem dX7_isPlate_10 : decode cX7_isPlate 10 = .ok (.iconst 1, 1) := by decide +kernel
theorem dX7_isPlate_11 : decode cX7_isPlate 11 = .ok (.goto 4, 3) := by decide +kernel
theorem dX7_isPlate_14 : decode cX7_isPlate 14 = .ok (.iconst 0, 1) := by decide +kernel
theorem dX7_isPlate_15 : decode cX7_isPlate 15 = .ok (.ireturn, 1) := by decide +kernel
theorem dX7_isBall_0 : decode cX7_isBall 0 = .ok (.iload_n 0, 1) := by decide +kernel
theorem dX7_isBall_1 : decode cX7_isBall 1 = .ok (.ifCond .lt 32, 3) := by decide +kernel
theorem dX7_isBall_4 : decode cX7_isBall 4 = .ok (.iload_n 0, 1) := by decide +kernel
theorem dX7_isBall_5 : decode cX7_isBall 5 = .ok (.iconst 5, 1) := by decide +kernel
theorem dX7_isBall_6 : decode cX7_isBall 6 = .ok (.if_icmp .ge 27, 3) := by decide +kernel
theorem dX7_isBall_9 : decode cX7_isBall 9 = .ok (.iload_n 1, 1) := by decide +kernel
theorem dX7_isBall_10 : decode cX7_isBall 10 = .ok (.ifCond .lt 23, 3) := by decide +kernel
theorem dX7_isBall_13 : decode cX7_isBall 13 = .ok (.iload_n 1, 1) := by decide +kernel
theorem dX7_isBall_14 : decode cX7_isBall 14 = .ok (.iconst 3, 1) := by decide +kernel
theorem dX7_isBall_15 : decode cX7_isBall 15 = .ok (.if_icmp .ge 18, 3) := by decide +kernel
theorem dX7_isBall_18 : decode cX7_isBall 18 = .ok (.iload_n 2, 1) := by decide +kernel
theorem dX7_isBall_19 : decode cX7_isBall 19 = .ok (.iconst 1, 1) := by decide +kernel
theorem dX7_isBall_20 : decode cX7_isBall 20 = .ok (.if_icmp .lt 13, 3) := by decide +kernel
theorem dX7_isBall_23 : decode cX7_isBall 23 = .ok (.iload_n 2, 1) := by decide +kernel
theorem dX7_isBall_24 : decode cX7_isBall 24 = .ok (.bipush 40, 2) := by decide +kernel
theorem dX7_isBall_26 : decode cX7_isBall 26 = .ok (.if_icmp .gt 7, 3) := by decide +kernel
theorem dX7_isBall_29 : decode cX7_isBall 29 = .ok (.iconst 1, 1) := by decide +kernel
theorem dX7_isBall_30 : decode cX7_isBall 30 = .ok (.goto 4, 3) := by decide +kernel
theorem dX7_isBall_33 : decode cX7_isBall 33 = .ok (.iconst 0, 1) := by decide +kernel
theorem dX7_isBall_34 : decode cX7_isBall 34 = .ok (.ireturn, 1) := by decide +kernel
theorem dX7_numberOf_0 : decode cX7_numberOf 0 = .ok (.iload_n 0, 1) := by decide +kernel
theorem dX7_numberOf_1 : decode cX7_numberOf 1 = .ok (.ifCond .ge 5, 3) := by decide +kernel
theorem dX7_numberOf_4 : decode cX7_numberOf 4 = .ok (.iconst (-1), 1) := by decide +kernel
theorem dX7_numberOf_5 : decode cX7_numberOf 5 = .ok (.ireturn, 1) := by decide +kernel
theorem dX7_numberOf_6 : decode cX7_numberOf 6 = .ok (.iload_n 0, 1) := by decide +kernel
theorem dX7_numberOf_7 : decode cX7_numberOf 7 = .ok (.bipush 40, 2) := by decide +kernel
theorem dX7_numberOf_9 : decode cX7_numberOf 9 = .ok (.idiv, 1) := by decide +kernel
theorem dX7_numberOf_10 : decode cX7_numberOf 10 = .ok (.istore_n 1, 1) := by decide +kernel
theorem dX7_numberOf_11 : decode cX7_numberOf 11 = .ok (.sipush 1000, 3) := by decide +kernel
theorem dX7_numberOf_14 : decode cX7_numberOf 14 = .ok (.iload_n 1, 1) := by decide +kernel
theorem dX7_numberOf_15 : decode cX7_numberOf 15 = .ok (.iconst 3, 1) := by decide +kernel
theorem dX7_numberOf_16 : decode cX7_numberOf 16 = .ok (.idiv, 1) := by decide +kernel
theorem dX7_numberOf_17 : decode cX7_numberOf 17 = .ok (.imul, 1) := by decide +kernel
theorem dX7_numberOf_18 : decode cX7_numberOf 18 = .ok (.bipush 100, 2) := by decide +kernel
theorem dX7_numberOf_20 : decode cX7_numberOf 20 = .ok (.iload_n 1, 1) := by decide +kernel
theorem dX7_numberOf_21 : decode cX7_numberOf 21 = .ok (.iconst 3, 1) := by decide +kernel
theorem dX7_numberOf_22 : decode cX7_numberOf 22 = .ok (.irem, 1) := by decide +kernel
theorem dX7_numberOf_23 : decode cX7_numberOf 23 = .ok (.imul, 1) := by decide +kernel
theorem dX7_numberOf_24 : decode cX7_numberOf 24 = .ok (.iadd, 1) := by decide +kernel
theorem dX7_numberOf_25 : decode cX7_numberOf 25 = .ok (.iload_n 0, 1) := by decide +kernel
theorem dX7_numberOf_26 : decode cX7_numberOf 26 = .ok (.bipush 40, 2) := by decide +kernel
theorem dX7_numberOf_28 : decode cX7_numberOf 28 = .ok (.irem, 1) := by decide +kernel
theorem dX7_numberOf_29 : decode cX7_numberOf 29 = .ok (.iadd, 1) := by decide +kernel
theorem dX7_numberOf_30 : decode cX7_numberOf 30 = .ok (.iconst 1, 1) := by decide +kernel
theorem dX7_numberOf_31 : decode cX7_numberOf 31 = .ok (.iadd, 1) := by decide +kernel
theorem dX7_numberOf_32 : decode cX7_numberOf 32 = .ok (.ireturn, 1) := by decide +kernel
theorem dX7_remember_0 : decode cX7_remember 0 = .ok (.aload_n 0, 1) := by decide +kernel
theorem dX7_remember_1 : decode cX7_remember 1 = .ok (.getfield 29, 3) := by decide +kernel
theorem dX7_remember_4 : decode cX7_remember 4 = .ok (.aload_n 0, 1) := by decide +kernel
theorem dX7_remember_5 : decode cX7_remember 5 = .ok (.getfield 19, 3) := by decide +kernel
theorem dX7_remember_8 : decode cX7_remember 8 = .ok (.invokevirtual 271, 3) := by decide +kernel
theorem dX7_remember_11 : decode cX7_remember 11 = .ok (.aload_n 0, 1) := by decide +kernel
theorem dX7_remember_12 : decode cX7_remember 12 = .ok (.invokevirtual 99, 3) := by decide +kernel
theorem dX7_remember_15 : decode cX7_remember 15 = .ok (.return_, 1) := by decide +kernel
theorem dX7_stirred_0 : decode cX7_stirred 0 = .ok (.aload_n 0, 1) := by decide +kernel
theorem dX7_stirred_1 : decode cX7_stirred 1 = .ok (.getfield 55, 3) := by decide +kernel
theorem dX7_stirred_4 : decode cX7_stirred 4 = .ok (.iconst 0, 1) := by decide +kernel
theorem dX7_stirred_5 : decode cX7_stirred 5 = .ok (.putfield 274, 3) := by decide +kernel
theorem dX7_stirred_8 : decode cX7_stirred 8 = .ok (.aload_n 0, 1) := by decide +kernel
theorem dX7_stirred_9 : decode cX7_stirred 9 = .ok (.getfield 62, 3) := by decide +kernel
theorem dX7_stirred_12 : decode cX7_stirred 12 = .ok (.iconst 0, 1) := by decide +kernel
theorem dX7_stirred_13 : decode cX7_stirred 13 = .ok (.putfield 278, 3) := by decide +kernel
theorem dX7_stirred_16 : decode cX7_stirred 16 = .ok (.return_, 1) := by decide +kernel
theorem dX7_throwOne_0 : decode cX7_throwOne 0 = .ok (.aload_n 0, 1) := by decide +kernel
theorem dX7_throwOne_1 : decode cX7_throwOne 1 = .ok (.getfield 48, 3) := by decide +kernel
theorem dX7_throwOne_4 : decode cX7_throwOne 4 = .ok (.aload_n 0, 1) := by decide +kernel
theorem dX7_throwOne_5 : decode cX7_throwOne 5 = .ok (.getfield 19, 3) := by decide +kernel
theorem dX7_throwOne_8 : decode cX7_throwOne 8 = .ok (.invokevirtual 203, 3) := by decide +kernel
theorem dX7_throwOne_11 : decode cX7_throwOne 11 = .ok (.aload_n 0, 1) := by decide +kernel
theorem dX7_throwOne_12 : decode cX7_throwOne 12 = .ok (.getfield 48, 3) := by decide +kernel
theorem dX7_throwOne_15 : decode cX7_throwOne 15 = .ok (.invokevirtual 281, 3) := by decide +kernel
theorem dX7_throwOne_18 : decode cX7_throwOne 18 = .ok (.aload_n 0, 1) := by decide +kernel
theorem dX7_throwOne_19 : decode cX7_throwOne 19 = .ok (.getfield 48, 3) := by decide +kernel
theorem dX7_throwOne_22 : decode cX7_throwOne 22 = .ok (.iload_n 1, 1) := by decide +kernel
theorem dX7_throwOne_23 : decode cX7_throwOne 23 = .ok (.iload_n 2, 1) := by decide +kernel
theorem dX7_throwOne_24 : decode cX7_throwOne 24 = .ok (.iload_n 3, 1) := by decide +kernel
theorem dX7_throwOne_25 : decode cX7_throwOne 25 = .ok (.aload_n 0, 1) := by decide +kernel
theorem dX7_throwOne_26 : decode cX7_throwOne 26 = .ok (.getfield 19, 3) := by decide +kernel
theorem dX7_throwOne_29 : decode cX7_throwOne 29 = .ok (.getfield 111, 3) := by decide +kernel
theorem dX7_throwOne_32 : decode cX7_throwOne 32 = .ok (.invokevirtual 206, 3) := by decide +kernel
theorem dX7_throwOne_35 : decode cX7_throwOne 35 = .ok (.istore 4, 2) := by decide +kernel
theorem dX7_throwOne_37 : decode cX7_throwOne 37 = .ok (.aload_n 0, 1) := by decide +kernel
theorem dX7_throwOne_38 : decode cX7_throwOne 38 = .ok (.getfield 19, 3) := by decide +kernel
theorem dX7_throwOne_41 : decode cX7_throwOne 41 = .ok (.aload_n 0, 1) := by decide +kernel
theorem dX7_throwOne_42 : decode cX7_throwOne 42 = .ok (.getfield 48, 3) := by decide +kernel
theorem dX7_throwOne_45 : decode cX7_throwOne 45 = .ok (.iload 4, 2) := by decide +kernel
theorem dX7_throwOne_47 : decode cX7_throwOne 47 = .ok (.invokevirtual 284, 3) := by decide +kernel
theorem dX7_throwOne_50 : decode cX7_throwOne 50 = .ok (.iload 4, 2) := by decide +kernel
theorem dX7_throwOne_52 : decode cX7_throwOne 52 = .ok (.ireturn, 1) := by decide +kernel
theorem dX7_driftOnce_0 : decode cX7_driftOnce 0 = .ok (.aload_n 0, 1) := by decide +kernel
theorem dX7_driftOnce_1 : decode cX7_driftOnce 1 = .ok (.iconst 4, 1) := by decide +kernel
theorem dX7_driftOnce_2 : decode cX7_driftOnce 2 = .ok (.invokevirtual 288, 3) := by decide +kernel
theorem dX7_driftOnce_5 : decode cX7_driftOnce 5 = .ok (.istore_n 1, 1) := by decide +kernel
theorem dX7_driftOnce_6 : decode cX7_driftOnce 6 = .ok (.iload_n 1, 1) := by decide +kernel
theorem dX7_driftOnce_7 : decode cX7_driftOnce 7 = .ok (.iconst 1, 1) := by decide +kernel
theorem dX7_driftOnce_8 : decode cX7_driftOnce 8 = .ok (.if_icmp .gt 37, 3) := by decide +kernel
theorem dX7_driftOnce_11 : decode cX7_driftOnce 11 = .ok (.aload_n 0, 1) := by decide +kernel
theorem dX7_driftOnce_12 : decode cX7_driftOnce 12 = .ok (.iconst 5, 1) := by decide +kernel
theorem dX7_driftOnce_13 : decode cX7_driftOnce 13 = .ok (.invokevirtual 288, 3) := by decide +kernel
theorem dX7_driftOnce_16 : decode cX7_driftOnce 16 = .ok (.istore_n 2, 1) := by decide +kernel
theorem dX7_driftOnce_17 : decode cX7_driftOnce 17 = .ok (.aload_n 0, 1) := by decide +kernel
theorem dX7_driftOnce_18 : decode cX7_driftOnce 18 = .ok (.iconst 3, 1) := by decide +kernel
theorem dX7_driftOnce_19 : decode cX7_driftOnce 19 = .ok (.invokevirtual 288, 3) := by decide +kernel
theorem dX7_driftOnce_22 : decode cX7_driftOnce 22 = .ok (.istore_n 3, 1) := by decide +kernel
theorem dX7_driftOnce_23 : decode cX7_driftOnce 23 = .ok (.aload_n 0, 1) := by decide +kernel
theorem dX7_driftOnce_24 : decode cX7_driftOnce 24 = .ok (.bipush 40, 2) := by decide +kernel
theorem dX7_driftOnce_26 : decode cX7_driftOnce 26 = .ok (.invokevirtual 288, 3) := by decide +kernel
theorem dX7_driftOnce_29 : decode cX7_driftOnce 29 = .ok (.iconst 1, 1) := by decide +kernel
theorem dX7_driftOnce_30 : decode cX7_driftOnce 30 = .ok (.iadd, 1) := by decide +kernel
theorem dX7_driftOnce_31 : decode cX7_driftOnce 31 = .ok (.istore 4, 2) := by decide +kernel
theorem dX7_driftOnce_33 : decode cX7_driftOnce 33 = .ok (.aload_n 0, 1) := by decide +kernel
theorem dX7_driftOnce_34 : decode cX7_driftOnce 34 = .ok (.iload_n 2, 1) := by decide +kernel
theorem dX7_driftOnce_35 : decode cX7_driftOnce 35 = .ok (.iload_n 3, 1) := by decide +kernel
theorem dX7_driftOnce_36 : decode cX7_driftOnce 36 = .ok (.iload 4, 2) := by decide +kernel
theorem dX7_driftOnce_38 : decode cX7_driftOnce 38 = .ok (.invokevirtual 180, 3) := by decide +kernel
theorem dX7_driftOnce_41 : decode cX7_driftOnce 41 = .ok (.pop, 1) := by decide +kernel
theorem dX7_driftOnce_42 : decode cX7_driftOnce 42 = .ok (.goto 41, 3) := by decide +kernel
theorem dX7_driftOnce_45 : decode cX7_driftOnce 45 = .ok (.iload_n 1, 1) := by decide +kernel
theorem dX7_driftOnce_46 : decode cX7_driftOnce 46 = .ok (.iconst 2, 1) := by decide +kernel
theorem dX7_driftOnce_47 : decode cX7_driftOnce 47 = .ok (.if_icmp .ne 13, 3) := by decide +kernel
theorem dX7_driftOnce_50 : decode cX7_driftOnce 50 = .ok (.aload_n 0, 1) := by decide +kernel
theorem dX7_driftOnce_51 : decode cX7_driftOnce 51 = .ok (.getfield 19, 3) := by decide +kernel
theorem dX7_driftOnce_54 : decode cX7_driftOnce 54 = .ok (.invokevirtual 189, 3) := by decide +kernel
theorem dX7_driftOnce_57 : decode cX7_driftOnce 57 = .ok (.goto 26, 3) := by decide +kernel
theorem dX7_driftOnce_60 : decode cX7_driftOnce 60 = .ok (.aload_n 0, 1) := by decide +kernel
theorem dX7_driftOnce_61 : decode cX7_driftOnce 61 = .ok (.bipush 9, 2) := by decide +kernel
theorem dX7_driftOnce_63 : decode cX7_driftOnce 63 = .ok (.invokevirtual 288, 3) := by decide +kernel
theorem dX7_driftOnce_66 : decode cX7_driftOnce 66 = .ok (.istore_n 2, 1) := by decide +kernel
theorem dX7_driftOnce_67 : decode cX7_driftOnce 67 = .ok (.aload_n 0, 1) := by decide +kernel
theorem dX7_driftOnce_68 : decode cX7_driftOnce 68 = .ok (.bipush 9, 2) := by decide +kernel
theorem dX7_driftOnce_70 : decode cX7_driftOnce 70 = .ok (.invokevirtual 288, 3) := by decide +kernel
theorem dX7_driftOnce_73 : decode cX7_driftOnce 73 = .ok (.istore_n 3, 1) := by decide +kernel
theorem dX7_driftOnce_74 : decode cX7_driftOnce 74 = .ok (.aload_n 0, 1) := by decide +kernel
theorem dX7_driftOnce_75 : decode cX7_driftOnce 75 = .ok (.getfield 19, 3) := by decide +kernel
theorem dX7_driftOnce_78 : decode cX7_driftOnce 78 = .ok (.iload_n 2, 1) := by decide +kernel
theorem dX7_driftOnce_79 : decode cX7_driftOnce 79 = .ok (.iload_n 3, 1) := by decide +kernel
theorem dX7_driftOnce_80 : decode cX7_driftOnce 80 = .ok (.invokevirtual 192, 3) := by decide +kernel
theorem dX7_driftOnce_83 : decode cX7_driftOnce 83 = .ok (.return_, 1) := by decide +kernel
theorem dX7_draw_0 : decode cX7_draw 0 = .ok (.aload_n 0, 1) := by decide +kernel
theorem dX7_draw_1 : decode cX7_draw 1 = .ok (.aload_n 0, 1) := by decide +kernel
theorem dX7_draw_2 : decode cX7_draw 2 = .ok (.getfield 268, 3) := by decide +kernel
theorem dX7_draw_5 : decode cX7_draw 5 = .ok (.i2l, 1) := by decide +kernel
theorem dX7_draw_6 : decode cX7_draw 6 = .ok (.ldc2_w 291, 3) := by decide +kernel
theorem dX7_draw_9 : decode cX7_draw 9 = .ok (.lmul, 1) := by decide +kernel
theorem dX7_draw_10 : decode cX7_draw 10 = .ok (.ldc2_w 293, 3) := by decide +kernel
theorem dX7_draw_13 : decode cX7_draw 13 = .ok (.ladd, 1) := by decide +kernel
theorem dX7_draw_14 : decode cX7_draw 14 = .ok (.ldc2_w 295, 3) := by decide +kernel
theorem dX7_draw_17 : decode cX7_draw 17 = .ok (.land, 1) := by decide +kernel
theorem dX7_draw_18 : decode cX7_draw 18 = .ok (.l2i, 1) := by decide +kernel
theorem dX7_draw_19 : decode cX7_draw 19 = .ok (.putfield 268, 3) := by decide +kernel
theorem dX7_draw_22 : decode cX7_draw 22 = .ok (.iload_n 1, 1) := by decide +kernel
theorem dX7_draw_23 : decode cX7_draw 23 = .ok (.iconst 1, 1) := by decide +kernel
theorem dX7_draw_24 : decode cX7_draw 24 = .ok (.if_icmp .ge 7, 3) := by decide +kernel
theorem dX7_draw_27 : decode cX7_draw 27 = .ok (.iconst 0, 1) := by decide +kernel
theorem dX7_draw_28 : decode cX7_draw 28 = .ok (.goto 13, 3) := by decide +kernel
theorem dX7_draw_31 : decode cX7_draw 31 = .ok (.aload_n 0, 1) := by decide +kernel
theorem dX7_draw_32 : decode cX7_draw 32 = .ok (.getfield 268, 3) := by decide +kernel
theorem dX7_draw_35 : decode cX7_draw 35 = .ok (.ldc_w 297, 3) := by decide +kernel
theorem dX7_draw_38 : decode cX7_draw 38 = .ok (.idiv, 1) := by decide +kernel
theorem dX7_draw_39 : decode cX7_draw 39 = .ok (.iload_n 1, 1) := by decide +kernel
theorem dX7_draw_40 : decode cX7_draw 40 = .ok (.irem, 1) := by decide +kernel
theorem dX7_draw_41 : decode cX7_draw 41 = .ok (.ireturn, 1) := by decide +kernel
theorem dX7_fallsIfSwapped_0 : decode cX7_fallsIfSwapped 0 = .ok (.aload_n 0, 1) := by decide +kernel
theorem dX7_fallsIfSwapped_1 : decode cX7_fallsIfSwapped 1 = .ok (.getfield 23, 3) := by decide +kernel
theorem dX7_fallsIfSwapped_4 : decode cX7_fallsIfSwapped 4 = .ok (.iload_n 1, 1) := by decide +kernel
theorem dX7_fallsIfSwapped_5 : decode cX7_fallsIfSwapped 5 = .ok (.iload_n 2, 1) := by decide +kernel
theorem dX7_fallsIfSwapped_6 : decode cX7_fallsIfSwapped 6 = .ok (.invokevirtual 192, 3) := by decide +kernel
theorem dX7_fallsIfSwapped_9 : decode cX7_fallsIfSwapped 9 = .ok (.aload_n 0, 1) := by decide +kernel
theorem dX7_fallsIfSwapped_10 : decode cX7_fallsIfSwapped 10 = .ok (.getfield 48, 3) := by decide +kernel
theorem dX7_fallsIfSwapped_13 : decode cX7_fallsIfSwapped 13 = .ok (.aload_n 0, 1) := by decide +kernel
theorem dX7_fallsIfSwapped_14 : decode cX7_fallsIfSwapped 14 = .ok (.getfield 23, 3) := by decide +kernel
theorem dX7_fallsIfSwapped_17 : decode cX7_fallsIfSwapped 17 = .ok (.invokevirtual 203, 3) := by decide +kernel
theorem dX7_fallsIfSwapped_20 : decode cX7_fallsIfSwapped 20 = .ok (.aload_n 0, 1) := by decide +kernel
theorem dX7_fallsIfSwapped_21 : decode cX7_fallsIfSwapped 21 = .ok (.getfield 48, 3) := by decide +kernel
theorem dX7_fallsIfSwapped_24 : decode cX7_fallsIfSwapped 24 = .ok (.iload_n 3, 1) := by decide +kernel
theorem dX7_fallsIfSwapped_25 : decode cX7_fallsIfSwapped 25 = .ok (.iload 4, 2) := by decide +kernel
theorem dX7_fallsIfSwapped_27 : decode cX7_fallsIfSwapped 27 = .ok (.iload 5, 2) := by decide +kernel
theorem dX7_fallsIfSwapped_29 : decode cX7_fallsIfSwapped 29 = .ok (.aload_n 0, 1) := by decide +kernel
theorem dX7_fallsIfSwapped_30 : decode cX7_fallsIfSwapped 30 = .ok (.getfield 23, 3) := by decide +kernel
theorem dX7_fallsIfSwapped_33 : decode cX7_fallsIfSwapped 33 = .ok (.getfield 111, 3) := by decide +kernel
theorem dX7_fallsIfSwapped_36 : decode cX7_fallsIfSwapped 36 = .ok (.invokevirtual 206, 3) := by decide +kernel
theorem dX7_fallsIfSwapped_39 : decode cX7_fallsIfSwapped 39 = .ok (.istore 6, 2) := by decide +kernel
theorem dX7_fallsIfSwapped_41 : decode cX7_fallsIfSwapped 41 = .ok (.aload_n 0, 1) := by decide +kernel
theorem dX7_fallsIfSwapped_42 : decode cX7_fallsIfSwapped 42 = .ok (.getfield 23, 3) := by decide +kernel
theorem dX7_fallsIfSwapped_45 : decode cX7_fallsIfSwapped 45 = .ok (.iload_n 1, 1) := by decide +kernel
theorem dX7_fallsIfSwapped_46 : decode cX7_fallsIfSwapped 46 = .ok (.iload_n 2, 1) := by decide +kernel
theorem dX7_fallsIfSwapped_47 : decode cX7_fallsIfSwapped 47 = .ok (.invokevirtual 192, 3) := by decide +kernel
theorem dX7_fallsIfSwapped_50 : decode cX7_fallsIfSwapped 50 = .ok (.iload 6, 2) := by decide +kernel
theorem dX7_fallsIfSwapped_52 : decode cX7_fallsIfSwapped 52 = .ok (.invokestatic 184, 3) := by decide +kernel
theorem dX7_fallsIfSwapped_55 : decode cX7_fallsIfSwapped 55 = .ok (.ireturn, 1) := by decide +kernel
theorem dX7_toldOfAllBalls_0 : decode cX7_toldOfAllBalls 0 = .ok (.aload_n 0, 1) := by decide +kernel
theorem dX7_toldOfAllBalls_1 : decode cX7_toldOfAllBalls 1 = .ok (.getfield 19, 3) := by decide +kernel
theorem dX7_toldOfAllBalls_4 : decode cX7_toldOfAllBalls 4 = .ok (.invokevirtual 172, 3) := by decide +kernel
theorem dX7_toldOfAllBalls_7 : decode cX7_toldOfAllBalls 7 = .ok (.ifCond .ne 5, 3) := by decide +kernel
theorem dX7_toldOfAllBalls_10 : decode cX7_toldOfAllBalls 10 = .ok (.iconst (-1), 1) := by decide +kernel
theorem dX7_toldOfAllBalls_11 : decode cX7_toldOfAllBalls 11 = .ok (.ireturn, 1) := by decide +kernel
theorem dX7_toldOfAllBalls_12 : decode cX7_toldOfAllBalls 12 = .ok (.aload_n 0, 1) := by decide +kernel
theorem dX7_toldOfAllBalls_13 : decode cX7_toldOfAllBalls 13 = .ok (.getfield 55, 3) := by decide +kernel
theorem dX7_toldOfAllBalls_16 : decode cX7_toldOfAllBalls 16 = .ok (.aload_n 0, 1) := by decide +kernel
theorem dX7_toldOfAllBalls_17 : decode cX7_toldOfAllBalls 17 = .ok (.getfield 48, 3) := by decide +kernel
theorem dX7_toldOfAllBalls_20 : decode cX7_toldOfAllBalls 20 = .ok (.aload_n 0, 1) := by decide +kernel
theorem dX7_toldOfAllBalls_21 : decode cX7_toldOfAllBalls 21 = .ok (.getfield 19, 3) := by decide +kernel
theorem dX7_toldOfAllBalls_24 : decode cX7_toldOfAllBalls 24 = .ok (.invokevirtual 219, 3) := by decide +kernel
theorem dX7_toldOfAllBalls_27 : decode cX7_toldOfAllBalls 27 = .ok (.iload_n 1, 1) := by decide +kernel
theorem dX7_toldOfAllBalls_28 : decode cX7_toldOfAllBalls 28 = .ok (.tableswitch 89 6 9 #[32, 43, 58, 70], 32) := by decide +kernel
theorem dX7_toldOfAllBalls_60 : decode cX7_toldOfAllBalls 60 = .ok (.aload_n 0, 1) := by decide +kernel
theorem dX7_toldOfAllBalls_61 : decode cX7_toldOfAllBalls 61 = .ok (.getfield 55, 3) := by decide +kernel
theorem dX7_toldOfAllBalls_64 : decode cX7_toldOfAllBalls 64 = .ok (.invokevirtual 298, 3) := by decide +kernel
theorem dX7_toldOfAllBalls_67 : decode cX7_toldOfAllBalls 67 = .ok (.invokestatic 229, 3) := by decide +kernel
theorem dX7_toldOfAllBalls_70 : decode cX7_toldOfAllBalls 70 = .ok (.ireturn, 1) := by decide +kernel
theorem dX7_toldOfAllBalls_71 : decode cX7_toldOfAllBalls 71 = .ok (.aload_n 0, 1) := by decide +kernel
theorem dX7_toldOfAllBalls_72 : decode cX7_toldOfAllBalls 72 = .ok (.getfield 55, 3) := by decide +kernel
theorem dX7_toldOfAllBalls_75 : decode cX7_toldOfAllBalls 75 = .ok (.aload_n 0, 1) := by decide +kernel
theorem dX7_toldOfAllBalls_76 : decode cX7_toldOfAllBalls 76 = .ok (.getfield 55, 3) := by decide +kernel
theorem dX7_toldOfAllBalls_79 : decode cX7_toldOfAllBalls 79 = .ok (.invokevirtual 298, 3) := by decide +kernel
theorem dX7_toldOfAllBalls_82 : decode cX7_toldOfAllBalls 82 = .ok (.invokevirtual 301, 3) := by decide +kernel
theorem dX7_toldOfAllBalls_85 : decode cX7_toldOfAllBalls 85 = .ok (.ireturn, 1) := by decide +kernel
theorem dX7_toldOfAllBalls_86 : decode cX7_toldOfAllBalls 86 = .ok (.aload_n 0, 1) := by decide +kernel
theorem dX7_toldOfAllBalls_87 : decode cX7_toldOfAllBalls 87 = .ok (.getfield 55, 3) := by decide +kernel
theorem dX7_toldOfAllBalls_90 : decode cX7_toldOfAllBalls 90 = .ok (.aload_n 0, 1) := by decide +kernel
theorem dX7_toldOfAllBalls_91 : decode cX7_toldOfAllBalls 91 = .ok (.getfield 19, 3) := by decide +kernel
theorem dX7_toldOfAllBalls_94 : decode cX7_toldOfAllBalls 94 = .ok (.invokevirtual 304, 3) := by decide +kernel
theorem dX7_toldOfAllBalls_97 : decode cX7_toldOfAllBalls 97 = .ok (.ireturn, 1) := by decide +kernel
theorem dX7_toldOfAllBalls_98 : decode cX7_toldOfAllBalls 98 = .ok (.aload_n 0, 1) := by decide +kernel
theorem dX7_toldOfAllBalls_99 : decode cX7_toldOfAllBalls 99 = .ok (.getfield 55, 3) := by decide +kernel
theorem dX7_toldOfAllBalls_102 : decode cX7_toldOfAllBalls 102 = .ok (.aload_n 0, 1) := by decide +kernel
theorem dX7_toldOfAllBalls_103 : decode cX7_toldOfAllBalls 103 = .ok (.getfield 55, 3) := by decide +kernel
theorem dX7_toldOfAllBalls_106 : decode cX7_toldOfAllBalls 106 = .ok (.aload_n 0, 1) := by decide +kernel
theorem dX7_toldOfAllBalls_107 : decode cX7_toldOfAllBalls 107 = .ok (.getfield 19, 3) := by decide +kernel
theorem dX7_toldOfAllBalls_110 : decode cX7_toldOfAllBalls 110 = .ok (.invokevirtual 304, 3) := by decide +kernel
theorem dX7_toldOfAllBalls_113 : decode cX7_toldOfAllBalls 113 = .ok (.invokevirtual 308, 3) := by decide +kernel
theorem dX7_toldOfAllBalls_116 : decode cX7_toldOfAllBalls 116 = .ok (.ireturn, 1) := by decide +kernel
theorem dX7_toldOfAllBalls_117 : decode cX7_toldOfAllBalls 117 = .ok (.aload_n 0, 1) := by decide +kernel
theorem dX7_toldOfAllBalls_118 : decode cX7_toldOfAllBalls 118 = .ok (.getfield 55, 3) := by decide +kernel
theorem dX7_toldOfAllBalls_121 : decode cX7_toldOfAllBalls 121 = .ok (.iconst 0, 1) := by decide +kernel
theorem dX7_toldOfAllBalls_122 : decode cX7_toldOfAllBalls 122 = .ok (.invokevirtual 223, 3) := by decide +kernel
theorem dX7_toldOfAllBalls_125 : decode cX7_toldOfAllBalls 125 = .ok (.ireturn, 1) := by decide +kernel
theorem dJ6_bitCount_0f7a4_0 : decode cJ6_bitCount_0f7a4 0 = .ok (.iload_n 0, 1) := by decide +kernel
theorem dJ6_bitCount_0f7a4_1 : decode cJ6_bitCount_0f7a4 1 = .ok (.iload_n 0, 1) := by decide +kernel
theorem dJ6_bitCount_0f7a4_2 : decode cJ6_bitCount_0f7a4 2 = .ok (.iconst 1, 1) := by decide +kernel
theorem dJ6_bitCount_0f7a4_3 : decode cJ6_bitCount_0f7a4 3 = .ok (.iushr, 1) := by decide +kernel
theorem dJ6_bitCount_0f7a4_4 : decode cJ6_bitCount_0f7a4 4 = .ok (.ldc_w 265, 3) := by decide +kernel
theorem dJ6_bitCount_0f7a4_7 : decode cJ6_bitCount_0f7a4 7 = .ok (.iand, 1) := by decide +kernel
theorem dJ6_bitCount_0f7a4_8 : decode cJ6_bitCount_0f7a4 8 = .ok (.isub, 1) := by decide +kernel
theorem dJ6_bitCount_0f7a4_9 : decode cJ6_bitCount_0f7a4 9 = .ok (.istore_n 0, 1) := by decide +kernel
theorem dJ6_bitCount_0f7a4_10 : decode cJ6_bitCount_0f7a4 10 = .ok (.iload_n 0, 1) := by decide +kernel
theorem dJ6_bitCount_0f7a4_11 : decode cJ6_bitCount_0f7a4 11 = .ok (.ldc_w 266, 3) := by decide +kernel
theorem dJ6_bitCount_0f7a4_14 : decode cJ6_bitCount_0f7a4 14 = .ok (.iand, 1) := by decide +kernel
theorem dJ6_bitCount_0f7a4_15 : decode cJ6_bitCount_0f7a4 15 = .ok (.iload_n 0, 1) := by decide +kernel
theorem dJ6_bitCount_0f7a4_16 : decode cJ6_bitCount_0f7a4 16 = .ok (.iconst 2, 1) := by decide +kernel
theorem dJ6_bitCount_0f7a4_17 : decode cJ6_bitCount_0f7a4 17 = .ok (.iushr, 1) := by decide +kernel
theorem dJ6_bitCount_0f7a4_18 : decode cJ6_bitCount_0f7a4 18 = .ok (.ldc_w 266, 3) := by decide +kernel
theorem dJ6_bitCount_0f7a4_21 : decode cJ6_bitCount_0f7a4 21 = .ok (.iand, 1) := by decide +kernel
theorem dJ6_bitCount_0f7a4_22 : decode cJ6_bitCount_0f7a4 22 = .ok (.iadd, 1) := by decide +kernel
theorem dJ6_bitCount_0f7a4_23 : decode cJ6_bitCount_0f7a4 23 = .ok (.istore_n 0, 1) := by decide +kernel
theorem dJ6_bitCount_0f7a4_24 : decode cJ6_bitCount_0f7a4 24 = .ok (.iload_n 0, 1) := by decide +kernel
theorem dJ6_bitCount_0f7a4_25 : decode cJ6_bitCount_0f7a4 25 = .ok (.iload_n 0, 1) := by decide +kernel
theorem dJ6_bitCount_0f7a4_26 : decode cJ6_bitCount_0f7a4 26 = .ok (.iconst 4, 1) := by decide +kernel
theorem dJ6_bitCount_0f7a4_27 : decode cJ6_bitCount_0f7a4 27 = .ok (.iushr, 1) := by decide +kernel
theorem dJ6_bitCount_0f7a4_28 : decode cJ6_bitCount_0f7a4 28 = .ok (.iadd, 1) := by decide +kernel
theorem dJ6_bitCount_0f7a4_29 : decode cJ6_bitCount_0f7a4 29 = .ok (.ldc_w 267, 3) := by decide +kernel
theorem dJ6_bitCount_0f7a4_32 : decode cJ6_bitCount_0f7a4 32 = .ok (.iand, 1) := by decide +kernel
theorem dJ6_bitCount_0f7a4_33 : decode cJ6_bitCount_0f7a4 33 = .ok (.istore_n 0, 1) := by decide +kernel
theorem dJ6_bitCount_0f7a4_34 : decode cJ6_bitCount_0f7a4 34 = .ok (.iload_n 0, 1) := by decide +kernel
theorem dJ6_bitCount_0f7a4_35 : decode cJ6_bitCount_0f7a4 35 = .ok (.iload_n 0, 1) := by decide +kernel
theorem dJ6_bitCount_0f7a4_36 : decode cJ6_bitCount_0f7a4 36 = .ok (.bipush 8, 2) := by decide +kernel
theorem dJ6_bitCount_0f7a4_38 : decode cJ6_bitCount_0f7a4 38 = .ok (.iushr, 1) := by decide +kernel
theorem dJ6_bitCount_0f7a4_39 : decode cJ6_bitCount_0f7a4 39 = .ok (.iadd, 1) := by decide +kernel
theorem dJ6_bitCount_0f7a4_40 : decode cJ6_bitCount_0f7a4 40 = .ok (.istore_n 0, 1) := by decide +kernel
theorem dJ6_bitCount_0f7a4_41 : decode cJ6_bitCount_0f7a4 41 = .ok (.iload_n 0, 1) := by decide +kernel
theorem dJ6_bitCount_0f7a4_42 : decode cJ6_bitCount_0f7a4 42 = .ok (.iload_n 0, 1) := by decide +kernel
theorem dJ6_bitCount_0f7a4_43 : decode cJ6_bitCount_0f7a4 43 = .ok (.bipush 16, 2) := by decide +kernel
theorem dJ6_bitCount_0f7a4_45 : decode cJ6_bitCount_0f7a4 45 = .ok (.iushr, 1) := by decide +kernel
theorem dJ6_bitCount_0f7a4_46 : decode cJ6_bitCount_0f7a4 46 = .ok (.iadd, 1) := by decide +kernel
theorem dJ6_bitCount_0f7a4_47 : decode cJ6_bitCount_0f7a4 47 = .ok (.istore_n 0, 1) := by decide +kernel
theorem dJ6_bitCount_0f7a4_48 : decode cJ6_bitCount_0f7a4 48 = .ok (.iload_n 0, 1) := by decide +kernel
theorem dJ6_bitCount_0f7a4_49 : decode cJ6_bitCount_0f7a4 49 = .ok (.bipush 63, 2) := by decide +kernel
theorem dJ6_bitCount_0f7a4_51 : decode cJ6_bitCount_0f7a4 51 = .ok (.iand, 1) := by decide +kernel
theorem dJ6_bitCount_0f7a4_52 : decode cJ6_bitCount_0f7a4 52 = .ok (.ireturn, 1) := by decide +kernel
theorem dJ9_abs_0f7a4_0 : decode cJ9_abs_0f7a4 0 = .ok (.iload_n 0, 1) := by decide +kernel
theorem dJ9_abs_0f7a4_1 : decode cJ9_abs_0f7a4 1 = .ok (.ifCond .ge 8, 3) := by decide +kernel
theorem dJ9_abs_0f7a4_4 : decode cJ9_abs_0f7a4 4 = .ok (.iload_n 0, 1) := by decide +kernel
theorem dJ9_abs_0f7a4_5 : decode cJ9_abs_0f7a4 5 = .ok (.ineg, 1) := by decide +kernel
theorem dJ9_abs_0f7a4_6 : decode cJ9_abs_0f7a4 6 = .ok (.goto 4, 3) := by decide +kernel
theorem dJ9_abs_0f7a4_9 : decode cJ9_abs_0f7a4 9 = .ok (.iload_n 0, 1) := by decide +kernel
theorem dJ9_abs_0f7a4_10 : decode cJ9_abs_0f7a4 10 = .ok (.ireturn, 1) := by decide +kernel
theorem dJ9_max_7cf53_0 : decode cJ9_max_7cf53 0 = .ok (.iload_n 0, 1) := by decide +kernel
theorem dJ9_max_7cf53_1 : decode cJ9_max_7cf53 1 = .ok (.iload_n 1, 1) := by decide +kernel
theorem dJ9_max_7cf53_2 : decode cJ9_max_7cf53 2 = .ok (.if_icmp .lt 7, 3) := by decide +kernel
theorem dJ9_max_7cf53_5 : decode cJ9_max_7cf53 5 = .ok (.iload_n 0, 1) := by decide +kernel
theorem dJ9_max_7cf53_6 : decode cJ9_max_7cf53 6 = .ok (.goto 4, 3) := by decide +kernel
theorem dJ9_max_7cf53_9 : decode cJ9_max_7cf53 9 = .ok (.iload_n 1, 1) := by decide +kernel
theorem dJ9_max_7cf53_10 : decode cJ9_max_7cf53 10 = .ok (.ireturn, 1) := by decide +kernel
theorem dJ9_min_7cf53_0 : decode cJ9_min_7cf53 0 = .ok (.iload_n 0, 1) := by decide +kernel
theorem dJ9_min_7cf53_1 : decode cJ9_min_7cf53 1 = .ok (.iload_n 1, 1) := by decide +kernel
theorem dJ9_min_7cf53_2 : decode cJ9_min_7cf53 2 = .ok (.if_icmp .gt 7, 3) := by decide +kernel
theorem dJ9_min_7cf53_5 : decode cJ9_min_7cf53 5 = .ok (.iload_n 0, 1) := by decide +kernel
theorem dJ9_min_7cf53_6 : decode cJ9_min_7cf53 6 = .ok (.goto 4, 3) := by decide +kernel
theorem dJ9_min_7cf53_9 : decode cJ9_min_7cf53 9 = .ok (.iload_n 1, 1) := by decide +kernel
theorem dJ9_min_7cf53_10 : decode cJ9_min_7cf53 10 = .ok (.ireturn, 1) := by decide +kernel
theorem dJ7_fill_53178_0 : decode cJ7_fill_53178 0 = .ok (.iconst 0, 1) := by decide +kernel
theorem dJ7_fill_53178_1 : decode cJ7_fill_53178 1 = .ok (.istore_n 2, 1) := by decide +kernel
theorem dJ7_fill_53178_2 : decode cJ7_fill_53178 2 = .ok (.aload_n 0, 1) := by decide +kernel
theorem dJ7_fill_53178_3 : decode cJ7_fill_53178 3 = .ok (.arraylength, 1) := by decide +kernel
theorem dJ7_fill_53178_4 : decode cJ7_fill_53178 4 = .ok (.istore_n 3, 1) := by decide +kernel
theorem dJ7_fill_53178_5 : decode cJ7_fill_53178 5 = .ok (.iload_n 2, 1) := by decide +kernel
theorem dJ7_fill_53178_6 : decode cJ7_fill_53178 6 = .ok (.iload_n 3, 1) := by decide +kernel
theorem dJ7_fill_53178_7 : decode cJ7_fill_53178 7 = .ok (.if_icmp .ge 13, 3) := by decide +kernel
theorem dJ7_fill_53178_10 : decode cJ7_fill_53178 10 = .ok (.aload_n 0, 1) := by decide +kernel
theorem dJ7_fill_53178_11 : decode cJ7_fill_53178 11 = .ok (.iload_n 2, 1) := by decide +kernel
theorem dJ7_fill_53178_12 : decode cJ7_fill_53178 12 = .ok (.iload_n 1, 1) := by decide +kernel
theorem dJ7_fill_53178_13 : decode cJ7_fill_53178 13 = .ok (.iastore, 1) := by decide +kernel
theorem dJ7_fill_53178_14 : decode cJ7_fill_53178 14 = .ok (.iinc 2 1, 3) := by decide +kernel
theorem dJ7_fill_53178_17 : decode cJ7_fill_53178 17 = .ok (.goto (-12), 3) := by decide +kernel
theorem dJ7_fill_53178_20 : decode cJ7_fill_53178 20 = .ok (.return_, 1) := by decide +kernel
