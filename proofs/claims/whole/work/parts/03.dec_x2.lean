theorem dX3_pairsThatTalk_22 : decode cX3_pairsThatTalk 22 = .ok (.getfield 30, 3) := by decide +kernel
theorem dX3_pairsThatTalk_25 : decode cX3_pairsThatTalk 25 = .ok (.iload_n 2, 1) := by decide +kernel
theorem dX3_pairsThatTalk_26 : decode cX3_pairsThatTalk 26 = .ok (.iaload, 1) := by decide +kernel
theorem dX3_pairsThatTalk_27 : decode cX3_pairsThatTalk 27 = .ok (.invokevirtual 95, 3) := by decide +kernel
theorem dX3_pairsThatTalk_30 : decode cX3_pairsThatTalk 30 = .ok (.ifCond .eq 27, 3) := by decide +kernel
theorem dX3_pairsThatTalk_33 : decode cX3_pairsThatTalk 33 = .ok (.aload_n 0, 1) := by decide +kernel
theorem dX3_pairsThatTalk_34 : decode cX3_pairsThatTalk 34 = .ok (.aload_n 0, 1) := by decide +kernel
theorem dX3_pairsThatTalk_35 : decode cX3_pairsThatTalk 35 = .ok (.getfield 30, 3) := by decide +kernel
theorem dX3_pairsThatTalk_38 : decode cX3_pairsThatTalk 38 = .ok (.iload_n 3, 1) := by decide +kernel
theorem dX3_pairsThatTalk_39 : decode cX3_pairsThatTalk 39 = .ok (.iaload, 1) := by decide +kernel
theorem dX3_pairsThatTalk_40 : decode cX3_pairsThatTalk 40 = .ok (.invokevirtual 95, 3) := by decide +kernel
theorem dX3_pairsThatTalk_43 : decode cX3_pairsThatTalk 43 = .ok (.ifCond .eq 14, 3) := by decide +kernel
theorem dX3_pairsThatTalk_46 : decode cX3_pairsThatTalk 46 = .ok (.iload_n 2, 1) := by decide +kernel
theorem dX3_pairsThatTalk_47 : decode cX3_pairsThatTalk 47 = .ok (.iload_n 3, 1) := by decide +kernel
theorem dX3_pairsThatTalk_48 : decode cX3_pairsThatTalk 48 = .ok (.invokestatic 98, 3) := by decide +kernel
theorem dX3_pairsThatTalk_51 : decode cX3_pairsThatTalk 51 = .ok (.ifCond .eq 6, 3) := by decide +kernel
theorem dX3_pairsThatTalk_54 : decode cX3_pairsThatTalk 54 = .ok (.iinc 1 1, 3) := by decide +kernel
theorem dX3_pairsThatTalk_57 : decode cX3_pairsThatTalk 57 = .ok (.iinc 3 1, 3) := by decide +kernel
theorem dX3_pairsThatTalk_60 : decode cX3_pairsThatTalk 60 = .ok (.goto (-46), 3) := by decide +kernel
theorem dX3_pairsThatTalk_63 : decode cX3_pairsThatTalk 63 = .ok (.iinc 2 1, 3) := by decide +kernel
theorem dX3_pairsThatTalk_66 : decode cX3_pairsThatTalk 66 = .ok (.goto (-62), 3) := by decide +kernel
theorem dX3_pairsThatTalk_69 : decode cX3_pairsThatTalk 69 = .ok (.iload_n 1, 1) := by decide +kernel
theorem dX3_pairsThatTalk_70 : decode cX3_pairsThatTalk 70 = .ok (.ireturn, 1) := by decide +kernel
theorem dX3_areSideBySide_0 : decode cX3_areSideBySide 0 = .ok (.getstatic 102, 3) := by decide +kernel
theorem dX3_areSideBySide_3 : decode cX3_areSideBySide 3 = .ok (.iload_n 0, 1) := by decide +kernel
theorem dX3_areSideBySide_4 : decode cX3_areSideBySide 4 = .ok (.iaload, 1) := by decide +kernel
theorem dX3_areSideBySide_5 : decode cX3_areSideBySide 5 = .ok (.getstatic 102, 3) := by decide +kernel
theorem dX3_areSideBySide_8 : decode cX3_areSideBySide 8 = .ok (.iload_n 1, 1) := by decide +kernel
theorem dX3_areSideBySide_9 : decode cX3_areSideBySide 9 = .ok (.iaload, 1) := by decide +kernel
theorem dX3_areSideBySide_10 : decode cX3_areSideBySide 10 = .ok (.isub, 1) := by decide +kernel
theorem dX3_areSideBySide_11 : decode cX3_areSideBySide 11 = .ok (.invokestatic 105, 3) := by decide +kernel
theorem dX3_areSideBySide_14 : decode cX3_areSideBySide 14 = .ok (.iconst 1, 1) := by decide +kernel
theorem dX3_areSideBySide_15 : decode cX3_areSideBySide 15 = .ok (.if_icmp .ne 25, 3) := by decide +kernel
theorem dX3_areSideBySide_18 : decode cX3_areSideBySide 18 = .ok (.getstatic 108, 3) := by decide +kernel
theorem dX3_areSideBySide_21 : decode cX3_areSideBySide 21 = .ok (.iload_n 0, 1) := by decide +kernel
theorem dX3_areSideBySide_22 : decode cX3_areSideBySide 22 = .ok (.iaload, 1) := by decide +kernel
theorem dX3_areSideBySide_23 : decode cX3_areSideBySide 23 = .ok (.getstatic 108, 3) := by decide +kernel
theorem dX3_areSideBySide_26 : decode cX3_areSideBySide 26 = .ok (.iload_n 1, 1) := by decide +kernel
theorem dX3_areSideBySide_27 : decode cX3_areSideBySide 27 = .ok (.iaload, 1) := by decide +kernel
theorem dX3_areSideBySide_28 : decode cX3_areSideBySide 28 = .ok (.isub, 1) := by decide +kernel
theorem dX3_areSideBySide_29 : decode cX3_areSideBySide 29 = .ok (.invokestatic 105, 3) := by decide +kernel
theorem dX3_areSideBySide_32 : decode cX3_areSideBySide 32 = .ok (.iconst 1, 1) := by decide +kernel
theorem dX3_areSideBySide_33 : decode cX3_areSideBySide 33 = .ok (.if_icmp .ne 7, 3) := by decide +kernel
theorem dX3_areSideBySide_36 : decode cX3_areSideBySide 36 = .ok (.iconst 1, 1) := by decide +kernel
theorem dX3_areSideBySide_37 : decode cX3_areSideBySide 37 = .ok (.goto 4, 3) := by decide +kernel
theorem dX3_areSideBySide_40 : decode cX3_areSideBySide 40 = .ok (.iconst 0, 1) := by decide +kernel
theorem dX3_areSideBySide_41 : decode cX3_areSideBySide 41 = .ok (.ireturn, 1) := by decide +kernel
theorem dX4_init_0 : decode cX4_init 0 = .ok (.aload_n 0, 1) := by decide +kernel
theorem dX4_init_1 : decode cX4_init 1 = .ok (.invokespecial 3, 3) := by decide +kernel
theorem dX4_init_4 : decode cX4_init 4 = .ok (.aload_n 0, 1) := by decide +kernel
theorem dX4_init_5 : decode cX4_init 5 = .ok (.bipush 16, 2) := by decide +kernel
theorem dX4_init_7 : decode cX4_init 7 = .ok (.anewarray 9, 3) := by decide +kernel
theorem dX4_init_10 : decode cX4_init 10 = .ok (.putfield 11, 3) := by decide +kernel
theorem dX4_init_13 : decode cX4_init 13 = .ok (.iconst 0, 1) := by decide +kernel
theorem dX4_init_14 : decode cX4_init 14 = .ok (.istore_n 1, 1) := by decide +kernel
theorem dX4_init_15 : decode cX4_init 15 = .ok (.iload_n 1, 1) := by decide +kernel
theorem dX4_init_16 : decode cX4_init 16 = .ok (.bipush 16, 2) := by decide +kernel
theorem dX4_init_18 : decode cX4_init 18 = .ok (.if_icmp .ge 22, 3) := by decide +kernel
theorem dX4_init_21 : decode cX4_init 21 = .ok (.aload_n 0, 1) := by decide +kernel
theorem dX4_init_22 : decode cX4_init 22 = .ok (.getfield 11, 3) := by decide +kernel
theorem dX4_init_25 : decode cX4_init 25 = .ok (.iload_n 1, 1) := by decide +kernel
theorem dX4_init_26 : decode cX4_init 26 = .ok (.new 9, 3) := by decide +kernel
theorem dX4_init_29 : decode cX4_init 29 = .ok (.dup, 1) := by decide +kernel
theorem dX4_init_30 : decode cX4_init 30 = .ok (.invokespecial 17, 3) := by decide +kernel
theorem dX4_init_33 : decode cX4_init 33 = .ok (.aastore, 1) := by decide +kernel
theorem dX4_init_34 : decode cX4_init 34 = .ok (.iinc 1 1, 3) := by decide +kernel
theorem dX4_init_37 : decode cX4_init 37 = .ok (.goto (-22), 3) := by decide +kernel
theorem dX4_init_40 : decode cX4_init 40 = .ok (.return_, 1) := by decide +kernel
theorem dX4_push_0 : decode cX4_push 0 = .ok (.aload_n 0, 1) := by decide +kernel
theorem dX4_push_1 : decode cX4_push 1 = .ok (.getfield 11, 3) := by decide +kernel
theorem dX4_push_4 : decode cX4_push 4 = .ok (.aload_n 0, 1) := by decide +kernel
theorem dX4_push_5 : decode cX4_push 5 = .ok (.getfield 18, 3) := by decide +kernel
theorem dX4_push_8 : decode cX4_push 8 = .ok (.aaload, 1) := by decide +kernel
theorem dX4_push_9 : decode cX4_push 9 = .ok (.aload_n 1, 1) := by decide +kernel
theorem dX4_push_10 : decode cX4_push 10 = .ok (.invokevirtual 22, 3) := by decide +kernel
theorem dX4_push_13 : decode cX4_push 13 = .ok (.aload_n 0, 1) := by decide +kernel
theorem dX4_push_14 : decode cX4_push 14 = .ok (.aload_n 0, 1) := by decide +kernel
theorem dX4_push_15 : decode cX4_push 15 = .ok (.getfield 18, 3) := by decide +kernel
theorem dX4_push_18 : decode cX4_push 18 = .ok (.iconst 1, 1) := by decide +kernel
theorem dX4_push_19 : decode cX4_push 19 = .ok (.iadd, 1) := by decide +kernel
theorem dX4_push_20 : decode cX4_push 20 = .ok (.bipush 16, 2) := by decide +kernel
theorem dX4_push_22 : decode cX4_push 22 = .ok (.irem, 1) := by decide +kernel
theorem dX4_push_23 : decode cX4_push 23 = .ok (.putfield 18, 3) := by decide +kernel
theorem dX4_push_26 : decode cX4_push 26 = .ok (.aload_n 0, 1) := by decide +kernel
theorem dX4_push_27 : decode cX4_push 27 = .ok (.bipush 16, 2) := by decide +kernel
theorem dX4_push_29 : decode cX4_push 29 = .ok (.aload_n 0, 1) := by decide +kernel
theorem dX4_push_30 : decode cX4_push 30 = .ok (.getfield 26, 3) := by decide +kernel
theorem dX4_push_33 : decode cX4_push 33 = .ok (.iconst 1, 1) := by decide +kernel
theorem dX4_push_34 : decode cX4_push 34 = .ok (.iadd, 1) := by decide +kernel
theorem dX4_push_35 : decode cX4_push 35 = .ok (.invokestatic 29, 3) := by decide +kernel
theorem dX4_push_38 : decode cX4_push 38 = .ok (.putfield 26, 3) := by decide +kernel
theorem dX4_push_41 : decode cX4_push 41 = .ok (.return_, 1) := by decide +kernel
theorem dX4_restore_0 : decode cX4_restore 0 = .ok (.aload_n 0, 1) := by decide +kernel
theorem dX4_restore_1 : decode cX4_restore 1 = .ok (.getfield 26, 3) := by decide +kernel
theorem dX4_restore_4 : decode cX4_restore 4 = .ok (.ifCond .ne 4, 3) := by decide +kernel
theorem dX4_restore_7 : decode cX4_restore 7 = .ok (.return_, 1) := by decide +kernel
theorem dX4_restore_8 : decode cX4_restore 8 = .ok (.aload_n 0, 1) := by decide +kernel
theorem dX4_restore_9 : decode cX4_restore 9 = .ok (.aload_n 0, 1) := by decide +kernel
theorem dX4_restore_10 : decode cX4_restore 10 = .ok (.getfield 18, 3) := by decide +kernel
theorem dX4_restore_13 : decode cX4_restore 13 = .ok (.bipush 16, 2) := by decide +kernel
theorem dX4_restore_15 : decode cX4_restore 15 = .ok (.iadd, 1) := by decide +kernel
theorem dX4_restore_16 : decode cX4_restore 16 = .ok (.iconst 1, 1) := by decide +kernel
theorem dX4_restore_17 : decode cX4_restore 17 = .ok (.isub, 1) := by decide +kernel
theorem dX4_restore_18 : decode cX4_restore 18 = .ok (.bipush 16, 2) := by decide +kernel
theorem dX4_restore_20 : decode cX4_restore 20 = .ok (.irem, 1) := by decide +kernel
theorem dX4_restore_21 : decode cX4_restore 21 = .ok (.putfield 18, 3) := by decide +kernel
theorem dX4_restore_24 : decode cX4_restore 24 = .ok (.aload_n 0, 1) := by decide +kernel
theorem dX4_restore_25 : decode cX4_restore 25 = .ok (.dup, 1) := by decide +kernel
theorem dX4_restore_26 : decode cX4_restore 26 = .ok (.getfield 26, 3) := by decide +kernel
theorem dX4_restore_29 : decode cX4_restore 29 = .ok (.iconst 1, 1) := by decide +kernel
theorem dX4_restore_30 : decode cX4_restore 30 = .ok (.isub, 1) := by decide +kernel
theorem dX4_restore_31 : decode cX4_restore 31 = .ok (.putfield 26, 3) := by decide +kernel
theorem dX4_restore_34 : decode cX4_restore 34 = .ok (.aload_n 1, 1) := by decide +kernel
theorem dX4_restore_35 : decode cX4_restore 35 = .ok (.aload_n 0, 1) := by decide +kernel
theorem dX4_restore_36 : decode cX4_restore 36 = .ok (.getfield 11, 3) := by decide +kernel
theorem dX4_restore_39 : decode cX4_restore 39 = .ok (.aload_n 0, 1) := by decide +kernel
theorem dX4_restore_40 : decode cX4_restore 40 = .ok (.getfield 18, 3) := by decide +kernel
theorem dX4_restore_43 : decode cX4_restore 43 = .ok (.aaload, 1) := by decide +kernel
theorem dX4_restore_44 : decode cX4_restore 44 = .ok (.invokevirtual 22, 3) := by decide +kernel
theorem dX4_restore_47 : decode cX4_restore 47 = .ok (.return_, 1) := by decide +kernel
theorem dX4_forget_0 : decode cX4_forget 0 = .ok (.aload_n 0, 1) := by decide +kernel
theorem dX4_forget_1 : decode cX4_forget 1 = .ok (.iconst 0, 1) := by decide +kernel
theorem dX4_forget_2 : decode cX4_forget 2 = .ok (.putfield 26, 3) := by decide +kernel
theorem dX4_forget_5 : decode cX4_forget 5 = .ok (.return_, 1) := by decide +kernel
theorem dX5_init_0 : decode cX5_init 0 = .ok (.aload_n 0, 1) := by decide +kernel
theorem dX5_init_1 : decode cX5_init 1 = .ok (.invokespecial 3, 3) := by decide +kernel
theorem dX5_init_4 : decode cX5_init 4 = .ok (.aload_n 0, 1) := by decide +kernel
theorem dX5_init_5 : decode cX5_init 5 = .ok (.bipush 9, 2) := by decide +kernel
theorem dX5_init_7 : decode cX5_init 7 = .ok (.newarray .int, 2) := by decide +kernel
theorem dX5_init_9 : decode cX5_init 9 = .ok (.putfield 9, 3) := by decide +kernel
theorem dX5_init_12 : decode cX5_init 12 = .ok (.aload_n 0, 1) := by decide +kernel
theorem dX5_init_13 : decode cX5_init 13 = .ok (.bipush 9, 2) := by decide +kernel
theorem dX5_init_15 : decode cX5_init 15 = .ok (.newarray .int, 2) := by decide +kernel
theorem dX5_init_17 : decode cX5_init 17 = .ok (.putfield 15, 3) := by decide +kernel
theorem dX5_init_20 : decode cX5_init 20 = .ok (.aload_n 0, 1) := by decide +kernel
theorem dX5_init_21 : decode cX5_init 21 = .ok (.bipush 9, 2) := by decide +kernel
theorem dX5_init_23 : decode cX5_init 23 = .ok (.newarray .int, 2) := by decide +kernel
theorem dX5_init_25 : decode cX5_init 25 = .ok (.putfield 18, 3) := by decide +kernel
theorem dX5_init_28 : decode cX5_init 28 = .ok (.aload_n 0, 1) := by decide +kernel
theorem dX5_init_29 : decode cX5_init 29 = .ok (.bipush 9, 2) := by decide +kernel
theorem dX5_init_31 : decode cX5_init 31 = .ok (.newarray .int, 2) := by decide +kernel
theorem dX5_init_33 : decode cX5_init 33 = .ok (.putfield 21, 3) := by decide +kernel
theorem dX5_init_36 : decode cX5_init 36 = .ok (.return_, 1) := by decide +kernel
theorem dX5_prepare_0 : decode cX5_prepare 0 = .ok (.aload_n 0, 1) := by decide +kernel
theorem dX5_prepare_1 : decode cX5_prepare 1 = .ok (.aload_n 1, 1) := by decide +kernel
theorem dX5_prepare_2 : decode cX5_prepare 2 = .ok (.getfield 24, 3) := by decide +kernel
theorem dX5_prepare_5 : decode cX5_prepare 5 = .ok (.iconst 3, 1) := by decide +kernel
theorem dX5_prepare_6 : decode cX5_prepare 6 = .ok (.idiv, 1) := by decide +kernel
theorem dX5_prepare_7 : decode cX5_prepare 7 = .ok (.putfield 30, 3) := by decide +kernel
theorem dX5_prepare_10 : decode cX5_prepare 10 = .ok (.iconst 0, 1) := by decide +kernel
theorem dX5_prepare_11 : decode cX5_prepare 11 = .ok (.istore_n 2, 1) := by decide +kernel
theorem dX5_prepare_12 : decode cX5_prepare 12 = .ok (.iload_n 2, 1) := by decide +kernel
theorem dX5_prepare_13 : decode cX5_prepare 13 = .ok (.bipush 9, 2) := by decide +kernel
theorem dX5_prepare_15 : decode cX5_prepare 15 = .ok (.if_icmp .ge 32, 3) := by decide +kernel
theorem dX5_prepare_18 : decode cX5_prepare 18 = .ok (.aload_n 0, 1) := by decide +kernel
theorem dX5_prepare_19 : decode cX5_prepare 19 = .ok (.getfield 9, 3) := by decide +kernel
theorem dX5_prepare_22 : decode cX5_prepare 22 = .ok (.iload_n 2, 1) := by decide +kernel
theorem dX5_prepare_23 : decode cX5_prepare 23 = .ok (.aload_n 1, 1) := by decide +kernel
theorem dX5_prepare_24 : decode cX5_prepare 24 = .ok (.getfield 33, 3) := by decide +kernel
theorem dX5_prepare_27 : decode cX5_prepare 27 = .ok (.iload_n 2, 1) := by decide +kernel
theorem dX5_prepare_28 : decode cX5_prepare 28 = .ok (.iaload, 1) := by decide +kernel
theorem dX5_prepare_29 : decode cX5_prepare 29 = .ok (.iastore, 1) := by decide +kernel
theorem dX5_prepare_30 : decode cX5_prepare 30 = .ok (.aload_n 0, 1) := by decide +kernel
theorem dX5_prepare_31 : decode cX5_prepare 31 = .ok (.getfield 15, 3) := by decide +kernel
theorem dX5_prepare_34 : decode cX5_prepare 34 = .ok (.iload_n 2, 1) := by decide +kernel
theorem dX5_prepare_35 : decode cX5_prepare 35 = .ok (.aload_n 1, 1) := by decide +kernel
theorem dX5_prepare_36 : decode cX5_prepare 36 = .ok (.iload_n 2, 1) := by decide +kernel
theorem dX5_prepare_37 : decode cX5_prepare 37 = .ok (.invokevirtual 34, 3) := by decide +kernel
theorem dX5_prepare_40 : decode cX5_prepare 40 = .ok (.iastore, 1) := by decide +kernel
theorem dX5_prepare_41 : decode cX5_prepare 41 = .ok (.iinc 2 1, 3) := by decide +kernel
theorem dX5_prepare_44 : decode cX5_prepare 44 = .ok (.goto (-32), 3) := by decide +kernel
theorem dX5_prepare_47 : decode cX5_prepare 47 = .ok (.return_, 1) := by decide +kernel
theorem dX5_clearRocked_0 : decode cX5_clearRocked 0 = .ok (.aload_n 0, 1) := by decide +kernel
theorem dX5_clearRocked_1 : decode cX5_clearRocked 1 = .ok (.getfield 21, 3) := by decide +kernel
theorem dX5_clearRocked_4 : decode cX5_clearRocked 4 = .ok (.iconst 0, 1) := by decide +kernel
theorem dX5_clearRocked_5 : decode cX5_clearRocked 5 = .ok (.invokestatic 37, 3) := by decide +kernel
theorem dX5_clearRocked_8 : decode cX5_clearRocked 8 = .ok (.return_, 1) := by decide +kernel
theorem dX5_send_0 : decode cX5_send 0 = .ok (.aload_n 0, 1) := by decide +kernel
theorem dX5_send_1 : decode cX5_send 1 = .ok (.iload 4, 2) := by decide +kernel
theorem dX5_send_3 : decode cX5_send 3 = .ok (.putfield 43, 3) := by decide +kernel
theorem dX5_send_6 : decode cX5_send 6 = .ok (.aload_n 0, 1) := by decide +kernel
theorem dX5_send_7 : decode cX5_send 7 = .ok (.iconst 0, 1) := by decide +kernel
theorem dX5_send_8 : decode cX5_send 8 = .ok (.putfield 46, 3) := by decide +kernel
theorem dX5_send_11 : decode cX5_send 11 = .ok (.aload_n 0, 1) := by decide +kernel
theorem dX5_send_12 : decode cX5_send 12 = .ok (.iconst (-1), 1) := by decide +kernel
theorem dX5_send_13 : decode cX5_send 13 = .ok (.putfield 49, 3) := by decide +kernel
theorem dX5_send_16 : decode cX5_send 16 = .ok (.iload_n 3, 1) := by decide +kernel
theorem dX5_send_17 : decode cX5_send 17 = .ok (.istore 5, 2) := by decide +kernel
theorem dX5_send_19 : decode cX5_send 19 = .ok (.iconst 0, 1) := by decide +kernel
theorem dX5_send_20 : decode cX5_send 20 = .ok (.istore 6, 2) := by decide +kernel
theorem dX5_send_22 : decode cX5_send 22 = .ok (.iload 6, 2) := by decide +kernel
theorem dX5_send_24 : decode cX5_send 24 = .ok (.iconst 5, 1) := by decide +kernel
theorem dX5_send_25 : decode cX5_send 25 = .ok (.if_icmp .ge 51, 3) := by decide +kernel
theorem dX5_send_28 : decode cX5_send 28 = .ok (.aload_n 0, 1) := by decide +kernel
theorem dX5_send_29 : decode cX5_send 29 = .ok (.getfield 49, 3) := by decide +kernel
theorem dX5_send_32 : decode cX5_send 32 = .ok (.iconst (-1), 1) := by decide +kernel
theorem dX5_send_33 : decode cX5_send 33 = .ok (.if_icmp .ne 43, 3) := by decide +kernel
theorem dX5_send_36 : decode cX5_send 36 = .ok (.aload_n 0, 1) := by decide +kernel
theorem dX5_send_37 : decode cX5_send 37 = .ok (.iload 6, 2) := by decide +kernel
theorem dX5_send_39 : decode cX5_send 39 = .ok (.iload_n 1, 1) := by decide +kernel
theorem dX5_send_40 : decode cX5_send 40 = .ok (.iload 6, 2) := by decide +kernel
theorem dX5_send_42 : decode cX5_send 42 = .ok (.iload_n 2, 1) := by decide +kernel
theorem dX5_send_43 : decode cX5_send 43 = .ok (.iconst 1, 1) := by decide +kernel
theorem dX5_send_44 : decode cX5_send 44 = .ok (.isub, 1) := by decide +kernel
theorem dX5_send_45 : decode cX5_send 45 = .ok (.imul, 1) := by decide +kernel
theorem dX5_send_46 : decode cX5_send 46 = .ok (.iadd, 1) := by decide +kernel
theorem dX5_send_47 : decode cX5_send 47 = .ok (.iload 5, 2) := by decide +kernel
theorem dX5_send_49 : decode cX5_send 49 = .ok (.invokevirtual 52, 3) := by decide +kernel
theorem dX5_send_52 : decode cX5_send 52 = .ok (.aload_n 0, 1) := by decide +kernel
theorem dX5_send_53 : decode cX5_send 53 = .ok (.getfield 30, 3) := by decide +kernel
theorem dX5_send_56 : decode cX5_send 56 = .ok (.isub, 1) := by decide +kernel
theorem dX5_send_57 : decode cX5_send 57 = .ok (.istore 5, 2) := by decide +kernel
theorem dX5_send_59 : decode cX5_send 59 = .ok (.iload 5, 2) := by decide +kernel
theorem dX5_send_61 : decode cX5_send 61 = .ok (.ifCond .gt 9, 3) := by decide +kernel
theorem dX5_send_64 : decode cX5_send 64 = .ok (.aload_n 0, 1) := by decide +kernel
theorem dX5_send_65 : decode cX5_send 65 = .ok (.iload 6, 2) := by decide +kernel
theorem dX5_send_67 : decode cX5_send 67 = .ok (.putfield 49, 3) := by decide +kernel
theorem dX5_send_70 : decode cX5_send 70 = .ok (.iinc 6 1, 3) := by decide +kernel
theorem dX5_send_73 : decode cX5_send 73 = .ok (.goto (-51), 3) := by decide +kernel
theorem dX5_send_76 : decode cX5_send 76 = .ok (.iload 4, 2) := by decide +kernel
theorem dX5_send_78 : decode cX5_send 78 = .ok (.aload_n 0, 1) := by decide +kernel
theorem dX5_send_79 : decode cX5_send 79 = .ok (.getfield 43, 3) := by decide +kernel
theorem dX5_send_82 : decode cX5_send 82 = .ok (.iconst (-1), 1) := by decide +kernel
theorem dX5_send_83 : decode cX5_send 83 = .ok (.ixor, 1) := by decide +kernel
theorem dX5_send_84 : decode cX5_send 84 = .ok (.iand, 1) := by decide +kernel
theorem dX5_send_85 : decode cX5_send 85 = .ok (.ireturn, 1) := by decide +kernel
theorem dX5_leastPace_0 : decode cX5_leastPace 0 = .ok (.aload_n 0, 1) := by decide +kernel
theorem dX5_leastPace_1 : decode cX5_leastPace 1 = .ok (.iload_n 3, 1) := by decide +kernel
theorem dX5_leastPace_2 : decode cX5_leastPace 2 = .ok (.putfield 43, 3) := by decide +kernel
theorem dX5_leastPace_5 : decode cX5_leastPace 5 = .ok (.iconst 0, 1) := by decide +kernel
theorem dX5_leastPace_6 : decode cX5_leastPace 6 = .ok (.istore 4, 2) := by decide +kernel
theorem dX5_leastPace_8 : decode cX5_leastPace 8 = .ok (.iload 4, 2) := by decide +kernel
theorem dX5_leastPace_10 : decode cX5_leastPace 10 = .ok (.iconst 5, 1) := by decide +kernel
theorem dX5_leastPace_11 : decode cX5_leastPace 11 = .ok (.if_icmp .ge 47, 3) := by decide +kernel
theorem dX5_leastPace_14 : decode cX5_leastPace 14 = .ok (.aload_n 0, 1) := by decide +kernel
theorem dX5_leastPace_15 : decode cX5_leastPace 15 = .ok (.iload 4, 2) := by decide +kernel
theorem dX5_leastPace_17 : decode cX5_leastPace 17 = .ok (.iload_n 1, 1) := by decide +kernel
theorem dX5_leastPace_18 : decode cX5_leastPace 18 = .ok (.iload 4, 2) := by decide +kernel
theorem dX5_leastPace_20 : decode cX5_leastPace 20 = .ok (.iload_n 2, 1) := by decide +kernel
theorem dX5_leastPace_21 : decode cX5_leastPace 21 = .ok (.iconst 1, 1) := by decide +kernel
theorem dX5_leastPace_22 : decode cX5_leastPace 22 = .ok (.isub, 1) := by decide +kernel
theorem dX5_leastPace_23 : decode cX5_leastPace 23 = .ok (.imul, 1) := by decide +kernel
theorem dX5_leastPace_24 : decode cX5_leastPace 24 = .ok (.iadd, 1) := by decide +kernel
theorem dX5_leastPace_25 : decode cX5_leastPace 25 = .ok (.invokevirtual 56, 3) := by decide +kernel
theorem dX5_leastPace_28 : decode cX5_leastPace 28 = .ok (.istore 5, 2) := by decide +kernel
theorem dX5_leastPace_30 : decode cX5_leastPace 30 = .ok (.iload 5, 2) := by decide +kernel
theorem dX5_leastPace_32 : decode cX5_leastPace 32 = .ok (.iconst (-1), 1) := by decide +kernel
theorem dX5_leastPace_33 : decode cX5_leastPace 33 = .ok (.if_icmp .eq 19, 3) := by decide +kernel
theorem dX5_leastPace_36 : decode cX5_leastPace 36 = .ok (.aload_n 0, 1) := by decide +kernel
theorem dX5_leastPace_37 : decode cX5_leastPace 37 = .ok (.getfield 15, 3) := by decide +kernel
theorem dX5_leastPace_40 : decode cX5_leastPace 40 = .ok (.iload 5, 2) := by decide +kernel
theorem dX5_leastPace_42 : decode cX5_leastPace 42 = .ok (.iaload, 1) := by decide +kernel
theorem dX5_leastPace_43 : decode cX5_leastPace 43 = .ok (.iload 4, 2) := by decide +kernel
theorem dX5_leastPace_45 : decode cX5_leastPace 45 = .ok (.aload_n 0, 1) := by decide +kernel
theorem dX5_leastPace_46 : decode cX5_leastPace 46 = .ok (.getfield 30, 3) := by decide +kernel
theorem dX5_leastPace_49 : decode cX5_leastPace 49 = .ok (.imul, 1) := by decide +kernel
theorem dX5_leastPace_50 : decode cX5_leastPace 50 = .ok (.iadd, 1) := by decide +kernel
theorem dX5_leastPace_51 : decode cX5_leastPace 51 = .ok (.ireturn, 1) := by decide +kernel
theorem dX5_leastPace_52 : decode cX5_leastPace 52 = .ok (.iinc 4 1, 3) := by decide +kernel
theorem dX5_leastPace_55 : decode cX5_leastPace 55 = .ok (.goto (-47), 3) := by decide +kernel
theorem dX5_leastPace_58 : decode cX5_leastPace 58 = .ok (.bipush 41, 2) := by decide +kernel
theorem dX5_leastPace_60 : decode cX5_leastPace 60 = .ok (.ireturn, 1) := by decide +kernel
theorem dX5_meet_0 : decode cX5_meet 0 = .ok (.aload_n 0, 1) := by decide +kernel
theorem dX5_meet_1 : decode cX5_meet 1 = .ok (.iload_n 1, 1) := by decide +kernel
theorem dX5_meet_2 : decode cX5_meet 2 = .ok (.iload_n 2, 1) := by decide +kernel
theorem dX5_meet_3 : decode cX5_meet 3 = .ok (.invokevirtual 56, 3) := by decide +kernel
theorem dX5_meet_6 : decode cX5_meet 6 = .ok (.istore 4, 2) := by decide +kernel
theorem dX5_meet_8 : decode cX5_meet 8 = .ok (.iload 4, 2) := by decide +kernel
theorem dX5_meet_10 : decode cX5_meet 10 = .ok (.iconst (-1), 1) := by decide +kernel
theorem dX5_meet_11 : decode cX5_meet 11 = .ok (.if_icmp .ne 5, 3) := by decide +kernel
theorem dX5_meet_14 : decode cX5_meet 14 = .ok (.iload_n 3, 1) := by decide +kernel
theorem dX5_meet_15 : decode cX5_meet 15 = .ok (.ireturn, 1) := by decide +kernel
theorem dX5_meet_16 : decode cX5_meet 16 = .ok (.iload_n 3, 1) := by decide +kernel
theorem dX5_meet_17 : decode cX5_meet 17 = .ok (.aload_n 0, 1) := by decide +kernel
theorem dX5_meet_18 : decode cX5_meet 18 = .ok (.getfield 15, 3) := by decide +kernel
theorem dX5_meet_21 : decode cX5_meet 21 = .ok (.iload 4, 2) := by decide +kernel
theorem dX5_meet_23 : decode cX5_meet 23 = .ok (.iaload, 1) := by decide +kernel
theorem dX5_meet_24 : decode cX5_meet 24 = .ok (.if_icmp .ge 11, 3) := by decide +kernel
theorem dX5_meet_27 : decode cX5_meet 27 = .ok (.aload_n 0, 1) := by decide +kernel
theorem dX5_meet_28 : decode cX5_meet 28 = .ok (.iload 4, 2) := by decide +kernel
theorem dX5_meet_30 : decode cX5_meet 30 = .ok (.invokevirtual 60, 3) := by decide +kernel
theorem dX5_meet_33 : decode cX5_meet 33 = .ok (.iconst 0, 1) := by decide +kernel
theorem dX5_meet_34 : decode cX5_meet 34 = .ok (.ireturn, 1) := by decide +kernel
theorem dX5_meet_35 : decode cX5_meet 35 = .ok (.aload_n 0, 1) := by decide +kernel
theorem dX5_meet_36 : decode cX5_meet 36 = .ok (.iload 4, 2) := by decide +kernel
theorem dX5_meet_38 : decode cX5_meet 38 = .ok (.iconst (-1), 1) := by decide +kernel
theorem dX5_meet_39 : decode cX5_meet 39 = .ok (.iload_n 1, 1) := by decide +kernel
theorem dX5_meet_40 : decode cX5_meet 40 = .ok (.iload_n 2, 1) := by decide +kernel
theorem dX5_meet_41 : decode cX5_meet 41 = .ok (.iload_n 3, 1) := by decide +kernel
theorem dX5_meet_42 : decode cX5_meet 42 = .ok (.invokevirtual 64, 3) := by decide +kernel
theorem dX5_meet_45 : decode cX5_meet 45 = .ok (.iload_n 3, 1) := by decide +kernel
theorem dX5_meet_46 : decode cX5_meet 46 = .ok (.aload_n 0, 1) := by decide +kernel
theorem dX5_meet_47 : decode cX5_meet 47 = .ok (.getfield 15, 3) := by decide +kernel
theorem dX5_meet_50 : decode cX5_meet 50 = .ok (.iload 4, 2) := by decide +kernel
theorem dX5_meet_52 : decode cX5_meet 52 = .ok (.iaload, 1) := by decide +kernel
theorem dX5_meet_53 : decode cX5_meet 53 = .ok (.iconst 2, 1) := by decide +kernel
theorem dX5_meet_54 : decode cX5_meet 54 = .ok (.idiv, 1) := by decide +kernel
theorem dX5_meet_55 : decode cX5_meet 55 = .ok (.isub, 1) := by decide +kernel
theorem dX5_meet_56 : decode cX5_meet 56 = .ok (.iconst 1, 1) := by decide +kernel
theorem dX5_meet_57 : decode cX5_meet 57 = .ok (.isub, 1) := by decide +kernel
theorem dX5_meet_58 : decode cX5_meet 58 = .ok (.ireturn, 1) := by decide +kernel
theorem dX5_topple_0 : decode cX5_topple 0 = .ok (.aload_n 0, 1) := by decide +kernel
theorem dX5_topple_1 : decode cX5_topple 1 = .ok (.dup, 1) := by decide +kernel
theorem dX5_topple_2 : decode cX5_topple 2 = .ok (.getfield 43, 3) := by decide +kernel
theorem dX5_topple_5 : decode cX5_topple 5 = .ok (.iconst 1, 1) := by decide +kernel
theorem dX5_topple_6 : decode cX5_topple 6 = .ok (.iload_n 1, 1) := by decide +kernel
theorem dX5_topple_7 : decode cX5_topple 7 = .ok (.ishl, 1) := by decide +kernel
theorem dX5_topple_8 : decode cX5_topple 8 = .ok (.iconst (-1), 1) := by decide +kernel
theorem dX5_topple_9 : decode cX5_topple 9 = .ok (.ixor, 1) := by decide +kernel
theorem dX5_topple_10 : decode cX5_topple 10 = .ok (.iand, 1) := by decide +kernel
theorem dX5_topple_11 : decode cX5_topple 11 = .ok (.putfield 43, 3) := by decide +kernel
theorem dX5_topple_14 : decode cX5_topple 14 = .ok (.aload_n 0, 1) := by decide +kernel
theorem dX5_topple_15 : decode cX5_topple 15 = .ok (.getfield 18, 3) := by decide +kernel
theorem dX5_topple_18 : decode cX5_topple 18 = .ok (.iload_n 1, 1) := by decide +kernel
theorem dX5_topple_19 : decode cX5_topple 19 = .ok (.iload_n 2, 1) := by decide +kernel
theorem dX5_topple_20 : decode cX5_topple 20 = .ok (.iastore, 1) := by decide +kernel
theorem dX5_topple_21 : decode cX5_topple 21 = .ok (.iload 5, 2) := by decide +kernel
theorem dX5_topple_23 : decode cX5_topple 23 = .ok (.iconst 2, 1) := by decide +kernel
theorem dX5_topple_24 : decode cX5_topple 24 = .ok (.idiv, 1) := by decide +kernel
theorem dX5_topple_25 : decode cX5_topple 25 = .ok (.iconst 1, 1) := by decide +kernel
theorem dX5_topple_26 : decode cX5_topple 26 = .ok (.if_icmp .lt 42, 3) := by decide +kernel
theorem dX5_topple_29 : decode cX5_topple 29 = .ok (.iload_n 3, 1) := by decide +kernel
theorem dX5_topple_30 : decode cX5_topple 30 = .ok (.iconst 1, 1) := by decide +kernel
theorem dX5_topple_31 : decode cX5_topple 31 = .ok (.iadd, 1) := by decide +kernel
theorem dX5_topple_32 : decode cX5_topple 32 = .ok (.iconst 5, 1) := by decide +kernel
theorem dX5_topple_33 : decode cX5_topple 33 = .ok (.if_icmp .ge 35, 3) := by decide +kernel
theorem dX5_topple_36 : decode cX5_topple 36 = .ok (.aload_n 0, 1) := by decide +kernel
theorem dX5_topple_37 : decode cX5_topple 37 = .ok (.iload_n 1, 1) := by decide +kernel
theorem dX5_topple_38 : decode cX5_topple 38 = .ok (.iload_n 3, 1) := by decide +kernel
theorem dX5_topple_39 : decode cX5_topple 39 = .ok (.iconst 1, 1) := by decide +kernel
theorem dX5_topple_40 : decode cX5_topple 40 = .ok (.iadd, 1) := by decide +kernel
theorem dX5_topple_41 : decode cX5_topple 41 = .ok (.iload 4, 2) := by decide +kernel
theorem dX5_topple_43 : decode cX5_topple 43 = .ok (.iconst 1, 1) := by decide +kernel
theorem dX5_topple_44 : decode cX5_topple 44 = .ok (.isub, 1) := by decide +kernel
theorem dX5_topple_45 : decode cX5_topple 45 = .ok (.iload 5, 2) := by decide +kernel
theorem dX5_topple_47 : decode cX5_topple 47 = .ok (.iconst 2, 1) := by decide +kernel
theorem dX5_topple_48 : decode cX5_topple 48 = .ok (.idiv, 1) := by decide +kernel
theorem dX5_topple_49 : decode cX5_topple 49 = .ok (.invokevirtual 68, 3) := by decide +kernel
theorem dX5_topple_52 : decode cX5_topple 52 = .ok (.aload_n 0, 1) := by decide +kernel
theorem dX5_topple_53 : decode cX5_topple 53 = .ok (.iload_n 1, 1) := by decide +kernel
theorem dX5_topple_54 : decode cX5_topple 54 = .ok (.iload_n 3, 1) := by decide +kernel
theorem dX5_topple_55 : decode cX5_topple 55 = .ok (.iconst 1, 1) := by decide +kernel
theorem dX5_topple_56 : decode cX5_topple 56 = .ok (.iadd, 1) := by decide +kernel
theorem dX5_topple_57 : decode cX5_topple 57 = .ok (.iload 4, 2) := by decide +kernel
theorem dX5_topple_59 : decode cX5_topple 59 = .ok (.iconst 1, 1) := by decide +kernel
theorem dX5_topple_60 : decode cX5_topple 60 = .ok (.iadd, 1) := by decide +kernel
theorem dX5_topple_61 : decode cX5_topple 61 = .ok (.iload 5, 2) := by decide +kernel
theorem dX5_topple_63 : decode cX5_topple 63 = .ok (.iconst 2, 1) := by decide +kernel
theorem dX5_topple_64 : decode cX5_topple 64 = .ok (.idiv, 1) := by decide +kernel
theorem dX5_topple_65 : decode cX5_topple 65 = .ok (.invokevirtual 68, 3) := by decide +kernel
theorem dX5_topple_68 : decode cX5_topple 68 = .ok (.return_, 1) := by decide +kernel
theorem dX5_strike_0 : decode cX5_strike 0 = .ok (.aload_n 0, 1) := by decide +kernel
theorem dX5_strike_1 : decode cX5_strike 1 = .ok (.iload_n 2, 1) := by decide +kernel
theorem dX5_strike_2 : decode cX5_strike 2 = .ok (.iload_n 3, 1) := by decide +kernel
theorem dX5_strike_3 : decode cX5_strike 3 = .ok (.invokevirtual 56, 3) := by decide +kernel
theorem dX5_strike_6 : decode cX5_strike 6 = .ok (.istore 5, 2) := by decide +kernel
theorem dX5_strike_8 : decode cX5_strike 8 = .ok (.iload 5, 2) := by decide +kernel
theorem dX5_strike_10 : decode cX5_strike 10 = .ok (.iconst (-1), 1) := by decide +kernel
theorem dX5_strike_11 : decode cX5_strike 11 = .ok (.if_icmp .ne 4, 3) := by decide +kernel
theorem dX5_strike_14 : decode cX5_strike 14 = .ok (.return_, 1) := by decide +kernel
theorem dX5_strike_15 : decode cX5_strike 15 = .ok (.iload 4, 2) := by decide +kernel
theorem dX5_strike_17 : decode cX5_strike 17 = .ok (.aload_n 0, 1) := by decide +kernel
theorem dX5_strike_18 : decode cX5_strike 18 = .ok (.getfield 15, 3) := by decide +kernel
theorem dX5_strike_21 : decode cX5_strike 21 = .ok (.iload 5, 2) := by decide +kernel
theorem dX5_strike_23 : decode cX5_strike 23 = .ok (.iaload, 1) := by decide +kernel
theorem dX5_strike_24 : decode cX5_strike 24 = .ok (.if_icmp .ge 12, 3) := by decide +kernel
theorem dX5_strike_27 : decode cX5_strike 27 = .ok (.aload_n 0, 1) := by decide +kernel
theorem dX5_strike_28 : decode cX5_strike 28 = .ok (.iload 5, 2) := by decide +kernel
theorem dX5_strike_30 : decode cX5_strike 30 = .ok (.invokevirtual 60, 3) := by decide +kernel
theorem dX5_strike_33 : decode cX5_strike 33 = .ok (.goto 14, 3) := by decide +kernel
theorem dX5_strike_36 : decode cX5_strike 36 = .ok (.aload_n 0, 1) := by decide +kernel
theorem dX5_strike_37 : decode cX5_strike 37 = .ok (.iload 5, 2) := by decide +kernel
theorem dX5_strike_39 : decode cX5_strike 39 = .ok (.iload_n 1, 1) := by decide +kernel
theorem dX5_strike_40 : decode cX5_strike 40 = .ok (.iload_n 2, 1) := by decide +kernel
theorem dX5_strike_41 : decode cX5_strike 41 = .ok (.iload_n 3, 1) := by decide +kernel
theorem dX5_strike_42 : decode cX5_strike 42 = .ok (.iload 4, 2) := by decide +kernel
theorem dX5_strike_44 : decode cX5_strike 44 = .ok (.invokevirtual 64, 3) := by decide +kernel
theorem dX5_strike_47 : decode cX5_strike 47 = .ok (.return_, 1) := by decide +kernel
theorem dX5_rock_0 : decode cX5_rock 0 = .ok (.aload_n 0, 1) := by decide +kernel
theorem dX5_rock_1 : decode cX5_rock 1 = .ok (.dup, 1) := by decide +kernel
theorem dX5_rock_2 : decode cX5_rock 2 = .ok (.getfield 46, 3) := by decide +kernel
theorem dX5_rock_5 : decode cX5_rock 5 = .ok (.iconst 1, 1) := by decide +kernel
theorem dX5_rock_6 : decode cX5_rock 6 = .ok (.iadd, 1) := by decide +kernel
theorem dX5_rock_7 : decode cX5_rock 7 = .ok (.putfield 46, 3) := by decide +kernel
theorem dX5_rock_10 : decode cX5_rock 10 = .ok (.aload_n 0, 1) := by decide +kernel
theorem dX5_rock_11 : decode cX5_rock 11 = .ok (.getfield 21, 3) := by decide +kernel
theorem dX5_rock_14 : decode cX5_rock 14 = .ok (.iload_n 1, 1) := by decide +kernel
theorem dX5_rock_15 : decode cX5_rock 15 = .ok (.dup2, 1) := by decide +kernel
theorem dX5_rock_16 : decode cX5_rock 16 = .ok (.iaload, 1) := by decide +kernel
theorem dX5_rock_17 : decode cX5_rock 17 = .ok (.iconst 1, 1) := by decide +kernel
theorem dX5_rock_18 : decode cX5_rock 18 = .ok (.iadd, 1) := by decide +kernel
theorem dX5_rock_19 : decode cX5_rock 19 = .ok (.iastore, 1) := by decide +kernel
theorem dX5_rock_20 : decode cX5_rock 20 = .ok (.return_, 1) := by decide +kernel
theorem dX5_whoStandsAt_0 : decode cX5_whoStandsAt 0 = .ok (.iload_n 1, 1) := by decide +kernel
theorem dX5_whoStandsAt_1 : decode cX5_whoStandsAt 1 = .ok (.ifCond .lt 17, 3) := by decide +kernel
theorem dX5_whoStandsAt_4 : decode cX5_whoStandsAt 4 = .ok (.iload_n 1, 1) := by decide +kernel
theorem dX5_whoStandsAt_5 : decode cX5_whoStandsAt 5 = .ok (.iconst 5, 1) := by decide +kernel
theorem dX5_whoStandsAt_6 : decode cX5_whoStandsAt 6 = .ok (.if_icmp .ge 12, 3) := by decide +kernel
theorem dX5_whoStandsAt_9 : decode cX5_whoStandsAt 9 = .ok (.iload_n 2, 1) := by decide +kernel
theorem dX5_whoStandsAt_10 : decode cX5_whoStandsAt 10 = .ok (.ifCond .lt 8, 3) := by decide +kernel
theorem dX5_whoStandsAt_13 : decode cX5_whoStandsAt 13 = .ok (.iload_n 2, 1) := by decide +kernel
theorem dX5_whoStandsAt_14 : decode cX5_whoStandsAt 14 = .ok (.iconst 5, 1) := by decide +kernel
theorem dX5_whoStandsAt_15 : decode cX5_whoStandsAt 15 = .ok (.if_icmp .lt 5, 3) := by decide +kernel
theorem dX5_whoStandsAt_18 : decode cX5_whoStandsAt 18 = .ok (.iconst (-1), 1) := by decide +kernel
theorem dX5_whoStandsAt_19 : decode cX5_whoStandsAt 19 = .ok (.ireturn, 1) := by decide +kernel
theorem dX5_whoStandsAt_20 : decode cX5_whoStandsAt 20 = .ok (.getstatic 72, 3) := by decide +kernel
theorem dX5_whoStandsAt_23 : decode cX5_whoStandsAt 23 = .ok (.iload_n 1, 1) := by decide +kernel
theorem dX5_whoStandsAt_24 : decode cX5_whoStandsAt 24 = .ok (.iconst 5, 1) := by decide +kernel
theorem dX5_whoStandsAt_25 : decode cX5_whoStandsAt 25 = .ok (.imul, 1) := by decide +kernel
theorem dX5_whoStandsAt_26 : decode cX5_whoStandsAt 26 = .ok (.iload_n 2, 1) := by decide +kernel
theorem dX5_whoStandsAt_27 : decode cX5_whoStandsAt 27 = .ok (.iadd, 1) := by decide +kernel
theorem dX5_whoStandsAt_28 : decode cX5_whoStandsAt 28 = .ok (.iaload, 1) := by decide +kernel
theorem dX5_whoStandsAt_29 : decode cX5_whoStandsAt 29 = .ok (.istore_n 3, 1) := by decide +kernel
theorem dX5_whoStandsAt_30 : decode cX5_whoStandsAt 30 = .ok (.iload_n 3, 1) := by decide +kernel
theorem dX5_whoStandsAt_31 : decode cX5_whoStandsAt 31 = .ok (.ifCond .lt 9, 3) := by decide +kernel
theorem dX5_whoStandsAt_34 : decode cX5_whoStandsAt 34 = .ok (.iload_n 3, 1) := by decide +kernel
theorem dX5_whoStandsAt_35 : decode cX5_whoStandsAt 35 = .ok (.bipush 9, 2) := by decide +kernel
theorem dX5_whoStandsAt_37 : decode cX5_whoStandsAt 37 = .ok (.if_icmp .lt 5, 3) := by decide +kernel
theorem dX5_whoStandsAt_40 : decode cX5_whoStandsAt 40 = .ok (.iconst (-1), 1) := by decide +kernel
theorem dX5_whoStandsAt_41 : decode cX5_whoStandsAt 41 = .ok (.ireturn, 1) := by decide +kernel
theorem dX5_whoStandsAt_42 : decode cX5_whoStandsAt 42 = .ok (.aload_n 0, 1) := by decide +kernel
theorem dX5_whoStandsAt_43 : decode cX5_whoStandsAt 43 = .ok (.getfield 9, 3) := by decide +kernel
theorem dX5_whoStandsAt_46 : decode cX5_whoStandsAt 46 = .ok (.iload_n 3, 1) := by decide +kernel
theorem dX5_whoStandsAt_47 : decode cX5_whoStandsAt 47 = .ok (.iaload, 1) := by decide +kernel
theorem dX5_whoStandsAt_48 : decode cX5_whoStandsAt 48 = .ok (.istore 4, 2) := by decide +kernel
theorem dX5_whoStandsAt_50 : decode cX5_whoStandsAt 50 = .ok (.iload 4, 2) := by decide +kernel
theorem dX5_whoStandsAt_52 : decode cX5_whoStandsAt 52 = .ok (.ifCond .lt 28, 3) := by decide +kernel
theorem dX5_whoStandsAt_55 : decode cX5_whoStandsAt 55 = .ok (.iload 4, 2) := by decide +kernel
theorem dX5_whoStandsAt_57 : decode cX5_whoStandsAt 57 = .ok (.bipush 9, 2) := by decide +kernel
theorem dX5_whoStandsAt_59 : decode cX5_whoStandsAt 59 = .ok (.if_icmp .ge 21, 3) := by decide +kernel
theorem dX5_whoStandsAt_62 : decode cX5_whoStandsAt 62 = .ok (.aload_n 0, 1) := by decide +kernel
theorem dX5_whoStandsAt_63 : decode cX5_whoStandsAt 63 = .ok (.getfield 43, 3) := by decide +kernel
theorem dX5_whoStandsAt_66 : decode cX5_whoStandsAt 66 = .ok (.iload 4, 2) := by decide +kernel
theorem dX5_whoStandsAt_68 : decode cX5_whoStandsAt 68 = .ok (.ishr, 1) := by decide +kernel
theorem dX5_whoStandsAt_69 : decode cX5_whoStandsAt 69 = .ok (.iconst 1, 1) := by decide +kernel
theorem dX5_whoStandsAt_70 : decode cX5_whoStandsAt 70 = .ok (.iand, 1) := by decide +kernel
theorem dX5_whoStandsAt_71 : decode cX5_whoStandsAt 71 = .ok (.iconst 1, 1) := by decide +kernel
theorem dX5_whoStandsAt_72 : decode cX5_whoStandsAt 72 = .ok (.if_icmp .ne 8, 3) := by decide +kernel
theorem dX5_whoStandsAt_75 : decode cX5_whoStandsAt 75 = .ok (.iload 4, 2) := by decide +kernel
theorem dX5_whoStandsAt_77 : decode cX5_whoStandsAt 77 = .ok (.goto 4, 3) := by decide +kernel
theorem dX5_whoStandsAt_80 : decode cX5_whoStandsAt 80 = .ok (.iconst (-1), 1) := by decide +kernel
theorem dX5_whoStandsAt_81 : decode cX5_whoStandsAt 81 = .ok (.ireturn, 1) := by decide +kernel
theorem dX6_init_0 : decode cX6_init 0 = .ok (.aload_n 0, 1) := by decide +kernel
theorem dX6_init_1 : decode cX6_init 1 = .ok (.invokespecial 3, 3) := by decide +kernel
theorem dX6_init_4 : decode cX6_init 4 = .ok (.aload_n 0, 1) := by decide +kernel
theorem dX6_init_5 : decode cX6_init 5 = .ok (.sipush 600, 3) := by decide +kernel
theorem dX6_init_8 : decode cX6_init 8 = .ok (.newarray .int, 2) := by decide +kernel
theorem dX6_init_10 : decode cX6_init 10 = .ok (.putfield 9, 3) := by decide +kernel
theorem dX6_init_13 : decode cX6_init 13 = .ok (.return_, 1) := by decide +kernel
theorem dX6_fill_0 : decode cX6_fill 0 = .ok (.aload_n 0, 1) := by decide +kernel
theorem dX6_fill_1 : decode cX6_fill 1 = .ok (.getfield 15, 3) := by decide +kernel
theorem dX6_fill_4 : decode cX6_fill 4 = .ok (.ifCond .eq 4, 3) := by decide +kernel
theorem dX6_fill_7 : decode cX6_fill 7 = .ok (.return_, 1) := by decide +kernel
theorem dX6_fill_8 : decode cX6_fill 8 = .ok (.aload_n 1, 1) := by decide +kernel
theorem dX6_fill_9 : decode cX6_fill 9 = .ok (.aload_n 2, 1) := by decide +kernel
theorem dX6_fill_10 : decode cX6_fill 10 = .ok (.invokevirtual 19, 3) := by decide +kernel
theorem dX6_fill_13 : decode cX6_fill 13 = .ok (.iconst 0, 1) := by decide +kernel
theorem dX6_fill_14 : decode cX6_fill 14 = .ok (.istore_n 3, 1) := by decide +kernel
theorem dX6_fill_15 : decode cX6_fill 15 = .ok (.iload_n 3, 1) := by decide +kernel
theorem dX6_fill_16 : decode cX6_fill 16 = .ok (.bipush 15, 2) := by decide +kernel
theorem dX6_fill_18 : decode cX6_fill 18 = .ok (.if_icmp .ge 88, 3) := by decide +kernel
theorem dX6_fill_21 : decode cX6_fill 21 = .ok (.iload_n 3, 1) := by decide +kernel
theorem dX6_fill_22 : decode cX6_fill 22 = .ok (.iconst 3, 1) := by decide +kernel
theorem dX6_fill_23 : decode cX6_fill 23 = .ok (.idiv, 1) := by decide +kernel
theorem dX6_fill_24 : decode cX6_fill 24 = .ok (.istore 4, 2) := by decide +kernel
theorem dX6_fill_26 : decode cX6_fill 26 = .ok (.iload_n 3, 1) := by decide +kernel
theorem dX6_fill_27 : decode cX6_fill 27 = .ok (.iconst 3, 1) := by decide +kernel
theorem dX6_fill_28 : decode cX6_fill 28 = .ok (.irem, 1) := by decide +kernel
theorem dX6_fill_29 : decode cX6_fill 29 = .ok (.istore 5, 2) := by decide +kernel
theorem dX6_fill_31 : decode cX6_fill 31 = .ok (.aload_n 1, 1) := by decide +kernel
theorem dX6_fill_32 : decode cX6_fill 32 = .ok (.iload 4, 2) := by decide +kernel
theorem dX6_fill_34 : decode cX6_fill 34 = .ok (.iload 5, 2) := by decide +kernel
theorem dX6_fill_36 : decode cX6_fill 36 = .ok (.aload_n 2, 1) := by decide +kernel
theorem dX6_fill_37 : decode cX6_fill 37 = .ok (.getfield 25, 3) := by decide +kernel
theorem dX6_fill_40 : decode cX6_fill 40 = .ok (.invokevirtual 31, 3) := by decide +kernel
theorem dX6_fill_43 : decode cX6_fill 43 = .ok (.istore 6, 2) := by decide +kernel
theorem dX6_fill_45 : decode cX6_fill 45 = .ok (.iconst 1, 1) := by decide +kernel
theorem dX6_fill_46 : decode cX6_fill 46 = .ok (.istore 7, 2) := by decide +kernel
theorem dX6_fill_48 : decode cX6_fill 48 = .ok (.iload 7, 2) := by decide +kernel
theorem dX6_fill_50 : decode cX6_fill 50 = .ok (.bipush 40, 2) := by decide +kernel
theorem dX6_fill_52 : decode cX6_fill 52 = .ok (.if_icmp .gt 48, 3) := by decide +kernel
theorem dX6_fill_55 : decode cX6_fill 55 = .ok (.aload_n 0, 1) := by decide +kernel
theorem dX6_fill_56 : decode cX6_fill 56 = .ok (.getfield 9, 3) := by decide +kernel
theorem dX6_fill_59 : decode cX6_fill 59 = .ok (.iload_n 3, 1) := by decide +kernel
theorem dX6_fill_60 : decode cX6_fill 60 = .ok (.bipush 40, 2) := by decide +kernel
theorem dX6_fill_62 : decode cX6_fill 62 = .ok (.imul, 1) := by decide +kernel
theorem dX6_fill_63 : decode cX6_fill 63 = .ok (.iload 7, 2) := by decide +kernel
theorem dX6_fill_65 : decode cX6_fill 65 = .ok (.iadd, 1) := by decide +kernel
theorem dX6_fill_66 : decode cX6_fill 66 = .ok (.iconst 1, 1) := by decide +kernel
theorem dX6_fill_67 : decode cX6_fill 67 = .ok (.isub, 1) := by decide +kernel
theorem dX6_fill_68 : decode cX6_fill 68 = .ok (.iload 7, 2) := by decide +kernel
theorem dX6_fill_70 : decode cX6_fill 70 = .ok (.iload 6, 2) := by decide +kernel
theorem dX6_fill_72 : decode cX6_fill 72 = .ok (.if_icmp .ge 7, 3) := by decide +kernel
theorem dX6_fill_75 : decode cX6_fill 75 = .ok (.iconst 0, 1) := by decide +kernel
theorem dX6_fill_76 : decode cX6_fill 76 = .ok (.goto 17, 3) := by decide +kernel
theorem dX6_fill_79 : decode cX6_fill 79 = .ok (.aload_n 1, 1) := by decide +kernel
theorem dX6_fill_80 : decode cX6_fill 80 = .ok (.iload 4, 2) := by decide +kernel
theorem dX6_fill_82 : decode cX6_fill 82 = .ok (.iload 5, 2) := by decide +kernel
theorem dX6_fill_84 : decode cX6_fill 84 = .ok (.iload 7, 2) := by decide +kernel
theorem dX6_fill_86 : decode cX6_fill 86 = .ok (.aload_n 2, 1) := by decide +kernel
theorem dX6_fill_87 : decode cX6_fill 87 = .ok (.getfield 25, 3) := by decide +kernel
theorem dX6_fill_90 : decode cX6_fill 90 = .ok (.invokevirtual 35, 3) := by decide +kernel
theorem dX6_fill_93 : decode cX6_fill 93 = .ok (.iastore, 1) := by decide +kernel
theorem dX6_fill_94 : decode cX6_fill 94 = .ok (.iinc 7 1, 3) := by decide +kernel
theorem dX6_fill_97 : decode cX6_fill 97 = .ok (.goto (-49), 3) := by decide +kernel
theorem dX6_fill_100 : decode cX6_fill 100 = .ok (.iinc 3 1, 3) := by decide +kernel
theorem dX6_fill_103 : decode cX6_fill 103 = .ok (.goto (-88), 3) := by decide +kernel
theorem dX6_fill_106 : decode cX6_fill 106 = .ok (.aload_n 0, 1) := by decide +kernel
theorem dX6_fill_107 : decode cX6_fill 107 = .ok (.iconst 1, 1) := by decide +kernel
theorem dX6_fill_108 : decode cX6_fill 108 = .ok (.putfield 15, 3) := by decide +kernel
theorem dX6_fill_111 : decode cX6_fill 111 = .ok (.return_, 1) := by decide +kernel
theorem dX6_howMany_0 : decode cX6_howMany 0 = .ok (.iconst 0, 1) := by decide +kernel
theorem dX6_howMany_1 : decode cX6_howMany 1 = .ok (.istore_n 2, 1) := by decide +kernel
theorem dX6_howMany_2 : decode cX6_howMany 2 = .ok (.iconst 0, 1) := by decide +kernel
theorem dX6_howMany_3 : decode cX6_howMany 3 = .ok (.istore_n 3, 1) := by decide +kernel
theorem dX6_howMany_4 : decode cX6_howMany 4 = .ok (.iload_n 3, 1) := by decide +kernel
theorem dX6_howMany_5 : decode cX6_howMany 5 = .ok (.sipush 600, 3) := by decide +kernel
theorem dX6_howMany_8 : decode cX6_howMany 8 = .ok (.if_icmp .ge 22, 3) := by decide +kernel
theorem dX6_howMany_11 : decode cX6_howMany 11 = .ok (.aload_n 0, 1) := by decide +kernel
theorem dX6_howMany_12 : decode cX6_howMany 12 = .ok (.getfield 9, 3) := by decide +kernel
theorem dX6_howMany_15 : decode cX6_howMany 15 = .ok (.iload_n 3, 1) := by decide +kernel
theorem dX6_howMany_16 : decode cX6_howMany 16 = .ok (.iaload, 1) := by decide +kernel
theorem dX6_howMany_17 : decode cX6_howMany 17 = .ok (.iload_n 1, 1) := by decide +kernel
theorem dX6_howMany_18 : decode cX6_howMany 18 = .ok (.if_icmp .ne 6, 3) := by decide +kernel
theorem dX6_howMany_21 : decode cX6_howMany 21 = .ok (.iinc 2 1, 3) := by decide +kernel
theorem dX6_howMany_24 : decode cX6_howMany 24 = .ok (.iinc 3 1, 3) := by decide +kernel
theorem dX6_howMany_27 : decode cX6_howMany 27 = .ok (.goto (-23), 3) := by decide +kernel
theorem dX6_howMany_30 : decode cX6_howMany 30 = .ok (.iload_n 2, 1) := by decide +kernel
theorem dX6_howMany_31 : decode cX6_howMany 31 = .ok (.ireturn, 1) := by decide +kernel
theorem dX6_firstOf_0 : decode cX6_firstOf 0 = .ok (.iconst 0, 1) := by decide +kernel
theorem dX6_firstOf_1 : decode cX6_firstOf 1 = .ok (.istore_n 2, 1) := by decide +kernel
theorem dX6_firstOf_2 : decode cX6_firstOf 2 = .ok (.iload_n 2, 1) := by decide +kernel
theorem dX6_firstOf_3 : decode cX6_firstOf 3 = .ok (.sipush 600, 3) := by decide +kernel
theorem dX6_firstOf_6 : decode cX6_firstOf 6 = .ok (.if_icmp .ge 21, 3) := by decide +kernel
theorem dX6_firstOf_9 : decode cX6_firstOf 9 = .ok (.aload_n 0, 1) := by decide +kernel
theorem dX6_firstOf_10 : decode cX6_firstOf 10 = .ok (.getfield 9, 3) := by decide +kernel
theorem dX6_firstOf_13 : decode cX6_firstOf 13 = .ok (.iload_n 2, 1) := by decide +kernel
theorem dX6_firstOf_14 : decode cX6_firstOf 14 = .ok (.iaload, 1) := by decide +kernel
theorem dX6_firstOf_15 : decode cX6_firstOf 15 = .ok (.iload_n 1, 1) := by decide +kernel
theorem dX6_firstOf_16 : decode cX6_firstOf 16 = .ok (.if_icmp .ne 5, 3) := by decide +kernel
theorem dX6_firstOf_19 : decode cX6_firstOf 19 = .ok (.iload_n 2, 1) := by decide +kernel
theorem dX6_firstOf_20 : decode cX6_firstOf 20 = .ok (.ireturn, 1) := by decide +kernel
theorem dX6_firstOf_21 : decode cX6_firstOf 21 = .ok (.iinc 2 1, 3) := by decide +kernel
theorem dX6_firstOf_24 : decode cX6_firstOf 24 = .ok (.goto (-22), 3) := by decide +kernel
theorem dX6_firstOf_27 : decode cX6_firstOf 27 = .ok (.iconst (-1), 1) := by decide +kernel
theorem dX6_firstOf_28 : decode cX6_firstOf 28 = .ok (.ireturn, 1) := by decide +kernel
theorem dX6_linesOf_0 : decode cX6_linesOf 0 = .ok (.iconst 0, 1) := by decide +kernel
theorem dX6_linesOf_1 : decode cX6_linesOf 1 = .ok (.istore_n 2, 1) := by decide +kernel
theorem dX6_linesOf_2 : decode cX6_linesOf 2 = .ok (.iconst 0, 1) := by decide +kernel
theorem dX6_linesOf_3 : decode cX6_linesOf 3 = .ok (.istore_n 3, 1) := by decide +kernel
theorem dX6_linesOf_4 : decode cX6_linesOf 4 = .ok (.iload_n 3, 1) := by decide +kernel
theorem dX6_linesOf_5 : decode cX6_linesOf 5 = .ok (.sipush 600, 3) := by decide +kernel
theorem dX6_linesOf_8 : decode cX6_linesOf 8 = .ok (.if_icmp .ge 28, 3) := by decide +kernel
theorem dX6_linesOf_11 : decode cX6_linesOf 11 = .ok (.aload_n 0, 1) := by decide +kernel
theorem dX6_linesOf_12 : decode cX6_linesOf 12 = .ok (.getfield 9, 3) := by decide +kernel
theorem dX6_linesOf_15 : decode cX6_linesOf 15 = .ok (.iload_n 3, 1) := by decide +kernel
theorem dX6_linesOf_16 : decode cX6_linesOf 16 = .ok (.iaload, 1) := by decide +kernel
theorem dX6_linesOf_17 : decode cX6_linesOf 17 = .ok (.iload_n 1, 1) := by decide +kernel
theorem dX6_linesOf_18 : decode cX6_linesOf 18 = .ok (.if_icmp .ne 12, 3) := by decide +kernel
theorem dX6_linesOf_21 : decode cX6_linesOf 21 = .ok (.iload_n 2, 1) := by decide +kernel
theorem dX6_linesOf_22 : decode cX6_linesOf 22 = .ok (.iconst 1, 1) := by decide +kernel
theorem dX6_linesOf_23 : decode cX6_linesOf 23 = .ok (.iload_n 3, 1) := by decide +kernel
theorem dX6_linesOf_24 : decode cX6_linesOf 24 = .ok (.bipush 120, 2) := by decide +kernel
theorem dX6_linesOf_26 : decode cX6_linesOf 26 = .ok (.idiv, 1) := by decide +kernel
theorem dX6_linesOf_27 : decode cX6_linesOf 27 = .ok (.ishl, 1) := by decide +kernel
theorem dX6_linesOf_28 : decode cX6_linesOf 28 = .ok (.ior, 1) := by decide +kernel
theorem dX6_linesOf_29 : decode cX6_linesOf 29 = .ok (.istore_n 2, 1) := by decide +kernel
theorem dX6_linesOf_30 : decode cX6_linesOf 30 = .ok (.iinc 3 1, 3) := by decide +kernel
theorem dX6_linesOf_33 : decode cX6_linesOf 33 = .ok (.goto (-29), 3) := by decide +kernel
theorem dX6_linesOf_36 : decode cX6_linesOf 36 = .ok (.iload_n 2, 1) := by decide +kernel
theorem dX6_linesOf_37 : decode cX6_linesOf 37 = .ok (.ireturn, 1) := by decide +kernel
theorem dX6_gentlest_0 : decode cX6_gentlest 0 = .ok (.iconst 1, 1) := by decide +kernel
theorem dX6_gentlest_1 : decode cX6_gentlest 1 = .ok (.istore_n 3, 1) := by decide +kernel
theorem dX6_gentlest_2 : decode cX6_gentlest 2 = .ok (.iload_n 3, 1) := by decide +kernel
theorem dX6_gentlest_3 : decode cX6_gentlest 3 = .ok (.bipush 40, 2) := by decide +kernel
theorem dX6_gentlest_5 : decode cX6_gentlest 5 = .ok (.if_icmp .gt 64, 3) := by decide +kernel
theorem dX6_gentlest_8 : decode cX6_gentlest 8 = .ok (.iconst 0, 1) := by decide +kernel
theorem dX6_gentlest_9 : decode cX6_gentlest 9 = .ok (.istore 4, 2) := by decide +kernel
theorem dX6_gentlest_11 : decode cX6_gentlest 11 = .ok (.iload 4, 2) := by decide +kernel
theorem dX6_gentlest_13 : decode cX6_gentlest 13 = .ok (.bipush 15, 2) := by decide +kernel
theorem dX6_gentlest_15 : decode cX6_gentlest 15 = .ok (.if_icmp .ge 48, 3) := by decide +kernel
theorem dX6_gentlest_18 : decode cX6_gentlest 18 = .ok (.iload 4, 2) := by decide +kernel
theorem dX6_gentlest_20 : decode cX6_gentlest 20 = .ok (.bipush 40, 2) := by decide +kernel
theorem dX6_gentlest_22 : decode cX6_gentlest 22 = .ok (.imul, 1) := by decide +kernel
theorem dX6_gentlest_23 : decode cX6_gentlest 23 = .ok (.iload_n 3, 1) := by decide +kernel
theorem dX6_gentlest_24 : decode cX6_gentlest 24 = .ok (.iadd, 1) := by decide +kernel
theorem dX6_gentlest_25 : decode cX6_gentlest 25 = .ok (.iconst 1, 1) := by decide +kernel
theorem dX6_gentlest_26 : decode cX6_gentlest 26 = .ok (.isub, 1) := by decide +kernel
theorem dX6_gentlest_27 : decode cX6_gentlest 27 = .ok (.istore 5, 2) := by decide +kernel
theorem dX6_gentlest_29 : decode cX6_gentlest 29 = .ok (.aload_n 0, 1) := by decide +kernel
theorem dX6_gentlest_30 : decode cX6_gentlest 30 = .ok (.getfield 9, 3) := by decide +kernel
theorem dX6_gentlest_33 : decode cX6_gentlest 33 = .ok (.iload 5, 2) := by decide +kernel
theorem dX6_gentlest_35 : decode cX6_gentlest 35 = .ok (.iaload, 1) := by decide +kernel
theorem dX6_gentlest_36 : decode cX6_gentlest 36 = .ok (.iload_n 1, 1) := by decide +kernel
theorem dX6_gentlest_37 : decode cX6_gentlest 37 = .ok (.iand, 1) := by decide +kernel
theorem dX6_gentlest_38 : decode cX6_gentlest 38 = .ok (.iload_n 1, 1) := by decide +kernel
theorem dX6_gentlest_39 : decode cX6_gentlest 39 = .ok (.if_icmp .ne 18, 3) := by decide +kernel
theorem dX6_gentlest_42 : decode cX6_gentlest 42 = .ok (.aload_n 0, 1) := by decide +kernel
theorem dX6_gentlest_43 : decode cX6_gentlest 43 = .ok (.getfield 9, 3) := by decide +kernel
theorem dX6_gentlest_46 : decode cX6_gentlest 46 = .ok (.iload 5, 2) := by decide +kernel
theorem dX6_gentlest_48 : decode cX6_gentlest 48 = .ok (.iaload, 1) := by decide +kernel
theorem dX6_gentlest_49 : decode cX6_gentlest 49 = .ok (.iload_n 2, 1) := by decide +kernel
theorem dX6_gentlest_50 : decode cX6_gentlest 50 = .ok (.iand, 1) := by decide +kernel
theorem dX6_gentlest_51 : decode cX6_gentlest 51 = .ok (.ifCond .ne 6, 3) := by decide +kernel
theorem dX6_gentlest_54 : decode cX6_gentlest 54 = .ok (.iload 5, 2) := by decide +kernel
theorem dX6_gentlest_56 : decode cX6_gentlest 56 = .ok (.ireturn, 1) := by decide +kernel
theorem dX6_gentlest_57 : decode cX6_gentlest 57 = .ok (.iinc 4 1, 3) := by decide +kernel
theorem dX6_gentlest_60 : decode cX6_gentlest 60 = .ok (.goto (-49), 3) := by decide +kernel
theorem dX6_gentlest_63 : decode cX6_gentlest 63 = .ok (.iinc 3 1, 3) := by decide +kernel
theorem dX6_gentlest_66 : decode cX6_gentlest 66 = .ok (.goto (-64), 3) := by decide +kernel
theorem dX6_gentlest_69 : decode cX6_gentlest 69 = .ok (.iconst (-1), 1) := by decide +kernel
theorem dX6_gentlest_70 : decode cX6_gentlest 70 = .ok (.ireturn, 1) := by decide +kernel
theorem dX6_worst_0 : decode cX6_worst 0 = .ok (.iconst 0, 1) := by decide +kernel
theorem dX6_worst_1 : decode cX6_worst 1 = .ok (.istore_n 1, 1) := by decide +kernel
theorem dX6_worst_2 : decode cX6_worst 2 = .ok (.iconst 1, 1) := by decide +kernel
theorem dX6_worst_3 : decode cX6_worst 3 = .ok (.istore_n 2, 1) := by decide +kernel
theorem dX6_worst_4 : decode cX6_worst 4 = .ok (.iload_n 2, 1) := by decide +kernel
theorem dX6_worst_5 : decode cX6_worst 5 = .ok (.sipush 600, 3) := by decide +kernel
theorem dX6_worst_8 : decode cX6_worst 8 = .ok (.if_icmp .ge 32, 3) := by decide +kernel
theorem dX6_worst_11 : decode cX6_worst 11 = .ok (.aload_n 0, 1) := by decide +kernel
theorem dX6_worst_12 : decode cX6_worst 12 = .ok (.getfield 9, 3) := by decide +kernel
theorem dX6_worst_15 : decode cX6_worst 15 = .ok (.iload_n 2, 1) := by decide +kernel
theorem dX6_worst_16 : decode cX6_worst 16 = .ok (.iaload, 1) := by decide +kernel
theorem dX6_worst_17 : decode cX6_worst 17 = .ok (.invokestatic 39, 3) := by decide +kernel
theorem dX6_worst_20 : decode cX6_worst 20 = .ok (.aload_n 0, 1) := by decide +kernel
theorem dX6_worst_21 : decode cX6_worst 21 = .ok (.getfield 9, 3) := by decide +kernel
theorem dX6_worst_24 : decode cX6_worst 24 = .ok (.iload_n 1, 1) := by decide +kernel
theorem dX6_worst_25 : decode cX6_worst 25 = .ok (.iaload, 1) := by decide +kernel
theorem dX6_worst_26 : decode cX6_worst 26 = .ok (.invokestatic 39, 3) := by decide +kernel
theorem dX6_worst_29 : decode cX6_worst 29 = .ok (.if_icmp .le 5, 3) := by decide +kernel
theorem dX6_worst_32 : decode cX6_worst 32 = .ok (.iload_n 2, 1) := by decide +kernel
theorem dX6_worst_33 : decode cX6_worst 33 = .ok (.istore_n 1, 1) := by decide +kernel
theorem dX6_worst_34 : decode cX6_worst 34 = .ok (.iinc 2 1, 3) := by decide +kernel
theorem dX6_worst_37 : decode cX6_worst 37 = .ok (.goto (-33), 3) := by decide +kernel
theorem dX6_worst_40 : decode cX6_worst 40 = .ok (.iload_n 1, 1) := by decide +kernel
theorem dX6_worst_41 : decode cX6_worst 41 = .ok (.ireturn, 1) := by decide +kernel
theorem dX6_fallenBy_0 : decode cX6_fallenBy 0 = .ok (.iload_n 1, 1) := by decide +kernel
theorem dX6_fallenBy_1 : decode cX6_fallenBy 1 = .ok (.ifCond .lt 10, 3) := by decide +kernel
theorem dX6_fallenBy_4 : decode cX6_fallenBy 4 = .ok (.iload_n 1, 1) := by decide +kernel
theorem dX6_fallenBy_5 : decode cX6_fallenBy 5 = .ok (.sipush 600, 3) := by decide +kernel
theorem dX6_fallenBy_8 : decode cX6_fallenBy 8 = .ok (.if_icmp .lt 7, 3) := by decide +kernel
theorem dX6_fallenBy_11 : decode cX6_fallenBy 11 = .ok (.iconst (-1), 1) := by decide +kernel
theorem dX6_fallenBy_12 : decode cX6_fallenBy 12 = .ok (.goto 12, 3) := by decide +kernel
theorem dX6_fallenBy_15 : decode cX6_fallenBy 15 = .ok (.aload_n 0, 1) := by decide +kernel
theorem dX6_fallenBy_16 : decode cX6_fallenBy 16 = .ok (.getfield 9, 3) := by decide +kernel
theorem dX6_fallenBy_19 : decode cX6_fallenBy 19 = .ok (.iload_n 1, 1) := by decide +kernel
theorem dX6_fallenBy_20 : decode cX6_fallenBy 20 = .ok (.iaload, 1) := by decide +kernel
theorem dX6_fallenBy_21 : decode cX6_fallenBy 21 = .ok (.invokestatic 39, 3) := by decide +kernel
theorem dX6_fallenBy_24 : decode cX6_fallenBy 24 = .ok (.ireturn, 1) := by decide +kernel
theorem dX6_safest_0 : decode cX6_safest 0 = .ok (.iconst (-1), 1) := by decide +kernel
theorem dX6_safest_1 : decode cX6_safest 1 = .ok (.istore_n 2, 1) := by decide +kernel
theorem dX6_safest_2 : decode cX6_safest 2 = .ok (.sipush 601, 3) := by decide +kernel
theorem dX6_safest_5 : decode cX6_safest 5 = .ok (.istore_n 3, 1) := by decide +kernel
theorem dX6_safest_6 : decode cX6_safest 6 = .ok (.iconst 0, 1) := by decide +kernel
theorem dX6_safest_7 : decode cX6_safest 7 = .ok (.istore 4, 2) := by decide +kernel
theorem dX6_safest_9 : decode cX6_safest 9 = .ok (.iload 4, 2) := by decide +kernel
theorem dX6_safest_11 : decode cX6_safest 11 = .ok (.bipush 9, 2) := by decide +kernel
theorem dX6_safest_13 : decode cX6_safest 13 = .ok (.if_icmp .ge 38, 3) := by decide +kernel
theorem dX6_safest_16 : decode cX6_safest 16 = .ok (.aload_n 1, 1) := by decide +kernel
theorem dX6_safest_17 : decode cX6_safest 17 = .ok (.iload 4, 2) := by decide +kernel
theorem dX6_safest_19 : decode cX6_safest 19 = .ok (.invokevirtual 45, 3) := by decide +kernel
theorem dX6_safest_22 : decode cX6_safest 22 = .ok (.ifCond .eq 23, 3) := by decide +kernel
theorem dX6_safest_25 : decode cX6_safest 25 = .ok (.aload_n 0, 1) := by decide +kernel
theorem dX6_safest_26 : decode cX6_safest 26 = .ok (.iload 4, 2) := by decide +kernel
theorem dX6_safest_28 : decode cX6_safest 28 = .ok (.invokevirtual 49, 3) := by decide +kernel
theorem dX6_safest_31 : decode cX6_safest 31 = .ok (.istore 5, 2) := by decide +kernel
theorem dX6_safest_33 : decode cX6_safest 33 = .ok (.iload 5, 2) := by decide +kernel
theorem dX6_safest_35 : decode cX6_safest 35 = .ok (.iload_n 3, 1) := by decide +kernel
theorem dX6_safest_36 : decode cX6_safest 36 = .ok (.if_icmp .ge 9, 3) := by decide +kernel
theorem dX6_safest_39 : decode cX6_safest 39 = .ok (.iload 5, 2) := by decide +kernel
theorem dX6_safest_41 : decode cX6_safest 41 = .ok (.istore_n 3, 1) := by decide +kernel
theorem dX6_safest_42 : decode cX6_safest 42 = .ok (.iload 4, 2) := by decide +kernel
theorem dX6_safest_44 : decode cX6_safest 44 = .ok (.istore_n 2, 1) := by decide +kernel
theorem dX6_safest_45 : decode cX6_safest 45 = .ok (.iinc 4 1, 3) := by decide +kernel
theorem dX6_safest_48 : decode cX6_safest 48 = .ok (.goto (-39), 3) := by decide +kernel
theorem dX6_safest_51 : decode cX6_safest 51 = .ok (.iload_n 2, 1) := by decide +kernel
theorem dX6_safest_52 : decode cX6_safest 52 = .ok (.ireturn, 1) := by decide +kernel
theorem dX6_fallsOf_0 : decode cX6_fallsOf 0 = .ok (.iload_n 1, 1) := by decide +kernel
theorem dX6_fallsOf_1 : decode cX6_fallsOf 1 = .ok (.iconst (-1), 1) := by decide +kernel
theorem dX6_fallsOf_2 : decode cX6_fallsOf 2 = .ok (.if_icmp .ne 7, 3) := by decide +kernel
theorem dX6_fallsOf_5 : decode cX6_fallsOf 5 = .ok (.iconst (-1), 1) := by decide +kernel
theorem dX6_fallsOf_6 : decode cX6_fallsOf 6 = .ok (.goto 12, 3) := by decide +kernel
theorem dX6_fallsOf_9 : decode cX6_fallsOf 9 = .ok (.aload_n 0, 1) := by decide +kernel
theorem dX6_fallsOf_10 : decode cX6_fallsOf 10 = .ok (.iload_n 1, 1) := by decide +kernel
theorem dX6_fallsOf_11 : decode cX6_fallsOf 11 = .ok (.iconst 0, 1) := by decide +kernel
theorem dX6_fallsOf_12 : decode cX6_fallsOf 12 = .ok (.sipush 600, 3) := by decide +kernel
theorem dX6_fallsOf_15 : decode cX6_fallsOf 15 = .ok (.invokevirtual 52, 3) := by decide +kernel
theorem dX6_fallsOf_18 : decode cX6_fallsOf 18 = .ok (.ireturn, 1) := by decide +kernel
theorem dX6_fallsAmong_0 : decode cX6_fallsAmong 0 = .ok (.iconst 0, 1) := by decide +kernel
theorem dX6_fallsAmong_1 : decode cX6_fallsAmong 1 = .ok (.istore 4, 2) := by decide +kernel
theorem dX6_fallsAmong_3 : decode cX6_fallsAmong 3 = .ok (.iload_n 2, 1) := by decide +kernel
theorem dX6_fallsAmong_4 : decode cX6_fallsAmong 4 = .ok (.iconst 0, 1) := by decide +kernel
theorem dX6_fallsAmong_5 : decode cX6_fallsAmong 5 = .ok (.invokestatic 55, 3) := by decide +kernel
theorem dX6_fallsAmong_8 : decode cX6_fallsAmong 8 = .ok (.istore 5, 2) := by decide +kernel
theorem dX6_fallsAmong_10 : decode cX6_fallsAmong 10 = .ok (.iload 5, 2) := by decide +kernel
theorem dX6_fallsAmong_12 : decode cX6_fallsAmong 12 = .ok (.iload_n 3, 1) := by decide +kernel
theorem dX6_fallsAmong_13 : decode cX6_fallsAmong 13 = .ok (.if_icmp .ge 33, 3) := by decide +kernel
theorem dX6_fallsAmong_16 : decode cX6_fallsAmong 16 = .ok (.iload 5, 2) := by decide +kernel
theorem dX6_fallsAmong_18 : decode cX6_fallsAmong 18 = .ok (.sipush 600, 3) := by decide +kernel
theorem dX6_fallsAmong_21 : decode cX6_fallsAmong 21 = .ok (.if_icmp .ge 25, 3) := by decide +kernel
theorem dX6_fallsAmong_24 : decode cX6_fallsAmong 24 = .ok (.iload 4, 2) := by decide +kernel
theorem dX6_fallsAmong_26 : decode cX6_fallsAmong 26 = .ok (.aload_n 0, 1) := by decide +kernel
theorem dX6_fallsAmong_27 : decode cX6_fallsAmong 27 = .ok (.getfield 9, 3) := by decide +kernel
theorem dX6_fallsAmong_30 : decode cX6_fallsAmong 30 = .ok (.iload 5, 2) := by decide +kernel
theorem dX6_fallsAmong_32 : decode cX6_fallsAmong 32 = .ok (.iaload, 1) := by decide +kernel
theorem dX6_fallsAmong_33 : decode cX6_fallsAmong 33 = .ok (.iload_n 1, 1) := by decide +kernel
theorem dX6_fallsAmong_34 : decode cX6_fallsAmong 34 = .ok (.ishr, 1) := by decide +kernel
theorem dX6_fallsAmong_35 : decode cX6_fallsAmong 35 = .ok (.iconst 1, 1) := by decide +kernel
theorem dX6_fallsAmong_36 : decode cX6_fallsAmong 36 = .ok (.iand, 1) := by decide +kernel
theorem dX6_fallsAmong_37 : decode cX6_fallsAmong 37 = .ok (.iadd, 1) := by decide +kernel
theorem dX6_fallsAmong_38 : decode cX6_fallsAmong 38 = .ok (.istore 4, 2) := by decide +kernel
theorem dX6_fallsAmong_40 : decode cX6_fallsAmong 40 = .ok (.iinc 5 1, 3) := by decide +kernel
theorem dX6_fallsAmong_43 : decode cX6_fallsAmong 43 = .ok (.goto (-33), 3) := by decide +kernel
theorem dX6_fallsAmong_46 : decode cX6_fallsAmong 46 = .ok (.iload 4, 2) := by decide +kernel
theorem dX6_fallsAmong_48 : decode cX6_fallsAmong 48 = .ok (.ireturn, 1) := by decide +kernel
theorem dX6_bestToAsk_0 : decode cX6_bestToAsk 0 = .ok (.iconst (-1), 1) := by decide +kernel
theorem dX6_bestToAsk_1 : decode cX6_bestToAsk 1 = .ok (.istore_n 3, 1) := by decide +kernel
theorem dX6_bestToAsk_2 : decode cX6_bestToAsk 2 = .ok (.bipush 120, 2) := by decide +kernel
theorem dX6_bestToAsk_4 : decode cX6_bestToAsk 4 = .ok (.istore 4, 2) := by decide +kernel
theorem dX6_bestToAsk_6 : decode cX6_bestToAsk 6 = .ok (.iconst 0, 1) := by decide +kernel
theorem dX6_bestToAsk_7 : decode cX6_bestToAsk 7 = .ok (.istore 5, 2) := by decide +kernel
theorem dX6_bestToAsk_9 : decode cX6_bestToAsk 9 = .ok (.iload 5, 2) := by decide +kernel
theorem dX6_bestToAsk_11 : decode cX6_bestToAsk 11 = .ok (.iload_n 2, 1) := by decide +kernel
theorem dX6_bestToAsk_12 : decode cX6_bestToAsk 12 = .ok (.if_icmp .ge 53, 3) := by decide +kernel
theorem dX6_bestToAsk_15 : decode cX6_bestToAsk 15 = .ok (.aload_n 0, 1) := by decide +kernel
theorem dX6_bestToAsk_16 : decode cX6_bestToAsk 16 = .ok (.iload 5, 2) := by decide +kernel
theorem dX6_bestToAsk_18 : decode cX6_bestToAsk 18 = .ok (.iload_n 1, 1) := by decide +kernel
theorem dX6_bestToAsk_19 : decode cX6_bestToAsk 19 = .ok (.bipush 120, 2) := by decide +kernel
theorem dX6_bestToAsk_21 : decode cX6_bestToAsk 21 = .ok (.imul, 1) := by decide +kernel
theorem dX6_bestToAsk_22 : decode cX6_bestToAsk 22 = .ok (.iload_n 1, 1) := by decide +kernel
theorem dX6_bestToAsk_23 : decode cX6_bestToAsk 23 = .ok (.iconst 1, 1) := by decide +kernel
theorem dX6_bestToAsk_24 : decode cX6_bestToAsk 24 = .ok (.iadd, 1) := by decide +kernel
theorem dX6_bestToAsk_25 : decode cX6_bestToAsk 25 = .ok (.bipush 120, 2) := by decide +kernel
theorem dX6_bestToAsk_27 : decode cX6_bestToAsk 27 = .ok (.imul, 1) := by decide +kernel
theorem dX6_bestToAsk_28 : decode cX6_bestToAsk 28 = .ok (.invokevirtual 52, 3) := by decide +kernel
theorem dX6_bestToAsk_31 : decode cX6_bestToAsk 31 = .ok (.istore 6, 2) := by decide +kernel
theorem dX6_bestToAsk_33 : decode cX6_bestToAsk 33 = .ok (.iload 6, 2) := by decide +kernel
theorem dX6_bestToAsk_35 : decode cX6_bestToAsk 35 = .ok (.bipush 120, 2) := by decide +kernel
theorem dX6_bestToAsk_37 : decode cX6_bestToAsk 37 = .ok (.iload 6, 2) := by decide +kernel
theorem dX6_bestToAsk_39 : decode cX6_bestToAsk 39 = .ok (.isub, 1) := by decide +kernel
theorem dX6_bestToAsk_40 : decode cX6_bestToAsk 40 = .ok (.invokestatic 55, 3) := by decide +kernel
theorem dX6_bestToAsk_43 : decode cX6_bestToAsk 43 = .ok (.istore 7, 2) := by decide +kernel
theorem dX6_bestToAsk_45 : decode cX6_bestToAsk 45 = .ok (.iload 7, 2) := by decide +kernel
theorem dX6_bestToAsk_47 : decode cX6_bestToAsk 47 = .ok (.iload 4, 2) := by decide +kernel
theorem dX6_bestToAsk_49 : decode cX6_bestToAsk 49 = .ok (.if_icmp .ge 10, 3) := by decide +kernel
theorem dX6_bestToAsk_52 : decode cX6_bestToAsk 52 = .ok (.iload 7, 2) := by decide +kernel
theorem dX6_bestToAsk_54 : decode cX6_bestToAsk 54 = .ok (.istore 4, 2) := by decide +kernel
theorem dX6_bestToAsk_56 : decode cX6_bestToAsk 56 = .ok (.iload 5, 2) := by decide +kernel
theorem dX6_bestToAsk_58 : decode cX6_bestToAsk 58 = .ok (.istore_n 3, 1) := by decide +kernel
theorem dX6_bestToAsk_59 : decode cX6_bestToAsk 59 = .ok (.iinc 5 1, 3) := by decide +kernel
theorem dX6_bestToAsk_62 : decode cX6_bestToAsk 62 = .ok (.goto (-53), 3) := by decide +kernel
theorem dX6_bestToAsk_65 : decode cX6_bestToAsk 65 = .ok (.iload_n 3, 1) := by decide +kernel
theorem dX6_bestToAsk_66 : decode cX6_bestToAsk 66 = .ok (.ireturn, 1) := by decide +kernel
theorem dX7_init_0 : decode cX7_init 0 = .ok (.aload_n 0, 1) := by decide +kernel
theorem dX7_init_1 : decode cX7_init 1 = .ok (.invokespecial 3, 3) := by decide +kernel
theorem dX7_init_4 : decode cX7_init 4 = .ok (.aload_n 0, 1) := by decide +kernel
theorem dX7_init_5 : decode cX7_init 5 = .ok (.new 9, 3) := by decide +kernel
theorem dX7_init_8 : decode cX7_init 8 = .ok (.dup, 1) := by decide +kernel
theorem dX7_init_9 : decode cX7_init 9 = .ok (.invokespecial 11, 3) := by decide +kernel
theorem dX7_init_12 : decode cX7_init 12 = .ok (.putfield 12, 3) := by decide +kernel
theorem dX7_init_15 : decode cX7_init 15 = .ok (.aload_n 0, 1) := by decide +kernel
theorem dX7_init_16 : decode cX7_init 16 = .ok (.new 16, 3) := by decide +kernel
theorem dX7_init_19 : decode cX7_init 19 = .ok (.dup, 1) := by decide +kernel
theorem dX7_init_20 : decode cX7_init 20 = .ok (.invokespecial 18, 3) := by decide +kernel
theorem dX7_init_23 : decode cX7_init 23 = .ok (.putfield 19, 3) := by decide +kernel
theorem dX7_init_26 : decode cX7_init 26 = .ok (.aload_n 0, 1) := by decide +kernel
theorem dX7_init_27 : decode cX7_init 27 = .ok (.new 16, 3) := by decide +kernel
theorem dX7_init_30 : decode cX7_init 30 = .ok (.dup, 1) := by decide +kernel
theorem dX7_init_31 : decode cX7_init 31 = .ok (.invokespecial 18, 3) := by decide +kernel
theorem dX7_init_34 : decode cX7_init 34 = .ok (.putfield 23, 3) := by decide +kernel
theorem dX7_init_37 : decode cX7_init 37 = .ok (.aload_n 0, 1) := by decide +kernel
theorem dX7_init_38 : decode cX7_init 38 = .ok (.new 26, 3) := by decide +kernel
theorem dX7_init_41 : decode cX7_init 41 = .ok (.dup, 1) := by decide +kernel
theorem dX7_init_42 : decode cX7_init 42 = .ok (.invokespecial 28, 3) := by decide +kernel
theorem dX7_init_45 : decode cX7_init 45 = .ok (.putfield 29, 3) := by decide +kernel
theorem dX7_init_48 : decode cX7_init 48 = .ok (.aload_n 0, 1) := by decide +kernel
theorem dX7_init_49 : decode cX7_init 49 = .ok (.iconst 2, 1) := by decide +kernel
theorem dX7_init_50 : decode cX7_init 50 = .ok (.anewarray 16, 3) := by decide +kernel
theorem dX7_init_53 : decode cX7_init 53 = .ok (.putfield 33, 3) := by decide +kernel
theorem dX7_init_56 : decode cX7_init 56 = .ok (.aload_n 0, 1) := by decide +kernel
theorem dX7_init_57 : decode cX7_init 57 = .ok (.iconst 2, 1) := by decide +kernel
theorem dX7_init_58 : decode cX7_init 58 = .ok (.newarray .boolean, 2) := by decide +kernel
theorem dX7_init_60 : decode cX7_init 60 = .ok (.putfield 37, 3) := by decide +kernel
theorem dX7_init_63 : decode cX7_init 63 = .ok (.aload_n 0, 1) := by decide +kernel
theorem dX7_init_64 : decode cX7_init 64 = .ok (.iconst 2, 1) := by decide +kernel
theorem dX7_init_65 : decode cX7_init 65 = .ok (.newarray .int, 2) := by decide +kernel
theorem dX7_init_67 : decode cX7_init 67 = .ok (.putfield 41, 3) := by decide +kernel
theorem dX7_init_70 : decode cX7_init 70 = .ok (.aload_n 0, 1) := by decide +kernel
theorem dX7_init_71 : decode cX7_init 71 = .ok (.new 45, 3) := by decide +kernel
theorem dX7_init_74 : decode cX7_init 74 = .ok (.dup, 1) := by decide +kernel
theorem dX7_init_75 : decode cX7_init 75 = .ok (.invokespecial 47, 3) := by decide +kernel
theorem dX7_init_78 : decode cX7_init 78 = .ok (.putfield 48, 3) := by decide +kernel
theorem dX7_init_81 : decode cX7_init 81 = .ok (.aload_n 0, 1) := by decide +kernel
theorem dX7_init_82 : decode cX7_init 82 = .ok (.new 52, 3) := by decide +kernel
theorem dX7_init_85 : decode cX7_init 85 = .ok (.dup, 1) := by decide +kernel
theorem dX7_init_86 : decode cX7_init 86 = .ok (.invokespecial 54, 3) := by decide +kernel
theorem dX7_init_89 : decode cX7_init 89 = .ok (.putfield 55, 3) := by decide +kernel
theorem dX7_init_92 : decode cX7_init 92 = .ok (.aload_n 0, 1) := by decide +kernel
theorem dX7_init_93 : decode cX7_init 93 = .ok (.new 59, 3) := by decide +kernel
theorem dX7_init_96 : decode cX7_init 96 = .ok (.dup, 1) := by decide +kernel
theorem dX7_init_97 : decode cX7_init 97 = .ok (.invokespecial 61, 3) := by decide +kernel
theorem dX7_init_100 : decode cX7_init 100 = .ok (.putfield 62, 3) := by decide +kernel
theorem dX7_init_103 : decode cX7_init 103 = .ok (.aload_n 0, 1) := by decide +kernel
theorem dX7_init_104 : decode cX7_init 104 = .ok (.new 66, 3) := by decide +kernel
theorem dX7_init_107 : decode cX7_init 107 = .ok (.dup, 1) := by decide +kernel
theorem dX7_init_108 : decode cX7_init 108 = .ok (.invokespecial 68, 3) := by decide +kernel
theorem dX7_init_111 : decode cX7_init 111 = .ok (.putfield 69, 3) := by decide +kernel
theorem dX7_init_114 : decode cX7_init 114 = .ok (.aload_n 0, 1) := by decide +kernel
theorem dX7_init_115 : decode cX7_init 115 = .ok (.iconst (-1), 1) := by decide +kernel
theorem dX7_init_116 : decode cX7_init 116 = .ok (.putfield 73, 3) := by decide +kernel
theorem dX7_init_119 : decode cX7_init 119 = .ok (.iconst 0, 1) := by decide +kernel
theorem dX7_init_120 : decode cX7_init 120 = .ok (.istore_n 1, 1) := by decide +kernel
theorem dX7_init_121 : decode cX7_init 121 = .ok (.iload_n 1, 1) := by decide +kernel
theorem dX7_init_122 : decode cX7_init 122 = .ok (.iconst 2, 1) := by decide +kernel
theorem dX7_init_123 : decode cX7_init 123 = .ok (.if_icmp .ge 22, 3) := by decide +kernel
theorem dX7_init_126 : decode cX7_init 126 = .ok (.aload_n 0, 1) := by decide +kernel
theorem dX7_init_127 : decode cX7_init 127 = .ok (.getfield 33, 3) := by decide +kernel
theorem dX7_init_130 : decode cX7_init 130 = .ok (.iload_n 1, 1) := by decide +kernel
theorem dX7_init_131 : decode cX7_init 131 = .ok (.new 16, 3) := by decide +kernel
theorem dX7_init_134 : decode cX7_init 134 = .ok (.dup, 1) := by decide +kernel
theorem dX7_init_135 : decode cX7_init 135 = .ok (.invokespecial 18, 3) := by decide +kernel
theorem dX7_init_138 : decode cX7_init 138 = .ok (.aastore, 1) := by decide +kernel
theorem dX7_init_139 : decode cX7_init 139 = .ok (.iinc 1 1, 3) := by decide +kernel
theorem dX7_init_142 : decode cX7_init 142 = .ok (.goto (-21), 3) := by decide +kernel
theorem dX7_init_145 : decode cX7_init 145 = .ok (.return_, 1) := by decide +kernel
theorem dX7_feed_0 : decode cX7_feed 0 = .ok (.iload_n 1, 1) := by decide +kernel
theorem dX7_feed_1 : decode cX7_feed 1 = .ok (.ifCond .lt 10, 3) := by decide +kernel
theorem dX7_feed_4 : decode cX7_feed 4 = .ok (.iload_n 1, 1) := by decide +kernel
theorem dX7_feed_5 : decode cX7_feed 5 = .ok (.sipush 255, 3) := by decide +kernel
theorem dX7_feed_8 : decode cX7_feed 8 = .ok (.if_icmp .le 6, 3) := by decide +kernel
theorem dX7_feed_11 : decode cX7_feed 11 = .ok (.ldc 77, 2) := by decide +kernel
theorem dX7_feed_13 : decode cX7_feed 13 = .ok (.ireturn, 1) := by decide +kernel
theorem dX7_feed_14 : decode cX7_feed 14 = .ok (.aload_n 0, 1) := by decide +kernel
theorem dX7_feed_15 : decode cX7_feed 15 = .ok (.getfield 12, 3) := by decide +kernel
theorem dX7_feed_18 : decode cX7_feed 18 = .ok (.iload_n 1, 1) := by decide +kernel
theorem dX7_feed_19 : decode cX7_feed 19 = .ok (.invokevirtual 78, 3) := by decide +kernel
theorem dX7_feed_22 : decode cX7_feed 22 = .ok (.ireturn, 1) := by decide +kernel
theorem dX7_county_0 : decode cX7_county 0 = .ok (.aload_n 0, 1) := by decide +kernel
theorem dX7_county_1 : decode cX7_county 1 = .ok (.getfield 12, 3) := by decide +kernel
theorem dX7_county_4 : decode cX7_county 4 = .ok (.invokevirtual 82, 3) := by decide +kernel
theorem dX7_county_7 : decode cX7_county 7 = .ok (.istore_n 1, 1) := by decide +kernel
theorem dX7_county_8 : decode cX7_county 8 = .ok (.aload_n 0, 1) := by decide +kernel
theorem dX7_county_9 : decode cX7_county 9 = .ok (.aload_n 0, 1) := by decide +kernel
theorem dX7_county_10 : decode cX7_county 10 = .ok (.getfield 12, 3) := by decide +kernel
theorem dX7_county_13 : decode cX7_county 13 = .ok (.getfield 86, 3) := by decide +kernel
theorem dX7_county_16 : decode cX7_county 16 = .ok (.putfield 73, 3) := by decide +kernel
theorem dX7_county_19 : decode cX7_county 19 = .ok (.iload_n 1, 1) := by decide +kernel
theorem dX7_county_20 : decode cX7_county 20 = .ok (.ifCond .eq 8, 3) := by decide +kernel
theorem dX7_county_23 : decode cX7_county 23 = .ok (.bipush (-10), 2) := by decide +kernel
theorem dX7_county_25 : decode cX7_county 25 = .ok (.iload_n 1, 1) := by decide +kernel
theorem dX7_county_26 : decode cX7_county 26 = .ok (.isub, 1) := by decide +kernel
theorem dX7_county_27 : decode cX7_county 27 = .ok (.ireturn, 1) := by decide +kernel
theorem dX7_county_28 : decode cX7_county 28 = .ok (.aload_n 0, 1) := by decide +kernel
theorem dX7_county_29 : decode cX7_county 29 = .ok (.getfield 19, 3) := by decide +kernel
theorem dX7_county_32 : decode cX7_county 32 = .ok (.aload_n 0, 1) := by decide +kernel
theorem dX7_county_33 : decode cX7_county 33 = .ok (.getfield 12, 3) := by decide +kernel
theorem dX7_county_36 : decode cX7_county 36 = .ok (.invokevirtual 89, 3) := by decide +kernel
theorem dX7_county_39 : decode cX7_county 39 = .ok (.iconst 0, 1) := by decide +kernel
theorem dX7_county_40 : decode cX7_county 40 = .ok (.istore_n 2, 1) := by decide +kernel
theorem dX7_county_41 : decode cX7_county 41 = .ok (.iload_n 2, 1) := by decide +kernel
theorem dX7_county_42 : decode cX7_county 42 = .ok (.iconst 2, 1) := by decide +kernel
theorem dX7_county_43 : decode cX7_county 43 = .ok (.if_icmp .ge 16, 3) := by decide +kernel
theorem dX7_county_46 : decode cX7_county 46 = .ok (.aload_n 0, 1) := by decide +kernel
theorem dX7_county_47 : decode cX7_county 47 = .ok (.getfield 37, 3) := by decide +kernel
theorem dX7_county_50 : decode cX7_county 50 = .ok (.iload_n 2, 1) := by decide +kernel
theorem dX7_county_51 : decode cX7_county 51 = .ok (.iconst 0, 1) := by decide +kernel
theorem dX7_county_52 : decode cX7_county 52 = .ok (.bastore, 1) := by decide +kernel
theorem dX7_county_53 : decode cX7_county 53 = .ok (.iinc 2 1, 3) := by decide +kernel
theorem dX7_county_56 : decode cX7_county 56 = .ok (.goto (-15), 3) := by decide +kernel
theorem dX7_county_59 : decode cX7_county 59 = .ok (.aload_n 0, 1) := by decide +kernel
theorem dX7_county_60 : decode cX7_county 60 = .ok (.getfield 29, 3) := by decide +kernel
theorem dX7_county_63 : decode cX7_county 63 = .ok (.invokevirtual 93, 3) := by decide +kernel
theorem dX7_county_66 : decode cX7_county 66 = .ok (.aload_n 0, 1) := by decide +kernel
theorem dX7_county_67 : decode cX7_county 67 = .ok (.getfield 69, 3) := by decide +kernel
theorem dX7_county_70 : decode cX7_county 70 = .ok (.invokevirtual 96, 3) := by decide +kernel
theorem dX7_county_73 : decode cX7_county 73 = .ok (.aload_n 0, 1) := by decide +kernel
theorem dX7_county_74 : decode cX7_county 74 = .ok (.invokevirtual 99, 3) := by decide +kernel
theorem dX7_county_77 : decode cX7_county 77 = .ok (.aload_n 0, 1) := by decide +kernel
theorem dX7_county_78 : decode cX7_county 78 = .ok (.getfield 19, 3) := by decide +kernel
theorem dX7_county_81 : decode cX7_county 81 = .ok (.getfield 102, 3) := by decide +kernel
theorem dX7_county_84 : decode cX7_county 84 = .ok (.ireturn, 1) := by decide +kernel
theorem dX7_fault_0 : decode cX7_fault 0 = .ok (.aload_n 0, 1) := by decide +kernel
theorem dX7_fault_1 : decode cX7_fault 1 = .ok (.getfield 73, 3) := by decide +kernel
theorem dX7_fault_4 : decode cX7_fault 4 = .ok (.ireturn, 1) := by decide +kernel
theorem dX7_told_0 : decode cX7_told 0 = .ok (.iload_n 1, 1) := by decide +kernel
theorem dX7_told_1 : decode cX7_told 1 = .ok (.tableswitch 149 0 13 #[71, 79, 87, 95, 103, 111, 119, 119, 119, 119, 119, 125, 133, 141], 71) := by decide +kernel
theorem dX7_told_72 : decode cX7_told 72 = .ok (.aload_n 0, 1) := by decide +kernel
theorem dX7_told_73 : decode cX7_told 73 = .ok (.getfield 19, 3) := by decide +kernel
theorem dX7_told_76 : decode cX7_told 76 = .ok (.getfield 105, 3) := by decide +kernel
theorem dX7_told_79 : decode cX7_told 79 = .ok (.ireturn, 1) := by decide +kernel
theorem dX7_told_80 : decode cX7_told 80 = .ok (.aload_n 0, 1) := by decide +kernel
theorem dX7_told_81 : decode cX7_told 81 = .ok (.getfield 19, 3) := by decide +kernel
theorem dX7_told_84 : decode cX7_told 84 = .ok (.getfield 102, 3) := by decide +kernel
theorem dX7_told_87 : decode cX7_told 87 = .ok (.ireturn, 1) := by decide +kernel
theorem dX7_told_88 : decode cX7_told 88 = .ok (.aload_n 0, 1) := by decide +kernel
theorem dX7_told_89 : decode cX7_told 89 = .ok (.getfield 12, 3) := by decide +kernel
theorem dX7_told_92 : decode cX7_told 92 = .ok (.getfield 108, 3) := by decide +kernel
theorem dX7_told_95 : decode cX7_told 95 = .ok (.ireturn, 1) := by decide +kernel
theorem dX7_told_96 : decode cX7_told 96 = .ok (.aload_n 0, 1) := by decide +kernel
theorem dX7_told_97 : decode cX7_told 97 = .ok (.getfield 19, 3) := by decide +kernel
theorem dX7_told_100 : decode cX7_told 100 = .ok (.getfield 111, 3) := by decide +kernel
theorem dX7_told_103 : decode cX7_told 103 = .ok (.ireturn, 1) := by decide +kernel
theorem dX7_told_104 : decode cX7_told 104 = .ok (.aload_n 0, 1) := by decide +kernel
theorem dX7_told_105 : decode cX7_told 105 = .ok (.getfield 19, 3) := by decide +kernel
theorem dX7_told_108 : decode cX7_told 108 = .ok (.getfield 114, 3) := by decide +kernel
theorem dX7_told_111 : decode cX7_told 111 = .ok (.ireturn, 1) := by decide +kernel
theorem dX7_told_112 : decode cX7_told 112 = .ok (.aload_n 0, 1) := by decide +kernel
theorem dX7_told_113 : decode cX7_told 113 = .ok (.getfield 19, 3) := by decide +kernel
theorem dX7_told_116 : decode cX7_told 116 = .ok (.getfield 117, 3) := by decide +kernel
theorem dX7_told_119 : decode cX7_told 119 = .ok (.ireturn, 1) := by decide +kernel
theorem dX7_told_120 : decode cX7_told 120 = .ok (.aload_n 0, 1) := by decide +kernel
theorem dX7_told_121 : decode cX7_told 121 = .ok (.iload_n 1, 1) := by decide +kernel
theorem dX7_told_122 : decode cX7_told 122 = .ok (.invokevirtual 120, 3) := by decide +kernel
theorem dX7_told_125 : decode cX7_told 125 = .ok (.ireturn, 1) := by decide +kernel
theorem dX7_told_126 : decode cX7_told 126 = .ok (.aload_n 0, 1) := by decide +kernel
theorem dX7_told_127 : decode cX7_told 127 = .ok (.getfield 19, 3) := by decide +kernel
theorem dX7_told_130 : decode cX7_told 130 = .ok (.invokevirtual 123, 3) := by decide +kernel
theorem dX7_told_133 : decode cX7_told 133 = .ok (.ireturn, 1) := by decide +kernel
theorem dX7_told_134 : decode cX7_told 134 = .ok (.aload_n 0, 1) := by decide +kernel
theorem dX7_told_135 : decode cX7_told 135 = .ok (.getfield 69, 3) := by decide +kernel
theorem dX7_told_138 : decode cX7_told 138 = .ok (.getfield 126, 3) := by decide +kernel
theorem dX7_told_141 : decode cX7_told 141 = .ok (.ireturn, 1) := by decide +kernel
theorem dX7_told_142 : decode cX7_told 142 = .ok (.aload_n 0, 1) := by decide +kernel
theorem dX7_told_143 : decode cX7_told 143 = .ok (.getfield 29, 3) := by decide +kernel
theorem dX7_told_146 : decode cX7_told 146 = .ok (.getfield 129, 3) := by decide +kernel
theorem dX7_told_149 : decode cX7_told 149 = .ok (.ireturn, 1) := by decide +kernel
theorem dX7_told_150 : decode cX7_told 150 = .ok (.ldc 77, 2) := by decide +kernel
theorem dX7_told_152 : decode cX7_told 152 = .ok (.ireturn, 1) := by decide +kernel
theorem dX7_skittle_0 : decode cX7_skittle 0 = .ok (.aload_n 0, 1) := by decide +kernel
theorem dX7_skittle_1 : decode cX7_skittle 1 = .ok (.getfield 19, 3) := by decide +kernel
theorem dX7_skittle_4 : decode cX7_skittle 4 = .ok (.iload_n 1, 1) := by decide +kernel
theorem dX7_skittle_5 : decode cX7_skittle 5 = .ok (.invokevirtual 130, 3) := by decide +kernel
theorem dX7_skittle_8 : decode cX7_skittle 8 = .ok (.ifCond .ne 6, 3) := by decide +kernel
theorem dX7_skittle_11 : decode cX7_skittle 11 = .ok (.ldc 134, 2) := by decide +kernel
theorem dX7_skittle_13 : decode cX7_skittle 13 = .ok (.ireturn, 1) := by decide +kernel
theorem dX7_skittle_14 : decode cX7_skittle 14 = .ok (.iload_n 2, 1) := by decide +kernel
theorem dX7_skittle_15 : decode cX7_skittle 15 = .ok (.tableswitch 144 0 8 #[49, 59, 69, 79, 89, 106, 116, 126, 135], 49) := by decide +kernel
theorem dX7_skittle_64 : decode cX7_skittle 64 = .ok (.aload_n 0, 1) := by decide +kernel
theorem dX7_skittle_65 : decode cX7_skittle 65 = .ok (.getfield 19, 3) := by decide +kernel
theorem dX7_skittle_68 : decode cX7_skittle 68 = .ok (.getfield 135, 3) := by decide +kernel
theorem dX7_skittle_71 : decode cX7_skittle 71 = .ok (.iload_n 1, 1) := by decide +kernel
theorem dX7_skittle_72 : decode cX7_skittle 72 = .ok (.iaload, 1) := by decide +kernel
theorem dX7_skittle_73 : decode cX7_skittle 73 = .ok (.ireturn, 1) := by decide +kernel
theorem dX7_skittle_74 : decode cX7_skittle 74 = .ok (.aload_n 0, 1) := by decide +kernel
theorem dX7_skittle_75 : decode cX7_skittle 75 = .ok (.getfield 19, 3) := by decide +kernel
theorem dX7_skittle_78 : decode cX7_skittle 78 = .ok (.getfield 138, 3) := by decide +kernel
theorem dX7_skittle_81 : decode cX7_skittle 81 = .ok (.iload_n 1, 1) := by decide +kernel
theorem dX7_skittle_82 : decode cX7_skittle 82 = .ok (.iaload, 1) := by decide +kernel
theorem dX7_skittle_83 : decode cX7_skittle 83 = .ok (.ireturn, 1) := by decide +kernel
theorem dX7_skittle_84 : decode cX7_skittle 84 = .ok (.aload_n 0, 1) := by decide +kernel
theorem dX7_skittle_85 : decode cX7_skittle 85 = .ok (.getfield 19, 3) := by decide +kernel
theorem dX7_skittle_88 : decode cX7_skittle 88 = .ok (.getfield 141, 3) := by decide +kernel
theorem dX7_skittle_91 : decode cX7_skittle 91 = .ok (.iload_n 1, 1) := by decide +kernel
theorem dX7_skittle_92 : decode cX7_skittle 92 = .ok (.iaload, 1) := by decide +kernel
theorem dX7_skittle_93 : decode cX7_skittle 93 = .ok (.ireturn, 1) := by decide +kernel
theorem dX7_skittle_94 : decode cX7_skittle 94 = .ok (.aload_n 0, 1) := by decide +kernel
theorem dX7_skittle_95 : decode cX7_skittle 95 = .ok (.getfield 19, 3) := by decide +kernel
theorem dX7_skittle_98 : decode cX7_skittle 98 = .ok (.getfield 144, 3) := by decide +kernel
theorem dX7_skittle_101 : decode cX7_skittle 101 = .ok (.iload_n 1, 1) := by decide +kernel
theorem dX7_skittle_102 : decode cX7_skittle 102 = .ok (.iaload, 1) := by decide +kernel
theorem dX7_skittle_103 : decode cX7_skittle 103 = .ok (.ireturn, 1) := by decide +kernel
theorem dX7_skittle_104 : decode cX7_skittle 104 = .ok (.aload_n 0, 1) := by decide +kernel
theorem dX7_skittle_105 : decode cX7_skittle 105 = .ok (.getfield 19, 3) := by decide +kernel
theorem dX7_skittle_108 : decode cX7_skittle 108 = .ok (.iload_n 1, 1) := by decide +kernel
theorem dX7_skittle_109 : decode cX7_skittle 109 = .ok (.invokevirtual 147, 3) := by decide +kernel
theorem dX7_skittle_112 : decode cX7_skittle 112 = .ok (.ifCond .eq 7, 3) := by decide +kernel
theorem dX7_skittle_115 : decode cX7_skittle 115 = .ok (.iconst 1, 1) := by decide +kernel
theorem dX7_skittle_116 : decode cX7_skittle 116 = .ok (.goto 4, 3) := by decide +kernel
theorem dX7_skittle_119 : decode cX7_skittle 119 = .ok (.iconst 0, 1) := by decide +kernel
theorem dX7_skittle_120 : decode cX7_skittle 120 = .ok (.ireturn, 1) := by decide +kernel
theorem dX7_skittle_121 : decode cX7_skittle 121 = .ok (.aload_n 0, 1) := by decide +kernel
theorem dX7_skittle_122 : decode cX7_skittle 122 = .ok (.getfield 19, 3) := by decide +kernel
theorem dX7_skittle_125 : decode cX7_skittle 125 = .ok (.getfield 150, 3) := by decide +kernel
theorem dX7_skittle_128 : decode cX7_skittle 128 = .ok (.iload_n 1, 1) := by decide +kernel
theorem dX7_skittle_129 : decode cX7_skittle 129 = .ok (.iaload, 1) := by decide +kernel
theorem dX7_skittle_130 : decode cX7_skittle 130 = .ok (.ireturn, 1) := by decide +kernel
theorem dX7_skittle_131 : decode cX7_skittle 131 = .ok (.aload_n 0, 1) := by decide +kernel
theorem dX7_skittle_132 : decode cX7_skittle 132 = .ok (.getfield 19, 3) := by decide +kernel
theorem dX7_skittle_135 : decode cX7_skittle 135 = .ok (.getfield 153, 3) := by decide +kernel
theorem dX7_skittle_138 : decode cX7_skittle 138 = .ok (.iload_n 1, 1) := by decide +kernel
theorem dX7_skittle_139 : decode cX7_skittle 139 = .ok (.iaload, 1) := by decide +kernel
theorem dX7_skittle_140 : decode cX7_skittle 140 = .ok (.ireturn, 1) := by decide +kernel
theorem dX7_skittle_141 : decode cX7_skittle 141 = .ok (.aload_n 0, 1) := by decide +kernel
theorem dX7_skittle_142 : decode cX7_skittle 142 = .ok (.getfield 19, 3) := by decide +kernel
theorem dX7_skittle_145 : decode cX7_skittle 145 = .ok (.iload_n 1, 1) := by decide +kernel
theorem dX7_skittle_146 : decode cX7_skittle 146 = .ok (.invokevirtual 156, 3) := by decide +kernel
theorem dX7_skittle_149 : decode cX7_skittle 149 = .ok (.ireturn, 1) := by decide +kernel
theorem dX7_skittle_150 : decode cX7_skittle 150 = .ok (.aload_n 0, 1) := by decide +kernel
theorem dX7_skittle_151 : decode cX7_skittle 151 = .ok (.getfield 19, 3) := by decide +kernel
theorem dX7_skittle_154 : decode cX7_skittle 154 = .ok (.iload_n 1, 1) := by decide +kernel
theorem dX7_skittle_155 : decode cX7_skittle 155 = .ok (.invokevirtual 159, 3) := by decide +kernel
theorem dX7_skittle_158 : decode cX7_skittle 158 = .ok (.ireturn, 1) := by decide +kernel
theorem dX7_skittle_159 : decode cX7_skittle 159 = .ok (.ldc 77, 2) := by decide +kernel
theorem dX7_skittle_161 : decode cX7_skittle 161 = .ok (.ireturn, 1) := by decide +kernel
theorem dX7_plate_0 : decode cX7_plate 0 = .ok (.iload_n 1, 1) := by decide +kernel
theorem dX7_plate_1 : decode cX7_plate 1 = .ok (.invokestatic 162, 3) := by decide +kernel
theorem dX7_plate_4 : decode cX7_plate 4 = .ok (.ifCond .eq 15, 3) := by decide +kernel
theorem dX7_plate_7 : decode cX7_plate 7 = .ok (.aload_n 0, 1) := by decide +kernel
theorem dX7_plate_8 : decode cX7_plate 8 = .ok (.getfield 19, 3) := by decide +kernel
theorem dX7_plate_11 : decode cX7_plate 11 = .ok (.getfield 165, 3) := by decide +kernel
theorem dX7_plate_14 : decode cX7_plate 14 = .ok (.iload_n 1, 1) := by decide +kernel
theorem dX7_plate_15 : decode cX7_plate 15 = .ok (.iaload, 1) := by decide +kernel
theorem dX7_plate_16 : decode cX7_plate 16 = .ok (.goto 5, 3) := by decide +kernel
theorem dX7_plate_19 : decode cX7_plate 19 = .ok (.ldc 134, 2) := by decide +kernel
theorem dX7_plate_21 : decode cX7_plate 21 = .ok (.ireturn, 1) := by decide +kernel
theorem dX7_ball_0 : decode cX7_ball 0 = .ok (.iload_n 1, 1) := by decide +kernel
theorem dX7_ball_1 : decode cX7_ball 1 = .ok (.iload_n 2, 1) := by decide +kernel
theorem dX7_ball_2 : decode cX7_ball 2 = .ok (.iload_n 3, 1) := by decide +kernel
theorem dX7_ball_3 : decode cX7_ball 3 = .ok (.invokestatic 168, 3) := by decide +kernel
theorem dX7_ball_6 : decode cX7_ball 6 = .ok (.ifCond .ne 6, 3) := by decide +kernel
theorem dX7_ball_9 : decode cX7_ball 9 = .ok (.ldc 77, 2) := by decide +kernel
theorem dX7_ball_11 : decode cX7_ball 11 = .ok (.ireturn, 1) := by decide +kernel
theorem dX7_ball_12 : decode cX7_ball 12 = .ok (.aload_n 0, 1) := by decide +kernel
theorem dX7_ball_13 : decode cX7_ball 13 = .ok (.getfield 19, 3) := by decide +kernel
theorem dX7_ball_16 : decode cX7_ball 16 = .ok (.invokevirtual 172, 3) := by decide +kernel
theorem dX7_ball_19 : decode cX7_ball 19 = .ok (.ifCond .ne 6, 3) := by decide +kernel
theorem dX7_ball_22 : decode cX7_ball 22 = .ok (.ldc 176, 2) := by decide +kernel
theorem dX7_ball_24 : decode cX7_ball 24 = .ok (.ireturn, 1) := by decide +kernel
theorem dX7_ball_25 : decode cX7_ball 25 = .ok (.aload_n 0, 1) := by decide +kernel
theorem dX7_ball_26 : decode cX7_ball 26 = .ok (.invokevirtual 177, 3) := by decide +kernel
theorem dX7_ball_29 : decode cX7_ball 29 = .ok (.aload_n 0, 1) := by decide +kernel
theorem dX7_ball_30 : decode cX7_ball 30 = .ok (.iload_n 1, 1) := by decide +kernel
theorem dX7_ball_31 : decode cX7_ball 31 = .ok (.iload_n 2, 1) := by decide +kernel
theorem dX7_ball_32 : decode cX7_ball 32 = .ok (.iload_n 3, 1) := by decide +kernel
theorem dX7_ball_33 : decode cX7_ball 33 = .ok (.invokevirtual 180, 3) := by decide +kernel
theorem dX7_ball_36 : decode cX7_ball 36 = .ok (.ireturn, 1) := by decide +kernel
theorem dX7_setUp_0 : decode cX7_setUp 0 = .ok (.aload_n 0, 1) := by decide +kernel
theorem dX7_setUp_1 : decode cX7_setUp 1 = .ok (.getfield 19, 3) := by decide +kernel
theorem dX7_setUp_4 : decode cX7_setUp 4 = .ok (.invokevirtual 172, 3) := by decide +kernel
theorem dX7_setUp_7 : decode cX7_setUp 7 = .ok (.ifCond .ne 6, 3) := by decide +kernel
theorem dX7_setUp_10 : decode cX7_setUp 10 = .ok (.ldc 176, 2) := by decide +kernel
theorem dX7_setUp_12 : decode cX7_setUp 12 = .ok (.ireturn, 1) := by decide +kernel
theorem dX7_setUp_13 : decode cX7_setUp 13 = .ok (.aload_n 0, 1) := by decide +kernel
theorem dX7_setUp_14 : decode cX7_setUp 14 = .ok (.invokevirtual 177, 3) := by decide +kernel
theorem dX7_setUp_17 : decode cX7_setUp 17 = .ok (.aload_n 0, 1) := by decide +kernel
theorem dX7_setUp_18 : decode cX7_setUp 18 = .ok (.getfield 19, 3) := by decide +kernel
theorem dX7_setUp_21 : decode cX7_setUp 21 = .ok (.getfield 102, 3) := by decide +kernel
theorem dX7_setUp_24 : decode cX7_setUp 24 = .ok (.aload_n 0, 1) := by decide +kernel
theorem dX7_setUp_25 : decode cX7_setUp 25 = .ok (.getfield 19, 3) := by decide +kernel
theorem dX7_setUp_28 : decode cX7_setUp 28 = .ok (.getfield 111, 3) := by decide +kernel
theorem dX7_setUp_31 : decode cX7_setUp 31 = .ok (.invokestatic 184, 3) := by decide +kernel
theorem dX7_setUp_34 : decode cX7_setUp 34 = .ok (.isub, 1) := by decide +kernel
theorem dX7_setUp_35 : decode cX7_setUp 35 = .ok (.istore_n 1, 1) := by decide +kernel
theorem dX7_setUp_36 : decode cX7_setUp 36 = .ok (.aload_n 0, 1) := by decide +kernel
theorem dX7_setUp_37 : decode cX7_setUp 37 = .ok (.getfield 19, 3) := by decide +kernel
theorem dX7_setUp_40 : decode cX7_setUp 40 = .ok (.invokevirtual 189, 3) := by decide +kernel
theorem dX7_setUp_43 : decode cX7_setUp 43 = .ok (.iload_n 1, 1) := by decide +kernel
theorem dX7_setUp_44 : decode cX7_setUp 44 = .ok (.ireturn, 1) := by decide +kernel
theorem dX7_lift_0 : decode cX7_lift 0 = .ok (.aload_n 0, 1) := by decide +kernel
theorem dX7_lift_1 : decode cX7_lift 1 = .ok (.getfield 19, 3) := by decide +kernel
theorem dX7_lift_4 : decode cX7_lift 4 = .ok (.iload_n 1, 1) := by decide +kernel
theorem dX7_lift_5 : decode cX7_lift 5 = .ok (.invokevirtual 130, 3) := by decide +kernel
theorem dX7_lift_8 : decode cX7_lift 8 = .ok (.ifCond .ne 6, 3) := by decide +kernel
theorem dX7_lift_11 : decode cX7_lift 11 = .ok (.ldc 134, 2) := by decide +kernel
theorem dX7_lift_13 : decode cX7_lift 13 = .ok (.ireturn, 1) := by decide +kernel
theorem dX7_lift_14 : decode cX7_lift 14 = .ok (.aload_n 0, 1) := by decide +kernel
theorem dX7_lift_15 : decode cX7_lift 15 = .ok (.getfield 19, 3) := by decide +kernel
theorem dX7_lift_18 : decode cX7_lift 18 = .ok (.iload_n 1, 1) := by decide +kernel
theorem dX7_lift_19 : decode cX7_lift 19 = .ok (.invokevirtual 147, 3) := by decide +kernel
theorem dX7_lift_22 : decode cX7_lift 22 = .ok (.ifCond .eq 6, 3) := by decide +kernel
theorem dX7_lift_25 : decode cX7_lift 25 = .ok (.ldc 176, 2) := by decide +kernel
theorem dX7_lift_27 : decode cX7_lift 27 = .ok (.ireturn, 1) := by decide +kernel
theorem dX7_lift_28 : decode cX7_lift 28 = .ok (.aload_n 0, 1) := by decide +kernel
theorem dX7_lift_29 : decode cX7_lift 29 = .ok (.invokevirtual 177, 3) := by decide +kernel
theorem dX7_lift_32 : decode cX7_lift 32 = .ok (.aload_n 0, 1) := by decide +kernel
theorem dX7_lift_33 : decode cX7_lift 33 = .ok (.getfield 19, 3) := by decide +kernel
theorem dX7_lift_36 : decode cX7_lift 36 = .ok (.dup, 1) := by decide +kernel
theorem dX7_lift_37 : decode cX7_lift 37 = .ok (.getfield 111, 3) := by decide +kernel
theorem dX7_lift_40 : decode cX7_lift 40 = .ok (.iconst 1, 1) := by decide +kernel
theorem dX7_lift_41 : decode cX7_lift 41 = .ok (.iload_n 1, 1) := by decide +kernel
theorem dX7_lift_42 : decode cX7_lift 42 = .ok (.ishl, 1) := by decide +kernel
theorem dX7_lift_43 : decode cX7_lift 43 = .ok (.ior, 1) := by decide +kernel
theorem dX7_lift_44 : decode cX7_lift 44 = .ok (.putfield 111, 3) := by decide +kernel
theorem dX7_lift_47 : decode cX7_lift 47 = .ok (.aload_n 0, 1) := by decide +kernel
theorem dX7_lift_48 : decode cX7_lift 48 = .ok (.getfield 19, 3) := by decide +kernel
theorem dX7_lift_51 : decode cX7_lift 51 = .ok (.getfield 111, 3) := by decide +kernel
theorem dX7_lift_54 : decode cX7_lift 54 = .ok (.invokestatic 184, 3) := by decide +kernel
theorem dX7_lift_57 : decode cX7_lift 57 = .ok (.ireturn, 1) := by decide +kernel
theorem dX7_change_0 : decode cX7_change 0 = .ok (.iload_n 1, 1) := by decide +kernel
theorem dX7_change_1 : decode cX7_change 1 = .ok (.invokestatic 162, 3) := by decide +kernel
theorem dX7_change_4 : decode cX7_change 4 = .ok (.ifCond .eq 15, 3) := by decide +kernel
theorem dX7_change_7 : decode cX7_change 7 = .ok (.iload_n 2, 1) := by decide +kernel
theorem dX7_change_8 : decode cX7_change 8 = .ok (.invokestatic 162, 3) := by decide +kernel
theorem dX7_change_11 : decode cX7_change 11 = .ok (.ifCond .eq 8, 3) := by decide +kernel
theorem dX7_change_14 : decode cX7_change 14 = .ok (.iload_n 1, 1) := by decide +kernel
theorem dX7_change_15 : decode cX7_change 15 = .ok (.iload_n 2, 1) := by decide +kernel
theorem dX7_change_16 : decode cX7_change 16 = .ok (.if_icmp .ne 6, 3) := by decide +kernel
theorem dX7_change_19 : decode cX7_change 19 = .ok (.ldc 134, 2) := by decide +kernel
theorem dX7_change_21 : decode cX7_change 21 = .ok (.ireturn, 1) := by decide +kernel
theorem dX7_change_22 : decode cX7_change 22 = .ok (.aload_n 0, 1) := by decide +kernel
theorem dX7_change_23 : decode cX7_change 23 = .ok (.invokevirtual 177, 3) := by decide +kernel
theorem dX7_change_26 : decode cX7_change 26 = .ok (.aload_n 0, 1) := by decide +kernel
theorem dX7_change_27 : decode cX7_change 27 = .ok (.getfield 19, 3) := by decide +kernel
theorem dX7_change_30 : decode cX7_change 30 = .ok (.iload_n 1, 1) := by decide +kernel
theorem dX7_change_31 : decode cX7_change 31 = .ok (.iload_n 2, 1) := by decide +kernel
theorem dX7_change_32 : decode cX7_change 32 = .ok (.invokevirtual 192, 3) := by decide +kernel
theorem dX7_change_35 : decode cX7_change 35 = .ok (.aload_n 0, 1) := by decide +kernel
theorem dX7_change_36 : decode cX7_change 36 = .ok (.getfield 19, 3) := by decide +kernel
theorem dX7_change_39 : decode cX7_change 39 = .ok (.getfield 165, 3) := by decide +kernel
theorem dX7_change_42 : decode cX7_change 42 = .ok (.iload_n 1, 1) := by decide +kernel
