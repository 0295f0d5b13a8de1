theorem dX7_pin_17 : decode cX7_pin 17 = .ok (.aload_n 0, 1) := by decide +kernel
theorem dX7_pin_18 : decode cX7_pin 18 = .ok (.getfield 19, 3) := by decide +kernel
theorem dX7_pin_21 : decode cX7_pin 21 = .ok (.iload_n 1, 1) := by decide +kernel
theorem dX7_pin_22 : decode cX7_pin 22 = .ok (.iload_n 2, 1) := by decide +kernel
theorem dX7_pin_23 : decode cX7_pin 23 = .ok (.iload_n 3, 1) := by decide +kernel
theorem dX7_pin_24 : decode cX7_pin 24 = .ok (.invokevirtual 230, 3) := by decide +kernel
theorem dX7_pin_27 : decode cX7_pin 27 = .ok (.ireturn, 1) := by decide +kernel
theorem dX7_want_0 : decode cX7_want 0 = .ok (.aload_n 0, 1) := by decide +kernel
theorem dX7_want_1 : decode cX7_want 1 = .ok (.iload_n 1, 1) := by decide +kernel
theorem dX7_want_2 : decode cX7_want 2 = .ok (.invokevirtual 138, 3) := by decide +kernel
theorem dX7_want_5 : decode cX7_want 5 = .ok (.iload_n 2, 1) := by decide +kernel
theorem dX7_want_6 : decode cX7_want 6 = .ok (.ifCond .lt 9, 3) := by decide +kernel
theorem dX7_want_9 : decode cX7_want 9 = .ok (.iload_n 2, 1) := by decide +kernel
theorem dX7_want_10 : decode cX7_want 10 = .ok (.bipush 6, 2) := by decide +kernel
theorem dX7_want_12 : decode cX7_want 12 = .ok (.if_icmp .le 13, 3) := by decide +kernel
theorem dX7_want_15 : decode cX7_want 15 = .ok (.new 53, 3) := by decide +kernel
theorem dX7_want_18 : decode cX7_want 18 = .ok (.dup, 1) := by decide +kernel
theorem dX7_want_19 : decode cX7_want 19 = .ok (.ldc 233, 2) := by decide +kernel
theorem dX7_want_21 : decode cX7_want 21 = .ok (.invokespecial 57, 3) := by decide +kernel
theorem dX7_want_24 : decode cX7_want 24 = .ok (.athrow, 1) := by decide +kernel
theorem dX7_want_25 : decode cX7_want 25 = .ok (.aload_n 0, 1) := by decide +kernel
theorem dX7_want_26 : decode cX7_want 26 = .ok (.getfield 29, 3) := by decide +kernel
theorem dX7_want_29 : decode cX7_want 29 = .ok (.aload_n 0, 1) := by decide +kernel
theorem dX7_want_30 : decode cX7_want 30 = .ok (.getfield 19, 3) := by decide +kernel
theorem dX7_want_33 : decode cX7_want 33 = .ok (.invokevirtual 214, 3) := by decide +kernel
theorem dX7_want_36 : decode cX7_want 36 = .ok (.aload_n 0, 1) := by decide +kernel
theorem dX7_want_37 : decode cX7_want 37 = .ok (.getfield 19, 3) := by decide +kernel
theorem dX7_want_40 : decode cX7_want 40 = .ok (.iload_n 1, 1) := by decide +kernel
theorem dX7_want_41 : decode cX7_want 41 = .ok (.iload_n 2, 1) := by decide +kernel
theorem dX7_want_42 : decode cX7_want 42 = .ok (.invokevirtual 235, 3) := by decide +kernel
theorem dX7_want_45 : decode cX7_want 45 = .ok (.ireturn, 1) := by decide +kernel
theorem dX7_wantAll_0 : decode cX7_wantAll 0 = .ok (.aload_n 0, 1) := by decide +kernel
theorem dX7_wantAll_1 : decode cX7_wantAll 1 = .ok (.getfield 29, 3) := by decide +kernel
theorem dX7_wantAll_4 : decode cX7_wantAll 4 = .ok (.aload_n 0, 1) := by decide +kernel
theorem dX7_wantAll_5 : decode cX7_wantAll 5 = .ok (.getfield 19, 3) := by decide +kernel
theorem dX7_wantAll_8 : decode cX7_wantAll 8 = .ok (.invokevirtual 214, 3) := by decide +kernel
theorem dX7_wantAll_11 : decode cX7_wantAll 11 = .ok (.aload_n 0, 1) := by decide +kernel
theorem dX7_wantAll_12 : decode cX7_wantAll 12 = .ok (.getfield 19, 3) := by decide +kernel
theorem dX7_wantAll_15 : decode cX7_wantAll 15 = .ok (.invokevirtual 239, 3) := by decide +kernel
theorem dX7_wantAll_18 : decode cX7_wantAll 18 = .ok (.ireturn, 1) := by decide +kernel
theorem dX7_exchange_0 : decode cX7_exchange 0 = .ok (.aload_n 0, 1) := by decide +kernel
theorem dX7_exchange_1 : decode cX7_exchange 1 = .ok (.iload_n 1, 1) := by decide +kernel
theorem dX7_exchange_2 : decode cX7_exchange 2 = .ok (.iload_n 3, 1) := by decide +kernel
theorem dX7_exchange_3 : decode cX7_exchange 3 = .ok (.invokevirtual 165, 3) := by decide +kernel
theorem dX7_exchange_6 : decode cX7_exchange 6 = .ok (.aload_n 0, 1) := by decide +kernel
theorem dX7_exchange_7 : decode cX7_exchange 7 = .ok (.iload_n 2, 1) := by decide +kernel
theorem dX7_exchange_8 : decode cX7_exchange 8 = .ok (.iload 4, 2) := by decide +kernel
theorem dX7_exchange_10 : decode cX7_exchange 10 = .ok (.invokevirtual 165, 3) := by decide +kernel
theorem dX7_exchange_13 : decode cX7_exchange 13 = .ok (.iload_n 2, 1) := by decide +kernel
theorem dX7_exchange_14 : decode cX7_exchange 14 = .ok (.iload_n 1, 1) := by decide +kernel
theorem dX7_exchange_15 : decode cX7_exchange 15 = .ok (.if_icmp .le 9, 3) := by decide +kernel
theorem dX7_exchange_18 : decode cX7_exchange 18 = .ok (.iload 4, 2) := by decide +kernel
theorem dX7_exchange_20 : decode cX7_exchange 20 = .ok (.iload_n 3, 1) := by decide +kernel
theorem dX7_exchange_21 : decode cX7_exchange 21 = .ok (.if_icmp .gt 13, 3) := by decide +kernel
theorem dX7_exchange_24 : decode cX7_exchange 24 = .ok (.new 53, 3) := by decide +kernel
theorem dX7_exchange_27 : decode cX7_exchange 27 = .ok (.dup, 1) := by decide +kernel
theorem dX7_exchange_28 : decode cX7_exchange 28 = .ok (.ldc 242, 2) := by decide +kernel
theorem dX7_exchange_30 : decode cX7_exchange 30 = .ok (.invokespecial 57, 3) := by decide +kernel
theorem dX7_exchange_33 : decode cX7_exchange 33 = .ok (.athrow, 1) := by decide +kernel
theorem dX7_exchange_34 : decode cX7_exchange 34 = .ok (.aload_n 0, 1) := by decide +kernel
theorem dX7_exchange_35 : decode cX7_exchange 35 = .ok (.getfield 19, 3) := by decide +kernel
theorem dX7_exchange_38 : decode cX7_exchange 38 = .ok (.iload_n 1, 1) := by decide +kernel
theorem dX7_exchange_39 : decode cX7_exchange 39 = .ok (.iload_n 2, 1) := by decide +kernel
theorem dX7_exchange_40 : decode cX7_exchange 40 = .ok (.iload_n 3, 1) := by decide +kernel
theorem dX7_exchange_41 : decode cX7_exchange 41 = .ok (.iload 4, 2) := by decide +kernel
theorem dX7_exchange_43 : decode cX7_exchange 43 = .ok (.invokevirtual 244, 3) := by decide +kernel
theorem dX7_exchange_46 : decode cX7_exchange 46 = .ok (.ifCond .ne 13, 3) := by decide +kernel
theorem dX7_exchange_49 : decode cX7_exchange 49 = .ok (.new 64, 3) := by decide +kernel
theorem dX7_exchange_52 : decode cX7_exchange 52 = .ok (.dup, 1) := by decide +kernel
theorem dX7_exchange_53 : decode cX7_exchange 53 = .ok (.ldc 248, 2) := by decide +kernel
theorem dX7_exchange_55 : decode cX7_exchange 55 = .ok (.invokespecial 68, 3) := by decide +kernel
theorem dX7_exchange_58 : decode cX7_exchange 58 = .ok (.athrow, 1) := by decide +kernel
theorem dX7_exchange_59 : decode cX7_exchange 59 = .ok (.aload_n 0, 1) := by decide +kernel
theorem dX7_exchange_60 : decode cX7_exchange 60 = .ok (.getfield 29, 3) := by decide +kernel
theorem dX7_exchange_63 : decode cX7_exchange 63 = .ok (.aload_n 0, 1) := by decide +kernel
theorem dX7_exchange_64 : decode cX7_exchange 64 = .ok (.getfield 19, 3) := by decide +kernel
theorem dX7_exchange_67 : decode cX7_exchange 67 = .ok (.invokevirtual 214, 3) := by decide +kernel
theorem dX7_exchange_70 : decode cX7_exchange 70 = .ok (.aload_n 0, 1) := by decide +kernel
theorem dX7_exchange_71 : decode cX7_exchange 71 = .ok (.getfield 19, 3) := by decide +kernel
theorem dX7_exchange_74 : decode cX7_exchange 74 = .ok (.dup, 1) := by decide +kernel
theorem dX7_exchange_75 : decode cX7_exchange 75 = .ok (.getfield 119, 3) := by decide +kernel
theorem dX7_exchange_78 : decode cX7_exchange 78 = .ok (.iload_n 1, 1) := by decide +kernel
theorem dX7_exchange_79 : decode cX7_exchange 79 = .ok (.iload_n 2, 1) := by decide +kernel
theorem dX7_exchange_80 : decode cX7_exchange 80 = .ok (.iload_n 3, 1) := by decide +kernel
theorem dX7_exchange_81 : decode cX7_exchange 81 = .ok (.iload 4, 2) := by decide +kernel
theorem dX7_exchange_83 : decode cX7_exchange 83 = .ok (.invokestatic 250, 3) := by decide +kernel
theorem dX7_exchange_86 : decode cX7_exchange 86 = .ok (.lxor, 1) := by decide +kernel
theorem dX7_exchange_87 : decode cX7_exchange 87 = .ok (.putfield 119, 3) := by decide +kernel
theorem dX7_exchange_90 : decode cX7_exchange 90 = .ok (.aload_n 0, 1) := by decide +kernel
theorem dX7_exchange_91 : decode cX7_exchange 91 = .ok (.getfield 19, 3) := by decide +kernel
theorem dX7_exchange_94 : decode cX7_exchange 94 = .ok (.getfield 119, 3) := by decide +kernel
theorem dX7_exchange_97 : decode cX7_exchange 97 = .ok (.invokestatic 122, 3) := by decide +kernel
theorem dX7_exchange_100 : decode cX7_exchange 100 = .ok (.ireturn, 1) := by decide +kernel
theorem dX7_solve_0 : decode cX7_solve 0 = .ok (.iload_n 1, 1) := by decide +kernel
theorem dX7_solve_1 : decode cX7_solve 1 = .ok (.ifCond .eq 18, 3) := by decide +kernel
theorem dX7_solve_4 : decode cX7_solve 4 = .ok (.iload_n 1, 1) := by decide +kernel
theorem dX7_solve_5 : decode cX7_solve 5 = .ok (.iconst 1, 1) := by decide +kernel
theorem dX7_solve_6 : decode cX7_solve 6 = .ok (.if_icmp .eq 13, 3) := by decide +kernel
theorem dX7_solve_9 : decode cX7_solve 9 = .ok (.new 53, 3) := by decide +kernel
theorem dX7_solve_12 : decode cX7_solve 12 = .ok (.dup, 1) := by decide +kernel
theorem dX7_solve_13 : decode cX7_solve 13 = .ok (.ldc 254, 2) := by decide +kernel
theorem dX7_solve_15 : decode cX7_solve 15 = .ok (.invokespecial 57, 3) := by decide +kernel
theorem dX7_solve_18 : decode cX7_solve 18 = .ok (.athrow, 1) := by decide +kernel
theorem dX7_solve_19 : decode cX7_solve 19 = .ok (.aload_n 0, 1) := by decide +kernel
theorem dX7_solve_20 : decode cX7_solve 20 = .ok (.getfield 43, 3) := by decide +kernel
theorem dX7_solve_23 : decode cX7_solve 23 = .ok (.aload_n 0, 1) := by decide +kernel
theorem dX7_solve_24 : decode cX7_solve 24 = .ok (.getfield 19, 3) := by decide +kernel
theorem dX7_solve_27 : decode cX7_solve 27 = .ok (.iload_n 1, 1) := by decide +kernel
theorem dX7_solve_28 : decode cX7_solve 28 = .ok (.iconst 1, 1) := by decide +kernel
theorem dX7_solve_29 : decode cX7_solve 29 = .ok (.if_icmp .ne 7, 3) := by decide +kernel
theorem dX7_solve_32 : decode cX7_solve 32 = .ok (.iconst 1, 1) := by decide +kernel
theorem dX7_solve_33 : decode cX7_solve 33 = .ok (.goto 4, 3) := by decide +kernel
theorem dX7_solve_36 : decode cX7_solve 36 = .ok (.iconst 0, 1) := by decide +kernel
theorem dX7_solve_37 : decode cX7_solve 37 = .ok (.invokevirtual 256, 3) := by decide +kernel
theorem dX7_solve_40 : decode cX7_solve 40 = .ok (.ifCond .ne 14, 3) := by decide +kernel
theorem dX7_solve_43 : decode cX7_solve 43 = .ok (.new 64, 3) := by decide +kernel
theorem dX7_solve_46 : decode cX7_solve 46 = .ok (.dup, 1) := by decide +kernel
theorem dX7_solve_47 : decode cX7_solve 47 = .ok (.ldc_w 260, 3) := by decide +kernel
theorem dX7_solve_50 : decode cX7_solve 50 = .ok (.invokespecial 68, 3) := by decide +kernel
theorem dX7_solve_53 : decode cX7_solve 53 = .ok (.athrow, 1) := by decide +kernel
theorem dX7_solve_54 : decode cX7_solve 54 = .ok (.aload_n 0, 1) := by decide +kernel
theorem dX7_solve_55 : decode cX7_solve 55 = .ok (.getfield 29, 3) := by decide +kernel
theorem dX7_solve_58 : decode cX7_solve 58 = .ok (.aload_n 0, 1) := by decide +kernel
theorem dX7_solve_59 : decode cX7_solve 59 = .ok (.getfield 19, 3) := by decide +kernel
theorem dX7_solve_62 : decode cX7_solve 62 = .ok (.invokevirtual 214, 3) := by decide +kernel
theorem dX7_solve_65 : decode cX7_solve 65 = .ok (.aload_n 0, 1) := by decide +kernel
theorem dX7_solve_66 : decode cX7_solve 66 = .ok (.getfield 19, 3) := by decide +kernel
theorem dX7_solve_69 : decode cX7_solve 69 = .ok (.aload_n 0, 1) := by decide +kernel
theorem dX7_solve_70 : decode cX7_solve 70 = .ok (.getfield 43, 3) := by decide +kernel
theorem dX7_solve_73 : decode cX7_solve 73 = .ok (.invokevirtual 262, 3) := by decide +kernel
theorem dX7_solve_76 : decode cX7_solve 76 = .ok (.invokevirtual 266, 3) := by decide +kernel
theorem dX7_solve_79 : decode cX7_solve 79 = .ok (.ireturn, 1) := by decide +kernel
theorem dX7_next_0 : decode cX7_next 0 = .ok (.aload_n 0, 1) := by decide +kernel
theorem dX7_next_1 : decode cX7_next 1 = .ok (.getfield 43, 3) := by decide +kernel
theorem dX7_next_4 : decode cX7_next 4 = .ok (.aload_n 0, 1) := by decide +kernel
theorem dX7_next_5 : decode cX7_next 5 = .ok (.getfield 19, 3) := by decide +kernel
theorem dX7_next_8 : decode cX7_next 8 = .ok (.invokevirtual 269, 3) := by decide +kernel
theorem dX7_next_11 : decode cX7_next 11 = .ok (.ifCond .ne 14, 3) := by decide +kernel
theorem dX7_next_14 : decode cX7_next 14 = .ok (.new 64, 3) := by decide +kernel
theorem dX7_next_17 : decode cX7_next 17 = .ok (.dup, 1) := by decide +kernel
theorem dX7_next_18 : decode cX7_next 18 = .ok (.ldc_w 273, 3) := by decide +kernel
theorem dX7_next_21 : decode cX7_next 21 = .ok (.invokespecial 68, 3) := by decide +kernel
theorem dX7_next_24 : decode cX7_next 24 = .ok (.athrow, 1) := by decide +kernel
theorem dX7_next_25 : decode cX7_next 25 = .ok (.aload_n 0, 1) := by decide +kernel
theorem dX7_next_26 : decode cX7_next 26 = .ok (.getfield 29, 3) := by decide +kernel
theorem dX7_next_29 : decode cX7_next 29 = .ok (.aload_n 0, 1) := by decide +kernel
theorem dX7_next_30 : decode cX7_next 30 = .ok (.getfield 19, 3) := by decide +kernel
theorem dX7_next_33 : decode cX7_next 33 = .ok (.invokevirtual 214, 3) := by decide +kernel
theorem dX7_next_36 : decode cX7_next 36 = .ok (.aload_n 0, 1) := by decide +kernel
theorem dX7_next_37 : decode cX7_next 37 = .ok (.getfield 19, 3) := by decide +kernel
theorem dX7_next_40 : decode cX7_next 40 = .ok (.aload_n 0, 1) := by decide +kernel
theorem dX7_next_41 : decode cX7_next 41 = .ok (.getfield 43, 3) := by decide +kernel
theorem dX7_next_44 : decode cX7_next 44 = .ok (.invokevirtual 262, 3) := by decide +kernel
theorem dX7_next_47 : decode cX7_next 47 = .ok (.invokevirtual 266, 3) := by decide +kernel
theorem dX7_next_50 : decode cX7_next 50 = .ok (.ireturn, 1) := by decide +kernel
theorem dX7_turn_0 : decode cX7_turn 0 = .ok (.aload_n 0, 1) := by decide +kernel
theorem dX7_turn_1 : decode cX7_turn 1 = .ok (.getfield 29, 3) := by decide +kernel
theorem dX7_turn_4 : decode cX7_turn 4 = .ok (.aload_n 0, 1) := by decide +kernel
theorem dX7_turn_5 : decode cX7_turn 5 = .ok (.getfield 19, 3) := by decide +kernel
theorem dX7_turn_8 : decode cX7_turn 8 = .ok (.invokevirtual 214, 3) := by decide +kernel
theorem dX7_turn_11 : decode cX7_turn 11 = .ok (.aload_n 0, 1) := by decide +kernel
theorem dX7_turn_12 : decode cX7_turn 12 = .ok (.getfield 19, 3) := by decide +kernel
theorem dX7_turn_15 : decode cX7_turn 15 = .ok (.invokevirtual 275, 3) := by decide +kernel
theorem dX7_turn_18 : decode cX7_turn 18 = .ok (.aload_n 0, 1) := by decide +kernel
theorem dX7_turn_19 : decode cX7_turn 19 = .ok (.getfield 19, 3) := by decide +kernel
theorem dX7_turn_22 : decode cX7_turn 22 = .ok (.getfield 93, 3) := by decide +kernel
theorem dX7_turn_25 : decode cX7_turn 25 = .ok (.ireturn, 1) := by decide +kernel
theorem dX7_undo_0 : decode cX7_undo 0 = .ok (.aload_n 0, 1) := by decide +kernel
theorem dX7_undo_1 : decode cX7_undo 1 = .ok (.getfield 29, 3) := by decide +kernel
theorem dX7_undo_4 : decode cX7_undo 4 = .ok (.invokevirtual 278, 3) := by decide +kernel
theorem dX7_undo_7 : decode cX7_undo 7 = .ok (.ifCond .eq 14, 3) := by decide +kernel
theorem dX7_undo_10 : decode cX7_undo 10 = .ok (.new 64, 3) := by decide +kernel
theorem dX7_undo_13 : decode cX7_undo 13 = .ok (.dup, 1) := by decide +kernel
theorem dX7_undo_14 : decode cX7_undo 14 = .ok (.ldc_w 281, 3) := by decide +kernel
theorem dX7_undo_17 : decode cX7_undo 17 = .ok (.invokespecial 68, 3) := by decide +kernel
theorem dX7_undo_20 : decode cX7_undo 20 = .ok (.athrow, 1) := by decide +kernel
theorem dX7_undo_21 : decode cX7_undo 21 = .ok (.aload_n 0, 1) := by decide +kernel
theorem dX7_undo_22 : decode cX7_undo 22 = .ok (.getfield 29, 3) := by decide +kernel
theorem dX7_undo_25 : decode cX7_undo 25 = .ok (.aload_n 0, 1) := by decide +kernel
theorem dX7_undo_26 : decode cX7_undo 26 = .ok (.getfield 19, 3) := by decide +kernel
theorem dX7_undo_29 : decode cX7_undo 29 = .ok (.invokevirtual 283, 3) := by decide +kernel
theorem dX7_undo_32 : decode cX7_undo 32 = .ok (.ireturn, 1) := by decide +kernel
theorem dX7_howMany_0 : decode cX7_howMany 0 = .ok (.aload_n 0, 1) := by decide +kernel
theorem dX7_howMany_1 : decode cX7_howMany 1 = .ok (.invokevirtual 287, 3) := by decide +kernel
theorem dX7_howMany_4 : decode cX7_howMany 4 = .ok (.ireturn, 1) := by decide +kernel
theorem dX7_sure_0 : decode cX7_sure 0 = .ok (.aload_n 0, 1) := by decide +kernel
theorem dX7_sure_1 : decode cX7_sure 1 = .ok (.getfield 43, 3) := by decide +kernel
theorem dX7_sure_4 : decode cX7_sure 4 = .ok (.aload_n 0, 1) := by decide +kernel
theorem dX7_sure_5 : decode cX7_sure 5 = .ok (.getfield 19, 3) := by decide +kernel
theorem dX7_sure_8 : decode cX7_sure 8 = .ok (.invokevirtual 180, 3) := by decide +kernel
theorem dX7_sure_11 : decode cX7_sure 11 = .ok (.lstore_n 2, 1) := by decide +kernel
theorem dX7_sure_12 : decode cX7_sure 12 = .ok (.iload_n 1, 1) := by decide +kernel
theorem dX7_sure_13 : decode cX7_sure 13 = .ok (.ifCond .eq 15, 3) := by decide +kernel
theorem dX7_sure_16 : decode cX7_sure 16 = .ok (.lload_n 2, 1) := by decide +kernel
theorem dX7_sure_17 : decode cX7_sure 17 = .ok (.aload_n 0, 1) := by decide +kernel
theorem dX7_sure_18 : decode cX7_sure 18 = .ok (.getfield 43, 3) := by decide +kernel
theorem dX7_sure_21 : decode cX7_sure 21 = .ok (.invokevirtual 262, 3) := by decide +kernel
theorem dX7_sure_24 : decode cX7_sure 24 = .ok (.land, 1) := by decide +kernel
theorem dX7_sure_25 : decode cX7_sure 25 = .ok (.goto 16, 3) := by decide +kernel
theorem dX7_sure_28 : decode cX7_sure 28 = .ok (.lload_n 2, 1) := by decide +kernel
theorem dX7_sure_29 : decode cX7_sure 29 = .ok (.aload_n 0, 1) := by decide +kernel
theorem dX7_sure_30 : decode cX7_sure 30 = .ok (.getfield 43, 3) := by decide +kernel
theorem dX7_sure_33 : decode cX7_sure 33 = .ok (.invokevirtual 262, 3) := by decide +kernel
theorem dX7_sure_36 : decode cX7_sure 36 = .ok (.ldc2_w 210, 3) := by decide +kernel
theorem dX7_sure_39 : decode cX7_sure 39 = .ok (.lxor, 1) := by decide +kernel
theorem dX7_sure_40 : decode cX7_sure 40 = .ok (.land, 1) := by decide +kernel
theorem dX7_sure_41 : decode cX7_sure 41 = .ok (.invokestatic 104, 3) := by decide +kernel
theorem dX7_sure_44 : decode cX7_sure 44 = .ok (.ireturn, 1) := by decide +kernel
theorem dX7_split_0 : decode cX7_split 0 = .ok (.aload_n 0, 1) := by decide +kernel
theorem dX7_split_1 : decode cX7_split 1 = .ok (.invokevirtual 287, 3) := by decide +kernel
theorem dX7_split_4 : decode cX7_split 4 = .ok (.istore_n 1, 1) := by decide +kernel
theorem dX7_split_5 : decode cX7_split 5 = .ok (.iload_n 1, 1) := by decide +kernel
theorem dX7_split_6 : decode cX7_split 6 = .ok (.iconst 2, 1) := by decide +kernel
theorem dX7_split_7 : decode cX7_split 7 = .ok (.if_icmp .lt 9, 3) := by decide +kernel
theorem dX7_split_10 : decode cX7_split 10 = .ok (.iload_n 1, 1) := by decide +kernel
theorem dX7_split_11 : decode cX7_split 11 = .ok (.bipush 100, 2) := by decide +kernel
theorem dX7_split_13 : decode cX7_split 13 = .ok (.if_icmp .lt 6, 3) := by decide +kernel
theorem dX7_split_16 : decode cX7_split 16 = .ok (.bipush (-9), 2) := by decide +kernel
theorem dX7_split_18 : decode cX7_split 18 = .ok (.ireturn, 1) := by decide +kernel
theorem dX7_split_19 : decode cX7_split 19 = .ok (.aload_n 0, 1) := by decide +kernel
theorem dX7_split_20 : decode cX7_split 20 = .ok (.invokevirtual 290, 3) := by decide +kernel
theorem dX7_split_23 : decode cX7_split 23 = .ok (.aload_n 0, 1) := by decide +kernel
theorem dX7_split_24 : decode cX7_split 24 = .ok (.iload_n 1, 1) := by decide +kernel
theorem dX7_split_25 : decode cX7_split 25 = .ok (.invokevirtual 293, 3) := by decide +kernel
theorem dX7_split_28 : decode cX7_split 28 = .ok (.ireturn, 1) := by decide +kernel
theorem dX7_nearest_0 : decode cX7_nearest 0 = .ok (.aload_n 0, 1) := by decide +kernel
theorem dX7_nearest_1 : decode cX7_nearest 1 = .ok (.invokevirtual 287, 3) := by decide +kernel
theorem dX7_nearest_4 : decode cX7_nearest 4 = .ok (.istore_n 1, 1) := by decide +kernel
theorem dX7_nearest_5 : decode cX7_nearest 5 = .ok (.iload_n 1, 1) := by decide +kernel
theorem dX7_nearest_6 : decode cX7_nearest 6 = .ok (.iconst 1, 1) := by decide +kernel
theorem dX7_nearest_7 : decode cX7_nearest 7 = .ok (.if_icmp .lt 9, 3) := by decide +kernel
theorem dX7_nearest_10 : decode cX7_nearest 10 = .ok (.iload_n 1, 1) := by decide +kernel
theorem dX7_nearest_11 : decode cX7_nearest 11 = .ok (.bipush 100, 2) := by decide +kernel
theorem dX7_nearest_13 : decode cX7_nearest 13 = .ok (.if_icmp .lt 14, 3) := by decide +kernel
theorem dX7_nearest_16 : decode cX7_nearest 16 = .ok (.new 64, 3) := by decide +kernel
theorem dX7_nearest_19 : decode cX7_nearest 19 = .ok (.dup, 1) := by decide +kernel
theorem dX7_nearest_20 : decode cX7_nearest 20 = .ok (.ldc_w 296, 3) := by decide +kernel
theorem dX7_nearest_23 : decode cX7_nearest 23 = .ok (.invokespecial 68, 3) := by decide +kernel
theorem dX7_nearest_26 : decode cX7_nearest 26 = .ok (.athrow, 1) := by decide +kernel
theorem dX7_nearest_27 : decode cX7_nearest 27 = .ok (.aload_n 0, 1) := by decide +kernel
theorem dX7_nearest_28 : decode cX7_nearest 28 = .ok (.invokevirtual 298, 3) := by decide +kernel
theorem dX7_nearest_31 : decode cX7_nearest 31 = .ok (.ireturn, 1) := by decide +kernel
theorem dX7_bestExchange_0 : decode cX7_bestExchange 0 = .ok (.bipush (-9), 2) := by decide +kernel
theorem dX7_bestExchange_2 : decode cX7_bestExchange 2 = .ok (.istore_n 1, 1) := by decide +kernel
theorem dX7_bestExchange_3 : decode cX7_bestExchange 3 = .ok (.iconst 0, 1) := by decide +kernel
theorem dX7_bestExchange_4 : decode cX7_bestExchange 4 = .ok (.istore_n 2, 1) := by decide +kernel
theorem dX7_bestExchange_5 : decode cX7_bestExchange 5 = .ok (.iconst 0, 1) := by decide +kernel
theorem dX7_bestExchange_6 : decode cX7_bestExchange 6 = .ok (.istore_n 3, 1) := by decide +kernel
theorem dX7_bestExchange_7 : decode cX7_bestExchange 7 = .ok (.aload_n 0, 1) := by decide +kernel
theorem dX7_bestExchange_8 : decode cX7_bestExchange 8 = .ok (.getfield 19, 3) := by decide +kernel
theorem dX7_bestExchange_11 : decode cX7_bestExchange 11 = .ok (.invokevirtual 133, 3) := by decide +kernel
theorem dX7_bestExchange_14 : decode cX7_bestExchange 14 = .ok (.istore 4, 2) := by decide +kernel
theorem dX7_bestExchange_16 : decode cX7_bestExchange 16 = .ok (.iconst 0, 1) := by decide +kernel
theorem dX7_bestExchange_17 : decode cX7_bestExchange 17 = .ok (.istore 5, 2) := by decide +kernel
theorem dX7_bestExchange_19 : decode cX7_bestExchange 19 = .ok (.iload 5, 2) := by decide +kernel
theorem dX7_bestExchange_21 : decode cX7_bestExchange 21 = .ok (.iload 4, 2) := by decide +kernel
theorem dX7_bestExchange_23 : decode cX7_bestExchange 23 = .ok (.if_icmp .ge 80, 3) := by decide +kernel
theorem dX7_bestExchange_26 : decode cX7_bestExchange 26 = .ok (.aload_n 0, 1) := by decide +kernel
theorem dX7_bestExchange_27 : decode cX7_bestExchange 27 = .ok (.getfield 19, 3) := by decide +kernel
theorem dX7_bestExchange_30 : decode cX7_bestExchange 30 = .ok (.getfield 119, 3) := by decide +kernel
theorem dX7_bestExchange_33 : decode cX7_bestExchange 33 = .ok (.aload_n 0, 1) := by decide +kernel
theorem dX7_bestExchange_34 : decode cX7_bestExchange 34 = .ok (.getfield 19, 3) := by decide +kernel
theorem dX7_bestExchange_37 : decode cX7_bestExchange 37 = .ok (.iload 5, 2) := by decide +kernel
theorem dX7_bestExchange_39 : decode cX7_bestExchange 39 = .ok (.invokevirtual 207, 3) := by decide +kernel
theorem dX7_bestExchange_42 : decode cX7_bestExchange 42 = .ok (.invokestatic 301, 3) := by decide +kernel
theorem dX7_bestExchange_45 : decode cX7_bestExchange 45 = .ok (.lxor, 1) := by decide +kernel
theorem dX7_bestExchange_46 : decode cX7_bestExchange 46 = .ok (.lstore 6, 2) := by decide +kernel
theorem dX7_bestExchange_48 : decode cX7_bestExchange 48 = .ok (.lload 6, 2) := by decide +kernel
theorem dX7_bestExchange_50 : decode cX7_bestExchange 50 = .ok (.invokestatic 122, 3) := by decide +kernel
theorem dX7_bestExchange_53 : decode cX7_bestExchange 53 = .ok (.istore 8, 2) := by decide +kernel
theorem dX7_bestExchange_55 : decode cX7_bestExchange 55 = .ok (.lload 6, 2) := by decide +kernel
theorem dX7_bestExchange_57 : decode cX7_bestExchange 57 = .ok (.lload 6, 2) := by decide +kernel
theorem dX7_bestExchange_59 : decode cX7_bestExchange 59 = .ok (.invokestatic 125, 3) := by decide +kernel
theorem dX7_bestExchange_62 : decode cX7_bestExchange 62 = .ok (.istore 9, 2) := by decide +kernel
theorem dX7_bestExchange_64 : decode cX7_bestExchange 64 = .ok (.iload_n 1, 1) := by decide +kernel
theorem dX7_bestExchange_65 : decode cX7_bestExchange 65 = .ok (.bipush (-9), 2) := by decide +kernel
theorem dX7_bestExchange_67 : decode cX7_bestExchange 67 = .ok (.if_icmp .eq 21, 3) := by decide +kernel
theorem dX7_bestExchange_70 : decode cX7_bestExchange 70 = .ok (.iload 8, 2) := by decide +kernel
theorem dX7_bestExchange_72 : decode cX7_bestExchange 72 = .ok (.iload_n 2, 1) := by decide +kernel
theorem dX7_bestExchange_73 : decode cX7_bestExchange 73 = .ok (.if_icmp .lt 15, 3) := by decide +kernel
theorem dX7_bestExchange_76 : decode cX7_bestExchange 76 = .ok (.iload 8, 2) := by decide +kernel
theorem dX7_bestExchange_78 : decode cX7_bestExchange 78 = .ok (.iload_n 2, 1) := by decide +kernel
theorem dX7_bestExchange_79 : decode cX7_bestExchange 79 = .ok (.if_icmp .ne 18, 3) := by decide +kernel
theorem dX7_bestExchange_82 : decode cX7_bestExchange 82 = .ok (.iload 9, 2) := by decide +kernel
theorem dX7_bestExchange_84 : decode cX7_bestExchange 84 = .ok (.iload_n 3, 1) := by decide +kernel
theorem dX7_bestExchange_85 : decode cX7_bestExchange 85 = .ok (.if_icmp .ge 12, 3) := by decide +kernel
theorem dX7_bestExchange_88 : decode cX7_bestExchange 88 = .ok (.iload 5, 2) := by decide +kernel
theorem dX7_bestExchange_90 : decode cX7_bestExchange 90 = .ok (.istore_n 1, 1) := by decide +kernel
theorem dX7_bestExchange_91 : decode cX7_bestExchange 91 = .ok (.iload 8, 2) := by decide +kernel
theorem dX7_bestExchange_93 : decode cX7_bestExchange 93 = .ok (.istore_n 2, 1) := by decide +kernel
theorem dX7_bestExchange_94 : decode cX7_bestExchange 94 = .ok (.iload 9, 2) := by decide +kernel
theorem dX7_bestExchange_96 : decode cX7_bestExchange 96 = .ok (.istore_n 3, 1) := by decide +kernel
theorem dX7_bestExchange_97 : decode cX7_bestExchange 97 = .ok (.iinc 5 1, 3) := by decide +kernel
theorem dX7_bestExchange_100 : decode cX7_bestExchange 100 = .ok (.goto (-81), 3) := by decide +kernel
theorem dX7_bestExchange_103 : decode cX7_bestExchange 103 = .ok (.iload_n 1, 1) := by decide +kernel
theorem dX7_bestExchange_104 : decode cX7_bestExchange 104 = .ok (.ireturn, 1) := by decide +kernel
theorem dX7_save_0 : decode cX7_save 0 = .ok (.aload_n 0, 1) := by decide +kernel
theorem dX7_save_1 : decode cX7_save 1 = .ok (.iload_n 1, 1) := by decide +kernel
theorem dX7_save_2 : decode cX7_save 2 = .ok (.invokevirtual 323, 3) := by decide +kernel
theorem dX7_save_5 : decode cX7_save 5 = .ok (.aload_n 0, 1) := by decide +kernel
theorem dX7_save_6 : decode cX7_save 6 = .ok (.getfield 36, 3) := by decide +kernel
theorem dX7_save_9 : decode cX7_save 9 = .ok (.iload_n 1, 1) := by decide +kernel
theorem dX7_save_10 : decode cX7_save 10 = .ok (.aload_n 0, 1) := by decide +kernel
theorem dX7_save_11 : decode cX7_save 11 = .ok (.getfield 19, 3) := by decide +kernel
theorem dX7_save_14 : decode cX7_save 14 = .ok (.invokevirtual 326, 3) := by decide +kernel
theorem dX7_save_17 : decode cX7_save 17 = .ok (.aload_n 0, 1) := by decide +kernel
theorem dX7_save_18 : decode cX7_save 18 = .ok (.getfield 19, 3) := by decide +kernel
theorem dX7_save_21 : decode cX7_save 21 = .ok (.invokevirtual 90, 3) := by decide +kernel
theorem dX7_save_24 : decode cX7_save 24 = .ok (.ireturn, 1) := by decide +kernel
theorem dX7_restore_0 : decode cX7_restore 0 = .ok (.aload_n 0, 1) := by decide +kernel
theorem dX7_restore_1 : decode cX7_restore 1 = .ok (.iload_n 1, 1) := by decide +kernel
theorem dX7_restore_2 : decode cX7_restore 2 = .ok (.invokevirtual 323, 3) := by decide +kernel
theorem dX7_restore_5 : decode cX7_restore 5 = .ok (.aload_n 0, 1) := by decide +kernel
theorem dX7_restore_6 : decode cX7_restore 6 = .ok (.getfield 36, 3) := by decide +kernel
theorem dX7_restore_9 : decode cX7_restore 9 = .ok (.iload_n 1, 1) := by decide +kernel
theorem dX7_restore_10 : decode cX7_restore 10 = .ok (.invokevirtual 329, 3) := by decide +kernel
theorem dX7_restore_13 : decode cX7_restore 13 = .ok (.ifCond .ne 14, 3) := by decide +kernel
theorem dX7_restore_16 : decode cX7_restore 16 = .ok (.new 64, 3) := by decide +kernel
theorem dX7_restore_19 : decode cX7_restore 19 = .ok (.dup, 1) := by decide +kernel
theorem dX7_restore_20 : decode cX7_restore 20 = .ok (.ldc_w 332, 3) := by decide +kernel
theorem dX7_restore_23 : decode cX7_restore 23 = .ok (.invokespecial 68, 3) := by decide +kernel
theorem dX7_restore_26 : decode cX7_restore 26 = .ok (.athrow, 1) := by decide +kernel
theorem dX7_restore_27 : decode cX7_restore 27 = .ok (.aload_n 0, 1) := by decide +kernel
theorem dX7_restore_28 : decode cX7_restore 28 = .ok (.getfield 36, 3) := by decide +kernel
theorem dX7_restore_31 : decode cX7_restore 31 = .ok (.iload_n 1, 1) := by decide +kernel
theorem dX7_restore_32 : decode cX7_restore 32 = .ok (.aload_n 0, 1) := by decide +kernel
theorem dX7_restore_33 : decode cX7_restore 33 = .ok (.getfield 19, 3) := by decide +kernel
theorem dX7_restore_36 : decode cX7_restore 36 = .ok (.invokevirtual 334, 3) := by decide +kernel
theorem dX7_restore_39 : decode cX7_restore 39 = .ok (.aload_n 0, 1) := by decide +kernel
theorem dX7_restore_40 : decode cX7_restore 40 = .ok (.getfield 29, 3) := by decide +kernel
theorem dX7_restore_43 : decode cX7_restore 43 = .ok (.invokevirtual 86, 3) := by decide +kernel
theorem dX7_restore_46 : decode cX7_restore 46 = .ok (.aload_n 0, 1) := by decide +kernel
theorem dX7_restore_47 : decode cX7_restore 47 = .ok (.getfield 19, 3) := by decide +kernel
theorem dX7_restore_50 : decode cX7_restore 50 = .ok (.invokevirtual 90, 3) := by decide +kernel
theorem dX7_restore_53 : decode cX7_restore 53 = .ok (.ireturn, 1) := by decide +kernel
theorem dX7_checkLine_0 : decode cX7_checkLine 0 = .ok (.aload_n 0, 1) := by decide +kernel
theorem dX7_checkLine_1 : decode cX7_checkLine 1 = .ok (.getfield 19, 3) := by decide +kernel
theorem dX7_checkLine_4 : decode cX7_checkLine 4 = .ok (.iload_n 1, 1) := by decide +kernel
theorem dX7_checkLine_5 : decode cX7_checkLine 5 = .ok (.invokevirtual 337, 3) := by decide +kernel
theorem dX7_checkLine_8 : decode cX7_checkLine 8 = .ok (.ifCond .ne 14, 3) := by decide +kernel
theorem dX7_checkLine_11 : decode cX7_checkLine 11 = .ok (.new 184, 3) := by decide +kernel
theorem dX7_checkLine_14 : decode cX7_checkLine 14 = .ok (.dup, 1) := by decide +kernel
theorem dX7_checkLine_15 : decode cX7_checkLine 15 = .ok (.ldc_w 340, 3) := by decide +kernel
theorem dX7_checkLine_18 : decode cX7_checkLine 18 = .ok (.invokespecial 188, 3) := by decide +kernel
theorem dX7_checkLine_21 : decode cX7_checkLine 21 = .ok (.athrow, 1) := by decide +kernel
theorem dX7_checkLine_22 : decode cX7_checkLine 22 = .ok (.return_, 1) := by decide +kernel
theorem dX7_checkCell_0 : decode cX7_checkCell 0 = .ok (.aload_n 0, 1) := by decide +kernel
theorem dX7_checkCell_1 : decode cX7_checkCell 1 = .ok (.getfield 19, 3) := by decide +kernel
theorem dX7_checkCell_4 : decode cX7_checkCell 4 = .ok (.iload_n 1, 1) := by decide +kernel
theorem dX7_checkCell_5 : decode cX7_checkCell 5 = .ok (.iload_n 2, 1) := by decide +kernel
theorem dX7_checkCell_6 : decode cX7_checkCell 6 = .ok (.invokevirtual 342, 3) := by decide +kernel
theorem dX7_checkCell_9 : decode cX7_checkCell 9 = .ok (.ifCond .ne 14, 3) := by decide +kernel
theorem dX7_checkCell_12 : decode cX7_checkCell 12 = .ok (.new 184, 3) := by decide +kernel
theorem dX7_checkCell_15 : decode cX7_checkCell 15 = .ok (.dup, 1) := by decide +kernel
theorem dX7_checkCell_16 : decode cX7_checkCell 16 = .ok (.ldc_w 345, 3) := by decide +kernel
theorem dX7_checkCell_19 : decode cX7_checkCell 19 = .ok (.invokespecial 188, 3) := by decide +kernel
theorem dX7_checkCell_22 : decode cX7_checkCell 22 = .ok (.athrow, 1) := by decide +kernel
theorem dX7_checkCell_23 : decode cX7_checkCell 23 = .ok (.return_, 1) := by decide +kernel
theorem dX7_checkSlot_0 : decode cX7_checkSlot 0 = .ok (.iload_n 1, 1) := by decide +kernel
theorem dX7_checkSlot_1 : decode cX7_checkSlot 1 = .ok (.ifCond .eq 19, 3) := by decide +kernel
theorem dX7_checkSlot_4 : decode cX7_checkSlot 4 = .ok (.iload_n 1, 1) := by decide +kernel
theorem dX7_checkSlot_5 : decode cX7_checkSlot 5 = .ok (.iconst 1, 1) := by decide +kernel
theorem dX7_checkSlot_6 : decode cX7_checkSlot 6 = .ok (.if_icmp .eq 14, 3) := by decide +kernel
theorem dX7_checkSlot_9 : decode cX7_checkSlot 9 = .ok (.new 184, 3) := by decide +kernel
theorem dX7_checkSlot_12 : decode cX7_checkSlot 12 = .ok (.dup, 1) := by decide +kernel
theorem dX7_checkSlot_13 : decode cX7_checkSlot 13 = .ok (.ldc_w 347, 3) := by decide +kernel
theorem dX7_checkSlot_16 : decode cX7_checkSlot 16 = .ok (.invokespecial 188, 3) := by decide +kernel
theorem dX7_checkSlot_19 : decode cX7_checkSlot 19 = .ok (.athrow, 1) := by decide +kernel
theorem dX7_checkSlot_20 : decode cX7_checkSlot 20 = .ok (.return_, 1) := by decide +kernel
theorem dX7_oneIf_0 : decode cX7_oneIf 0 = .ok (.iload_n 0, 1) := by decide +kernel
theorem dX7_oneIf_1 : decode cX7_oneIf 1 = .ok (.ifCond .eq 7, 3) := by decide +kernel
theorem dX7_oneIf_4 : decode cX7_oneIf 4 = .ok (.iconst 1, 1) := by decide +kernel
theorem dX7_oneIf_5 : decode cX7_oneIf 5 = .ok (.goto 4, 3) := by decide +kernel
theorem dX7_oneIf_8 : decode cX7_oneIf 8 = .ok (.iconst 0, 1) := by decide +kernel
theorem dX7_oneIf_9 : decode cX7_oneIf 9 = .ok (.ireturn, 1) := by decide +kernel
theorem dX7_countFitting_0 : decode cX7_countFitting 0 = .ok (.iconst 0, 1) := by decide +kernel
theorem dX7_countFitting_1 : decode cX7_countFitting 1 = .ok (.istore_n 1, 1) := by decide +kernel
theorem dX7_countFitting_2 : decode cX7_countFitting 2 = .ok (.aload_n 0, 1) := by decide +kernel
theorem dX7_countFitting_3 : decode cX7_countFitting 3 = .ok (.getfield 43, 3) := by decide +kernel
theorem dX7_countFitting_6 : decode cX7_countFitting 6 = .ok (.aload_n 0, 1) := by decide +kernel
theorem dX7_countFitting_7 : decode cX7_countFitting 7 = .ok (.getfield 19, 3) := by decide +kernel
theorem dX7_countFitting_10 : decode cX7_countFitting 10 = .ok (.iconst 0, 1) := by decide +kernel
theorem dX7_countFitting_11 : decode cX7_countFitting 11 = .ok (.invokevirtual 256, 3) := by decide +kernel
theorem dX7_countFitting_14 : decode cX7_countFitting 14 = .ok (.istore_n 2, 1) := by decide +kernel
theorem dX7_countFitting_15 : decode cX7_countFitting 15 = .ok (.iload_n 2, 1) := by decide +kernel
theorem dX7_countFitting_16 : decode cX7_countFitting 16 = .ok (.ifCond .eq 27, 3) := by decide +kernel
theorem dX7_countFitting_19 : decode cX7_countFitting 19 = .ok (.iload_n 1, 1) := by decide +kernel
theorem dX7_countFitting_20 : decode cX7_countFitting 20 = .ok (.bipush 100, 2) := by decide +kernel
theorem dX7_countFitting_22 : decode cX7_countFitting 22 = .ok (.if_icmp .ge 21, 3) := by decide +kernel
theorem dX7_countFitting_25 : decode cX7_countFitting 25 = .ok (.iinc 1 1, 3) := by decide +kernel
theorem dX7_countFitting_28 : decode cX7_countFitting 28 = .ok (.aload_n 0, 1) := by decide +kernel
theorem dX7_countFitting_29 : decode cX7_countFitting 29 = .ok (.getfield 43, 3) := by decide +kernel
theorem dX7_countFitting_32 : decode cX7_countFitting 32 = .ok (.aload_n 0, 1) := by decide +kernel
theorem dX7_countFitting_33 : decode cX7_countFitting 33 = .ok (.getfield 19, 3) := by decide +kernel
theorem dX7_countFitting_36 : decode cX7_countFitting 36 = .ok (.invokevirtual 349, 3) := by decide +kernel
theorem dX7_countFitting_39 : decode cX7_countFitting 39 = .ok (.istore_n 2, 1) := by decide +kernel
theorem dX7_countFitting_40 : decode cX7_countFitting 40 = .ok (.goto (-25), 3) := by decide +kernel
theorem dX7_countFitting_43 : decode cX7_countFitting 43 = .ok (.iload_n 1, 1) := by decide +kernel
theorem dX7_countFitting_44 : decode cX7_countFitting 44 = .ok (.ireturn, 1) := by decide +kernel
theorem dX7_tallyFitting_0 : decode cX7_tallyFitting 0 = .ok (.iconst 0, 1) := by decide +kernel
theorem dX7_tallyFitting_1 : decode cX7_tallyFitting 1 = .ok (.istore_n 1, 1) := by decide +kernel
theorem dX7_tallyFitting_2 : decode cX7_tallyFitting 2 = .ok (.iload_n 1, 1) := by decide +kernel
theorem dX7_tallyFitting_3 : decode cX7_tallyFitting 3 = .ok (.aload_n 0, 1) := by decide +kernel
theorem dX7_tallyFitting_4 : decode cX7_tallyFitting 4 = .ok (.getfield 49, 3) := by decide +kernel
theorem dX7_tallyFitting_7 : decode cX7_tallyFitting 7 = .ok (.arraylength, 1) := by decide +kernel
theorem dX7_tallyFitting_8 : decode cX7_tallyFitting 8 = .ok (.if_icmp .ge 16, 3) := by decide +kernel
theorem dX7_tallyFitting_11 : decode cX7_tallyFitting 11 = .ok (.aload_n 0, 1) := by decide +kernel
theorem dX7_tallyFitting_12 : decode cX7_tallyFitting 12 = .ok (.getfield 49, 3) := by decide +kernel
theorem dX7_tallyFitting_15 : decode cX7_tallyFitting 15 = .ok (.iload_n 1, 1) := by decide +kernel
theorem dX7_tallyFitting_16 : decode cX7_tallyFitting 16 = .ok (.iconst 0, 1) := by decide +kernel
theorem dX7_tallyFitting_17 : decode cX7_tallyFitting 17 = .ok (.iastore, 1) := by decide +kernel
theorem dX7_tallyFitting_18 : decode cX7_tallyFitting 18 = .ok (.iinc 1 1, 3) := by decide +kernel
theorem dX7_tallyFitting_21 : decode cX7_tallyFitting 21 = .ok (.goto (-19), 3) := by decide +kernel
theorem dX7_tallyFitting_24 : decode cX7_tallyFitting 24 = .ok (.aload_n 0, 1) := by decide +kernel
theorem dX7_tallyFitting_25 : decode cX7_tallyFitting 25 = .ok (.getfield 43, 3) := by decide +kernel
theorem dX7_tallyFitting_28 : decode cX7_tallyFitting 28 = .ok (.aload_n 0, 1) := by decide +kernel
theorem dX7_tallyFitting_29 : decode cX7_tallyFitting 29 = .ok (.getfield 19, 3) := by decide +kernel
theorem dX7_tallyFitting_32 : decode cX7_tallyFitting 32 = .ok (.iconst 0, 1) := by decide +kernel
theorem dX7_tallyFitting_33 : decode cX7_tallyFitting 33 = .ok (.invokevirtual 256, 3) := by decide +kernel
theorem dX7_tallyFitting_36 : decode cX7_tallyFitting 36 = .ok (.istore_n 1, 1) := by decide +kernel
theorem dX7_tallyFitting_37 : decode cX7_tallyFitting 37 = .ok (.iconst 0, 1) := by decide +kernel
theorem dX7_tallyFitting_38 : decode cX7_tallyFitting 38 = .ok (.istore_n 2, 1) := by decide +kernel
theorem dX7_tallyFitting_39 : decode cX7_tallyFitting 39 = .ok (.iload_n 1, 1) := by decide +kernel
theorem dX7_tallyFitting_40 : decode cX7_tallyFitting 40 = .ok (.ifCond .eq 65, 3) := by decide +kernel
theorem dX7_tallyFitting_43 : decode cX7_tallyFitting 43 = .ok (.iload_n 2, 1) := by decide +kernel
theorem dX7_tallyFitting_44 : decode cX7_tallyFitting 44 = .ok (.bipush 100, 2) := by decide +kernel
theorem dX7_tallyFitting_46 : decode cX7_tallyFitting 46 = .ok (.if_icmp .ge 59, 3) := by decide +kernel
theorem dX7_tallyFitting_49 : decode cX7_tallyFitting 49 = .ok (.iconst 0, 1) := by decide +kernel
theorem dX7_tallyFitting_50 : decode cX7_tallyFitting 50 = .ok (.istore_n 3, 1) := by decide +kernel
theorem dX7_tallyFitting_51 : decode cX7_tallyFitting 51 = .ok (.iload_n 3, 1) := by decide +kernel
theorem dX7_tallyFitting_52 : decode cX7_tallyFitting 52 = .ok (.aload_n 0, 1) := by decide +kernel
theorem dX7_tallyFitting_53 : decode cX7_tallyFitting 53 = .ok (.getfield 49, 3) := by decide +kernel
theorem dX7_tallyFitting_56 : decode cX7_tallyFitting 56 = .ok (.arraylength, 1) := by decide +kernel
theorem dX7_tallyFitting_57 : decode cX7_tallyFitting 57 = .ok (.if_icmp .ge 30, 3) := by decide +kernel
theorem dX7_tallyFitting_60 : decode cX7_tallyFitting 60 = .ok (.aload_n 0, 1) := by decide +kernel
theorem dX7_tallyFitting_61 : decode cX7_tallyFitting 61 = .ok (.getfield 49, 3) := by decide +kernel
theorem dX7_tallyFitting_64 : decode cX7_tallyFitting 64 = .ok (.iload_n 3, 1) := by decide +kernel
theorem dX7_tallyFitting_65 : decode cX7_tallyFitting 65 = .ok (.dup2, 1) := by decide +kernel
theorem dX7_tallyFitting_66 : decode cX7_tallyFitting 66 = .ok (.iaload, 1) := by decide +kernel
theorem dX7_tallyFitting_67 : decode cX7_tallyFitting 67 = .ok (.aload_n 0, 1) := by decide +kernel
theorem dX7_tallyFitting_68 : decode cX7_tallyFitting 68 = .ok (.getfield 43, 3) := by decide +kernel
theorem dX7_tallyFitting_71 : decode cX7_tallyFitting 71 = .ok (.invokevirtual 262, 3) := by decide +kernel
theorem dX7_tallyFitting_74 : decode cX7_tallyFitting 74 = .ok (.iload_n 3, 1) := by decide +kernel
theorem dX7_tallyFitting_75 : decode cX7_tallyFitting 75 = .ok (.lushr, 1) := by decide +kernel
theorem dX7_tallyFitting_76 : decode cX7_tallyFitting 76 = .ok (.l2i, 1) := by decide +kernel
theorem dX7_tallyFitting_77 : decode cX7_tallyFitting 77 = .ok (.iconst 1, 1) := by decide +kernel
theorem dX7_tallyFitting_78 : decode cX7_tallyFitting 78 = .ok (.iand, 1) := by decide +kernel
theorem dX7_tallyFitting_79 : decode cX7_tallyFitting 79 = .ok (.iadd, 1) := by decide +kernel
theorem dX7_tallyFitting_80 : decode cX7_tallyFitting 80 = .ok (.iastore, 1) := by decide +kernel
theorem dX7_tallyFitting_81 : decode cX7_tallyFitting 81 = .ok (.iinc 3 1, 3) := by decide +kernel
theorem dX7_tallyFitting_84 : decode cX7_tallyFitting 84 = .ok (.goto (-33), 3) := by decide +kernel
theorem dX7_tallyFitting_87 : decode cX7_tallyFitting 87 = .ok (.aload_n 0, 1) := by decide +kernel
theorem dX7_tallyFitting_88 : decode cX7_tallyFitting 88 = .ok (.getfield 43, 3) := by decide +kernel
theorem dX7_tallyFitting_91 : decode cX7_tallyFitting 91 = .ok (.aload_n 0, 1) := by decide +kernel
theorem dX7_tallyFitting_92 : decode cX7_tallyFitting 92 = .ok (.getfield 19, 3) := by decide +kernel
theorem dX7_tallyFitting_95 : decode cX7_tallyFitting 95 = .ok (.invokevirtual 349, 3) := by decide +kernel
theorem dX7_tallyFitting_98 : decode cX7_tallyFitting 98 = .ok (.istore_n 1, 1) := by decide +kernel
theorem dX7_tallyFitting_99 : decode cX7_tallyFitting 99 = .ok (.iinc 2 1, 3) := by decide +kernel
theorem dX7_tallyFitting_102 : decode cX7_tallyFitting 102 = .ok (.goto (-63), 3) := by decide +kernel
theorem dX7_tallyFitting_105 : decode cX7_tallyFitting 105 = .ok (.return_, 1) := by decide +kernel
theorem dX7_bestParted_0 : decode cX7_bestParted 0 = .ok (.bipush (-9), 2) := by decide +kernel
theorem dX7_bestParted_2 : decode cX7_bestParted 2 = .ok (.istore_n 2, 1) := by decide +kernel
theorem dX7_bestParted_3 : decode cX7_bestParted 3 = .ok (.iconst 0, 1) := by decide +kernel
theorem dX7_bestParted_4 : decode cX7_bestParted 4 = .ok (.istore_n 3, 1) := by decide +kernel
theorem dX7_bestParted_5 : decode cX7_bestParted 5 = .ok (.iconst 0, 1) := by decide +kernel
theorem dX7_bestParted_6 : decode cX7_bestParted 6 = .ok (.istore 4, 2) := by decide +kernel
theorem dX7_bestParted_8 : decode cX7_bestParted 8 = .ok (.iload 4, 2) := by decide +kernel
theorem dX7_bestParted_10 : decode cX7_bestParted 10 = .ok (.aload_n 0, 1) := by decide +kernel
theorem dX7_bestParted_11 : decode cX7_bestParted 11 = .ok (.getfield 49, 3) := by decide +kernel
theorem dX7_bestParted_14 : decode cX7_bestParted 14 = .ok (.arraylength, 1) := by decide +kernel
theorem dX7_bestParted_15 : decode cX7_bestParted 15 = .ok (.if_icmp .ge 45, 3) := by decide +kernel
theorem dX7_bestParted_18 : decode cX7_bestParted 18 = .ok (.aload_n 0, 1) := by decide +kernel
theorem dX7_bestParted_19 : decode cX7_bestParted 19 = .ok (.getfield 49, 3) := by decide +kernel
theorem dX7_bestParted_22 : decode cX7_bestParted 22 = .ok (.iload 4, 2) := by decide +kernel
theorem dX7_bestParted_24 : decode cX7_bestParted 24 = .ok (.iaload, 1) := by decide +kernel
theorem dX7_bestParted_25 : decode cX7_bestParted 25 = .ok (.iload_n 1, 1) := by decide +kernel
theorem dX7_bestParted_26 : decode cX7_bestParted 26 = .ok (.aload_n 0, 1) := by decide +kernel
theorem dX7_bestParted_27 : decode cX7_bestParted 27 = .ok (.getfield 49, 3) := by decide +kernel
theorem dX7_bestParted_30 : decode cX7_bestParted 30 = .ok (.iload 4, 2) := by decide +kernel
theorem dX7_bestParted_32 : decode cX7_bestParted 32 = .ok (.iaload, 1) := by decide +kernel
theorem dX7_bestParted_33 : decode cX7_bestParted 33 = .ok (.isub, 1) := by decide +kernel
theorem dX7_bestParted_34 : decode cX7_bestParted 34 = .ok (.invokestatic 352, 3) := by decide +kernel
theorem dX7_bestParted_37 : decode cX7_bestParted 37 = .ok (.istore 5, 2) := by decide +kernel
theorem dX7_bestParted_39 : decode cX7_bestParted 39 = .ok (.iload 5, 2) := by decide +kernel
theorem dX7_bestParted_41 : decode cX7_bestParted 41 = .ok (.iload_n 3, 1) := by decide +kernel
theorem dX7_bestParted_42 : decode cX7_bestParted 42 = .ok (.if_icmp .le 12, 3) := by decide +kernel
theorem dX7_bestParted_45 : decode cX7_bestParted 45 = .ok (.iload 5, 2) := by decide +kernel
theorem dX7_bestParted_47 : decode cX7_bestParted 47 = .ok (.istore_n 3, 1) := by decide +kernel
theorem dX7_bestParted_48 : decode cX7_bestParted 48 = .ok (.iload 4, 2) := by decide +kernel
theorem dX7_bestParted_50 : decode cX7_bestParted 50 = .ok (.invokestatic 202, 3) := by decide +kernel
theorem dX7_bestParted_53 : decode cX7_bestParted 53 = .ok (.istore_n 2, 1) := by decide +kernel
theorem dX7_bestParted_54 : decode cX7_bestParted 54 = .ok (.iinc 4 1, 3) := by decide +kernel
theorem dX7_bestParted_57 : decode cX7_bestParted 57 = .ok (.goto (-49), 3) := by decide +kernel
theorem dX7_bestParted_60 : decode cX7_bestParted 60 = .ok (.iload_n 2, 1) := by decide +kernel
theorem dX7_bestParted_61 : decode cX7_bestParted 61 = .ok (.ireturn, 1) := by decide +kernel
theorem dX7_leastDistance_0 : decode cX7_leastDistance 0 = .ok (.bipush 48, 2) := by decide +kernel
theorem dX7_leastDistance_2 : decode cX7_leastDistance 2 = .ok (.istore_n 1, 1) := by decide +kernel
theorem dX7_leastDistance_3 : decode cX7_leastDistance 3 = .ok (.aload_n 0, 1) := by decide +kernel
theorem dX7_leastDistance_4 : decode cX7_leastDistance 4 = .ok (.getfield 43, 3) := by decide +kernel
theorem dX7_leastDistance_7 : decode cX7_leastDistance 7 = .ok (.aload_n 0, 1) := by decide +kernel
theorem dX7_leastDistance_8 : decode cX7_leastDistance 8 = .ok (.getfield 19, 3) := by decide +kernel
theorem dX7_leastDistance_11 : decode cX7_leastDistance 11 = .ok (.iconst 0, 1) := by decide +kernel
theorem dX7_leastDistance_12 : decode cX7_leastDistance 12 = .ok (.invokevirtual 256, 3) := by decide +kernel
theorem dX7_leastDistance_15 : decode cX7_leastDistance 15 = .ok (.istore_n 2, 1) := by decide +kernel
theorem dX7_leastDistance_16 : decode cX7_leastDistance 16 = .ok (.iconst 0, 1) := by decide +kernel
theorem dX7_leastDistance_17 : decode cX7_leastDistance 17 = .ok (.istore_n 3, 1) := by decide +kernel
theorem dX7_leastDistance_18 : decode cX7_leastDistance 18 = .ok (.iload_n 2, 1) := by decide +kernel
theorem dX7_leastDistance_19 : decode cX7_leastDistance 19 = .ok (.ifCond .eq 50, 3) := by decide +kernel
theorem dX7_leastDistance_22 : decode cX7_leastDistance 22 = .ok (.iload_n 3, 1) := by decide +kernel
theorem dX7_leastDistance_23 : decode cX7_leastDistance 23 = .ok (.bipush 100, 2) := by decide +kernel
theorem dX7_leastDistance_25 : decode cX7_leastDistance 25 = .ok (.if_icmp .ge 44, 3) := by decide +kernel
theorem dX7_leastDistance_28 : decode cX7_leastDistance 28 = .ok (.iload_n 1, 1) := by decide +kernel
theorem dX7_leastDistance_29 : decode cX7_leastDistance 29 = .ok (.aload_n 0, 1) := by decide +kernel
theorem dX7_leastDistance_30 : decode cX7_leastDistance 30 = .ok (.getfield 43, 3) := by decide +kernel
theorem dX7_leastDistance_33 : decode cX7_leastDistance 33 = .ok (.invokevirtual 262, 3) := by decide +kernel
theorem dX7_leastDistance_36 : decode cX7_leastDistance 36 = .ok (.aload_n 0, 1) := by decide +kernel
theorem dX7_leastDistance_37 : decode cX7_leastDistance 37 = .ok (.getfield 19, 3) := by decide +kernel
theorem dX7_leastDistance_40 : decode cX7_leastDistance 40 = .ok (.getfield 119, 3) := by decide +kernel
theorem dX7_leastDistance_43 : decode cX7_leastDistance 43 = .ok (.lxor, 1) := by decide +kernel
theorem dX7_leastDistance_44 : decode cX7_leastDistance 44 = .ok (.invokestatic 104, 3) := by decide +kernel
theorem dX7_leastDistance_47 : decode cX7_leastDistance 47 = .ok (.invokestatic 352, 3) := by decide +kernel
theorem dX7_leastDistance_50 : decode cX7_leastDistance 50 = .ok (.istore_n 1, 1) := by decide +kernel
theorem dX7_leastDistance_51 : decode cX7_leastDistance 51 = .ok (.aload_n 0, 1) := by decide +kernel
theorem dX7_leastDistance_52 : decode cX7_leastDistance 52 = .ok (.getfield 43, 3) := by decide +kernel
theorem dX7_leastDistance_55 : decode cX7_leastDistance 55 = .ok (.aload_n 0, 1) := by decide +kernel
theorem dX7_leastDistance_56 : decode cX7_leastDistance 56 = .ok (.getfield 19, 3) := by decide +kernel
theorem dX7_leastDistance_59 : decode cX7_leastDistance 59 = .ok (.invokevirtual 349, 3) := by decide +kernel
theorem dX7_leastDistance_62 : decode cX7_leastDistance 62 = .ok (.istore_n 2, 1) := by decide +kernel
theorem dX7_leastDistance_63 : decode cX7_leastDistance 63 = .ok (.iinc 3 1, 3) := by decide +kernel
theorem dX7_leastDistance_66 : decode cX7_leastDistance 66 = .ok (.goto (-48), 3) := by decide +kernel
theorem dX7_leastDistance_69 : decode cX7_leastDistance 69 = .ok (.iload_n 1, 1) := by decide +kernel
theorem dX7_leastDistance_70 : decode cX7_leastDistance 70 = .ok (.ireturn, 1) := by decide +kernel
theorem dJ6_bitCount_0f7a4_0 : decode cJ6_bitCount_0f7a4 0 = .ok (.iload_n 0, 1) := by decide +kernel
theorem dJ6_bitCount_0f7a4_1 : decode cJ6_bitCount_0f7a4 1 = .ok (.iload_n 0, 1) := by decide +kernel
theorem dJ6_bitCount_0f7a4_2 : decode cJ6_bitCount_0f7a4 2 = .ok (.iconst 1, 1) := by decide +kernel
theorem dJ6_bitCount_0f7a4_3 : decode cJ6_bitCount_0f7a4 3 = .ok (.iushr, 1) := by decide +kernel
theorem dJ6_bitCount_0f7a4_4 : decode cJ6_bitCount_0f7a4 4 = .ok (.ldc_w 265, 3) := by decide +kernel
theorem dJ6_bitCount_0f7a4_7 : decode cJ6_bitCount_0f7a4 7 = .ok (.iand, 1) := by decide +kernel
theorem dJ6_bitCount_0f7a4_8 : decode cJ6_bitCount_0f7a4 8 = .ok (.isub, 1) := by decide +kernel
theorem dJ6_bitCount_0f7a4_9 : decode cJ6_bitCount_0f7a4 9 = .ok (.istore_n 0, 1) := by decide +kernel
theorem dJ6_bitCount_0f7a4_10 : decode cJ6_bitCount_0f7a4 10 = .ok (.iload_n 0, 1) := by decide +kernel
theorem dJ6_bitCount_0f7a4_11 : decode cJ6_bitCount_0f7a4 11 = .ok (.ldc_w 266, 3) := by decide +kernel
theorem dJ6_bitCount_0f7a4_14 : decode cJ6_bitCount_0f7a4 14 = .ok (.iand, 1) := by decide +kernel
theorem dJ6_bitCount_0f7a4_15 : decode cJ6_bitCount_0f7a4 15 = .ok (.iload_n 0, 1) := by decide +kernel
theorem dJ6_bitCount_0f7a4_16 : decode cJ6_bitCount_0f7a4 16 = .ok (.iconst 2, 1) := by decide +kernel
theorem dJ6_bitCount_0f7a4_17 : decode cJ6_bitCount_0f7a4 17 = .ok (.iushr, 1) := by decide +kernel
theorem dJ6_bitCount_0f7a4_18 : decode cJ6_bitCount_0f7a4 18 = .ok (.ldc_w 266, 3) := by decide +kernel
theorem dJ6_bitCount_0f7a4_21 : decode cJ6_bitCount_0f7a4 21 = .ok (.iand, 1) := by decide +kernel
theorem dJ6_bitCount_0f7a4_22 : decode cJ6_bitCount_0f7a4 22 = .ok (.iadd, 1) := by decide +kernel
theorem dJ6_bitCount_0f7a4_23 : decode cJ6_bitCount_0f7a4 23 = .ok (.istore_n 0, 1) := by decide +kernel
theorem dJ6_bitCount_0f7a4_24 : decode cJ6_bitCount_0f7a4 24 = .ok (.iload_n 0, 1) := by decide +kernel
theorem dJ6_bitCount_0f7a4_25 : decode cJ6_bitCount_0f7a4 25 = .ok (.iload_n 0, 1) := by decide +kernel
theorem dJ6_bitCount_0f7a4_26 : decode cJ6_bitCount_0f7a4 26 = .ok (.iconst 4, 1) := by decide +kernel
theorem dJ6_bitCount_0f7a4_27 : decode cJ6_bitCount_0f7a4 27 = .ok (.iushr, 1) := by decide +kernel
theorem dJ6_bitCount_0f7a4_28 : decode cJ6_bitCount_0f7a4 28 = .ok (.iadd, 1) := by decide +kernel
theorem dJ6_bitCount_0f7a4_29 : decode cJ6_bitCount_0f7a4 29 = .ok (.ldc_w 267, 3) := by decide +kernel
theorem dJ6_bitCount_0f7a4_32 : decode cJ6_bitCount_0f7a4 32 = .ok (.iand, 1) := by decide +kernel
theorem dJ6_bitCount_0f7a4_33 : decode cJ6_bitCount_0f7a4 33 = .ok (.istore_n 0, 1) := by decide +kernel
theorem dJ6_bitCount_0f7a4_34 : decode cJ6_bitCount_0f7a4 34 = .ok (.iload_n 0, 1) := by decide +kernel
theorem dJ6_bitCount_0f7a4_35 : decode cJ6_bitCount_0f7a4 35 = .ok (.iload_n 0, 1) := by decide +kernel
theorem dJ6_bitCount_0f7a4_36 : decode cJ6_bitCount_0f7a4 36 = .ok (.bipush 8, 2) := by decide +kernel
theorem dJ6_bitCount_0f7a4_38 : decode cJ6_bitCount_0f7a4 38 = .ok (.iushr, 1) := by decide +kernel
theorem dJ6_bitCount_0f7a4_39 : decode cJ6_bitCount_0f7a4 39 = .ok (.iadd, 1) := by decide +kernel
theorem dJ6_bitCount_0f7a4_40 : decode cJ6_bitCount_0f7a4 40 = .ok (.istore_n 0, 1) := by decide +kernel
theorem dJ6_bitCount_0f7a4_41 : decode cJ6_bitCount_0f7a4 41 = .ok (.iload_n 0, 1) := by decide +kernel
theorem dJ6_bitCount_0f7a4_42 : decode cJ6_bitCount_0f7a4 42 = .ok (.iload_n 0, 1) := by decide +kernel
theorem dJ6_bitCount_0f7a4_43 : decode cJ6_bitCount_0f7a4 43 = .ok (.bipush 16, 2) := by decide +kernel
theorem dJ6_bitCount_0f7a4_45 : decode cJ6_bitCount_0f7a4 45 = .ok (.iushr, 1) := by decide +kernel
theorem dJ6_bitCount_0f7a4_46 : decode cJ6_bitCount_0f7a4 46 = .ok (.iadd, 1) := by decide +kernel
theorem dJ6_bitCount_0f7a4_47 : decode cJ6_bitCount_0f7a4 47 = .ok (.istore_n 0, 1) := by decide +kernel
theorem dJ6_bitCount_0f7a4_48 : decode cJ6_bitCount_0f7a4 48 = .ok (.iload_n 0, 1) := by decide +kernel
theorem dJ6_bitCount_0f7a4_49 : decode cJ6_bitCount_0f7a4 49 = .ok (.bipush 63, 2) := by decide +kernel
theorem dJ6_bitCount_0f7a4_51 : decode cJ6_bitCount_0f7a4 51 = .ok (.iand, 1) := by decide +kernel
theorem dJ6_bitCount_0f7a4_52 : decode cJ6_bitCount_0f7a4 52 = .ok (.ireturn, 1) := by decide +kernel
theorem dJ13_bitCount_95d88_0 : decode cJ13_bitCount_95d88 0 = .ok (.lload_n 0, 1) := by decide +kernel
theorem dJ13_bitCount_95d88_1 : decode cJ13_bitCount_95d88 1 = .ok (.lload_n 0, 1) := by decide +kernel
theorem dJ13_bitCount_95d88_2 : decode cJ13_bitCount_95d88 2 = .ok (.iconst 1, 1) := by decide +kernel
theorem dJ13_bitCount_95d88_3 : decode cJ13_bitCount_95d88 3 = .ok (.lushr, 1) := by decide +kernel
theorem dJ13_bitCount_95d88_4 : decode cJ13_bitCount_95d88 4 = .ok (.ldc2_w 314, 3) := by decide +kernel
theorem dJ13_bitCount_95d88_7 : decode cJ13_bitCount_95d88 7 = .ok (.land, 1) := by decide +kernel
theorem dJ13_bitCount_95d88_8 : decode cJ13_bitCount_95d88 8 = .ok (.lsub, 1) := by decide +kernel
theorem dJ13_bitCount_95d88_9 : decode cJ13_bitCount_95d88 9 = .ok (.lstore_n 0, 1) := by decide +kernel
theorem dJ13_bitCount_95d88_10 : decode cJ13_bitCount_95d88 10 = .ok (.lload_n 0, 1) := by decide +kernel
theorem dJ13_bitCount_95d88_11 : decode cJ13_bitCount_95d88 11 = .ok (.ldc2_w 316, 3) := by decide +kernel
theorem dJ13_bitCount_95d88_14 : decode cJ13_bitCount_95d88 14 = .ok (.land, 1) := by decide +kernel
theorem dJ13_bitCount_95d88_15 : decode cJ13_bitCount_95d88 15 = .ok (.lload_n 0, 1) := by decide +kernel
theorem dJ13_bitCount_95d88_16 : decode cJ13_bitCount_95d88 16 = .ok (.iconst 2, 1) := by decide +kernel
theorem dJ13_bitCount_95d88_17 : decode cJ13_bitCount_95d88 17 = .ok (.lushr, 1) := by decide +kernel
theorem dJ13_bitCount_95d88_18 : decode cJ13_bitCount_95d88 18 = .ok (.ldc2_w 316, 3) := by decide +kernel
theorem dJ13_bitCount_95d88_21 : decode cJ13_bitCount_95d88 21 = .ok (.land, 1) := by decide +kernel
theorem dJ13_bitCount_95d88_22 : decode cJ13_bitCount_95d88 22 = .ok (.ladd, 1) := by decide +kernel
theorem dJ13_bitCount_95d88_23 : decode cJ13_bitCount_95d88 23 = .ok (.lstore_n 0, 1) := by decide +kernel
theorem dJ13_bitCount_95d88_24 : decode cJ13_bitCount_95d88 24 = .ok (.lload_n 0, 1) := by decide +kernel
theorem dJ13_bitCount_95d88_25 : decode cJ13_bitCount_95d88 25 = .ok (.lload_n 0, 1) := by decide +kernel
theorem dJ13_bitCount_95d88_26 : decode cJ13_bitCount_95d88 26 = .ok (.iconst 4, 1) := by decide +kernel
theorem dJ13_bitCount_95d88_27 : decode cJ13_bitCount_95d88 27 = .ok (.lushr, 1) := by decide +kernel
theorem dJ13_bitCount_95d88_28 : decode cJ13_bitCount_95d88 28 = .ok (.ladd, 1) := by decide +kernel
theorem dJ13_bitCount_95d88_29 : decode cJ13_bitCount_95d88 29 = .ok (.ldc2_w 318, 3) := by decide +kernel
theorem dJ13_bitCount_95d88_32 : decode cJ13_bitCount_95d88 32 = .ok (.land, 1) := by decide +kernel
theorem dJ13_bitCount_95d88_33 : decode cJ13_bitCount_95d88 33 = .ok (.lstore_n 0, 1) := by decide +kernel
theorem dJ13_bitCount_95d88_34 : decode cJ13_bitCount_95d88 34 = .ok (.lload_n 0, 1) := by decide +kernel
theorem dJ13_bitCount_95d88_35 : decode cJ13_bitCount_95d88 35 = .ok (.lload_n 0, 1) := by decide +kernel
theorem dJ13_bitCount_95d88_36 : decode cJ13_bitCount_95d88 36 = .ok (.bipush 8, 2) := by decide +kernel
theorem dJ13_bitCount_95d88_38 : decode cJ13_bitCount_95d88 38 = .ok (.lushr, 1) := by decide +kernel
theorem dJ13_bitCount_95d88_39 : decode cJ13_bitCount_95d88 39 = .ok (.ladd, 1) := by decide +kernel
theorem dJ13_bitCount_95d88_40 : decode cJ13_bitCount_95d88 40 = .ok (.lstore_n 0, 1) := by decide +kernel
theorem dJ13_bitCount_95d88_41 : decode cJ13_bitCount_95d88 41 = .ok (.lload_n 0, 1) := by decide +kernel
theorem dJ13_bitCount_95d88_42 : decode cJ13_bitCount_95d88 42 = .ok (.lload_n 0, 1) := by decide +kernel
theorem dJ13_bitCount_95d88_43 : decode cJ13_bitCount_95d88 43 = .ok (.bipush 16, 2) := by decide +kernel
theorem dJ13_bitCount_95d88_45 : decode cJ13_bitCount_95d88 45 = .ok (.lushr, 1) := by decide +kernel
theorem dJ13_bitCount_95d88_46 : decode cJ13_bitCount_95d88 46 = .ok (.ladd, 1) := by decide +kernel
theorem dJ13_bitCount_95d88_47 : decode cJ13_bitCount_95d88 47 = .ok (.lstore_n 0, 1) := by decide +kernel
theorem dJ13_bitCount_95d88_48 : decode cJ13_bitCount_95d88 48 = .ok (.lload_n 0, 1) := by decide +kernel
theorem dJ13_bitCount_95d88_49 : decode cJ13_bitCount_95d88 49 = .ok (.lload_n 0, 1) := by decide +kernel
theorem dJ13_bitCount_95d88_50 : decode cJ13_bitCount_95d88 50 = .ok (.bipush 32, 2) := by decide +kernel
theorem dJ13_bitCount_95d88_52 : decode cJ13_bitCount_95d88 52 = .ok (.lushr, 1) := by decide +kernel
theorem dJ13_bitCount_95d88_53 : decode cJ13_bitCount_95d88 53 = .ok (.ladd, 1) := by decide +kernel
theorem dJ13_bitCount_95d88_54 : decode cJ13_bitCount_95d88 54 = .ok (.lstore_n 0, 1) := by decide +kernel
theorem dJ13_bitCount_95d88_55 : decode cJ13_bitCount_95d88 55 = .ok (.lload_n 0, 1) := by decide +kernel
theorem dJ13_bitCount_95d88_56 : decode cJ13_bitCount_95d88 56 = .ok (.l2i, 1) := by decide +kernel
theorem dJ13_bitCount_95d88_57 : decode cJ13_bitCount_95d88 57 = .ok (.bipush 127, 2) := by decide +kernel
theorem dJ13_bitCount_95d88_59 : decode cJ13_bitCount_95d88 59 = .ok (.iand, 1) := by decide +kernel
theorem dJ13_bitCount_95d88_60 : decode cJ13_bitCount_95d88 60 = .ok (.ireturn, 1) := by decide +kernel
theorem dJ9_min_7cf53_0 : decode cJ9_min_7cf53 0 = .ok (.iload_n 0, 1) := by decide +kernel
theorem dJ9_min_7cf53_1 : decode cJ9_min_7cf53 1 = .ok (.iload_n 1, 1) := by decide +kernel
theorem dJ9_min_7cf53_2 : decode cJ9_min_7cf53 2 = .ok (.if_icmp .gt 7, 3) := by decide +kernel
theorem dJ9_min_7cf53_5 : decode cJ9_min_7cf53 5 = .ok (.iload_n 0, 1) := by decide +kernel
theorem dJ9_min_7cf53_6 : decode cJ9_min_7cf53 6 = .ok (.goto 4, 3) := by decide +kernel
theorem dJ9_min_7cf53_9 : decode cJ9_min_7cf53 9 = .ok (.iload_n 1, 1) := by decide +kernel
theorem dJ9_min_7cf53_10 : decode cJ9_min_7cf53 10 = .ok (.ireturn, 1) := by decide +kernel
theorem dL_cell_0 : decode cL_cell 0 = .ok (.iload_n 1, 1) := by decide +kernel
theorem dL_cell_1 : decode cL_cell 1 = .ok (.aload_n 0, 1) := by decide +kernel
theorem dL_cell_2 : decode cL_cell 2 = .ok (.arraylength, 1) := by decide +kernel
theorem dL_cell_3 : decode cL_cell 3 = .ok (.if_icmp .ge 9, 3) := by decide +kernel
theorem dL_cell_6 : decode cL_cell 6 = .ok (.aload_n 0, 1) := by decide +kernel
theorem dL_cell_7 : decode cL_cell 7 = .ok (.iload_n 1, 1) := by decide +kernel
theorem dL_cell_8 : decode cL_cell 8 = .ok (.iaload, 1) := by decide +kernel
theorem dL_cell_9 : decode cL_cell 9 = .ok (.goto 9, 3) := by decide +kernel
theorem dL_cell_12 : decode cL_cell 12 = .ok (.ldc 7, 2) := by decide +kernel
theorem dL_cell_14 : decode cL_cell 14 = .ok (.iload_n 1, 1) := by decide +kernel
theorem dL_cell_15 : decode cL_cell 15 = .ok (.iconst 3, 1) := by decide +kernel
theorem dL_cell_16 : decode cL_cell 16 = .ok (.iadd, 1) := by decide +kernel
theorem dL_cell_17 : decode cL_cell 17 = .ok (.imul, 1) := by decide +kernel
theorem dL_cell_18 : decode cL_cell 18 = .ok (.ireturn, 1) := by decide +kernel
theorem dL_up_0 : decode cL_up 0 = .ok (.iload_n 0, 1) := by decide +kernel
theorem dL_up_1 : decode cL_up 1 = .ok (.ldc 8, 2) := by decide +kernel
theorem dL_up_3 : decode cL_up 3 = .ok (.iand, 1) := by decide +kernel
theorem dL_up_4 : decode cL_up 4 = .ok (.iload_n 1, 1) := by decide +kernel
theorem dL_up_5 : decode cL_up 5 = .ok (.irem, 1) := by decide +kernel
theorem dL_up_6 : decode cL_up 6 = .ok (.ireturn, 1) := by decide +kernel
theorem dL_ones_0 : decode cL_ones 0 = .ok (.iconst 0, 1) := by decide +kernel
theorem dL_ones_1 : decode cL_ones 1 = .ok (.istore_n 2, 1) := by decide +kernel
theorem dL_ones_2 : decode cL_ones 2 = .ok (.iconst 0, 1) := by decide +kernel
theorem dL_ones_3 : decode cL_ones 3 = .ok (.istore_n 3, 1) := by decide +kernel
theorem dL_ones_4 : decode cL_ones 4 = .ok (.iload_n 3, 1) := by decide +kernel
theorem dL_ones_5 : decode cL_ones 5 = .ok (.bipush 36, 2) := by decide +kernel
theorem dL_ones_7 : decode cL_ones 7 = .ok (.if_icmp .ge 18, 3) := by decide +kernel
theorem dL_ones_10 : decode cL_ones 10 = .ok (.iload_n 2, 1) := by decide +kernel
theorem dL_ones_11 : decode cL_ones 11 = .ok (.lload_n 0, 1) := by decide +kernel
theorem dL_ones_12 : decode cL_ones 12 = .ok (.iload_n 3, 1) := by decide +kernel
theorem dL_ones_13 : decode cL_ones 13 = .ok (.lshr, 1) := by decide +kernel
theorem dL_ones_14 : decode cL_ones 14 = .ok (.l2i, 1) := by decide +kernel
theorem dL_ones_15 : decode cL_ones 15 = .ok (.iconst 1, 1) := by decide +kernel
theorem dL_ones_16 : decode cL_ones 16 = .ok (.iand, 1) := by decide +kernel
theorem dL_ones_17 : decode cL_ones 17 = .ok (.iadd, 1) := by decide +kernel
theorem dL_ones_18 : decode cL_ones 18 = .ok (.istore_n 2, 1) := by decide +kernel
theorem dL_ones_19 : decode cL_ones 19 = .ok (.iinc 3 1, 3) := by decide +kernel
theorem dL_ones_22 : decode cL_ones 22 = .ok (.goto (-18), 3) := by decide +kernel
theorem dL_ones_25 : decode cL_ones 25 = .ok (.iload_n 2, 1) := by decide +kernel
theorem dL_ones_26 : decode cL_ones 26 = .ok (.ireturn, 1) := by decide +kernel
theorem dL_solveOr_0 : decode cL_solveOr 0 = .ok (.aload_n 0, 1) := by decide +kernel
theorem dL_solveOr_1 : decode cL_solveOr 1 = .ok (.iload_n 1, 1) := by decide +kernel
theorem dL_solveOr_2 : decode cL_solveOr 2 = .ok (.invokevirtual 9, 3) := by decide +kernel
theorem dL_solveOr_5 : decode cL_solveOr 5 = .ok (.ireturn, 1) := by decide +kernel
theorem dL_solveOr_6 : decode cL_solveOr 6 = .ok (.astore_n 2, 1) := by decide +kernel
theorem dL_solveOr_7 : decode cL_solveOr 7 = .ok (.iconst (-1), 1) := by decide +kernel
theorem dL_solveOr_8 : decode cL_solveOr 8 = .ok (.ireturn, 1) := by decide +kernel
theorem dL_nextOr_0 : decode cL_nextOr 0 = .ok (.aload_n 0, 1) := by decide +kernel
theorem dL_nextOr_1 : decode cL_nextOr 1 = .ok (.invokevirtual 17, 3) := by decide +kernel
theorem dL_nextOr_4 : decode cL_nextOr 4 = .ok (.ireturn, 1) := by decide +kernel
theorem dL_nextOr_5 : decode cL_nextOr 5 = .ok (.astore_n 1, 1) := by decide +kernel
theorem dL_nextOr_6 : decode cL_nextOr 6 = .ok (.iconst (-1), 1) := by decide +kernel
theorem dL_nextOr_7 : decode cL_nextOr 7 = .ok (.ireturn, 1) := by decide +kernel
theorem dL_nearestOr_0 : decode cL_nearestOr 0 = .ok (.aload_n 0, 1) := by decide +kernel
theorem dL_nearestOr_1 : decode cL_nearestOr 1 = .ok (.invokevirtual 21, 3) := by decide +kernel
theorem dL_nearestOr_4 : decode cL_nearestOr 4 = .ok (.ireturn, 1) := by decide +kernel
theorem dL_nearestOr_5 : decode cL_nearestOr 5 = .ok (.astore_n 1, 1) := by decide +kernel
theorem dL_nearestOr_6 : decode cL_nearestOr 6 = .ok (.iconst (-1), 1) := by decide +kernel
theorem dL_nearestOr_7 : decode cL_nearestOr 7 = .ok (.ireturn, 1) := by decide +kernel
theorem dL_undoOr_0 : decode cL_undoOr 0 = .ok (.aload_n 0, 1) := by decide +kernel
theorem dL_undoOr_1 : decode cL_undoOr 1 = .ok (.invokevirtual 24, 3) := by decide +kernel
theorem dL_undoOr_4 : decode cL_undoOr 4 = .ok (.ireturn, 1) := by decide +kernel
theorem dL_undoOr_5 : decode cL_undoOr 5 = .ok (.astore_n 1, 1) := by decide +kernel
theorem dL_undoOr_6 : decode cL_undoOr 6 = .ok (.iconst (-1), 1) := by decide +kernel
theorem dL_undoOr_7 : decode cL_undoOr 7 = .ok (.ireturn, 1) := by decide +kernel
theorem dL_bits_0 : decode cL_bits 0 = .ok (.lconst 0, 1) := by decide +kernel
theorem dL_bits_1 : decode cL_bits 1 = .ok (.lstore_n 2, 1) := by decide +kernel
theorem dL_bits_2 : decode cL_bits 2 = .ok (.iconst 0, 1) := by decide +kernel
theorem dL_bits_3 : decode cL_bits 3 = .ok (.istore 4, 2) := by decide +kernel
theorem dL_bits_5 : decode cL_bits 5 = .ok (.iload 4, 2) := by decide +kernel
theorem dL_bits_7 : decode cL_bits 7 = .ok (.aload_n 0, 1) := by decide +kernel
theorem dL_bits_8 : decode cL_bits 8 = .ok (.iconst 0, 1) := by decide +kernel
theorem dL_bits_9 : decode cL_bits 9 = .ok (.invokevirtual 27, 3) := by decide +kernel
theorem dL_bits_12 : decode cL_bits 12 = .ok (.if_icmp .ge 50, 3) := by decide +kernel
theorem dL_bits_15 : decode cL_bits 15 = .ok (.iconst 0, 1) := by decide +kernel
theorem dL_bits_16 : decode cL_bits 16 = .ok (.istore 5, 2) := by decide +kernel
theorem dL_bits_18 : decode cL_bits 18 = .ok (.iload 5, 2) := by decide +kernel
theorem dL_bits_20 : decode cL_bits 20 = .ok (.aload_n 0, 1) := by decide +kernel
theorem dL_bits_21 : decode cL_bits 21 = .ok (.iconst 1, 1) := by decide +kernel
theorem dL_bits_22 : decode cL_bits 22 = .ok (.invokevirtual 27, 3) := by decide +kernel
theorem dL_bits_25 : decode cL_bits 25 = .ok (.if_icmp .ge 31, 3) := by decide +kernel
theorem dL_bits_28 : decode cL_bits 28 = .ok (.lload_n 2, 1) := by decide +kernel
theorem dL_bits_29 : decode cL_bits 29 = .ok (.aload_n 0, 1) := by decide +kernel
theorem dL_bits_30 : decode cL_bits 30 = .ok (.iload 4, 2) := by decide +kernel
theorem dL_bits_32 : decode cL_bits 32 = .ok (.iload 5, 2) := by decide +kernel
theorem dL_bits_34 : decode cL_bits 34 = .ok (.iload_n 1, 1) := by decide +kernel
theorem dL_bits_35 : decode cL_bits 35 = .ok (.invokevirtual 30, 3) := by decide +kernel
theorem dL_bits_38 : decode cL_bits 38 = .ok (.i2l, 1) := by decide +kernel
theorem dL_bits_39 : decode cL_bits 39 = .ok (.bipush 6, 2) := by decide +kernel
theorem dL_bits_41 : decode cL_bits 41 = .ok (.iload 4, 2) := by decide +kernel
theorem dL_bits_43 : decode cL_bits 43 = .ok (.imul, 1) := by decide +kernel
theorem dL_bits_44 : decode cL_bits 44 = .ok (.iload 5, 2) := by decide +kernel
theorem dL_bits_46 : decode cL_bits 46 = .ok (.iadd, 1) := by decide +kernel
theorem dL_bits_47 : decode cL_bits 47 = .ok (.lshl, 1) := by decide +kernel
theorem dL_bits_48 : decode cL_bits 48 = .ok (.lor, 1) := by decide +kernel
theorem dL_bits_49 : decode cL_bits 49 = .ok (.lstore_n 2, 1) := by decide +kernel
theorem dL_bits_50 : decode cL_bits 50 = .ok (.iinc 5 1, 3) := by decide +kernel
theorem dL_bits_53 : decode cL_bits 53 = .ok (.goto (-35), 3) := by decide +kernel
theorem dL_bits_56 : decode cL_bits 56 = .ok (.iinc 4 1, 3) := by decide +kernel
theorem dL_bits_59 : decode cL_bits 59 = .ok (.goto (-54), 3) := by decide +kernel
theorem dL_bits_62 : decode cL_bits 62 = .ok (.lload_n 2, 1) := by decide +kernel
theorem dL_bits_63 : decode cL_bits 63 = .ok (.lreturn, 1) := by decide +kernel
theorem dL_at_0 : decode cL_at 0 = .ok (.iload_n 2, 1) := by decide +kernel
theorem dL_at_1 : decode cL_at 1 = .ok (.ifCond .lt 17, 3) := by decide +kernel
theorem dL_at_4 : decode cL_at 4 = .ok (.iload_n 2, 1) := by decide +kernel
theorem dL_at_5 : decode cL_at 5 = .ok (.iconst 5, 1) := by decide +kernel
theorem dL_at_6 : decode cL_at 6 = .ok (.if_icmp .gt 12, 3) := by decide +kernel
theorem dL_at_9 : decode cL_at 9 = .ok (.iload_n 3, 1) := by decide +kernel
theorem dL_at_10 : decode cL_at 10 = .ok (.ifCond .lt 8, 3) := by decide +kernel
theorem dL_at_13 : decode cL_at 13 = .ok (.iload_n 3, 1) := by decide +kernel
theorem dL_at_14 : decode cL_at 14 = .ok (.iconst 5, 1) := by decide +kernel
theorem dL_at_15 : decode cL_at 15 = .ok (.if_icmp .le 7, 3) := by decide +kernel
theorem dL_at_18 : decode cL_at 18 = .ok (.iconst 0, 1) := by decide +kernel
theorem dL_at_19 : decode cL_at 19 = .ok (.goto 14, 3) := by decide +kernel
theorem dL_at_22 : decode cL_at 22 = .ok (.lload_n 0, 1) := by decide +kernel
theorem dL_at_23 : decode cL_at 23 = .ok (.bipush 6, 2) := by decide +kernel
theorem dL_at_25 : decode cL_at 25 = .ok (.iload_n 2, 1) := by decide +kernel
theorem dL_at_26 : decode cL_at 26 = .ok (.imul, 1) := by decide +kernel
theorem dL_at_27 : decode cL_at 27 = .ok (.iload_n 3, 1) := by decide +kernel
theorem dL_at_28 : decode cL_at 28 = .ok (.iadd, 1) := by decide +kernel
theorem dL_at_29 : decode cL_at 29 = .ok (.lshr, 1) := by decide +kernel
theorem dL_at_30 : decode cL_at 30 = .ok (.l2i, 1) := by decide +kernel
theorem dL_at_31 : decode cL_at 31 = .ok (.iconst 1, 1) := by decide +kernel
theorem dL_at_32 : decode cL_at 32 = .ok (.iand, 1) := by decide +kernel
theorem dL_at_33 : decode cL_at 33 = .ok (.ireturn, 1) := by decide +kernel
theorem dL_lines_0 : decode cL_lines 0 = .ok (.aload_n 0, 1) := by decide +kernel
theorem dL_lines_1 : decode cL_lines 1 = .ok (.iconst 0, 1) := by decide +kernel
theorem dL_lines_2 : decode cL_lines 2 = .ok (.invokevirtual 27, 3) := by decide +kernel
theorem dL_lines_5 : decode cL_lines 5 = .ok (.istore_n 1, 1) := by decide +kernel
theorem dL_lines_6 : decode cL_lines 6 = .ok (.aload_n 0, 1) := by decide +kernel
theorem dL_lines_7 : decode cL_lines 7 = .ok (.iconst 1, 1) := by decide +kernel
theorem dL_lines_8 : decode cL_lines 8 = .ok (.invokevirtual 27, 3) := by decide +kernel
theorem dL_lines_11 : decode cL_lines 11 = .ok (.istore_n 2, 1) := by decide +kernel
theorem dL_lines_12 : decode cL_lines 12 = .ok (.aload_n 0, 1) := by decide +kernel
theorem dL_lines_13 : decode cL_lines 13 = .ok (.iconst 0, 1) := by decide +kernel
theorem dL_lines_14 : decode cL_lines 14 = .ok (.invokestatic 34, 3) := by decide +kernel
theorem dL_lines_17 : decode cL_lines 17 = .ok (.lstore_n 3, 1) := by decide +kernel
theorem dL_lines_18 : decode cL_lines 18 = .ok (.aload_n 0, 1) := by decide +kernel
theorem dL_lines_19 : decode cL_lines 19 = .ok (.iconst 1, 1) := by decide +kernel
theorem dL_lines_20 : decode cL_lines 20 = .ok (.invokestatic 34, 3) := by decide +kernel
theorem dL_lines_23 : decode cL_lines 23 = .ok (.lstore 5, 2) := by decide +kernel
theorem dL_lines_25 : decode cL_lines 25 = .ok (.iconst 0, 1) := by decide +kernel
theorem dL_lines_26 : decode cL_lines 26 = .ok (.istore 7, 2) := by decide +kernel
theorem dL_lines_28 : decode cL_lines 28 = .ok (.iconst 0, 1) := by decide +kernel
theorem dL_lines_29 : decode cL_lines 29 = .ok (.istore 8, 2) := by decide +kernel
theorem dL_lines_31 : decode cL_lines 31 = .ok (.iconst 0, 1) := by decide +kernel
theorem dL_lines_32 : decode cL_lines 32 = .ok (.istore 9, 2) := by decide +kernel
theorem dL_lines_34 : decode cL_lines 34 = .ok (.iconst 0, 1) := by decide +kernel
theorem dL_lines_35 : decode cL_lines 35 = .ok (.istore 10, 2) := by decide +kernel
theorem dL_lines_37 : decode cL_lines 37 = .ok (.iconst 0, 1) := by decide +kernel
theorem dL_lines_38 : decode cL_lines 38 = .ok (.istore 11, 2) := by decide +kernel
theorem dL_lines_40 : decode cL_lines 40 = .ok (.iload 11, 2) := by decide +kernel
theorem dL_lines_42 : decode cL_lines 42 = .ok (.iload_n 1, 1) := by decide +kernel
theorem dL_lines_43 : decode cL_lines 43 = .ok (.iload_n 2, 1) := by decide +kernel
theorem dL_lines_44 : decode cL_lines 44 = .ok (.iadd, 1) := by decide +kernel
theorem dL_lines_45 : decode cL_lines 45 = .ok (.if_icmp .ge 434, 3) := by decide +kernel
theorem dL_lines_48 : decode cL_lines 48 = .ok (.iload 11, 2) := by decide +kernel
theorem dL_lines_50 : decode cL_lines 50 = .ok (.iload_n 1, 1) := by decide +kernel
theorem dL_lines_51 : decode cL_lines 51 = .ok (.if_icmp .ge 7, 3) := by decide +kernel
theorem dL_lines_54 : decode cL_lines 54 = .ok (.iload_n 2, 1) := by decide +kernel
theorem dL_lines_55 : decode cL_lines 55 = .ok (.goto 4, 3) := by decide +kernel
theorem dL_lines_58 : decode cL_lines 58 = .ok (.iload_n 1, 1) := by decide +kernel
theorem dL_lines_59 : decode cL_lines 59 = .ok (.istore 12, 2) := by decide +kernel
theorem dL_lines_61 : decode cL_lines 61 = .ok (.iconst 0, 1) := by decide +kernel
theorem dL_lines_62 : decode cL_lines 62 = .ok (.istore 13, 2) := by decide +kernel
theorem dL_lines_64 : decode cL_lines 64 = .ok (.iconst 0, 1) := by decide +kernel
theorem dL_lines_65 : decode cL_lines 65 = .ok (.istore 14, 2) := by decide +kernel
theorem dL_lines_67 : decode cL_lines 67 = .ok (.iconst 0, 1) := by decide +kernel
theorem dL_lines_68 : decode cL_lines 68 = .ok (.istore 15, 2) := by decide +kernel
theorem dL_lines_70 : decode cL_lines 70 = .ok (.iconst 0, 1) := by decide +kernel
theorem dL_lines_71 : decode cL_lines 71 = .ok (.istore 16, 2) := by decide +kernel
theorem dL_lines_73 : decode cL_lines 73 = .ok (.iconst 0, 1) := by decide +kernel
theorem dL_lines_74 : decode cL_lines 74 = .ok (.istore 17, 2) := by decide +kernel
theorem dL_lines_76 : decode cL_lines 76 = .ok (.iconst 0, 1) := by decide +kernel
theorem dL_lines_77 : decode cL_lines 77 = .ok (.istore 18, 2) := by decide +kernel
theorem dL_lines_79 : decode cL_lines 79 = .ok (.iload 18, 2) := by decide +kernel
theorem dL_lines_81 : decode cL_lines 81 = .ok (.iload 12, 2) := by decide +kernel
theorem dL_lines_83 : decode cL_lines 83 = .ok (.if_icmp .ge 177, 3) := by decide +kernel
theorem dL_lines_86 : decode cL_lines 86 = .ok (.iload 11, 2) := by decide +kernel
theorem dL_lines_88 : decode cL_lines 88 = .ok (.iload_n 1, 1) := by decide +kernel
theorem dL_lines_89 : decode cL_lines 89 = .ok (.if_icmp .ge 8, 3) := by decide +kernel
theorem dL_lines_92 : decode cL_lines 92 = .ok (.iload 11, 2) := by decide +kernel
theorem dL_lines_94 : decode cL_lines 94 = .ok (.goto 5, 3) := by decide +kernel
theorem dL_lines_97 : decode cL_lines 97 = .ok (.iload 18, 2) := by decide +kernel
theorem dL_lines_99 : decode cL_lines 99 = .ok (.istore 19, 2) := by decide +kernel
theorem dL_lines_101 : decode cL_lines 101 = .ok (.iload 11, 2) := by decide +kernel
theorem dL_lines_103 : decode cL_lines 103 = .ok (.iload_n 1, 1) := by decide +kernel
theorem dL_lines_104 : decode cL_lines 104 = .ok (.if_icmp .ge 8, 3) := by decide +kernel
theorem dL_lines_107 : decode cL_lines 107 = .ok (.iload 18, 2) := by decide +kernel
theorem dL_lines_109 : decode cL_lines 109 = .ok (.goto 7, 3) := by decide +kernel
theorem dL_lines_112 : decode cL_lines 112 = .ok (.iload 11, 2) := by decide +kernel
theorem dL_lines_114 : decode cL_lines 114 = .ok (.iload_n 1, 1) := by decide +kernel
theorem dL_lines_115 : decode cL_lines 115 = .ok (.isub, 1) := by decide +kernel
theorem dL_lines_116 : decode cL_lines 116 = .ok (.istore 20, 2) := by decide +kernel
theorem dL_lines_118 : decode cL_lines 118 = .ok (.lload_n 3, 1) := by decide +kernel
theorem dL_lines_119 : decode cL_lines 119 = .ok (.iload 19, 2) := by decide +kernel
theorem dL_lines_121 : decode cL_lines 121 = .ok (.iload 20, 2) := by decide +kernel
theorem dL_lines_123 : decode cL_lines 123 = .ok (.invokestatic 40, 3) := by decide +kernel
theorem dL_lines_126 : decode cL_lines 126 = .ok (.istore 21, 2) := by decide +kernel
theorem dL_lines_128 : decode cL_lines 128 = .ok (.iload 13, 2) := by decide +kernel
theorem dL_lines_130 : decode cL_lines 130 = .ok (.iload 21, 2) := by decide +kernel
theorem dL_lines_132 : decode cL_lines 132 = .ok (.iadd, 1) := by decide +kernel
theorem dL_lines_133 : decode cL_lines 133 = .ok (.istore 13, 2) := by decide +kernel
theorem dL_lines_135 : decode cL_lines 135 = .ok (.iload 14, 2) := by decide +kernel
theorem dL_lines_137 : decode cL_lines 137 = .ok (.lload 5, 2) := by decide +kernel
theorem dL_lines_139 : decode cL_lines 139 = .ok (.iload 19, 2) := by decide +kernel
theorem dL_lines_141 : decode cL_lines 141 = .ok (.iload 20, 2) := by decide +kernel
theorem dL_lines_143 : decode cL_lines 143 = .ok (.invokestatic 40, 3) := by decide +kernel
theorem dL_lines_146 : decode cL_lines 146 = .ok (.iadd, 1) := by decide +kernel
theorem dL_lines_147 : decode cL_lines 147 = .ok (.istore 14, 2) := by decide +kernel
theorem dL_lines_149 : decode cL_lines 149 = .ok (.iload 15, 2) := by decide +kernel
theorem dL_lines_151 : decode cL_lines 151 = .ok (.iload 21, 2) := by decide +kernel
theorem dL_lines_153 : decode cL_lines 153 = .ok (.iconst 1, 1) := by decide +kernel
theorem dL_lines_154 : decode cL_lines 154 = .ok (.if_icmp .ne 49, 3) := by decide +kernel
theorem dL_lines_157 : decode cL_lines 157 = .ok (.iload 18, 2) := by decide +kernel
theorem dL_lines_159 : decode cL_lines 159 = .ok (.ifCond .eq 40, 3) := by decide +kernel
theorem dL_lines_162 : decode cL_lines 162 = .ok (.lload_n 3, 1) := by decide +kernel
theorem dL_lines_163 : decode cL_lines 163 = .ok (.iload 11, 2) := by decide +kernel
theorem dL_lines_165 : decode cL_lines 165 = .ok (.iload_n 1, 1) := by decide +kernel
theorem dL_lines_166 : decode cL_lines 166 = .ok (.if_icmp .ge 8, 3) := by decide +kernel
theorem dL_lines_169 : decode cL_lines 169 = .ok (.iload 19, 2) := by decide +kernel
theorem dL_lines_171 : decode cL_lines 171 = .ok (.goto 7, 3) := by decide +kernel
theorem dL_lines_174 : decode cL_lines 174 = .ok (.iload 19, 2) := by decide +kernel
theorem dL_lines_176 : decode cL_lines 176 = .ok (.iconst 1, 1) := by decide +kernel
theorem dL_lines_177 : decode cL_lines 177 = .ok (.isub, 1) := by decide +kernel
theorem dL_lines_178 : decode cL_lines 178 = .ok (.iload 11, 2) := by decide +kernel
theorem dL_lines_180 : decode cL_lines 180 = .ok (.iload_n 1, 1) := by decide +kernel
theorem dL_lines_181 : decode cL_lines 181 = .ok (.if_icmp .ge 10, 3) := by decide +kernel
theorem dL_lines_184 : decode cL_lines 184 = .ok (.iload 20, 2) := by decide +kernel
theorem dL_lines_186 : decode cL_lines 186 = .ok (.iconst 1, 1) := by decide +kernel
theorem dL_lines_187 : decode cL_lines 187 = .ok (.isub, 1) := by decide +kernel
theorem dL_lines_188 : decode cL_lines 188 = .ok (.goto 5, 3) := by decide +kernel
theorem dL_lines_191 : decode cL_lines 191 = .ok (.iload 20, 2) := by decide +kernel
theorem dL_lines_193 : decode cL_lines 193 = .ok (.invokestatic 40, 3) := by decide +kernel
theorem dL_lines_196 : decode cL_lines 196 = .ok (.ifCond .ne 7, 3) := by decide +kernel
theorem dL_lines_199 : decode cL_lines 199 = .ok (.iconst 1, 1) := by decide +kernel
theorem dL_lines_200 : decode cL_lines 200 = .ok (.goto 4, 3) := by decide +kernel
theorem dL_lines_203 : decode cL_lines 203 = .ok (.iconst 0, 1) := by decide +kernel
theorem dL_lines_204 : decode cL_lines 204 = .ok (.iadd, 1) := by decide +kernel
theorem dL_lines_205 : decode cL_lines 205 = .ok (.istore 15, 2) := by decide +kernel
theorem dL_lines_207 : decode cL_lines 207 = .ok (.iload 16, 2) := by decide +kernel
theorem dL_lines_209 : decode cL_lines 209 = .ok (.iload 21, 2) := by decide +kernel
theorem dL_lines_211 : decode cL_lines 211 = .ok (.ifCond .ne 15, 3) := by decide +kernel
theorem dL_lines_214 : decode cL_lines 214 = .ok (.lload 5, 2) := by decide +kernel
theorem dL_lines_216 : decode cL_lines 216 = .ok (.iload 19, 2) := by decide +kernel
theorem dL_lines_218 : decode cL_lines 218 = .ok (.iload 20, 2) := by decide +kernel
theorem dL_lines_220 : decode cL_lines 220 = .ok (.invokestatic 40, 3) := by decide +kernel
theorem dL_lines_223 : decode cL_lines 223 = .ok (.goto 4, 3) := by decide +kernel
theorem dL_lines_226 : decode cL_lines 226 = .ok (.iconst 0, 1) := by decide +kernel
theorem dL_lines_227 : decode cL_lines 227 = .ok (.iadd, 1) := by decide +kernel
theorem dL_lines_228 : decode cL_lines 228 = .ok (.istore 16, 2) := by decide +kernel
theorem dL_lines_230 : decode cL_lines 230 = .ok (.iload 17, 2) := by decide +kernel
theorem dL_lines_232 : decode cL_lines 232 = .ok (.iload 21, 2) := by decide +kernel
theorem dL_lines_234 : decode cL_lines 234 = .ok (.iconst 1, 1) := by decide +kernel
theorem dL_lines_235 : decode cL_lines 235 = .ok (.if_icmp .ne 15, 3) := by decide +kernel
theorem dL_lines_238 : decode cL_lines 238 = .ok (.lload 5, 2) := by decide +kernel
theorem dL_lines_240 : decode cL_lines 240 = .ok (.iload 19, 2) := by decide +kernel
theorem dL_lines_242 : decode cL_lines 242 = .ok (.iload 20, 2) := by decide +kernel
theorem dL_lines_244 : decode cL_lines 244 = .ok (.invokestatic 40, 3) := by decide +kernel
theorem dL_lines_247 : decode cL_lines 247 = .ok (.goto 4, 3) := by decide +kernel
theorem dL_lines_250 : decode cL_lines 250 = .ok (.iconst 0, 1) := by decide +kernel
theorem dL_lines_251 : decode cL_lines 251 = .ok (.iadd, 1) := by decide +kernel
theorem dL_lines_252 : decode cL_lines 252 = .ok (.istore 17, 2) := by decide +kernel
theorem dL_lines_254 : decode cL_lines 254 = .ok (.iinc 18 1, 3) := by decide +kernel
theorem dL_lines_257 : decode cL_lines 257 = .ok (.goto (-178), 3) := by decide +kernel
theorem dL_lines_260 : decode cL_lines 260 = .ok (.aload_n 0, 1) := by decide +kernel
theorem dL_lines_261 : decode cL_lines 261 = .ok (.iload 11, 2) := by decide +kernel
theorem dL_lines_263 : decode cL_lines 263 = .ok (.iconst 1, 1) := by decide +kernel
theorem dL_lines_264 : decode cL_lines 264 = .ok (.invokevirtual 44, 3) := by decide +kernel
theorem dL_lines_267 : decode cL_lines 267 = .ok (.istore 18, 2) := by decide +kernel
theorem dL_lines_269 : decode cL_lines 269 = .ok (.iload 13, 2) := by decide +kernel
theorem dL_lines_271 : decode cL_lines 271 = .ok (.iload 18, 2) := by decide +kernel
theorem dL_lines_273 : decode cL_lines 273 = .ok (.if_icmp .ne 7, 3) := by decide +kernel
theorem dL_lines_276 : decode cL_lines 276 = .ok (.iconst 0, 1) := by decide +kernel
theorem dL_lines_277 : decode cL_lines 277 = .ok (.goto 29, 3) := by decide +kernel
theorem dL_lines_280 : decode cL_lines 280 = .ok (.iload 18, 2) := by decide +kernel
theorem dL_lines_282 : decode cL_lines 282 = .ok (.iload 12, 2) := by decide +kernel
theorem dL_lines_284 : decode cL_lines 284 = .ok (.iload 16, 2) := by decide +kernel
theorem dL_lines_286 : decode cL_lines 286 = .ok (.isub, 1) := by decide +kernel
theorem dL_lines_287 : decode cL_lines 287 = .ok (.if_icmp .le 7, 3) := by decide +kernel
theorem dL_lines_290 : decode cL_lines 290 = .ok (.iconst 1, 1) := by decide +kernel
theorem dL_lines_291 : decode cL_lines 291 = .ok (.goto 15, 3) := by decide +kernel
theorem dL_lines_294 : decode cL_lines 294 = .ok (.iload 18, 2) := by decide +kernel
theorem dL_lines_296 : decode cL_lines 296 = .ok (.iload 17, 2) := by decide +kernel
theorem dL_lines_298 : decode cL_lines 298 = .ok (.if_icmp .ge 7, 3) := by decide +kernel
theorem dL_lines_301 : decode cL_lines 301 = .ok (.iconst 2, 1) := by decide +kernel
theorem dL_lines_302 : decode cL_lines 302 = .ok (.goto 4, 3) := by decide +kernel
theorem dL_lines_305 : decode cL_lines 305 = .ok (.iconst 3, 1) := by decide +kernel
theorem dL_lines_306 : decode cL_lines 306 = .ok (.istore 19, 2) := by decide +kernel
theorem dL_lines_308 : decode cL_lines 308 = .ok (.aload_n 0, 1) := by decide +kernel
theorem dL_lines_309 : decode cL_lines 309 = .ok (.iload 11, 2) := by decide +kernel
theorem dL_lines_311 : decode cL_lines 311 = .ok (.iconst 3, 1) := by decide +kernel
theorem dL_lines_312 : decode cL_lines 312 = .ok (.invokevirtual 44, 3) := by decide +kernel
theorem dL_lines_315 : decode cL_lines 315 = .ok (.istore 20, 2) := by decide +kernel
theorem dL_lines_317 : decode cL_lines 317 = .ok (.aload_n 0, 1) := by decide +kernel
theorem dL_lines_318 : decode cL_lines 318 = .ok (.iload 11, 2) := by decide +kernel
theorem dL_lines_320 : decode cL_lines 320 = .ok (.iconst 0, 1) := by decide +kernel
theorem dL_lines_321 : decode cL_lines 321 = .ok (.invokevirtual 44, 3) := by decide +kernel
theorem dL_lines_324 : decode cL_lines 324 = .ok (.iload 13, 2) := by decide +kernel
theorem dL_lines_326 : decode cL_lines 326 = .ok (.if_icmp .ne 87, 3) := by decide +kernel
theorem dL_lines_329 : decode cL_lines 329 = .ok (.aload_n 0, 1) := by decide +kernel
theorem dL_lines_330 : decode cL_lines 330 = .ok (.iload 11, 2) := by decide +kernel
theorem dL_lines_332 : decode cL_lines 332 = .ok (.iconst 4, 1) := by decide +kernel
theorem dL_lines_333 : decode cL_lines 333 = .ok (.invokevirtual 44, 3) := by decide +kernel
theorem dL_lines_336 : decode cL_lines 336 = .ok (.iload 14, 2) := by decide +kernel
theorem dL_lines_338 : decode cL_lines 338 = .ok (.if_icmp .ne 75, 3) := by decide +kernel
theorem dL_lines_341 : decode cL_lines 341 = .ok (.aload_n 0, 1) := by decide +kernel
theorem dL_lines_342 : decode cL_lines 342 = .ok (.iload 11, 2) := by decide +kernel
theorem dL_lines_344 : decode cL_lines 344 = .ok (.iconst 2, 1) := by decide +kernel
theorem dL_lines_345 : decode cL_lines 345 = .ok (.invokevirtual 44, 3) := by decide +kernel
theorem dL_lines_348 : decode cL_lines 348 = .ok (.iload 15, 2) := by decide +kernel
theorem dL_lines_350 : decode cL_lines 350 = .ok (.if_icmp .ne 63, 3) := by decide +kernel
theorem dL_lines_353 : decode cL_lines 353 = .ok (.aload_n 0, 1) := by decide +kernel
theorem dL_lines_354 : decode cL_lines 354 = .ok (.iload 11, 2) := by decide +kernel
theorem dL_lines_356 : decode cL_lines 356 = .ok (.invokevirtual 48, 3) := by decide +kernel
theorem dL_lines_359 : decode cL_lines 359 = .ok (.iload 19, 2) := by decide +kernel
theorem dL_lines_361 : decode cL_lines 361 = .ok (.if_icmp .ne 52, 3) := by decide +kernel
theorem dL_lines_364 : decode cL_lines 364 = .ok (.iload 20, 2) := by decide +kernel
theorem dL_lines_366 : decode cL_lines 366 = .ok (.iload 13, 2) := by decide +kernel
theorem dL_lines_368 : decode cL_lines 368 = .ok (.if_icmp .gt 45, 3) := by decide +kernel
theorem dL_lines_371 : decode cL_lines 371 = .ok (.iload 20, 2) := by decide +kernel
theorem dL_lines_373 : decode cL_lines 373 = .ok (.iload 13, 2) := by decide +kernel
theorem dL_lines_375 : decode cL_lines 375 = .ok (.ifCond .ne 7, 3) := by decide +kernel
theorem dL_lines_378 : decode cL_lines 378 = .ok (.iconst 0, 1) := by decide +kernel
theorem dL_lines_379 : decode cL_lines 379 = .ok (.goto 4, 3) := by decide +kernel
theorem dL_lines_382 : decode cL_lines 382 = .ok (.iconst 1, 1) := by decide +kernel
theorem dL_lines_383 : decode cL_lines 383 = .ok (.if_icmp .lt 30, 3) := by decide +kernel
theorem dL_lines_386 : decode cL_lines 386 = .ok (.iload 15, 2) := by decide +kernel
theorem dL_lines_388 : decode cL_lines 388 = .ok (.iload 20, 2) := by decide +kernel
theorem dL_lines_390 : decode cL_lines 390 = .ok (.imul, 1) := by decide +kernel
theorem dL_lines_391 : decode cL_lines 391 = .ok (.iload 13, 2) := by decide +kernel
theorem dL_lines_393 : decode cL_lines 393 = .ok (.if_icmp .lt 20, 3) := by decide +kernel
theorem dL_lines_396 : decode cL_lines 396 = .ok (.iload 13, 2) := by decide +kernel
theorem dL_lines_398 : decode cL_lines 398 = .ok (.iload 15, 2) := by decide +kernel
theorem dL_lines_400 : decode cL_lines 400 = .ok (.iload 20, 2) := by decide +kernel
theorem dL_lines_402 : decode cL_lines 402 = .ok (.iadd, 1) := by decide +kernel
theorem dL_lines_403 : decode cL_lines 403 = .ok (.iconst 1, 1) := by decide +kernel
theorem dL_lines_404 : decode cL_lines 404 = .ok (.isub, 1) := by decide +kernel
theorem dL_lines_405 : decode cL_lines 405 = .ok (.if_icmp .ge 10, 3) := by decide +kernel
theorem dL_lines_408 : decode cL_lines 408 = .ok (.iload 15, 2) := by decide +kernel
theorem dL_lines_410 : decode cL_lines 410 = .ok (.ifCond .le 5, 3) := by decide +kernel
theorem dL_lines_413 : decode cL_lines 413 = .ok (.iconst 0, 1) := by decide +kernel
theorem dL_lines_414 : decode cL_lines 414 = .ok (.ireturn, 1) := by decide +kernel
theorem dL_lines_415 : decode cL_lines 415 = .ok (.iload 7, 2) := by decide +kernel
theorem dL_lines_417 : decode cL_lines 417 = .ok (.iload 11, 2) := by decide +kernel
theorem dL_lines_419 : decode cL_lines 419 = .ok (.iload_n 1, 1) := by decide +kernel
theorem dL_lines_420 : decode cL_lines 420 = .ok (.if_icmp .ge 8, 3) := by decide +kernel
theorem dL_lines_423 : decode cL_lines 423 = .ok (.iload 13, 2) := by decide +kernel
theorem dL_lines_425 : decode cL_lines 425 = .ok (.goto 4, 3) := by decide +kernel
theorem dL_lines_428 : decode cL_lines 428 = .ok (.iconst 0, 1) := by decide +kernel
theorem dL_lines_429 : decode cL_lines 429 = .ok (.iadd, 1) := by decide +kernel
theorem dL_lines_430 : decode cL_lines 430 = .ok (.istore 7, 2) := by decide +kernel
theorem dL_lines_432 : decode cL_lines 432 = .ok (.iload 8, 2) := by decide +kernel
theorem dL_lines_434 : decode cL_lines 434 = .ok (.iload 11, 2) := by decide +kernel
theorem dL_lines_436 : decode cL_lines 436 = .ok (.iload_n 1, 1) := by decide +kernel
theorem dL_lines_437 : decode cL_lines 437 = .ok (.if_icmp .ge 7, 3) := by decide +kernel
theorem dL_lines_440 : decode cL_lines 440 = .ok (.iconst 0, 1) := by decide +kernel
theorem dL_lines_441 : decode cL_lines 441 = .ok (.goto 5, 3) := by decide +kernel
theorem dL_lines_444 : decode cL_lines 444 = .ok (.iload 13, 2) := by decide +kernel
theorem dL_lines_446 : decode cL_lines 446 = .ok (.iadd, 1) := by decide +kernel
theorem dL_lines_447 : decode cL_lines 447 = .ok (.istore 8, 2) := by decide +kernel
theorem dL_lines_449 : decode cL_lines 449 = .ok (.iload 9, 2) := by decide +kernel
theorem dL_lines_451 : decode cL_lines 451 = .ok (.iload 13, 2) := by decide +kernel
theorem dL_lines_453 : decode cL_lines 453 = .ok (.iload 18, 2) := by decide +kernel
theorem dL_lines_455 : decode cL_lines 455 = .ok (.if_icmp .ne 7, 3) := by decide +kernel
theorem dL_lines_458 : decode cL_lines 458 = .ok (.iconst 0, 1) := by decide +kernel
theorem dL_lines_459 : decode cL_lines 459 = .ok (.goto 4, 3) := by decide +kernel
theorem dL_lines_462 : decode cL_lines 462 = .ok (.iconst 1, 1) := by decide +kernel
theorem dL_lines_463 : decode cL_lines 463 = .ok (.iadd, 1) := by decide +kernel
theorem dL_lines_464 : decode cL_lines 464 = .ok (.istore 9, 2) := by decide +kernel
theorem dL_lines_466 : decode cL_lines 466 = .ok (.iload 10, 2) := by decide +kernel
theorem dL_lines_468 : decode cL_lines 468 = .ok (.iload 18, 2) := by decide +kernel
theorem dL_lines_470 : decode cL_lines 470 = .ok (.iadd, 1) := by decide +kernel
theorem dL_lines_471 : decode cL_lines 471 = .ok (.istore 10, 2) := by decide +kernel
theorem dL_lines_473 : decode cL_lines 473 = .ok (.iinc 11 1, 3) := by decide +kernel
theorem dL_lines_476 : decode cL_lines 476 = .ok (.goto (-436), 3) := by decide +kernel
theorem dL_lines_479 : decode cL_lines 479 = .ok (.iload 7, 2) := by decide +kernel
theorem dL_lines_481 : decode cL_lines 481 = .ok (.iload 8, 2) := by decide +kernel
theorem dL_lines_483 : decode cL_lines 483 = .ok (.if_icmp .ne 57, 3) := by decide +kernel
theorem dL_lines_486 : decode cL_lines 486 = .ok (.aload_n 0, 1) := by decide +kernel
theorem dL_lines_487 : decode cL_lines 487 = .ok (.iconst 2, 1) := by decide +kernel
theorem dL_lines_488 : decode cL_lines 488 = .ok (.invokevirtual 27, 3) := by decide +kernel
theorem dL_lines_491 : decode cL_lines 491 = .ok (.iload 7, 2) := by decide +kernel
theorem dL_lines_493 : decode cL_lines 493 = .ok (.if_icmp .ne 47, 3) := by decide +kernel
theorem dL_lines_496 : decode cL_lines 496 = .ok (.aload_n 0, 1) := by decide +kernel
theorem dL_lines_497 : decode cL_lines 497 = .ok (.bipush 6, 2) := by decide +kernel
theorem dL_lines_499 : decode cL_lines 499 = .ok (.invokevirtual 27, 3) := by decide +kernel
theorem dL_lines_502 : decode cL_lines 502 = .ok (.iload 9, 2) := by decide +kernel
theorem dL_lines_504 : decode cL_lines 504 = .ok (.if_icmp .ne 36, 3) := by decide +kernel
theorem dL_lines_507 : decode cL_lines 507 = .ok (.aload_n 0, 1) := by decide +kernel
theorem dL_lines_508 : decode cL_lines 508 = .ok (.iconst 4, 1) := by decide +kernel
theorem dL_lines_509 : decode cL_lines 509 = .ok (.invokevirtual 27, 3) := by decide +kernel
theorem dL_lines_512 : decode cL_lines 512 = .ok (.aload_n 0, 1) := by decide +kernel
theorem dL_lines_513 : decode cL_lines 513 = .ok (.iconst 5, 1) := by decide +kernel
theorem dL_lines_514 : decode cL_lines 514 = .ok (.invokevirtual 27, 3) := by decide +kernel
theorem dL_lines_517 : decode cL_lines 517 = .ok (.iadd, 1) := by decide +kernel
theorem dL_lines_518 : decode cL_lines 518 = .ok (.iload 10, 2) := by decide +kernel
theorem dL_lines_520 : decode cL_lines 520 = .ok (.if_icmp .ne 20, 3) := by decide +kernel
theorem dL_lines_523 : decode cL_lines 523 = .ok (.aload_n 0, 1) := by decide +kernel
theorem dL_lines_524 : decode cL_lines 524 = .ok (.iconst 3, 1) := by decide +kernel
theorem dL_lines_525 : decode cL_lines 525 = .ok (.invokevirtual 27, 3) := by decide +kernel
theorem dL_lines_528 : decode cL_lines 528 = .ok (.lload 5, 2) := by decide +kernel
theorem dL_lines_530 : decode cL_lines 530 = .ok (.invokestatic 51, 3) := by decide +kernel
theorem dL_lines_533 : decode cL_lines 533 = .ok (.if_icmp .ne 7, 3) := by decide +kernel
theorem dL_lines_536 : decode cL_lines 536 = .ok (.iconst 1, 1) := by decide +kernel
theorem dL_lines_537 : decode cL_lines 537 = .ok (.goto 4, 3) := by decide +kernel
theorem dL_lines_540 : decode cL_lines 540 = .ok (.iconst 0, 1) := by decide +kernel
theorem dL_lines_541 : decode cL_lines 541 = .ok (.ireturn, 1) := by decide +kernel
theorem dL_pieces_0 : decode cL_pieces 0 = .ok (.aload_n 0, 1) := by decide +kernel
theorem dL_pieces_1 : decode cL_pieces 1 = .ok (.bipush 7, 2) := by decide +kernel
theorem dL_pieces_3 : decode cL_pieces 3 = .ok (.invokevirtual 27, 3) := by decide +kernel
theorem dL_pieces_6 : decode cL_pieces 6 = .ok (.istore_n 1, 1) := by decide +kernel
theorem dL_pieces_7 : decode cL_pieces 7 = .ok (.aload_n 0, 1) := by decide +kernel
theorem dL_pieces_8 : decode cL_pieces 8 = .ok (.iconst 0, 1) := by decide +kernel
theorem dL_pieces_9 : decode cL_pieces 9 = .ok (.invokestatic 34, 3) := by decide +kernel
theorem dL_pieces_12 : decode cL_pieces 12 = .ok (.lstore_n 2, 1) := by decide +kernel
theorem dL_pieces_13 : decode cL_pieces 13 = .ok (.iconst 0, 1) := by decide +kernel
theorem dL_pieces_14 : decode cL_pieces 14 = .ok (.istore 4, 2) := by decide +kernel
theorem dL_pieces_16 : decode cL_pieces 16 = .ok (.iconst 0, 1) := by decide +kernel
theorem dL_pieces_17 : decode cL_pieces 17 = .ok (.istore 5, 2) := by decide +kernel
theorem dL_pieces_19 : decode cL_pieces 19 = .ok (.iconst (-1), 1) := by decide +kernel
theorem dL_pieces_20 : decode cL_pieces 20 = .ok (.istore 6, 2) := by decide +kernel
theorem dL_pieces_22 : decode cL_pieces 22 = .ok (.iconst 0, 1) := by decide +kernel
theorem dL_pieces_23 : decode cL_pieces 23 = .ok (.istore 7, 2) := by decide +kernel
theorem dL_pieces_25 : decode cL_pieces 25 = .ok (.iload 7, 2) := by decide +kernel
theorem dL_pieces_27 : decode cL_pieces 27 = .ok (.iload_n 1, 1) := by decide +kernel
theorem dL_pieces_28 : decode cL_pieces 28 = .ok (.if_icmp .ge 147, 3) := by decide +kernel
theorem dL_pieces_31 : decode cL_pieces 31 = .ok (.aload_n 0, 1) := by decide +kernel
theorem dL_pieces_32 : decode cL_pieces 32 = .ok (.iload 7, 2) := by decide +kernel
theorem dL_pieces_34 : decode cL_pieces 34 = .ok (.iconst 4, 1) := by decide +kernel
theorem dL_pieces_35 : decode cL_pieces 35 = .ok (.invokevirtual 55, 3) := by decide +kernel
theorem dL_pieces_38 : decode cL_pieces 38 = .ok (.istore 8, 2) := by decide +kernel
theorem dL_pieces_40 : decode cL_pieces 40 = .ok (.iload 8, 2) := by decide +kernel
theorem dL_pieces_42 : decode cL_pieces 42 = .ok (.iload 6, 2) := by decide +kernel
theorem dL_pieces_44 : decode cL_pieces 44 = .ok (.if_icmp .le 95, 3) := by decide +kernel
theorem dL_pieces_47 : decode cL_pieces 47 = .ok (.aload_n 0, 1) := by decide +kernel
theorem dL_pieces_48 : decode cL_pieces 48 = .ok (.iload 8, 2) := by decide +kernel
theorem dL_pieces_50 : decode cL_pieces 50 = .ok (.bipush 10, 2) := by decide +kernel
theorem dL_pieces_52 : decode cL_pieces 52 = .ok (.idiv, 1) := by decide +kernel
theorem dL_pieces_53 : decode cL_pieces 53 = .ok (.iload 8, 2) := by decide +kernel
theorem dL_pieces_55 : decode cL_pieces 55 = .ok (.bipush 10, 2) := by decide +kernel
theorem dL_pieces_57 : decode cL_pieces 57 = .ok (.irem, 1) := by decide +kernel
theorem dL_pieces_58 : decode cL_pieces 58 = .ok (.iconst 2, 1) := by decide +kernel
theorem dL_pieces_59 : decode cL_pieces 59 = .ok (.invokevirtual 30, 3) := by decide +kernel
theorem dL_pieces_62 : decode cL_pieces 62 = .ok (.iload 7, 2) := by decide +kernel
theorem dL_pieces_64 : decode cL_pieces 64 = .ok (.if_icmp .ne 75, 3) := by decide +kernel
theorem dL_pieces_67 : decode cL_pieces 67 = .ok (.aload_n 0, 1) := by decide +kernel
theorem dL_pieces_68 : decode cL_pieces 68 = .ok (.iload 7, 2) := by decide +kernel
theorem dL_pieces_70 : decode cL_pieces 70 = .ok (.iconst 0, 1) := by decide +kernel
theorem dL_pieces_71 : decode cL_pieces 71 = .ok (.invokevirtual 55, 3) := by decide +kernel
theorem dL_pieces_74 : decode cL_pieces 74 = .ok (.aload_n 0, 1) := by decide +kernel
theorem dL_pieces_75 : decode cL_pieces 75 = .ok (.iload 7, 2) := by decide +kernel
theorem dL_pieces_77 : decode cL_pieces 77 = .ok (.iconst 2, 1) := by decide +kernel
theorem dL_pieces_78 : decode cL_pieces 78 = .ok (.invokevirtual 55, 3) := by decide +kernel
theorem dL_pieces_81 : decode cL_pieces 81 = .ok (.if_icmp .lt 58, 3) := by decide +kernel
theorem dL_pieces_84 : decode cL_pieces 84 = .ok (.aload_n 0, 1) := by decide +kernel
theorem dL_pieces_85 : decode cL_pieces 85 = .ok (.iload 7, 2) := by decide +kernel
theorem dL_pieces_87 : decode cL_pieces 87 = .ok (.iconst 0, 1) := by decide +kernel
theorem dL_pieces_88 : decode cL_pieces 88 = .ok (.invokevirtual 55, 3) := by decide +kernel
theorem dL_pieces_91 : decode cL_pieces 91 = .ok (.aload_n 0, 1) := by decide +kernel
theorem dL_pieces_92 : decode cL_pieces 92 = .ok (.iload 7, 2) := by decide +kernel
theorem dL_pieces_94 : decode cL_pieces 94 = .ok (.iconst 3, 1) := by decide +kernel
theorem dL_pieces_95 : decode cL_pieces 95 = .ok (.invokevirtual 55, 3) := by decide +kernel
theorem dL_pieces_98 : decode cL_pieces 98 = .ok (.if_icmp .lt 41, 3) := by decide +kernel
theorem dL_pieces_101 : decode cL_pieces 101 = .ok (.aload_n 0, 1) := by decide +kernel
theorem dL_pieces_102 : decode cL_pieces 102 = .ok (.iload 7, 2) := by decide +kernel
theorem dL_pieces_104 : decode cL_pieces 104 = .ok (.iconst 0, 1) := by decide +kernel
theorem dL_pieces_105 : decode cL_pieces 105 = .ok (.invokevirtual 55, 3) := by decide +kernel
theorem dL_pieces_108 : decode cL_pieces 108 = .ok (.aload_n 0, 1) := by decide +kernel
theorem dL_pieces_109 : decode cL_pieces 109 = .ok (.iload 7, 2) := by decide +kernel
theorem dL_pieces_111 : decode cL_pieces 111 = .ok (.iconst 2, 1) := by decide +kernel
theorem dL_pieces_112 : decode cL_pieces 112 = .ok (.invokevirtual 55, 3) := by decide +kernel
theorem dL_pieces_115 : decode cL_pieces 115 = .ok (.aload_n 0, 1) := by decide +kernel
theorem dL_pieces_116 : decode cL_pieces 116 = .ok (.iload 7, 2) := by decide +kernel
theorem dL_pieces_118 : decode cL_pieces 118 = .ok (.iconst 3, 1) := by decide +kernel
theorem dL_pieces_119 : decode cL_pieces 119 = .ok (.invokevirtual 55, 3) := by decide +kernel
theorem dL_pieces_122 : decode cL_pieces 122 = .ok (.iadd, 1) := by decide +kernel
theorem dL_pieces_123 : decode cL_pieces 123 = .ok (.iconst 1, 1) := by decide +kernel
theorem dL_pieces_124 : decode cL_pieces 124 = .ok (.isub, 1) := by decide +kernel
theorem dL_pieces_125 : decode cL_pieces 125 = .ok (.if_icmp .lt 14, 3) := by decide +kernel
theorem dL_pieces_128 : decode cL_pieces 128 = .ok (.aload_n 0, 1) := by decide +kernel
theorem dL_pieces_129 : decode cL_pieces 129 = .ok (.iload 7, 2) := by decide +kernel
theorem dL_pieces_131 : decode cL_pieces 131 = .ok (.iconst 1, 1) := by decide +kernel
theorem dL_pieces_132 : decode cL_pieces 132 = .ok (.invokevirtual 55, 3) := by decide +kernel
theorem dL_pieces_135 : decode cL_pieces 135 = .ok (.iconst 4, 1) := by decide +kernel
theorem dL_pieces_136 : decode cL_pieces 136 = .ok (.if_icmp .ge 5, 3) := by decide +kernel
theorem dL_pieces_139 : decode cL_pieces 139 = .ok (.iconst 0, 1) := by decide +kernel
theorem dL_pieces_140 : decode cL_pieces 140 = .ok (.ireturn, 1) := by decide +kernel
theorem dL_pieces_141 : decode cL_pieces 141 = .ok (.iload 8, 2) := by decide +kernel
theorem dL_pieces_143 : decode cL_pieces 143 = .ok (.istore 6, 2) := by decide +kernel
theorem dL_pieces_145 : decode cL_pieces 145 = .ok (.iload 4, 2) := by decide +kernel
theorem dL_pieces_147 : decode cL_pieces 147 = .ok (.aload_n 0, 1) := by decide +kernel
theorem dL_pieces_148 : decode cL_pieces 148 = .ok (.iload 7, 2) := by decide +kernel
theorem dL_pieces_150 : decode cL_pieces 150 = .ok (.iconst 0, 1) := by decide +kernel
theorem dL_pieces_151 : decode cL_pieces 151 = .ok (.invokevirtual 55, 3) := by decide +kernel
theorem dL_pieces_154 : decode cL_pieces 154 = .ok (.iadd, 1) := by decide +kernel
theorem dL_pieces_155 : decode cL_pieces 155 = .ok (.istore 4, 2) := by decide +kernel
theorem dL_pieces_157 : decode cL_pieces 157 = .ok (.iload 5, 2) := by decide +kernel
theorem dL_pieces_159 : decode cL_pieces 159 = .ok (.aload_n 0, 1) := by decide +kernel
theorem dL_pieces_160 : decode cL_pieces 160 = .ok (.iload 7, 2) := by decide +kernel
theorem dL_pieces_162 : decode cL_pieces 162 = .ok (.iconst 1, 1) := by decide +kernel
theorem dL_pieces_163 : decode cL_pieces 163 = .ok (.invokevirtual 55, 3) := by decide +kernel
theorem dL_pieces_166 : decode cL_pieces 166 = .ok (.iadd, 1) := by decide +kernel
theorem dL_pieces_167 : decode cL_pieces 167 = .ok (.istore 5, 2) := by decide +kernel
theorem dL_pieces_169 : decode cL_pieces 169 = .ok (.iinc 7 1, 3) := by decide +kernel
theorem dL_pieces_172 : decode cL_pieces 172 = .ok (.goto (-147), 3) := by decide +kernel
theorem dL_pieces_175 : decode cL_pieces 175 = .ok (.iconst 0, 1) := by decide +kernel
theorem dL_pieces_176 : decode cL_pieces 176 = .ok (.istore 7, 2) := by decide +kernel
theorem dL_pieces_178 : decode cL_pieces 178 = .ok (.iconst 0, 1) := by decide +kernel
theorem dL_pieces_179 : decode cL_pieces 179 = .ok (.istore 8, 2) := by decide +kernel
theorem dL_pieces_181 : decode cL_pieces 181 = .ok (.iload 8, 2) := by decide +kernel
theorem dL_pieces_183 : decode cL_pieces 183 = .ok (.aload_n 0, 1) := by decide +kernel
theorem dL_pieces_184 : decode cL_pieces 184 = .ok (.iconst 0, 1) := by decide +kernel
theorem dL_pieces_185 : decode cL_pieces 185 = .ok (.invokevirtual 27, 3) := by decide +kernel
theorem dL_pieces_188 : decode cL_pieces 188 = .ok (.if_icmp .ge 229, 3) := by decide +kernel
theorem dL_pieces_191 : decode cL_pieces 191 = .ok (.iconst 0, 1) := by decide +kernel
theorem dL_pieces_192 : decode cL_pieces 192 = .ok (.istore 9, 2) := by decide +kernel
theorem dL_pieces_194 : decode cL_pieces 194 = .ok (.iload 9, 2) := by decide +kernel
theorem dL_pieces_196 : decode cL_pieces 196 = .ok (.aload_n 0, 1) := by decide +kernel
theorem dL_pieces_197 : decode cL_pieces 197 = .ok (.iconst 1, 1) := by decide +kernel
theorem dL_pieces_198 : decode cL_pieces 198 = .ok (.invokevirtual 27, 3) := by decide +kernel
theorem dL_pieces_201 : decode cL_pieces 201 = .ok (.if_icmp .ge 210, 3) := by decide +kernel
theorem dL_pieces_204 : decode cL_pieces 204 = .ok (.lload_n 2, 1) := by decide +kernel
theorem dL_pieces_205 : decode cL_pieces 205 = .ok (.iload 8, 2) := by decide +kernel
theorem dL_pieces_207 : decode cL_pieces 207 = .ok (.iload 9, 2) := by decide +kernel
theorem dL_pieces_209 : decode cL_pieces 209 = .ok (.invokestatic 40, 3) := by decide +kernel
theorem dL_pieces_212 : decode cL_pieces 212 = .ok (.istore 10, 2) := by decide +kernel
theorem dL_pieces_214 : decode cL_pieces 214 = .ok (.aload_n 0, 1) := by decide +kernel
theorem dL_pieces_215 : decode cL_pieces 215 = .ok (.iload 8, 2) := by decide +kernel
theorem dL_pieces_217 : decode cL_pieces 217 = .ok (.iload 9, 2) := by decide +kernel
theorem dL_pieces_219 : decode cL_pieces 219 = .ok (.iconst 2, 1) := by decide +kernel
theorem dL_pieces_220 : decode cL_pieces 220 = .ok (.invokevirtual 30, 3) := by decide +kernel
theorem dL_pieces_223 : decode cL_pieces 223 = .ok (.istore 11, 2) := by decide +kernel
theorem dL_pieces_225 : decode cL_pieces 225 = .ok (.iload 7, 2) := by decide +kernel
theorem dL_pieces_227 : decode cL_pieces 227 = .ok (.iload 10, 2) := by decide +kernel
theorem dL_pieces_229 : decode cL_pieces 229 = .ok (.iconst 1, 1) := by decide +kernel
theorem dL_pieces_230 : decode cL_pieces 230 = .ok (.if_icmp .ne 51, 3) := by decide +kernel
theorem dL_pieces_233 : decode cL_pieces 233 = .ok (.iconst 4, 1) := by decide +kernel
theorem dL_pieces_234 : decode cL_pieces 234 = .ok (.lload_n 2, 1) := by decide +kernel
theorem dL_pieces_235 : decode cL_pieces 235 = .ok (.iload 8, 2) := by decide +kernel
theorem dL_pieces_237 : decode cL_pieces 237 = .ok (.iconst 1, 1) := by decide +kernel
theorem dL_pieces_238 : decode cL_pieces 238 = .ok (.isub, 1) := by decide +kernel
theorem dL_pieces_239 : decode cL_pieces 239 = .ok (.iload 9, 2) := by decide +kernel
theorem dL_pieces_241 : decode cL_pieces 241 = .ok (.invokestatic 40, 3) := by decide +kernel
theorem dL_pieces_244 : decode cL_pieces 244 = .ok (.isub, 1) := by decide +kernel
