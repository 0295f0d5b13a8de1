theorem dX4_init_19 : decode cX4_init 19 = .ok (.aload_n 0, 1) := by decide +kernel
theorem dX4_init_20 : decode cX4_init 20 = .ok (.lconst 0, 1) := by decide +kernel
theorem dX4_init_21 : decode cX4_init 21 = .ok (.putfield 22, 3) := by decide +kernel
theorem dX4_init_24 : decode cX4_init 24 = .ok (.aload_n 0, 1) := by decide +kernel
theorem dX4_init_25 : decode cX4_init 25 = .ok (.lconst 0, 1) := by decide +kernel
theorem dX4_init_26 : decode cX4_init 26 = .ok (.putfield 25, 3) := by decide +kernel
theorem dX4_init_29 : decode cX4_init 29 = .ok (.aload_n 0, 1) := by decide +kernel
theorem dX4_init_30 : decode cX4_init 30 = .ok (.lconst 0, 1) := by decide +kernel
theorem dX4_init_31 : decode cX4_init 31 = .ok (.putfield 28, 3) := by decide +kernel
theorem dX4_init_34 : decode cX4_init 34 = .ok (.return_, 1) := by decide +kernel
theorem dX4_copyFrom_0 : decode cX4_copyFrom 0 = .ok (.aload_n 0, 1) := by decide +kernel
theorem dX4_copyFrom_1 : decode cX4_copyFrom 1 = .ok (.aload_n 1, 1) := by decide +kernel
theorem dX4_copyFrom_2 : decode cX4_copyFrom 2 = .ok (.getfield 9, 3) := by decide +kernel
theorem dX4_copyFrom_5 : decode cX4_copyFrom 5 = .ok (.putfield 9, 3) := by decide +kernel
theorem dX4_copyFrom_8 : decode cX4_copyFrom 8 = .ok (.aload_n 0, 1) := by decide +kernel
theorem dX4_copyFrom_9 : decode cX4_copyFrom 9 = .ok (.aload_n 1, 1) := by decide +kernel
theorem dX4_copyFrom_10 : decode cX4_copyFrom 10 = .ok (.getfield 15, 3) := by decide +kernel
theorem dX4_copyFrom_13 : decode cX4_copyFrom 13 = .ok (.putfield 15, 3) := by decide +kernel
theorem dX4_copyFrom_16 : decode cX4_copyFrom 16 = .ok (.aload_n 0, 1) := by decide +kernel
theorem dX4_copyFrom_17 : decode cX4_copyFrom 17 = .ok (.aload_n 1, 1) := by decide +kernel
theorem dX4_copyFrom_18 : decode cX4_copyFrom 18 = .ok (.getfield 18, 3) := by decide +kernel
theorem dX4_copyFrom_21 : decode cX4_copyFrom 21 = .ok (.putfield 18, 3) := by decide +kernel
theorem dX4_copyFrom_24 : decode cX4_copyFrom 24 = .ok (.aload_n 0, 1) := by decide +kernel
theorem dX4_copyFrom_25 : decode cX4_copyFrom 25 = .ok (.aload_n 1, 1) := by decide +kernel
theorem dX4_copyFrom_26 : decode cX4_copyFrom 26 = .ok (.getfield 22, 3) := by decide +kernel
theorem dX4_copyFrom_29 : decode cX4_copyFrom 29 = .ok (.putfield 22, 3) := by decide +kernel
theorem dX4_copyFrom_32 : decode cX4_copyFrom 32 = .ok (.aload_n 0, 1) := by decide +kernel
theorem dX4_copyFrom_33 : decode cX4_copyFrom 33 = .ok (.aload_n 1, 1) := by decide +kernel
theorem dX4_copyFrom_34 : decode cX4_copyFrom 34 = .ok (.getfield 25, 3) := by decide +kernel
theorem dX4_copyFrom_37 : decode cX4_copyFrom 37 = .ok (.putfield 25, 3) := by decide +kernel
theorem dX4_copyFrom_40 : decode cX4_copyFrom 40 = .ok (.aload_n 0, 1) := by decide +kernel
theorem dX4_copyFrom_41 : decode cX4_copyFrom 41 = .ok (.aload_n 1, 1) := by decide +kernel
theorem dX4_copyFrom_42 : decode cX4_copyFrom 42 = .ok (.getfield 28, 3) := by decide +kernel
theorem dX4_copyFrom_45 : decode cX4_copyFrom 45 = .ok (.putfield 28, 3) := by decide +kernel
theorem dX4_copyFrom_48 : decode cX4_copyFrom 48 = .ok (.return_, 1) := by decide +kernel
theorem dX4_hasCell_0 : decode cX4_hasCell 0 = .ok (.iload_n 1, 1) := by decide +kernel
theorem dX4_hasCell_1 : decode cX4_hasCell 1 = .ok (.ifCond .lt 27, 3) := by decide +kernel
theorem dX4_hasCell_4 : decode cX4_hasCell 4 = .ok (.iload_n 1, 1) := by decide +kernel
theorem dX4_hasCell_5 : decode cX4_hasCell 5 = .ok (.aload_n 0, 1) := by decide +kernel
theorem dX4_hasCell_6 : decode cX4_hasCell 6 = .ok (.getfield 9, 3) := by decide +kernel
theorem dX4_hasCell_9 : decode cX4_hasCell 9 = .ok (.if_icmp .ge 19, 3) := by decide +kernel
theorem dX4_hasCell_12 : decode cX4_hasCell 12 = .ok (.iload_n 2, 1) := by decide +kernel
theorem dX4_hasCell_13 : decode cX4_hasCell 13 = .ok (.ifCond .lt 15, 3) := by decide +kernel
theorem dX4_hasCell_16 : decode cX4_hasCell 16 = .ok (.iload_n 2, 1) := by decide +kernel
theorem dX4_hasCell_17 : decode cX4_hasCell 17 = .ok (.aload_n 0, 1) := by decide +kernel
theorem dX4_hasCell_18 : decode cX4_hasCell 18 = .ok (.getfield 15, 3) := by decide +kernel
theorem dX4_hasCell_21 : decode cX4_hasCell 21 = .ok (.if_icmp .ge 7, 3) := by decide +kernel
theorem dX4_hasCell_24 : decode cX4_hasCell 24 = .ok (.iconst 1, 1) := by decide +kernel
theorem dX4_hasCell_25 : decode cX4_hasCell 25 = .ok (.goto 4, 3) := by decide +kernel
theorem dX4_hasCell_28 : decode cX4_hasCell 28 = .ok (.iconst 0, 1) := by decide +kernel
theorem dX4_hasCell_29 : decode cX4_hasCell 29 = .ok (.ireturn, 1) := by decide +kernel
theorem dX4_hasLine_0 : decode cX4_hasLine 0 = .ok (.iload_n 1, 1) := by decide +kernel
theorem dX4_hasLine_1 : decode cX4_hasLine 1 = .ok (.ifCond .lt 20, 3) := by decide +kernel
theorem dX4_hasLine_4 : decode cX4_hasLine 4 = .ok (.iload_n 1, 1) := by decide +kernel
theorem dX4_hasLine_5 : decode cX4_hasLine 5 = .ok (.aload_n 0, 1) := by decide +kernel
theorem dX4_hasLine_6 : decode cX4_hasLine 6 = .ok (.getfield 9, 3) := by decide +kernel
theorem dX4_hasLine_9 : decode cX4_hasLine 9 = .ok (.aload_n 0, 1) := by decide +kernel
theorem dX4_hasLine_10 : decode cX4_hasLine 10 = .ok (.getfield 15, 3) := by decide +kernel
theorem dX4_hasLine_13 : decode cX4_hasLine 13 = .ok (.iadd, 1) := by decide +kernel
theorem dX4_hasLine_14 : decode cX4_hasLine 14 = .ok (.if_icmp .ge 7, 3) := by decide +kernel
theorem dX4_hasLine_17 : decode cX4_hasLine 17 = .ok (.iconst 1, 1) := by decide +kernel
theorem dX4_hasLine_18 : decode cX4_hasLine 18 = .ok (.goto 4, 3) := by decide +kernel
theorem dX4_hasLine_21 : decode cX4_hasLine 21 = .ok (.iconst 0, 1) := by decide +kernel
theorem dX4_hasLine_22 : decode cX4_hasLine 22 = .ok (.ireturn, 1) := by decide +kernel
theorem dX4_board_0 : decode cX4_board 0 = .ok (.lconst 1, 1) := by decide +kernel
theorem dX4_board_1 : decode cX4_board 1 = .ok (.aload_n 0, 1) := by decide +kernel
theorem dX4_board_2 : decode cX4_board 2 = .ok (.getfield 15, 3) := by decide +kernel
theorem dX4_board_5 : decode cX4_board 5 = .ok (.lshl, 1) := by decide +kernel
theorem dX4_board_6 : decode cX4_board 6 = .ok (.lconst 1, 1) := by decide +kernel
theorem dX4_board_7 : decode cX4_board 7 = .ok (.lsub, 1) := by decide +kernel
theorem dX4_board_8 : decode cX4_board 8 = .ok (.ldc2_w 33, 3) := by decide +kernel
theorem dX4_board_11 : decode cX4_board 11 = .ok (.lmul, 1) := by decide +kernel
theorem dX4_board_12 : decode cX4_board 12 = .ok (.lconst 1, 1) := by decide +kernel
theorem dX4_board_13 : decode cX4_board 13 = .ok (.bipush 8, 2) := by decide +kernel
theorem dX4_board_15 : decode cX4_board 15 = .ok (.aload_n 0, 1) := by decide +kernel
theorem dX4_board_16 : decode cX4_board 16 = .ok (.getfield 9, 3) := by decide +kernel
theorem dX4_board_19 : decode cX4_board 19 = .ok (.imul, 1) := by decide +kernel
theorem dX4_board_20 : decode cX4_board 20 = .ok (.lshl, 1) := by decide +kernel
theorem dX4_board_21 : decode cX4_board 21 = .ok (.lconst 1, 1) := by decide +kernel
theorem dX4_board_22 : decode cX4_board 22 = .ok (.lsub, 1) := by decide +kernel
theorem dX4_board_23 : decode cX4_board 23 = .ok (.land, 1) := by decide +kernel
theorem dX4_board_24 : decode cX4_board 24 = .ok (.lreturn, 1) := by decide +kernel
theorem dX4_lineMask_0 : decode cX4_lineMask 0 = .ok (.aload_n 0, 1) := by decide +kernel
theorem dX4_lineMask_1 : decode cX4_lineMask 1 = .ok (.invokevirtual 35, 3) := by decide +kernel
theorem dX4_lineMask_4 : decode cX4_lineMask 4 = .ok (.iload_n 1, 1) := by decide +kernel
theorem dX4_lineMask_5 : decode cX4_lineMask 5 = .ok (.aload_n 0, 1) := by decide +kernel
theorem dX4_lineMask_6 : decode cX4_lineMask 6 = .ok (.getfield 9, 3) := by decide +kernel
theorem dX4_lineMask_9 : decode cX4_lineMask 9 = .ok (.if_icmp .ge 10, 3) := by decide +kernel
theorem dX4_lineMask_12 : decode cX4_lineMask 12 = .ok (.iload_n 1, 1) := by decide +kernel
theorem dX4_lineMask_13 : decode cX4_lineMask 13 = .ok (.invokestatic 39, 3) := by decide +kernel
theorem dX4_lineMask_16 : decode cX4_lineMask 16 = .ok (.goto 12, 3) := by decide +kernel
theorem dX4_lineMask_19 : decode cX4_lineMask 19 = .ok (.iload_n 1, 1) := by decide +kernel
theorem dX4_lineMask_20 : decode cX4_lineMask 20 = .ok (.aload_n 0, 1) := by decide +kernel
theorem dX4_lineMask_21 : decode cX4_lineMask 21 = .ok (.getfield 9, 3) := by decide +kernel
theorem dX4_lineMask_24 : decode cX4_lineMask 24 = .ok (.isub, 1) := by decide +kernel
theorem dX4_lineMask_25 : decode cX4_lineMask 25 = .ok (.invokestatic 43, 3) := by decide +kernel
theorem dX4_lineMask_28 : decode cX4_lineMask 28 = .ok (.land, 1) := by decide +kernel
theorem dX4_lineMask_29 : decode cX4_lineMask 29 = .ok (.lreturn, 1) := by decide +kernel
theorem dX4_stepIn_0 : decode cX4_stepIn 0 = .ok (.iload_n 1, 1) := by decide +kernel
theorem dX4_stepIn_1 : decode cX4_stepIn 1 = .ok (.aload_n 0, 1) := by decide +kernel
theorem dX4_stepIn_2 : decode cX4_stepIn 2 = .ok (.getfield 9, 3) := by decide +kernel
theorem dX4_stepIn_5 : decode cX4_stepIn 5 = .ok (.if_icmp .ge 7, 3) := by decide +kernel
theorem dX4_stepIn_8 : decode cX4_stepIn 8 = .ok (.iconst 1, 1) := by decide +kernel
theorem dX4_stepIn_9 : decode cX4_stepIn 9 = .ok (.goto 5, 3) := by decide +kernel
theorem dX4_stepIn_12 : decode cX4_stepIn 12 = .ok (.bipush 8, 2) := by decide +kernel
theorem dX4_stepIn_14 : decode cX4_stepIn 14 = .ok (.ireturn, 1) := by decide +kernel
theorem dX4_countFilled_0 : decode cX4_countFilled 0 = .ok (.aload_n 0, 1) := by decide +kernel
theorem dX4_countFilled_1 : decode cX4_countFilled 1 = .ok (.getfield 18, 3) := by decide +kernel
theorem dX4_countFilled_4 : decode cX4_countFilled 4 = .ok (.invokestatic 46, 3) := by decide +kernel
theorem dX4_countFilled_7 : decode cX4_countFilled 7 = .ok (.ireturn, 1) := by decide +kernel
theorem dX4_countOf_0 : decode cX4_countOf 0 = .ok (.aload_n 0, 1) := by decide +kernel
theorem dX4_countOf_1 : decode cX4_countOf 1 = .ok (.getfield 18, 3) := by decide +kernel
theorem dX4_countOf_4 : decode cX4_countOf 4 = .ok (.aload_n 0, 1) := by decide +kernel
theorem dX4_countOf_5 : decode cX4_countOf 5 = .ok (.iload_n 1, 1) := by decide +kernel
theorem dX4_countOf_6 : decode cX4_countOf 6 = .ok (.invokevirtual 52, 3) := by decide +kernel
theorem dX4_countOf_9 : decode cX4_countOf 9 = .ok (.land, 1) := by decide +kernel
theorem dX4_countOf_10 : decode cX4_countOf 10 = .ok (.invokestatic 46, 3) := by decide +kernel
theorem dX4_countOf_13 : decode cX4_countOf 13 = .ok (.ireturn, 1) := by decide +kernel
theorem dX4_wantedOf_0 : decode cX4_wantedOf 0 = .ok (.iload_n 1, 1) := by decide +kernel
theorem dX4_wantedOf_1 : decode cX4_wantedOf 1 = .ok (.aload_n 0, 1) := by decide +kernel
theorem dX4_wantedOf_2 : decode cX4_wantedOf 2 = .ok (.getfield 9, 3) := by decide +kernel
theorem dX4_wantedOf_5 : decode cX4_wantedOf 5 = .ok (.if_icmp .ge 14, 3) := by decide +kernel
theorem dX4_wantedOf_8 : decode cX4_wantedOf 8 = .ok (.aload_n 0, 1) := by decide +kernel
theorem dX4_wantedOf_9 : decode cX4_wantedOf 9 = .ok (.getfield 25, 3) := by decide +kernel
theorem dX4_wantedOf_12 : decode cX4_wantedOf 12 = .ok (.iload_n 1, 1) := by decide +kernel
theorem dX4_wantedOf_13 : decode cX4_wantedOf 13 = .ok (.invokestatic 55, 3) := by decide +kernel
theorem dX4_wantedOf_16 : decode cX4_wantedOf 16 = .ok (.goto 16, 3) := by decide +kernel
theorem dX4_wantedOf_19 : decode cX4_wantedOf 19 = .ok (.aload_n 0, 1) := by decide +kernel
theorem dX4_wantedOf_20 : decode cX4_wantedOf 20 = .ok (.getfield 28, 3) := by decide +kernel
theorem dX4_wantedOf_23 : decode cX4_wantedOf 23 = .ok (.iload_n 1, 1) := by decide +kernel
theorem dX4_wantedOf_24 : decode cX4_wantedOf 24 = .ok (.aload_n 0, 1) := by decide +kernel
theorem dX4_wantedOf_25 : decode cX4_wantedOf 25 = .ok (.getfield 9, 3) := by decide +kernel
theorem dX4_wantedOf_28 : decode cX4_wantedOf 28 = .ok (.isub, 1) := by decide +kernel
theorem dX4_wantedOf_29 : decode cX4_wantedOf 29 = .ok (.invokestatic 55, 3) := by decide +kernel
theorem dX4_wantedOf_32 : decode cX4_wantedOf 32 = .ok (.ireturn, 1) := by decide +kernel
theorem dX4_wantedOfRows_0 : decode cX4_wantedOfRows 0 = .ok (.aload_n 0, 1) := by decide +kernel
theorem dX4_wantedOfRows_1 : decode cX4_wantedOfRows 1 = .ok (.getfield 25, 3) := by decide +kernel
theorem dX4_wantedOfRows_4 : decode cX4_wantedOfRows 4 = .ok (.invokestatic 61, 3) := by decide +kernel
theorem dX4_wantedOfRows_7 : decode cX4_wantedOfRows 7 = .ok (.ireturn, 1) := by decide +kernel
theorem dX4_wantedOfColumns_0 : decode cX4_wantedOfColumns 0 = .ok (.aload_n 0, 1) := by decide +kernel
theorem dX4_wantedOfColumns_1 : decode cX4_wantedOfColumns 1 = .ok (.getfield 28, 3) := by decide +kernel
theorem dX4_wantedOfColumns_4 : decode cX4_wantedOfColumns 4 = .ok (.invokestatic 61, 3) := by decide +kernel
theorem dX4_wantedOfColumns_7 : decode cX4_wantedOfColumns 7 = .ok (.ireturn, 1) := by decide +kernel
theorem dX4_countWrongLines_0 : decode cX4_countWrongLines 0 = .ok (.iconst 0, 1) := by decide +kernel
theorem dX4_countWrongLines_1 : decode cX4_countWrongLines 1 = .ok (.istore_n 1, 1) := by decide +kernel
theorem dX4_countWrongLines_2 : decode cX4_countWrongLines 2 = .ok (.iconst 0, 1) := by decide +kernel
theorem dX4_countWrongLines_3 : decode cX4_countWrongLines 3 = .ok (.istore_n 2, 1) := by decide +kernel
theorem dX4_countWrongLines_4 : decode cX4_countWrongLines 4 = .ok (.iload_n 2, 1) := by decide +kernel
theorem dX4_countWrongLines_5 : decode cX4_countWrongLines 5 = .ok (.aload_n 0, 1) := by decide +kernel
theorem dX4_countWrongLines_6 : decode cX4_countWrongLines 6 = .ok (.getfield 9, 3) := by decide +kernel
theorem dX4_countWrongLines_9 : decode cX4_countWrongLines 9 = .ok (.aload_n 0, 1) := by decide +kernel
theorem dX4_countWrongLines_10 : decode cX4_countWrongLines 10 = .ok (.getfield 15, 3) := by decide +kernel
theorem dX4_countWrongLines_13 : decode cX4_countWrongLines 13 = .ok (.iadd, 1) := by decide +kernel
theorem dX4_countWrongLines_14 : decode cX4_countWrongLines 14 = .ok (.if_icmp .ge 33, 3) := by decide +kernel
theorem dX4_countWrongLines_17 : decode cX4_countWrongLines 17 = .ok (.iload_n 1, 1) := by decide +kernel
theorem dX4_countWrongLines_18 : decode cX4_countWrongLines 18 = .ok (.aload_n 0, 1) := by decide +kernel
theorem dX4_countWrongLines_19 : decode cX4_countWrongLines 19 = .ok (.iload_n 2, 1) := by decide +kernel
theorem dX4_countWrongLines_20 : decode cX4_countWrongLines 20 = .ok (.invokevirtual 64, 3) := by decide +kernel
theorem dX4_countWrongLines_23 : decode cX4_countWrongLines 23 = .ok (.aload_n 0, 1) := by decide +kernel
theorem dX4_countWrongLines_24 : decode cX4_countWrongLines 24 = .ok (.iload_n 2, 1) := by decide +kernel
theorem dX4_countWrongLines_25 : decode cX4_countWrongLines 25 = .ok (.invokevirtual 68, 3) := by decide +kernel
theorem dX4_countWrongLines_28 : decode cX4_countWrongLines 28 = .ok (.if_icmp .eq 7, 3) := by decide +kernel
theorem dX4_countWrongLines_31 : decode cX4_countWrongLines 31 = .ok (.iconst 1, 1) := by decide +kernel
theorem dX4_countWrongLines_32 : decode cX4_countWrongLines 32 = .ok (.goto 4, 3) := by decide +kernel
theorem dX4_countWrongLines_35 : decode cX4_countWrongLines 35 = .ok (.iconst 0, 1) := by decide +kernel
theorem dX4_countWrongLines_36 : decode cX4_countWrongLines 36 = .ok (.invokestatic 71, 3) := by decide +kernel
theorem dX4_countWrongLines_39 : decode cX4_countWrongLines 39 = .ok (.iadd, 1) := by decide +kernel
theorem dX4_countWrongLines_40 : decode cX4_countWrongLines 40 = .ok (.istore_n 1, 1) := by decide +kernel
theorem dX4_countWrongLines_41 : decode cX4_countWrongLines 41 = .ok (.iinc 2 1, 3) := by decide +kernel
theorem dX4_countWrongLines_44 : decode cX4_countWrongLines 44 = .ok (.goto (-40), 3) := by decide +kernel
theorem dX4_countWrongLines_47 : decode cX4_countWrongLines 47 = .ok (.iload_n 1, 1) := by decide +kernel
theorem dX4_countWrongLines_48 : decode cX4_countWrongLines 48 = .ok (.ireturn, 1) := by decide +kernel
theorem dX4_isPinned_0 : decode cX4_isPinned 0 = .ok (.aload_n 0, 1) := by decide +kernel
theorem dX4_isPinned_1 : decode cX4_isPinned 1 = .ok (.getfield 22, 3) := by decide +kernel
theorem dX4_isPinned_4 : decode cX4_isPinned 4 = .ok (.iload_n 1, 1) := by decide +kernel
theorem dX4_isPinned_5 : decode cX4_isPinned 5 = .ok (.iload_n 2, 1) := by decide +kernel
theorem dX4_isPinned_6 : decode cX4_isPinned 6 = .ok (.invokestatic 75, 3) := by decide +kernel
theorem dX4_isPinned_9 : decode cX4_isPinned 9 = .ok (.land, 1) := by decide +kernel
theorem dX4_isPinned_10 : decode cX4_isPinned 10 = .ok (.lconst 0, 1) := by decide +kernel
theorem dX4_isPinned_11 : decode cX4_isPinned 11 = .ok (.lcmp, 1) := by decide +kernel
theorem dX4_isPinned_12 : decode cX4_isPinned 12 = .ok (.ifCond .eq 7, 3) := by decide +kernel
theorem dX4_isPinned_15 : decode cX4_isPinned 15 = .ok (.iconst 1, 1) := by decide +kernel
theorem dX4_isPinned_16 : decode cX4_isPinned 16 = .ok (.goto 4, 3) := by decide +kernel
theorem dX4_isPinned_19 : decode cX4_isPinned 19 = .ok (.iconst 0, 1) := by decide +kernel
theorem dX4_isPinned_20 : decode cX4_isPinned 20 = .ok (.ireturn, 1) := by decide +kernel
theorem dX4_setFilled_0 : decode cX4_setFilled 0 = .ok (.iload_n 1, 1) := by decide +kernel
theorem dX4_setFilled_1 : decode cX4_setFilled 1 = .ok (.iload_n 2, 1) := by decide +kernel
theorem dX4_setFilled_2 : decode cX4_setFilled 2 = .ok (.invokestatic 75, 3) := by decide +kernel
theorem dX4_setFilled_5 : decode cX4_setFilled 5 = .ok (.lstore 4, 2) := by decide +kernel
theorem dX4_setFilled_7 : decode cX4_setFilled 7 = .ok (.aload_n 0, 1) := by decide +kernel
theorem dX4_setFilled_8 : decode cX4_setFilled 8 = .ok (.getfield 18, 3) := by decide +kernel
theorem dX4_setFilled_11 : decode cX4_setFilled 11 = .ok (.lload 4, 2) := by decide +kernel
theorem dX4_setFilled_13 : decode cX4_setFilled 13 = .ok (.land, 1) := by decide +kernel
theorem dX4_setFilled_14 : decode cX4_setFilled 14 = .ok (.lconst 0, 1) := by decide +kernel
theorem dX4_setFilled_15 : decode cX4_setFilled 15 = .ok (.lcmp, 1) := by decide +kernel
theorem dX4_setFilled_16 : decode cX4_setFilled 16 = .ok (.ifCond .eq 7, 3) := by decide +kernel
theorem dX4_setFilled_19 : decode cX4_setFilled 19 = .ok (.iconst 1, 1) := by decide +kernel
theorem dX4_setFilled_20 : decode cX4_setFilled 20 = .ok (.goto 4, 3) := by decide +kernel
theorem dX4_setFilled_23 : decode cX4_setFilled 23 = .ok (.iconst 0, 1) := by decide +kernel
theorem dX4_setFilled_24 : decode cX4_setFilled 24 = .ok (.istore 6, 2) := by decide +kernel
theorem dX4_setFilled_26 : decode cX4_setFilled 26 = .ok (.aload_n 0, 1) := by decide +kernel
theorem dX4_setFilled_27 : decode cX4_setFilled 27 = .ok (.iload_n 3, 1) := by decide +kernel
theorem dX4_setFilled_28 : decode cX4_setFilled 28 = .ok (.ifCond .eq 13, 3) := by decide +kernel
theorem dX4_setFilled_31 : decode cX4_setFilled 31 = .ok (.aload_n 0, 1) := by decide +kernel
theorem dX4_setFilled_32 : decode cX4_setFilled 32 = .ok (.getfield 18, 3) := by decide +kernel
theorem dX4_setFilled_35 : decode cX4_setFilled 35 = .ok (.lload 4, 2) := by decide +kernel
theorem dX4_setFilled_37 : decode cX4_setFilled 37 = .ok (.lor, 1) := by decide +kernel
theorem dX4_setFilled_38 : decode cX4_setFilled 38 = .ok (.goto 14, 3) := by decide +kernel
theorem dX4_setFilled_41 : decode cX4_setFilled 41 = .ok (.aload_n 0, 1) := by decide +kernel
theorem dX4_setFilled_42 : decode cX4_setFilled 42 = .ok (.getfield 18, 3) := by decide +kernel
theorem dX4_setFilled_45 : decode cX4_setFilled 45 = .ok (.lload 4, 2) := by decide +kernel
theorem dX4_setFilled_47 : decode cX4_setFilled 47 = .ok (.ldc2_w 79, 3) := by decide +kernel
theorem dX4_setFilled_50 : decode cX4_setFilled 50 = .ok (.lxor, 1) := by decide +kernel
theorem dX4_setFilled_51 : decode cX4_setFilled 51 = .ok (.land, 1) := by decide +kernel
theorem dX4_setFilled_52 : decode cX4_setFilled 52 = .ok (.putfield 18, 3) := by decide +kernel
theorem dX4_setFilled_55 : decode cX4_setFilled 55 = .ok (.iload 6, 2) := by decide +kernel
theorem dX4_setFilled_57 : decode cX4_setFilled 57 = .ok (.ireturn, 1) := by decide +kernel
theorem dX4_setPinned_0 : decode cX4_setPinned 0 = .ok (.iload_n 1, 1) := by decide +kernel
theorem dX4_setPinned_1 : decode cX4_setPinned 1 = .ok (.iload_n 2, 1) := by decide +kernel
theorem dX4_setPinned_2 : decode cX4_setPinned 2 = .ok (.invokestatic 75, 3) := by decide +kernel
theorem dX4_setPinned_5 : decode cX4_setPinned 5 = .ok (.lstore 4, 2) := by decide +kernel
theorem dX4_setPinned_7 : decode cX4_setPinned 7 = .ok (.aload_n 0, 1) := by decide +kernel
theorem dX4_setPinned_8 : decode cX4_setPinned 8 = .ok (.getfield 22, 3) := by decide +kernel
theorem dX4_setPinned_11 : decode cX4_setPinned 11 = .ok (.lload 4, 2) := by decide +kernel
theorem dX4_setPinned_13 : decode cX4_setPinned 13 = .ok (.land, 1) := by decide +kernel
theorem dX4_setPinned_14 : decode cX4_setPinned 14 = .ok (.lconst 0, 1) := by decide +kernel
theorem dX4_setPinned_15 : decode cX4_setPinned 15 = .ok (.lcmp, 1) := by decide +kernel
theorem dX4_setPinned_16 : decode cX4_setPinned 16 = .ok (.ifCond .eq 7, 3) := by decide +kernel
theorem dX4_setPinned_19 : decode cX4_setPinned 19 = .ok (.iconst 1, 1) := by decide +kernel
theorem dX4_setPinned_20 : decode cX4_setPinned 20 = .ok (.goto 4, 3) := by decide +kernel
theorem dX4_setPinned_23 : decode cX4_setPinned 23 = .ok (.iconst 0, 1) := by decide +kernel
theorem dX4_setPinned_24 : decode cX4_setPinned 24 = .ok (.istore 6, 2) := by decide +kernel
theorem dX4_setPinned_26 : decode cX4_setPinned 26 = .ok (.aload_n 0, 1) := by decide +kernel
theorem dX4_setPinned_27 : decode cX4_setPinned 27 = .ok (.iload_n 3, 1) := by decide +kernel
theorem dX4_setPinned_28 : decode cX4_setPinned 28 = .ok (.ifCond .eq 13, 3) := by decide +kernel
theorem dX4_setPinned_31 : decode cX4_setPinned 31 = .ok (.aload_n 0, 1) := by decide +kernel
theorem dX4_setPinned_32 : decode cX4_setPinned 32 = .ok (.getfield 22, 3) := by decide +kernel
theorem dX4_setPinned_35 : decode cX4_setPinned 35 = .ok (.lload 4, 2) := by decide +kernel
theorem dX4_setPinned_37 : decode cX4_setPinned 37 = .ok (.lor, 1) := by decide +kernel
theorem dX4_setPinned_38 : decode cX4_setPinned 38 = .ok (.goto 14, 3) := by decide +kernel
theorem dX4_setPinned_41 : decode cX4_setPinned 41 = .ok (.aload_n 0, 1) := by decide +kernel
theorem dX4_setPinned_42 : decode cX4_setPinned 42 = .ok (.getfield 22, 3) := by decide +kernel
theorem dX4_setPinned_45 : decode cX4_setPinned 45 = .ok (.lload 4, 2) := by decide +kernel
theorem dX4_setPinned_47 : decode cX4_setPinned 47 = .ok (.ldc2_w 79, 3) := by decide +kernel
theorem dX4_setPinned_50 : decode cX4_setPinned 50 = .ok (.lxor, 1) := by decide +kernel
theorem dX4_setPinned_51 : decode cX4_setPinned 51 = .ok (.land, 1) := by decide +kernel
theorem dX4_setPinned_52 : decode cX4_setPinned 52 = .ok (.putfield 22, 3) := by decide +kernel
theorem dX4_setPinned_55 : decode cX4_setPinned 55 = .ok (.iload 6, 2) := by decide +kernel
theorem dX4_setPinned_57 : decode cX4_setPinned 57 = .ok (.ireturn, 1) := by decide +kernel
theorem dX4_setWanted_0 : decode cX4_setWanted 0 = .ok (.aload_n 0, 1) := by decide +kernel
theorem dX4_setWanted_1 : decode cX4_setWanted 1 = .ok (.iload_n 1, 1) := by decide +kernel
theorem dX4_setWanted_2 : decode cX4_setWanted 2 = .ok (.invokevirtual 68, 3) := by decide +kernel
theorem dX4_setWanted_5 : decode cX4_setWanted 5 = .ok (.istore_n 3, 1) := by decide +kernel
theorem dX4_setWanted_6 : decode cX4_setWanted 6 = .ok (.iload_n 1, 1) := by decide +kernel
theorem dX4_setWanted_7 : decode cX4_setWanted 7 = .ok (.aload_n 0, 1) := by decide +kernel
theorem dX4_setWanted_8 : decode cX4_setWanted 8 = .ok (.getfield 9, 3) := by decide +kernel
theorem dX4_setWanted_11 : decode cX4_setWanted 11 = .ok (.if_icmp .ge 19, 3) := by decide +kernel
theorem dX4_setWanted_14 : decode cX4_setWanted 14 = .ok (.aload_n 0, 1) := by decide +kernel
theorem dX4_setWanted_15 : decode cX4_setWanted 15 = .ok (.aload_n 0, 1) := by decide +kernel
theorem dX4_setWanted_16 : decode cX4_setWanted 16 = .ok (.getfield 25, 3) := by decide +kernel
theorem dX4_setWanted_19 : decode cX4_setWanted 19 = .ok (.iload_n 1, 1) := by decide +kernel
theorem dX4_setWanted_20 : decode cX4_setWanted 20 = .ok (.iload_n 2, 1) := by decide +kernel
theorem dX4_setWanted_21 : decode cX4_setWanted 21 = .ok (.invokestatic 81, 3) := by decide +kernel
theorem dX4_setWanted_24 : decode cX4_setWanted 24 = .ok (.putfield 25, 3) := by decide +kernel
theorem dX4_setWanted_27 : decode cX4_setWanted 27 = .ok (.goto 21, 3) := by decide +kernel
theorem dX4_setWanted_30 : decode cX4_setWanted 30 = .ok (.aload_n 0, 1) := by decide +kernel
theorem dX4_setWanted_31 : decode cX4_setWanted 31 = .ok (.aload_n 0, 1) := by decide +kernel
theorem dX4_setWanted_32 : decode cX4_setWanted 32 = .ok (.getfield 28, 3) := by decide +kernel
theorem dX4_setWanted_35 : decode cX4_setWanted 35 = .ok (.iload_n 1, 1) := by decide +kernel
theorem dX4_setWanted_36 : decode cX4_setWanted 36 = .ok (.aload_n 0, 1) := by decide +kernel
theorem dX4_setWanted_37 : decode cX4_setWanted 37 = .ok (.getfield 9, 3) := by decide +kernel
theorem dX4_setWanted_40 : decode cX4_setWanted 40 = .ok (.isub, 1) := by decide +kernel
theorem dX4_setWanted_41 : decode cX4_setWanted 41 = .ok (.iload_n 2, 1) := by decide +kernel
theorem dX4_setWanted_42 : decode cX4_setWanted 42 = .ok (.invokestatic 81, 3) := by decide +kernel
theorem dX4_setWanted_45 : decode cX4_setWanted 45 = .ok (.putfield 28, 3) := by decide +kernel
theorem dX4_setWanted_48 : decode cX4_setWanted 48 = .ok (.iload_n 3, 1) := by decide +kernel
theorem dX4_setWanted_49 : decode cX4_setWanted 49 = .ok (.ireturn, 1) := by decide +kernel
theorem dX4_wantTheCounts_0 : decode cX4_wantTheCounts 0 = .ok (.iconst 0, 1) := by decide +kernel
theorem dX4_wantTheCounts_1 : decode cX4_wantTheCounts 1 = .ok (.istore_n 1, 1) := by decide +kernel
theorem dX4_wantTheCounts_2 : decode cX4_wantTheCounts 2 = .ok (.iconst 0, 1) := by decide +kernel
theorem dX4_wantTheCounts_3 : decode cX4_wantTheCounts 3 = .ok (.istore_n 2, 1) := by decide +kernel
theorem dX4_wantTheCounts_4 : decode cX4_wantTheCounts 4 = .ok (.iload_n 2, 1) := by decide +kernel
theorem dX4_wantTheCounts_5 : decode cX4_wantTheCounts 5 = .ok (.aload_n 0, 1) := by decide +kernel
theorem dX4_wantTheCounts_6 : decode cX4_wantTheCounts 6 = .ok (.getfield 9, 3) := by decide +kernel
theorem dX4_wantTheCounts_9 : decode cX4_wantTheCounts 9 = .ok (.aload_n 0, 1) := by decide +kernel
theorem dX4_wantTheCounts_10 : decode cX4_wantTheCounts 10 = .ok (.getfield 15, 3) := by decide +kernel
theorem dX4_wantTheCounts_13 : decode cX4_wantTheCounts 13 = .ok (.iadd, 1) := by decide +kernel
theorem dX4_wantTheCounts_14 : decode cX4_wantTheCounts 14 = .ok (.if_icmp .ge 36, 3) := by decide +kernel
theorem dX4_wantTheCounts_17 : decode cX4_wantTheCounts 17 = .ok (.aload_n 0, 1) := by decide +kernel
theorem dX4_wantTheCounts_18 : decode cX4_wantTheCounts 18 = .ok (.iload_n 2, 1) := by decide +kernel
theorem dX4_wantTheCounts_19 : decode cX4_wantTheCounts 19 = .ok (.invokevirtual 64, 3) := by decide +kernel
theorem dX4_wantTheCounts_22 : decode cX4_wantTheCounts 22 = .ok (.istore_n 3, 1) := by decide +kernel
theorem dX4_wantTheCounts_23 : decode cX4_wantTheCounts 23 = .ok (.iload_n 1, 1) := by decide +kernel
theorem dX4_wantTheCounts_24 : decode cX4_wantTheCounts 24 = .ok (.aload_n 0, 1) := by decide +kernel
theorem dX4_wantTheCounts_25 : decode cX4_wantTheCounts 25 = .ok (.iload_n 2, 1) := by decide +kernel
theorem dX4_wantTheCounts_26 : decode cX4_wantTheCounts 26 = .ok (.iload_n 3, 1) := by decide +kernel
theorem dX4_wantTheCounts_27 : decode cX4_wantTheCounts 27 = .ok (.invokevirtual 85, 3) := by decide +kernel
theorem dX4_wantTheCounts_30 : decode cX4_wantTheCounts 30 = .ok (.iload_n 3, 1) := by decide +kernel
theorem dX4_wantTheCounts_31 : decode cX4_wantTheCounts 31 = .ok (.if_icmp .eq 7, 3) := by decide +kernel
theorem dX4_wantTheCounts_34 : decode cX4_wantTheCounts 34 = .ok (.iconst 1, 1) := by decide +kernel
theorem dX4_wantTheCounts_35 : decode cX4_wantTheCounts 35 = .ok (.goto 4, 3) := by decide +kernel
theorem dX4_wantTheCounts_38 : decode cX4_wantTheCounts 38 = .ok (.iconst 0, 1) := by decide +kernel
theorem dX4_wantTheCounts_39 : decode cX4_wantTheCounts 39 = .ok (.invokestatic 71, 3) := by decide +kernel
theorem dX4_wantTheCounts_42 : decode cX4_wantTheCounts 42 = .ok (.iadd, 1) := by decide +kernel
theorem dX4_wantTheCounts_43 : decode cX4_wantTheCounts 43 = .ok (.istore_n 1, 1) := by decide +kernel
theorem dX4_wantTheCounts_44 : decode cX4_wantTheCounts 44 = .ok (.iinc 2 1, 3) := by decide +kernel
theorem dX4_wantTheCounts_47 : decode cX4_wantTheCounts 47 = .ok (.goto (-43), 3) := by decide +kernel
theorem dX4_wantTheCounts_50 : decode cX4_wantTheCounts 50 = .ok (.iload_n 1, 1) := by decide +kernel
theorem dX4_wantTheCounts_51 : decode cX4_wantTheCounts 51 = .ok (.ireturn, 1) := by decide +kernel
theorem dX4_refill_0 : decode cX4_refill 0 = .ok (.aload_n 0, 1) := by decide +kernel
theorem dX4_refill_1 : decode cX4_refill 1 = .ok (.getfield 18, 3) := by decide +kernel
theorem dX4_refill_4 : decode cX4_refill 4 = .ok (.lload_n 1, 1) := by decide +kernel
theorem dX4_refill_5 : decode cX4_refill 5 = .ok (.lxor, 1) := by decide +kernel
theorem dX4_refill_6 : decode cX4_refill 6 = .ok (.invokestatic 46, 3) := by decide +kernel
theorem dX4_refill_9 : decode cX4_refill 9 = .ok (.istore_n 3, 1) := by decide +kernel
theorem dX4_refill_10 : decode cX4_refill 10 = .ok (.aload_n 0, 1) := by decide +kernel
theorem dX4_refill_11 : decode cX4_refill 11 = .ok (.lload_n 1, 1) := by decide +kernel
theorem dX4_refill_12 : decode cX4_refill 12 = .ok (.putfield 18, 3) := by decide +kernel
theorem dX4_refill_15 : decode cX4_refill 15 = .ok (.iload_n 3, 1) := by decide +kernel
theorem dX4_refill_16 : decode cX4_refill 16 = .ok (.ireturn, 1) := by decide +kernel
theorem dX4_cutTo_0 : decode cX4_cutTo 0 = .ok (.aload_n 0, 1) := by decide +kernel
theorem dX4_cutTo_1 : decode cX4_cutTo 1 = .ok (.iload_n 1, 1) := by decide +kernel
theorem dX4_cutTo_2 : decode cX4_cutTo 2 = .ok (.putfield 9, 3) := by decide +kernel
theorem dX4_cutTo_5 : decode cX4_cutTo 5 = .ok (.aload_n 0, 1) := by decide +kernel
theorem dX4_cutTo_6 : decode cX4_cutTo 6 = .ok (.iload_n 2, 1) := by decide +kernel
theorem dX4_cutTo_7 : decode cX4_cutTo 7 = .ok (.putfield 15, 3) := by decide +kernel
theorem dX4_cutTo_10 : decode cX4_cutTo 10 = .ok (.aload_n 0, 1) := by decide +kernel
theorem dX4_cutTo_11 : decode cX4_cutTo 11 = .ok (.dup, 1) := by decide +kernel
theorem dX4_cutTo_12 : decode cX4_cutTo 12 = .ok (.getfield 18, 3) := by decide +kernel
theorem dX4_cutTo_15 : decode cX4_cutTo 15 = .ok (.aload_n 0, 1) := by decide +kernel
theorem dX4_cutTo_16 : decode cX4_cutTo 16 = .ok (.invokevirtual 35, 3) := by decide +kernel
theorem dX4_cutTo_19 : decode cX4_cutTo 19 = .ok (.land, 1) := by decide +kernel
theorem dX4_cutTo_20 : decode cX4_cutTo 20 = .ok (.putfield 18, 3) := by decide +kernel
theorem dX4_cutTo_23 : decode cX4_cutTo 23 = .ok (.aload_n 0, 1) := by decide +kernel
theorem dX4_cutTo_24 : decode cX4_cutTo 24 = .ok (.dup, 1) := by decide +kernel
theorem dX4_cutTo_25 : decode cX4_cutTo 25 = .ok (.getfield 22, 3) := by decide +kernel
theorem dX4_cutTo_28 : decode cX4_cutTo 28 = .ok (.aload_n 0, 1) := by decide +kernel
theorem dX4_cutTo_29 : decode cX4_cutTo 29 = .ok (.invokevirtual 35, 3) := by decide +kernel
theorem dX4_cutTo_32 : decode cX4_cutTo 32 = .ok (.land, 1) := by decide +kernel
theorem dX4_cutTo_33 : decode cX4_cutTo 33 = .ok (.putfield 22, 3) := by decide +kernel
theorem dX4_cutTo_36 : decode cX4_cutTo 36 = .ok (.iload_n 1, 1) := by decide +kernel
theorem dX4_cutTo_37 : decode cX4_cutTo 37 = .ok (.istore_n 3, 1) := by decide +kernel
theorem dX4_cutTo_38 : decode cX4_cutTo 38 = .ok (.iload_n 3, 1) := by decide +kernel
theorem dX4_cutTo_39 : decode cX4_cutTo 39 = .ok (.bipush 6, 2) := by decide +kernel
theorem dX4_cutTo_41 : decode cX4_cutTo 41 = .ok (.if_icmp .ge 22, 3) := by decide +kernel
theorem dX4_cutTo_44 : decode cX4_cutTo 44 = .ok (.aload_n 0, 1) := by decide +kernel
theorem dX4_cutTo_45 : decode cX4_cutTo 45 = .ok (.aload_n 0, 1) := by decide +kernel
theorem dX4_cutTo_46 : decode cX4_cutTo 46 = .ok (.getfield 25, 3) := by decide +kernel
theorem dX4_cutTo_49 : decode cX4_cutTo 49 = .ok (.iload_n 3, 1) := by decide +kernel
theorem dX4_cutTo_50 : decode cX4_cutTo 50 = .ok (.iconst 0, 1) := by decide +kernel
theorem dX4_cutTo_51 : decode cX4_cutTo 51 = .ok (.invokestatic 81, 3) := by decide +kernel
theorem dX4_cutTo_54 : decode cX4_cutTo 54 = .ok (.putfield 25, 3) := by decide +kernel
theorem dX4_cutTo_57 : decode cX4_cutTo 57 = .ok (.iinc 3 1, 3) := by decide +kernel
theorem dX4_cutTo_60 : decode cX4_cutTo 60 = .ok (.goto (-22), 3) := by decide +kernel
theorem dX4_cutTo_63 : decode cX4_cutTo 63 = .ok (.iload_n 2, 1) := by decide +kernel
theorem dX4_cutTo_64 : decode cX4_cutTo 64 = .ok (.istore_n 3, 1) := by decide +kernel
theorem dX4_cutTo_65 : decode cX4_cutTo 65 = .ok (.iload_n 3, 1) := by decide +kernel
theorem dX4_cutTo_66 : decode cX4_cutTo 66 = .ok (.bipush 6, 2) := by decide +kernel
theorem dX4_cutTo_68 : decode cX4_cutTo 68 = .ok (.if_icmp .ge 22, 3) := by decide +kernel
theorem dX4_cutTo_71 : decode cX4_cutTo 71 = .ok (.aload_n 0, 1) := by decide +kernel
theorem dX4_cutTo_72 : decode cX4_cutTo 72 = .ok (.aload_n 0, 1) := by decide +kernel
theorem dX4_cutTo_73 : decode cX4_cutTo 73 = .ok (.getfield 28, 3) := by decide +kernel
theorem dX4_cutTo_76 : decode cX4_cutTo 76 = .ok (.iload_n 3, 1) := by decide +kernel
theorem dX4_cutTo_77 : decode cX4_cutTo 77 = .ok (.iconst 0, 1) := by decide +kernel
theorem dX4_cutTo_78 : decode cX4_cutTo 78 = .ok (.invokestatic 81, 3) := by decide +kernel
theorem dX4_cutTo_81 : decode cX4_cutTo 81 = .ok (.putfield 28, 3) := by decide +kernel
theorem dX4_cutTo_84 : decode cX4_cutTo 84 = .ok (.iinc 3 1, 3) := by decide +kernel
theorem dX4_cutTo_87 : decode cX4_cutTo 87 = .ok (.goto (-22), 3) := by decide +kernel
theorem dX4_cutTo_90 : decode cX4_cutTo 90 = .ok (.return_, 1) := by decide +kernel
theorem dX4_turnQuarter_0 : decode cX4_turnQuarter 0 = .ok (.aload_n 0, 1) := by decide +kernel
theorem dX4_turnQuarter_1 : decode cX4_turnQuarter 1 = .ok (.getfield 18, 3) := by decide +kernel
theorem dX4_turnQuarter_4 : decode cX4_turnQuarter 4 = .ok (.lstore_n 1, 1) := by decide +kernel
theorem dX4_turnQuarter_5 : decode cX4_turnQuarter 5 = .ok (.aload_n 0, 1) := by decide +kernel
theorem dX4_turnQuarter_6 : decode cX4_turnQuarter 6 = .ok (.getfield 22, 3) := by decide +kernel
theorem dX4_turnQuarter_9 : decode cX4_turnQuarter 9 = .ok (.lstore_n 3, 1) := by decide +kernel
theorem dX4_turnQuarter_10 : decode cX4_turnQuarter 10 = .ok (.aload_n 0, 1) := by decide +kernel
theorem dX4_turnQuarter_11 : decode cX4_turnQuarter 11 = .ok (.getfield 25, 3) := by decide +kernel
theorem dX4_turnQuarter_14 : decode cX4_turnQuarter 14 = .ok (.lstore 5, 2) := by decide +kernel
theorem dX4_turnQuarter_16 : decode cX4_turnQuarter 16 = .ok (.aload_n 0, 1) := by decide +kernel
theorem dX4_turnQuarter_17 : decode cX4_turnQuarter 17 = .ok (.getfield 9, 3) := by decide +kernel
theorem dX4_turnQuarter_20 : decode cX4_turnQuarter 20 = .ok (.istore 7, 2) := by decide +kernel
theorem dX4_turnQuarter_22 : decode cX4_turnQuarter 22 = .ok (.aload_n 0, 1) := by decide +kernel
theorem dX4_turnQuarter_23 : decode cX4_turnQuarter 23 = .ok (.getfield 15, 3) := by decide +kernel
theorem dX4_turnQuarter_26 : decode cX4_turnQuarter 26 = .ok (.istore 8, 2) := by decide +kernel
theorem dX4_turnQuarter_28 : decode cX4_turnQuarter 28 = .ok (.aload_n 0, 1) := by decide +kernel
theorem dX4_turnQuarter_29 : decode cX4_turnQuarter 29 = .ok (.iload 8, 2) := by decide +kernel
theorem dX4_turnQuarter_31 : decode cX4_turnQuarter 31 = .ok (.putfield 9, 3) := by decide +kernel
theorem dX4_turnQuarter_34 : decode cX4_turnQuarter 34 = .ok (.aload_n 0, 1) := by decide +kernel
theorem dX4_turnQuarter_35 : decode cX4_turnQuarter 35 = .ok (.iload 7, 2) := by decide +kernel
theorem dX4_turnQuarter_37 : decode cX4_turnQuarter 37 = .ok (.putfield 15, 3) := by decide +kernel
theorem dX4_turnQuarter_40 : decode cX4_turnQuarter 40 = .ok (.aload_n 0, 1) := by decide +kernel
theorem dX4_turnQuarter_41 : decode cX4_turnQuarter 41 = .ok (.aload_n 0, 1) := by decide +kernel
theorem dX4_turnQuarter_42 : decode cX4_turnQuarter 42 = .ok (.getfield 28, 3) := by decide +kernel
theorem dX4_turnQuarter_45 : decode cX4_turnQuarter 45 = .ok (.putfield 25, 3) := by decide +kernel
theorem dX4_turnQuarter_48 : decode cX4_turnQuarter 48 = .ok (.aload_n 0, 1) := by decide +kernel
theorem dX4_turnQuarter_49 : decode cX4_turnQuarter 49 = .ok (.lconst 0, 1) := by decide +kernel
theorem dX4_turnQuarter_50 : decode cX4_turnQuarter 50 = .ok (.putfield 28, 3) := by decide +kernel
theorem dX4_turnQuarter_53 : decode cX4_turnQuarter 53 = .ok (.aload_n 0, 1) := by decide +kernel
theorem dX4_turnQuarter_54 : decode cX4_turnQuarter 54 = .ok (.lconst 0, 1) := by decide +kernel
theorem dX4_turnQuarter_55 : decode cX4_turnQuarter 55 = .ok (.putfield 18, 3) := by decide +kernel
theorem dX4_turnQuarter_58 : decode cX4_turnQuarter 58 = .ok (.aload_n 0, 1) := by decide +kernel
theorem dX4_turnQuarter_59 : decode cX4_turnQuarter 59 = .ok (.lconst 0, 1) := by decide +kernel
theorem dX4_turnQuarter_60 : decode cX4_turnQuarter 60 = .ok (.putfield 22, 3) := by decide +kernel
theorem dX4_turnQuarter_63 : decode cX4_turnQuarter 63 = .ok (.iconst 0, 1) := by decide +kernel
theorem dX4_turnQuarter_64 : decode cX4_turnQuarter 64 = .ok (.istore 9, 2) := by decide +kernel
theorem dX4_turnQuarter_66 : decode cX4_turnQuarter 66 = .ok (.iload 9, 2) := by decide +kernel
theorem dX4_turnQuarter_68 : decode cX4_turnQuarter 68 = .ok (.iload 7, 2) := by decide +kernel
theorem dX4_turnQuarter_70 : decode cX4_turnQuarter 70 = .ok (.if_icmp .ge 109, 3) := by decide +kernel
theorem dX4_turnQuarter_73 : decode cX4_turnQuarter 73 = .ok (.iload 7, 2) := by decide +kernel
theorem dX4_turnQuarter_75 : decode cX4_turnQuarter 75 = .ok (.iconst 1, 1) := by decide +kernel
theorem dX4_turnQuarter_76 : decode cX4_turnQuarter 76 = .ok (.isub, 1) := by decide +kernel
theorem dX4_turnQuarter_77 : decode cX4_turnQuarter 77 = .ok (.iload 9, 2) := by decide +kernel
theorem dX4_turnQuarter_79 : decode cX4_turnQuarter 79 = .ok (.isub, 1) := by decide +kernel
theorem dX4_turnQuarter_80 : decode cX4_turnQuarter 80 = .ok (.istore 10, 2) := by decide +kernel
theorem dX4_turnQuarter_82 : decode cX4_turnQuarter 82 = .ok (.aload_n 0, 1) := by decide +kernel
theorem dX4_turnQuarter_83 : decode cX4_turnQuarter 83 = .ok (.aload_n 0, 1) := by decide +kernel
theorem dX4_turnQuarter_84 : decode cX4_turnQuarter 84 = .ok (.getfield 28, 3) := by decide +kernel
theorem dX4_turnQuarter_87 : decode cX4_turnQuarter 87 = .ok (.iload 10, 2) := by decide +kernel
theorem dX4_turnQuarter_89 : decode cX4_turnQuarter 89 = .ok (.lload 5, 2) := by decide +kernel
theorem dX4_turnQuarter_91 : decode cX4_turnQuarter 91 = .ok (.iload 9, 2) := by decide +kernel
theorem dX4_turnQuarter_93 : decode cX4_turnQuarter 93 = .ok (.invokestatic 55, 3) := by decide +kernel
theorem dX4_turnQuarter_96 : decode cX4_turnQuarter 96 = .ok (.invokestatic 81, 3) := by decide +kernel
theorem dX4_turnQuarter_99 : decode cX4_turnQuarter 99 = .ok (.putfield 28, 3) := by decide +kernel
theorem dX4_turnQuarter_102 : decode cX4_turnQuarter 102 = .ok (.iconst 0, 1) := by decide +kernel
theorem dX4_turnQuarter_103 : decode cX4_turnQuarter 103 = .ok (.istore 11, 2) := by decide +kernel
theorem dX4_turnQuarter_105 : decode cX4_turnQuarter 105 = .ok (.iload 11, 2) := by decide +kernel
theorem dX4_turnQuarter_107 : decode cX4_turnQuarter 107 = .ok (.iload 8, 2) := by decide +kernel
theorem dX4_turnQuarter_109 : decode cX4_turnQuarter 109 = .ok (.if_icmp .ge 64, 3) := by decide +kernel
theorem dX4_turnQuarter_112 : decode cX4_turnQuarter 112 = .ok (.iload 9, 2) := by decide +kernel
theorem dX4_turnQuarter_114 : decode cX4_turnQuarter 114 = .ok (.iload 11, 2) := by decide +kernel
theorem dX4_turnQuarter_116 : decode cX4_turnQuarter 116 = .ok (.invokestatic 75, 3) := by decide +kernel
theorem dX4_turnQuarter_119 : decode cX4_turnQuarter 119 = .ok (.lstore 12, 2) := by decide +kernel
theorem dX4_turnQuarter_121 : decode cX4_turnQuarter 121 = .ok (.aload_n 0, 1) := by decide +kernel
theorem dX4_turnQuarter_122 : decode cX4_turnQuarter 122 = .ok (.iload 11, 2) := by decide +kernel
theorem dX4_turnQuarter_124 : decode cX4_turnQuarter 124 = .ok (.iload 10, 2) := by decide +kernel
theorem dX4_turnQuarter_126 : decode cX4_turnQuarter 126 = .ok (.lload_n 1, 1) := by decide +kernel
theorem dX4_turnQuarter_127 : decode cX4_turnQuarter 127 = .ok (.lload 12, 2) := by decide +kernel
theorem dX4_turnQuarter_129 : decode cX4_turnQuarter 129 = .ok (.land, 1) := by decide +kernel
theorem dX4_turnQuarter_130 : decode cX4_turnQuarter 130 = .ok (.lconst 0, 1) := by decide +kernel
theorem dX4_turnQuarter_131 : decode cX4_turnQuarter 131 = .ok (.lcmp, 1) := by decide +kernel
theorem dX4_turnQuarter_132 : decode cX4_turnQuarter 132 = .ok (.ifCond .eq 7, 3) := by decide +kernel
theorem dX4_turnQuarter_135 : decode cX4_turnQuarter 135 = .ok (.iconst 1, 1) := by decide +kernel
theorem dX4_turnQuarter_136 : decode cX4_turnQuarter 136 = .ok (.goto 4, 3) := by decide +kernel
theorem dX4_turnQuarter_139 : decode cX4_turnQuarter 139 = .ok (.iconst 0, 1) := by decide +kernel
theorem dX4_turnQuarter_140 : decode cX4_turnQuarter 140 = .ok (.invokevirtual 89, 3) := by decide +kernel
theorem dX4_turnQuarter_143 : decode cX4_turnQuarter 143 = .ok (.pop, 1) := by decide +kernel
theorem dX4_turnQuarter_144 : decode cX4_turnQuarter 144 = .ok (.aload_n 0, 1) := by decide +kernel
theorem dX4_turnQuarter_145 : decode cX4_turnQuarter 145 = .ok (.iload 11, 2) := by decide +kernel
theorem dX4_turnQuarter_147 : decode cX4_turnQuarter 147 = .ok (.iload 10, 2) := by decide +kernel
theorem dX4_turnQuarter_149 : decode cX4_turnQuarter 149 = .ok (.lload_n 3, 1) := by decide +kernel
theorem dX4_turnQuarter_150 : decode cX4_turnQuarter 150 = .ok (.lload 12, 2) := by decide +kernel
theorem dX4_turnQuarter_152 : decode cX4_turnQuarter 152 = .ok (.land, 1) := by decide +kernel
theorem dX4_turnQuarter_153 : decode cX4_turnQuarter 153 = .ok (.lconst 0, 1) := by decide +kernel
theorem dX4_turnQuarter_154 : decode cX4_turnQuarter 154 = .ok (.lcmp, 1) := by decide +kernel
theorem dX4_turnQuarter_155 : decode cX4_turnQuarter 155 = .ok (.ifCond .eq 7, 3) := by decide +kernel
theorem dX4_turnQuarter_158 : decode cX4_turnQuarter 158 = .ok (.iconst 1, 1) := by decide +kernel
theorem dX4_turnQuarter_159 : decode cX4_turnQuarter 159 = .ok (.goto 4, 3) := by decide +kernel
theorem dX4_turnQuarter_162 : decode cX4_turnQuarter 162 = .ok (.iconst 0, 1) := by decide +kernel
theorem dX4_turnQuarter_163 : decode cX4_turnQuarter 163 = .ok (.invokevirtual 93, 3) := by decide +kernel
theorem dX4_turnQuarter_166 : decode cX4_turnQuarter 166 = .ok (.pop, 1) := by decide +kernel
theorem dX4_turnQuarter_167 : decode cX4_turnQuarter 167 = .ok (.iinc 11 1, 3) := by decide +kernel
theorem dX4_turnQuarter_170 : decode cX4_turnQuarter 170 = .ok (.goto (-65), 3) := by decide +kernel
theorem dX4_turnQuarter_173 : decode cX4_turnQuarter 173 = .ok (.iinc 9 1, 3) := by decide +kernel
theorem dX4_turnQuarter_176 : decode cX4_turnQuarter 176 = .ok (.goto (-110), 3) := by decide +kernel
theorem dX4_turnQuarter_179 : decode cX4_turnQuarter 179 = .ok (.return_, 1) := by decide +kernel
theorem dX4_canExchange_0 : decode cX4_canExchange 0 = .ok (.iload_n 1, 1) := by decide +kernel
theorem dX4_canExchange_1 : decode cX4_canExchange 1 = .ok (.iload_n 2, 1) := by decide +kernel
theorem dX4_canExchange_2 : decode cX4_canExchange 2 = .ok (.iload_n 3, 1) := by decide +kernel
theorem dX4_canExchange_3 : decode cX4_canExchange 3 = .ok (.iload 4, 2) := by decide +kernel
theorem dX4_canExchange_5 : decode cX4_canExchange 5 = .ok (.invokestatic 96, 3) := by decide +kernel
theorem dX4_canExchange_8 : decode cX4_canExchange 8 = .ok (.lstore 5, 2) := by decide +kernel
theorem dX4_canExchange_10 : decode cX4_canExchange 10 = .ok (.aload_n 0, 1) := by decide +kernel
theorem dX4_canExchange_11 : decode cX4_canExchange 11 = .ok (.getfield 18, 3) := by decide +kernel
theorem dX4_canExchange_14 : decode cX4_canExchange 14 = .ok (.lload 5, 2) := by decide +kernel
theorem dX4_canExchange_16 : decode cX4_canExchange 16 = .ok (.land, 1) := by decide +kernel
theorem dX4_canExchange_17 : decode cX4_canExchange 17 = .ok (.lstore 7, 2) := by decide +kernel
theorem dX4_canExchange_19 : decode cX4_canExchange 19 = .ok (.aload_n 0, 1) := by decide +kernel
theorem dX4_canExchange_20 : decode cX4_canExchange 20 = .ok (.getfield 22, 3) := by decide +kernel
theorem dX4_canExchange_23 : decode cX4_canExchange 23 = .ok (.lload 5, 2) := by decide +kernel
theorem dX4_canExchange_25 : decode cX4_canExchange 25 = .ok (.land, 1) := by decide +kernel
theorem dX4_canExchange_26 : decode cX4_canExchange 26 = .ok (.lconst 0, 1) := by decide +kernel
theorem dX4_canExchange_27 : decode cX4_canExchange 27 = .ok (.lcmp, 1) := by decide +kernel
theorem dX4_canExchange_28 : decode cX4_canExchange 28 = .ok (.ifCond .ne 43, 3) := by decide +kernel
theorem dX4_canExchange_31 : decode cX4_canExchange 31 = .ok (.lload 7, 2) := by decide +kernel
theorem dX4_canExchange_33 : decode cX4_canExchange 33 = .ok (.iload_n 1, 1) := by decide +kernel
theorem dX4_canExchange_34 : decode cX4_canExchange 34 = .ok (.iload_n 3, 1) := by decide +kernel
theorem dX4_canExchange_35 : decode cX4_canExchange 35 = .ok (.invokestatic 75, 3) := by decide +kernel
theorem dX4_canExchange_38 : decode cX4_canExchange 38 = .ok (.iload_n 2, 1) := by decide +kernel
theorem dX4_canExchange_39 : decode cX4_canExchange 39 = .ok (.iload 4, 2) := by decide +kernel
theorem dX4_canExchange_41 : decode cX4_canExchange 41 = .ok (.invokestatic 75, 3) := by decide +kernel
theorem dX4_canExchange_44 : decode cX4_canExchange 44 = .ok (.lor, 1) := by decide +kernel
theorem dX4_canExchange_45 : decode cX4_canExchange 45 = .ok (.lcmp, 1) := by decide +kernel
theorem dX4_canExchange_46 : decode cX4_canExchange 46 = .ok (.ifCond .eq 21, 3) := by decide +kernel
theorem dX4_canExchange_49 : decode cX4_canExchange 49 = .ok (.lload 7, 2) := by decide +kernel
theorem dX4_canExchange_51 : decode cX4_canExchange 51 = .ok (.iload_n 1, 1) := by decide +kernel
theorem dX4_canExchange_52 : decode cX4_canExchange 52 = .ok (.iload 4, 2) := by decide +kernel
theorem dX4_canExchange_54 : decode cX4_canExchange 54 = .ok (.invokestatic 75, 3) := by decide +kernel
theorem dX4_canExchange_57 : decode cX4_canExchange 57 = .ok (.iload_n 2, 1) := by decide +kernel
theorem dX4_canExchange_58 : decode cX4_canExchange 58 = .ok (.iload_n 3, 1) := by decide +kernel
theorem dX4_canExchange_59 : decode cX4_canExchange 59 = .ok (.invokestatic 75, 3) := by decide +kernel
theorem dX4_canExchange_62 : decode cX4_canExchange 62 = .ok (.lor, 1) := by decide +kernel
theorem dX4_canExchange_63 : decode cX4_canExchange 63 = .ok (.lcmp, 1) := by decide +kernel
theorem dX4_canExchange_64 : decode cX4_canExchange 64 = .ok (.ifCond .ne 7, 3) := by decide +kernel
theorem dX4_canExchange_67 : decode cX4_canExchange 67 = .ok (.iconst 1, 1) := by decide +kernel
theorem dX4_canExchange_68 : decode cX4_canExchange 68 = .ok (.goto 4, 3) := by decide +kernel
theorem dX4_canExchange_71 : decode cX4_canExchange 71 = .ok (.iconst 0, 1) := by decide +kernel
theorem dX4_canExchange_72 : decode cX4_canExchange 72 = .ok (.ireturn, 1) := by decide +kernel
theorem dX4_countExchanges_0 : decode cX4_countExchanges 0 = .ok (.iconst 0, 1) := by decide +kernel
theorem dX4_countExchanges_1 : decode cX4_countExchanges 1 = .ok (.istore_n 1, 1) := by decide +kernel
theorem dX4_countExchanges_2 : decode cX4_countExchanges 2 = .ok (.iconst 0, 1) := by decide +kernel
theorem dX4_countExchanges_3 : decode cX4_countExchanges 3 = .ok (.istore_n 2, 1) := by decide +kernel
theorem dX4_countExchanges_4 : decode cX4_countExchanges 4 = .ok (.iload_n 2, 1) := by decide +kernel
theorem dX4_countExchanges_5 : decode cX4_countExchanges 5 = .ok (.aload_n 0, 1) := by decide +kernel
theorem dX4_countExchanges_6 : decode cX4_countExchanges 6 = .ok (.getfield 9, 3) := by decide +kernel
theorem dX4_countExchanges_9 : decode cX4_countExchanges 9 = .ok (.if_icmp .ge 36, 3) := by decide +kernel
theorem dX4_countExchanges_12 : decode cX4_countExchanges 12 = .ok (.iload_n 2, 1) := by decide +kernel
theorem dX4_countExchanges_13 : decode cX4_countExchanges 13 = .ok (.iconst 1, 1) := by decide +kernel
theorem dX4_countExchanges_14 : decode cX4_countExchanges 14 = .ok (.iadd, 1) := by decide +kernel
theorem dX4_countExchanges_15 : decode cX4_countExchanges 15 = .ok (.istore_n 3, 1) := by decide +kernel
theorem dX4_countExchanges_16 : decode cX4_countExchanges 16 = .ok (.iload_n 3, 1) := by decide +kernel
theorem dX4_countExchanges_17 : decode cX4_countExchanges 17 = .ok (.aload_n 0, 1) := by decide +kernel
theorem dX4_countExchanges_18 : decode cX4_countExchanges 18 = .ok (.getfield 9, 3) := by decide +kernel
theorem dX4_countExchanges_21 : decode cX4_countExchanges 21 = .ok (.if_icmp .ge 18, 3) := by decide +kernel
theorem dX4_countExchanges_24 : decode cX4_countExchanges 24 = .ok (.iload_n 1, 1) := by decide +kernel
theorem dX4_countExchanges_25 : decode cX4_countExchanges 25 = .ok (.aload_n 0, 1) := by decide +kernel
theorem dX4_countExchanges_26 : decode cX4_countExchanges 26 = .ok (.iload_n 2, 1) := by decide +kernel
theorem dX4_countExchanges_27 : decode cX4_countExchanges 27 = .ok (.iload_n 3, 1) := by decide +kernel
theorem dX4_countExchanges_28 : decode cX4_countExchanges 28 = .ok (.invokevirtual 100, 3) := by decide +kernel
theorem dX4_countExchanges_31 : decode cX4_countExchanges 31 = .ok (.iadd, 1) := by decide +kernel
theorem dX4_countExchanges_32 : decode cX4_countExchanges 32 = .ok (.istore_n 1, 1) := by decide +kernel
theorem dX4_countExchanges_33 : decode cX4_countExchanges 33 = .ok (.iinc 3 1, 3) := by decide +kernel
theorem dX4_countExchanges_36 : decode cX4_countExchanges 36 = .ok (.goto (-20), 3) := by decide +kernel
theorem dX4_countExchanges_39 : decode cX4_countExchanges 39 = .ok (.iinc 2 1, 3) := by decide +kernel
theorem dX4_countExchanges_42 : decode cX4_countExchanges 42 = .ok (.goto (-38), 3) := by decide +kernel
theorem dX4_countExchanges_45 : decode cX4_countExchanges 45 = .ok (.iload_n 1, 1) := by decide +kernel
theorem dX4_countExchanges_46 : decode cX4_countExchanges 46 = .ok (.ireturn, 1) := by decide +kernel
theorem dX4_countExchangesOf_0 : decode cX4_countExchangesOf 0 = .ok (.aload_n 0, 1) := by decide +kernel
theorem dX4_countExchangesOf_1 : decode cX4_countExchangesOf 1 = .ok (.getfield 22, 3) := by decide +kernel
theorem dX4_countExchangesOf_4 : decode cX4_countExchangesOf 4 = .ok (.ldc2_w 79, 3) := by decide +kernel
theorem dX4_countExchangesOf_7 : decode cX4_countExchangesOf 7 = .ok (.lxor, 1) := by decide +kernel
theorem dX4_countExchangesOf_8 : decode cX4_countExchangesOf 8 = .ok (.lstore_n 3, 1) := by decide +kernel
theorem dX4_countExchangesOf_9 : decode cX4_countExchangesOf 9 = .ok (.lload_n 3, 1) := by decide +kernel
theorem dX4_countExchangesOf_10 : decode cX4_countExchangesOf 10 = .ok (.iload_n 1, 1) := by decide +kernel
theorem dX4_countExchangesOf_11 : decode cX4_countExchangesOf 11 = .ok (.invokestatic 103, 3) := by decide +kernel
theorem dX4_countExchangesOf_14 : decode cX4_countExchangesOf 14 = .ok (.lload_n 3, 1) := by decide +kernel
theorem dX4_countExchangesOf_15 : decode cX4_countExchangesOf 15 = .ok (.iload_n 2, 1) := by decide +kernel
theorem dX4_countExchangesOf_16 : decode cX4_countExchangesOf 16 = .ok (.invokestatic 103, 3) := by decide +kernel
theorem dX4_countExchangesOf_19 : decode cX4_countExchangesOf 19 = .ok (.iand, 1) := by decide +kernel
theorem dX4_countExchangesOf_20 : decode cX4_countExchangesOf 20 = .ok (.istore 5, 2) := by decide +kernel
theorem dX4_countExchangesOf_22 : decode cX4_countExchangesOf 22 = .ok (.iload 5, 2) := by decide +kernel
theorem dX4_countExchangesOf_24 : decode cX4_countExchangesOf 24 = .ok (.aload_n 0, 1) := by decide +kernel
theorem dX4_countExchangesOf_25 : decode cX4_countExchangesOf 25 = .ok (.getfield 18, 3) := by decide +kernel
theorem dX4_countExchangesOf_28 : decode cX4_countExchangesOf 28 = .ok (.iload_n 1, 1) := by decide +kernel
theorem dX4_countExchangesOf_29 : decode cX4_countExchangesOf 29 = .ok (.invokestatic 103, 3) := by decide +kernel
theorem dX4_countExchangesOf_32 : decode cX4_countExchangesOf 32 = .ok (.iand, 1) := by decide +kernel
theorem dX4_countExchangesOf_33 : decode cX4_countExchangesOf 33 = .ok (.aload_n 0, 1) := by decide +kernel
theorem dX4_countExchangesOf_34 : decode cX4_countExchangesOf 34 = .ok (.getfield 18, 3) := by decide +kernel
theorem dX4_countExchangesOf_37 : decode cX4_countExchangesOf 37 = .ok (.iload_n 2, 1) := by decide +kernel
theorem dX4_countExchangesOf_38 : decode cX4_countExchangesOf 38 = .ok (.invokestatic 103, 3) := by decide +kernel
theorem dX4_countExchangesOf_41 : decode cX4_countExchangesOf 41 = .ok (.iconst (-1), 1) := by decide +kernel
theorem dX4_countExchangesOf_42 : decode cX4_countExchangesOf 42 = .ok (.ixor, 1) := by decide +kernel
theorem dX4_countExchangesOf_43 : decode cX4_countExchangesOf 43 = .ok (.iand, 1) := by decide +kernel
theorem dX4_countExchangesOf_44 : decode cX4_countExchangesOf 44 = .ok (.istore 6, 2) := by decide +kernel
theorem dX4_countExchangesOf_46 : decode cX4_countExchangesOf 46 = .ok (.iload 5, 2) := by decide +kernel
theorem dX4_countExchangesOf_48 : decode cX4_countExchangesOf 48 = .ok (.aload_n 0, 1) := by decide +kernel
theorem dX4_countExchangesOf_49 : decode cX4_countExchangesOf 49 = .ok (.getfield 18, 3) := by decide +kernel
theorem dX4_countExchangesOf_52 : decode cX4_countExchangesOf 52 = .ok (.iload_n 2, 1) := by decide +kernel
theorem dX4_countExchangesOf_53 : decode cX4_countExchangesOf 53 = .ok (.invokestatic 103, 3) := by decide +kernel
theorem dX4_countExchangesOf_56 : decode cX4_countExchangesOf 56 = .ok (.iand, 1) := by decide +kernel
theorem dX4_countExchangesOf_57 : decode cX4_countExchangesOf 57 = .ok (.aload_n 0, 1) := by decide +kernel
theorem dX4_countExchangesOf_58 : decode cX4_countExchangesOf 58 = .ok (.getfield 18, 3) := by decide +kernel
theorem dX4_countExchangesOf_61 : decode cX4_countExchangesOf 61 = .ok (.iload_n 1, 1) := by decide +kernel
theorem dX4_countExchangesOf_62 : decode cX4_countExchangesOf 62 = .ok (.invokestatic 103, 3) := by decide +kernel
theorem dX4_countExchangesOf_65 : decode cX4_countExchangesOf 65 = .ok (.iconst (-1), 1) := by decide +kernel
theorem dX4_countExchangesOf_66 : decode cX4_countExchangesOf 66 = .ok (.ixor, 1) := by decide +kernel
theorem dX4_countExchangesOf_67 : decode cX4_countExchangesOf 67 = .ok (.iand, 1) := by decide +kernel
theorem dX4_countExchangesOf_68 : decode cX4_countExchangesOf 68 = .ok (.istore 7, 2) := by decide +kernel
theorem dX4_countExchangesOf_70 : decode cX4_countExchangesOf 70 = .ok (.iload 6, 2) := by decide +kernel
theorem dX4_countExchangesOf_72 : decode cX4_countExchangesOf 72 = .ok (.invokestatic 106, 3) := by decide +kernel
theorem dX4_countExchangesOf_75 : decode cX4_countExchangesOf 75 = .ok (.iload 7, 2) := by decide +kernel
theorem dX4_countExchangesOf_77 : decode cX4_countExchangesOf 77 = .ok (.invokestatic 106, 3) := by decide +kernel
theorem dX4_countExchangesOf_80 : decode cX4_countExchangesOf 80 = .ok (.imul, 1) := by decide +kernel
theorem dX4_countExchangesOf_81 : decode cX4_countExchangesOf 81 = .ok (.ireturn, 1) := by decide +kernel
theorem dX4_exchangeNumbered_0 : decode cX4_exchangeNumbered 0 = .ok (.iload_n 1, 1) := by decide +kernel
theorem dX4_exchangeNumbered_1 : decode cX4_exchangeNumbered 1 = .ok (.istore_n 2, 1) := by decide +kernel
theorem dX4_exchangeNumbered_2 : decode cX4_exchangeNumbered 2 = .ok (.iconst 0, 1) := by decide +kernel
theorem dX4_exchangeNumbered_3 : decode cX4_exchangeNumbered 3 = .ok (.istore_n 3, 1) := by decide +kernel
theorem dX4_exchangeNumbered_4 : decode cX4_exchangeNumbered 4 = .ok (.iload_n 3, 1) := by decide +kernel
theorem dX4_exchangeNumbered_5 : decode cX4_exchangeNumbered 5 = .ok (.aload_n 0, 1) := by decide +kernel
theorem dX4_exchangeNumbered_6 : decode cX4_exchangeNumbered 6 = .ok (.getfield 9, 3) := by decide +kernel
theorem dX4_exchangeNumbered_9 : decode cX4_exchangeNumbered 9 = .ok (.if_icmp .ge 70, 3) := by decide +kernel
theorem dX4_exchangeNumbered_12 : decode cX4_exchangeNumbered 12 = .ok (.iload_n 3, 1) := by decide +kernel
theorem dX4_exchangeNumbered_13 : decode cX4_exchangeNumbered 13 = .ok (.iconst 1, 1) := by decide +kernel
theorem dX4_exchangeNumbered_14 : decode cX4_exchangeNumbered 14 = .ok (.iadd, 1) := by decide +kernel
theorem dX4_exchangeNumbered_15 : decode cX4_exchangeNumbered 15 = .ok (.istore 4, 2) := by decide +kernel
theorem dX4_exchangeNumbered_17 : decode cX4_exchangeNumbered 17 = .ok (.iload 4, 2) := by decide +kernel
theorem dX4_exchangeNumbered_19 : decode cX4_exchangeNumbered 19 = .ok (.aload_n 0, 1) := by decide +kernel
theorem dX4_exchangeNumbered_20 : decode cX4_exchangeNumbered 20 = .ok (.getfield 9, 3) := by decide +kernel
theorem dX4_exchangeNumbered_23 : decode cX4_exchangeNumbered 23 = .ok (.if_icmp .ge 50, 3) := by decide +kernel
theorem dX4_exchangeNumbered_26 : decode cX4_exchangeNumbered 26 = .ok (.aload_n 0, 1) := by decide +kernel
theorem dX4_exchangeNumbered_27 : decode cX4_exchangeNumbered 27 = .ok (.iload_n 3, 1) := by decide +kernel
theorem dX4_exchangeNumbered_28 : decode cX4_exchangeNumbered 28 = .ok (.iload 4, 2) := by decide +kernel
theorem dX4_exchangeNumbered_30 : decode cX4_exchangeNumbered 30 = .ok (.invokevirtual 100, 3) := by decide +kernel
theorem dX4_exchangeNumbered_33 : decode cX4_exchangeNumbered 33 = .ok (.istore 5, 2) := by decide +kernel
theorem dX4_exchangeNumbered_35 : decode cX4_exchangeNumbered 35 = .ok (.iload_n 2, 1) := by decide +kernel
theorem dX4_exchangeNumbered_36 : decode cX4_exchangeNumbered 36 = .ok (.iload 5, 2) := by decide +kernel
theorem dX4_exchangeNumbered_38 : decode cX4_exchangeNumbered 38 = .ok (.if_icmp .ge 24, 3) := by decide +kernel
theorem dX4_exchangeNumbered_41 : decode cX4_exchangeNumbered 41 = .ok (.sipush 1000, 3) := by decide +kernel
theorem dX4_exchangeNumbered_44 : decode cX4_exchangeNumbered 44 = .ok (.iload_n 3, 1) := by decide +kernel
theorem dX4_exchangeNumbered_45 : decode cX4_exchangeNumbered 45 = .ok (.imul, 1) := by decide +kernel
theorem dX4_exchangeNumbered_46 : decode cX4_exchangeNumbered 46 = .ok (.bipush 100, 2) := by decide +kernel
theorem dX4_exchangeNumbered_48 : decode cX4_exchangeNumbered 48 = .ok (.iload 4, 2) := by decide +kernel
theorem dX4_exchangeNumbered_50 : decode cX4_exchangeNumbered 50 = .ok (.imul, 1) := by decide +kernel
theorem dX4_exchangeNumbered_51 : decode cX4_exchangeNumbered 51 = .ok (.iadd, 1) := by decide +kernel
theorem dX4_exchangeNumbered_52 : decode cX4_exchangeNumbered 52 = .ok (.aload_n 0, 1) := by decide +kernel
theorem dX4_exchangeNumbered_53 : decode cX4_exchangeNumbered 53 = .ok (.iload_n 3, 1) := by decide +kernel
theorem dX4_exchangeNumbered_54 : decode cX4_exchangeNumbered 54 = .ok (.iload 4, 2) := by decide +kernel
theorem dX4_exchangeNumbered_56 : decode cX4_exchangeNumbered 56 = .ok (.iload_n 2, 1) := by decide +kernel
theorem dX4_exchangeNumbered_57 : decode cX4_exchangeNumbered 57 = .ok (.invokevirtual 110, 3) := by decide +kernel
theorem dX4_exchangeNumbered_60 : decode cX4_exchangeNumbered 60 = .ok (.iadd, 1) := by decide +kernel
theorem dX4_exchangeNumbered_61 : decode cX4_exchangeNumbered 61 = .ok (.ireturn, 1) := by decide +kernel
theorem dX4_exchangeNumbered_62 : decode cX4_exchangeNumbered 62 = .ok (.iload_n 2, 1) := by decide +kernel
theorem dX4_exchangeNumbered_63 : decode cX4_exchangeNumbered 63 = .ok (.iload 5, 2) := by decide +kernel
theorem dX4_exchangeNumbered_65 : decode cX4_exchangeNumbered 65 = .ok (.isub, 1) := by decide +kernel
theorem dX4_exchangeNumbered_66 : decode cX4_exchangeNumbered 66 = .ok (.istore_n 2, 1) := by decide +kernel
theorem dX4_exchangeNumbered_67 : decode cX4_exchangeNumbered 67 = .ok (.iinc 4 1, 3) := by decide +kernel
theorem dX4_exchangeNumbered_70 : decode cX4_exchangeNumbered 70 = .ok (.goto (-53), 3) := by decide +kernel
theorem dX4_exchangeNumbered_73 : decode cX4_exchangeNumbered 73 = .ok (.iinc 3 1, 3) := by decide +kernel
theorem dX4_exchangeNumbered_76 : decode cX4_exchangeNumbered 76 = .ok (.goto (-72), 3) := by decide +kernel
theorem dX4_exchangeNumbered_79 : decode cX4_exchangeNumbered 79 = .ok (.bipush (-9), 2) := by decide +kernel
theorem dX4_exchangeNumbered_81 : decode cX4_exchangeNumbered 81 = .ok (.ireturn, 1) := by decide +kernel
theorem dX4_exchangedColumns_0 : decode cX4_exchangedColumns 0 = .ok (.iload_n 3, 1) := by decide +kernel
theorem dX4_exchangedColumns_1 : decode cX4_exchangedColumns 1 = .ok (.istore 4, 2) := by decide +kernel
theorem dX4_exchangedColumns_3 : decode cX4_exchangedColumns 3 = .ok (.iconst 0, 1) := by decide +kernel
theorem dX4_exchangedColumns_4 : decode cX4_exchangedColumns 4 = .ok (.istore 5, 2) := by decide +kernel
theorem dX4_exchangedColumns_6 : decode cX4_exchangedColumns 6 = .ok (.iload 5, 2) := by decide +kernel
theorem dX4_exchangedColumns_8 : decode cX4_exchangedColumns 8 = .ok (.aload_n 0, 1) := by decide +kernel
theorem dX4_exchangedColumns_9 : decode cX4_exchangedColumns 9 = .ok (.getfield 15, 3) := by decide +kernel
theorem dX4_exchangedColumns_12 : decode cX4_exchangedColumns 12 = .ok (.if_icmp .ge 60, 3) := by decide +kernel
theorem dX4_exchangedColumns_15 : decode cX4_exchangedColumns 15 = .ok (.iload 5, 2) := by decide +kernel
theorem dX4_exchangedColumns_17 : decode cX4_exchangedColumns 17 = .ok (.iconst 1, 1) := by decide +kernel
theorem dX4_exchangedColumns_18 : decode cX4_exchangedColumns 18 = .ok (.iadd, 1) := by decide +kernel
theorem dX4_exchangedColumns_19 : decode cX4_exchangedColumns 19 = .ok (.istore 6, 2) := by decide +kernel
theorem dX4_exchangedColumns_21 : decode cX4_exchangedColumns 21 = .ok (.iload 6, 2) := by decide +kernel
theorem dX4_exchangedColumns_23 : decode cX4_exchangedColumns 23 = .ok (.aload_n 0, 1) := by decide +kernel
theorem dX4_exchangedColumns_24 : decode cX4_exchangedColumns 24 = .ok (.getfield 15, 3) := by decide +kernel
theorem dX4_exchangedColumns_27 : decode cX4_exchangedColumns 27 = .ok (.if_icmp .ge 39, 3) := by decide +kernel
theorem dX4_exchangedColumns_30 : decode cX4_exchangedColumns 30 = .ok (.aload_n 0, 1) := by decide +kernel
theorem dX4_exchangedColumns_31 : decode cX4_exchangedColumns 31 = .ok (.iload_n 1, 1) := by decide +kernel
theorem dX4_exchangedColumns_32 : decode cX4_exchangedColumns 32 = .ok (.iload_n 2, 1) := by decide +kernel
theorem dX4_exchangedColumns_33 : decode cX4_exchangedColumns 33 = .ok (.iload 5, 2) := by decide +kernel
theorem dX4_exchangedColumns_35 : decode cX4_exchangedColumns 35 = .ok (.iload 6, 2) := by decide +kernel
theorem dX4_exchangedColumns_37 : decode cX4_exchangedColumns 37 = .ok (.invokevirtual 114, 3) := by decide +kernel
theorem dX4_exchangedColumns_40 : decode cX4_exchangedColumns 40 = .ok (.ifCond .eq 20, 3) := by decide +kernel
theorem dX4_exchangedColumns_43 : decode cX4_exchangedColumns 43 = .ok (.iload 4, 2) := by decide +kernel
theorem dX4_exchangedColumns_45 : decode cX4_exchangedColumns 45 = .ok (.ifCond .ne 12, 3) := by decide +kernel
theorem dX4_exchangedColumns_48 : decode cX4_exchangedColumns 48 = .ok (.bipush 10, 2) := by decide +kernel
theorem dX4_exchangedColumns_50 : decode cX4_exchangedColumns 50 = .ok (.iload 5, 2) := by decide +kernel
theorem dX4_exchangedColumns_52 : decode cX4_exchangedColumns 52 = .ok (.imul, 1) := by decide +kernel
theorem dX4_exchangedColumns_53 : decode cX4_exchangedColumns 53 = .ok (.iload 6, 2) := by decide +kernel
theorem dX4_exchangedColumns_55 : decode cX4_exchangedColumns 55 = .ok (.iadd, 1) := by decide +kernel
theorem dX4_exchangedColumns_56 : decode cX4_exchangedColumns 56 = .ok (.ireturn, 1) := by decide +kernel
theorem dX4_exchangedColumns_57 : decode cX4_exchangedColumns 57 = .ok (.iinc 4 (-1), 3) := by decide +kernel
theorem dX4_exchangedColumns_60 : decode cX4_exchangedColumns 60 = .ok (.iinc 6 1, 3) := by decide +kernel
theorem dX4_exchangedColumns_63 : decode cX4_exchangedColumns 63 = .ok (.goto (-42), 3) := by decide +kernel
theorem dX4_exchangedColumns_66 : decode cX4_exchangedColumns 66 = .ok (.iinc 5 1, 3) := by decide +kernel
theorem dX4_exchangedColumns_69 : decode cX4_exchangedColumns 69 = .ok (.goto (-63), 3) := by decide +kernel
theorem dX4_exchangedColumns_72 : decode cX4_exchangedColumns 72 = .ok (.iconst 0, 1) := by decide +kernel
theorem dX4_exchangedColumns_73 : decode cX4_exchangedColumns 73 = .ok (.ireturn, 1) := by decide +kernel
theorem dX5_init_0 : decode cX5_init 0 = .ok (.aload_n 0, 1) := by decide +kernel
theorem dX5_init_1 : decode cX5_init 1 = .ok (.invokespecial 1, 3) := by decide +kernel
theorem dX5_init_4 : decode cX5_init 4 = .ok (.aload_n 0, 1) := by decide +kernel
theorem dX5_init_5 : decode cX5_init 5 = .ok (.iconst 2, 1) := by decide +kernel
theorem dX5_init_6 : decode cX5_init 6 = .ok (.anewarray 9, 3) := by decide +kernel
theorem dX5_init_9 : decode cX5_init 9 = .ok (.putfield 11, 3) := by decide +kernel
theorem dX5_init_12 : decode cX5_init 12 = .ok (.aload_n 0, 1) := by decide +kernel
theorem dX5_init_13 : decode cX5_init 13 = .ok (.iconst 2, 1) := by decide +kernel
theorem dX5_init_14 : decode cX5_init 14 = .ok (.newarray .boolean, 2) := by decide +kernel
theorem dX5_init_16 : decode cX5_init 16 = .ok (.putfield 15, 3) := by decide +kernel
theorem dX5_init_19 : decode cX5_init 19 = .ok (.iconst 0, 1) := by decide +kernel
theorem dX5_init_20 : decode cX5_init 20 = .ok (.istore_n 1, 1) := by decide +kernel
theorem dX5_init_21 : decode cX5_init 21 = .ok (.iload_n 1, 1) := by decide +kernel
theorem dX5_init_22 : decode cX5_init 22 = .ok (.aload_n 0, 1) := by decide +kernel
theorem dX5_init_23 : decode cX5_init 23 = .ok (.getfield 11, 3) := by decide +kernel
theorem dX5_init_26 : decode cX5_init 26 = .ok (.arraylength, 1) := by decide +kernel
theorem dX5_init_27 : decode cX5_init 27 = .ok (.if_icmp .ge 22, 3) := by decide +kernel
theorem dX5_init_30 : decode cX5_init 30 = .ok (.aload_n 0, 1) := by decide +kernel
theorem dX5_init_31 : decode cX5_init 31 = .ok (.getfield 11, 3) := by decide +kernel
theorem dX5_init_34 : decode cX5_init 34 = .ok (.iload_n 1, 1) := by decide +kernel
theorem dX5_init_35 : decode cX5_init 35 = .ok (.new 9, 3) := by decide +kernel
theorem dX5_init_38 : decode cX5_init 38 = .ok (.dup, 1) := by decide +kernel
theorem dX5_init_39 : decode cX5_init 39 = .ok (.invokespecial 19, 3) := by decide +kernel
theorem dX5_init_42 : decode cX5_init 42 = .ok (.aastore, 1) := by decide +kernel
theorem dX5_init_43 : decode cX5_init 43 = .ok (.iinc 1 1, 3) := by decide +kernel
theorem dX5_init_46 : decode cX5_init 46 = .ok (.goto (-25), 3) := by decide +kernel
theorem dX5_init_49 : decode cX5_init 49 = .ok (.return_, 1) := by decide +kernel
theorem dX5_has_0 : decode cX5_has 0 = .ok (.iload_n 1, 1) := by decide +kernel
theorem dX5_has_1 : decode cX5_has 1 = .ok (.ifCond .lt 25, 3) := by decide +kernel
theorem dX5_has_4 : decode cX5_has 4 = .ok (.iload_n 1, 1) := by decide +kernel
theorem dX5_has_5 : decode cX5_has 5 = .ok (.aload_n 0, 1) := by decide +kernel
theorem dX5_has_6 : decode cX5_has 6 = .ok (.getfield 15, 3) := by decide +kernel
theorem dX5_has_9 : decode cX5_has 9 = .ok (.arraylength, 1) := by decide +kernel
theorem dX5_has_10 : decode cX5_has 10 = .ok (.if_icmp .ge 16, 3) := by decide +kernel
theorem dX5_has_13 : decode cX5_has 13 = .ok (.aload_n 0, 1) := by decide +kernel
theorem dX5_has_14 : decode cX5_has 14 = .ok (.getfield 15, 3) := by decide +kernel
theorem dX5_has_17 : decode cX5_has 17 = .ok (.iload_n 1, 1) := by decide +kernel
theorem dX5_has_18 : decode cX5_has 18 = .ok (.baload, 1) := by decide +kernel
theorem dX5_has_19 : decode cX5_has 19 = .ok (.ifCond .eq 7, 3) := by decide +kernel
theorem dX5_has_22 : decode cX5_has 22 = .ok (.iconst 1, 1) := by decide +kernel
theorem dX5_has_23 : decode cX5_has 23 = .ok (.goto 4, 3) := by decide +kernel
theorem dX5_has_26 : decode cX5_has 26 = .ok (.iconst 0, 1) := by decide +kernel
theorem dX5_has_27 : decode cX5_has 27 = .ok (.ireturn, 1) := by decide +kernel
theorem dX5_put_0 : decode cX5_put 0 = .ok (.iload_n 1, 1) := by decide +kernel
theorem dX5_put_1 : decode cX5_put 1 = .ok (.ifCond .lt 47, 3) := by decide +kernel
theorem dX5_put_4 : decode cX5_put 4 = .ok (.iload_n 1, 1) := by decide +kernel
theorem dX5_put_5 : decode cX5_put 5 = .ok (.aload_n 0, 1) := by decide +kernel
theorem dX5_put_6 : decode cX5_put 6 = .ok (.getfield 15, 3) := by decide +kernel
theorem dX5_put_9 : decode cX5_put 9 = .ok (.arraylength, 1) := by decide +kernel
theorem dX5_put_10 : decode cX5_put 10 = .ok (.if_icmp .ge 38, 3) := by decide +kernel
theorem dX5_put_13 : decode cX5_put 13 = .ok (.iload_n 1, 1) := by decide +kernel
theorem dX5_put_14 : decode cX5_put 14 = .ok (.aload_n 0, 1) := by decide +kernel
theorem dX5_put_15 : decode cX5_put 15 = .ok (.getfield 11, 3) := by decide +kernel
theorem dX5_put_18 : decode cX5_put 18 = .ok (.arraylength, 1) := by decide +kernel
theorem dX5_put_19 : decode cX5_put 19 = .ok (.if_icmp .ge 29, 3) := by decide +kernel
theorem dX5_put_22 : decode cX5_put 22 = .ok (.aload_n 0, 1) := by decide +kernel
theorem dX5_put_23 : decode cX5_put 23 = .ok (.getfield 11, 3) := by decide +kernel
theorem dX5_put_26 : decode cX5_put 26 = .ok (.iload_n 1, 1) := by decide +kernel
theorem dX5_put_27 : decode cX5_put 27 = .ok (.aaload, 1) := by decide +kernel
theorem dX5_put_28 : decode cX5_put 28 = .ok (.ifnull 20, 3) := by decide +kernel
theorem dX5_put_31 : decode cX5_put 31 = .ok (.aload_n 0, 1) := by decide +kernel
theorem dX5_put_32 : decode cX5_put 32 = .ok (.getfield 11, 3) := by decide +kernel
theorem dX5_put_35 : decode cX5_put 35 = .ok (.iload_n 1, 1) := by decide +kernel
theorem dX5_put_36 : decode cX5_put 36 = .ok (.aaload, 1) := by decide +kernel
theorem dX5_put_37 : decode cX5_put 37 = .ok (.aload_n 2, 1) := by decide +kernel
theorem dX5_put_38 : decode cX5_put 38 = .ok (.invokevirtual 20, 3) := by decide +kernel
theorem dX5_put_41 : decode cX5_put 41 = .ok (.aload_n 0, 1) := by decide +kernel
theorem dX5_put_42 : decode cX5_put 42 = .ok (.getfield 15, 3) := by decide +kernel
theorem dX5_put_45 : decode cX5_put 45 = .ok (.iload_n 1, 1) := by decide +kernel
theorem dX5_put_46 : decode cX5_put 46 = .ok (.iconst 1, 1) := by decide +kernel
theorem dX5_put_47 : decode cX5_put 47 = .ok (.bastore, 1) := by decide +kernel
theorem dX5_put_48 : decode cX5_put 48 = .ok (.return_, 1) := by decide +kernel
theorem dX5_bringBack_0 : decode cX5_bringBack 0 = .ok (.iload_n 1, 1) := by decide +kernel
theorem dX5_bringBack_1 : decode cX5_bringBack 1 = .ok (.ifCond .lt 31, 3) := by decide +kernel
theorem dX5_bringBack_4 : decode cX5_bringBack 4 = .ok (.iload_n 1, 1) := by decide +kernel
theorem dX5_bringBack_5 : decode cX5_bringBack 5 = .ok (.aload_n 0, 1) := by decide +kernel
theorem dX5_bringBack_6 : decode cX5_bringBack 6 = .ok (.getfield 11, 3) := by decide +kernel
theorem dX5_bringBack_9 : decode cX5_bringBack 9 = .ok (.arraylength, 1) := by decide +kernel
theorem dX5_bringBack_10 : decode cX5_bringBack 10 = .ok (.if_icmp .ge 22, 3) := by decide +kernel
theorem dX5_bringBack_13 : decode cX5_bringBack 13 = .ok (.aload_n 0, 1) := by decide +kernel
theorem dX5_bringBack_14 : decode cX5_bringBack 14 = .ok (.getfield 11, 3) := by decide +kernel
theorem dX5_bringBack_17 : decode cX5_bringBack 17 = .ok (.iload_n 1, 1) := by decide +kernel
theorem dX5_bringBack_18 : decode cX5_bringBack 18 = .ok (.aaload, 1) := by decide +kernel
theorem dX5_bringBack_19 : decode cX5_bringBack 19 = .ok (.ifnull 13, 3) := by decide +kernel
theorem dX5_bringBack_22 : decode cX5_bringBack 22 = .ok (.aload_n 2, 1) := by decide +kernel
theorem dX5_bringBack_23 : decode cX5_bringBack 23 = .ok (.aload_n 0, 1) := by decide +kernel
theorem dX5_bringBack_24 : decode cX5_bringBack 24 = .ok (.getfield 11, 3) := by decide +kernel
theorem dX5_bringBack_27 : decode cX5_bringBack 27 = .ok (.iload_n 1, 1) := by decide +kernel
theorem dX5_bringBack_28 : decode cX5_bringBack 28 = .ok (.aaload, 1) := by decide +kernel
theorem dX5_bringBack_29 : decode cX5_bringBack 29 = .ok (.invokevirtual 20, 3) := by decide +kernel
theorem dX5_bringBack_32 : decode cX5_bringBack 32 = .ok (.return_, 1) := by decide +kernel
theorem dX6_init_0 : decode cX6_init 0 = .ok (.aload_n 0, 1) := by decide +kernel
theorem dX6_init_1 : decode cX6_init 1 = .ok (.invokespecial 3, 3) := by decide +kernel
theorem dX6_init_4 : decode cX6_init 4 = .ok (.aload_n 0, 1) := by decide +kernel
theorem dX6_init_5 : decode cX6_init 5 = .ok (.bipush 60, 2) := by decide +kernel
theorem dX6_init_7 : decode cX6_init 7 = .ok (.newarray .char, 2) := by decide +kernel
theorem dX6_init_9 : decode cX6_init 9 = .ok (.putfield 11, 3) := by decide +kernel
theorem dX6_init_12 : decode cX6_init 12 = .ok (.aload_n 0, 1) := by decide +kernel
theorem dX6_init_13 : decode cX6_init 13 = .ok (.iconst 0, 1) := by decide +kernel
theorem dX6_init_14 : decode cX6_init 14 = .ok (.putfield 15, 3) := by decide +kernel
theorem dX6_init_17 : decode cX6_init 17 = .ok (.return_, 1) := by decide +kernel
theorem dX7_init_0 : decode cX7_init 0 = .ok (.aload_n 0, 1) := by decide +kernel
theorem dX7_init_1 : decode cX7_init 1 = .ok (.invokespecial 1, 3) := by decide +kernel
theorem dX7_init_4 : decode cX7_init 4 = .ok (.aload_n 0, 1) := by decide +kernel
theorem dX7_init_5 : decode cX7_init 5 = .ok (.new 7, 3) := by decide +kernel
theorem dX7_init_8 : decode cX7_init 8 = .ok (.dup, 1) := by decide +kernel
theorem dX7_init_9 : decode cX7_init 9 = .ok (.invokespecial 9, 3) := by decide +kernel
theorem dX7_init_12 : decode cX7_init 12 = .ok (.putfield 10, 3) := by decide +kernel
theorem dX7_init_15 : decode cX7_init 15 = .ok (.aload_n 0, 1) := by decide +kernel
theorem dX7_init_16 : decode cX7_init 16 = .ok (.new 16, 3) := by decide +kernel
theorem dX7_init_19 : decode cX7_init 19 = .ok (.dup, 1) := by decide +kernel
theorem dX7_init_20 : decode cX7_init 20 = .ok (.invokespecial 18, 3) := by decide +kernel
theorem dX7_init_23 : decode cX7_init 23 = .ok (.putfield 19, 3) := by decide +kernel
theorem dX7_init_26 : decode cX7_init 26 = .ok (.aload_n 0, 1) := by decide +kernel
theorem dX7_init_27 : decode cX7_init 27 = .ok (.new 16, 3) := by decide +kernel
theorem dX7_init_30 : decode cX7_init 30 = .ok (.dup, 1) := by decide +kernel
theorem dX7_init_31 : decode cX7_init 31 = .ok (.invokespecial 18, 3) := by decide +kernel
theorem dX7_init_34 : decode cX7_init 34 = .ok (.putfield 23, 3) := by decide +kernel
theorem dX7_init_37 : decode cX7_init 37 = .ok (.aload_n 0, 1) := by decide +kernel
theorem dX7_init_38 : decode cX7_init 38 = .ok (.new 26, 3) := by decide +kernel
theorem dX7_init_41 : decode cX7_init 41 = .ok (.dup, 1) := by decide +kernel
theorem dX7_init_42 : decode cX7_init 42 = .ok (.invokespecial 28, 3) := by decide +kernel
theorem dX7_init_45 : decode cX7_init 45 = .ok (.putfield 29, 3) := by decide +kernel
theorem dX7_init_48 : decode cX7_init 48 = .ok (.aload_n 0, 1) := by decide +kernel
theorem dX7_init_49 : decode cX7_init 49 = .ok (.new 33, 3) := by decide +kernel
theorem dX7_init_52 : decode cX7_init 52 = .ok (.dup, 1) := by decide +kernel
theorem dX7_init_53 : decode cX7_init 53 = .ok (.invokespecial 35, 3) := by decide +kernel
theorem dX7_init_56 : decode cX7_init 56 = .ok (.putfield 36, 3) := by decide +kernel
theorem dX7_init_59 : decode cX7_init 59 = .ok (.aload_n 0, 1) := by decide +kernel
theorem dX7_init_60 : decode cX7_init 60 = .ok (.new 40, 3) := by decide +kernel
theorem dX7_init_63 : decode cX7_init 63 = .ok (.dup, 1) := by decide +kernel
theorem dX7_init_64 : decode cX7_init 64 = .ok (.invokespecial 42, 3) := by decide +kernel
theorem dX7_init_67 : decode cX7_init 67 = .ok (.putfield 43, 3) := by decide +kernel
theorem dX7_init_70 : decode cX7_init 70 = .ok (.aload_n 0, 1) := by decide +kernel
theorem dX7_init_71 : decode cX7_init 71 = .ok (.bipush 48, 2) := by decide +kernel
theorem dX7_init_73 : decode cX7_init 73 = .ok (.newarray .int, 2) := by decide +kernel
theorem dX7_init_75 : decode cX7_init 75 = .ok (.putfield 49, 3) := by decide +kernel
theorem dX7_init_78 : decode cX7_init 78 = .ok (.return_, 1) := by decide +kernel
theorem dX7_about_0 : decode cX7_about 0 = .ok (.iload_n 1, 1) := by decide +kernel
theorem dX7_about_1 : decode cX7_about 1 = .ok (.tableswitch 169 0 10 #[59, 67, 75, 83, 94, 102, 110, 118, 129, 147, 161], 59) := by decide +kernel
theorem dX7_about_60 : decode cX7_about 60 = .ok (.aload_n 0, 1) := by decide +kernel
theorem dX7_about_61 : decode cX7_about 61 = .ok (.getfield 19, 3) := by decide +kernel
theorem dX7_about_64 : decode cX7_about 64 = .ok (.getfield 93, 3) := by decide +kernel
theorem dX7_about_67 : decode cX7_about 67 = .ok (.ireturn, 1) := by decide +kernel
theorem dX7_about_68 : decode cX7_about 68 = .ok (.aload_n 0, 1) := by decide +kernel
theorem dX7_about_69 : decode cX7_about 69 = .ok (.getfield 19, 3) := by decide +kernel
theorem dX7_about_72 : decode cX7_about 72 = .ok (.getfield 97, 3) := by decide +kernel
theorem dX7_about_75 : decode cX7_about 75 = .ok (.ireturn, 1) := by decide +kernel
theorem dX7_about_76 : decode cX7_about 76 = .ok (.aload_n 0, 1) := by decide +kernel
theorem dX7_about_77 : decode cX7_about 77 = .ok (.getfield 19, 3) := by decide +kernel
theorem dX7_about_80 : decode cX7_about 80 = .ok (.invokevirtual 90, 3) := by decide +kernel
theorem dX7_about_83 : decode cX7_about 83 = .ok (.ireturn, 1) := by decide +kernel
theorem dX7_about_84 : decode cX7_about 84 = .ok (.aload_n 0, 1) := by decide +kernel
theorem dX7_about_85 : decode cX7_about 85 = .ok (.getfield 19, 3) := by decide +kernel
theorem dX7_about_88 : decode cX7_about 88 = .ok (.getfield 100, 3) := by decide +kernel
theorem dX7_about_91 : decode cX7_about 91 = .ok (.invokestatic 104, 3) := by decide +kernel
theorem dX7_about_94 : decode cX7_about 94 = .ok (.ireturn, 1) := by decide +kernel
theorem dX7_about_95 : decode cX7_about 95 = .ok (.aload_n 0, 1) := by decide +kernel
theorem dX7_about_96 : decode cX7_about 96 = .ok (.getfield 19, 3) := by decide +kernel
theorem dX7_about_99 : decode cX7_about 99 = .ok (.invokevirtual 110, 3) := by decide +kernel
theorem dX7_about_102 : decode cX7_about 102 = .ok (.ireturn, 1) := by decide +kernel
theorem dX7_about_103 : decode cX7_about 103 = .ok (.aload_n 0, 1) := by decide +kernel
theorem dX7_about_104 : decode cX7_about 104 = .ok (.getfield 19, 3) := by decide +kernel
theorem dX7_about_107 : decode cX7_about 107 = .ok (.invokevirtual 113, 3) := by decide +kernel
theorem dX7_about_110 : decode cX7_about 110 = .ok (.ireturn, 1) := by decide +kernel
theorem dX7_about_111 : decode cX7_about 111 = .ok (.aload_n 0, 1) := by decide +kernel
theorem dX7_about_112 : decode cX7_about 112 = .ok (.getfield 19, 3) := by decide +kernel
theorem dX7_about_115 : decode cX7_about 115 = .ok (.invokevirtual 116, 3) := by decide +kernel
theorem dX7_about_118 : decode cX7_about 118 = .ok (.ireturn, 1) := by decide +kernel
theorem dX7_about_119 : decode cX7_about 119 = .ok (.aload_n 0, 1) := by decide +kernel
theorem dX7_about_120 : decode cX7_about 120 = .ok (.getfield 19, 3) := by decide +kernel
theorem dX7_about_123 : decode cX7_about 123 = .ok (.getfield 119, 3) := by decide +kernel
theorem dX7_about_126 : decode cX7_about 126 = .ok (.invokestatic 122, 3) := by decide +kernel
theorem dX7_about_129 : decode cX7_about 129 = .ok (.ireturn, 1) := by decide +kernel
theorem dX7_about_130 : decode cX7_about 130 = .ok (.aload_n 0, 1) := by decide +kernel
theorem dX7_about_131 : decode cX7_about 131 = .ok (.getfield 19, 3) := by decide +kernel
theorem dX7_about_134 : decode cX7_about 134 = .ok (.getfield 119, 3) := by decide +kernel
theorem dX7_about_137 : decode cX7_about 137 = .ok (.aload_n 0, 1) := by decide +kernel
theorem dX7_about_138 : decode cX7_about 138 = .ok (.getfield 19, 3) := by decide +kernel
theorem dX7_about_141 : decode cX7_about 141 = .ok (.getfield 119, 3) := by decide +kernel
theorem dX7_about_144 : decode cX7_about 144 = .ok (.invokestatic 125, 3) := by decide +kernel
theorem dX7_about_147 : decode cX7_about 147 = .ok (.ireturn, 1) := by decide +kernel
theorem dX7_about_148 : decode cX7_about 148 = .ok (.aload_n 0, 1) := by decide +kernel
theorem dX7_about_149 : decode cX7_about 149 = .ok (.getfield 19, 3) := by decide +kernel
theorem dX7_about_152 : decode cX7_about 152 = .ok (.getfield 119, 3) := by decide +kernel
theorem dX7_about_155 : decode cX7_about 155 = .ok (.invokestatic 129, 3) := by decide +kernel
theorem dX7_about_158 : decode cX7_about 158 = .ok (.invokestatic 104, 3) := by decide +kernel
theorem dX7_about_161 : decode cX7_about 161 = .ok (.ireturn, 1) := by decide +kernel
theorem dX7_about_162 : decode cX7_about 162 = .ok (.aload_n 0, 1) := by decide +kernel
theorem dX7_about_163 : decode cX7_about 163 = .ok (.getfield 19, 3) := by decide +kernel
theorem dX7_about_166 : decode cX7_about 166 = .ok (.invokevirtual 133, 3) := by decide +kernel
theorem dX7_about_169 : decode cX7_about 169 = .ok (.ireturn, 1) := by decide +kernel
theorem dX7_about_170 : decode cX7_about 170 = .ok (.new 53, 3) := by decide +kernel
theorem dX7_about_173 : decode cX7_about 173 = .ok (.dup, 1) := by decide +kernel
theorem dX7_about_174 : decode cX7_about 174 = .ok (.ldc 136, 2) := by decide +kernel
theorem dX7_about_176 : decode cX7_about 176 = .ok (.invokespecial 57, 3) := by decide +kernel
theorem dX7_about_179 : decode cX7_about 179 = .ok (.athrow, 1) := by decide +kernel
theorem dX7_line_0 : decode cX7_line 0 = .ok (.aload_n 0, 1) := by decide +kernel
theorem dX7_line_1 : decode cX7_line 1 = .ok (.iload_n 1, 1) := by decide +kernel
theorem dX7_line_2 : decode cX7_line 2 = .ok (.invokevirtual 138, 3) := by decide +kernel
theorem dX7_line_5 : decode cX7_line 5 = .ok (.aload_n 0, 1) := by decide +kernel
theorem dX7_line_6 : decode cX7_line 6 = .ok (.getfield 19, 3) := by decide +kernel
theorem dX7_line_9 : decode cX7_line 9 = .ok (.iload_n 1, 1) := by decide +kernel
theorem dX7_line_10 : decode cX7_line 10 = .ok (.invokevirtual 142, 3) := by decide +kernel
theorem dX7_line_13 : decode cX7_line 13 = .ok (.lstore_n 3, 1) := by decide +kernel
theorem dX7_line_14 : decode cX7_line 14 = .ok (.iload_n 2, 1) := by decide +kernel
theorem dX7_line_15 : decode cX7_line 15 = .ok (.tableswitch 106 0 4 #[33, 42, 51, 72, 93], 33) := by decide +kernel
theorem dX7_line_48 : decode cX7_line 48 = .ok (.aload_n 0, 1) := by decide +kernel
theorem dX7_line_49 : decode cX7_line 49 = .ok (.getfield 19, 3) := by decide +kernel
theorem dX7_line_52 : decode cX7_line 52 = .ok (.iload_n 1, 1) := by decide +kernel
theorem dX7_line_53 : decode cX7_line 53 = .ok (.invokevirtual 146, 3) := by decide +kernel
theorem dX7_line_56 : decode cX7_line 56 = .ok (.ireturn, 1) := by decide +kernel
theorem dX7_line_57 : decode cX7_line 57 = .ok (.aload_n 0, 1) := by decide +kernel
theorem dX7_line_58 : decode cX7_line 58 = .ok (.getfield 19, 3) := by decide +kernel
theorem dX7_line_61 : decode cX7_line 61 = .ok (.iload_n 1, 1) := by decide +kernel
theorem dX7_line_62 : decode cX7_line 62 = .ok (.invokevirtual 150, 3) := by decide +kernel
theorem dX7_line_65 : decode cX7_line 65 = .ok (.ireturn, 1) := by decide +kernel
theorem dX7_line_66 : decode cX7_line 66 = .ok (.aload_n 0, 1) := by decide +kernel
theorem dX7_line_67 : decode cX7_line 67 = .ok (.getfield 19, 3) := by decide +kernel
theorem dX7_line_70 : decode cX7_line 70 = .ok (.getfield 119, 3) := by decide +kernel
theorem dX7_line_73 : decode cX7_line 73 = .ok (.lload_n 3, 1) := by decide +kernel
theorem dX7_line_74 : decode cX7_line 74 = .ok (.land, 1) := by decide +kernel
theorem dX7_line_75 : decode cX7_line 75 = .ok (.aload_n 0, 1) := by decide +kernel
theorem dX7_line_76 : decode cX7_line 76 = .ok (.getfield 19, 3) := by decide +kernel
theorem dX7_line_79 : decode cX7_line 79 = .ok (.iload_n 1, 1) := by decide +kernel
theorem dX7_line_80 : decode cX7_line 80 = .ok (.invokevirtual 153, 3) := by decide +kernel
theorem dX7_line_83 : decode cX7_line 83 = .ok (.invokestatic 156, 3) := by decide +kernel
theorem dX7_line_86 : decode cX7_line 86 = .ok (.ireturn, 1) := by decide +kernel
theorem dX7_line_87 : decode cX7_line 87 = .ok (.aload_n 0, 1) := by decide +kernel
theorem dX7_line_88 : decode cX7_line 88 = .ok (.getfield 19, 3) := by decide +kernel
theorem dX7_line_91 : decode cX7_line 91 = .ok (.getfield 119, 3) := by decide +kernel
theorem dX7_line_94 : decode cX7_line 94 = .ok (.lload_n 3, 1) := by decide +kernel
theorem dX7_line_95 : decode cX7_line 95 = .ok (.land, 1) := by decide +kernel
theorem dX7_line_96 : decode cX7_line 96 = .ok (.aload_n 0, 1) := by decide +kernel
theorem dX7_line_97 : decode cX7_line 97 = .ok (.getfield 19, 3) := by decide +kernel
theorem dX7_line_100 : decode cX7_line 100 = .ok (.iload_n 1, 1) := by decide +kernel
theorem dX7_line_101 : decode cX7_line 101 = .ok (.invokevirtual 153, 3) := by decide +kernel
theorem dX7_line_104 : decode cX7_line 104 = .ok (.invokestatic 160, 3) := by decide +kernel
theorem dX7_line_107 : decode cX7_line 107 = .ok (.ireturn, 1) := by decide +kernel
theorem dX7_line_108 : decode cX7_line 108 = .ok (.aload_n 0, 1) := by decide +kernel
theorem dX7_line_109 : decode cX7_line 109 = .ok (.getfield 19, 3) := by decide +kernel
theorem dX7_line_112 : decode cX7_line 112 = .ok (.getfield 100, 3) := by decide +kernel
theorem dX7_line_115 : decode cX7_line 115 = .ok (.lload_n 3, 1) := by decide +kernel
theorem dX7_line_116 : decode cX7_line 116 = .ok (.land, 1) := by decide +kernel
theorem dX7_line_117 : decode cX7_line 117 = .ok (.invokestatic 104, 3) := by decide +kernel
theorem dX7_line_120 : decode cX7_line 120 = .ok (.ireturn, 1) := by decide +kernel
theorem dX7_line_121 : decode cX7_line 121 = .ok (.new 53, 3) := by decide +kernel
theorem dX7_line_124 : decode cX7_line 124 = .ok (.dup, 1) := by decide +kernel
theorem dX7_line_125 : decode cX7_line 125 = .ok (.ldc 163, 2) := by decide +kernel
theorem dX7_line_127 : decode cX7_line 127 = .ok (.invokespecial 57, 3) := by decide +kernel
theorem dX7_line_130 : decode cX7_line 130 = .ok (.athrow, 1) := by decide +kernel
theorem dX7_cell_0 : decode cX7_cell 0 = .ok (.aload_n 0, 1) := by decide +kernel
theorem dX7_cell_1 : decode cX7_cell 1 = .ok (.iload_n 1, 1) := by decide +kernel
theorem dX7_cell_2 : decode cX7_cell 2 = .ok (.iload_n 2, 1) := by decide +kernel
theorem dX7_cell_3 : decode cX7_cell 3 = .ok (.invokevirtual 165, 3) := by decide +kernel
theorem dX7_cell_6 : decode cX7_cell 6 = .ok (.iload_n 1, 1) := by decide +kernel
theorem dX7_cell_7 : decode cX7_cell 7 = .ok (.iload_n 2, 1) := by decide +kernel
theorem dX7_cell_8 : decode cX7_cell 8 = .ok (.invokestatic 169, 3) := by decide +kernel
theorem dX7_cell_11 : decode cX7_cell 11 = .ok (.lstore 4, 2) := by decide +kernel
theorem dX7_cell_13 : decode cX7_cell 13 = .ok (.iload_n 3, 1) := by decide +kernel
theorem dX7_cell_14 : decode cX7_cell 14 = .ok (.tableswitch 150 0 4 #[34, 58, 82, 95, 122], 34) := by decide +kernel
theorem dX7_cell_48 : decode cX7_cell 48 = .ok (.aload_n 0, 1) := by decide +kernel
theorem dX7_cell_49 : decode cX7_cell 49 = .ok (.getfield 19, 3) := by decide +kernel
theorem dX7_cell_52 : decode cX7_cell 52 = .ok (.getfield 119, 3) := by decide +kernel
theorem dX7_cell_55 : decode cX7_cell 55 = .ok (.lload 4, 2) := by decide +kernel
theorem dX7_cell_57 : decode cX7_cell 57 = .ok (.land, 1) := by decide +kernel
theorem dX7_cell_58 : decode cX7_cell 58 = .ok (.lconst 0, 1) := by decide +kernel
theorem dX7_cell_59 : decode cX7_cell 59 = .ok (.lcmp, 1) := by decide +kernel
theorem dX7_cell_60 : decode cX7_cell 60 = .ok (.ifCond .eq 7, 3) := by decide +kernel
theorem dX7_cell_63 : decode cX7_cell 63 = .ok (.iconst 1, 1) := by decide +kernel
theorem dX7_cell_64 : decode cX7_cell 64 = .ok (.goto 4, 3) := by decide +kernel
theorem dX7_cell_67 : decode cX7_cell 67 = .ok (.iconst 0, 1) := by decide +kernel
theorem dX7_cell_68 : decode cX7_cell 68 = .ok (.invokestatic 173, 3) := by decide +kernel
theorem dX7_cell_71 : decode cX7_cell 71 = .ok (.ireturn, 1) := by decide +kernel
theorem dX7_cell_72 : decode cX7_cell 72 = .ok (.aload_n 0, 1) := by decide +kernel
theorem dX7_cell_73 : decode cX7_cell 73 = .ok (.getfield 19, 3) := by decide +kernel
theorem dX7_cell_76 : decode cX7_cell 76 = .ok (.getfield 100, 3) := by decide +kernel
theorem dX7_cell_79 : decode cX7_cell 79 = .ok (.lload 4, 2) := by decide +kernel
theorem dX7_cell_81 : decode cX7_cell 81 = .ok (.land, 1) := by decide +kernel
theorem dX7_cell_82 : decode cX7_cell 82 = .ok (.lconst 0, 1) := by decide +kernel
theorem dX7_cell_83 : decode cX7_cell 83 = .ok (.lcmp, 1) := by decide +kernel
theorem dX7_cell_84 : decode cX7_cell 84 = .ok (.ifCond .eq 7, 3) := by decide +kernel
theorem dX7_cell_87 : decode cX7_cell 87 = .ok (.iconst 1, 1) := by decide +kernel
theorem dX7_cell_88 : decode cX7_cell 88 = .ok (.goto 4, 3) := by decide +kernel
theorem dX7_cell_91 : decode cX7_cell 91 = .ok (.iconst 0, 1) := by decide +kernel
theorem dX7_cell_92 : decode cX7_cell 92 = .ok (.invokestatic 173, 3) := by decide +kernel
theorem dX7_cell_95 : decode cX7_cell 95 = .ok (.ireturn, 1) := by decide +kernel
theorem dX7_cell_96 : decode cX7_cell 96 = .ok (.aload_n 0, 1) := by decide +kernel
theorem dX7_cell_97 : decode cX7_cell 97 = .ok (.getfield 19, 3) := by decide +kernel
theorem dX7_cell_100 : decode cX7_cell 100 = .ok (.getfield 119, 3) := by decide +kernel
theorem dX7_cell_103 : decode cX7_cell 103 = .ok (.lload 4, 2) := by decide +kernel
theorem dX7_cell_105 : decode cX7_cell 105 = .ok (.invokestatic 177, 3) := by decide +kernel
theorem dX7_cell_108 : decode cX7_cell 108 = .ok (.ireturn, 1) := by decide +kernel
theorem dX7_cell_109 : decode cX7_cell 109 = .ok (.aload_n 0, 1) := by decide +kernel
theorem dX7_cell_110 : decode cX7_cell 110 = .ok (.getfield 19, 3) := by decide +kernel
theorem dX7_cell_113 : decode cX7_cell 113 = .ok (.getfield 119, 3) := by decide +kernel
theorem dX7_cell_116 : decode cX7_cell 116 = .ok (.invokestatic 129, 3) := by decide +kernel
theorem dX7_cell_119 : decode cX7_cell 119 = .ok (.lload 4, 2) := by decide +kernel
theorem dX7_cell_121 : decode cX7_cell 121 = .ok (.land, 1) := by decide +kernel
theorem dX7_cell_122 : decode cX7_cell 122 = .ok (.lconst 0, 1) := by decide +kernel
theorem dX7_cell_123 : decode cX7_cell 123 = .ok (.lcmp, 1) := by decide +kernel
theorem dX7_cell_124 : decode cX7_cell 124 = .ok (.ifCond .eq 7, 3) := by decide +kernel
theorem dX7_cell_127 : decode cX7_cell 127 = .ok (.iconst 1, 1) := by decide +kernel
theorem dX7_cell_128 : decode cX7_cell 128 = .ok (.goto 4, 3) := by decide +kernel
theorem dX7_cell_131 : decode cX7_cell 131 = .ok (.iconst 0, 1) := by decide +kernel
theorem dX7_cell_132 : decode cX7_cell 132 = .ok (.invokestatic 173, 3) := by decide +kernel
theorem dX7_cell_135 : decode cX7_cell 135 = .ok (.ireturn, 1) := by decide +kernel
theorem dX7_cell_136 : decode cX7_cell 136 = .ok (.aload_n 0, 1) := by decide +kernel
theorem dX7_cell_137 : decode cX7_cell 137 = .ok (.getfield 43, 3) := by decide +kernel
theorem dX7_cell_140 : decode cX7_cell 140 = .ok (.aload_n 0, 1) := by decide +kernel
theorem dX7_cell_141 : decode cX7_cell 141 = .ok (.getfield 19, 3) := by decide +kernel
theorem dX7_cell_144 : decode cX7_cell 144 = .ok (.invokevirtual 180, 3) := by decide +kernel
theorem dX7_cell_147 : decode cX7_cell 147 = .ok (.lload 4, 2) := by decide +kernel
theorem dX7_cell_149 : decode cX7_cell 149 = .ok (.land, 1) := by decide +kernel
theorem dX7_cell_150 : decode cX7_cell 150 = .ok (.lconst 0, 1) := by decide +kernel
theorem dX7_cell_151 : decode cX7_cell 151 = .ok (.lcmp, 1) := by decide +kernel
theorem dX7_cell_152 : decode cX7_cell 152 = .ok (.ifCond .eq 7, 3) := by decide +kernel
theorem dX7_cell_155 : decode cX7_cell 155 = .ok (.iconst 1, 1) := by decide +kernel
theorem dX7_cell_156 : decode cX7_cell 156 = .ok (.goto 4, 3) := by decide +kernel
theorem dX7_cell_159 : decode cX7_cell 159 = .ok (.iconst 0, 1) := by decide +kernel
theorem dX7_cell_160 : decode cX7_cell 160 = .ok (.invokestatic 173, 3) := by decide +kernel
theorem dX7_cell_163 : decode cX7_cell 163 = .ok (.ireturn, 1) := by decide +kernel
theorem dX7_cell_164 : decode cX7_cell 164 = .ok (.new 53, 3) := by decide +kernel
theorem dX7_cell_167 : decode cX7_cell 167 = .ok (.dup, 1) := by decide +kernel
theorem dX7_cell_168 : decode cX7_cell 168 = .ok (.ldc 163, 2) := by decide +kernel
theorem dX7_cell_170 : decode cX7_cell 170 = .ok (.invokespecial 57, 3) := by decide +kernel
theorem dX7_cell_173 : decode cX7_cell 173 = .ok (.athrow, 1) := by decide +kernel
theorem dX7_piece_0 : decode cX7_piece 0 = .ok (.iload_n 1, 1) := by decide +kernel
theorem dX7_piece_1 : decode cX7_piece 1 = .ok (.ifCond .lt 17, 3) := by decide +kernel
theorem dX7_piece_4 : decode cX7_piece 4 = .ok (.iload_n 1, 1) := by decide +kernel
theorem dX7_piece_5 : decode cX7_piece 5 = .ok (.aload_n 0, 1) := by decide +kernel
theorem dX7_piece_6 : decode cX7_piece 6 = .ok (.getfield 19, 3) := by decide +kernel
theorem dX7_piece_9 : decode cX7_piece 9 = .ok (.getfield 119, 3) := by decide +kernel
theorem dX7_piece_12 : decode cX7_piece 12 = .ok (.invokestatic 122, 3) := by decide +kernel
theorem dX7_piece_15 : decode cX7_piece 15 = .ok (.if_icmp .lt 13, 3) := by decide +kernel
theorem dX7_piece_18 : decode cX7_piece 18 = .ok (.new 184, 3) := by decide +kernel
theorem dX7_piece_21 : decode cX7_piece 21 = .ok (.dup, 1) := by decide +kernel
theorem dX7_piece_22 : decode cX7_piece 22 = .ok (.ldc 186, 2) := by decide +kernel
theorem dX7_piece_24 : decode cX7_piece 24 = .ok (.invokespecial 188, 3) := by decide +kernel
theorem dX7_piece_27 : decode cX7_piece 27 = .ok (.athrow, 1) := by decide +kernel
theorem dX7_piece_28 : decode cX7_piece 28 = .ok (.aload_n 0, 1) := by decide +kernel
theorem dX7_piece_29 : decode cX7_piece 29 = .ok (.getfield 19, 3) := by decide +kernel
theorem dX7_piece_32 : decode cX7_piece 32 = .ok (.getfield 119, 3) := by decide +kernel
theorem dX7_piece_35 : decode cX7_piece 35 = .ok (.iload_n 1, 1) := by decide +kernel
theorem dX7_piece_36 : decode cX7_piece 36 = .ok (.invokestatic 189, 3) := by decide +kernel
theorem dX7_piece_39 : decode cX7_piece 39 = .ok (.lstore_n 3, 1) := by decide +kernel
theorem dX7_piece_40 : decode cX7_piece 40 = .ok (.iload_n 2, 1) := by decide +kernel
theorem dX7_piece_41 : decode cX7_piece 41 = .ok (.tableswitch 70 0 4 #[35, 40, 52, 57, 62], 35) := by decide +kernel
theorem dX7_piece_76 : decode cX7_piece 76 = .ok (.lload_n 3, 1) := by decide +kernel
theorem dX7_piece_77 : decode cX7_piece 77 = .ok (.invokestatic 104, 3) := by decide +kernel
theorem dX7_piece_80 : decode cX7_piece 80 = .ok (.ireturn, 1) := by decide +kernel
theorem dX7_piece_81 : decode cX7_piece 81 = .ok (.lload_n 3, 1) := by decide +kernel
theorem dX7_piece_82 : decode cX7_piece 82 = .ok (.aload_n 0, 1) := by decide +kernel
theorem dX7_piece_83 : decode cX7_piece 83 = .ok (.getfield 19, 3) := by decide +kernel
theorem dX7_piece_86 : decode cX7_piece 86 = .ok (.getfield 119, 3) := by decide +kernel
theorem dX7_piece_89 : decode cX7_piece 89 = .ok (.invokestatic 125, 3) := by decide +kernel
theorem dX7_piece_92 : decode cX7_piece 92 = .ok (.ireturn, 1) := by decide +kernel
theorem dX7_piece_93 : decode cX7_piece 93 = .ok (.lload_n 3, 1) := by decide +kernel
theorem dX7_piece_94 : decode cX7_piece 94 = .ok (.invokestatic 193, 3) := by decide +kernel
theorem dX7_piece_97 : decode cX7_piece 97 = .ok (.ireturn, 1) := by decide +kernel
theorem dX7_piece_98 : decode cX7_piece 98 = .ok (.lload_n 3, 1) := by decide +kernel
theorem dX7_piece_99 : decode cX7_piece 99 = .ok (.invokestatic 196, 3) := by decide +kernel
theorem dX7_piece_102 : decode cX7_piece 102 = .ok (.ireturn, 1) := by decide +kernel
theorem dX7_piece_103 : decode cX7_piece 103 = .ok (.lload_n 3, 1) := by decide +kernel
theorem dX7_piece_104 : decode cX7_piece 104 = .ok (.invokestatic 199, 3) := by decide +kernel
theorem dX7_piece_107 : decode cX7_piece 107 = .ok (.invokestatic 202, 3) := by decide +kernel
theorem dX7_piece_110 : decode cX7_piece 110 = .ok (.ireturn, 1) := by decide +kernel
theorem dX7_piece_111 : decode cX7_piece 111 = .ok (.new 53, 3) := by decide +kernel
theorem dX7_piece_114 : decode cX7_piece 114 = .ok (.dup, 1) := by decide +kernel
theorem dX7_piece_115 : decode cX7_piece 115 = .ok (.ldc 163, 2) := by decide +kernel
theorem dX7_piece_117 : decode cX7_piece 117 = .ok (.invokespecial 57, 3) := by decide +kernel
theorem dX7_piece_120 : decode cX7_piece 120 = .ok (.athrow, 1) := by decide +kernel
theorem dX7_exchangeAt_0 : decode cX7_exchangeAt 0 = .ok (.iload_n 1, 1) := by decide +kernel
theorem dX7_exchangeAt_1 : decode cX7_exchangeAt 1 = .ok (.ifCond .ge 13, 3) := by decide +kernel
theorem dX7_exchangeAt_4 : decode cX7_exchangeAt 4 = .ok (.new 53, 3) := by decide +kernel
theorem dX7_exchangeAt_7 : decode cX7_exchangeAt 7 = .ok (.dup, 1) := by decide +kernel
theorem dX7_exchangeAt_8 : decode cX7_exchangeAt 8 = .ok (.ldc 205, 2) := by decide +kernel
theorem dX7_exchangeAt_10 : decode cX7_exchangeAt 10 = .ok (.invokespecial 57, 3) := by decide +kernel
theorem dX7_exchangeAt_13 : decode cX7_exchangeAt 13 = .ok (.athrow, 1) := by decide +kernel
theorem dX7_exchangeAt_14 : decode cX7_exchangeAt 14 = .ok (.aload_n 0, 1) := by decide +kernel
theorem dX7_exchangeAt_15 : decode cX7_exchangeAt 15 = .ok (.getfield 19, 3) := by decide +kernel
theorem dX7_exchangeAt_18 : decode cX7_exchangeAt 18 = .ok (.iload_n 1, 1) := by decide +kernel
theorem dX7_exchangeAt_19 : decode cX7_exchangeAt 19 = .ok (.invokevirtual 207, 3) := by decide +kernel
theorem dX7_exchangeAt_22 : decode cX7_exchangeAt 22 = .ok (.ireturn, 1) := by decide +kernel
theorem dX7_whyNot_0 : decode cX7_whyNot 0 = .ok (.aload_n 0, 1) := by decide +kernel
theorem dX7_whyNot_1 : decode cX7_whyNot 1 = .ok (.iload_n 1, 1) := by decide +kernel
theorem dX7_whyNot_2 : decode cX7_whyNot 2 = .ok (.invokevirtual 138, 3) := by decide +kernel
theorem dX7_whyNot_5 : decode cX7_whyNot 5 = .ok (.aload_n 0, 1) := by decide +kernel
theorem dX7_whyNot_6 : decode cX7_whyNot 6 = .ok (.getfield 19, 3) := by decide +kernel
theorem dX7_whyNot_9 : decode cX7_whyNot 9 = .ok (.iload_n 1, 1) := by decide +kernel
theorem dX7_whyNot_10 : decode cX7_whyNot 10 = .ok (.invokevirtual 142, 3) := by decide +kernel
theorem dX7_whyNot_13 : decode cX7_whyNot 13 = .ok (.lstore_n 2, 1) := by decide +kernel
theorem dX7_whyNot_14 : decode cX7_whyNot 14 = .ok (.aload_n 0, 1) := by decide +kernel
theorem dX7_whyNot_15 : decode cX7_whyNot 15 = .ok (.getfield 19, 3) := by decide +kernel
theorem dX7_whyNot_18 : decode cX7_whyNot 18 = .ok (.iload_n 1, 1) := by decide +kernel
theorem dX7_whyNot_19 : decode cX7_whyNot 19 = .ok (.invokevirtual 150, 3) := by decide +kernel
theorem dX7_whyNot_22 : decode cX7_whyNot 22 = .ok (.istore 4, 2) := by decide +kernel
theorem dX7_whyNot_24 : decode cX7_whyNot 24 = .ok (.aload_n 0, 1) := by decide +kernel
theorem dX7_whyNot_25 : decode cX7_whyNot 25 = .ok (.getfield 19, 3) := by decide +kernel
theorem dX7_whyNot_28 : decode cX7_whyNot 28 = .ok (.iload_n 1, 1) := by decide +kernel
theorem dX7_whyNot_29 : decode cX7_whyNot 29 = .ok (.invokevirtual 146, 3) := by decide +kernel
theorem dX7_whyNot_32 : decode cX7_whyNot 32 = .ok (.iload 4, 2) := by decide +kernel
theorem dX7_whyNot_34 : decode cX7_whyNot 34 = .ok (.if_icmp .ne 5, 3) := by decide +kernel
theorem dX7_whyNot_37 : decode cX7_whyNot 37 = .ok (.iconst 0, 1) := by decide +kernel
theorem dX7_whyNot_38 : decode cX7_whyNot 38 = .ok (.ireturn, 1) := by decide +kernel
theorem dX7_whyNot_39 : decode cX7_whyNot 39 = .ok (.iload 4, 2) := by decide +kernel
theorem dX7_whyNot_41 : decode cX7_whyNot 41 = .ok (.lload_n 2, 1) := by decide +kernel
theorem dX7_whyNot_42 : decode cX7_whyNot 42 = .ok (.aload_n 0, 1) := by decide +kernel
theorem dX7_whyNot_43 : decode cX7_whyNot 43 = .ok (.getfield 19, 3) := by decide +kernel
theorem dX7_whyNot_46 : decode cX7_whyNot 46 = .ok (.getfield 100, 3) := by decide +kernel
theorem dX7_whyNot_49 : decode cX7_whyNot 49 = .ok (.aload_n 0, 1) := by decide +kernel
theorem dX7_whyNot_50 : decode cX7_whyNot 50 = .ok (.getfield 19, 3) := by decide +kernel
theorem dX7_whyNot_53 : decode cX7_whyNot 53 = .ok (.getfield 119, 3) := by decide +kernel
theorem dX7_whyNot_56 : decode cX7_whyNot 56 = .ok (.ldc2_w 210, 3) := by decide +kernel
theorem dX7_whyNot_59 : decode cX7_whyNot 59 = .ok (.lxor, 1) := by decide +kernel
theorem dX7_whyNot_60 : decode cX7_whyNot 60 = .ok (.land, 1) := by decide +kernel
theorem dX7_whyNot_61 : decode cX7_whyNot 61 = .ok (.ldc2_w 210, 3) := by decide +kernel
theorem dX7_whyNot_64 : decode cX7_whyNot 64 = .ok (.lxor, 1) := by decide +kernel
theorem dX7_whyNot_65 : decode cX7_whyNot 65 = .ok (.land, 1) := by decide +kernel
theorem dX7_whyNot_66 : decode cX7_whyNot 66 = .ok (.invokestatic 104, 3) := by decide +kernel
theorem dX7_whyNot_69 : decode cX7_whyNot 69 = .ok (.if_icmp .le 5, 3) := by decide +kernel
theorem dX7_whyNot_72 : decode cX7_whyNot 72 = .ok (.iconst 1, 1) := by decide +kernel
theorem dX7_whyNot_73 : decode cX7_whyNot 73 = .ok (.ireturn, 1) := by decide +kernel
theorem dX7_whyNot_74 : decode cX7_whyNot 74 = .ok (.iload 4, 2) := by decide +kernel
theorem dX7_whyNot_76 : decode cX7_whyNot 76 = .ok (.lload_n 2, 1) := by decide +kernel
theorem dX7_whyNot_77 : decode cX7_whyNot 77 = .ok (.aload_n 0, 1) := by decide +kernel
theorem dX7_whyNot_78 : decode cX7_whyNot 78 = .ok (.getfield 19, 3) := by decide +kernel
theorem dX7_whyNot_81 : decode cX7_whyNot 81 = .ok (.getfield 100, 3) := by decide +kernel
theorem dX7_whyNot_84 : decode cX7_whyNot 84 = .ok (.land, 1) := by decide +kernel
theorem dX7_whyNot_85 : decode cX7_whyNot 85 = .ok (.aload_n 0, 1) := by decide +kernel
theorem dX7_whyNot_86 : decode cX7_whyNot 86 = .ok (.getfield 19, 3) := by decide +kernel
theorem dX7_whyNot_89 : decode cX7_whyNot 89 = .ok (.getfield 119, 3) := by decide +kernel
theorem dX7_whyNot_92 : decode cX7_whyNot 92 = .ok (.land, 1) := by decide +kernel
theorem dX7_whyNot_93 : decode cX7_whyNot 93 = .ok (.invokestatic 104, 3) := by decide +kernel
theorem dX7_whyNot_96 : decode cX7_whyNot 96 = .ok (.if_icmp .ge 5, 3) := by decide +kernel
theorem dX7_whyNot_99 : decode cX7_whyNot 99 = .ok (.iconst 2, 1) := by decide +kernel
theorem dX7_whyNot_100 : decode cX7_whyNot 100 = .ok (.ireturn, 1) := by decide +kernel
theorem dX7_whyNot_101 : decode cX7_whyNot 101 = .ok (.iconst 3, 1) := by decide +kernel
theorem dX7_whyNot_102 : decode cX7_whyNot 102 = .ok (.ireturn, 1) := by decide +kernel
theorem dX7_resize_0 : decode cX7_resize 0 = .ok (.iload_n 1, 1) := by decide +kernel
theorem dX7_resize_1 : decode cX7_resize 1 = .ok (.iconst 1, 1) := by decide +kernel
theorem dX7_resize_2 : decode cX7_resize 2 = .ok (.if_icmp .lt 20, 3) := by decide +kernel
theorem dX7_resize_5 : decode cX7_resize 5 = .ok (.iload_n 1, 1) := by decide +kernel
theorem dX7_resize_6 : decode cX7_resize 6 = .ok (.bipush 6, 2) := by decide +kernel
theorem dX7_resize_8 : decode cX7_resize 8 = .ok (.if_icmp .gt 14, 3) := by decide +kernel
theorem dX7_resize_11 : decode cX7_resize 11 = .ok (.iload_n 2, 1) := by decide +kernel
theorem dX7_resize_12 : decode cX7_resize 12 = .ok (.iconst 1, 1) := by decide +kernel
theorem dX7_resize_13 : decode cX7_resize 13 = .ok (.if_icmp .lt 9, 3) := by decide +kernel
theorem dX7_resize_16 : decode cX7_resize 16 = .ok (.iload_n 2, 1) := by decide +kernel
theorem dX7_resize_17 : decode cX7_resize 17 = .ok (.bipush 6, 2) := by decide +kernel
theorem dX7_resize_19 : decode cX7_resize 19 = .ok (.if_icmp .le 13, 3) := by decide +kernel
theorem dX7_resize_22 : decode cX7_resize 22 = .ok (.new 53, 3) := by decide +kernel
theorem dX7_resize_25 : decode cX7_resize 25 = .ok (.dup, 1) := by decide +kernel
theorem dX7_resize_26 : decode cX7_resize 26 = .ok (.ldc 212, 2) := by decide +kernel
theorem dX7_resize_28 : decode cX7_resize 28 = .ok (.invokespecial 57, 3) := by decide +kernel
theorem dX7_resize_31 : decode cX7_resize 31 = .ok (.athrow, 1) := by decide +kernel
theorem dX7_resize_32 : decode cX7_resize 32 = .ok (.aload_n 0, 1) := by decide +kernel
theorem dX7_resize_33 : decode cX7_resize 33 = .ok (.getfield 29, 3) := by decide +kernel
theorem dX7_resize_36 : decode cX7_resize 36 = .ok (.aload_n 0, 1) := by decide +kernel
theorem dX7_resize_37 : decode cX7_resize 37 = .ok (.getfield 19, 3) := by decide +kernel
theorem dX7_resize_40 : decode cX7_resize 40 = .ok (.invokevirtual 214, 3) := by decide +kernel
theorem dX7_resize_43 : decode cX7_resize 43 = .ok (.aload_n 0, 1) := by decide +kernel
theorem dX7_resize_44 : decode cX7_resize 44 = .ok (.getfield 19, 3) := by decide +kernel
theorem dX7_resize_47 : decode cX7_resize 47 = .ok (.iload_n 1, 1) := by decide +kernel
theorem dX7_resize_48 : decode cX7_resize 48 = .ok (.iload_n 2, 1) := by decide +kernel
theorem dX7_resize_49 : decode cX7_resize 49 = .ok (.invokevirtual 217, 3) := by decide +kernel
theorem dX7_resize_52 : decode cX7_resize 52 = .ok (.aload_n 0, 1) := by decide +kernel
theorem dX7_resize_53 : decode cX7_resize 53 = .ok (.getfield 19, 3) := by decide +kernel
theorem dX7_resize_56 : decode cX7_resize 56 = .ok (.invokevirtual 90, 3) := by decide +kernel
theorem dX7_resize_59 : decode cX7_resize 59 = .ok (.ireturn, 1) := by decide +kernel
theorem dX7_fill_0 : decode cX7_fill 0 = .ok (.aload_n 0, 1) := by decide +kernel
theorem dX7_fill_1 : decode cX7_fill 1 = .ok (.iload_n 1, 1) := by decide +kernel
theorem dX7_fill_2 : decode cX7_fill 2 = .ok (.iload_n 2, 1) := by decide +kernel
theorem dX7_fill_3 : decode cX7_fill 3 = .ok (.invokevirtual 165, 3) := by decide +kernel
theorem dX7_fill_6 : decode cX7_fill 6 = .ok (.aload_n 0, 1) := by decide +kernel
theorem dX7_fill_7 : decode cX7_fill 7 = .ok (.getfield 19, 3) := by decide +kernel
theorem dX7_fill_10 : decode cX7_fill 10 = .ok (.iload_n 1, 1) := by decide +kernel
theorem dX7_fill_11 : decode cX7_fill 11 = .ok (.iload_n 2, 1) := by decide +kernel
theorem dX7_fill_12 : decode cX7_fill 12 = .ok (.invokevirtual 220, 3) := by decide +kernel
theorem dX7_fill_15 : decode cX7_fill 15 = .ok (.ifCond .eq 13, 3) := by decide +kernel
theorem dX7_fill_18 : decode cX7_fill 18 = .ok (.new 64, 3) := by decide +kernel
theorem dX7_fill_21 : decode cX7_fill 21 = .ok (.dup, 1) := by decide +kernel
theorem dX7_fill_22 : decode cX7_fill 22 = .ok (.ldc 224, 2) := by decide +kernel
theorem dX7_fill_24 : decode cX7_fill 24 = .ok (.invokespecial 68, 3) := by decide +kernel
theorem dX7_fill_27 : decode cX7_fill 27 = .ok (.athrow, 1) := by decide +kernel
theorem dX7_fill_28 : decode cX7_fill 28 = .ok (.aload_n 0, 1) := by decide +kernel
theorem dX7_fill_29 : decode cX7_fill 29 = .ok (.getfield 29, 3) := by decide +kernel
theorem dX7_fill_32 : decode cX7_fill 32 = .ok (.aload_n 0, 1) := by decide +kernel
theorem dX7_fill_33 : decode cX7_fill 33 = .ok (.getfield 19, 3) := by decide +kernel
theorem dX7_fill_36 : decode cX7_fill 36 = .ok (.invokevirtual 214, 3) := by decide +kernel
theorem dX7_fill_39 : decode cX7_fill 39 = .ok (.aload_n 0, 1) := by decide +kernel
theorem dX7_fill_40 : decode cX7_fill 40 = .ok (.getfield 19, 3) := by decide +kernel
theorem dX7_fill_43 : decode cX7_fill 43 = .ok (.iload_n 1, 1) := by decide +kernel
theorem dX7_fill_44 : decode cX7_fill 44 = .ok (.iload_n 2, 1) := by decide +kernel
theorem dX7_fill_45 : decode cX7_fill 45 = .ok (.iload_n 3, 1) := by decide +kernel
theorem dX7_fill_46 : decode cX7_fill 46 = .ok (.invokevirtual 226, 3) := by decide +kernel
theorem dX7_fill_49 : decode cX7_fill 49 = .ok (.ireturn, 1) := by decide +kernel
theorem dX7_pin_0 : decode cX7_pin 0 = .ok (.aload_n 0, 1) := by decide +kernel
theorem dX7_pin_1 : decode cX7_pin 1 = .ok (.iload_n 1, 1) := by decide +kernel
theorem dX7_pin_2 : decode cX7_pin 2 = .ok (.iload_n 2, 1) := by decide +kernel
theorem dX7_pin_3 : decode cX7_pin 3 = .ok (.invokevirtual 165, 3) := by decide +kernel
theorem dX7_pin_6 : decode cX7_pin 6 = .ok (.aload_n 0, 1) := by decide +kernel
theorem dX7_pin_7 : decode cX7_pin 7 = .ok (.getfield 29, 3) := by decide +kernel
theorem dX7_pin_10 : decode cX7_pin 10 = .ok (.aload_n 0, 1) := by decide +kernel
theorem dX7_pin_11 : decode cX7_pin 11 = .ok (.getfield 19, 3) := by decide +kernel
theorem dX7_pin_14 : decode cX7_pin 14 = .ok (.invokevirtual 214, 3) := by decide +kernel
