theorem dX0_bit_0 : decode cX0_bit 0 = .ok (.lconst 1, 1) := by decide +kernel
theorem dX0_bit_1 : decode cX0_bit 1 = .ok (.bipush 8, 2) := by decide +kernel
theorem dX0_bit_3 : decode cX0_bit 3 = .ok (.iload_n 0, 1) := by decide +kernel
theorem dX0_bit_4 : decode cX0_bit 4 = .ok (.imul, 1) := by decide +kernel
theorem dX0_bit_5 : decode cX0_bit 5 = .ok (.iload_n 1, 1) := by decide +kernel
theorem dX0_bit_6 : decode cX0_bit 6 = .ok (.iadd, 1) := by decide +kernel
theorem dX0_bit_7 : decode cX0_bit 7 = .ok (.lshl, 1) := by decide +kernel
theorem dX0_bit_8 : decode cX0_bit 8 = .ok (.lreturn, 1) := by decide +kernel
theorem dX0_rowMask_0 : decode cX0_rowMask 0 = .ok (.ldc2_w 11, 3) := by decide +kernel
theorem dX0_rowMask_3 : decode cX0_rowMask 3 = .ok (.bipush 8, 2) := by decide +kernel
theorem dX0_rowMask_5 : decode cX0_rowMask 5 = .ok (.iload_n 0, 1) := by decide +kernel
theorem dX0_rowMask_6 : decode cX0_rowMask 6 = .ok (.imul, 1) := by decide +kernel
theorem dX0_rowMask_7 : decode cX0_rowMask 7 = .ok (.lshl, 1) := by decide +kernel
theorem dX0_rowMask_8 : decode cX0_rowMask 8 = .ok (.lreturn, 1) := by decide +kernel
theorem dX0_columnMask_0 : decode cX0_columnMask 0 = .ok (.ldc2_w 13, 3) := by decide +kernel
theorem dX0_columnMask_3 : decode cX0_columnMask 3 = .ok (.iload_n 0, 1) := by decide +kernel
theorem dX0_columnMask_4 : decode cX0_columnMask 4 = .ok (.lshl, 1) := by decide +kernel
theorem dX0_columnMask_5 : decode cX0_columnMask 5 = .ok (.lreturn, 1) := by decide +kernel
theorem dX0_inRow_0 : decode cX0_inRow 0 = .ok (.lload_n 0, 1) := by decide +kernel
theorem dX0_inRow_1 : decode cX0_inRow 1 = .ok (.bipush 8, 2) := by decide +kernel
theorem dX0_inRow_3 : decode cX0_inRow 3 = .ok (.iload_n 2, 1) := by decide +kernel
theorem dX0_inRow_4 : decode cX0_inRow 4 = .ok (.imul, 1) := by decide +kernel
theorem dX0_inRow_5 : decode cX0_inRow 5 = .ok (.lushr, 1) := by decide +kernel
theorem dX0_inRow_6 : decode cX0_inRow 6 = .ok (.l2i, 1) := by decide +kernel
theorem dX0_inRow_7 : decode cX0_inRow 7 = .ok (.bipush 63, 2) := by decide +kernel
theorem dX0_inRow_9 : decode cX0_inRow 9 = .ok (.iand, 1) := by decide +kernel
theorem dX0_inRow_10 : decode cX0_inRow 10 = .ok (.ireturn, 1) := by decide +kernel
theorem dX0_rowAt_0 : decode cX0_rowAt 0 = .ok (.iload_n 0, 1) := by decide +kernel
theorem dX0_rowAt_1 : decode cX0_rowAt 1 = .ok (.iconst 3, 1) := by decide +kernel
theorem dX0_rowAt_2 : decode cX0_rowAt 2 = .ok (.ishr, 1) := by decide +kernel
theorem dX0_rowAt_3 : decode cX0_rowAt 3 = .ok (.ireturn, 1) := by decide +kernel
theorem dX0_columnAt_0 : decode cX0_columnAt 0 = .ok (.iload_n 0, 1) := by decide +kernel
theorem dX0_columnAt_1 : decode cX0_columnAt 1 = .ok (.bipush 7, 2) := by decide +kernel
theorem dX0_columnAt_3 : decode cX0_columnAt 3 = .ok (.iand, 1) := by decide +kernel
theorem dX0_columnAt_4 : decode cX0_columnAt 4 = .ok (.ireturn, 1) := by decide +kernel
theorem dX0_code_0 : decode cX0_code 0 = .ok (.bipush 10, 2) := by decide +kernel
theorem dX0_code_2 : decode cX0_code 2 = .ok (.iload_n 0, 1) := by decide +kernel
theorem dX0_code_3 : decode cX0_code 3 = .ok (.invokestatic 15, 3) := by decide +kernel
theorem dX0_code_6 : decode cX0_code 6 = .ok (.imul, 1) := by decide +kernel
theorem dX0_code_7 : decode cX0_code 7 = .ok (.iload_n 0, 1) := by decide +kernel
theorem dX0_code_8 : decode cX0_code 8 = .ok (.invokestatic 19, 3) := by decide +kernel
theorem dX0_code_11 : decode cX0_code 11 = .ok (.iadd, 1) := by decide +kernel
theorem dX0_code_12 : decode cX0_code 12 = .ok (.ireturn, 1) := by decide +kernel
theorem dX0_firstPosition_0 : decode cX0_firstPosition 0 = .ok (.lload_n 0, 1) := by decide +kernel
theorem dX0_firstPosition_1 : decode cX0_firstPosition 1 = .ok (.lload_n 0, 1) := by decide +kernel
theorem dX0_firstPosition_2 : decode cX0_firstPosition 2 = .ok (.lneg, 1) := by decide +kernel
theorem dX0_firstPosition_3 : decode cX0_firstPosition 3 = .ok (.land, 1) := by decide +kernel
theorem dX0_firstPosition_4 : decode cX0_firstPosition 4 = .ok (.lconst 1, 1) := by decide +kernel
theorem dX0_firstPosition_5 : decode cX0_firstPosition 5 = .ok (.lsub, 1) := by decide +kernel
theorem dX0_firstPosition_6 : decode cX0_firstPosition 6 = .ok (.invokestatic 22, 3) := by decide +kernel
theorem dX0_firstPosition_9 : decode cX0_firstPosition 9 = .ok (.ireturn, 1) := by decide +kernel
theorem dX0_outline_0 : decode cX0_outline 0 = .ok (.lload_n 0, 1) := by decide +kernel
theorem dX0_outline_1 : decode cX0_outline 1 = .ok (.lload_n 2, 1) := by decide +kernel
theorem dX0_outline_2 : decode cX0_outline 2 = .ok (.iconst 1, 1) := by decide +kernel
theorem dX0_outline_3 : decode cX0_outline 3 = .ok (.lshl, 1) := by decide +kernel
theorem dX0_outline_4 : decode cX0_outline 4 = .ok (.ldc2_w 28, 3) := by decide +kernel
theorem dX0_outline_7 : decode cX0_outline 7 = .ok (.lxor, 1) := by decide +kernel
theorem dX0_outline_8 : decode cX0_outline 8 = .ok (.land, 1) := by decide +kernel
theorem dX0_outline_9 : decode cX0_outline 9 = .ok (.invokestatic 22, 3) := by decide +kernel
theorem dX0_outline_12 : decode cX0_outline 12 = .ok (.lload_n 0, 1) := by decide +kernel
theorem dX0_outline_13 : decode cX0_outline 13 = .ok (.lload_n 2, 1) := by decide +kernel
theorem dX0_outline_14 : decode cX0_outline 14 = .ok (.iconst 1, 1) := by decide +kernel
theorem dX0_outline_15 : decode cX0_outline 15 = .ok (.lushr, 1) := by decide +kernel
theorem dX0_outline_16 : decode cX0_outline 16 = .ok (.ldc2_w 28, 3) := by decide +kernel
theorem dX0_outline_19 : decode cX0_outline 19 = .ok (.lxor, 1) := by decide +kernel
theorem dX0_outline_20 : decode cX0_outline 20 = .ok (.land, 1) := by decide +kernel
theorem dX0_outline_21 : decode cX0_outline 21 = .ok (.invokestatic 22, 3) := by decide +kernel
theorem dX0_outline_24 : decode cX0_outline 24 = .ok (.iadd, 1) := by decide +kernel
theorem dX0_outline_25 : decode cX0_outline 25 = .ok (.lload_n 0, 1) := by decide +kernel
theorem dX0_outline_26 : decode cX0_outline 26 = .ok (.lload_n 2, 1) := by decide +kernel
theorem dX0_outline_27 : decode cX0_outline 27 = .ok (.bipush 8, 2) := by decide +kernel
theorem dX0_outline_29 : decode cX0_outline 29 = .ok (.lshl, 1) := by decide +kernel
theorem dX0_outline_30 : decode cX0_outline 30 = .ok (.ldc2_w 28, 3) := by decide +kernel
theorem dX0_outline_33 : decode cX0_outline 33 = .ok (.lxor, 1) := by decide +kernel
theorem dX0_outline_34 : decode cX0_outline 34 = .ok (.land, 1) := by decide +kernel
theorem dX0_outline_35 : decode cX0_outline 35 = .ok (.invokestatic 22, 3) := by decide +kernel
theorem dX0_outline_38 : decode cX0_outline 38 = .ok (.iadd, 1) := by decide +kernel
theorem dX0_outline_39 : decode cX0_outline 39 = .ok (.lload_n 0, 1) := by decide +kernel
theorem dX0_outline_40 : decode cX0_outline 40 = .ok (.lload_n 2, 1) := by decide +kernel
theorem dX0_outline_41 : decode cX0_outline 41 = .ok (.bipush 8, 2) := by decide +kernel
theorem dX0_outline_43 : decode cX0_outline 43 = .ok (.lushr, 1) := by decide +kernel
theorem dX0_outline_44 : decode cX0_outline 44 = .ok (.ldc2_w 28, 3) := by decide +kernel
theorem dX0_outline_47 : decode cX0_outline 47 = .ok (.lxor, 1) := by decide +kernel
theorem dX0_outline_48 : decode cX0_outline 48 = .ok (.land, 1) := by decide +kernel
theorem dX0_outline_49 : decode cX0_outline 49 = .ok (.invokestatic 22, 3) := by decide +kernel
theorem dX0_outline_52 : decode cX0_outline 52 = .ok (.iadd, 1) := by decide +kernel
theorem dX0_outline_53 : decode cX0_outline 53 = .ok (.ireturn, 1) := by decide +kernel
theorem dX0_countRuns_0 : decode cX0_countRuns 0 = .ok (.lload_n 0, 1) := by decide +kernel
theorem dX0_countRuns_1 : decode cX0_countRuns 1 = .ok (.lload_n 0, 1) := by decide +kernel
theorem dX0_countRuns_2 : decode cX0_countRuns 2 = .ok (.iload_n 2, 1) := by decide +kernel
theorem dX0_countRuns_3 : decode cX0_countRuns 3 = .ok (.lshl, 1) := by decide +kernel
theorem dX0_countRuns_4 : decode cX0_countRuns 4 = .ok (.ldc2_w 28, 3) := by decide +kernel
theorem dX0_countRuns_7 : decode cX0_countRuns 7 = .ok (.lxor, 1) := by decide +kernel
theorem dX0_countRuns_8 : decode cX0_countRuns 8 = .ok (.land, 1) := by decide +kernel
theorem dX0_countRuns_9 : decode cX0_countRuns 9 = .ok (.invokestatic 22, 3) := by decide +kernel
theorem dX0_countRuns_12 : decode cX0_countRuns 12 = .ok (.ireturn, 1) := by decide +kernel
theorem dX0_longestRun_0 : decode cX0_longestRun 0 = .ok (.iconst 0, 1) := by decide +kernel
theorem dX0_longestRun_1 : decode cX0_longestRun 1 = .ok (.istore_n 3, 1) := by decide +kernel
theorem dX0_longestRun_2 : decode cX0_longestRun 2 = .ok (.lload_n 0, 1) := by decide +kernel
theorem dX0_longestRun_3 : decode cX0_longestRun 3 = .ok (.lstore 4, 2) := by decide +kernel
theorem dX0_longestRun_5 : decode cX0_longestRun 5 = .ok (.iconst 0, 1) := by decide +kernel
theorem dX0_longestRun_6 : decode cX0_longestRun 6 = .ok (.istore 6, 2) := by decide +kernel
theorem dX0_longestRun_8 : decode cX0_longestRun 8 = .ok (.iload 6, 2) := by decide +kernel
theorem dX0_longestRun_10 : decode cX0_longestRun 10 = .ok (.bipush 6, 2) := by decide +kernel
theorem dX0_longestRun_12 : decode cX0_longestRun 12 = .ok (.if_icmp .ge 28, 3) := by decide +kernel
theorem dX0_longestRun_15 : decode cX0_longestRun 15 = .ok (.lload 4, 2) := by decide +kernel
theorem dX0_longestRun_17 : decode cX0_longestRun 17 = .ok (.lconst 0, 1) := by decide +kernel
theorem dX0_longestRun_18 : decode cX0_longestRun 18 = .ok (.lcmp, 1) := by decide +kernel
theorem dX0_longestRun_19 : decode cX0_longestRun 19 = .ok (.ifCond .eq 21, 3) := by decide +kernel
theorem dX0_longestRun_22 : decode cX0_longestRun 22 = .ok (.iinc 3 1, 3) := by decide +kernel
theorem dX0_longestRun_25 : decode cX0_longestRun 25 = .ok (.lload 4, 2) := by decide +kernel
theorem dX0_longestRun_27 : decode cX0_longestRun 27 = .ok (.lload 4, 2) := by decide +kernel
theorem dX0_longestRun_29 : decode cX0_longestRun 29 = .ok (.iload_n 2, 1) := by decide +kernel
theorem dX0_longestRun_30 : decode cX0_longestRun 30 = .ok (.lshl, 1) := by decide +kernel
theorem dX0_longestRun_31 : decode cX0_longestRun 31 = .ok (.land, 1) := by decide +kernel
theorem dX0_longestRun_32 : decode cX0_longestRun 32 = .ok (.lstore 4, 2) := by decide +kernel
theorem dX0_longestRun_34 : decode cX0_longestRun 34 = .ok (.iinc 6 1, 3) := by decide +kernel
theorem dX0_longestRun_37 : decode cX0_longestRun 37 = .ok (.goto (-29), 3) := by decide +kernel
theorem dX0_longestRun_40 : decode cX0_longestRun 40 = .ok (.iload_n 3, 1) := by decide +kernel
theorem dX0_longestRun_41 : decode cX0_longestRun 41 = .ok (.ireturn, 1) := by decide +kernel
theorem dX0_countRowsOf_0 : decode cX0_countRowsOf 0 = .ok (.iconst 0, 1) := by decide +kernel
theorem dX0_countRowsOf_1 : decode cX0_countRowsOf 1 = .ok (.istore_n 2, 1) := by decide +kernel
theorem dX0_countRowsOf_2 : decode cX0_countRowsOf 2 = .ok (.iconst 0, 1) := by decide +kernel
theorem dX0_countRowsOf_3 : decode cX0_countRowsOf 3 = .ok (.istore_n 3, 1) := by decide +kernel
theorem dX0_countRowsOf_4 : decode cX0_countRowsOf 4 = .ok (.iload_n 3, 1) := by decide +kernel
theorem dX0_countRowsOf_5 : decode cX0_countRowsOf 5 = .ok (.bipush 6, 2) := by decide +kernel
theorem dX0_countRowsOf_7 : decode cX0_countRowsOf 7 = .ok (.if_icmp .ge 31, 3) := by decide +kernel
theorem dX0_countRowsOf_10 : decode cX0_countRowsOf 10 = .ok (.iload_n 2, 1) := by decide +kernel
theorem dX0_countRowsOf_11 : decode cX0_countRowsOf 11 = .ok (.lload_n 0, 1) := by decide +kernel
theorem dX0_countRowsOf_12 : decode cX0_countRowsOf 12 = .ok (.iload_n 3, 1) := by decide +kernel
theorem dX0_countRowsOf_13 : decode cX0_countRowsOf 13 = .ok (.invokestatic 30, 3) := by decide +kernel
theorem dX0_countRowsOf_16 : decode cX0_countRowsOf 16 = .ok (.land, 1) := by decide +kernel
theorem dX0_countRowsOf_17 : decode cX0_countRowsOf 17 = .ok (.lconst 0, 1) := by decide +kernel
theorem dX0_countRowsOf_18 : decode cX0_countRowsOf 18 = .ok (.lcmp, 1) := by decide +kernel
theorem dX0_countRowsOf_19 : decode cX0_countRowsOf 19 = .ok (.ifCond .eq 7, 3) := by decide +kernel
theorem dX0_countRowsOf_22 : decode cX0_countRowsOf 22 = .ok (.iconst 1, 1) := by decide +kernel
theorem dX0_countRowsOf_23 : decode cX0_countRowsOf 23 = .ok (.goto 4, 3) := by decide +kernel
theorem dX0_countRowsOf_26 : decode cX0_countRowsOf 26 = .ok (.iconst 0, 1) := by decide +kernel
theorem dX0_countRowsOf_27 : decode cX0_countRowsOf 27 = .ok (.invokestatic 34, 3) := by decide +kernel
theorem dX0_countRowsOf_30 : decode cX0_countRowsOf 30 = .ok (.iadd, 1) := by decide +kernel
theorem dX0_countRowsOf_31 : decode cX0_countRowsOf 31 = .ok (.istore_n 2, 1) := by decide +kernel
theorem dX0_countRowsOf_32 : decode cX0_countRowsOf 32 = .ok (.iinc 3 1, 3) := by decide +kernel
theorem dX0_countRowsOf_35 : decode cX0_countRowsOf 35 = .ok (.goto (-31), 3) := by decide +kernel
theorem dX0_countRowsOf_38 : decode cX0_countRowsOf 38 = .ok (.iload_n 2, 1) := by decide +kernel
theorem dX0_countRowsOf_39 : decode cX0_countRowsOf 39 = .ok (.ireturn, 1) := by decide +kernel
theorem dX0_countColumnsOf_0 : decode cX0_countColumnsOf 0 = .ok (.iconst 0, 1) := by decide +kernel
theorem dX0_countColumnsOf_1 : decode cX0_countColumnsOf 1 = .ok (.istore_n 2, 1) := by decide +kernel
theorem dX0_countColumnsOf_2 : decode cX0_countColumnsOf 2 = .ok (.iconst 0, 1) := by decide +kernel
theorem dX0_countColumnsOf_3 : decode cX0_countColumnsOf 3 = .ok (.istore_n 3, 1) := by decide +kernel
theorem dX0_countColumnsOf_4 : decode cX0_countColumnsOf 4 = .ok (.iload_n 3, 1) := by decide +kernel
theorem dX0_countColumnsOf_5 : decode cX0_countColumnsOf 5 = .ok (.bipush 6, 2) := by decide +kernel
theorem dX0_countColumnsOf_7 : decode cX0_countColumnsOf 7 = .ok (.if_icmp .ge 31, 3) := by decide +kernel
theorem dX0_countColumnsOf_10 : decode cX0_countColumnsOf 10 = .ok (.iload_n 2, 1) := by decide +kernel
theorem dX0_countColumnsOf_11 : decode cX0_countColumnsOf 11 = .ok (.lload_n 0, 1) := by decide +kernel
theorem dX0_countColumnsOf_12 : decode cX0_countColumnsOf 12 = .ok (.iload_n 3, 1) := by decide +kernel
theorem dX0_countColumnsOf_13 : decode cX0_countColumnsOf 13 = .ok (.invokestatic 38, 3) := by decide +kernel
theorem dX0_countColumnsOf_16 : decode cX0_countColumnsOf 16 = .ok (.land, 1) := by decide +kernel
theorem dX0_countColumnsOf_17 : decode cX0_countColumnsOf 17 = .ok (.lconst 0, 1) := by decide +kernel
theorem dX0_countColumnsOf_18 : decode cX0_countColumnsOf 18 = .ok (.lcmp, 1) := by decide +kernel
theorem dX0_countColumnsOf_19 : decode cX0_countColumnsOf 19 = .ok (.ifCond .eq 7, 3) := by decide +kernel
theorem dX0_countColumnsOf_22 : decode cX0_countColumnsOf 22 = .ok (.iconst 1, 1) := by decide +kernel
theorem dX0_countColumnsOf_23 : decode cX0_countColumnsOf 23 = .ok (.goto 4, 3) := by decide +kernel
theorem dX0_countColumnsOf_26 : decode cX0_countColumnsOf 26 = .ok (.iconst 0, 1) := by decide +kernel
theorem dX0_countColumnsOf_27 : decode cX0_countColumnsOf 27 = .ok (.invokestatic 34, 3) := by decide +kernel
theorem dX0_countColumnsOf_30 : decode cX0_countColumnsOf 30 = .ok (.iadd, 1) := by decide +kernel
theorem dX0_countColumnsOf_31 : decode cX0_countColumnsOf 31 = .ok (.istore_n 2, 1) := by decide +kernel
theorem dX0_countColumnsOf_32 : decode cX0_countColumnsOf 32 = .ok (.iinc 3 1, 3) := by decide +kernel
theorem dX0_countColumnsOf_35 : decode cX0_countColumnsOf 35 = .ok (.goto (-31), 3) := by decide +kernel
theorem dX0_countColumnsOf_38 : decode cX0_countColumnsOf 38 = .ok (.iload_n 2, 1) := by decide +kernel
theorem dX0_countColumnsOf_39 : decode cX0_countColumnsOf 39 = .ok (.ireturn, 1) := by decide +kernel
theorem dX0_firstPiece_0 : decode cX0_firstPiece 0 = .ok (.lload_n 0, 1) := by decide +kernel
theorem dX0_firstPiece_1 : decode cX0_firstPiece 1 = .ok (.lload_n 0, 1) := by decide +kernel
theorem dX0_firstPiece_2 : decode cX0_firstPiece 2 = .ok (.lneg, 1) := by decide +kernel
theorem dX0_firstPiece_3 : decode cX0_firstPiece 3 = .ok (.land, 1) := by decide +kernel
theorem dX0_firstPiece_4 : decode cX0_firstPiece 4 = .ok (.lstore_n 2, 1) := by decide +kernel
theorem dX0_firstPiece_5 : decode cX0_firstPiece 5 = .ok (.iconst 0, 1) := by decide +kernel
theorem dX0_firstPiece_6 : decode cX0_firstPiece 6 = .ok (.istore 4, 2) := by decide +kernel
theorem dX0_firstPiece_8 : decode cX0_firstPiece 8 = .ok (.iload 4, 2) := by decide +kernel
theorem dX0_firstPiece_10 : decode cX0_firstPiece 10 = .ok (.bipush 48, 2) := by decide +kernel
theorem dX0_firstPiece_12 : decode cX0_firstPiece 12 = .ok (.if_icmp .ge 45, 3) := by decide +kernel
theorem dX0_firstPiece_15 : decode cX0_firstPiece 15 = .ok (.lload_n 0, 1) := by decide +kernel
theorem dX0_firstPiece_16 : decode cX0_firstPiece 16 = .ok (.lload_n 2, 1) := by decide +kernel
theorem dX0_firstPiece_17 : decode cX0_firstPiece 17 = .ok (.lload_n 2, 1) := by decide +kernel
theorem dX0_firstPiece_18 : decode cX0_firstPiece 18 = .ok (.iconst 1, 1) := by decide +kernel
theorem dX0_firstPiece_19 : decode cX0_firstPiece 19 = .ok (.lshl, 1) := by decide +kernel
theorem dX0_firstPiece_20 : decode cX0_firstPiece 20 = .ok (.lor, 1) := by decide +kernel
theorem dX0_firstPiece_21 : decode cX0_firstPiece 21 = .ok (.lload_n 2, 1) := by decide +kernel
theorem dX0_firstPiece_22 : decode cX0_firstPiece 22 = .ok (.iconst 1, 1) := by decide +kernel
theorem dX0_firstPiece_23 : decode cX0_firstPiece 23 = .ok (.lushr, 1) := by decide +kernel
theorem dX0_firstPiece_24 : decode cX0_firstPiece 24 = .ok (.lor, 1) := by decide +kernel
theorem dX0_firstPiece_25 : decode cX0_firstPiece 25 = .ok (.lload_n 2, 1) := by decide +kernel
theorem dX0_firstPiece_26 : decode cX0_firstPiece 26 = .ok (.bipush 8, 2) := by decide +kernel
theorem dX0_firstPiece_28 : decode cX0_firstPiece 28 = .ok (.lshl, 1) := by decide +kernel
theorem dX0_firstPiece_29 : decode cX0_firstPiece 29 = .ok (.lor, 1) := by decide +kernel
theorem dX0_firstPiece_30 : decode cX0_firstPiece 30 = .ok (.lload_n 2, 1) := by decide +kernel
theorem dX0_firstPiece_31 : decode cX0_firstPiece 31 = .ok (.bipush 8, 2) := by decide +kernel
theorem dX0_firstPiece_33 : decode cX0_firstPiece 33 = .ok (.lushr, 1) := by decide +kernel
theorem dX0_firstPiece_34 : decode cX0_firstPiece 34 = .ok (.lor, 1) := by decide +kernel
theorem dX0_firstPiece_35 : decode cX0_firstPiece 35 = .ok (.land, 1) := by decide +kernel
theorem dX0_firstPiece_36 : decode cX0_firstPiece 36 = .ok (.lstore 5, 2) := by decide +kernel
theorem dX0_firstPiece_38 : decode cX0_firstPiece 38 = .ok (.lload 5, 2) := by decide +kernel
theorem dX0_firstPiece_40 : decode cX0_firstPiece 40 = .ok (.lload_n 2, 1) := by decide +kernel
theorem dX0_firstPiece_41 : decode cX0_firstPiece 41 = .ok (.lcmp, 1) := by decide +kernel
theorem dX0_firstPiece_42 : decode cX0_firstPiece 42 = .ok (.ifCond .ne 6, 3) := by decide +kernel
theorem dX0_firstPiece_45 : decode cX0_firstPiece 45 = .ok (.goto 12, 3) := by decide +kernel
theorem dX0_firstPiece_48 : decode cX0_firstPiece 48 = .ok (.lload 5, 2) := by decide +kernel
theorem dX0_firstPiece_50 : decode cX0_firstPiece 50 = .ok (.lstore_n 2, 1) := by decide +kernel
theorem dX0_firstPiece_51 : decode cX0_firstPiece 51 = .ok (.iinc 4 1, 3) := by decide +kernel
theorem dX0_firstPiece_54 : decode cX0_firstPiece 54 = .ok (.goto (-46), 3) := by decide +kernel
theorem dX0_firstPiece_57 : decode cX0_firstPiece 57 = .ok (.lload_n 2, 1) := by decide +kernel
theorem dX0_firstPiece_58 : decode cX0_firstPiece 58 = .ok (.lreturn, 1) := by decide +kernel
theorem dX0_countPieces_0 : decode cX0_countPieces 0 = .ok (.iconst 0, 1) := by decide +kernel
theorem dX0_countPieces_1 : decode cX0_countPieces 1 = .ok (.istore_n 2, 1) := by decide +kernel
theorem dX0_countPieces_2 : decode cX0_countPieces 2 = .ok (.lload_n 0, 1) := by decide +kernel
theorem dX0_countPieces_3 : decode cX0_countPieces 3 = .ok (.lstore_n 3, 1) := by decide +kernel
theorem dX0_countPieces_4 : decode cX0_countPieces 4 = .ok (.iconst 0, 1) := by decide +kernel
theorem dX0_countPieces_5 : decode cX0_countPieces 5 = .ok (.istore 5, 2) := by decide +kernel
theorem dX0_countPieces_7 : decode cX0_countPieces 7 = .ok (.iload 5, 2) := by decide +kernel
theorem dX0_countPieces_9 : decode cX0_countPieces 9 = .ok (.bipush 48, 2) := by decide +kernel
theorem dX0_countPieces_11 : decode cX0_countPieces 11 = .ok (.if_icmp .ge 29, 3) := by decide +kernel
theorem dX0_countPieces_14 : decode cX0_countPieces 14 = .ok (.lload_n 3, 1) := by decide +kernel
theorem dX0_countPieces_15 : decode cX0_countPieces 15 = .ok (.lconst 0, 1) := by decide +kernel
theorem dX0_countPieces_16 : decode cX0_countPieces 16 = .ok (.lcmp, 1) := by decide +kernel
theorem dX0_countPieces_17 : decode cX0_countPieces 17 = .ok (.ifCond .eq 23, 3) := by decide +kernel
theorem dX0_countPieces_20 : decode cX0_countPieces 20 = .ok (.iinc 2 1, 3) := by decide +kernel
theorem dX0_countPieces_23 : decode cX0_countPieces 23 = .ok (.lload_n 3, 1) := by decide +kernel
theorem dX0_countPieces_24 : decode cX0_countPieces 24 = .ok (.lload_n 3, 1) := by decide +kernel
theorem dX0_countPieces_25 : decode cX0_countPieces 25 = .ok (.invokestatic 41, 3) := by decide +kernel
theorem dX0_countPieces_28 : decode cX0_countPieces 28 = .ok (.ldc2_w 28, 3) := by decide +kernel
theorem dX0_countPieces_31 : decode cX0_countPieces 31 = .ok (.lxor, 1) := by decide +kernel
theorem dX0_countPieces_32 : decode cX0_countPieces 32 = .ok (.land, 1) := by decide +kernel
theorem dX0_countPieces_33 : decode cX0_countPieces 33 = .ok (.lstore_n 3, 1) := by decide +kernel
theorem dX0_countPieces_34 : decode cX0_countPieces 34 = .ok (.iinc 5 1, 3) := by decide +kernel
theorem dX0_countPieces_37 : decode cX0_countPieces 37 = .ok (.goto (-30), 3) := by decide +kernel
theorem dX0_countPieces_40 : decode cX0_countPieces 40 = .ok (.iload_n 2, 1) := by decide +kernel
theorem dX0_countPieces_41 : decode cX0_countPieces 41 = .ok (.ireturn, 1) := by decide +kernel
theorem dX0_pieceNumbered_0 : decode cX0_pieceNumbered 0 = .ok (.lload_n 0, 1) := by decide +kernel
theorem dX0_pieceNumbered_1 : decode cX0_pieceNumbered 1 = .ok (.lstore_n 3, 1) := by decide +kernel
theorem dX0_pieceNumbered_2 : decode cX0_pieceNumbered 2 = .ok (.iconst 0, 1) := by decide +kernel
theorem dX0_pieceNumbered_3 : decode cX0_pieceNumbered 3 = .ok (.istore 5, 2) := by decide +kernel
theorem dX0_pieceNumbered_5 : decode cX0_pieceNumbered 5 = .ok (.iload 5, 2) := by decide +kernel
theorem dX0_pieceNumbered_7 : decode cX0_pieceNumbered 7 = .ok (.iload_n 2, 1) := by decide +kernel
theorem dX0_pieceNumbered_8 : decode cX0_pieceNumbered 8 = .ok (.if_icmp .ge 27, 3) := by decide +kernel
theorem dX0_pieceNumbered_11 : decode cX0_pieceNumbered 11 = .ok (.iload 5, 2) := by decide +kernel
theorem dX0_pieceNumbered_13 : decode cX0_pieceNumbered 13 = .ok (.bipush 48, 2) := by decide +kernel
theorem dX0_pieceNumbered_15 : decode cX0_pieceNumbered 15 = .ok (.if_icmp .ge 20, 3) := by decide +kernel
theorem dX0_pieceNumbered_18 : decode cX0_pieceNumbered 18 = .ok (.lload_n 3, 1) := by decide +kernel
theorem dX0_pieceNumbered_19 : decode cX0_pieceNumbered 19 = .ok (.lload_n 3, 1) := by decide +kernel
theorem dX0_pieceNumbered_20 : decode cX0_pieceNumbered 20 = .ok (.invokestatic 41, 3) := by decide +kernel
theorem dX0_pieceNumbered_23 : decode cX0_pieceNumbered 23 = .ok (.ldc2_w 28, 3) := by decide +kernel
theorem dX0_pieceNumbered_26 : decode cX0_pieceNumbered 26 = .ok (.lxor, 1) := by decide +kernel
theorem dX0_pieceNumbered_27 : decode cX0_pieceNumbered 27 = .ok (.land, 1) := by decide +kernel
theorem dX0_pieceNumbered_28 : decode cX0_pieceNumbered 28 = .ok (.lstore_n 3, 1) := by decide +kernel
theorem dX0_pieceNumbered_29 : decode cX0_pieceNumbered 29 = .ok (.iinc 5 1, 3) := by decide +kernel
theorem dX0_pieceNumbered_32 : decode cX0_pieceNumbered 32 = .ok (.goto (-27), 3) := by decide +kernel
theorem dX0_pieceNumbered_35 : decode cX0_pieceNumbered 35 = .ok (.lload_n 3, 1) := by decide +kernel
theorem dX0_pieceNumbered_36 : decode cX0_pieceNumbered 36 = .ok (.invokestatic 41, 3) := by decide +kernel
theorem dX0_pieceNumbered_39 : decode cX0_pieceNumbered 39 = .ok (.lreturn, 1) := by decide +kernel
theorem dX0_pieceNumber_0 : decode cX0_pieceNumber 0 = .ok (.lload_n 0, 1) := by decide +kernel
theorem dX0_pieceNumber_1 : decode cX0_pieceNumber 1 = .ok (.lload_n 2, 1) := by decide +kernel
theorem dX0_pieceNumber_2 : decode cX0_pieceNumber 2 = .ok (.land, 1) := by decide +kernel
theorem dX0_pieceNumber_3 : decode cX0_pieceNumber 3 = .ok (.lconst 0, 1) := by decide +kernel
theorem dX0_pieceNumber_4 : decode cX0_pieceNumber 4 = .ok (.lcmp, 1) := by decide +kernel
theorem dX0_pieceNumber_5 : decode cX0_pieceNumber 5 = .ok (.ifCond .ne 6, 3) := by decide +kernel
theorem dX0_pieceNumber_8 : decode cX0_pieceNumber 8 = .ok (.bipush (-9), 2) := by decide +kernel
theorem dX0_pieceNumber_10 : decode cX0_pieceNumber 10 = .ok (.ireturn, 1) := by decide +kernel
theorem dX0_pieceNumber_11 : decode cX0_pieceNumber 11 = .ok (.iconst 0, 1) := by decide +kernel
theorem dX0_pieceNumber_12 : decode cX0_pieceNumber 12 = .ok (.istore 4, 2) := by decide +kernel
theorem dX0_pieceNumber_14 : decode cX0_pieceNumber 14 = .ok (.lload_n 0, 1) := by decide +kernel
theorem dX0_pieceNumber_15 : decode cX0_pieceNumber 15 = .ok (.lstore 5, 2) := by decide +kernel
theorem dX0_pieceNumber_17 : decode cX0_pieceNumber 17 = .ok (.iconst 0, 1) := by decide +kernel
theorem dX0_pieceNumber_18 : decode cX0_pieceNumber 18 = .ok (.istore 7, 2) := by decide +kernel
theorem dX0_pieceNumber_20 : decode cX0_pieceNumber 20 = .ok (.iload 7, 2) := by decide +kernel
theorem dX0_pieceNumber_22 : decode cX0_pieceNumber 22 = .ok (.bipush 48, 2) := by decide +kernel
theorem dX0_pieceNumber_24 : decode cX0_pieceNumber 24 = .ok (.if_icmp .ge 38, 3) := by decide +kernel
theorem dX0_pieceNumber_27 : decode cX0_pieceNumber 27 = .ok (.lload 5, 2) := by decide +kernel
theorem dX0_pieceNumber_29 : decode cX0_pieceNumber 29 = .ok (.invokestatic 41, 3) := by decide +kernel
theorem dX0_pieceNumber_32 : decode cX0_pieceNumber 32 = .ok (.lload_n 2, 1) := by decide +kernel
theorem dX0_pieceNumber_33 : decode cX0_pieceNumber 33 = .ok (.land, 1) := by decide +kernel
theorem dX0_pieceNumber_34 : decode cX0_pieceNumber 34 = .ok (.lconst 0, 1) := by decide +kernel
theorem dX0_pieceNumber_35 : decode cX0_pieceNumber 35 = .ok (.lcmp, 1) := by decide +kernel
theorem dX0_pieceNumber_36 : decode cX0_pieceNumber 36 = .ok (.ifCond .ne 26, 3) := by decide +kernel
theorem dX0_pieceNumber_39 : decode cX0_pieceNumber 39 = .ok (.iinc 4 1, 3) := by decide +kernel
theorem dX0_pieceNumber_42 : decode cX0_pieceNumber 42 = .ok (.lload 5, 2) := by decide +kernel
theorem dX0_pieceNumber_44 : decode cX0_pieceNumber 44 = .ok (.lload 5, 2) := by decide +kernel
theorem dX0_pieceNumber_46 : decode cX0_pieceNumber 46 = .ok (.invokestatic 41, 3) := by decide +kernel
theorem dX0_pieceNumber_49 : decode cX0_pieceNumber 49 = .ok (.ldc2_w 28, 3) := by decide +kernel
theorem dX0_pieceNumber_52 : decode cX0_pieceNumber 52 = .ok (.lxor, 1) := by decide +kernel
theorem dX0_pieceNumber_53 : decode cX0_pieceNumber 53 = .ok (.land, 1) := by decide +kernel
theorem dX0_pieceNumber_54 : decode cX0_pieceNumber 54 = .ok (.lstore 5, 2) := by decide +kernel
theorem dX0_pieceNumber_56 : decode cX0_pieceNumber 56 = .ok (.iinc 7 1, 3) := by decide +kernel
theorem dX0_pieceNumber_59 : decode cX0_pieceNumber 59 = .ok (.goto (-39), 3) := by decide +kernel
theorem dX0_pieceNumber_62 : decode cX0_pieceNumber 62 = .ok (.iload 4, 2) := by decide +kernel
theorem dX0_pieceNumber_64 : decode cX0_pieceNumber 64 = .ok (.ireturn, 1) := by decide +kernel
theorem dX0_hull_0 : decode cX0_hull 0 = .ok (.lload_n 0, 1) := by decide +kernel
theorem dX0_hull_1 : decode cX0_hull 1 = .ok (.lstore_n 2, 1) := by decide +kernel
theorem dX0_hull_2 : decode cX0_hull 2 = .ok (.iconst 0, 1) := by decide +kernel
theorem dX0_hull_3 : decode cX0_hull 3 = .ok (.istore 4, 2) := by decide +kernel
theorem dX0_hull_5 : decode cX0_hull 5 = .ok (.iload 4, 2) := by decide +kernel
theorem dX0_hull_7 : decode cX0_hull 7 = .ok (.bipush 48, 2) := by decide +kernel
theorem dX0_hull_9 : decode cX0_hull 9 = .ok (.if_icmp .ge 34, 3) := by decide +kernel
theorem dX0_hull_12 : decode cX0_hull 12 = .ok (.lload_n 2, 1) := by decide +kernel
theorem dX0_hull_13 : decode cX0_hull 13 = .ok (.iconst 1, 1) := by decide +kernel
theorem dX0_hull_14 : decode cX0_hull 14 = .ok (.invokestatic 45, 3) := by decide +kernel
theorem dX0_hull_17 : decode cX0_hull 17 = .ok (.bipush 8, 2) := by decide +kernel
theorem dX0_hull_19 : decode cX0_hull 19 = .ok (.invokestatic 45, 3) := by decide +kernel
theorem dX0_hull_22 : decode cX0_hull 22 = .ok (.lstore 5, 2) := by decide +kernel
theorem dX0_hull_24 : decode cX0_hull 24 = .ok (.lload 5, 2) := by decide +kernel
theorem dX0_hull_26 : decode cX0_hull 26 = .ok (.lload_n 2, 1) := by decide +kernel
theorem dX0_hull_27 : decode cX0_hull 27 = .ok (.lcmp, 1) := by decide +kernel
theorem dX0_hull_28 : decode cX0_hull 28 = .ok (.ifCond .ne 6, 3) := by decide +kernel
theorem dX0_hull_31 : decode cX0_hull 31 = .ok (.goto 12, 3) := by decide +kernel
theorem dX0_hull_34 : decode cX0_hull 34 = .ok (.lload 5, 2) := by decide +kernel
theorem dX0_hull_36 : decode cX0_hull 36 = .ok (.lstore_n 2, 1) := by decide +kernel
theorem dX0_hull_37 : decode cX0_hull 37 = .ok (.iinc 4 1, 3) := by decide +kernel
theorem dX0_hull_40 : decode cX0_hull 40 = .ok (.goto (-35), 3) := by decide +kernel
theorem dX0_hull_43 : decode cX0_hull 43 = .ok (.lload_n 2, 1) := by decide +kernel
theorem dX0_hull_44 : decode cX0_hull 44 = .ok (.lreturn, 1) := by decide +kernel
theorem dX0_between_0 : decode cX0_between 0 = .ok (.lload_n 0, 1) := by decide +kernel
theorem dX0_between_1 : decode cX0_between 1 = .ok (.lstore_n 3, 1) := by decide +kernel
theorem dX0_between_2 : decode cX0_between 2 = .ok (.lload_n 0, 1) := by decide +kernel
theorem dX0_between_3 : decode cX0_between 3 = .ok (.lstore 5, 2) := by decide +kernel
theorem dX0_between_5 : decode cX0_between 5 = .ok (.iconst 0, 1) := by decide +kernel
theorem dX0_between_6 : decode cX0_between 6 = .ok (.istore 7, 2) := by decide +kernel
theorem dX0_between_8 : decode cX0_between 8 = .ok (.iload 7, 2) := by decide +kernel
theorem dX0_between_10 : decode cX0_between 10 = .ok (.bipush 6, 2) := by decide +kernel
theorem dX0_between_12 : decode cX0_between 12 = .ok (.if_icmp .ge 30, 3) := by decide +kernel
theorem dX0_between_15 : decode cX0_between 15 = .ok (.lload_n 3, 1) := by decide +kernel
theorem dX0_between_16 : decode cX0_between 16 = .ok (.lload_n 3, 1) := by decide +kernel
theorem dX0_between_17 : decode cX0_between 17 = .ok (.iload_n 2, 1) := by decide +kernel
theorem dX0_between_18 : decode cX0_between 18 = .ok (.lshl, 1) := by decide +kernel
theorem dX0_between_19 : decode cX0_between 19 = .ok (.invokestatic 49, 3) := by decide +kernel
theorem dX0_between_22 : decode cX0_between 22 = .ok (.lor, 1) := by decide +kernel
theorem dX0_between_23 : decode cX0_between 23 = .ok (.lstore_n 3, 1) := by decide +kernel
theorem dX0_between_24 : decode cX0_between 24 = .ok (.lload 5, 2) := by decide +kernel
theorem dX0_between_26 : decode cX0_between 26 = .ok (.lload 5, 2) := by decide +kernel
theorem dX0_between_28 : decode cX0_between 28 = .ok (.iload_n 2, 1) := by decide +kernel
theorem dX0_between_29 : decode cX0_between 29 = .ok (.lushr, 1) := by decide +kernel
theorem dX0_between_30 : decode cX0_between 30 = .ok (.invokestatic 49, 3) := by decide +kernel
theorem dX0_between_33 : decode cX0_between 33 = .ok (.lor, 1) := by decide +kernel
theorem dX0_between_34 : decode cX0_between 34 = .ok (.lstore 5, 2) := by decide +kernel
theorem dX0_between_36 : decode cX0_between 36 = .ok (.iinc 7 1, 3) := by decide +kernel
theorem dX0_between_39 : decode cX0_between 39 = .ok (.goto (-31), 3) := by decide +kernel
theorem dX0_between_42 : decode cX0_between 42 = .ok (.lload_n 3, 1) := by decide +kernel
theorem dX0_between_43 : decode cX0_between 43 = .ok (.lload 5, 2) := by decide +kernel
theorem dX0_between_45 : decode cX0_between 45 = .ok (.land, 1) := by decide +kernel
theorem dX0_between_46 : decode cX0_between 46 = .ok (.lreturn, 1) := by decide +kernel
theorem dX0_withinLines_0 : decode cX0_withinLines 0 = .ok (.lload_n 0, 1) := by decide +kernel
theorem dX0_withinLines_1 : decode cX0_withinLines 1 = .ok (.ldc2_w 52, 3) := by decide +kernel
theorem dX0_withinLines_4 : decode cX0_withinLines 4 = .ok (.land, 1) := by decide +kernel
theorem dX0_withinLines_5 : decode cX0_withinLines 5 = .ok (.lreturn, 1) := by decide +kernel
theorem dX0_corners_0 : decode cX0_corners 0 = .ok (.iload_n 0, 1) := by decide +kernel
theorem dX0_corners_1 : decode cX0_corners 1 = .ok (.iload_n 2, 1) := by decide +kernel
theorem dX0_corners_2 : decode cX0_corners 2 = .ok (.invokestatic 54, 3) := by decide +kernel
theorem dX0_corners_5 : decode cX0_corners 5 = .ok (.iload_n 0, 1) := by decide +kernel
theorem dX0_corners_6 : decode cX0_corners 6 = .ok (.iload_n 3, 1) := by decide +kernel
theorem dX0_corners_7 : decode cX0_corners 7 = .ok (.invokestatic 54, 3) := by decide +kernel
theorem dX0_corners_10 : decode cX0_corners 10 = .ok (.lor, 1) := by decide +kernel
theorem dX0_corners_11 : decode cX0_corners 11 = .ok (.iload_n 1, 1) := by decide +kernel
theorem dX0_corners_12 : decode cX0_corners 12 = .ok (.iload_n 2, 1) := by decide +kernel
theorem dX0_corners_13 : decode cX0_corners 13 = .ok (.invokestatic 54, 3) := by decide +kernel
theorem dX0_corners_16 : decode cX0_corners 16 = .ok (.lor, 1) := by decide +kernel
theorem dX0_corners_17 : decode cX0_corners 17 = .ok (.iload_n 1, 1) := by decide +kernel
theorem dX0_corners_18 : decode cX0_corners 18 = .ok (.iload_n 3, 1) := by decide +kernel
theorem dX0_corners_19 : decode cX0_corners 19 = .ok (.invokestatic 54, 3) := by decide +kernel
theorem dX0_corners_22 : decode cX0_corners 22 = .ok (.lor, 1) := by decide +kernel
theorem dX0_corners_23 : decode cX0_corners 23 = .ok (.lreturn, 1) := by decide +kernel
theorem dX0_cornersOf_0 : decode cX0_cornersOf 0 = .ok (.iload_n 0, 1) := by decide +kernel
theorem dX0_cornersOf_1 : decode cX0_cornersOf 1 = .ok (.ifCond .ge 5, 3) := by decide +kernel
theorem dX0_cornersOf_4 : decode cX0_cornersOf 4 = .ok (.lconst 0, 1) := by decide +kernel
theorem dX0_cornersOf_5 : decode cX0_cornersOf 5 = .ok (.lreturn, 1) := by decide +kernel
theorem dX0_cornersOf_6 : decode cX0_cornersOf 6 = .ok (.iload_n 0, 1) := by decide +kernel
theorem dX0_cornersOf_7 : decode cX0_cornersOf 7 = .ok (.sipush 1000, 3) := by decide +kernel
theorem dX0_cornersOf_10 : decode cX0_cornersOf 10 = .ok (.idiv, 1) := by decide +kernel
theorem dX0_cornersOf_11 : decode cX0_cornersOf 11 = .ok (.iload_n 0, 1) := by decide +kernel
theorem dX0_cornersOf_12 : decode cX0_cornersOf 12 = .ok (.bipush 100, 2) := by decide +kernel
theorem dX0_cornersOf_14 : decode cX0_cornersOf 14 = .ok (.idiv, 1) := by decide +kernel
theorem dX0_cornersOf_15 : decode cX0_cornersOf 15 = .ok (.bipush 10, 2) := by decide +kernel
theorem dX0_cornersOf_17 : decode cX0_cornersOf 17 = .ok (.irem, 1) := by decide +kernel
theorem dX0_cornersOf_18 : decode cX0_cornersOf 18 = .ok (.iload_n 0, 1) := by decide +kernel
theorem dX0_cornersOf_19 : decode cX0_cornersOf 19 = .ok (.bipush 10, 2) := by decide +kernel
theorem dX0_cornersOf_21 : decode cX0_cornersOf 21 = .ok (.idiv, 1) := by decide +kernel
theorem dX0_cornersOf_22 : decode cX0_cornersOf 22 = .ok (.bipush 10, 2) := by decide +kernel
theorem dX0_cornersOf_24 : decode cX0_cornersOf 24 = .ok (.irem, 1) := by decide +kernel
theorem dX0_cornersOf_25 : decode cX0_cornersOf 25 = .ok (.iload_n 0, 1) := by decide +kernel
theorem dX0_cornersOf_26 : decode cX0_cornersOf 26 = .ok (.bipush 10, 2) := by decide +kernel
theorem dX0_cornersOf_28 : decode cX0_cornersOf 28 = .ok (.irem, 1) := by decide +kernel
theorem dX0_cornersOf_29 : decode cX0_cornersOf 29 = .ok (.invokestatic 58, 3) := by decide +kernel
theorem dX0_cornersOf_32 : decode cX0_cornersOf 32 = .ok (.lreturn, 1) := by decide +kernel
theorem dX1_digit_0 : decode cX1_digit 0 = .ok (.lload_n 0, 1) := by decide +kernel
theorem dX1_digit_1 : decode cX1_digit 1 = .ok (.iconst 4, 1) := by decide +kernel
theorem dX1_digit_2 : decode cX1_digit 2 = .ok (.iload_n 2, 1) := by decide +kernel
theorem dX1_digit_3 : decode cX1_digit 3 = .ok (.imul, 1) := by decide +kernel
theorem dX1_digit_4 : decode cX1_digit 4 = .ok (.lushr, 1) := by decide +kernel
theorem dX1_digit_5 : decode cX1_digit 5 = .ok (.l2i, 1) := by decide +kernel
theorem dX1_digit_6 : decode cX1_digit 6 = .ok (.bipush 15, 2) := by decide +kernel
theorem dX1_digit_8 : decode cX1_digit 8 = .ok (.iand, 1) := by decide +kernel
theorem dX1_digit_9 : decode cX1_digit 9 = .ok (.ireturn, 1) := by decide +kernel
theorem dX1_changed_0 : decode cX1_changed 0 = .ok (.lload_n 0, 1) := by decide +kernel
theorem dX1_changed_1 : decode cX1_changed 1 = .ok (.ldc2_w 9, 3) := by decide +kernel
theorem dX1_changed_4 : decode cX1_changed 4 = .ok (.iconst 4, 1) := by decide +kernel
theorem dX1_changed_5 : decode cX1_changed 5 = .ok (.iload_n 2, 1) := by decide +kernel
theorem dX1_changed_6 : decode cX1_changed 6 = .ok (.imul, 1) := by decide +kernel
theorem dX1_changed_7 : decode cX1_changed 7 = .ok (.lshl, 1) := by decide +kernel
theorem dX1_changed_8 : decode cX1_changed 8 = .ok (.ldc2_w 11, 3) := by decide +kernel
theorem dX1_changed_11 : decode cX1_changed 11 = .ok (.lxor, 1) := by decide +kernel
theorem dX1_changed_12 : decode cX1_changed 12 = .ok (.land, 1) := by decide +kernel
theorem dX1_changed_13 : decode cX1_changed 13 = .ok (.iload_n 3, 1) := by decide +kernel
theorem dX1_changed_14 : decode cX1_changed 14 = .ok (.i2l, 1) := by decide +kernel
theorem dX1_changed_15 : decode cX1_changed 15 = .ok (.iconst 4, 1) := by decide +kernel
theorem dX1_changed_16 : decode cX1_changed 16 = .ok (.iload_n 2, 1) := by decide +kernel
theorem dX1_changed_17 : decode cX1_changed 17 = .ok (.imul, 1) := by decide +kernel
theorem dX1_changed_18 : decode cX1_changed 18 = .ok (.lshl, 1) := by decide +kernel
theorem dX1_changed_19 : decode cX1_changed 19 = .ok (.lor, 1) := by decide +kernel
theorem dX1_changed_20 : decode cX1_changed 20 = .ok (.lreturn, 1) := by decide +kernel
theorem dX1_total_0 : decode cX1_total 0 = .ok (.iconst 0, 1) := by decide +kernel
theorem dX1_total_1 : decode cX1_total 1 = .ok (.istore_n 2, 1) := by decide +kernel
theorem dX1_total_2 : decode cX1_total 2 = .ok (.iconst 0, 1) := by decide +kernel
theorem dX1_total_3 : decode cX1_total 3 = .ok (.istore_n 3, 1) := by decide +kernel
theorem dX1_total_4 : decode cX1_total 4 = .ok (.iload_n 3, 1) := by decide +kernel
theorem dX1_total_5 : decode cX1_total 5 = .ok (.bipush 6, 2) := by decide +kernel
theorem dX1_total_7 : decode cX1_total 7 = .ok (.if_icmp .ge 17, 3) := by decide +kernel
theorem dX1_total_10 : decode cX1_total 10 = .ok (.iload_n 2, 1) := by decide +kernel
theorem dX1_total_11 : decode cX1_total 11 = .ok (.lload_n 0, 1) := by decide +kernel
theorem dX1_total_12 : decode cX1_total 12 = .ok (.iload_n 3, 1) := by decide +kernel
theorem dX1_total_13 : decode cX1_total 13 = .ok (.invokestatic 13, 3) := by decide +kernel
theorem dX1_total_16 : decode cX1_total 16 = .ok (.iadd, 1) := by decide +kernel
theorem dX1_total_17 : decode cX1_total 17 = .ok (.istore_n 2, 1) := by decide +kernel
theorem dX1_total_18 : decode cX1_total 18 = .ok (.iinc 3 1, 3) := by decide +kernel
theorem dX1_total_21 : decode cX1_total 21 = .ok (.goto (-17), 3) := by decide +kernel
theorem dX1_total_24 : decode cX1_total 24 = .ok (.iload_n 2, 1) := by decide +kernel
theorem dX1_total_25 : decode cX1_total 25 = .ok (.ireturn, 1) := by decide +kernel
theorem dX2_init_0 : decode cX2_init 0 = .ok (.aload_n 0, 1) := by decide +kernel
theorem dX2_init_1 : decode cX2_init 1 = .ok (.invokespecial 3, 3) := by decide +kernel
theorem dX2_init_4 : decode cX2_init 4 = .ok (.aload_n 0, 1) := by decide +kernel
theorem dX2_init_5 : decode cX2_init 5 = .ok (.bipush 6, 2) := by decide +kernel
theorem dX2_init_7 : decode cX2_init 7 = .ok (.newarray .long, 2) := by decide +kernel
theorem dX2_init_9 : decode cX2_init 9 = .ok (.putfield 9, 3) := by decide +kernel
theorem dX2_init_12 : decode cX2_init 12 = .ok (.aload_n 0, 1) := by decide +kernel
theorem dX2_init_13 : decode cX2_init 13 = .ok (.lconst 0, 1) := by decide +kernel
theorem dX2_init_14 : decode cX2_init 14 = .ok (.putfield 15, 3) := by decide +kernel
theorem dX2_init_17 : decode cX2_init 17 = .ok (.aload_n 0, 1) := by decide +kernel
theorem dX2_init_18 : decode cX2_init 18 = .ok (.lconst 0, 1) := by decide +kernel
theorem dX2_init_19 : decode cX2_init 19 = .ok (.putfield 19, 3) := by decide +kernel
theorem dX2_init_22 : decode cX2_init 22 = .ok (.return_, 1) := by decide +kernel
theorem dX2_found_0 : decode cX2_found 0 = .ok (.aload_n 0, 1) := by decide +kernel
theorem dX2_found_1 : decode cX2_found 1 = .ok (.getfield 15, 3) := by decide +kernel
theorem dX2_found_4 : decode cX2_found 4 = .ok (.lreturn, 1) := by decide +kernel
theorem dX2_findOutermost_0 : decode cX2_findOutermost 0 = .ok (.aload_n 0, 1) := by decide +kernel
theorem dX2_findOutermost_1 : decode cX2_findOutermost 1 = .ok (.aload_n 1, 1) := by decide +kernel
theorem dX2_findOutermost_2 : decode cX2_findOutermost 2 = .ok (.aload_n 1, 1) := by decide +kernel
theorem dX2_findOutermost_3 : decode cX2_findOutermost 3 = .ok (.getfield 22, 3) := by decide +kernel
theorem dX2_findOutermost_6 : decode cX2_findOutermost 6 = .ok (.aload_n 1, 1) := by decide +kernel
theorem dX2_findOutermost_7 : decode cX2_findOutermost 7 = .ok (.getfield 27, 3) := by decide +kernel
theorem dX2_findOutermost_10 : decode cX2_findOutermost 10 = .ok (.invokevirtual 30, 3) := by decide +kernel
theorem dX2_findOutermost_13 : decode cX2_findOutermost 13 = .ok (.ifCond .ne 5, 3) := by decide +kernel
theorem dX2_findOutermost_16 : decode cX2_findOutermost 16 = .ok (.iconst 0, 1) := by decide +kernel
theorem dX2_findOutermost_17 : decode cX2_findOutermost 17 = .ok (.ireturn, 1) := by decide +kernel
theorem dX2_findOutermost_18 : decode cX2_findOutermost 18 = .ok (.aload_n 0, 1) := by decide +kernel
theorem dX2_findOutermost_19 : decode cX2_findOutermost 19 = .ok (.iload_n 2, 1) := by decide +kernel
theorem dX2_findOutermost_20 : decode cX2_findOutermost 20 = .ok (.invokevirtual 34, 3) := by decide +kernel
theorem dX2_findOutermost_23 : decode cX2_findOutermost 23 = .ok (.iconst 1, 1) := by decide +kernel
theorem dX2_findOutermost_24 : decode cX2_findOutermost 24 = .ok (.ireturn, 1) := by decide +kernel
theorem dX2_findBehind_0 : decode cX2_findBehind 0 = .ok (.aload_n 1, 1) := by decide +kernel
theorem dX2_findBehind_1 : decode cX2_findBehind 1 = .ok (.invokevirtual 38, 3) := by decide +kernel
theorem dX2_findBehind_4 : decode cX2_findBehind 4 = .ok (.aload_n 1, 1) := by decide +kernel
theorem dX2_findBehind_5 : decode cX2_findBehind 5 = .ok (.getfield 22, 3) := by decide +kernel
theorem dX2_findBehind_8 : decode cX2_findBehind 8 = .ok (.ldc2_w 42, 3) := by decide +kernel
theorem dX2_findBehind_11 : decode cX2_findBehind 11 = .ok (.lxor, 1) := by decide +kernel
theorem dX2_findBehind_12 : decode cX2_findBehind 12 = .ok (.land, 1) := by decide +kernel
theorem dX2_findBehind_13 : decode cX2_findBehind 13 = .ok (.aload_n 1, 1) := by decide +kernel
theorem dX2_findBehind_14 : decode cX2_findBehind 14 = .ok (.getfield 27, 3) := by decide +kernel
theorem dX2_findBehind_17 : decode cX2_findBehind 17 = .ok (.ldc2_w 42, 3) := by decide +kernel
theorem dX2_findBehind_20 : decode cX2_findBehind 20 = .ok (.lxor, 1) := by decide +kernel
theorem dX2_findBehind_21 : decode cX2_findBehind 21 = .ok (.land, 1) := by decide +kernel
theorem dX2_findBehind_22 : decode cX2_findBehind 22 = .ok (.lstore_n 2, 1) := by decide +kernel
theorem dX2_findBehind_23 : decode cX2_findBehind 23 = .ok (.bipush 47, 2) := by decide +kernel
theorem dX2_findBehind_25 : decode cX2_findBehind 25 = .ok (.istore 4, 2) := by decide +kernel
theorem dX2_findBehind_27 : decode cX2_findBehind 27 = .ok (.iload 4, 2) := by decide +kernel
theorem dX2_findBehind_29 : decode cX2_findBehind 29 = .ok (.ifCond .lt 58, 3) := by decide +kernel
theorem dX2_findBehind_32 : decode cX2_findBehind 32 = .ok (.lconst 1, 1) := by decide +kernel
theorem dX2_findBehind_33 : decode cX2_findBehind 33 = .ok (.iload 4, 2) := by decide +kernel
theorem dX2_findBehind_35 : decode cX2_findBehind 35 = .ok (.lshl, 1) := by decide +kernel
theorem dX2_findBehind_36 : decode cX2_findBehind 36 = .ok (.lstore 5, 2) := by decide +kernel
theorem dX2_findBehind_38 : decode cX2_findBehind 38 = .ok (.lload_n 2, 1) := by decide +kernel
theorem dX2_findBehind_39 : decode cX2_findBehind 39 = .ok (.lload 5, 2) := by decide +kernel
theorem dX2_findBehind_41 : decode cX2_findBehind 41 = .ok (.land, 1) := by decide +kernel
theorem dX2_findBehind_42 : decode cX2_findBehind 42 = .ok (.lconst 0, 1) := by decide +kernel
theorem dX2_findBehind_43 : decode cX2_findBehind 43 = .ok (.lcmp, 1) := by decide +kernel
theorem dX2_findBehind_44 : decode cX2_findBehind 44 = .ok (.ifCond .eq 37, 3) := by decide +kernel
theorem dX2_findBehind_47 : decode cX2_findBehind 47 = .ok (.aload_n 0, 1) := by decide +kernel
theorem dX2_findBehind_48 : decode cX2_findBehind 48 = .ok (.aload_n 1, 1) := by decide +kernel
theorem dX2_findBehind_49 : decode cX2_findBehind 49 = .ok (.aload_n 1, 1) := by decide +kernel
theorem dX2_findBehind_50 : decode cX2_findBehind 50 = .ok (.getfield 22, 3) := by decide +kernel
theorem dX2_findBehind_53 : decode cX2_findBehind 53 = .ok (.lload 5, 2) := by decide +kernel
theorem dX2_findBehind_55 : decode cX2_findBehind 55 = .ok (.lor, 1) := by decide +kernel
theorem dX2_findBehind_56 : decode cX2_findBehind 56 = .ok (.lload 5, 2) := by decide +kernel
theorem dX2_findBehind_58 : decode cX2_findBehind 58 = .ok (.lconst 1, 1) := by decide +kernel
theorem dX2_findBehind_59 : decode cX2_findBehind 59 = .ok (.lsub, 1) := by decide +kernel
theorem dX2_findBehind_60 : decode cX2_findBehind 60 = .ok (.lor, 1) := by decide +kernel
theorem dX2_findBehind_61 : decode cX2_findBehind 61 = .ok (.aload_n 1, 1) := by decide +kernel
theorem dX2_findBehind_62 : decode cX2_findBehind 62 = .ok (.getfield 27, 3) := by decide +kernel
theorem dX2_findBehind_65 : decode cX2_findBehind 65 = .ok (.lload 5, 2) := by decide +kernel
theorem dX2_findBehind_67 : decode cX2_findBehind 67 = .ok (.lor, 1) := by decide +kernel
theorem dX2_findBehind_68 : decode cX2_findBehind 68 = .ok (.invokevirtual 30, 3) := by decide +kernel
theorem dX2_findBehind_71 : decode cX2_findBehind 71 = .ok (.ifCond .eq 10, 3) := by decide +kernel
theorem dX2_findBehind_74 : decode cX2_findBehind 74 = .ok (.aload_n 0, 1) := by decide +kernel
theorem dX2_findBehind_75 : decode cX2_findBehind 75 = .ok (.iconst 0, 1) := by decide +kernel
theorem dX2_findBehind_76 : decode cX2_findBehind 76 = .ok (.invokevirtual 34, 3) := by decide +kernel
theorem dX2_findBehind_79 : decode cX2_findBehind 79 = .ok (.iconst 1, 1) := by decide +kernel
theorem dX2_findBehind_80 : decode cX2_findBehind 80 = .ok (.ireturn, 1) := by decide +kernel
theorem dX2_findBehind_81 : decode cX2_findBehind 81 = .ok (.iinc 4 (-1), 3) := by decide +kernel
theorem dX2_findBehind_84 : decode cX2_findBehind 84 = .ok (.goto (-57), 3) := by decide +kernel
theorem dX2_findBehind_87 : decode cX2_findBehind 87 = .ok (.iconst 0, 1) := by decide +kernel
theorem dX2_findBehind_88 : decode cX2_findBehind 88 = .ok (.ireturn, 1) := by decide +kernel
theorem dX2_advance_0 : decode cX2_advance 0 = .ok (.aload_n 1, 1) := by decide +kernel
theorem dX2_advance_1 : decode cX2_advance 1 = .ok (.invokevirtual 38, 3) := by decide +kernel
theorem dX2_advance_4 : decode cX2_advance 4 = .ok (.aload_n 1, 1) := by decide +kernel
theorem dX2_advance_5 : decode cX2_advance 5 = .ok (.getfield 22, 3) := by decide +kernel
theorem dX2_advance_8 : decode cX2_advance 8 = .ok (.ldc2_w 42, 3) := by decide +kernel
theorem dX2_advance_11 : decode cX2_advance 11 = .ok (.lxor, 1) := by decide +kernel
theorem dX2_advance_12 : decode cX2_advance 12 = .ok (.land, 1) := by decide +kernel
theorem dX2_advance_13 : decode cX2_advance 13 = .ok (.lstore_n 2, 1) := by decide +kernel
theorem dX2_advance_14 : decode cX2_advance 14 = .ok (.aload_n 0, 1) := by decide +kernel
theorem dX2_advance_15 : decode cX2_advance 15 = .ok (.lconst 0, 1) := by decide +kernel
theorem dX2_advance_16 : decode cX2_advance 16 = .ok (.putfield 19, 3) := by decide +kernel
theorem dX2_advance_19 : decode cX2_advance 19 = .ok (.bipush 47, 2) := by decide +kernel
theorem dX2_advance_21 : decode cX2_advance 21 = .ok (.istore 4, 2) := by decide +kernel
theorem dX2_advance_23 : decode cX2_advance 23 = .ok (.iload 4, 2) := by decide +kernel
theorem dX2_advance_25 : decode cX2_advance 25 = .ok (.ifCond .lt 63, 3) := by decide +kernel
theorem dX2_advance_28 : decode cX2_advance 28 = .ok (.lconst 1, 1) := by decide +kernel
theorem dX2_advance_29 : decode cX2_advance 29 = .ok (.iload 4, 2) := by decide +kernel
theorem dX2_advance_31 : decode cX2_advance 31 = .ok (.lshl, 1) := by decide +kernel
theorem dX2_advance_32 : decode cX2_advance 32 = .ok (.lstore 5, 2) := by decide +kernel
theorem dX2_advance_34 : decode cX2_advance 34 = .ok (.lload_n 2, 1) := by decide +kernel
theorem dX2_advance_35 : decode cX2_advance 35 = .ok (.lload 5, 2) := by decide +kernel
theorem dX2_advance_37 : decode cX2_advance 37 = .ok (.land, 1) := by decide +kernel
theorem dX2_advance_38 : decode cX2_advance 38 = .ok (.lconst 0, 1) := by decide +kernel
theorem dX2_advance_39 : decode cX2_advance 39 = .ok (.lcmp, 1) := by decide +kernel
theorem dX2_advance_40 : decode cX2_advance 40 = .ok (.ifCond .eq 42, 3) := by decide +kernel
theorem dX2_advance_43 : decode cX2_advance 43 = .ok (.aload_n 0, 1) := by decide +kernel
theorem dX2_advance_44 : decode cX2_advance 44 = .ok (.getfield 15, 3) := by decide +kernel
theorem dX2_advance_47 : decode cX2_advance 47 = .ok (.lload 5, 2) := by decide +kernel
theorem dX2_advance_49 : decode cX2_advance 49 = .ok (.land, 1) := by decide +kernel
theorem dX2_advance_50 : decode cX2_advance 50 = .ok (.lconst 0, 1) := by decide +kernel
theorem dX2_advance_51 : decode cX2_advance 51 = .ok (.lcmp, 1) := by decide +kernel
theorem dX2_advance_52 : decode cX2_advance 52 = .ok (.ifCond .ne 19, 3) := by decide +kernel
theorem dX2_advance_55 : decode cX2_advance 55 = .ok (.aload_n 0, 1) := by decide +kernel
theorem dX2_advance_56 : decode cX2_advance 56 = .ok (.iload 4, 2) := by decide +kernel
theorem dX2_advance_58 : decode cX2_advance 58 = .ok (.invokevirtual 46, 3) := by decide +kernel
theorem dX2_advance_61 : decode cX2_advance 61 = .ok (.ifCond .eq 10, 3) := by decide +kernel
theorem dX2_advance_64 : decode cX2_advance 64 = .ok (.aload_n 0, 1) := by decide +kernel
theorem dX2_advance_65 : decode cX2_advance 65 = .ok (.iconst 0, 1) := by decide +kernel
theorem dX2_advance_66 : decode cX2_advance 66 = .ok (.invokevirtual 34, 3) := by decide +kernel
theorem dX2_advance_69 : decode cX2_advance 69 = .ok (.iconst 1, 1) := by decide +kernel
theorem dX2_advance_70 : decode cX2_advance 70 = .ok (.ireturn, 1) := by decide +kernel
theorem dX2_advance_71 : decode cX2_advance 71 = .ok (.aload_n 0, 1) := by decide +kernel
theorem dX2_advance_72 : decode cX2_advance 72 = .ok (.dup, 1) := by decide +kernel
theorem dX2_advance_73 : decode cX2_advance 73 = .ok (.getfield 19, 3) := by decide +kernel
theorem dX2_advance_76 : decode cX2_advance 76 = .ok (.lload 5, 2) := by decide +kernel
theorem dX2_advance_78 : decode cX2_advance 78 = .ok (.lor, 1) := by decide +kernel
theorem dX2_advance_79 : decode cX2_advance 79 = .ok (.putfield 19, 3) := by decide +kernel
theorem dX2_advance_82 : decode cX2_advance 82 = .ok (.iinc 4 (-1), 3) := by decide +kernel
theorem dX2_advance_85 : decode cX2_advance 85 = .ok (.goto (-62), 3) := by decide +kernel
theorem dX2_advance_88 : decode cX2_advance 88 = .ok (.iconst 0, 1) := by decide +kernel
theorem dX2_advance_89 : decode cX2_advance 89 = .ok (.ireturn, 1) := by decide +kernel
theorem dX2_sureCells_0 : decode cX2_sureCells 0 = .ok (.aload_n 0, 1) := by decide +kernel
theorem dX2_sureCells_1 : decode cX2_sureCells 1 = .ok (.aload_n 1, 1) := by decide +kernel
theorem dX2_sureCells_2 : decode cX2_sureCells 2 = .ok (.aload_n 1, 1) := by decide +kernel
theorem dX2_sureCells_3 : decode cX2_sureCells 3 = .ok (.getfield 22, 3) := by decide +kernel
theorem dX2_sureCells_6 : decode cX2_sureCells 6 = .ok (.aload_n 1, 1) := by decide +kernel
theorem dX2_sureCells_7 : decode cX2_sureCells 7 = .ok (.getfield 27, 3) := by decide +kernel
theorem dX2_sureCells_10 : decode cX2_sureCells 10 = .ok (.invokevirtual 30, 3) := by decide +kernel
theorem dX2_sureCells_13 : decode cX2_sureCells 13 = .ok (.ifCond .ne 5, 3) := by decide +kernel
theorem dX2_sureCells_16 : decode cX2_sureCells 16 = .ok (.lconst 0, 1) := by decide +kernel
theorem dX2_sureCells_17 : decode cX2_sureCells 17 = .ok (.lreturn, 1) := by decide +kernel
theorem dX2_sureCells_18 : decode cX2_sureCells 18 = .ok (.aload_n 1, 1) := by decide +kernel
theorem dX2_sureCells_19 : decode cX2_sureCells 19 = .ok (.invokevirtual 38, 3) := by decide +kernel
theorem dX2_sureCells_22 : decode cX2_sureCells 22 = .ok (.lstore_n 2, 1) := by decide +kernel
theorem dX2_sureCells_23 : decode cX2_sureCells 23 = .ok (.iconst 0, 1) := by decide +kernel
theorem dX2_sureCells_24 : decode cX2_sureCells 24 = .ok (.istore 4, 2) := by decide +kernel
theorem dX2_sureCells_26 : decode cX2_sureCells 26 = .ok (.iload 4, 2) := by decide +kernel
theorem dX2_sureCells_28 : decode cX2_sureCells 28 = .ok (.bipush 48, 2) := by decide +kernel
theorem dX2_sureCells_30 : decode cX2_sureCells 30 = .ok (.if_icmp .ge 45, 3) := by decide +kernel
theorem dX2_sureCells_33 : decode cX2_sureCells 33 = .ok (.lconst 1, 1) := by decide +kernel
theorem dX2_sureCells_34 : decode cX2_sureCells 34 = .ok (.iload 4, 2) := by decide +kernel
theorem dX2_sureCells_36 : decode cX2_sureCells 36 = .ok (.lshl, 1) := by decide +kernel
theorem dX2_sureCells_37 : decode cX2_sureCells 37 = .ok (.lstore 5, 2) := by decide +kernel
theorem dX2_sureCells_39 : decode cX2_sureCells 39 = .ok (.aload_n 0, 1) := by decide +kernel
theorem dX2_sureCells_40 : decode cX2_sureCells 40 = .ok (.getfield 19, 3) := by decide +kernel
theorem dX2_sureCells_43 : decode cX2_sureCells 43 = .ok (.lload 5, 2) := by decide +kernel
theorem dX2_sureCells_45 : decode cX2_sureCells 45 = .ok (.land, 1) := by decide +kernel
theorem dX2_sureCells_46 : decode cX2_sureCells 46 = .ok (.lconst 0, 1) := by decide +kernel
theorem dX2_sureCells_47 : decode cX2_sureCells 47 = .ok (.lcmp, 1) := by decide +kernel
theorem dX2_sureCells_48 : decode cX2_sureCells 48 = .ok (.ifCond .eq 21, 3) := by decide +kernel
theorem dX2_sureCells_51 : decode cX2_sureCells 51 = .ok (.aload_n 0, 1) := by decide +kernel
theorem dX2_sureCells_52 : decode cX2_sureCells 52 = .ok (.iload 4, 2) := by decide +kernel
theorem dX2_sureCells_54 : decode cX2_sureCells 54 = .ok (.invokevirtual 46, 3) := by decide +kernel
theorem dX2_sureCells_57 : decode cX2_sureCells 57 = .ok (.ifCond .eq 12, 3) := by decide +kernel
theorem dX2_sureCells_60 : decode cX2_sureCells 60 = .ok (.lload_n 2, 1) := by decide +kernel
theorem dX2_sureCells_61 : decode cX2_sureCells 61 = .ok (.lload 5, 2) := by decide +kernel
theorem dX2_sureCells_63 : decode cX2_sureCells 63 = .ok (.ldc2_w 42, 3) := by decide +kernel
theorem dX2_sureCells_66 : decode cX2_sureCells 66 = .ok (.lxor, 1) := by decide +kernel
theorem dX2_sureCells_67 : decode cX2_sureCells 67 = .ok (.land, 1) := by decide +kernel
theorem dX2_sureCells_68 : decode cX2_sureCells 68 = .ok (.lstore_n 2, 1) := by decide +kernel
theorem dX2_sureCells_69 : decode cX2_sureCells 69 = .ok (.iinc 4 1, 3) := by decide +kernel
theorem dX2_sureCells_72 : decode cX2_sureCells 72 = .ok (.goto (-46), 3) := by decide +kernel
theorem dX2_sureCells_75 : decode cX2_sureCells 75 = .ok (.lload_n 2, 1) := by decide +kernel
theorem dX2_sureCells_76 : decode cX2_sureCells 76 = .ok (.lreturn, 1) := by decide +kernel
theorem dX2_build_0 : decode cX2_build 0 = .ok (.aload_n 0, 1) := by decide +kernel
theorem dX2_build_1 : decode cX2_build 1 = .ok (.lload 4, 2) := by decide +kernel
theorem dX2_build_3 : decode cX2_build 3 = .ok (.lload_n 2, 1) := by decide +kernel
theorem dX2_build_4 : decode cX2_build 4 = .ok (.land, 1) := by decide +kernel
theorem dX2_build_5 : decode cX2_build 5 = .ok (.putfield 15, 3) := by decide +kernel
theorem dX2_build_8 : decode cX2_build 8 = .ok (.aload_n 0, 1) := by decide +kernel
theorem dX2_build_9 : decode cX2_build 9 = .ok (.aload_n 1, 1) := by decide +kernel
theorem dX2_build_10 : decode cX2_build 10 = .ok (.invokevirtual 38, 3) := by decide +kernel
theorem dX2_build_13 : decode cX2_build 13 = .ok (.lload_n 2, 1) := by decide +kernel
theorem dX2_build_14 : decode cX2_build 14 = .ok (.ldc2_w 42, 3) := by decide +kernel
theorem dX2_build_17 : decode cX2_build 17 = .ok (.lxor, 1) := by decide +kernel
theorem dX2_build_18 : decode cX2_build 18 = .ok (.land, 1) := by decide +kernel
theorem dX2_build_19 : decode cX2_build 19 = .ok (.putfield 19, 3) := by decide +kernel
theorem dX2_build_22 : decode cX2_build 22 = .ok (.aload_n 1, 1) := by decide +kernel
theorem dX2_build_23 : decode cX2_build 23 = .ok (.invokevirtual 50, 3) := by decide +kernel
theorem dX2_build_26 : decode cX2_build 26 = .ok (.aload_n 1, 1) := by decide +kernel
theorem dX2_build_27 : decode cX2_build 27 = .ok (.invokevirtual 54, 3) := by decide +kernel
theorem dX2_build_30 : decode cX2_build 30 = .ok (.if_icmp .ne 11, 3) := by decide +kernel
theorem dX2_build_33 : decode cX2_build 33 = .ok (.aload_n 0, 1) := by decide +kernel
theorem dX2_build_34 : decode cX2_build 34 = .ok (.aload_n 1, 1) := by decide +kernel
theorem dX2_build_35 : decode cX2_build 35 = .ok (.invokevirtual 57, 3) := by decide +kernel
theorem dX2_build_38 : decode cX2_build 38 = .ok (.ifCond .eq 5, 3) := by decide +kernel
theorem dX2_build_41 : decode cX2_build 41 = .ok (.iconst 0, 1) := by decide +kernel
theorem dX2_build_42 : decode cX2_build 42 = .ok (.ireturn, 1) := by decide +kernel
theorem dX2_build_43 : decode cX2_build 43 = .ok (.iconst 0, 1) := by decide +kernel
theorem dX2_build_44 : decode cX2_build 44 = .ok (.istore 6, 2) := by decide +kernel
theorem dX2_build_46 : decode cX2_build 46 = .ok (.iload 6, 2) := by decide +kernel
theorem dX2_build_48 : decode cX2_build 48 = .ok (.aload_n 1, 1) := by decide +kernel
theorem dX2_build_49 : decode cX2_build 49 = .ok (.getfield 61, 3) := by decide +kernel
theorem dX2_build_52 : decode cX2_build 52 = .ok (.if_icmp .ge 85, 3) := by decide +kernel
theorem dX2_build_55 : decode cX2_build 55 = .ok (.aload_n 1, 1) := by decide +kernel
theorem dX2_build_56 : decode cX2_build 56 = .ok (.iload 6, 2) := by decide +kernel
theorem dX2_build_58 : decode cX2_build 58 = .ok (.invokevirtual 65, 3) := by decide +kernel
theorem dX2_build_61 : decode cX2_build 61 = .ok (.aload_n 0, 1) := by decide +kernel
theorem dX2_build_62 : decode cX2_build 62 = .ok (.getfield 15, 3) := by decide +kernel
theorem dX2_build_65 : decode cX2_build 65 = .ok (.iload 6, 2) := by decide +kernel
theorem dX2_build_67 : decode cX2_build 67 = .ok (.invokestatic 69, 3) := by decide +kernel
theorem dX2_build_70 : decode cX2_build 70 = .ok (.land, 1) := by decide +kernel
theorem dX2_build_71 : decode cX2_build 71 = .ok (.invokestatic 73, 3) := by decide +kernel
theorem dX2_build_74 : decode cX2_build 74 = .ok (.isub, 1) := by decide +kernel
theorem dX2_build_75 : decode cX2_build 75 = .ok (.istore 7, 2) := by decide +kernel
theorem dX2_build_77 : decode cX2_build 77 = .ok (.iconst 0, 1) := by decide +kernel
theorem dX2_build_78 : decode cX2_build 78 = .ok (.istore 8, 2) := by decide +kernel
theorem dX2_build_80 : decode cX2_build 80 = .ok (.iload 8, 2) := by decide +kernel
theorem dX2_build_82 : decode cX2_build 82 = .ok (.iload 7, 2) := by decide +kernel
theorem dX2_build_84 : decode cX2_build 84 = .ok (.if_icmp .ge 47, 3) := by decide +kernel
theorem dX2_build_87 : decode cX2_build 87 = .ok (.aload_n 0, 1) := by decide +kernel
theorem dX2_build_88 : decode cX2_build 88 = .ok (.iload 6, 2) := by decide +kernel
theorem dX2_build_90 : decode cX2_build 90 = .ok (.aload_n 0, 1) := by decide +kernel
theorem dX2_build_91 : decode cX2_build 91 = .ok (.aload_n 1, 1) := by decide +kernel
theorem dX2_build_92 : decode cX2_build 92 = .ok (.invokevirtual 79, 3) := by decide +kernel
theorem dX2_build_95 : decode cX2_build 95 = .ok (.aload_n 0, 1) := by decide +kernel
theorem dX2_build_96 : decode cX2_build 96 = .ok (.getfield 19, 3) := by decide +kernel
theorem dX2_build_99 : decode cX2_build 99 = .ok (.aload_n 0, 1) := by decide +kernel
theorem dX2_build_100 : decode cX2_build 100 = .ok (.getfield 15, 3) := by decide +kernel
theorem dX2_build_103 : decode cX2_build 103 = .ok (.ldc2_w 42, 3) := by decide +kernel
theorem dX2_build_106 : decode cX2_build 106 = .ok (.lxor, 1) := by decide +kernel
theorem dX2_build_107 : decode cX2_build 107 = .ok (.land, 1) := by decide +kernel
theorem dX2_build_108 : decode cX2_build 108 = .ok (.aload_n 0, 1) := by decide +kernel
theorem dX2_build_109 : decode cX2_build 109 = .ok (.getfield 19, 3) := by decide +kernel
theorem dX2_build_112 : decode cX2_build 112 = .ok (.aload_n 0, 1) := by decide +kernel
theorem dX2_build_113 : decode cX2_build 113 = .ok (.getfield 15, 3) := by decide +kernel
theorem dX2_build_116 : decode cX2_build 116 = .ok (.land, 1) := by decide +kernel
theorem dX2_build_117 : decode cX2_build 117 = .ok (.invokevirtual 83, 3) := by decide +kernel
theorem dX2_build_120 : decode cX2_build 120 = .ok (.ifCond .ne 5, 3) := by decide +kernel
theorem dX2_build_123 : decode cX2_build 123 = .ok (.iconst 0, 1) := by decide +kernel
theorem dX2_build_124 : decode cX2_build 124 = .ok (.ireturn, 1) := by decide +kernel
theorem dX2_build_125 : decode cX2_build 125 = .ok (.iinc 8 1, 3) := by decide +kernel
theorem dX2_build_128 : decode cX2_build 128 = .ok (.goto (-48), 3) := by decide +kernel
theorem dX2_build_131 : decode cX2_build 131 = .ok (.iinc 6 1, 3) := by decide +kernel
theorem dX2_build_134 : decode cX2_build 134 = .ok (.goto (-88), 3) := by decide +kernel
theorem dX2_build_137 : decode cX2_build 137 = .ok (.iconst 1, 1) := by decide +kernel
theorem dX2_build_138 : decode cX2_build 138 = .ok (.ireturn, 1) := by decide +kernel
theorem dX2_hasTooFullLine_0 : decode cX2_hasTooFullLine 0 = .ok (.iconst 0, 1) := by decide +kernel
theorem dX2_hasTooFullLine_1 : decode cX2_hasTooFullLine 1 = .ok (.istore_n 2, 1) := by decide +kernel
theorem dX2_hasTooFullLine_2 : decode cX2_hasTooFullLine 2 = .ok (.iload_n 2, 1) := by decide +kernel
theorem dX2_hasTooFullLine_3 : decode cX2_hasTooFullLine 3 = .ok (.aload_n 1, 1) := by decide +kernel
theorem dX2_hasTooFullLine_4 : decode cX2_hasTooFullLine 4 = .ok (.getfield 61, 3) := by decide +kernel
theorem dX2_hasTooFullLine_7 : decode cX2_hasTooFullLine 7 = .ok (.aload_n 1, 1) := by decide +kernel
theorem dX2_hasTooFullLine_8 : decode cX2_hasTooFullLine 8 = .ok (.getfield 87, 3) := by decide +kernel
theorem dX2_hasTooFullLine_11 : decode cX2_hasTooFullLine 11 = .ok (.iadd, 1) := by decide +kernel
theorem dX2_hasTooFullLine_12 : decode cX2_hasTooFullLine 12 = .ok (.if_icmp .ge 32, 3) := by decide +kernel
theorem dX2_hasTooFullLine_15 : decode cX2_hasTooFullLine 15 = .ok (.aload_n 0, 1) := by decide +kernel
theorem dX2_hasTooFullLine_16 : decode cX2_hasTooFullLine 16 = .ok (.getfield 15, 3) := by decide +kernel
theorem dX2_hasTooFullLine_19 : decode cX2_hasTooFullLine 19 = .ok (.aload_n 1, 1) := by decide +kernel
theorem dX2_hasTooFullLine_20 : decode cX2_hasTooFullLine 20 = .ok (.iload_n 2, 1) := by decide +kernel
theorem dX2_hasTooFullLine_21 : decode cX2_hasTooFullLine 21 = .ok (.invokevirtual 90, 3) := by decide +kernel
theorem dX2_hasTooFullLine_24 : decode cX2_hasTooFullLine 24 = .ok (.land, 1) := by decide +kernel
theorem dX2_hasTooFullLine_25 : decode cX2_hasTooFullLine 25 = .ok (.invokestatic 73, 3) := by decide +kernel
theorem dX2_hasTooFullLine_28 : decode cX2_hasTooFullLine 28 = .ok (.aload_n 1, 1) := by decide +kernel
theorem dX2_hasTooFullLine_29 : decode cX2_hasTooFullLine 29 = .ok (.iload_n 2, 1) := by decide +kernel
theorem dX2_hasTooFullLine_30 : decode cX2_hasTooFullLine 30 = .ok (.invokevirtual 65, 3) := by decide +kernel
theorem dX2_hasTooFullLine_33 : decode cX2_hasTooFullLine 33 = .ok (.if_icmp .le 5, 3) := by decide +kernel
theorem dX2_hasTooFullLine_36 : decode cX2_hasTooFullLine 36 = .ok (.iconst 1, 1) := by decide +kernel
theorem dX2_hasTooFullLine_37 : decode cX2_hasTooFullLine 37 = .ok (.ireturn, 1) := by decide +kernel
theorem dX2_hasTooFullLine_38 : decode cX2_hasTooFullLine 38 = .ok (.iinc 2 1, 3) := by decide +kernel
theorem dX2_hasTooFullLine_41 : decode cX2_hasTooFullLine 41 = .ok (.goto (-39), 3) := by decide +kernel
theorem dX2_hasTooFullLine_44 : decode cX2_hasTooFullLine 44 = .ok (.iconst 0, 1) := by decide +kernel
theorem dX2_hasTooFullLine_45 : decode cX2_hasTooFullLine 45 = .ok (.ireturn, 1) := by decide +kernel
theorem dX2_columnsWithRoom_0 : decode cX2_columnsWithRoom 0 = .ok (.iconst 0, 1) := by decide +kernel
theorem dX2_columnsWithRoom_1 : decode cX2_columnsWithRoom 1 = .ok (.istore_n 2, 1) := by decide +kernel
theorem dX2_columnsWithRoom_2 : decode cX2_columnsWithRoom 2 = .ok (.iconst 0, 1) := by decide +kernel
theorem dX2_columnsWithRoom_3 : decode cX2_columnsWithRoom 3 = .ok (.istore_n 3, 1) := by decide +kernel
theorem dX2_columnsWithRoom_4 : decode cX2_columnsWithRoom 4 = .ok (.iload_n 3, 1) := by decide +kernel
theorem dX2_columnsWithRoom_5 : decode cX2_columnsWithRoom 5 = .ok (.aload_n 1, 1) := by decide +kernel
theorem dX2_columnsWithRoom_6 : decode cX2_columnsWithRoom 6 = .ok (.getfield 87, 3) := by decide +kernel
theorem dX2_columnsWithRoom_9 : decode cX2_columnsWithRoom 9 = .ok (.if_icmp .ge 40, 3) := by decide +kernel
theorem dX2_columnsWithRoom_12 : decode cX2_columnsWithRoom 12 = .ok (.aload_n 0, 1) := by decide +kernel
theorem dX2_columnsWithRoom_13 : decode cX2_columnsWithRoom 13 = .ok (.getfield 15, 3) := by decide +kernel
theorem dX2_columnsWithRoom_16 : decode cX2_columnsWithRoom 16 = .ok (.iload_n 3, 1) := by decide +kernel
theorem dX2_columnsWithRoom_17 : decode cX2_columnsWithRoom 17 = .ok (.invokestatic 93, 3) := by decide +kernel
theorem dX2_columnsWithRoom_20 : decode cX2_columnsWithRoom 20 = .ok (.land, 1) := by decide +kernel
theorem dX2_columnsWithRoom_21 : decode cX2_columnsWithRoom 21 = .ok (.invokestatic 73, 3) := by decide +kernel
theorem dX2_columnsWithRoom_24 : decode cX2_columnsWithRoom 24 = .ok (.aload_n 1, 1) := by decide +kernel
theorem dX2_columnsWithRoom_25 : decode cX2_columnsWithRoom 25 = .ok (.aload_n 1, 1) := by decide +kernel
theorem dX2_columnsWithRoom_26 : decode cX2_columnsWithRoom 26 = .ok (.getfield 61, 3) := by decide +kernel
theorem dX2_columnsWithRoom_29 : decode cX2_columnsWithRoom 29 = .ok (.iload_n 3, 1) := by decide +kernel
theorem dX2_columnsWithRoom_30 : decode cX2_columnsWithRoom 30 = .ok (.iadd, 1) := by decide +kernel
theorem dX2_columnsWithRoom_31 : decode cX2_columnsWithRoom 31 = .ok (.invokevirtual 65, 3) := by decide +kernel
theorem dX2_columnsWithRoom_34 : decode cX2_columnsWithRoom 34 = .ok (.if_icmp .ge 9, 3) := by decide +kernel
theorem dX2_columnsWithRoom_37 : decode cX2_columnsWithRoom 37 = .ok (.iload_n 2, 1) := by decide +kernel
theorem dX2_columnsWithRoom_38 : decode cX2_columnsWithRoom 38 = .ok (.iconst 1, 1) := by decide +kernel
theorem dX2_columnsWithRoom_39 : decode cX2_columnsWithRoom 39 = .ok (.iload_n 3, 1) := by decide +kernel
theorem dX2_columnsWithRoom_40 : decode cX2_columnsWithRoom 40 = .ok (.ishl, 1) := by decide +kernel
theorem dX2_columnsWithRoom_41 : decode cX2_columnsWithRoom 41 = .ok (.ior, 1) := by decide +kernel
theorem dX2_columnsWithRoom_42 : decode cX2_columnsWithRoom 42 = .ok (.istore_n 2, 1) := by decide +kernel
theorem dX2_columnsWithRoom_43 : decode cX2_columnsWithRoom 43 = .ok (.iinc 3 1, 3) := by decide +kernel
theorem dX2_columnsWithRoom_46 : decode cX2_columnsWithRoom 46 = .ok (.goto (-42), 3) := by decide +kernel
theorem dX2_columnsWithRoom_49 : decode cX2_columnsWithRoom 49 = .ok (.iload_n 2, 1) := by decide +kernel
theorem dX2_columnsWithRoom_50 : decode cX2_columnsWithRoom 50 = .ok (.ireturn, 1) := by decide +kernel
theorem dX2_settle_0 : decode cX2_settle 0 = .ok (.iconst 0, 1) := by decide +kernel
theorem dX2_settle_1 : decode cX2_settle 1 = .ok (.istore_n 2, 1) := by decide +kernel
theorem dX2_settle_2 : decode cX2_settle 2 = .ok (.iload_n 2, 1) := by decide +kernel
theorem dX2_settle_3 : decode cX2_settle 3 = .ok (.bipush 48, 2) := by decide +kernel
theorem dX2_settle_5 : decode cX2_settle 5 = .ok (.if_icmp .ge 68, 3) := by decide +kernel
theorem dX2_settle_8 : decode cX2_settle 8 = .ok (.lconst 1, 1) := by decide +kernel
theorem dX2_settle_9 : decode cX2_settle 9 = .ok (.iload_n 2, 1) := by decide +kernel
theorem dX2_settle_10 : decode cX2_settle 10 = .ok (.lshl, 1) := by decide +kernel
theorem dX2_settle_11 : decode cX2_settle 11 = .ok (.lstore_n 3, 1) := by decide +kernel
theorem dX2_settle_12 : decode cX2_settle 12 = .ok (.aload_n 0, 1) := by decide +kernel
theorem dX2_settle_13 : decode cX2_settle 13 = .ok (.getfield 15, 3) := by decide +kernel
theorem dX2_settle_16 : decode cX2_settle 16 = .ok (.lload_n 3, 1) := by decide +kernel
theorem dX2_settle_17 : decode cX2_settle 17 = .ok (.land, 1) := by decide +kernel
theorem dX2_settle_18 : decode cX2_settle 18 = .ok (.lconst 0, 1) := by decide +kernel
theorem dX2_settle_19 : decode cX2_settle 19 = .ok (.lcmp, 1) := by decide +kernel
theorem dX2_settle_20 : decode cX2_settle 20 = .ok (.ifCond .eq 7, 3) := by decide +kernel
theorem dX2_settle_23 : decode cX2_settle 23 = .ok (.iconst 1, 1) := by decide +kernel
theorem dX2_settle_24 : decode cX2_settle 24 = .ok (.goto 4, 3) := by decide +kernel
theorem dX2_settle_27 : decode cX2_settle 27 = .ok (.iconst 0, 1) := by decide +kernel
theorem dX2_settle_28 : decode cX2_settle 28 = .ok (.istore 5, 2) := by decide +kernel
theorem dX2_settle_30 : decode cX2_settle 30 = .ok (.aload_n 0, 1) := by decide +kernel
theorem dX2_settle_31 : decode cX2_settle 31 = .ok (.getfield 19, 3) := by decide +kernel
theorem dX2_settle_34 : decode cX2_settle 34 = .ok (.lload_n 3, 1) := by decide +kernel
theorem dX2_settle_35 : decode cX2_settle 35 = .ok (.land, 1) := by decide +kernel
theorem dX2_settle_36 : decode cX2_settle 36 = .ok (.lconst 0, 1) := by decide +kernel
theorem dX2_settle_37 : decode cX2_settle 37 = .ok (.lcmp, 1) := by decide +kernel
theorem dX2_settle_38 : decode cX2_settle 38 = .ok (.ifCond .eq 29, 3) := by decide +kernel
theorem dX2_settle_41 : decode cX2_settle 41 = .ok (.aload_n 0, 1) := by decide +kernel
theorem dX2_settle_42 : decode cX2_settle 42 = .ok (.dup, 1) := by decide +kernel
theorem dX2_settle_43 : decode cX2_settle 43 = .ok (.getfield 19, 3) := by decide +kernel
theorem dX2_settle_46 : decode cX2_settle 46 = .ok (.lload_n 3, 1) := by decide +kernel
theorem dX2_settle_47 : decode cX2_settle 47 = .ok (.ldc2_w 42, 3) := by decide +kernel
theorem dX2_settle_50 : decode cX2_settle 50 = .ok (.lxor, 1) := by decide +kernel
theorem dX2_settle_51 : decode cX2_settle 51 = .ok (.land, 1) := by decide +kernel
theorem dX2_settle_52 : decode cX2_settle 52 = .ok (.putfield 19, 3) := by decide +kernel
theorem dX2_settle_55 : decode cX2_settle 55 = .ok (.iload 5, 2) := by decide +kernel
theorem dX2_settle_57 : decode cX2_settle 57 = .ok (.iload_n 1, 1) := by decide +kernel
theorem dX2_settle_58 : decode cX2_settle 58 = .ok (.if_icmp .eq 9, 3) := by decide +kernel
theorem dX2_settle_61 : decode cX2_settle 61 = .ok (.aload_n 0, 1) := by decide +kernel
theorem dX2_settle_62 : decode cX2_settle 62 = .ok (.iload_n 2, 1) := by decide +kernel
theorem dX2_settle_63 : decode cX2_settle 63 = .ok (.invokevirtual 46, 3) := by decide +kernel
theorem dX2_settle_66 : decode cX2_settle 66 = .ok (.pop, 1) := by decide +kernel
theorem dX2_settle_67 : decode cX2_settle 67 = .ok (.iinc 2 1, 3) := by decide +kernel
theorem dX2_settle_70 : decode cX2_settle 70 = .ok (.goto (-68), 3) := by decide +kernel
theorem dX2_settle_73 : decode cX2_settle 73 = .ok (.return_, 1) := by decide +kernel
theorem dX2_change_0 : decode cX2_change 0 = .ok (.lconst 1, 1) := by decide +kernel
theorem dX2_change_1 : decode cX2_change 1 = .ok (.iload_n 1, 1) := by decide +kernel
theorem dX2_change_2 : decode cX2_change 2 = .ok (.lshl, 1) := by decide +kernel
theorem dX2_change_3 : decode cX2_change 3 = .ok (.lstore_n 2, 1) := by decide +kernel
theorem dX2_change_4 : decode cX2_change 4 = .ok (.aload_n 0, 1) := by decide +kernel
theorem dX2_change_5 : decode cX2_change 5 = .ok (.getfield 15, 3) := by decide +kernel
theorem dX2_change_8 : decode cX2_change 8 = .ok (.lload_n 2, 1) := by decide +kernel
theorem dX2_change_9 : decode cX2_change 9 = .ok (.land, 1) := by decide +kernel
theorem dX2_change_10 : decode cX2_change 10 = .ok (.lconst 0, 1) := by decide +kernel
theorem dX2_change_11 : decode cX2_change 11 = .ok (.lcmp, 1) := by decide +kernel
theorem dX2_change_12 : decode cX2_change 12 = .ok (.ifCond .eq 7, 3) := by decide +kernel
theorem dX2_change_15 : decode cX2_change 15 = .ok (.iconst 1, 1) := by decide +kernel
theorem dX2_change_16 : decode cX2_change 16 = .ok (.goto 4, 3) := by decide +kernel
theorem dX2_change_19 : decode cX2_change 19 = .ok (.iconst 0, 1) := by decide +kernel
theorem dX2_change_20 : decode cX2_change 20 = .ok (.istore 4, 2) := by decide +kernel
theorem dX2_change_22 : decode cX2_change 22 = .ok (.aload_n 0, 1) := by decide +kernel
theorem dX2_change_23 : decode cX2_change 23 = .ok (.getfield 19, 3) := by decide +kernel
theorem dX2_change_26 : decode cX2_change 26 = .ok (.aload_n 0, 1) := by decide +kernel
theorem dX2_change_27 : decode cX2_change 27 = .ok (.getfield 15, 3) := by decide +kernel
theorem dX2_change_30 : decode cX2_change 30 = .ok (.land, 1) := by decide +kernel
theorem dX2_change_31 : decode cX2_change 31 = .ok (.lstore 5, 2) := by decide +kernel
theorem dX2_change_33 : decode cX2_change 33 = .ok (.aload_n 0, 1) := by decide +kernel
theorem dX2_change_34 : decode cX2_change 34 = .ok (.getfield 19, 3) := by decide +kernel
theorem dX2_change_37 : decode cX2_change 37 = .ok (.aload_n 0, 1) := by decide +kernel
theorem dX2_change_38 : decode cX2_change 38 = .ok (.getfield 15, 3) := by decide +kernel
theorem dX2_change_41 : decode cX2_change 41 = .ok (.ldc2_w 42, 3) := by decide +kernel
theorem dX2_change_44 : decode cX2_change 44 = .ok (.lxor, 1) := by decide +kernel
theorem dX2_change_45 : decode cX2_change 45 = .ok (.land, 1) := by decide +kernel
theorem dX2_change_46 : decode cX2_change 46 = .ok (.lstore 7, 2) := by decide +kernel
theorem dX2_change_48 : decode cX2_change 48 = .ok (.aload_n 0, 1) := by decide +kernel
theorem dX2_change_49 : decode cX2_change 49 = .ok (.iload_n 1, 1) := by decide +kernel
theorem dX2_change_50 : decode cX2_change 50 = .ok (.invokestatic 96, 3) := by decide +kernel
theorem dX2_change_53 : decode cX2_change 53 = .ok (.iconst 1, 1) := by decide +kernel
theorem dX2_change_54 : decode cX2_change 54 = .ok (.iload_n 1, 1) := by decide +kernel
theorem dX2_change_55 : decode cX2_change 55 = .ok (.invokestatic 99, 3) := by decide +kernel
theorem dX2_change_58 : decode cX2_change 58 = .ok (.ishl, 1) := by decide +kernel
theorem dX2_change_59 : decode cX2_change 59 = .ok (.iload 4, 2) := by decide +kernel
theorem dX2_change_61 : decode cX2_change 61 = .ok (.ifCond .eq 8, 3) := by decide +kernel
theorem dX2_change_64 : decode cX2_change 64 = .ok (.lload 7, 2) := by decide +kernel
theorem dX2_change_66 : decode cX2_change 66 = .ok (.goto 5, 3) := by decide +kernel
theorem dX2_change_69 : decode cX2_change 69 = .ok (.lload 5, 2) := by decide +kernel
theorem dX2_change_71 : decode cX2_change 71 = .ok (.iload 4, 2) := by decide +kernel
theorem dX2_change_73 : decode cX2_change 73 = .ok (.ifCond .eq 8, 3) := by decide +kernel
theorem dX2_change_76 : decode cX2_change 76 = .ok (.lload 5, 2) := by decide +kernel
theorem dX2_change_78 : decode cX2_change 78 = .ok (.goto 5, 3) := by decide +kernel
theorem dX2_change_81 : decode cX2_change 81 = .ok (.lload 7, 2) := by decide +kernel
theorem dX2_change_83 : decode cX2_change 83 = .ok (.invokevirtual 83, 3) := by decide +kernel
theorem dX2_change_86 : decode cX2_change 86 = .ok (.istore 9, 2) := by decide +kernel
theorem dX2_change_88 : decode cX2_change 88 = .ok (.iload 9, 2) := by decide +kernel
theorem dX2_change_90 : decode cX2_change 90 = .ok (.ifCond .eq 13, 3) := by decide +kernel
theorem dX2_change_93 : decode cX2_change 93 = .ok (.aload_n 0, 1) := by decide +kernel
theorem dX2_change_94 : decode cX2_change 94 = .ok (.dup, 1) := by decide +kernel
theorem dX2_change_95 : decode cX2_change 95 = .ok (.getfield 15, 3) := by decide +kernel
theorem dX2_change_98 : decode cX2_change 98 = .ok (.lload_n 2, 1) := by decide +kernel
theorem dX2_change_99 : decode cX2_change 99 = .ok (.lxor, 1) := by decide +kernel
theorem dX2_change_100 : decode cX2_change 100 = .ok (.putfield 15, 3) := by decide +kernel
theorem dX2_change_103 : decode cX2_change 103 = .ok (.iload 9, 2) := by decide +kernel
theorem dX2_change_105 : decode cX2_change 105 = .ok (.ireturn, 1) := by decide +kernel
theorem dX2_shift_0 : decode cX2_shift 0 = .ok (.aload_n 0, 1) := by decide +kernel
theorem dX2_shift_1 : decode cX2_shift 1 = .ok (.invokevirtual 102, 3) := by decide +kernel
theorem dX2_shift_4 : decode cX2_shift 4 = .ok (.iconst 1, 1) := by decide +kernel
theorem dX2_shift_5 : decode cX2_shift 5 = .ok (.iload_n 1, 1) := by decide +kernel
theorem dX2_shift_6 : decode cX2_shift 6 = .ok (.ishl, 1) := by decide +kernel
theorem dX2_shift_7 : decode cX2_shift 7 = .ok (.istore 7, 2) := by decide +kernel
theorem dX2_shift_9 : decode cX2_shift 9 = .ok (.iload 7, 2) := by decide +kernel
theorem dX2_shift_11 : decode cX2_shift 11 = .ok (.istore 8, 2) := by decide +kernel
theorem dX2_shift_13 : decode cX2_shift 13 = .ok (.iconst 0, 1) := by decide +kernel
theorem dX2_shift_14 : decode cX2_shift 14 = .ok (.istore 9, 2) := by decide +kernel
theorem dX2_shift_16 : decode cX2_shift 16 = .ok (.iconst 0, 1) := by decide +kernel
theorem dX2_shift_17 : decode cX2_shift 17 = .ok (.istore 10, 2) := by decide +kernel
theorem dX2_shift_19 : decode cX2_shift 19 = .ok (.iload 10, 2) := by decide +kernel
theorem dX2_shift_21 : decode cX2_shift 21 = .ok (.bipush 6, 2) := by decide +kernel
theorem dX2_shift_23 : decode cX2_shift 23 = .ok (.if_icmp .ge 156, 3) := by decide +kernel
theorem dX2_shift_26 : decode cX2_shift 26 = .ok (.iload 8, 2) := by decide +kernel
theorem dX2_shift_28 : decode cX2_shift 28 = .ok (.ifCond .eq 151, 3) := by decide +kernel
theorem dX2_shift_31 : decode cX2_shift 31 = .ok (.iload 8, 2) := by decide +kernel
theorem dX2_shift_33 : decode cX2_shift 33 = .ok (.iload 8, 2) := by decide +kernel
theorem dX2_shift_35 : decode cX2_shift 35 = .ok (.ineg, 1) := by decide +kernel
theorem dX2_shift_36 : decode cX2_shift 36 = .ok (.iand, 1) := by decide +kernel
theorem dX2_shift_37 : decode cX2_shift 37 = .ok (.iconst 1, 1) := by decide +kernel
theorem dX2_shift_38 : decode cX2_shift 38 = .ok (.isub, 1) := by decide +kernel
theorem dX2_shift_39 : decode cX2_shift 39 = .ok (.invokestatic 105, 3) := by decide +kernel
theorem dX2_shift_42 : decode cX2_shift 42 = .ok (.istore 11, 2) := by decide +kernel
theorem dX2_shift_44 : decode cX2_shift 44 = .ok (.iload 8, 2) := by decide +kernel
theorem dX2_shift_46 : decode cX2_shift 46 = .ok (.iload 8, 2) := by decide +kernel
theorem dX2_shift_48 : decode cX2_shift 48 = .ok (.iconst 1, 1) := by decide +kernel
theorem dX2_shift_49 : decode cX2_shift 49 = .ok (.isub, 1) := by decide +kernel
theorem dX2_shift_50 : decode cX2_shift 50 = .ok (.iand, 1) := by decide +kernel
theorem dX2_shift_51 : decode cX2_shift 51 = .ok (.istore 8, 2) := by decide +kernel
theorem dX2_shift_53 : decode cX2_shift 53 = .ok (.iconst 0, 1) := by decide +kernel
theorem dX2_shift_54 : decode cX2_shift 54 = .ok (.istore 12, 2) := by decide +kernel
theorem dX2_shift_56 : decode cX2_shift 56 = .ok (.iload 12, 2) := by decide +kernel
theorem dX2_shift_58 : decode cX2_shift 58 = .ok (.bipush 6, 2) := by decide +kernel
theorem dX2_shift_60 : decode cX2_shift 60 = .ok (.if_icmp .ge 113, 3) := by decide +kernel
theorem dX2_shift_63 : decode cX2_shift 63 = .ok (.lload_n 3, 1) := by decide +kernel
theorem dX2_shift_64 : decode cX2_shift 64 = .ok (.iload 11, 2) := by decide +kernel
theorem dX2_shift_66 : decode cX2_shift 66 = .ok (.iload 12, 2) := by decide +kernel
theorem dX2_shift_68 : decode cX2_shift 68 = .ok (.invokestatic 109, 3) := by decide +kernel
theorem dX2_shift_71 : decode cX2_shift 71 = .ok (.land, 1) := by decide +kernel
theorem dX2_shift_72 : decode cX2_shift 72 = .ok (.lconst 0, 1) := by decide +kernel
theorem dX2_shift_73 : decode cX2_shift 73 = .ok (.lcmp, 1) := by decide +kernel
theorem dX2_shift_74 : decode cX2_shift 74 = .ok (.ifCond .eq 93, 3) := by decide +kernel
theorem dX2_shift_77 : decode cX2_shift 77 = .ok (.iload 9, 2) := by decide +kernel
theorem dX2_shift_79 : decode cX2_shift 79 = .ok (.iload 12, 2) := by decide +kernel
theorem dX2_shift_81 : decode cX2_shift 81 = .ok (.ishr, 1) := by decide +kernel
theorem dX2_shift_82 : decode cX2_shift 82 = .ok (.iconst 1, 1) := by decide +kernel
theorem dX2_shift_83 : decode cX2_shift 83 = .ok (.iand, 1) := by decide +kernel
theorem dX2_shift_84 : decode cX2_shift 84 = .ok (.ifCond .eq 6, 3) := by decide +kernel
theorem dX2_shift_87 : decode cX2_shift 87 = .ok (.goto 80, 3) := by decide +kernel
theorem dX2_shift_90 : decode cX2_shift 90 = .ok (.iload 9, 2) := by decide +kernel
theorem dX2_shift_92 : decode cX2_shift 92 = .ok (.iconst 1, 1) := by decide +kernel
theorem dX2_shift_93 : decode cX2_shift 93 = .ok (.iload 12, 2) := by decide +kernel
theorem dX2_shift_95 : decode cX2_shift 95 = .ok (.ishl, 1) := by decide +kernel
theorem dX2_shift_96 : decode cX2_shift 96 = .ok (.ior, 1) := by decide +kernel
theorem dX2_shift_97 : decode cX2_shift 97 = .ok (.istore 9, 2) := by decide +kernel
theorem dX2_shift_99 : decode cX2_shift 99 = .ok (.aload_n 0, 1) := by decide +kernel
theorem dX2_shift_100 : decode cX2_shift 100 = .ok (.iload 11, 2) := by decide +kernel
theorem dX2_shift_102 : decode cX2_shift 102 = .ok (.invokevirtual 113, 3) := by decide +kernel
theorem dX2_shift_105 : decode cX2_shift 105 = .ok (.iload 11, 2) := by decide +kernel
theorem dX2_shift_107 : decode cX2_shift 107 = .ok (.iload 12, 2) := by decide +kernel
theorem dX2_shift_109 : decode cX2_shift 109 = .ok (.invokestatic 109, 3) := by decide +kernel
theorem dX2_shift_112 : decode cX2_shift 112 = .ok (.lor, 1) := by decide +kernel
theorem dX2_shift_113 : decode cX2_shift 113 = .ok (.lstore 13, 2) := by decide +kernel
theorem dX2_shift_115 : decode cX2_shift 115 = .ok (.iload_n 2, 1) := by decide +kernel
theorem dX2_shift_116 : decode cX2_shift 116 = .ok (.iload 12, 2) := by decide +kernel
theorem dX2_shift_118 : decode cX2_shift 118 = .ok (.ishr, 1) := by decide +kernel
theorem dX2_shift_119 : decode cX2_shift 119 = .ok (.iconst 1, 1) := by decide +kernel
theorem dX2_shift_120 : decode cX2_shift 120 = .ok (.iand, 1) := by decide +kernel
theorem dX2_shift_121 : decode cX2_shift 121 = .ok (.ifCond .eq 16, 3) := by decide +kernel
theorem dX2_shift_124 : decode cX2_shift 124 = .ok (.aload_n 0, 1) := by decide +kernel
theorem dX2_shift_125 : decode cX2_shift 125 = .ok (.dup, 1) := by decide +kernel
theorem dX2_shift_126 : decode cX2_shift 126 = .ok (.getfield 15, 3) := by decide +kernel
theorem dX2_shift_129 : decode cX2_shift 129 = .ok (.lload 13, 2) := by decide +kernel
theorem dX2_shift_131 : decode cX2_shift 131 = .ok (.lxor, 1) := by decide +kernel
theorem dX2_shift_132 : decode cX2_shift 132 = .ok (.putfield 15, 3) := by decide +kernel
theorem dX2_shift_135 : decode cX2_shift 135 = .ok (.iconst 1, 1) := by decide +kernel
theorem dX2_shift_136 : decode cX2_shift 136 = .ok (.ireturn, 1) := by decide +kernel
theorem dX2_shift_137 : decode cX2_shift 137 = .ok (.aload_n 0, 1) := by decide +kernel
theorem dX2_shift_138 : decode cX2_shift 138 = .ok (.iload 12, 2) := by decide +kernel
theorem dX2_shift_140 : decode cX2_shift 140 = .ok (.lload 13, 2) := by decide +kernel
theorem dX2_shift_142 : decode cX2_shift 142 = .ok (.lload 5, 2) := by decide +kernel
theorem dX2_shift_144 : decode cX2_shift 144 = .ok (.iload 7, 2) := by decide +kernel
theorem dX2_shift_146 : decode cX2_shift 146 = .ok (.iconst (-1), 1) := by decide +kernel
theorem dX2_shift_147 : decode cX2_shift 147 = .ok (.ixor, 1) := by decide +kernel
theorem dX2_shift_148 : decode cX2_shift 148 = .ok (.invokevirtual 116, 3) := by decide +kernel
theorem dX2_shift_151 : decode cX2_shift 151 = .ok (.istore 15, 2) := by decide +kernel
theorem dX2_shift_153 : decode cX2_shift 153 = .ok (.iload 7, 2) := by decide +kernel
theorem dX2_shift_155 : decode cX2_shift 155 = .ok (.iload 15, 2) := by decide +kernel
theorem dX2_shift_157 : decode cX2_shift 157 = .ok (.ior, 1) := by decide +kernel
theorem dX2_shift_158 : decode cX2_shift 158 = .ok (.istore 7, 2) := by decide +kernel
theorem dX2_shift_160 : decode cX2_shift 160 = .ok (.iload 8, 2) := by decide +kernel
theorem dX2_shift_162 : decode cX2_shift 162 = .ok (.iload 15, 2) := by decide +kernel
theorem dX2_shift_164 : decode cX2_shift 164 = .ok (.ior, 1) := by decide +kernel
theorem dX2_shift_165 : decode cX2_shift 165 = .ok (.istore 8, 2) := by decide +kernel
theorem dX2_shift_167 : decode cX2_shift 167 = .ok (.iinc 12 1, 3) := by decide +kernel
theorem dX2_shift_170 : decode cX2_shift 170 = .ok (.goto (-114), 3) := by decide +kernel
theorem dX2_shift_173 : decode cX2_shift 173 = .ok (.iinc 10 1, 3) := by decide +kernel
theorem dX2_shift_176 : decode cX2_shift 176 = .ok (.goto (-157), 3) := by decide +kernel
theorem dX2_shift_179 : decode cX2_shift 179 = .ok (.iconst 0, 1) := by decide +kernel
theorem dX2_shift_180 : decode cX2_shift 180 = .ok (.ireturn, 1) := by decide +kernel
theorem dX2_enterRows_0 : decode cX2_enterRows 0 = .ok (.iconst 0, 1) := by decide +kernel
theorem dX2_enterRows_1 : decode cX2_enterRows 1 = .ok (.istore 7, 2) := by decide +kernel
theorem dX2_enterRows_3 : decode cX2_enterRows 3 = .ok (.iconst 0, 1) := by decide +kernel
theorem dX2_enterRows_4 : decode cX2_enterRows 4 = .ok (.istore 8, 2) := by decide +kernel
theorem dX2_enterRows_6 : decode cX2_enterRows 6 = .ok (.iload 8, 2) := by decide +kernel
theorem dX2_enterRows_8 : decode cX2_enterRows 8 = .ok (.aload_n 0, 1) := by decide +kernel
theorem dX2_enterRows_9 : decode cX2_enterRows 9 = .ok (.getfield 9, 3) := by decide +kernel
theorem dX2_enterRows_12 : decode cX2_enterRows 12 = .ok (.arraylength, 1) := by decide +kernel
theorem dX2_enterRows_13 : decode cX2_enterRows 13 = .ok (.if_icmp .ge 60, 3) := by decide +kernel
theorem dX2_enterRows_16 : decode cX2_enterRows 16 = .ok (.lload 4, 2) := by decide +kernel
theorem dX2_enterRows_18 : decode cX2_enterRows 18 = .ok (.lconst 1, 1) := by decide +kernel
theorem dX2_enterRows_19 : decode cX2_enterRows 19 = .ok (.bipush 8, 2) := by decide +kernel
theorem dX2_enterRows_21 : decode cX2_enterRows 21 = .ok (.iload 8, 2) := by decide +kernel
theorem dX2_enterRows_23 : decode cX2_enterRows 23 = .ok (.imul, 1) := by decide +kernel
theorem dX2_enterRows_24 : decode cX2_enterRows 24 = .ok (.iload_n 1, 1) := by decide +kernel
theorem dX2_enterRows_25 : decode cX2_enterRows 25 = .ok (.iadd, 1) := by decide +kernel
theorem dX2_enterRows_26 : decode cX2_enterRows 26 = .ok (.lshl, 1) := by decide +kernel
theorem dX2_enterRows_27 : decode cX2_enterRows 27 = .ok (.land, 1) := by decide +kernel
theorem dX2_enterRows_28 : decode cX2_enterRows 28 = .ok (.lstore 9, 2) := by decide +kernel
theorem dX2_enterRows_30 : decode cX2_enterRows 30 = .ok (.lload 9, 2) := by decide +kernel
theorem dX2_enterRows_32 : decode cX2_enterRows 32 = .ok (.lconst 0, 1) := by decide +kernel
theorem dX2_enterRows_33 : decode cX2_enterRows 33 = .ok (.lcmp, 1) := by decide +kernel
theorem dX2_enterRows_34 : decode cX2_enterRows 34 = .ok (.ifCond .eq 33, 3) := by decide +kernel
theorem dX2_enterRows_37 : decode cX2_enterRows 37 = .ok (.iload 6, 2) := by decide +kernel
theorem dX2_enterRows_39 : decode cX2_enterRows 39 = .ok (.iload 8, 2) := by decide +kernel
theorem dX2_enterRows_41 : decode cX2_enterRows 41 = .ok (.ishr, 1) := by decide +kernel
theorem dX2_enterRows_42 : decode cX2_enterRows 42 = .ok (.iconst 1, 1) := by decide +kernel
theorem dX2_enterRows_43 : decode cX2_enterRows 43 = .ok (.iand, 1) := by decide +kernel
theorem dX2_enterRows_44 : decode cX2_enterRows 44 = .ok (.ifCond .eq 23, 3) := by decide +kernel
theorem dX2_enterRows_47 : decode cX2_enterRows 47 = .ok (.aload_n 0, 1) := by decide +kernel
theorem dX2_enterRows_48 : decode cX2_enterRows 48 = .ok (.getfield 9, 3) := by decide +kernel
theorem dX2_enterRows_51 : decode cX2_enterRows 51 = .ok (.iload 8, 2) := by decide +kernel
theorem dX2_enterRows_53 : decode cX2_enterRows 53 = .ok (.lload_n 2, 1) := by decide +kernel
theorem dX2_enterRows_54 : decode cX2_enterRows 54 = .ok (.lload 9, 2) := by decide +kernel
theorem dX2_enterRows_56 : decode cX2_enterRows 56 = .ok (.lor, 1) := by decide +kernel
theorem dX2_enterRows_57 : decode cX2_enterRows 57 = .ok (.lastore, 1) := by decide +kernel
theorem dX2_enterRows_58 : decode cX2_enterRows 58 = .ok (.iload 7, 2) := by decide +kernel
theorem dX2_enterRows_60 : decode cX2_enterRows 60 = .ok (.iconst 1, 1) := by decide +kernel
theorem dX2_enterRows_61 : decode cX2_enterRows 61 = .ok (.iload 8, 2) := by decide +kernel
theorem dX2_enterRows_63 : decode cX2_enterRows 63 = .ok (.ishl, 1) := by decide +kernel
theorem dX2_enterRows_64 : decode cX2_enterRows 64 = .ok (.ior, 1) := by decide +kernel
theorem dX2_enterRows_65 : decode cX2_enterRows 65 = .ok (.istore 7, 2) := by decide +kernel
theorem dX2_enterRows_67 : decode cX2_enterRows 67 = .ok (.iinc 8 1, 3) := by decide +kernel
theorem dX2_enterRows_70 : decode cX2_enterRows 70 = .ok (.goto (-64), 3) := by decide +kernel
theorem dX2_enterRows_73 : decode cX2_enterRows 73 = .ok (.iload 7, 2) := by decide +kernel
theorem dX2_enterRows_75 : decode cX2_enterRows 75 = .ok (.ireturn, 1) := by decide +kernel
theorem dX2_wayToRow_0 : decode cX2_wayToRow 0 = .ok (.iload_n 1, 1) := by decide +kernel
theorem dX2_wayToRow_1 : decode cX2_wayToRow 1 = .ok (.ifCond .lt 21, 3) := by decide +kernel
theorem dX2_wayToRow_4 : decode cX2_wayToRow 4 = .ok (.iload_n 1, 1) := by decide +kernel
theorem dX2_wayToRow_5 : decode cX2_wayToRow 5 = .ok (.aload_n 0, 1) := by decide +kernel
theorem dX2_wayToRow_6 : decode cX2_wayToRow 6 = .ok (.getfield 9, 3) := by decide +kernel
theorem dX2_wayToRow_9 : decode cX2_wayToRow 9 = .ok (.arraylength, 1) := by decide +kernel
theorem dX2_wayToRow_10 : decode cX2_wayToRow 10 = .ok (.if_icmp .ge 12, 3) := by decide +kernel
theorem dX2_wayToRow_13 : decode cX2_wayToRow 13 = .ok (.aload_n 0, 1) := by decide +kernel
theorem dX2_wayToRow_14 : decode cX2_wayToRow 14 = .ok (.getfield 9, 3) := by decide +kernel
theorem dX2_wayToRow_17 : decode cX2_wayToRow 17 = .ok (.iload_n 1, 1) := by decide +kernel
theorem dX2_wayToRow_18 : decode cX2_wayToRow 18 = .ok (.laload, 1) := by decide +kernel
theorem dX2_wayToRow_19 : decode cX2_wayToRow 19 = .ok (.goto 4, 3) := by decide +kernel
theorem dX2_wayToRow_22 : decode cX2_wayToRow 22 = .ok (.lconst 0, 1) := by decide +kernel
theorem dX2_wayToRow_23 : decode cX2_wayToRow 23 = .ok (.lreturn, 1) := by decide +kernel
theorem dX2_forgetWays_0 : decode cX2_forgetWays 0 = .ok (.iconst 0, 1) := by decide +kernel
theorem dX2_forgetWays_1 : decode cX2_forgetWays 1 = .ok (.istore_n 1, 1) := by decide +kernel
theorem dX2_forgetWays_2 : decode cX2_forgetWays 2 = .ok (.iload_n 1, 1) := by decide +kernel
theorem dX2_forgetWays_3 : decode cX2_forgetWays 3 = .ok (.aload_n 0, 1) := by decide +kernel
theorem dX2_forgetWays_4 : decode cX2_forgetWays 4 = .ok (.getfield 9, 3) := by decide +kernel
theorem dX2_forgetWays_7 : decode cX2_forgetWays 7 = .ok (.arraylength, 1) := by decide +kernel
theorem dX2_forgetWays_8 : decode cX2_forgetWays 8 = .ok (.if_icmp .ge 16, 3) := by decide +kernel
theorem dX2_forgetWays_11 : decode cX2_forgetWays 11 = .ok (.aload_n 0, 1) := by decide +kernel
theorem dX2_forgetWays_12 : decode cX2_forgetWays 12 = .ok (.getfield 9, 3) := by decide +kernel
theorem dX2_forgetWays_15 : decode cX2_forgetWays 15 = .ok (.iload_n 1, 1) := by decide +kernel
theorem dX2_forgetWays_16 : decode cX2_forgetWays 16 = .ok (.lconst 0, 1) := by decide +kernel
theorem dX2_forgetWays_17 : decode cX2_forgetWays 17 = .ok (.lastore, 1) := by decide +kernel
theorem dX2_forgetWays_18 : decode cX2_forgetWays 18 = .ok (.iinc 1 1, 3) := by decide +kernel
theorem dX2_forgetWays_21 : decode cX2_forgetWays 21 = .ok (.goto (-19), 3) := by decide +kernel
theorem dX2_forgetWays_24 : decode cX2_forgetWays 24 = .ok (.return_, 1) := by decide +kernel
theorem dX3_init_0 : decode cX3_init 0 = .ok (.aload_n 0, 1) := by decide +kernel
theorem dX3_init_1 : decode cX3_init 1 = .ok (.invokespecial 1, 3) := by decide +kernel
theorem dX3_init_4 : decode cX3_init 4 = .ok (.aload_n 0, 1) := by decide +kernel
theorem dX3_init_5 : decode cX3_init 5 = .ok (.bipush 14, 2) := by decide +kernel
theorem dX3_init_7 : decode cX3_init 7 = .ok (.anewarray 9, 3) := by decide +kernel
theorem dX3_init_10 : decode cX3_init 10 = .ok (.putfield 11, 3) := by decide +kernel
theorem dX3_init_13 : decode cX3_init 13 = .ok (.aload_n 0, 1) := by decide +kernel
theorem dX3_init_14 : decode cX3_init 14 = .ok (.iconst 0, 1) := by decide +kernel
theorem dX3_init_15 : decode cX3_init 15 = .ok (.putfield 15, 3) := by decide +kernel
theorem dX3_init_18 : decode cX3_init 18 = .ok (.iconst 0, 1) := by decide +kernel
theorem dX3_init_19 : decode cX3_init 19 = .ok (.istore_n 1, 1) := by decide +kernel
theorem dX3_init_20 : decode cX3_init 20 = .ok (.iload_n 1, 1) := by decide +kernel
theorem dX3_init_21 : decode cX3_init 21 = .ok (.aload_n 0, 1) := by decide +kernel
theorem dX3_init_22 : decode cX3_init 22 = .ok (.getfield 11, 3) := by decide +kernel
theorem dX3_init_25 : decode cX3_init 25 = .ok (.arraylength, 1) := by decide +kernel
theorem dX3_init_26 : decode cX3_init 26 = .ok (.if_icmp .ge 22, 3) := by decide +kernel
theorem dX3_init_29 : decode cX3_init 29 = .ok (.aload_n 0, 1) := by decide +kernel
theorem dX3_init_30 : decode cX3_init 30 = .ok (.getfield 11, 3) := by decide +kernel
theorem dX3_init_33 : decode cX3_init 33 = .ok (.iload_n 1, 1) := by decide +kernel
theorem dX3_init_34 : decode cX3_init 34 = .ok (.new 9, 3) := by decide +kernel
theorem dX3_init_37 : decode cX3_init 37 = .ok (.dup, 1) := by decide +kernel
theorem dX3_init_38 : decode cX3_init 38 = .ok (.invokespecial 19, 3) := by decide +kernel
theorem dX3_init_41 : decode cX3_init 41 = .ok (.aastore, 1) := by decide +kernel
theorem dX3_init_42 : decode cX3_init 42 = .ok (.iinc 1 1, 3) := by decide +kernel
theorem dX3_init_45 : decode cX3_init 45 = .ok (.goto (-25), 3) := by decide +kernel
theorem dX3_init_48 : decode cX3_init 48 = .ok (.return_, 1) := by decide +kernel
theorem dX3_isEmpty_0 : decode cX3_isEmpty 0 = .ok (.aload_n 0, 1) := by decide +kernel
theorem dX3_isEmpty_1 : decode cX3_isEmpty 1 = .ok (.getfield 15, 3) := by decide +kernel
theorem dX3_isEmpty_4 : decode cX3_isEmpty 4 = .ok (.ifCond .ne 7, 3) := by decide +kernel
theorem dX3_isEmpty_7 : decode cX3_isEmpty 7 = .ok (.iconst 1, 1) := by decide +kernel
theorem dX3_isEmpty_8 : decode cX3_isEmpty 8 = .ok (.goto 4, 3) := by decide +kernel
theorem dX3_isEmpty_11 : decode cX3_isEmpty 11 = .ok (.iconst 0, 1) := by decide +kernel
theorem dX3_isEmpty_12 : decode cX3_isEmpty 12 = .ok (.ireturn, 1) := by decide +kernel
theorem dX3_forgetAll_0 : decode cX3_forgetAll 0 = .ok (.aload_n 0, 1) := by decide +kernel
theorem dX3_forgetAll_1 : decode cX3_forgetAll 1 = .ok (.iconst 0, 1) := by decide +kernel
theorem dX3_forgetAll_2 : decode cX3_forgetAll 2 = .ok (.putfield 15, 3) := by decide +kernel
theorem dX3_forgetAll_5 : decode cX3_forgetAll 5 = .ok (.return_, 1) := by decide +kernel
theorem dX3_remember_0 : decode cX3_remember 0 = .ok (.aload_n 0, 1) := by decide +kernel
theorem dX3_remember_1 : decode cX3_remember 1 = .ok (.getfield 15, 3) := by decide +kernel
theorem dX3_remember_4 : decode cX3_remember 4 = .ok (.aload_n 0, 1) := by decide +kernel
theorem dX3_remember_5 : decode cX3_remember 5 = .ok (.getfield 11, 3) := by decide +kernel
theorem dX3_remember_8 : decode cX3_remember 8 = .ok (.arraylength, 1) := by decide +kernel
theorem dX3_remember_9 : decode cX3_remember 9 = .ok (.if_icmp .lt 7, 3) := by decide +kernel
theorem dX3_remember_12 : decode cX3_remember 12 = .ok (.aload_n 0, 1) := by decide +kernel
theorem dX3_remember_13 : decode cX3_remember 13 = .ok (.invokevirtual 20, 3) := by decide +kernel
theorem dX3_remember_16 : decode cX3_remember 16 = .ok (.aload_n 0, 1) := by decide +kernel
theorem dX3_remember_17 : decode cX3_remember 17 = .ok (.getfield 15, 3) := by decide +kernel
theorem dX3_remember_20 : decode cX3_remember 20 = .ok (.ifCond .lt 50, 3) := by decide +kernel
theorem dX3_remember_23 : decode cX3_remember 23 = .ok (.aload_n 0, 1) := by decide +kernel
theorem dX3_remember_24 : decode cX3_remember 24 = .ok (.getfield 15, 3) := by decide +kernel
theorem dX3_remember_27 : decode cX3_remember 27 = .ok (.aload_n 0, 1) := by decide +kernel
theorem dX3_remember_28 : decode cX3_remember 28 = .ok (.getfield 11, 3) := by decide +kernel
theorem dX3_remember_31 : decode cX3_remember 31 = .ok (.arraylength, 1) := by decide +kernel
theorem dX3_remember_32 : decode cX3_remember 32 = .ok (.if_icmp .ge 38, 3) := by decide +kernel
theorem dX3_remember_35 : decode cX3_remember 35 = .ok (.aload_n 0, 1) := by decide +kernel
theorem dX3_remember_36 : decode cX3_remember 36 = .ok (.getfield 11, 3) := by decide +kernel
theorem dX3_remember_39 : decode cX3_remember 39 = .ok (.aload_n 0, 1) := by decide +kernel
theorem dX3_remember_40 : decode cX3_remember 40 = .ok (.getfield 15, 3) := by decide +kernel
theorem dX3_remember_43 : decode cX3_remember 43 = .ok (.aaload, 1) := by decide +kernel
theorem dX3_remember_44 : decode cX3_remember 44 = .ok (.ifnull 26, 3) := by decide +kernel
theorem dX3_remember_47 : decode cX3_remember 47 = .ok (.aload_n 0, 1) := by decide +kernel
theorem dX3_remember_48 : decode cX3_remember 48 = .ok (.getfield 11, 3) := by decide +kernel
theorem dX3_remember_51 : decode cX3_remember 51 = .ok (.aload_n 0, 1) := by decide +kernel
theorem dX3_remember_52 : decode cX3_remember 52 = .ok (.getfield 15, 3) := by decide +kernel
theorem dX3_remember_55 : decode cX3_remember 55 = .ok (.aaload, 1) := by decide +kernel
theorem dX3_remember_56 : decode cX3_remember 56 = .ok (.aload_n 1, 1) := by decide +kernel
theorem dX3_remember_57 : decode cX3_remember 57 = .ok (.invokevirtual 23, 3) := by decide +kernel
theorem dX3_remember_60 : decode cX3_remember 60 = .ok (.aload_n 0, 1) := by decide +kernel
theorem dX3_remember_61 : decode cX3_remember 61 = .ok (.dup, 1) := by decide +kernel
theorem dX3_remember_62 : decode cX3_remember 62 = .ok (.getfield 15, 3) := by decide +kernel
theorem dX3_remember_65 : decode cX3_remember 65 = .ok (.iconst 1, 1) := by decide +kernel
theorem dX3_remember_66 : decode cX3_remember 66 = .ok (.iadd, 1) := by decide +kernel
theorem dX3_remember_67 : decode cX3_remember 67 = .ok (.putfield 15, 3) := by decide +kernel
theorem dX3_remember_70 : decode cX3_remember 70 = .ok (.return_, 1) := by decide +kernel
theorem dX3_forgetOldest_0 : decode cX3_forgetOldest 0 = .ok (.iconst 1, 1) := by decide +kernel
theorem dX3_forgetOldest_1 : decode cX3_forgetOldest 1 = .ok (.istore_n 1, 1) := by decide +kernel
theorem dX3_forgetOldest_2 : decode cX3_forgetOldest 2 = .ok (.iload_n 1, 1) := by decide +kernel
theorem dX3_forgetOldest_3 : decode cX3_forgetOldest 3 = .ok (.aload_n 0, 1) := by decide +kernel
theorem dX3_forgetOldest_4 : decode cX3_forgetOldest 4 = .ok (.getfield 11, 3) := by decide +kernel
theorem dX3_forgetOldest_7 : decode cX3_forgetOldest 7 = .ok (.arraylength, 1) := by decide +kernel
theorem dX3_forgetOldest_8 : decode cX3_forgetOldest 8 = .ok (.if_icmp .ge 39, 3) := by decide +kernel
theorem dX3_forgetOldest_11 : decode cX3_forgetOldest 11 = .ok (.aload_n 0, 1) := by decide +kernel
theorem dX3_forgetOldest_12 : decode cX3_forgetOldest 12 = .ok (.getfield 11, 3) := by decide +kernel
theorem dX3_forgetOldest_15 : decode cX3_forgetOldest 15 = .ok (.iload_n 1, 1) := by decide +kernel
theorem dX3_forgetOldest_16 : decode cX3_forgetOldest 16 = .ok (.iconst 1, 1) := by decide +kernel
theorem dX3_forgetOldest_17 : decode cX3_forgetOldest 17 = .ok (.isub, 1) := by decide +kernel
theorem dX3_forgetOldest_18 : decode cX3_forgetOldest 18 = .ok (.aaload, 1) := by decide +kernel
theorem dX3_forgetOldest_19 : decode cX3_forgetOldest 19 = .ok (.astore_n 2, 1) := by decide +kernel
theorem dX3_forgetOldest_20 : decode cX3_forgetOldest 20 = .ok (.aload_n 0, 1) := by decide +kernel
theorem dX3_forgetOldest_21 : decode cX3_forgetOldest 21 = .ok (.getfield 11, 3) := by decide +kernel
theorem dX3_forgetOldest_24 : decode cX3_forgetOldest 24 = .ok (.iload_n 1, 1) := by decide +kernel
theorem dX3_forgetOldest_25 : decode cX3_forgetOldest 25 = .ok (.iconst 1, 1) := by decide +kernel
theorem dX3_forgetOldest_26 : decode cX3_forgetOldest 26 = .ok (.isub, 1) := by decide +kernel
theorem dX3_forgetOldest_27 : decode cX3_forgetOldest 27 = .ok (.aload_n 0, 1) := by decide +kernel
theorem dX3_forgetOldest_28 : decode cX3_forgetOldest 28 = .ok (.getfield 11, 3) := by decide +kernel
theorem dX3_forgetOldest_31 : decode cX3_forgetOldest 31 = .ok (.iload_n 1, 1) := by decide +kernel
theorem dX3_forgetOldest_32 : decode cX3_forgetOldest 32 = .ok (.aaload, 1) := by decide +kernel
theorem dX3_forgetOldest_33 : decode cX3_forgetOldest 33 = .ok (.aastore, 1) := by decide +kernel
theorem dX3_forgetOldest_34 : decode cX3_forgetOldest 34 = .ok (.aload_n 0, 1) := by decide +kernel
theorem dX3_forgetOldest_35 : decode cX3_forgetOldest 35 = .ok (.getfield 11, 3) := by decide +kernel
theorem dX3_forgetOldest_38 : decode cX3_forgetOldest 38 = .ok (.iload_n 1, 1) := by decide +kernel
theorem dX3_forgetOldest_39 : decode cX3_forgetOldest 39 = .ok (.aload_n 2, 1) := by decide +kernel
theorem dX3_forgetOldest_40 : decode cX3_forgetOldest 40 = .ok (.aastore, 1) := by decide +kernel
theorem dX3_forgetOldest_41 : decode cX3_forgetOldest 41 = .ok (.iinc 1 1, 3) := by decide +kernel
theorem dX3_forgetOldest_44 : decode cX3_forgetOldest 44 = .ok (.goto (-42), 3) := by decide +kernel
theorem dX3_forgetOldest_47 : decode cX3_forgetOldest 47 = .ok (.aload_n 0, 1) := by decide +kernel
theorem dX3_forgetOldest_48 : decode cX3_forgetOldest 48 = .ok (.dup, 1) := by decide +kernel
theorem dX3_forgetOldest_49 : decode cX3_forgetOldest 49 = .ok (.getfield 15, 3) := by decide +kernel
theorem dX3_forgetOldest_52 : decode cX3_forgetOldest 52 = .ok (.iconst 1, 1) := by decide +kernel
theorem dX3_forgetOldest_53 : decode cX3_forgetOldest 53 = .ok (.isub, 1) := by decide +kernel
theorem dX3_forgetOldest_54 : decode cX3_forgetOldest 54 = .ok (.putfield 15, 3) := by decide +kernel
theorem dX3_forgetOldest_57 : decode cX3_forgetOldest 57 = .ok (.return_, 1) := by decide +kernel
theorem dX3_takeBack_0 : decode cX3_takeBack 0 = .ok (.aload_n 0, 1) := by decide +kernel
theorem dX3_takeBack_1 : decode cX3_takeBack 1 = .ok (.getfield 15, 3) := by decide +kernel
theorem dX3_takeBack_4 : decode cX3_takeBack 4 = .ok (.ifCond .le 52, 3) := by decide +kernel
theorem dX3_takeBack_7 : decode cX3_takeBack 7 = .ok (.aload_n 0, 1) := by decide +kernel
theorem dX3_takeBack_8 : decode cX3_takeBack 8 = .ok (.getfield 15, 3) := by decide +kernel
theorem dX3_takeBack_11 : decode cX3_takeBack 11 = .ok (.aload_n 0, 1) := by decide +kernel
theorem dX3_takeBack_12 : decode cX3_takeBack 12 = .ok (.getfield 11, 3) := by decide +kernel
theorem dX3_takeBack_15 : decode cX3_takeBack 15 = .ok (.arraylength, 1) := by decide +kernel
theorem dX3_takeBack_16 : decode cX3_takeBack 16 = .ok (.if_icmp .gt 40, 3) := by decide +kernel
theorem dX3_takeBack_19 : decode cX3_takeBack 19 = .ok (.aload_n 0, 1) := by decide +kernel
theorem dX3_takeBack_20 : decode cX3_takeBack 20 = .ok (.getfield 11, 3) := by decide +kernel
theorem dX3_takeBack_23 : decode cX3_takeBack 23 = .ok (.aload_n 0, 1) := by decide +kernel
theorem dX3_takeBack_24 : decode cX3_takeBack 24 = .ok (.getfield 15, 3) := by decide +kernel
theorem dX3_takeBack_27 : decode cX3_takeBack 27 = .ok (.iconst 1, 1) := by decide +kernel
theorem dX3_takeBack_28 : decode cX3_takeBack 28 = .ok (.isub, 1) := by decide +kernel
theorem dX3_takeBack_29 : decode cX3_takeBack 29 = .ok (.aaload, 1) := by decide +kernel
theorem dX3_takeBack_30 : decode cX3_takeBack 30 = .ok (.ifnull 26, 3) := by decide +kernel
theorem dX3_takeBack_33 : decode cX3_takeBack 33 = .ok (.aload_n 0, 1) := by decide +kernel
theorem dX3_takeBack_34 : decode cX3_takeBack 34 = .ok (.dup, 1) := by decide +kernel
theorem dX3_takeBack_35 : decode cX3_takeBack 35 = .ok (.getfield 15, 3) := by decide +kernel
theorem dX3_takeBack_38 : decode cX3_takeBack 38 = .ok (.iconst 1, 1) := by decide +kernel
theorem dX3_takeBack_39 : decode cX3_takeBack 39 = .ok (.isub, 1) := by decide +kernel
theorem dX3_takeBack_40 : decode cX3_takeBack 40 = .ok (.putfield 15, 3) := by decide +kernel
theorem dX3_takeBack_43 : decode cX3_takeBack 43 = .ok (.aload_n 1, 1) := by decide +kernel
theorem dX3_takeBack_44 : decode cX3_takeBack 44 = .ok (.aload_n 0, 1) := by decide +kernel
theorem dX3_takeBack_45 : decode cX3_takeBack 45 = .ok (.getfield 11, 3) := by decide +kernel
theorem dX3_takeBack_48 : decode cX3_takeBack 48 = .ok (.aload_n 0, 1) := by decide +kernel
theorem dX3_takeBack_49 : decode cX3_takeBack 49 = .ok (.getfield 15, 3) := by decide +kernel
theorem dX3_takeBack_52 : decode cX3_takeBack 52 = .ok (.aaload, 1) := by decide +kernel
theorem dX3_takeBack_53 : decode cX3_takeBack 53 = .ok (.invokevirtual 23, 3) := by decide +kernel
theorem dX3_takeBack_56 : decode cX3_takeBack 56 = .ok (.aload_n 0, 1) := by decide +kernel
theorem dX3_takeBack_57 : decode cX3_takeBack 57 = .ok (.getfield 15, 3) := by decide +kernel
theorem dX3_takeBack_60 : decode cX3_takeBack 60 = .ok (.ireturn, 1) := by decide +kernel
theorem dX4_init_0 : decode cX4_init 0 = .ok (.aload_n 0, 1) := by decide +kernel
theorem dX4_init_1 : decode cX4_init 1 = .ok (.invokespecial 3, 3) := by decide +kernel
theorem dX4_init_4 : decode cX4_init 4 = .ok (.aload_n 0, 1) := by decide +kernel
theorem dX4_init_5 : decode cX4_init 5 = .ok (.iconst 3, 1) := by decide +kernel
theorem dX4_init_6 : decode cX4_init 6 = .ok (.putfield 9, 3) := by decide +kernel
theorem dX4_init_9 : decode cX4_init 9 = .ok (.aload_n 0, 1) := by decide +kernel
theorem dX4_init_10 : decode cX4_init 10 = .ok (.iconst 3, 1) := by decide +kernel
theorem dX4_init_11 : decode cX4_init 11 = .ok (.putfield 15, 3) := by decide +kernel
theorem dX4_init_14 : decode cX4_init 14 = .ok (.aload_n 0, 1) := by decide +kernel
theorem dX4_init_15 : decode cX4_init 15 = .ok (.lconst 0, 1) := by decide +kernel
theorem dX4_init_16 : decode cX4_init 16 = .ok (.putfield 18, 3) := by decide +kernel
