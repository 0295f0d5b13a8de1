theorem dX0_bit_0 : decode cX0_bit 0 = .ok (.lconst 1, 1) := by decide +kernel
theorem dX0_bit_1 : decode cX0_bit 1 = .ok (.bipush 8, 2) := by decide +kernel
theorem dX0_bit_3 : decode cX0_bit 3 = .ok (.iload_n 0, 1) := by decide +kernel
theorem dX0_bit_4 : decode cX0_bit 4 = .ok (.imul, 1) := by decide +kernel
theorem dX0_bit_5 : decode cX0_bit 5 = .ok (.iload_n 1, 1) := by decide +kernel
theorem dX0_bit_6 : decode cX0_bit 6 = .ok (.iadd, 1) := by decide +kernel
theorem dX0_bit_7 : decode cX0_bit 7 = .ok (.lshl, 1) := by decide +kernel
theorem dX0_bit_8 : decode cX0_bit 8 = .ok (.lreturn, 1) := by decide +kernel
theorem dX0_rowMask_0 : decode cX0_rowMask 0 = .ok (.ldc2_w 11, 3) := by decide +kernel
theorem dX0_rowMask_3 : decode cX0_rowMask 3 = .ok (.bipush 8, 2) := by decide +kernel
theorem dX0_rowMask_5 : decode cX0_rowMask 5 = .ok (.iload_n 0, 1) := by decide +kernel
theorem dX0_rowMask_6 : decode cX0_rowMask 6 = .ok (.imul, 1) := by decide +kernel
theorem dX0_rowMask_7 : decode cX0_rowMask 7 = .ok (.lshl, 1) := by decide +kernel
theorem dX0_rowMask_8 : decode cX0_rowMask 8 = .ok (.lreturn, 1) := by decide +kernel
theorem dX0_columnMask_0 : decode cX0_columnMask 0 = .ok (.ldc2_w 13, 3) := by decide +kernel
theorem dX0_columnMask_3 : decode cX0_columnMask 3 = .ok (.iload_n 0, 1) := by decide +kernel
theorem dX0_columnMask_4 : decode cX0_columnMask 4 = .ok (.lshl, 1) := by decide +kernel
theorem dX0_columnMask_5 : decode cX0_columnMask 5 = .ok (.lreturn, 1) := by decide +kernel
theorem dX0_inRow_0 : decode cX0_inRow 0 = .ok (.lload_n 0, 1) := by decide +kernel
theorem dX0_inRow_1 : decode cX0_inRow 1 = .ok (.bipush 8, 2) := by decide +kernel
theorem dX0_inRow_3 : decode cX0_inRow 3 = .ok (.iload_n 2, 1) := by decide +kernel
theorem dX0_inRow_4 : decode cX0_inRow 4 = .ok (.imul, 1) := by decide +kernel
theorem dX0_inRow_5 : decode cX0_inRow 5 = .ok (.lushr, 1) := by decide +kernel
theorem dX0_inRow_6 : decode cX0_inRow 6 = .ok (.l2i, 1) := by decide +kernel
theorem dX0_inRow_7 : decode cX0_inRow 7 = .ok (.bipush 63, 2) := by decide +kernel
theorem dX0_inRow_9 : decode cX0_inRow 9 = .ok (.iand, 1) := by decide +kernel
theorem dX0_inRow_10 : decode cX0_inRow 10 = .ok (.ireturn, 1) := by decide +kernel
theorem dX0_rowAt_0 : decode cX0_rowAt 0 = .ok (.iload_n 0, 1) := by decide +kernel
theorem dX0_rowAt_1 : decode cX0_rowAt 1 = .ok (.iconst 3, 1) := by decide +kernel
theorem dX0_rowAt_2 : decode cX0_rowAt 2 = .ok (.ishr, 1) := by decide +kernel
theorem dX0_rowAt_3 : decode cX0_rowAt 3 = .ok (.ireturn, 1) := by decide +kernel
theorem dX0_columnAt_0 : decode cX0_columnAt 0 = .ok (.iload_n 0, 1) := by decide +kernel
theorem dX0_columnAt_1 : decode cX0_columnAt 1 = .ok (.bipush 7, 2) := by decide +kernel
theorem dX0_columnAt_3 : decode cX0_columnAt 3 = .ok (.iand, 1) := by decide +kernel
theorem dX0_columnAt_4 : decode cX0_columnAt 4 = .ok (.ireturn, 1) := by decide +kernel
theorem dX0_code_0 : decode cX0_code 0 = .ok (.bipush 10, 2) := by decide +kernel
theorem dX0_code_2 : decode cX0_code 2 = .ok (.iload_n 0, 1) := by decide +kernel
theorem dX0_code_3 : decode cX0_code 3 = .ok (.invokestatic 15, 3) := by decide +kernel
theorem dX0_code_6 : decode cX0_code 6 = .ok (.imul, 1) := by decide +kernel
theorem dX0_code_7 : decode cX0_code 7 = .ok (.iload_n 0, 1) := by decide +kernel
theorem dX0_code_8 : decode cX0_code 8 = .ok (.invokestatic 19, 3) := by decide +kernel
theorem dX0_code_11 : decode cX0_code 11 = .ok (.iadd, 1) := by decide +kernel
theorem dX0_code_12 : decode cX0_code 12 = .ok (.ireturn, 1) := by decide +kernel
theorem dX0_firstPosition_0 : decode cX0_firstPosition 0 = .ok (.lload_n 0, 1) := by decide +kernel
theorem dX0_firstPosition_1 : decode cX0_firstPosition 1 = .ok (.lload_n 0, 1) := by decide +kernel
theorem dX0_firstPosition_2 : decode cX0_firstPosition 2 = .ok (.lneg, 1) := by decide +kernel
theorem dX0_firstPosition_3 : decode cX0_firstPosition 3 = .ok (.land, 1) := by decide +kernel
theorem dX0_firstPosition_4 : decode cX0_firstPosition 4 = .ok (.lconst 1, 1) := by decide +kernel
theorem dX0_firstPosition_5 : decode cX0_firstPosition 5 = .ok (.lsub, 1) := by decide +kernel
theorem dX0_firstPosition_6 : decode cX0_firstPosition 6 = .ok (.invokestatic 22, 3) := by decide +kernel
theorem dX0_firstPosition_9 : decode cX0_firstPosition 9 = .ok (.ireturn, 1) := by decide +kernel
theorem dX0_outline_0 : decode cX0_outline 0 = .ok (.lload_n 0, 1) := by decide +kernel
theorem dX0_outline_1 : decode cX0_outline 1 = .ok (.lload_n 2, 1) := by decide +kernel
theorem dX0_outline_2 : decode cX0_outline 2 = .ok (.iconst 1, 1) := by decide +kernel
theorem dX0_outline_3 : decode cX0_outline 3 = .ok (.lshl, 1) := by decide +kernel
theorem dX0_outline_4 : decode cX0_outline 4 = .ok (.ldc2_w 28, 3) := by decide +kernel
theorem dX0_outline_7 : decode cX0_outline 7 = .ok (.lxor, 1) := by decide +kernel
theorem dX0_outline_8 : decode cX0_outline 8 = .ok (.land, 1) := by decide +kernel
theorem dX0_outline_9 : decode cX0_outline 9 = .ok (.invokestatic 22, 3) := by decide +kernel
theorem dX0_outline_12 : decode cX0_outline 12 = .ok (.lload_n 0, 1) := by decide +kernel
theorem dX0_outline_13 : decode cX0_outline 13 = .ok (.lload_n 2, 1) := by decide +kernel
theorem dX0_outline_14 : decode cX0_outline 14 = .ok (.iconst 1, 1) := by decide +kernel
theorem dX0_outline_15 : decode cX0_outline 15 = .ok (.lushr, 1) := by decide +kernel
theorem dX0_outline_16 : decode cX0_outline 16 = .ok (.ldc2_w 28, 3) := by decide +kernel
theorem dX0_outline_19 : decode cX0_outline 19 = .ok (.lxor, 1) := by decide +kernel
theorem dX0_outline_20 : decode cX0_outline 20 = .ok (.land, 1) := by decide +kernel
theorem dX0_outline_21 : decode cX0_outline 21 = .ok (.invokestatic 22, 3) := by decide +kernel
theorem dX0_outline_24 : decode cX0_outline 24 = .ok (.iadd, 1) := by decide +kernel
theorem dX0_outline_25 : decode cX0_outline 25 = .ok (.lload_n 0, 1) := by decide +kernel
theorem dX0_outline_26 : decode cX0_outline 26 = .ok (.lload_n 2, 1) := by decide +kernel
theorem dX0_outline_27 : decode cX0_outline 27 = .ok (.bipush 8, 2) := by decide +kernel
theorem dX0_outline_29 : decode cX0_outline 29 = .ok (.lshl, 1) := by decide +kernel
theorem dX0_outline_30 : decode cX0_outline 30 = .ok (.ldc2_w 28, 3) := by decide +kernel
theorem dX0_outline_33 : decode cX0_outline 33 = .ok (.lxor, 1) := by decide +kernel
theorem dX0_outline_34 : decode cX0_outline 34 = .ok (.land, 1) := by decide +kernel
theorem dX0_outline_35 : decode cX0_outline 35 = .ok (.invokestatic 22, 3) := by decide +kernel
theorem dX0_outline_38 : decode cX0_outline 38 = .ok (.iadd, 1) := by decide +kernel
theorem dX0_outline_39 : decode cX0_outline 39 = .ok (.lload_n 0, 1) := by decide +kernel
theorem dX0_outline_40 : decode cX0_outline 40 = .ok (.lload_n 2, 1) := by decide +kernel
theorem dX0_outline_41 : decode cX0_outline 41 = .ok (.bipush 8, 2) := by decide +kernel
theorem dX0_outline_43 : decode cX0_outline 43 = .ok (.lushr, 1) := by decide +kernel
theorem dX0_outline_44 : decode cX0_outline 44 = .ok (.ldc2_w 28, 3) := by decide +kernel
theorem dX0_outline_47 : decode cX0_outline 47 = .ok (.lxor, 1) := by decide +kernel
theorem dX0_outline_48 : decode cX0_outline 48 = .ok (.land, 1) := by decide +kernel
theorem dX0_outline_49 : decode cX0_outline 49 = .ok (.invokestatic 22, 3) := by decide +kernel
theorem dX0_outline_52 : decode cX0_outline 52 = .ok (.iadd, 1) := by decide +kernel
theorem dX0_outline_53 : decode cX0_outline 53 = .ok (.ireturn, 1) := by decide +kernel
theorem dX0_countRuns_0 : decode cX0_countRuns 0 = .ok (.lload_n 0, 1) := by decide +kernel
theorem dX0_countRuns_1 : decode cX0_countRuns 1 = .ok (.lload_n 0, 1) := by decide +kernel
theorem dX0_countRuns_2 : decode cX0_countRuns 2 = .ok (.iload_n 2, 1) := by decide +kernel
theorem dX0_countRuns_3 : decode cX0_countRuns 3 = .ok (.lshl, 1) := by decide +kernel
theorem dX0_countRuns_4 : decode cX0_countRuns 4 = .ok (.ldc2_w 28, 3) := by decide +kernel
theorem dX0_countRuns_7 : decode cX0_countRuns 7 = .ok (.lxor, 1) := by decide +kernel
theorem dX0_countRuns_8 : decode cX0_countRuns 8 = .ok (.land, 1) := by decide +kernel
theorem dX0_countRuns_9 : decode cX0_countRuns 9 = .ok (.invokestatic 22, 3) := by decide +kernel
theorem dX0_countRuns_12 : decode cX0_countRuns 12 = .ok (.ireturn, 1) := by decide +kernel
theorem dX0_longestRun_0 : decode cX0_longestRun 0 = .ok (.iconst 0, 1) := by decide +kernel
theorem dX0_longestRun_1 : decode cX0_longestRun 1 = .ok (.istore_n 3, 1) := by decide +kernel
theorem dX0_longestRun_2 : decode cX0_longestRun 2 = .ok (.lload_n 0, 1) := by decide +kernel
theorem dX0_longestRun_3 : decode cX0_longestRun 3 = .ok (.lstore 4, 2) := by decide +kernel
theorem dX0_longestRun_5 : decode cX0_longestRun 5 = .ok (.iconst 0, 1) := by decide +kernel
theorem dX0_longestRun_6 : decode cX0_longestRun 6 = .ok (.istore 6, 2) := by decide +kernel
theorem dX0_longestRun_8 : decode cX0_longestRun 8 = .ok (.iload 6, 2) := by decide +kernel
theorem dX0_longestRun_10 : decode cX0_longestRun 10 = .ok (.bipush 6, 2) := by decide +kernel
theorem dX0_longestRun_12 : decode cX0_longestRun 12 = .ok (.if_icmp .ge 28, 3) := by decide +kernel
theorem dX0_longestRun_15 : decode cX0_longestRun 15 = .ok (.lload 4, 2) := by decide +kernel
theorem dX0_longestRun_17 : decode cX0_longestRun 17 = .ok (.lconst 0, 1) := by decide +kernel
theorem dX0_longestRun_18 : decode cX0_longestRun 18 = .ok (.lcmp, 1) := by decide +kernel
theorem dX0_longestRun_19 : decode cX0_longestRun 19 = .ok (.ifCond .eq 21, 3) := by decide +kernel
theorem dX0_longestRun_22 : decode cX0_longestRun 22 = .ok (.iinc 3 1, 3) := by decide +kernel
theorem dX0_longestRun_25 : decode cX0_longestRun 25 = .ok (.lload 4, 2) := by decide +kernel
theorem dX0_longestRun_27 : decode cX0_longestRun 27 = .ok (.lload 4, 2) := by decide +kernel
theorem dX0_longestRun_29 : decode cX0_longestRun 29 = .ok (.iload_n 2, 1) := by decide +kernel
theorem dX0_longestRun_30 : decode cX0_longestRun 30 = .ok (.lshl, 1) := by decide +kernel
theorem dX0_longestRun_31 : decode cX0_longestRun 31 = .ok (.land, 1) := by decide +kernel
theorem dX0_longestRun_32 : decode cX0_longestRun 32 = .ok (.lstore 4, 2) := by decide +kernel
theorem dX0_longestRun_34 : decode cX0_longestRun 34 = .ok (.iinc 6 1, 3) := by decide +kernel
theorem dX0_longestRun_37 : decode cX0_longestRun 37 = .ok (.goto (-29), 3) := by decide +kernel
theorem dX0_longestRun_40 : decode cX0_longestRun 40 = .ok (.iload_n 3, 1) := by decide +kernel
theorem dX0_longestRun_41 : decode cX0_longestRun 41 = .ok (.ireturn, 1) := by decide +kernel
theorem dX0_countRowsOf_0 : decode cX0_countRowsOf 0 = .ok (.iconst 0, 1) := by decide +kernel
theorem dX0_countRowsOf_1 : decode cX0_countRowsOf 1 = .ok (.istore_n 2, 1) := by decide +kernel
theorem dX0_countRowsOf_2 : decode cX0_countRowsOf 2 = .ok (.iconst 0, 1) := by decide +kernel
theorem dX0_countRowsOf_3 : decode cX0_countRowsOf 3 = .ok (.istore_n 3, 1) := by decide +kernel
theorem dX0_countRowsOf_4 : decode cX0_countRowsOf 4 = .ok (.iload_n 3, 1) := by decide +kernel
theorem dX0_countRowsOf_5 : decode cX0_countRowsOf 5 = .ok (.bipush 6, 2) := by decide +kernel
theorem dX0_countRowsOf_7 : decode cX0_countRowsOf 7 = .ok (.if_icmp .ge 31, 3) := by decide +kernel
theorem dX0_countRowsOf_10 : decode cX0_countRowsOf 10 = .ok (.iload_n 2, 1) := by decide +kernel
theorem dX0_countRowsOf_11 : decode cX0_countRowsOf 11 = .ok (.lload_n 0, 1) := by decide +kernel
theorem dX0_countRowsOf_12 : decode cX0_countRowsOf 12 = .ok (.iload_n 3, 1) := by decide +kernel
theorem dX0_countRowsOf_13 : decode cX0_countRowsOf 13 = .ok (.invokestatic 30, 3) := by decide +kernel
theorem dX0_countRowsOf_16 : decode cX0_countRowsOf 16 = .ok (.land, 1) := by decide +kernel
theorem dX0_countRowsOf_17 : decode cX0_countRowsOf 17 = .ok (.lconst 0, 1) := by decide +kernel
theorem dX0_countRowsOf_18 : decode cX0_countRowsOf 18 = .ok (.lcmp, 1) := by decide +kernel
theorem dX0_countRowsOf_19 : decode cX0_countRowsOf 19 = .ok (.ifCond .eq 7, 3) := by decide +kernel
theorem dX0_countRowsOf_22 : decode cX0_countRowsOf 22 = .ok (.iconst 1, 1) := by decide +kernel
theorem dX0_countRowsOf_23 : decode cX0_countRowsOf 23 = .ok (.goto 4, 3) := by decide +kernel
theorem dX0_countRowsOf_26 : decode cX0_countRowsOf 26 = .ok (.iconst 0, 1) := by decide +kernel
theorem dX0_countRowsOf_27 : decode cX0_countRowsOf 27 = .ok (.invokestatic 34, 3) := by decide +kernel
theorem dX0_countRowsOf_30 : decode cX0_countRowsOf 30 = .ok (.iadd, 1) := by decide +kernel
theorem dX0_countRowsOf_31 : decode cX0_countRowsOf 31 = .ok (.istore_n 2, 1) := by decide +kernel
theorem dX0_countRowsOf_32 : decode cX0_countRowsOf 32 = .ok (.iinc 3 1, 3) := by decide +kernel
theorem dX0_countRowsOf_35 : decode cX0_countRowsOf 35 = .ok (.goto (-31), 3) := by decide +kernel
theorem dX0_countRowsOf_38 : decode cX0_countRowsOf 38 = .ok (.iload_n 2, 1) := by decide +kernel
theorem dX0_countRowsOf_39 : decode cX0_countRowsOf 39 = .ok (.ireturn, 1) := by decide +kernel
theorem dX0_countColumnsOf_0 : decode cX0_countColumnsOf 0 = .ok (.iconst 0, 1) := by decide +kernel
theorem dX0_countColumnsOf_1 : decode cX0_countColumnsOf 1 = .ok (.istore_n 2, 1) := by decide +kernel
theorem dX0_countColumnsOf_2 : decode cX0_countColumnsOf 2 = .ok (.iconst 0, 1) := by decide +kernel
theorem dX0_countColumnsOf_3 : decode cX0_countColumnsOf 3 = .ok (.istore_n 3, 1) := by decide +kernel
theorem dX0_countColumnsOf_4 : decode cX0_countColumnsOf 4 = .ok (.iload_n 3, 1) := by decide +kernel
theorem dX0_countColumnsOf_5 : decode cX0_countColumnsOf 5 = .ok (.bipush 6, 2) := by decide +kernel
theorem dX0_countColumnsOf_7 : decode cX0_countColumnsOf 7 = .ok (.if_icmp .ge 31, 3) := by decide +kernel
theorem dX0_countColumnsOf_10 : decode cX0_countColumnsOf 10 = .ok (.iload_n 2, 1) := by decide +kernel
theorem dX0_countColumnsOf_11 : decode cX0_countColumnsOf 11 = .ok (.lload_n 0, 1) := by decide +kernel
theorem dX0_countColumnsOf_12 : decode cX0_countColumnsOf 12 = .ok (.iload_n 3, 1) := by decide +kernel
theorem dX0_countColumnsOf_13 : decode cX0_countColumnsOf 13 = .ok (.invokestatic 38, 3) := by decide +kernel
theorem dX0_countColumnsOf_16 : decode cX0_countColumnsOf 16 = .ok (.land, 1) := by decide +kernel
theorem dX0_countColumnsOf_17 : decode cX0_countColumnsOf 17 = .ok (.lconst 0, 1) := by decide +kernel
theorem dX0_countColumnsOf_18 : decode cX0_countColumnsOf 18 = .ok (.lcmp, 1) := by decide +kernel
theorem dX0_countColumnsOf_19 : decode cX0_countColumnsOf 19 = .ok (.ifCond .eq 7, 3) := by decide +kernel
theorem dX0_countColumnsOf_22 : decode cX0_countColumnsOf 22 = .ok (.iconst 1, 1) := by decide +kernel
theorem dX0_countColumnsOf_23 : decode cX0_countColumnsOf 23 = .ok (.goto 4, 3) := by decide +kernel
theorem dX0_countColumnsOf_26 : decode cX0_countColumnsOf 26 = .ok (.iconst 0, 1) := by decide +kernel
theorem dX0_countColumnsOf_27 : decode cX0_countColumnsOf 27 = .ok (.invokestatic 34, 3) := by decide +kernel
theorem dX0_countColumnsOf_30 : decode cX0_countColumnsOf 30 = .ok (.iadd, 1) := by decide +kernel
theorem dX0_countColumnsOf_31 : decode cX0_countColumnsOf 31 = .ok (.istore_n 2, 1) := by decide +kernel
theorem dX0_countColumnsOf_32 : decode cX0_countColumnsOf 32 = .ok (.iinc 3 1, 3) := by decide +kernel
theorem dX0_countColumnsOf_35 : decode cX0_countColumnsOf 35 = .ok (.goto (-31), 3) := by decide +kernel
theorem dX0_countColumnsOf_38 : decode cX0_countColumnsOf 38 = .ok (.iload_n 2, 1) := by decide +kernel
theorem dX0_countColumnsOf_39 : decode cX0_countColumnsOf 39 = .ok (.ireturn, 1) := by decide +kernel
theorem dX0_firstPiece_0 : decode cX0_firstPiece 0 = .ok (.lload_n 0, 1) := by decide +kernel
theorem dX0_firstPiece_1 : decode cX0_firstPiece 1 = .ok (.lload_n 0, 1) := by decide +kernel
theorem dX0_firstPiece_2 : decode cX0_firstPiece 2 = .ok (.lneg, 1) := by decide +kernel
theorem dX0_firstPiece_3 : decode cX0_firstPiece 3 = .ok (.land, 1) := by decide +kernel
theorem dX0_firstPiece_4 : decode cX0_firstPiece 4 = .ok (.lstore_n 2, 1) := by decide +kernel
theorem dX0_firstPiece_5 : decode cX0_firstPiece 5 = .ok (.iconst 0, 1) := by decide +kernel
theorem dX0_firstPiece_6 : decode cX0_firstPiece 6 = .ok (.istore 4, 2) := by decide +kernel
theorem dX0_firstPiece_8 : decode cX0_firstPiece 8 = .ok (.iload 4, 2) := by decide +kernel
theorem dX0_firstPiece_10 : decode cX0_firstPiece 10 = .ok (.bipush 48, 2) := by decide +kernel
theorem dX0_firstPiece_12 : decode cX0_firstPiece 12 = .ok (.if_icmp .ge 45, 3) := by decide +kernel
theorem dX0_firstPiece_15 : decode cX0_firstPiece 15 = .ok (.lload_n 0, 1) := by decide +kernel
theorem dX0_firstPiece_16 : decode cX0_firstPiece 16 = .ok (.lload_n 2, 1) := by decide +kernel
theorem dX0_firstPiece_17 : decode cX0_firstPiece 17 = .ok (.lload_n 2, 1) := by decide +kernel
theorem dX0_firstPiece_18 : decode cX0_firstPiece 18 = .ok (.iconst 1, 1) := by decide +kernel
theorem dX0_firstPiece_19 : decode cX0_firstPiece 19 = .ok (.lshl, 1) := by decide +kernel
theorem dX0_firstPiece_20 : decode cX0_firstPiece 20 = .ok (.lor, 1) := by decide +kernel
theorem dX0_firstPiece_21 : decode cX0_firstPiece 21 = .ok (.lload_n 2, 1) := by decide +kernel
theorem dX0_firstPiece_22 : decode cX0_firstPiece 22 = .ok (.iconst 1, 1) := by decide +kernel
theorem dX0_firstPiece_23 : decode cX0_firstPiece 23 = .ok (.lushr, 1) := by decide +kernel
theorem dX0_firstPiece_24 : decode cX0_firstPiece 24 = .ok (.lor, 1) := by decide +kernel
theorem dX0_firstPiece_25 : decode cX0_firstPiece 25 = .ok (.lload_n 2, 1) := by decide +kernel
theorem dX0_firstPiece_26 : decode cX0_firstPiece 26 = .ok (.bipush 8, 2) := by decide +kernel
theorem dX0_firstPiece_28 : decode cX0_firstPiece 28 = .ok (.lshl, 1) := by decide +kernel
theorem dX0_firstPiece_29 : decode cX0_firstPiece 29 = .ok (.lor, 1) := by decide +kernel
theorem dX0_firstPiece_30 : decode cX0_firstPiece 30 = .ok (.lload_n 2, 1) := by decide +kernel
theorem dX0_firstPiece_31 : decode cX0_firstPiece 31 = .ok (.bipush 8, 2) := by decide +kernel
theorem dX0_firstPiece_33 : decode cX0_firstPiece 33 = .ok (.lushr, 1) := by decide +kernel
theorem dX0_firstPiece_34 : decode cX0_firstPiece 34 = .ok (.lor, 1) := by decide +kernel
theorem dX0_firstPiece_35 : decode cX0_firstPiece 35 = .ok (.land, 1) := by decide +kernel
theorem dX0_firstPiece_36 : decode cX0_firstPiece 36 = .ok (.lstore 5, 2) := by decide +kernel
theorem dX0_firstPiece_38 : decode cX0_firstPiece 38 = .ok (.lload 5, 2) := by decide +kernel
theorem dX0_firstPiece_40 : decode cX0_firstPiece 40 = .ok (.lload_n 2, 1) := by decide +kernel
theorem dX0_firstPiece_41 : decode cX0_firstPiece 41 = .ok (.lcmp, 1) := by decide +kernel
theorem dX0_firstPiece_42 : decode cX0_firstPiece 42 = .ok (.ifCond .ne 6, 3) := by decide +kernel
theorem dX0_firstPiece_45 : decode cX0_firstPiece 45 = .ok (.goto 12, 3) := by decide +kernel
theorem dX0_firstPiece_48 : decode cX0_firstPiece 48 = .ok (.lload 5, 2) := by decide +kernel
theorem dX0_firstPiece_50 : decode cX0_firstPiece 50 = .ok (.lstore_n 2, 1) := by decide +kernel
theorem dX0_firstPiece_51 : decode cX0_firstPiece 51 = .ok (.iinc 4 1, 3) := by decide +kernel
theorem dX0_firstPiece_54 : decode cX0_firstPiece 54 = .ok (.goto (-46), 3) := by decide +kernel
theorem dX0_firstPiece_57 : decode cX0_firstPiece 57 = .ok (.lload_n 2, 1) := by decide +kernel
theorem dX0_firstPiece_58 : decode cX0_firstPiece 58 = .ok (.lreturn, 1) := by decide +kernel
theorem dX0_countPieces_0 : decode cX0_countPieces 0 = .ok (.iconst 0, 1) := by decide +kernel
theorem dX0_countPieces_1 : decode cX0_countPieces 1 = .ok (.istore_n 2, 1) := by decide +kernel
theorem dX0_countPieces_2 : decode cX0_countPieces 2 = .ok (.lload_n 0, 1) := by decide +kernel
theorem dX0_countPieces_3 : decode cX0_countPieces 3 = .ok (.lstore_n 3, 1) := by decide +kernel
theorem dX0_countPieces_4 : decode cX0_countPieces 4 = .ok (.iconst 0, 1) := by decide +kernel
theorem dX0_countPieces_5 : decode cX0_countPieces 5 = .ok (.istore 5, 2) := by decide +kernel
theorem dX0_countPieces_7 : decode cX0_countPieces 7 = .ok (.iload 5, 2) := by decide +kernel
theorem dX0_countPieces_9 : decode cX0_countPieces 9 = .ok (.bipush 48, 2) := by decide +kernel
theorem dX0_countPieces_11 : decode cX0_countPieces 11 = .ok (.if_icmp .ge 29, 3) := by decide +kernel
theorem dX0_countPieces_14 : decode cX0_countPieces 14 = .ok (.lload_n 3, 1) := by decide +kernel
theorem dX0_countPieces_15 : decode cX0_countPieces 15 = .ok (.lconst 0, 1) := by decide +kernel
theorem dX0_countPieces_16 : decode cX0_countPieces 16 = .ok (.lcmp, 1) := by decide +kernel
theorem dX0_countPieces_17 : decode cX0_countPieces 17 = .ok (.ifCond .eq 23, 3) := by decide +kernel
theorem dX0_countPieces_20 : decode cX0_countPieces 20 = .ok (.iinc 2 1, 3) := by decide +kernel
theorem dX0_countPieces_23 : decode cX0_countPieces 23 = .ok (.lload_n 3, 1) := by decide +kernel
theorem dX0_countPieces_24 : decode cX0_countPieces 24 = .ok (.lload_n 3, 1) := by decide +kernel
theorem dX0_countPieces_25 : decode cX0_countPieces 25 = .ok (.invokestatic 41, 3) := by decide +kernel
theorem dX0_countPieces_28 : decode cX0_countPieces 28 = .ok (.ldc2_w 28, 3) := by decide +kernel
theorem dX0_countPieces_31 : decode cX0_countPieces 31 = .ok (.lxor, 1) := by decide +kernel
theorem dX0_countPieces_32 : decode cX0_countPieces 32 = .ok (.land, 1) := by decide +kernel
theorem dX0_countPieces_33 : decode cX0_countPieces 33 = .ok (.lstore_n 3, 1) := by decide +kernel
theorem dX0_countPieces_34 : decode cX0_countPieces 34 = .ok (.iinc 5 1, 3) := by decide +kernel
theorem dX0_countPieces_37 : decode cX0_countPieces 37 = .ok (.goto (-30), 3) := by decide +kernel
theorem dX0_countPieces_40 : decode cX0_countPieces 40 = .ok (.iload_n 2, 1) := by decide +kernel
theorem dX0_countPieces_41 : decode cX0_countPieces 41 = .ok (.ireturn, 1) := by decide +kernel
theorem dX0_pieceNumbered_0 : decode cX0_pieceNumbered 0 = .ok (.lload_n 0, 1) := by decide +kernel
theorem dX0_pieceNumbered_1 : decode cX0_pieceNumbered 1 = .ok (.lstore_n 3, 1) := by decide +kernel
theorem dX0_pieceNumbered_2 : decode cX0_pieceNumbered 2 = .ok (.iconst 0, 1) := by decide +kernel
theorem dX0_pieceNumbered_3 : decode cX0_pieceNumbered 3 = .ok (.istore 5, 2) := by decide +kernel
theorem dX0_pieceNumbered_5 : decode cX0_pieceNumbered 5 = .ok (.iload 5, 2) := by decide +kernel
theorem dX0_pieceNumbered_7 : decode cX0_pieceNumbered 7 = .ok (.iload_n 2, 1) := by decide +kernel
theorem dX0_pieceNumbered_8 : decode cX0_pieceNumbered 8 = .ok (.if_icmp .ge 27, 3) := by decide +kernel
theorem dX0_pieceNumbered_11 : decode cX0_pieceNumbered 11 = .ok (.iload 5, 2) := by decide +kernel
theorem dX0_pieceNumbered_13 : decode cX0_pieceNumbered 13 = .ok (.bipush 48, 2) := by decide +kernel
theorem dX0_pieceNumbered_15 : decode cX0_pieceNumbered 15 = .ok (.if_icmp .ge 20, 3) := by decide +kernel
theorem dX0_pieceNumbered_18 : decode cX0_pieceNumbered 18 = .ok (.lload_n 3, 1) := by decide +kernel
theorem dX0_pieceNumbered_19 : decode cX0_pieceNumbered 19 = .ok (.lload_n 3, 1) := by decide +kernel
theorem dX0_pieceNumbered_20 : decode cX0_pieceNumbered 20 = .ok (.invokestatic 41, 3) := by decide +kernel
theorem dX0_pieceNumbered_23 : decode cX0_pieceNumbered 23 = .ok (.ldc2_w 28, 3) := by decide +kernel
theorem dX0_pieceNumbered_26 : decode cX0_pieceNumbered 26 = .ok (.lxor, 1) := by decide +kernel
theorem dX0_pieceNumbered_27 : decode cX0_pieceNumbered 27 = .ok (.land, 1) := by decide +kernel
theorem dX0_pieceNumbered_28 : decode cX0_pieceNumbered 28 = .ok (.lstore_n 3, 1) := by decide +kernel
theorem dX0_pieceNumbered_29 : decode cX0_pieceNumbered 29 = .ok (.iinc 5 1, 3) := by decide +kernel
theorem dX0_pieceNumbered_32 : decode cX0_pieceNumbered 32 = .ok (.goto (-27), 3) := by decide +kernel
theorem dX0_pieceNumbered_35 : decode cX0_pieceNumbered 35 = .ok (.lload_n 3, 1) := by decide +kernel
theorem dX0_pieceNumbered_36 : decode cX0_pieceNumbered 36 = .ok (.invokestatic 41, 3) := by decide +kernel
theorem dX0_pieceNumbered_39 : decode cX0_pieceNumbered 39 = .ok (.lreturn, 1) := by decide +kernel
theorem dX0_pieceNumber_0 : decode cX0_pieceNumber 0 = .ok (.lload_n 0, 1) := by decide +kernel
theorem dX0_pieceNumber_1 : decode cX0_pieceNumber 1 = .ok (.lload_n 2, 1) := by decide +kernel
theorem dX0_pieceNumber_2 : decode cX0_pieceNumber 2 = .ok (.land, 1) := by decide +kernel
theorem dX0_pieceNumber_3 : decode cX0_pieceNumber 3 = .ok (.lconst 0, 1) := by decide +kernel
theorem dX0_pieceNumber_4 : decode cX0_pieceNumber 4 = .ok (.lcmp, 1) := by decide +kernel
theorem dX0_pieceNumber_5 : decode cX0_pieceNumber 5 = .ok (.ifCond .ne 6, 3) := by decide +kernel
theorem dX0_pieceNumber_8 : decode cX0_pieceNumber 8 = .ok (.bipush (-9), 2) := by decide +kernel
theorem dX0_pieceNumber_10 : decode cX0_pieceNumber 10 = .ok (.ireturn, 1) := by decide +kernel
theorem dX0_pieceNumber_11 : decode cX0_pieceNumber 11 = .ok (.iconst 0, 1) := by decide +kernel
theorem dX0_pieceNumber_12 : decode cX0_pieceNumber 12 = .ok (.istore 4, 2) := by decide +kernel
theorem dX0_pieceNumber_14 : decode cX0_pieceNumber 14 = .ok (.lload_n 0, 1) := by decide +kernel
theorem dX0_pieceNumber_15 : decode cX0_pieceNumber 15 = .ok (.lstore 5, 2) := by decide +kernel
theorem dX0_pieceNumber_17 : decode cX0_pieceNumber 17 = .ok (.iconst 0, 1) := by decide +kernel
theorem dX0_pieceNumber_18 : decode cX0_pieceNumber 18 = .ok (.istore 7, 2) := by decide +kernel
theorem dX0_pieceNumber_20 : decode cX0_pieceNumber 20 = .ok (.iload 7, 2) := by decide +kernel
theorem dX0_pieceNumber_22 : decode cX0_pieceNumber 22 = .ok (.bipush 48, 2) := by decide +kernel
theorem dX0_pieceNumber_24 : decode cX0_pieceNumber 24 = .ok (.if_icmp .ge 38, 3) := by decide +kernel
theorem dX0_pieceNumber_27 : decode cX0_pieceNumber 27 = .ok (.lload 5, 2) := by decide +kernel
theorem dX0_pieceNumber_29 : decode cX0_pieceNumber 29 = .ok (.invokestatic 41, 3) := by decide +kernel
theorem dX0_pieceNumber_32 : decode cX0_pieceNumber 32 = .ok (.lload_n 2, 1) := by decide +kernel
theorem dX0_pieceNumber_33 : decode cX0_pieceNumber 33 = .ok (.land, 1) := by decide +kernel
theorem dX0_pieceNumber_34 : decode cX0_pieceNumber 34 = .ok (.lconst 0, 1) := by decide +kernel
theorem dX0_pieceNumber_35 : decode cX0_pieceNumber 35 = .ok (.lcmp, 1) := by decide +kernel
theorem dX0_pieceNumber_36 : decode cX0_pieceNumber 36 = .ok (.ifCond .ne 26, 3) := by decide +kernel
theorem dX0_pieceNumber_39 : decode cX0_pieceNumber 39 = .ok (.iinc 4 1, 3) := by decide +kernel
theorem dX0_pieceNumber_42 : decode cX0_pieceNumber 42 = .ok (.lload 5, 2) := by decide +kernel
theorem dX0_pieceNumber_44 : decode cX0_pieceNumber 44 = .ok (.lload 5, 2) := by decide +kernel
theorem dX0_pieceNumber_46 : decode cX0_pieceNumber 46 = .ok (.invokestatic 41, 3) := by decide +kernel
theorem dX0_pieceNumber_49 : decode cX0_pieceNumber 49 = .ok (.ldc2_w 28, 3) := by decide +kernel
theorem dX0_pieceNumber_52 : decode cX0_pieceNumber 52 = .ok (.lxor, 1) := by decide +kernel
theorem dX0_pieceNumber_53 : decode cX0_pieceNumber 53 = .ok (.land, 1) := by decide +kernel
theorem dX0_pieceNumber_54 : decode cX0_pieceNumber 54 = .ok (.lstore 5, 2) := by decide +kernel
theorem dX0_pieceNumber_56 : decode cX0_pieceNumber 56 = .ok (.iinc 7 1, 3) := by decide +kernel
theorem dX0_pieceNumber_59 : decode cX0_pieceNumber 59 = .ok (.goto (-39), 3) := by decide +kernel
theorem dX0_pieceNumber_62 : decode cX0_pieceNumber 62 = .ok (.iload 4, 2) := by decide +kernel
theorem dX0_pieceNumber_64 : decode cX0_pieceNumber 64 = .ok (.ireturn, 1) := by decide +kernel
theorem dX0_hull_0 : decode cX0_hull 0 = .ok (.lload_n 0, 1) := by decide +kernel
theorem dX0_hull_1 : decode cX0_hull 1 = .ok (.lstore_n 2, 1) := by decide +kernel
theorem dX0_hull_2 : decode cX0_hull 2 = .ok (.iconst 0, 1) := by decide +kernel
theorem dX0_hull_3 : decode cX0_hull 3 = .ok (.istore 4, 2) := by decide +kernel
theorem dX0_hull_5 : decode cX0_hull 5 = .ok (.iload 4, 2) := by decide +kernel
theorem dX0_hull_7 : decode cX0_hull 7 = .ok (.bipush 48, 2) := by decide +kernel
theorem dX0_hull_9 : decode cX0_hull 9 = .ok (.if_icmp .ge 34, 3) := by decide +kernel
theorem dX0_hull_12 : decode cX0_hull 12 = .ok (.lload_n 2, 1) := by decide +kernel
theorem dX0_hull_13 : decode cX0_hull 13 = .ok (.iconst 1, 1) := by decide +kernel
theorem dX0_hull_14 : decode cX0_hull 14 = .ok (.invokestatic 45, 3) := by decide +kernel
theorem dX0_hull_17 : decode cX0_hull 17 = .ok (.bipush 8, 2) := by decide +kernel
theorem dX0_hull_19 : decode cX0_hull 19 = .ok (.invokestatic 45, 3) := by decide +kernel
theorem dX0_hull_22 : decode cX0_hull 22 = .ok (.lstore 5, 2) := by decide +kernel
theorem dX0_hull_24 : decode cX0_hull 24 = .ok (.lload 5, 2) := by decide +kernel
theorem dX0_hull_26 : decode cX0_hull 26 = .ok (.lload_n 2, 1) := by decide +kernel
theorem dX0_hull_27 : decode cX0_hull 27 = .ok (.lcmp, 1) := by decide +kernel
theorem dX0_hull_28 : decode cX0_hull 28 = .ok (.ifCond .ne 6, 3) := by decide +kernel
theorem dX0_hull_31 : decode cX0_hull 31 = .ok (.goto 12, 3) := by decide +kernel
theorem dX0_hull_34 : decode cX0_hull 34 = .ok (.lload 5, 2) := by decide +kernel
theorem dX0_hull_36 : decode cX0_hull 36 = .ok (.lstore_n 2, 1) := by decide +kernel
theorem dX0_hull_37 : decode cX0_hull 37 = .ok (.iinc 4 1, 3) := by decide +kernel
theorem dX0_hull_40 : decode cX0_hull 40 = .ok (.goto (-35), 3) := by decide +kernel
theorem dX0_hull_43 : decode cX0_hull 43 = .ok (.lload_n 2, 1) := by decide +kernel
theorem dX0_hull_44 : decode cX0_hull 44 = .ok (.lreturn, 1) := by decide +kernel
theorem dX0_between_0 : decode cX0_between 0 = .ok (.lload_n 0, 1) := by decide +kernel
theorem dX0_between_1 : decode cX0_between 1 = .ok (.lstore_n 3, 1) := by decide +kernel
theorem dX0_between_2 : decode cX0_between 2 = .ok (.lload_n 0, 1) := by decide +kernel
theorem dX0_between_3 : decode cX0_between 3 = .ok (.lstore 5, 2) := by decide +kernel
theorem dX0_between_5 : decode cX0_between 5 = .ok (.iconst 0, 1) := by decide +kernel
theorem dX0_between_6 : decode cX0_between 6 = .ok (.istore 7, 2) := by decide +kernel
theorem dX0_between_8 : decode cX0_between 8 = .ok (.iload 7, 2) := by decide +kernel
theorem dX0_between_10 : decode cX0_between 10 = .ok (.bipush 6, 2) := by decide +kernel
theorem dX0_between_12 : decode cX0_between 12 = .ok (.if_icmp .ge 30, 3) := by decide +kernel
theorem dX0_between_15 : decode cX0_between 15 = .ok (.lload_n 3, 1) := by decide +kernel
theorem dX0_between_16 : decode cX0_between 16 = .ok (.lload_n 3, 1) := by decide +kernel
theorem dX0_between_17 : decode cX0_between 17 = .ok (.iload_n 2, 1) := by decide +kernel
theorem dX0_between_18 : decode cX0_between 18 = .ok (.lshl, 1) := by decide +kernel
theorem dX0_between_19 : decode cX0_between 19 = .ok (.invokestatic 49, 3) := by decide +kernel
theorem dX0_between_22 : decode cX0_between 22 = .ok (.lor, 1) := by decide +kernel
theorem dX0_between_23 : decode cX0_between 23 = .ok (.lstore_n 3, 1) := by decide +kernel
theorem dX0_between_24 : decode cX0_between 24 = .ok (.lload 5, 2) := by decide +kernel
theorem dX0_between_26 : decode cX0_between 26 = .ok (.lload 5, 2) := by decide +kernel
theorem dX0_between_28 : decode cX0_between 28 = .ok (.iload_n 2, 1) := by decide +kernel
theorem dX0_between_29 : decode cX0_between 29 = .ok (.lushr, 1) := by decide +kernel
theorem dX0_between_30 : decode cX0_between 30 = .ok (.invokestatic 49, 3) := by decide +kernel
theorem dX0_between_33 : decode cX0_between 33 = .ok (.lor, 1) := by decide +kernel
theorem dX0_between_34 : decode cX0_between 34 = .ok (.lstore 5, 2) := by decide +kernel
theorem dX0_between_36 : decode cX0_between 36 = .ok (.iinc 7 1, 3) := by decide +kernel
theorem dX0_between_39 : decode cX0_between 39 = .ok (.goto (-31), 3) := by decide +kernel
theorem dX0_between_42 : decode cX0_between 42 = .ok (.lload_n 3, 1) := by decide +kernel
theorem dX0_between_43 : decode cX0_between 43 = .ok (.lload 5, 2) := by decide +kernel
theorem dX0_between_45 : decode cX0_between 45 = .ok (.land, 1) := by decide +kernel
theorem dX0_between_46 : decode cX0_between 46 = .ok (.lreturn, 1) := by decide +kernel
theorem dX0_withinLines_0 : decode cX0_withinLines 0 = .ok (.lload_n 0, 1) := by decide +kernel
theorem dX0_withinLines_1 : decode cX0_withinLines 1 = .ok (.ldc2_w 52, 3) := by decide +kernel
theorem dX0_withinLines_4 : decode cX0_withinLines 4 = .ok (.land, 1) := by decide +kernel
theorem dX0_withinLines_5 : decode cX0_withinLines 5 = .ok (.lreturn, 1) := by decide +kernel
theorem dX0_corners_0 : decode cX0_corners 0 = .ok (.iload_n 0, 1) := by decide +kernel
theorem dX0_corners_1 : decode cX0_corners 1 = .ok (.iload_n 2, 1) := by decide +kernel
theorem dX0_corners_2 : decode cX0_corners 2 = .ok (.invokestatic 54, 3) := by decide +kernel
theorem dX0_corners_5 : decode cX0_corners 5 = .ok (.iload_n 0, 1) := by decide +kernel
theorem dX0_corners_6 : decode cX0_corners 6 = .ok (.iload_n 3, 1) := by decide +kernel
theorem dX0_corners_7 : decode cX0_corners 7 = .ok (.invokestatic 54, 3) := by decide +kernel
theorem dX0_corners_10 : decode cX0_corners 10 = .ok (.lor, 1) := by decide +kernel
theorem dX0_corners_11 : decode cX0_corners 11 = .ok (.iload_n 1, 1) := by decide +kernel
theorem dX0_corners_12 : decode cX0_corners 12 = .ok (.iload_n 2, 1) := by decide +kernel
theorem dX0_corners_13 : decode cX0_corners 13 = .ok (.invokestatic 54, 3) := by decide +kernel
theorem dX0_corners_16 : decode cX0_corners 16 = .ok (.lor, 1) := by decide +kernel
theorem dX0_corners_17 : decode cX0_corners 17 = .ok (.iload_n 1, 1) := by decide +kernel
theorem dX0_corners_18 : decode cX0_corners 18 = .ok (.iload_n 3, 1) := by decide +kernel
theorem dX0_corners_19 : decode cX0_corners 19 = .ok (.invokestatic 54, 3) := by decide +kernel
theorem dX0_corners_22 : decode cX0_corners 22 = .ok (.lor, 1) := by decide +kernel
theorem dX0_corners_23 : decode cX0_corners 23 = .ok (.lreturn, 1) := by decide +kernel
theorem dX0_cornersOf_0 : decode cX0_cornersOf 0 = .ok (.iload_n 0, 1) := by decide +kernel
theorem dX0_cornersOf_1 : decode cX0_cornersOf 1 = .ok (.ifCond .ge 5, 3) := by decide +kernel
theorem dX0_cornersOf_4 : decode cX0_cornersOf 4 = .ok (.lconst 0, 1) := by decide +kernel
theorem dX0_cornersOf_5 : decode cX0_cornersOf 5 = .ok (.lreturn, 1) := by decide +kernel
theorem dX0_cornersOf_6 : decode cX0_cornersOf 6 = .ok (.iload_n 0, 1) := by decide +kernel
theorem dX0_cornersOf_7 : decode cX0_cornersOf 7 = .ok (.sipush 1000, 3) := by decide +kernel
theorem dX0_cornersOf_10 : decode cX0_cornersOf 10 = .ok (.idiv, 1) := by decide +kernel
theorem dX0_cornersOf_11 : decode cX0_cornersOf 11 = .ok (.iload_n 0, 1) := by decide +kernel
theorem dX0_cornersOf_12 : decode cX0_cornersOf 12 = .ok (.bipush 100, 2) := by decide +kernel
theorem dX0_cornersOf_14 : decode cX0_cornersOf 14 = .ok (.idiv, 1) := by decide +kernel
theorem dX0_cornersOf_15 : decode cX0_cornersOf 15 = .ok (.bipush 10, 2) := by decide +kernel
theorem dX0_cornersOf_17 : decode cX0_cornersOf 17 = .ok (.irem, 1) := by decide +kernel
theorem dX0_cornersOf_18 : decode cX0_cornersOf 18 = .ok (.iload_n 0, 1) := by decide +kernel
theorem dX0_cornersOf_19 : decode cX0_cornersOf 19 = .ok (.bipush 10, 2) := by decide +kernel
theorem dX0_cornersOf_21 : decode cX0_cornersOf 21 = .ok (.idiv, 1) := by decide +kernel
theorem dX0_cornersOf_22 : decode cX0_cornersOf 22 = .ok (.bipush 10, 2) := by decide +kernel
theorem dX0_cornersOf_24 : decode cX0_cornersOf 24 = .ok (.irem, 1) := by decide +kernel
theorem dX0_cornersOf_25 : decode cX0_cornersOf 25 = .ok (.iload_n 0, 1) := by decide +kernel
theorem dX0_cornersOf_26 : decode cX0_cornersOf 26 = .ok (.bipush 10, 2) := by decide +kernel
theorem dX0_cornersOf_28 : decode cX0_cornersOf 28 = .ok (.irem, 1) := by decide +kernel
theorem dX0_cornersOf_29 : decode cX0_cornersOf 29 = .ok (.invokestatic 58, 3) := by decide +kernel
theorem dX0_cornersOf_32 : decode cX0_cornersOf 32 = .ok (.lreturn, 1) := by decide +kernel
theorem dX1_digit_0 : decode cX1_digit 0 = .ok (.lload_n 0, 1) := by decide +kernel
theorem dX1_digit_1 : decode cX1_digit 1 = .ok (.iconst 4, 1) := by decide +kernel
theorem dX1_digit_2 : decode cX1_digit 2 = .ok (.iload_n 2, 1) := by decide +kernel
theorem dX1_digit_3 : decode cX1_digit 3 = .ok (.imul, 1) := by decide +kernel
theorem dX1_digit_4 : decode cX1_digit 4 = .ok (.lushr, 1) := by decide +kernel
theorem dX1_digit_5 : decode cX1_digit 5 = .ok (.l2i, 1) := by decide +kernel
theorem dX1_digit_6 : decode cX1_digit 6 = .ok (.bipush 15, 2) := by decide +kernel
theorem dX1_digit_8 : decode cX1_digit 8 = .ok (.iand, 1) := by decide +kernel
theorem dX1_digit_9 : decode cX1_digit 9 = .ok (.ireturn, 1) := by decide +kernel
theorem dX1_changed_0 : decode cX1_changed 0 = .ok (.lload_n 0, 1) := by decide +kernel
theorem dX1_changed_1 : decode cX1_changed 1 = .ok (.ldc2_w 9, 3) := by decide +kernel
theorem dX1_changed_4 : decode cX1_changed 4 = .ok (.iconst 4, 1) := by decide +kernel
theorem dX1_changed_5 : decode cX1_changed 5 = .ok (.iload_n 2, 1) := by decide +kernel
theorem dX1_changed_6 : decode cX1_changed 6 = .ok (.imul, 1) := by decide +kernel
theorem dX1_changed_7 : decode cX1_changed 7 = .ok (.lshl, 1) := by decide +kernel
theorem dX1_changed_8 : decode cX1_changed 8 = .ok (.ldc2_w 11, 3) := by decide +kernel
theorem dX1_changed_11 : decode cX1_changed 11 = .ok (.lxor, 1) := by decide +kernel
theorem dX1_changed_12 : decode cX1_changed 12 = .ok (.land, 1) := by decide +kernel
theorem dX1_changed_13 : decode cX1_changed 13 = .ok (.iload_n 3, 1) := by decide +kernel
theorem dX1_changed_14 : decode cX1_changed 14 = .ok (.i2l, 1) := by decide +kernel
theorem dX1_changed_15 : decode cX1_changed 15 = .ok (.iconst 4, 1) := by decide +kernel
theorem dX1_changed_16 : decode cX1_changed 16 = .ok (.iload_n 2, 1) := by decide +kernel
theorem dX1_changed_17 : decode cX1_changed 17 = .ok (.imul, 1) := by decide +kernel
theorem dX1_changed_18 : decode cX1_changed 18 = .ok (.lshl, 1) := by decide +kernel
theorem dX1_changed_19 : decode cX1_changed 19 = .ok (.lor, 1) := by decide +kernel
theorem dX1_changed_20 : decode cX1_changed 20 = .ok (.lreturn, 1) := by decide +kernel
theorem dX1_total_0 : decode cX1_total 0 = .ok (.iconst 0, 1) := by decide +kernel
theorem dX1_total_1 : decode cX1_total 1 = .ok (.istore_n 2, 1) := by decide +kernel
theorem dX1_total_2 : decode cX1_total 2 = .ok (.iconst 0, 1) := by decide +kernel
theorem dX1_total_3 : decode cX1_total 3 = .ok (.istore_n 3, 1) := by decide +kernel
theorem dX1_total_4 : decode cX1_total 4 = .ok (.iload_n 3, 1) := by decide +kernel
theorem dX1_total_5 : decode cX1_total 5 = .ok (.bipush 6, 2) := by decide +kernel
theorem dX1_total_7 : decode cX1_total 7 = .ok (.if_icmp .ge 17, 3) := by decide +kernel
theorem dX1_total_10 : decode cX1_total 10 = .ok (.iload_n 2, 1) := by decide +kernel
theorem dX1_total_11 : decode cX1_total 11 = .ok (.lload_n 0, 1) := by decide +kernel
theorem dX1_total_12 : decode cX1_total 12 = .ok (.iload_n 3, 1) := by decide +kernel
theorem dX1_total_13 : decode cX1_total 13 = .ok (.invokestatic 13, 3) := by decide +kernel
theorem dX1_total_16 : decode cX1_total 16 = .ok (.iadd, 1) := by decide +kernel
theorem dX1_total_17 : decode cX1_total 17 = .ok (.istore_n 2, 1) := by decide +kernel
theorem dX1_total_18 : decode cX1_total 18 = .ok (.iinc 3 1, 3) := by decide +kernel
theorem dX1_total_21 : decode cX1_total 21 = .ok (.goto (-17), 3) := by decide +kernel
theorem dX1_total_24 : decode cX1_total 24 = .ok (.iload_n 2, 1) := by decide +kernel
theorem dX1_total_25 : decode cX1_total 25 = .ok (.ireturn, 1) := by decide +kernel
theorem dX2_init_0 : decode cX2_init 0 = .ok (.aload_n 0, 1) := by decide +kernel
theorem dX2_init_1 : decode cX2_init 1 = .ok (.invokespecial 3, 3) := by decide +kernel
theorem dX2_init_4 : decode cX2_init 4 = .ok (.aload_n 0, 1) := by decide +kernel
theorem dX2_init_5 : decode cX2_init 5 = .ok (.bipush 6, 2) := by decide +kernel
theorem dX2_init_7 : decode cX2_init 7 = .ok (.newarray .long, 2) := by decide +kernel
theorem dX2_init_9 : decode cX2_init 9 = .ok (.putfield 9, 3) := by decide +kernel
theorem dX2_init_12 : decode cX2_init 12 = .ok (.aload_n 0, 1) := by decide +kernel
theorem dX2_init_13 : decode cX2_init 13 = .ok (.lconst 0, 1) := by decide +kernel
theorem dX2_init_14 : decode cX2_init 14 = .ok (.putfield 15, 3) := by decide +kernel
theorem dX2_init_17 : decode cX2_init 17 = .ok (.aload_n 0, 1) := by decide +kernel
theorem dX2_init_18 : decode cX2_init 18 = .ok (.lconst 0, 1) := by decide +kernel
theorem dX2_init_19 : decode cX2_init 19 = .ok (.putfield 19, 3) := by decide +kernel
theorem dX2_init_22 : decode cX2_init 22 = .ok (.return_, 1) := by decide +kernel
theorem dX2_found_0 : decode cX2_found 0 = .ok (.aload_n 0, 1) := by decide +kernel
theorem dX2_found_1 : decode cX2_found 1 = .ok (.getfield 15, 3) := by decide +kernel
theorem dX2_found_4 : decode cX2_found 4 = .ok (.lreturn, 1) := by decide +kernel
theorem dX2_findOutermost_0 : decode cX2_findOutermost 0 = .ok (.aload_n 0, 1) := by decide +kernel
theorem dX2_findOutermost_1 : decode cX2_findOutermost 1 = .ok (.aload_n 1, 1) := by decide +kernel
theorem dX2_findOutermost_2 : decode cX2_findOutermost 2 = .ok (.aload_n 1, 1) := by decide +kernel
theorem dX2_findOutermost_3 : decode cX2_findOutermost 3 = .ok (.getfield 22, 3) := by decide +kernel
theorem dX2_findOutermost_6 : decode cX2_findOutermost 6 = .ok (.aload_n 1, 1) := by decide +kernel
theorem dX2_findOutermost_7 : decode cX2_findOutermost 7 = .ok (.getfield 27, 3) := by decide +kernel
theorem dX2_findOutermost_10 : decode cX2_findOutermost 10 = .ok (.invokevirtual 30, 3) := by decide +kernel
theorem dX2_findOutermost_13 : decode cX2_findOutermost 13 = .ok (.ifCond .ne 5, 3) := by decide +kernel
theorem dX2_findOutermost_16 : decode cX2_findOutermost 16 = .ok (.iconst 0, 1) := by decide +kernel
theorem dX2_findOutermost_17 : decode cX2_findOutermost 17 = .ok (.ireturn, 1) := by decide +kernel
theorem dX2_findOutermost_18 : decode cX2_findOutermost 18 = .ok (.aload_n 0, 1) := by decide +kernel
theorem dX2_findOutermost_19 : decode cX2_findOutermost 19 = .ok (.iload_n 2, 1) := by decide +kernel
theorem dX2_findOutermost_20 : decode cX2_findOutermost 20 = .ok (.invokevirtual 34, 3) := by decide +kernel
theorem dX2_findOutermost_23 : decode cX2_findOutermost 23 = .ok (.iconst 1, 1) := by decide +kernel
theorem dX2_findOutermost_24 : decode cX2_findOutermost 24 = .ok (.ireturn, 1) := by decide +kernel
theorem dX2_findBehind_0 : decode cX2_findBehind 0 = .ok (.aload_n 1, 1) := by decide +kernel
theorem dX2_findBehind_1 : decode cX2_findBehind 1 = .ok (.invokevirtual 38, 3) := by decide +kernel
theorem dX2_findBehind_4 : decode cX2_findBehind 4 = .ok (.aload_n 1, 1) := by decide +kernel
theorem dX2_findBehind_5 : decode cX2_findBehind 5 = .ok (.getfield 22, 3) := by decide +kernel
theorem dX2_findBehind_8 : decode cX2_findBehind 8 = .ok (.ldc2_w 42, 3) := by decide +kernel
theorem dX2_findBehind_11 : decode cX2_findBehind 11 = .ok (.lxor, 1) := by decide +kernel
theorem dX2_findBehind_12 : decode cX2_findBehind 12 = .ok (.land, 1) := by decide +kernel
theorem dX2_findBehind_13 : decode cX2_findBehind 13 = .ok (.aload_n 1, 1) := by decide +kernel
theorem dX2_findBehind_14 : decode cX2_findBehind 14 = .ok (.getfield 27, 3) := by decide +kernel
theorem dX2_findBehind_17 : decode cX2_findBehind 17 = .ok (.ldc2_w 42, 3) := by decide +kernel
theorem dX2_findBehind_20 : decode cX2_findBehind 20 = .ok (.lxor, 1) := by decide +kernel
theorem dX2_findBehind_21 : decode cX2_findBehind 21 = .ok (.land, 1) := by decide +kernel
theorem dX2_findBehind_22 : decode cX2_findBehind 22 = .ok (.lstore_n 2, 1) := by decide +kernel
theorem dX2_findBehind_23 : decode cX2_findBehind 23 = .ok (.bipush 47, 2) := by decide +kernel
theorem dX2_findBehind_25 : decode cX2_findBehind 25 = .ok (.istore 4, 2) := by decide +kernel
theorem dX2_findBehind_27 : decode cX2_findBehind 27 = .ok (.iload 4, 2) := by decide +kernel
theorem dX2_findBehind_29 : decode cX2_findBehind 29 = .ok (.ifCond .lt 58, 3) := by decide +kernel
theorem dX2_findBehind_32 : decode cX2_findBehind 32 = .ok (.lconst 1, 1) := by decide +kernel
theorem dX2_findBehind_33 : decode cX2_findBehind 33 = .ok (.iload 4, 2) := by decide +kernel
theorem dX2_findBehind_35 : decode cX2_findBehind 35 = .ok (.lshl, 1) := by decide +kernel
theorem dX2_findBehind_36 : decode cX2_findBehind 36 = .ok (.lstore 5, 2) := by decide +kernel
theorem dX2_findBehind_38 : decode cX2_findBehind 38 = .ok (.lload_n 2, 1) := by decide +kernel
theorem dX2_findBehind_39 : decode cX2_findBehind 39 = .ok (.lload 5, 2) := by decide +kernel
theorem dX2_findBehind_41 : decode cX2_findBehind 41 = .ok (.land, 1) := by decide +kernel
theorem dX2_findBehind_42 : decode cX2_findBehind 42 = .ok (.lconst 0, 1) := by decide +kernel
theorem dX2_findBehind_43 : decode cX2_findBehind 43 = .ok (.lcmp, 1) := by decide +kernel
theorem dX2_findBehind_44 : decode cX2_findBehind 44 = .ok (.ifCond .eq 37, 3) := by decide +kernel
theorem dX2_findBehind_47 : decode cX2_findBehind 47 = .ok (.aload_n 0, 1) := by decide +kernel
theorem dX2_findBehind_48 : decode cX2_findBehind 48 = .ok (.aload_n 1, 1) := by decide +kernel
theorem dX2_findBehind_49 : decode cX2_findBehind 49 = .ok (.aload_n 1, 1) := by decide +kernel
theorem dX2_findBehind_50 : decode cX2_findBehind 50 = .ok (.getfield 22, 3) := by decide +kernel
theorem dX2_findBehind_53 : decode cX2_findBehind 53 = .ok (.lload 5, 2) := by decide +kernel
theorem dX2_findBehind_55 : decode cX2_findBehind 55 = .ok (.lor, 1) := by decide +kernel
theorem dX2_findBehind_56 : decode cX2_findBehind 56 = .ok (.lload 5, 2) := by decide +kernel
theorem dX2_findBehind_58 : decode cX2_findBehind 58 = .ok (.lconst 1, 1) := by decide +kernel
theorem dX2_findBehind_59 : decode cX2_findBehind 59 = .ok (.lsub, 1) := by decide +kernel
theorem dX2_findBehind_60 : decode cX2_findBehind 60 = .ok (.lor, 1) := by decide +kernel
theorem dX2_findBehind_61 : decode cX2_findBehind 61 = .ok (.aload_n 1, 1) := by decide +kernel
theorem dX2_findBehind_62 : decode cX2_findBehind 62 = .ok (.getfield 27, 3) := by decide +kernel
theorem dX2_findBehind_65 : decode cX2_findBehind 65 = .ok (.lload 5, 2) := by decide +kernel
theorem dX2_findBehind_67 : decode cX2_findBehind 67 = .ok (.lor, 1) := by decide +kernel
theorem dX2_findBehind_68 : decode cX2_findBehind 68 = .ok (.invokevirtual 30, 3) := by decide +kernel
theorem dX2_findBehind_71 : decode cX2_findBehind 71 = .ok (.ifCond .eq 10, 3) := by decide +kernel
theorem dX2_findBehind_74 : decode cX2_findBehind 74 = .ok (.aload_n 0, 1) := by decide +kernel
theorem dX2_findBehind_75 : decode cX2_findBehind 75 = .ok (.iconst 0, 1) := by decide +kernel
theorem dX2_findBehind_76 : decode cX2_findBehind 76 = .ok (.invokevirtual 34, 3) := by decide +kernel
theorem dX2_findBehind_79 : decode cX2_findBehind 79 = .ok (.iconst 1, 1) := by decide +kernel
theorem dX2_findBehind_80 : decode cX2_findBehind 80 = .ok (.ireturn, 1) := by decide +kernel
theorem dX2_findBehind_81 : decode cX2_findBehind 81 = .ok (.iinc 4 (-1), 3) := by decide +kernel
theorem dX2_findBehind_84 : decode cX2_findBehind 84 = .ok (.goto (-57), 3) := by decide +kernel
theorem dX2_findBehind_87 : decode cX2_findBehind 87 = .ok (.iconst 0, 1) := by decide +kernel
theorem dX2_findBehind_88 : decode cX2_findBehind 88 = .ok (.ireturn, 1) := by decide +kernel
theorem dX2_advance_0 : decode cX2_advance 0 = .ok (.aload_n 1, 1) := by decide +kernel
theorem dX2_advance_1 : decode cX2_advance 1 = .ok (.invokevirtual 38, 3) := by decide +kernel
theorem dX2_advance_4 : decode cX2_advance 4 = .ok (.aload_n 1, 1) := by decide +kernel
theorem dX2_advance_5 : decode cX2_advance 5 = .ok (.getfield 22, 3) := by decide +kernel
theorem dX2_advance_8 : decode cX2_advance 8 = .ok (.ldc2_w 42, 3) := by decide +kernel
theorem dX2_advance_11 : decode cX2_advance 11 = .ok (.lxor, 1) := by decide +kernel
theorem dX2_advance_12 : decode cX2_advance 12 = .ok (.land, 1) := by decide +kernel
theorem dX2_advance_13 : decode cX2_advance 13 = .ok (.lstore_n 2, 1) := by decide +kernel
theorem dX2_advance_14 : decode cX2_advance 14 = .ok (.aload_n 0, 1) := by decide +kernel
theorem dX2_advance_15 : decode cX2_advance 15 = .ok (.lconst 0, 1) := by decide +kernel
theorem dX2_advance_16 : decode cX2_advance 16 = .ok (.putfield 19, 3) := by decide +kernel
theorem dX2_advance_19 : decode cX2_advance 19 = .ok (.bipush 47, 2) := by decide +kernel
theorem dX2_advance_21 : decode cX2_advance 21 = .ok (.istore 4, 2) := by decide +kernel
theorem dX2_advance_23 : decode cX2_advance 23 = .ok (.iload 4, 2) := by decide +kernel
theorem dX2_advance_25 : decode cX2_advance 25 = .ok (.ifCond .lt 63, 3) := by decide +kernel
theorem dX2_advance_28 : decode cX2_advance 28 = .ok (.lconst 1, 1) := by decide +kernel
theorem dX2_advance_29 : decode cX2_advance 29 = .ok (.iload 4, 2) := by decide +kernel
theorem dX2_advance_31 : decode cX2_advance 31 = .ok (.lshl, 1) := by decide +kernel
theorem dX2_advance_32 : decode cX2_advance 32 = .ok (.lstore 5, 2) := by decide +kernel
theorem dX2_advance_34 : decode cX2_advance 34 = .ok (.lload_n 2, 1) := by decide +kernel
theorem dX2_advance_35 : decode cX2_advance 35 = .ok (.lload 5, 2) := by decide +kernel
theorem dX2_advance_37 : decode cX2_advance 37 = .ok (.land, 1) := by decide +kernel
theorem dX2_advance_38 : decode cX2_advance 38 = .ok (.lconst 0, 1) := by decide +kernel
theorem dX2_advance_39 : decode cX2_advance 39 = .ok (.lcmp, 1) := by decide +kernel
theorem dX2_advance_40 : decode cX2_advance 40 = .ok (.ifCond .eq 42, 3) := by decide +kernel
theorem dX2_advance_43 : decode cX2_advance 43 = .ok (.aload_n 0, 1) := by decide +kernel
theorem dX2_advance_44 : decode cX2_advance 44 = .ok (.getfield 15, 3) := by decide +kernel
theorem dX2_advance_47 : decode cX2_advance 47 = .ok (.lload 5, 2) := by decide +kernel
theorem dX2_advance_49 : decode cX2_advance 49 = .ok (.land, 1) := by decide +kernel
theorem dX2_advance_50 : decode cX2_advance 50 = .ok (.lconst 0, 1) := by decide +kernel
theorem dX2_advance_51 : decode cX2_advance 51 = .ok (.lcmp, 1) := by decide +kernel
theorem dX2_advance_52 : decode cX2_advance 52 = .ok (.ifCond .ne 19, 3) := by decide +kernel
theorem dX2_advance_55 : decode cX2_advance 55 = .ok (.aload_n 0, 1) := by decide +kernel
theorem dX2_advance_56 : decode cX2_advance 56 = .ok (.iload 4, 2) := by decide +kernel
theorem dX2_advance_58 : decode cX2_advance 58 = .ok (.invokevirtual 46, 3) := by decide +kernel
theorem dX2_advance_61 : decode cX2_advance 61 = .ok (.ifCond .eq 10, 3) := by decide +kernel
theorem dX2_advance_64 : decode cX2_advance 64 = .ok (.aload_n 0, 1) := by decide +kernel
theorem dX2_advance_65 : decode cX2_advance 65 = .ok (.iconst 0, 1) := by decide +kernel
theorem dX2_advance_66 : decode cX2_advance 66 = .ok (.invokevirtual 34, 3) := by decide +kernel
theorem dX2_advance_69 : decode cX2_advance 69 = .ok (.iconst 1, 1) := by decide +kernel
theorem dX2_advance_70 : decode cX2_advance 70 = .ok (.ireturn, 1) := by decide +kernel
theorem dX2_advance_71 : decode cX2_advance 71 = .ok (.aload_n 0, 1) := by decide +kernel
theorem dX2_advance_72 : decode cX2_advance 72 = .ok (.dup, 1) := by decide +kernel
theorem dX2_advance_73 : decode cX2_advance 73 = .ok (.getfield 19, 3) := by decide +kernel
theorem dX2_advance_76 : decode cX2_advance 76 = .ok (.lload 5, 2) := by decide +kernel
theorem dX2_advance_78 : decode cX2_advance 78 = .ok (.lor, 1) := by decide +kernel
theorem dX2_advance_79 : decode cX2_advance 79 = .ok (.putfield 19, 3) := by decide +kernel
theorem dX2_advance_82 : decode cX2_advance 82 = .ok (.iinc 4 (-1), 3) := by decide +kernel
theorem dX2_advance_85 : decode cX2_advance 85 = .ok (.goto (-62), 3) := by decide +kernel
theorem dX2_advance_88 : decode cX2_advance 88 = .ok (.iconst 0, 1) := by decide +kernel
theorem dX2_advance_89 : decode cX2_advance 89 = .ok (.ireturn, 1) := by decide +kernel
theorem dX2_sureCells_0 : decode cX2_sureCells 0 = .ok (.aload_n 0, 1) := by decide +kernel
theorem dX2_sureCells_1 : decode cX2_sureCells 1 = .ok (.aload_n 1, 1) := by decide +kernel
theorem dX2_sureCells_2 : decode cX2_sureCells 2 = .ok (.aload_n 1, 1) := by decide +kernel
theorem dX2_sureCells_3 : decode cX2_sureCells 3 = .ok (.getfield 22, 3) := by decide +kernel
theorem dX2_sureCells_6 : decode cX2_sureCells 6 = .ok (.aload_n 1, 1) := by decide +kernel
theorem dX2_sureCells_7 : decode cX2_sureCells 7 = .ok (.getfield 27, 3) := by decide +kernel
theorem dX2_sureCells_10 : decode cX2_sureCells 10 = .ok (.invokevirtual 30, 3) := by decide +kernel
theorem dX2_sureCells_13 : decode cX2_sureCells 13 = .ok (.ifCond .ne 5, 3) := by decide +kernel
theorem dX2_sureCells_16 : decode cX2_sureCells 16 = .ok (.lconst 0, 1) := by decide +kernel
theorem dX2_sureCells_17 : decode cX2_sureCells 17 = .ok (.lreturn, 1) := by decide +kernel
theorem dX2_sureCells_18 : decode cX2_sureCells 18 = .ok (.aload_n 1, 1) := by decide +kernel
theorem dX2_sureCells_19 : decode cX2_sureCells 19 = .ok (.invokevirtual 38, 3) := by decide +kernel
theorem dX2_sureCells_22 : decode cX2_sureCells 22 = .ok (.lstore_n 2, 1) := by decide +kernel
theorem dX2_sureCells_23 : decode cX2_sureCells 23 = .ok (.iconst 0, 1) := by decide +kernel
theorem dX2_sureCells_24 : decode cX2_sureCells 24 = .ok (.istore 4, 2) := by decide +kernel
theorem dX2_sureCells_26 : decode cX2_sureCells 26 = .ok (.iload 4, 2) := by decide +kernel
theorem dX2_sureCells_28 : decode cX2_sureCells 28 = .ok (.bipush 48, 2) := by decide +kernel
theorem dX2_sureCells_30 : decode cX2_sureCells 30 = .ok (.if_icmp .ge 45, 3) := by decide +kernel
theorem dX2_sureCells_33 : decode cX2_sureCells 33 = .ok (.lconst 1, 1) := by decide +kernel
theorem dX2_sureCells_34 : decode cX2_sureCells 34 = .ok (.iload 4, 2) := by decide +kernel
theorem dX2_sureCells_36 : decode cX2_sureCells 36 = .ok (.lshl, 1) := by decide +kernel
theorem dX2_sureCells_37 : decode cX2_sureCells 37 = .ok (.lstore 5, 2) := by decide +kernel
theorem dX2_sureCells_39 : decode cX2_sureCells 39 = .ok (.aload_n 0, 1) := by decide +kernel
theorem dX2_sureCells_40 : decode cX2_sureCells 40 = .ok (.getfield 19, 3) := by decide +kernel
theorem dX2_sureCells_43 : decode cX2_sureCells 43 = .ok (.lload 5, 2) := by decide +kernel
theorem dX2_sureCells_45 : decode cX2_sureCells 45 = .ok (.land, 1) := by decide +kernel
theorem dX2_sureCells_46 : decode cX2_sureCells 46 = .ok (.lconst 0, 1) := by decide +kernel
theorem dX2_sureCells_47 : decode cX2_sureCells 47 = .ok (.lcmp, 1) := by decide +kernel
theorem dX2_sureCells_48 : decode cX2_sureCells 48 = .ok (.ifCond .eq 21, 3) := by decide +kernel
theorem dX2_sureCells_51 : decode cX2_sureCells 51 = .ok (.aload_n 0, 1) := by decide +kernel
theorem dX2_sureCells_52 : decode cX2_sureCells 52 = .ok (.iload 4, 2) := by decide +kernel
theorem dX2_sureCells_54 : decode cX2_sureCells 54 = .ok (.invokevirtual 46, 3) := by decide +kernel
theorem dX2_sureCells_57 : decode cX2_sureCells 57 = .ok (.ifCond .eq 12, 3) := by decide +kernel
theorem dX2_sureCells_60 : decode cX2_sureCells 60 = .ok (.lload_n 2, 1) := by decide +kernel
theorem dX2_sureCells_61 : decode cX2_sureCells 61 = .ok (.lload 5, 2) := by decide +kernel
theorem dX2_sureCells_63 : decode cX2_sureCells 63 = .ok (.ldc2_w 42, 3) := by decide +kernel
theorem dX2_sureCells_66 : decode cX2_sureCells 66 = .ok (.lxor, 1) := by decide +kernel
theorem dX2_sureCells_67 : decode cX2_sureCells 67 = .ok (.land, 1) := by decide +kernel
theorem dX2_sureCells_68 : decode cX2_sureCells 68 = .ok (.lstore_n 2, 1) := by decide +kernel
theorem dX2_sureCells_69 : decode cX2_sureCells 69 = .ok (.iinc 4 1, 3) := by decide +kernel
theorem dX2_sureCells_72 : decode cX2_sureCells 72 = .ok (.goto (-46), 3) := by decide +kernel
theorem dX2_sureCells_75 : decode cX2_sureCells 75 = .ok (.lload_n 2, 1) := by decide +kernel
theorem dX2_sureCells_76 : decode cX2_sureCells 76 = .ok (.lreturn, 1) := by decide +kernel
theorem dX2_build_0 : decode cX2_build 0 = .ok (.aload_n 0, 1) := by decide +kernel
theorem dX2_build_1 : decode cX2_build 1 = .ok (.lload 4, 2) := by decide +kernel
theorem dX2_build_3 : decode cX2_build 3 = .ok (.lload_n 2, 1) := by decide +kernel
theorem dX2_build_4 : decode cX2_build 4 = .ok (.land, 1) := by decide +kernel
theorem dX2_build_5 : decode cX2_build 5 = .ok (.putfield 15, 3) := by decide +kernel
theorem dX2_build_8 : decode cX2_build 8 = .ok (.aload_n 0, 1) := by decide +kernel
theorem dX2_build_9 : decode cX2_build 9 = .ok (.aload_n 1, 1) := by decide +kernel
theorem dX2_build_10 : decode cX2_build 10 = .ok (.invokevirtual 38, 3) := by decide +kernel
theorem dX2_build_13 : decode cX2_build 13 = .ok (.lload_n 2, 1) := by decide +kernel
theorem dX2_build_14 : decode cX2_build 14 = .ok (.ldc2_w 42, 3) := by decide +kernel
theorem dX2_build_17 : decode cX2_build 17 = .ok (.lxor, 1) := by decide +kernel
theorem dX2_build_18 : decode cX2_build 18 = .ok (.land, 1) := by decide +kernel
theorem dX2_build_19 : decode cX2_build 19 = .ok (.putfield 19, 3) := by decide +kernel
theorem dX2_build_22 : decode cX2_build 22 = .ok (.aload_n 1, 1) := by decide +kernel
theorem dX2_build_23 : decode cX2_build 23 = .ok (.invokevirtual 50, 3) := by decide +kernel
theorem dX2_build_26 : decode cX2_build 26 = .ok (.aload_n 1, 1) := by decide +kernel
theorem dX2_build_27 : decode cX2_build 27 = .ok (.invokevirtual 54, 3) := by decide +kernel
theorem dX2_build_30 : decode cX2_build 30 = .ok (.if_icmp .ne 11, 3) := by decide +kernel
theorem dX2_build_33 : decode cX2_build 33 = .ok (.aload_n 0, 1) := by decide +kernel
theorem dX2_build_34 : decode cX2_build 34 = .ok (.aload_n 1, 1) := by decide +kernel
theorem dX2_build_35 : decode cX2_build 35 = .ok (.invokevirtual 57, 3) := by decide +kernel
theorem dX2_build_38 : decode cX2_build 38 = .ok (.ifCond .eq 5, 3) := by decide +kernel
theorem dX2_build_41 : decode cX2_build 41 = .ok (.iconst 0, 1) := by decide +kernel
theorem dX2_build_42 : decode cX2_build 42 = .ok (.ireturn, 1) := by decide +kernel
theorem dX2_build_43 : decode cX2_build 43 = .ok (.iconst 0, 1) := by decide +kernel
theorem dX2_build_44 : decode cX2_build 44 = .ok (.istore 6, 2) := by decide +kernel
theorem dX2_build_46 : decode cX2_build 46 = .ok (.iload 6, 2) := by decide +kernel
theorem dX2_build_48 : decode cX2_build 48 = .ok (.aload_n 1, 1) := by decide +kernel
theorem dX2_build_49 : decode cX2_build 49 = .ok (.getfield 61, 3) := by decide +kernel
theorem dX2_build_52 : decode cX2_build 52 = .ok (.if_icmp .ge 85, 3) := by decide +kernel
theorem dX2_build_55 : decode cX2_build 55 = .ok (.aload_n 1, 1) := by decide +kernel
theorem dX2_build_56 : decode cX2_build 56 = .ok (.iload 6, 2) := by decide +kernel
theorem dX2_build_58 : decode cX2_build 58 = .ok (.invokevirtual 65, 3) := by decide +kernel
theorem dX2_build_61 : decode cX2_build 61 = .ok (.aload_n 0, 1) := by decide +kernel
theorem dX2_build_62 : decode cX2_build 62 = .ok (.getfield 15, 3) := by decide +kernel
theorem dX2_build_65 : decode cX2_build 65 = .ok (.iload 6, 2) := by decide +kernel
theorem dX2_build_67 : decode cX2_build 67 = .ok (.invokestatic 69, 3) := by decide +kernel
theorem dX2_build_70 : decode cX2_build 70 = .ok (.land, 1) := by decide +kernel
theorem dX2_build_71 : decode cX2_build 71 = .ok (.invokestatic 73, 3) := by decide +kernel
theorem dX2_build_74 : decode cX2_build 74 = .ok (.isub, 1) := by decide +kernel
theorem dX2_build_75 : decode cX2_build 75 = .ok (.istore 7, 2) := by decide +kernel
theorem dX2_build_77 : decode cX2_build 77 = .ok (.iconst 0, 1) := by decide +kernel
theorem dX2_build_78 : decode cX2_build 78 = .ok (.istore 8, 2) := by decide +kernel
theorem dX2_build_80 : decode cX2_build 80 = .ok (.iload 8, 2) := by decide +kernel
theorem dX2_build_82 : decode cX2_build 82 = .ok (.iload 7, 2) := by decide +kernel
theorem dX2_build_84 : decode cX2_build 84 = .ok (.if_icmp .ge 47, 3) := by decide +kernel
theorem dX2_build_87 : decode cX2_build 87 = .ok (.aload_n 0, 1) := by decide +kernel
theorem dX2_build_88 : decode cX2_build 88 = .ok (.iload 6, 2) := by decide +kernel
theorem dX2_build_90 : decode cX2_build 90 = .ok (.aload_n 0, 1) := by decide +kernel
theorem dX2_build_91 : decode cX2_build 91 = .ok (.aload_n 1, 1) := by decide +kernel
theorem dX2_build_92 : decode cX2_build 92 = .ok (.invokevirtual 79, 3) := by decide +kernel
theorem dX2_build_95 : decode cX2_build 95 = .ok (.aload_n 0, 1) := by decide +kernel
theorem dX2_build_96 : decode cX2_build 96 = .ok (.getfield 19, 3) := by decide +kernel
theorem dX2_build_99 : decode cX2_build 99 = .ok (.aload_n 0, 1) := by decide +kernel
theorem dX2_build_100 : decode cX2_build 100 = .ok (.getfield 15, 3) := by decide +kernel
theorem dX2_build_103 : decode cX2_build 103 = .ok (.ldc2_w 42, 3) := by decide +kernel
theorem dX2_build_106 : decode cX2_build 106 = .ok (.lxor, 1) := by decide +kernel
theorem dX2_build_107 : decode cX2_build 107 = .ok (.land, 1) := by decide +kernel
theorem dX2_build_108 : decode cX2_build 108 = .ok (.aload_n 0, 1) := by decide +kernel
theorem dX2_build_109 : decode cX2_build 109 = .ok (.getfield 19, 3) := by decide +kernel
theorem dX2_build_112 : decode cX2_build 112 = .ok (.aload_n 0, 1) := by decide +kernel
theorem dX2_build_113 : decode cX2_build 113 = .ok (.getfield 15, 3) := by decide +kernel
theorem dX2_build_116 : decode cX2_build 116 = .ok (.land, 1) := by decide +kernel
theorem dX2_build_117 : decode cX2_build 117 = .ok (.invokevirtual 83, 3) := by decide +kernel
theorem dX2_build_120 : decode cX2_build 120 = .ok (.ifCond .ne 5, 3) := by decide +kernel
theorem dX2_build_123 : decode cX2_build 123 = .ok (.iconst 0, 1) := by decide +kernel
theorem dX2_build_124 : decode cX2_build 124 = .ok (.ireturn, 1) := by decide +kernel
theorem dX2_build_125 : decode cX2_build 125 = .ok (.iinc 8 1, 3) := by decide +kernel
theorem dX2_build_128 : decode cX2_build 128 = .ok (.goto (-48), 3) := by decide +kernel
theorem dX2_build_131 : decode cX2_build 131 = .ok (.iinc 6 1, 3) := by decide +kernel
theorem dX2_build_134 : decode cX2_build 134 = .ok (.goto (-88), 3) := by decide +kernel
theorem dX2_build_137 : decode cX2_build 137 = .ok (.iconst 1, 1) := by decide +kernel
theorem dX2_build_138 : decode cX2_build 138 = .ok (.ireturn, 1) := by decide +kernel
theorem dX2_hasTooFullLine_0 : decode cX2_hasTooFullLine 0 = .ok (.iconst 0, 1) := by decide +kernel
theorem dX2_hasTooFullLine_1 : decode cX2_hasTooFullLine 1 = .ok (.istore_n 2, 1) := by decide +kernel
theorem dX2_hasTooFullLine_2 : decode cX2_hasTooFullLine 2 = .ok (.iload_n 2, 1) := by decide +kernel
theorem dX2_hasTooFullLine_3 : decode cX2_hasTooFullLine 3 = .ok (.aload_n 1, 1) := by decide +kernel
theorem dX2_hasTooFullLine_4 : decode cX2_hasTooFullLine 4 = .ok (.getfield 61, 3) := by decide +kernel
theorem dX2_hasTooFullLine_7 : decode cX2_hasTooFullLine 7 = .ok (.aload_n 1, 1) := by decide +kernel
theorem dX2_hasTooFullLine_8 : decode cX2_hasTooFullLine 8 = .ok (.getfield 87, 3) := by decide +kernel
theorem dX2_hasTooFullLine_11 : decode cX2_hasTooFullLine 11 = .ok (.iadd, 1) := by decide +kernel
theorem dX2_hasTooFullLine_12 : decode cX2_hasTooFullLine 12 = .ok (.if_icmp .ge 32, 3) := by decide +kernel
theorem dX2_hasTooFullLine_15 : decode cX2_hasTooFullLine 15 = .ok (.aload_n 0, 1) := by decide +kernel
theorem dX2_hasTooFullLine_16 : decode cX2_hasTooFullLine 16 = .ok (.getfield 15, 3) := by decide +kernel
theorem dX2_hasTooFullLine_19 : decode cX2_hasTooFullLine 19 = .ok (.aload_n 1, 1) := by decide +kernel
theorem dX2_hasTooFullLine_20 : decode cX2_hasTooFullLine 20 = .ok (.iload_n 2, 1) := by decide +kernel
theorem dX2_hasTooFullLine_21 : decode cX2_hasTooFullLine 21 = .ok (.invokevirtual 90, 3) := by decide +kernel
theorem dX2_hasTooFullLine_24 : decode cX2_hasTooFullLine 24 = .ok (.land, 1) := by decide +kernel
theorem dX2_hasTooFullLine_25 : decode cX2_hasTooFullLine 25 = .ok (.invokestatic 73, 3) := by decide +kernel
theorem dX2_hasTooFullLine_28 : decode cX2_hasTooFullLine 28 = .ok (.aload_n 1, 1) := by decide +kernel
theorem dX2_hasTooFullLine_29 : decode cX2_hasTooFullLine 29 = .ok (.iload_n 2, 1) := by decide +kernel
theorem dX2_hasTooFullLine_30 : decode cX2_hasTooFullLine 30 = .ok (.invokevirtual 65, 3) := by decide +kernel
theorem dX2_hasTooFullLine_33 : decode cX2_hasTooFullLine 33 = .ok (.if_icmp .le 5, 3) := by decide +kernel
theorem dX2_hasTooFullLine_36 : decode cX2_hasTooFullLine 36 = .ok (.iconst 1, 1) := by decide +kernel
theorem dX2_hasTooFullLine_37 : decode cX2_hasTooFullLine 37 = .ok (.ireturn, 1) := by decide +kernel
theorem dX2_hasTooFullLine_38 : decode cX2_hasTooFullLine 38 = .ok (.iinc 2 1, 3) := by decide +kernel
theorem dX2_hasTooFullLine_41 : decode cX2_hasTooFullLine 41 = .ok (.goto (-39), 3) := by decide +kernel
theorem dX2_hasTooFullLine_44 : decode cX2_hasTooFullLine 44 = .ok (.iconst 0, 1) := by decide +kernel
theorem dX2_hasTooFullLine_45 : decode cX2_hasTooFullLine 45 = .ok (.ireturn, 1) := by decide +kernel
theorem dX2_columnsWithRoom_0 : decode cX2_columnsWithRoom 0 = .ok (.iconst 0, 1) := by decide +kernel
theorem dX2_columnsWithRoom_1 : decode cX2_columnsWithRoom 1 = .ok (.istore_n 2, 1) := by decide +kernel
theorem dX2_columnsWithRoom_2 : decode cX2_columnsWithRoom 2 = .ok (.iconst 0, 1) := by decide +kernel
theorem dX2_columnsWithRoom_3 : decode cX2_columnsWithRoom 3 = .ok (.istore_n 3, 1) := by decide +kernel
theorem dX2_columnsWithRoom_4 : decode cX2_columnsWithRoom 4 = .ok (.iload_n 3, 1) := by decide +kernel
theorem dX2_columnsWithRoom_5 : decode cX2_columnsWithRoom 5 = .ok (.aload_n 1, 1) := by decide +kernel
theorem dX2_columnsWithRoom_6 : decode cX2_columnsWithRoom 6 = .ok (.getfield 87, 3) := by decide +kernel
theorem dX2_columnsWithRoom_9 : decode cX2_columnsWithRoom 9 = .ok (.if_icmp .ge 40, 3) := by decide +kernel
theorem dX2_columnsWithRoom_12 : decode cX2_columnsWithRoom 12 = .ok (.aload_n 0, 1) := by decide +kernel
theorem dX2_columnsWithRoom_13 : decode cX2_columnsWithRoom 13 = .ok (.getfield 15, 3) := by decide +kernel
theorem dX2_columnsWithRoom_16 : decode cX2_columnsWithRoom 16 = .ok (.iload_n 3, 1) := by decide +kernel
theorem dX2_columnsWithRoom_17 : decode cX2_columnsWithRoom 17 = .ok (.invokestatic 93, 3) := by decide +kernel
theorem dX2_columnsWithRoom_20 : decode cX2_columnsWithRoom 20 = .ok (.land, 1) := by decide +kernel
theorem dX2_columnsWithRoom_21 : decode cX2_columnsWithRoom 21 = .ok (.invokestatic 73, 3) := by decide +kernel
theorem dX2_columnsWithRoom_24 : decode cX2_columnsWithRoom 24 = .ok (.aload_n 1, 1) := by decide +kernel
theorem dX2_columnsWithRoom_25 : decode cX2_columnsWithRoom 25 = .ok (.aload_n 1, 1) := by decide +kernel
theorem dX2_columnsWithRoom_26 : decode cX2_columnsWithRoom 26 = .ok (.getfield 61, 3) := by decide +kernel
theorem dX2_columnsWithRoom_29 : decode cX2_columnsWithRoom 29 = .ok (.iload_n 3, 1) := by decide +kernel
theorem dX2_columnsWithRoom_30 : decode cX2_columnsWithRoom 30 = .ok (.iadd, 1) := by decide +kernel
theorem dX2_columnsWithRoom_31 : decode cX2_columnsWithRoom 31 = .ok (.invokevirtual 65, 3) := by decide +kernel
theorem dX2_columnsWithRoom_34 : decode cX2_columnsWithRoom 34 = .ok (.if_icmp .ge 9, 3) := by decide +kernel
theorem dX2_columnsWithRoom_37 : decode cX2_columnsWithRoom 37 = .ok (.iload_n 2, 1) := by decide +kernel
theorem dX2_columnsWithRoom_38 : decode cX2_columnsWithRoom 38 = .ok (.iconst 1, 1) := by decide +kernel
theorem dX2_columnsWithRoom_39 : decode cX2_columnsWithRoom 39 = .ok (.iload_n 3, 1) := by decide +kernel
theorem dX2_columnsWithRoom_40 : decode cX2_columnsWithRoom 40 = .ok (.ishl, 1) := by decide +kernel
theorem dX2_columnsWithRoom_41 : decode cX2_columnsWithRoom 41 = .ok (.ior, 1) := by decide +kernel
theorem dX2_columnsWithRoom_42 : decode cX2_columnsWithRoom 42 = .ok (.istore_n 2, 1) := by decide +kernel
theorem dX2_columnsWithRoom_43 : decode cX2_columnsWithRoom 43 = .ok (.iinc 3 1, 3) := by decide +kernel
theorem dX2_columnsWithRoom_46 : decode cX2_columnsWithRoom 46 = .ok (.goto (-42), 3) := by decide +kernel
theorem dX2_columnsWithRoom_49 : decode cX2_columnsWithRoom 49 = .ok (.iload_n 2, 1) := by decide +kernel
theorem dX2_columnsWithRoom_50 : decode cX2_columnsWithRoom 50 = .ok (.ireturn, 1) := by decide +kernel
theorem dX2_settle_0 : decode cX2_settle 0 = .ok (.iconst 0, 1) := by decide +kernel
theorem dX2_settle_1 : decode cX2_settle 1 = .ok (.istore_n 2, 1) := by decide +kernel
theorem dX2_settle_2 : decode cX2_settle 2 = .ok (.iload_n 2, 1) := by decide +kernel
theorem dX2_settle_3 : decode cX2_settle 3 = .ok (.bipush 48, 2) := by decide +kernel
theorem dX2_settle_5 : decode cX2_settle 5 = .ok (.if_icmp .ge 68, 3) := by decide +kernel
theorem dX2_settle_8 : decode cX2_settle 8 = .ok (.lconst 1, 1) := by decide +kernel
theorem dX2_settle_9 : decode cX2_settle 9 = .ok (.iload_n 2, 1) := by decide +kernel
theorem dX2_settle_10 : decode cX2_settle 10 = .ok (.lshl, 1) := by decide +kernel
theorem dX2_settle_11 : decode cX2_settle 11 = .ok (.lstore_n 3, 1) := by decide +kernel
theorem dX2_settle_12 : decode cX2_settle 12 = .ok (.aload_n 0, 1) := by decide +kernel
theorem dX2_settle_13 : decode cX2_settle 13 = .ok (.getfield 15, 3) := by decide +kernel
theorem dX2_settle_16 : decode cX2_settle 16 = .ok (.lload_n 3, 1) := by decide +kernel
theorem dX2_settle_17 : decode cX2_settle 17 = .ok (.land, 1) := by decide +kernel
theorem dX2_settle_18 : decode cX2_settle 18 = .ok (.lconst 0, 1) := by decide +kernel
theorem dX2_settle_19 : decode cX2_settle 19 = .ok (.lcmp, 1) := by decide +kernel
theorem dX2_settle_20 : decode cX2_settle 20 = .ok (.ifCond .eq 7, 3) := by decide +kernel
theorem dX2_settle_23 : decode cX2_settle 23 = .ok (.iconst 1, 1) := by decide +kernel
theorem dX2_settle_24 : decode cX2_settle 24 = .ok (.goto 4, 3) := by decide +kernel
theorem dX2_settle_27 : decode cX2_settle 27 = .ok (.iconst 0, 1) := by decide +kernel
theorem dX2_settle_28 : decode cX2_settle 28 = .ok (.istore 5, 2) := by decide +kernel
theorem dX2_settle_30 : decode cX2_settle 30 = .ok (.aload_n 0, 1) := by decide +kernel
theorem dX2_settle_31 : decode cX2_settle 31 = .ok (.getfield 19, 3) := by decide +kernel
theorem dX2_settle_34 : decode cX2_settle 34 = .ok (.lload_n 3, 1) := by decide +kernel
theorem dX2_settle_35 : decode cX2_settle 35 = .ok (.land, 1) := by decide +kernel
theorem dX2_settle_36 : decode cX2_settle 36 = .ok (.lconst 0, 1) := by decide +kernel
theorem dX2_settle_37 : decode cX2_settle 37 = .ok (.lcmp, 1) := by decide +kernel
theorem dX2_settle_38 : decode cX2_settle 38 = .ok (.ifCond .eq 29, 3) := by decide +kernel
theorem dX2_settle_41 : decode cX2_settle 41 = .ok (.aload_n 0, 1) := by decide +kernel
theorem dX2_settle_42 : decode cX2_settle 42 = .ok (.dup, 1) := by decide +kernel
theorem dX2_settle_43 : decode cX2_settle 43 = .ok (.getfield 19, 3) := by decide +kernel
theorem dX2_settle_46 : decode cX2_settle 46 = .ok (.lload_n 3, 1) := by decide +kernel
theorem dX2_settle_47 : decode cX2_settle 47 = .ok (.ldc2_w 42, 3) := by decide +kernel
theorem dX2_settle_50 : decode cX2_settle 50 = .ok (.lxor, 1) := by decide +kernel
theorem dX2_settle_51 : decode cX2_settle 51 = .ok (.land, 1) := by decide +kernel
theorem dX2_settle_52 : decode cX2_settle 52 = .ok (.putfield 19, 3) := by decide +kernel
theorem dX2_settle_55 : decode cX2_settle 55 = .ok (.iload 5, 2) := by decide +kernel
theorem dX2_settle_57 : decode cX2_settle 57 = .ok (.iload_n 1, 1) := by decide +kernel
theorem dX2_settle_58 : decode cX2_settle 58 = .ok (.if_icmp .eq 9, 3) := by decide +kernel
theorem dX2_settle_61 : decode cX2_settle 61 = .ok (.aload_n 0, 1) := by decide +kernel
theorem dX2_settle_62 : decode cX2_settle 62 = .ok (.iload_n 2, 1) := by decide +kernel
theorem dX2_settle_63 : decode cX2_settle 63 = .ok (.invokevirtual 46, 3) := by decide +kernel
theorem dX2_settle_66 : decode cX2_settle 66 = .ok (.pop, 1) := by decide +kernel
theorem dX2_settle_67 : decode cX2_settle 67 = .ok (.iinc 2 1, 3) := by decide +kernel
theorem dX2_settle_70 : decode cX2_settle 70 = .ok (.goto (-68), 3) := by decide +kernel
theorem dX2_settle_73 : decode cX2_settle 73 = .ok (.return_, 1) := by decide +kernel
theorem dX2_change_0 : decode cX2_change 0 = .ok (.lconst 1, 1) := by decide +kernel
theorem dX2_change_1 : decode cX2_change 1 = .ok (.iload_n 1, 1) := by decide +kernel
theorem dX2_change_2 : decode cX2_change 2 = .ok (.lshl, 1) := by decide +kernel
theorem dX2_change_3 : decode cX2_change 3 = .ok (.lstore_n 2, 1) := by decide +kernel
theorem dX2_change_4 : decode cX2_change 4 = .ok (.aload_n 0, 1) := by decide +kernel
theorem dX2_change_5 : decode cX2_change 5 = .ok (.getfield 15, 3) := by decide +kernel
theorem dX2_change_8 : decode cX2_change 8 = .ok (.lload_n 2, 1) := by decide +kernel
theorem dX2_change_9 : decode cX2_change 9 = .ok (.land, 1) := by decide +kernel
theorem dX2_change_10 : decode cX2_change 10 = .ok (.lconst 0, 1) := by decide +kernel
theorem dX2_change_11 : decode cX2_change 11 = .ok (.lcmp, 1) := by decide +kernel
theorem dX2_change_12 : decode cX2_change 12 = .ok (.ifCond .eq 7, 3) := by decide +kernel
theorem dX2_change_15 : decode cX2_change 15 = .ok (.iconst 1, 1) := by decide +kernel
theorem dX2_change_16 : decode cX2_change 16 = .ok (.goto 4, 3) := by decide +kernel
theorem dX2_change_19 : decode cX2_change 19 = .ok (.iconst 0, 1) := by decide +kernel
theorem dX2_change_20 : decode cX2_change 20 = .ok (.istore 4, 2) := by decide +kernel
theorem dX2_change_22 : decode cX2_change 22 = .ok (.aload_n 0, 1) := by decide +kernel
theorem dX2_change_23 : decode cX2_change 23 = .ok (.getfield 19, 3) := by decide +kernel
theorem dX2_change_26 : decode cX2_change 26 = .ok (.aload_n 0, 1) := by decide +kernel
theorem dX2_change_27 : decode cX2_change 27 = .ok (.getfield 15, 3) := by decide +kernel
theorem dX2_change_30 : decode cX2_change 30 = .ok (.land, 1) := by decide +kernel
theorem dX2_change_31 : decode cX2_change 31 = .ok (.lstore 5, 2) := by decide +kernel
theorem dX2_change_33 : decode cX2_change 33 = .ok (.aload_n 0, 1) := by decide +kernel
theorem dX2_change_34 : decode cX2_change 34 = .ok (.getfield 19, 3) := by decide +kernel
theorem dX2_change_37 : decode cX2_change 37 = .ok (.aload_n 0, 1) := by decide +kernel
theorem dX2_change_38 : decode cX2_change 38 = .ok (.getfield 15, 3) := by decide +kernel
theorem dX2_change_41 : decode cX2_change 41 = .ok (.ldc2_w 42, 3) := by decide +kernel
theorem dX2_change_44 : decode cX2_change 44 = .ok (.lxor, 1) := by decide +kernel
theorem dX2_change_45 : decode cX2_change 45 = .ok (.land, 1) := by decide +kernel
theorem dX2_change_46 : decode cX2_change 46 = .ok (.lstore 7, 2) := by decide +kernel
theorem dX2_change_48 : decode cX2_change 48 = .ok (.aload_n 0, 1) := by decide +kernel
theorem dX2_change_49 : decode cX2_change 49 = .ok (.iload_n 1, 1) := by decide +kernel
theorem dX2_change_50 : decode cX2_change 50 = .ok (.invokestatic 96, 3) := by decide +kernel
theorem dX2_change_53 : decode cX2_change 53 = .ok (.iconst 1, 1) := by decide +kernel
theorem dX2_change_54 : decode cX2_change 54 = .ok (.iload_n 1, 1) := by decide +kernel
theorem dX2_change_55 : decode cX2_change 55 = .ok (.invokestatic 99, 3) := by decide +kernel
theorem dX2_change_58 : decode cX2_change 58 = .ok (.ishl, 1) := by decide +kernel
theorem dX2_change_59 : decode cX2_change 59 = .ok (.iload 4, 2) := by decide +kernel
theorem dX2_change_61 : decode cX2_change 61 = .ok (.ifCond .eq 8, 3) := by decide +kernel
theorem dX2_change_64 : decode cX2_change 64 = .ok (.lload 7, 2) := by decide +kernel
theorem dX2_change_66 : decode cX2_change 66 = .ok (.goto 5, 3) := by decide +kernel
theorem dX2_change_69 : decode cX2_change 69 = .ok (.lload 5, 2) := by decide +kernel
theorem dX2_change_71 : decode cX2_change 71 = .ok (.iload 4, 2) := by decide +kernel
theorem dX2_change_73 : decode cX2_change 73 = .ok (.ifCond .eq 8, 3) := by decide +kernel
theorem dX2_change_76 : decode cX2_change 76 = .ok (.lload 5, 2) := by decide +kernel
theorem dX2_change_78 : decode cX2_change 78 = .ok (.goto 5, 3) := by decide +kernel
theorem dX2_change_81 : decode cX2_change 81 = .ok (.lload 7, 2) := by decide +kernel
theorem dX2_change_83 : decode cX2_change 83 = .ok (.invokevirtual 83, 3) := by decide +kernel
theorem dX2_change_86 : decode cX2_change 86 = .ok (.istore 9, 2) := by decide +kernel
theorem dX2_change_88 : decode cX2_change 88 = .ok (.iload 9, 2) := by decide +kernel
theorem dX2_change_90 : decode cX2_change 90 = .ok (.ifCond .eq 13, 3) := by decide +kernel
theorem dX2_change_93 : decode cX2_change 93 = .ok (.aload_n 0, 1) := by decide +kernel
theorem dX2_change_94 : decode cX2_change 94 = .ok (.dup, 1) := by decide +kernel
theorem dX2_change_95 : decode cX2_change 95 = .ok (.getfield 15, 3) := by decide +kernel
theorem dX2_change_98 : decode cX2_change 98 = .ok (.lload_n 2, 1) := by decide +kernel
theorem dX2_change_99 : decode cX2_change 99 = .ok (.lxor, 1) := by decide +kernel
theorem dX2_change_100 : decode cX2_change 100 = .ok (.putfield 15, 3) := by decide +kernel
theorem dX2_change_103 : decode cX2_change 103 = .ok (.iload 9, 2) := by decide +kernel
theorem dX2_change_105 : decode cX2_change 105 = .ok (.ireturn, 1) := by decide +kernel
theorem dX2_shift_0 : decode cX2_shift 0 = .ok (.aload_n 0, 1) := by decide +kernel
theorem dX2_shift_1 : decode cX2_shift 1 = .ok (.invokevirtual 102, 3) := by decide +kernel
theorem dX2_shift_4 : decode cX2_shift 4 = .ok (.iconst 1, 1) := by decide +kernel
theorem dX2_shift_5 : decode cX2_shift 5 = .ok (.iload_n 1, 1) := by decide +kernel
theorem dX2_shift_6 : decode cX2_shift 6 = .ok (.ishl, 1) := by decide +kernel
theorem dX2_shift_7 : decode cX2_shift 7 = .ok (.istore 7, 2) := by decide +kernel
theorem dX2_shift_9 : decode cX2_shift 9 = .ok (.iload 7, 2) := by decide +kernel
theorem dX2_shift_11 : decode cX2_shift 11 = .ok (.istore 8, 2) := by decide +kernel
theorem dX2_shift_13 : decode cX2_shift 13 = .ok (.iconst 0, 1) := by decide +kernel
theorem dX2_shift_14 : decode cX2_shift 14 = .ok (.istore 9, 2) := by decide +kernel
theorem dX2_shift_16 : decode cX2_shift 16 = .ok (.iconst 0, 1) := by decide +kernel
theorem dX2_shift_17 : decode cX2_shift 17 = .ok (.istore 10, 2) := by decide +kernel
theorem dX2_shift_19 : decode cX2_shift 19 = .ok (.iload 10, 2) := by decide +kernel
theorem dX2_shift_21 : decode cX2_shift 21 = .ok (.bipush 6, 2) := by decide +kernel
theorem dX2_shift_23 : decode cX2_shift 23 = .ok (.if_icmp .ge 156, 3) := by decide +kernel
theorem dX2_shift_26 : decode cX2_shift 26 = .ok (.iload 8, 2) := by decide +kernel
theorem dX2_shift_28 : decode cX2_shift 28 = .ok (.ifCond .eq 151, 3) := by decide +kernel
theorem dX2_shift_31 : decode cX2_shift 31 = .ok (.iload 8, 2) := by decide +kernel
theorem dX2_shift_33 : decode cX2_shift 33 = .ok (.iload 8, 2) := by decide +kernel
theorem dX2_shift_35 : decode cX2_shift 35 = .ok (.ineg, 1) := by decide +kernel
theorem dX2_shift_36 : decode cX2_shift 36 = .ok (.iand, 1) := by decide +kernel
theorem dX2_shift_37 : decode cX2_shift 37 = .ok (.iconst 1, 1) := by decide +kernel
theorem dX2_shift_38 : decode cX2_shift 38 = .ok (.isub, 1) := by decide +kernel
theorem dX2_shift_39 : decode cX2_shift 39 = .ok (.invokestatic 105, 3) := by decide +kernel
theorem dX2_shift_42 : decode cX2_shift 42 = .ok (.istore 11, 2) := by decide +kernel
theorem dX2_shift_44 : decode cX2_shift 44 = .ok (.iload 8, 2) := by decide +kernel
theorem dX2_shift_46 : decode cX2_shift 46 = .ok (.iload 8, 2) := by decide +kernel
theorem dX2_shift_48 : decode cX2_shift 48 = .ok (.iconst 1, 1) := by decide +kernel
theorem dX2_shift_49 : decode cX2_shift 49 = .ok (.isub, 1) := by decide +kernel
theorem dX2_shift_50 : decode cX2_shift 50 = .ok (.iand, 1) := by decide +kernel
theorem dX2_shift_51 : decode cX2_shift 51 = .ok (.istore 8, 2) := by decide +kernel
theorem dX2_shift_53 : decode cX2_shift 53 = .ok (.iconst 0, 1) := by decide +kernel
theorem dX2_shift_54 : decode cX2_shift 54 = .ok (.istore 12, 2) := by decide +kernel
theorem dX2_shift_56 : decode cX2_shift 56 = .ok (.iload 12, 2) := by decide +kernel
theorem dX2_shift_58 : decode cX2_shift 58 = .ok (.bipush 6, 2) := by decide +kernel
theorem dX2_shift_60 : decode cX2_shift 60 = .ok (.if_icmp .ge 113, 3) := by decide +kernel
theorem dX2_shift_63 : decode cX2_shift 63 = .ok (.lload_n 3, 1) := by decide +kernel
theorem dX2_shift_64 : decode cX2_shift 64 = .ok (.iload 11, 2) := by decide +kernel
theorem dX2_shift_66 : decode cX2_shift 66 = .ok (.iload 12, 2) := by decide +kernel
theorem dX2_shift_68 : decode cX2_shift 68 = .ok (.invokestatic 109, 3) := by decide +kernel
theorem dX2_shift_71 : decode cX2_shift 71 = .ok (.land, 1) := by decide +kernel
theorem dX2_shift_72 : decode cX2_shift 72 = .ok (.lconst 0, 1) := by decide +kernel
theorem dX2_shift_73 : decode cX2_shift 73 = .ok (.lcmp, 1) := by decide +kernel
theorem dX2_shift_74 : decode cX2_shift 74 = .ok (.ifCond .eq 93, 3) := by decide +kernel
theorem dX2_shift_77 : decode cX2_shift 77 = .ok (.iload 9, 2) := by decide +kernel
theorem dX2_shift_79 : decode cX2_shift 79 = .ok (.iload 12, 2) := by decide +kernel
theorem dX2_shift_81 : decode cX2_shift 81 = .ok (.ishr, 1) := by decide +kernel
theorem dX2_shift_82 : decode cX2_shift 82 = .ok (.iconst 1, 1) := by decide +kernel
theorem dX2_shift_83 : decode cX2_shift 83 = .ok (.iand, 1) := by decide +kernel
theorem dX2_shift_84 : decode cX2_shift 84 = .ok (.ifCond .eq 6, 3) := by decide +kernel
theorem dX2_shift_87 : decode cX2_shift 87 = .ok (.goto 80, 3) := by decide +kernel
theorem dX2_shift_90 : decode cX2_shift 90 = .ok (.iload 9, 2) := by decide +kernel
theorem dX2_shift_92 : decode cX2_shift 92 = .ok (.iconst 1, 1) := by decide +kernel
theorem dX2_shift_93 : decode cX2_shift 93 = .ok (.iload 12, 2) := by decide +kernel
theorem dX2_shift_95 : decode cX2_shift 95 = .ok (.ishl, 1) := by decide +kernel
theorem dX2_shift_96 : decode cX2_shift 96 = .ok (.ior, 1) := by decide +kernel
theorem dX2_shift_97 : decode cX2_shift 97 = .ok (.istore 9, 2) := by decide +kernel
theorem dX2_shift_99 : decode cX2_shift 99 = .ok (.aload_n 0, 1) := by decide +kernel
theorem dX2_shift_100 : decode cX2_shift 100 = .ok (.iload 11, 2) := by decide +kernel
theorem dX2_shift_102 : decode cX2_shift 102 = .ok (.invokevirtual 113, 3) := by decide +kernel
theorem dX2_shift_105 : decode cX2_shift 105 = .ok (.iload 11, 2) := by decide +kernel
theorem dX2_shift_107 : decode cX2_shift 107 = .ok (.iload 12, 2) := by decide +kernel
theorem dX2_shift_109 : decode cX2_shift 109 = .ok (.invokestatic 109, 3) := by decide +kernel
theorem dX2_shift_112 : decode cX2_shift 112 = .ok (.lor, 1) := by decide +kernel
theorem dX2_shift_113 : decode cX2_shift 113 = .ok (.lstore 13, 2) := by decide +kernel
theorem dX2_shift_115 : decode cX2_shift 115 = .ok (.iload_n 2, 1) := by decide +kernel
theorem dX2_shift_116 : decode cX2_shift 116 = .ok (.iload 12, 2) := by decide +kernel
theorem dX2_shift_118 : decode cX2_shift 118 = .ok (.ishr, 1) := by decide +kernel
theorem dX2_shift_119 : decode cX2_shift 119 = .ok (.iconst 1, 1) := by decide +kernel
theorem dX2_shift_120 : decode cX2_shift 120 = .ok (.iand, 1) := by decide +kernel
theorem dX2_shift_121 : decode cX2_shift 121 = .ok (.ifCond .eq 16, 3) := by decide +kernel
theorem dX2_shift_124 : decode cX2_shift 124 = .ok (.aload_n 0, 1) := by decide +kernel
theorem dX2_shift_125 : decode cX2_shift 125 = .ok (.dup, 1) := by decide +kernel
theorem dX2_shift_126 : decode cX2_shift 126 = .ok (.getfield 15, 3) := by decide +kernel
theorem dX2_shift_129 : decode cX2_shift 129 = .ok (.lload 13, 2) := by decide +kernel
theorem dX2_shift_131 : decode cX2_shift 131 = .ok (.lxor, 1) := by decide +kernel
theorem dX2_shift_132 : decode cX2_shift 132 = .ok (.putfield 15, 3) := by decide +kernel
theorem dX2_shift_135 : decode cX2_shift 135 = .ok (.iconst 1, 1) := by decide +kernel
theorem dX2_shift_136 : decode cX2_shift 136 = .ok (.ireturn, 1) := by decide +kernel
theorem dX2_shift_137 : decode cX2_shift 137 = .ok (.aload_n 0, 1) := by decide +kernel
theorem dX2_shift_138 : decode cX2_shift 138 = .ok (.iload 12, 2) := by decide +kernel
theorem dX2_shift_140 : decode cX2_shift 140 = .ok (.lload 13, 2) := by decide +kernel
theorem dX2_shift_142 : decode cX2_shift 142 = .ok (.lload 5, 2) := by decide +kernel
theorem dX2_shift_144 : decode cX2_shift 144 = .ok (.iload 7, 2) := by decide +kernel
theorem dX2_shift_146 : decode cX2_shift 146 = .ok (.iconst (-1), 1) := by decide +kernel
theorem dX2_shift_147 : decode cX2_shift 147 = .ok (.ixor, 1) := by decide +kernel
theorem dX2_shift_148 : decode cX2_shift 148 = .ok (.invokevirtual 116, 3) := by decide +kernel
theorem dX2_shift_151 : decode cX2_shift 151 = .ok (.istore 15, 2) := by decide +kernel
theorem dX2_shift_153 : decode cX2_shift 153 = .ok (.iload 7, 2) := by decide +kernel
theorem dX2_shift_155 : decode cX2_shift 155 = .ok (.iload 15, 2) := by decide +kernel
theorem dX2_shift_157 : decode cX2_shift 157 = .ok (.ior, 1) := by decide +kernel
theorem dX2_shift_158 : decode cX2_shift 158 = .ok (.istore 7, 2) := by decide +kernel
theorem dX2_shift_160 : decode cX2_shift 160 = .ok (.iload 8, 2) := by decide +kernel
theorem dX2_shift_162 : decode cX2_shift 162 = .ok (.iload 15, 2) := by decide +kernel
theorem dX2_shift_164 : decode cX2_shift 164 = .ok (.ior, 1) := by decide +kernel
theorem dX2_shift_165 : decode cX2_shift 165 = .ok (.istore 8, 2) := by decide +kernel
theorem dX2_shift_167 : decode cX2_shift 167 = .ok (.iinc 12 1, 3) := by decide +kernel
theorem dX2_shift_170 : decode cX2_shift 170 = .ok (.goto (-114), 3) := by decide +kernel
theorem dX2_shift_173 : decode cX2_shift 173 = .ok (.iinc 10 1, 3) := by decide +kernel
theorem dX2_shift_176 : decode cX2_shift 176 = .ok (.goto (-157), 3) := by decide +kernel
theorem dX2_shift_179 : decode cX2_shift 179 = .ok (.iconst 0, 1) := by decide +kernel
theorem dX2_shift_180 : decode cX2_shift 180 = .ok (.ireturn, 1) := by decide +kernel
theorem dX2_enterRows_0 : decode cX2_enterRows 0 = .ok (.iconst 0, 1) := by decide +kernel
theorem dX2_enterRows_1 : decode cX2_enterRows 1 = .ok (.istore 7, 2) := by decide +kernel
theorem dX2_enterRows_3 : decode cX2_enterRows 3 = .ok (.iconst 0, 1) := by decide +kernel
theorem dX2_enterRows_4 : decode cX2_enterRows 4 = .ok (.istore 8, 2) := by decide +kernel
theorem dX2_enterRows_6 : decode cX2_enterRows 6 = .ok (.iload 8, 2) := by decide +kernel
theorem dX2_enterRows_8 : decode cX2_enterRows 8 = .ok (.aload_n 0, 1) := by decide +kernel
theorem dX2_enterRows_9 : decode cX2_enterRows 9 = .ok (.getfield 9, 3) := by decide +kernel
theorem dX2_enterRows_12 : decode cX2_enterRows 12 = .ok (.arraylength, 1) := by decide +kernel
theorem dX2_enterRows_13 : decode cX2_enterRows 13 = .ok (.if_icmp .ge 60, 3) := by decide +kernel
theorem dX2_enterRows_16 : decode cX2_enterRows 16 = .ok (.lload 4, 2) := by decide +kernel
theorem dX2_enterRows_18 : decode cX2_enterRows 18 = .ok (.lconst 1, 1) := by decide +kernel
theorem dX2_enterRows_19 : decode cX2_enterRows 19 = .ok (.bipush 8, 2) := by decide +kernel
theorem dX2_enterRows_21 : decode cX2_enterRows 21 = .ok (.iload 8, 2) := by decide +kernel
theorem dX2_enterRows_23 : decode cX2_enterRows 23 = .ok (.imul, 1) := by decide +kernel
theorem dX2_enterRows_24 : decode cX2_enterRows 24 = .ok (.iload_n 1, 1) := by decide +kernel
theorem dX2_enterRows_25 : decode cX2_enterRows 25 = .ok (.iadd, 1) := by decide +kernel
theorem dX2_enterRows_26 : decode cX2_enterRows 26 = .ok (.lshl, 1) := by decide +kernel
theorem dX2_enterRows_27 : decode cX2_enterRows 27 = .ok (.land, 1) := by decide +kernel
theorem dX2_enterRows_28 : decode cX2_enterRows 28 = .ok (.lstore 9, 2) := by decide +kernel
theorem dX2_enterRows_30 : decode cX2_enterRows 30 = .ok (.lload 9, 2) := by decide +kernel
theorem dX2_enterRows_32 : decode cX2_enterRows 32 = .ok (.lconst 0, 1) := by decide +kernel
theorem dX2_enterRows_33 : decode cX2_enterRows 33 = .ok (.lcmp, 1) := by decide +kernel
theorem dX2_enterRows_34 : decode cX2_enterRows 34 = .ok (.ifCond .eq 33, 3) := by decide +kernel
theorem dX2_enterRows_37 : decode cX2_enterRows 37 = .ok (.iload 6, 2) := by decide +kernel
theorem dX2_enterRows_39 : decode cX2_enterRows 39 = .ok (.iload 8, 2) := by decide +kernel
theorem dX2_enterRows_41 : decode cX2_enterRows 41 = .ok (.ishr, 1) := by decide +kernel
theorem dX2_enterRows_42 : decode cX2_enterRows 42 = .ok (.iconst 1, 1) := by decide +kernel
theorem dX2_enterRows_43 : decode cX2_enterRows 43 = .ok (.iand, 1) := by decide +kernel
theorem dX2_enterRows_44 : decode cX2_enterRows 44 = .ok (.ifCond .eq 23, 3) := by decide +kernel
theorem dX2_enterRows_47 : decode cX2_enterRows 47 = .ok (.aload_n 0, 1) := by decide +kernel
theorem dX2_enterRows_48 : decode cX2_enterRows 48 = .ok (.getfield 9, 3) := by decide +kernel
theorem dX2_enterRows_51 : decode cX2_enterRows 51 = .ok (.iload 8, 2) := by decide +kernel
theorem dX2_enterRows_53 : decode cX2_enterRows 53 = .ok (.lload_n 2, 1) := by decide +kernel
theorem dX2_enterRows_54 : decode cX2_enterRows 54 = .ok (.lload 9, 2) := by decide +kernel
theorem dX2_enterRows_56 : decode cX2_enterRows 56 = .ok (.lor, 1) := by decide +kernel
theorem dX2_enterRows_57 : decode cX2_enterRows 57 = .ok (.lastore, 1) := by decide +kernel
theorem dX2_enterRows_58 : decode cX2_enterRows 58 = .ok (.iload 7, 2) := by decide +kernel
theorem dX2_enterRows_60 : decode cX2_enterRows 60 = .ok (.iconst 1, 1) := by decide +kernel
theorem dX2_enterRows_61 : decode cX2_enterRows 61 = .ok (.iload 8, 2) := by decide +kernel
theorem dX2_enterRows_63 : decode cX2_enterRows 63 = .ok (.ishl, 1) := by decide +kernel
theorem dX2_enterRows_64 : decode cX2_enterRows 64 = .ok (.ior, 1) := by decide +kernel
theorem dX2_enterRows_65 : decode cX2_enterRows 65 = .ok (.istore 7, 2) := by decide +kernel
theorem dX2_enterRows_67 : decode cX2_enterRows 67 = .ok (.iinc 8 1, 3) := by decide +kernel
theorem dX2_enterRows_70 : decode cX2_enterRows 70 = .ok (.goto (-64), 3) := by decide +kernel
theorem dX2_enterRows_73 : decode cX2_enterRows 73 = .ok (.iload 7, 2) := by decide +kernel
theorem dX2_enterRows_75 : decode cX2_enterRows 75 = .ok (.ireturn, 1) := by decide +kernel
theorem dX2_wayToRow_0 : decode cX2_wayToRow 0 = .ok (.iload_n 1, 1) := by decide +kernel
theorem dX2_wayToRow_1 : decode cX2_wayToRow 1 = .ok (.ifCond .lt 21, 3) := by decide +kernel
theorem dX2_wayToRow_4 : decode cX2_wayToRow 4 = .ok (.iload_n 1, 1) := by decide +kernel
theorem dX2_wayToRow_5 : decode cX2_wayToRow 5 = .ok (.aload_n 0, 1) := by decide +kernel
theorem dX2_wayToRow_6 : decode cX2_wayToRow 6 = .ok (.getfield 9, 3) := by decide +kernel
theorem dX2_wayToRow_9 : decode cX2_wayToRow 9 = .ok (.arraylength, 1) := by decide +kernel
theorem dX2_wayToRow_10 : decode cX2_wayToRow 10 = .ok (.if_icmp .ge 12, 3) := by decide +kernel
theorem dX2_wayToRow_13 : decode cX2_wayToRow 13 = .ok (.aload_n 0, 1) := by decide +kernel
theorem dX2_wayToRow_14 : decode cX2_wayToRow 14 = .ok (.getfield 9, 3) := by decide +kernel
theorem dX2_wayToRow_17 : decode cX2_wayToRow 17 = .ok (.iload_n 1, 1) := by decide +kernel
theorem dX2_wayToRow_18 : decode cX2_wayToRow 18 = .ok (.laload, 1) := by decide +kernel
theorem dX2_wayToRow_19 : decode cX2_wayToRow 19 = .ok (.goto 4, 3) := by decide +kernel
theorem dX2_wayToRow_22 : decode cX2_wayToRow 22 = .ok (.lconst 0, 1) := by decide +kernel
theorem dX2_wayToRow_23 : decode cX2_wayToRow 23 = .ok (.lreturn, 1) := by decide +kernel
theorem dX2_forgetWays_0 : decode cX2_forgetWays 0 = .ok (.iconst 0, 1) := by decide +kernel
theorem dX2_forgetWays_1 : decode cX2_forgetWays 1 = .ok (.istore_n 1, 1) := by decide +kernel
theorem dX2_forgetWays_2 : decode cX2_forgetWays 2 = .ok (.iload_n 1, 1) := by decide +kernel
theorem dX2_forgetWays_3 : decode cX2_forgetWays 3 = .ok (.aload_n 0, 1) := by decide +kernel
theorem dX2_forgetWays_4 : decode cX2_forgetWays 4 = .ok (.getfield 9, 3) := by decide +kernel
theorem dX2_forgetWays_7 : decode cX2_forgetWays 7 = .ok (.arraylength, 1) := by decide +kernel
theorem dX2_forgetWays_8 : decode cX2_forgetWays 8 = .ok (.if_icmp .ge 16, 3) := by decide +kernel
theorem dX2_forgetWays_11 : decode cX2_forgetWays 11 = .ok (.aload_n 0, 1) := by decide +kernel
theorem dX2_forgetWays_12 : decode cX2_forgetWays 12 = .ok (.getfield 9, 3) := by decide +kernel
theorem dX2_forgetWays_15 : decode cX2_forgetWays 15 = .ok (.iload_n 1, 1) := by decide +kernel
theorem dX2_forgetWays_16 : decode cX2_forgetWays 16 = .ok (.lconst 0, 1) := by decide +kernel
theorem dX2_forgetWays_17 : decode cX2_forgetWays 17 = .ok (.lastore, 1) := by decide +kernel
theorem dX2_forgetWays_18 : decode cX2_forgetWays 18 = .ok (.iinc 1 1, 3) := by decide +kernel
theorem dX2_forgetWays_21 : decode cX2_forgetWays 21 = .ok (.goto (-19), 3) := by decide +kernel
theorem dX2_forgetWays_24 : decode cX2_forgetWays 24 = .ok (.return_, 1) := by decide +kernel
theorem dX3_init_0 : decode cX3_init 0 = .ok (.aload_n 0, 1) := by decide +kernel
theorem dX3_init_1 : decode cX3_init 1 = .ok (.invokespecial 1, 3) := by decide +kernel
theorem dX3_init_4 : decode cX3_init 4 = .ok (.aload_n 0, 1) := by decide +kernel
theorem dX3_init_5 : decode cX3_init 5 = .ok (.bipush 14, 2) := by decide +kernel
theorem dX3_init_7 : decode cX3_init 7 = .ok (.anewarray 9, 3) := by decide +kernel
theorem dX3_init_10 : decode cX3_init 10 = .ok (.putfield 11, 3) := by decide +kernel
theorem dX3_init_13 : decode cX3_init 13 = .ok (.aload_n 0, 1) := by decide +kernel
theorem dX3_init_14 : decode cX3_init 14 = .ok (.iconst 0, 1) := by decide +kernel
theorem dX3_init_15 : decode cX3_init 15 = .ok (.putfield 15, 3) := by decide +kernel
theorem dX3_init_18 : decode cX3_init 18 = .ok (.iconst 0, 1) := by decide +kernel
theorem dX3_init_19 : decode cX3_init 19 = .ok (.istore_n 1, 1) := by decide +kernel
theorem dX3_init_20 : decode cX3_init 20 = .ok (.iload_n 1, 1) := by decide +kernel
theorem dX3_init_21 : decode cX3_init 21 = .ok (.aload_n 0, 1) := by decide +kernel
theorem dX3_init_22 : decode cX3_init 22 = .ok (.getfield 11, 3) := by decide +kernel
theorem dX3_init_25 : decode cX3_init 25 = .ok (.arraylength, 1) := by decide +kernel
theorem dX3_init_26 : decode cX3_init 26 = .ok (.if_icmp .ge 22, 3) := by decide +kernel
theorem dX3_init_29 : decode cX3_init 29 = .ok (.aload_n 0, 1) := by decide +kernel
theorem dX3_init_30 : decode cX3_init 30 = .ok (.getfield 11, 3) := by decide +kernel
theorem dX3_init_33 : decode cX3_init 33 = .ok (.iload_n 1, 1) := by decide +kernel
theorem dX3_init_34 : decode cX3_init 34 = .ok (.new 9, 3) := by decide +kernel
theorem dX3_init_37 : decode cX3_init 37 = .ok (.dup, 1) := by decide +kernel
theorem dX3_init_38 : decode cX3_init 38 = .ok (.invokespecial 19, 3) := by decide +kernel
theorem dX3_init_41 : decode cX3_init 41 = .ok (.aastore, 1) := by decide +kernel
theorem dX3_init_42 : decode cX3_init 42 = .ok (.iinc 1 1, 3) := by decide +kernel
theorem dX3_init_45 : decode cX3_init 45 = .ok (.goto (-25), 3) := by decide +kernel
theorem dX3_init_48 : decode cX3_init 48 = .ok (.return_, 1) := by decide +kernel
theorem dX3_isEmpty_0 : decode cX3_isEmpty 0 = .ok (.aload_n 0, 1) := by decide +kernel
theorem dX3_isEmpty_1 : decode cX3_isEmpty 1 = .ok (.getfield 15, 3) := by decide +kernel
theorem dX3_isEmpty_4 : decode cX3_isEmpty 4 = .ok (.ifCond .ne 7, 3) := by decide +kernel
theorem dX3_isEmpty_7 : decode cX3_isEmpty 7 = .ok (.iconst 1, 1) := by decide +kernel
theorem dX3_isEmpty_8 : decode cX3_isEmpty 8 = .ok (.goto 4, 3) := by decide +kernel
theorem dX3_isEmpty_11 : decode cX3_isEmpty 11 = .ok (.iconst 0, 1) := by decide +kernel
theorem dX3_isEmpty_12 : decode cX3_isEmpty 12 = .ok (.ireturn, 1) := by decide +kernel
theorem dX3_forgetAll_0 : decode cX3_forgetAll 0 = .ok (.aload_n 0, 1) := by decide +kernel
theorem dX3_forgetAll_1 : decode cX3_forgetAll 1 = .ok (.iconst 0, 1) := by decide +kernel
theorem dX3_forgetAll_2 : decode cX3_forgetAll 2 = .ok (.putfield 15, 3) := by decide +kernel
theorem dX3_forgetAll_5 : decode cX3_forgetAll 5 = .ok (.return_, 1) := by decide +kernel
theorem dX3_remember_0 : decode cX3_remember 0 = .ok (.aload_n 0, 1) := by decide +kernel
theorem dX3_remember_1 : decode cX3_remember 1 = .ok (.getfield 15, 3) := by decide +kernel
theorem dX3_remember_4 : decode cX3_remember 4 = .ok (.aload_n 0, 1) := by decide +kernel
theorem dX3_remember_5 : decode cX3_remember 5 = .ok (.getfield 11, 3) := by decide +kernel
theorem dX3_remember_8 : decode cX3_remember 8 = .ok (.arraylength, 1) := by decide +kernel
theorem dX3_remember_9 : decode cX3_remember 9 = .ok (.if_icmp .lt 7, 3) := by decide +kernel
theorem dX3_remember_12 : decode cX3_remember 12 = .ok (.aload_n 0, 1) := by decide +kernel
theorem dX3_remember_13 : decode cX3_remember 13 = .ok (.invokevirtual 20, 3) := by decide +kernel
theorem dX3_remember_16 : decode cX3_remember 16 = .ok (.aload_n 0, 1) := by decide +kernel
theorem dX3_remember_17 : decode cX3_remember 17 = .ok (.getfield 15, 3) := by decide +kernel
theorem dX3_remember_20 : decode cX3_remember 20 = .ok (.ifCond .lt 50, 3) := by decide +kernel
theorem dX3_remember_23 : decode cX3_remember 23 = .ok (.aload_n 0, 1) := by decide +kernel
theorem dX3_remember_24 : decode cX3_remember 24 = .ok (.getfield 15, 3) := by decide +kernel
theorem dX3_remember_27 : decode cX3_remember 27 = .ok (.aload_n 0, 1) := by decide +kernel
theorem dX3_remember_28 : decode cX3_remember 28 = .ok (.getfield 11, 3) := by decide +kernel
theorem dX3_remember_31 : decode cX3_remember 31 = .ok (.arraylength, 1) := by decide +kernel
theorem dX3_remember_32 : decode cX3_remember 32 = .ok (.if_icmp .ge 38, 3) := by decide +kernel
theorem dX3_remember_35 : decode cX3_remember 35 = .ok (.aload_n 0, 1) := by decide +kernel
theorem dX3_remember_36 : decode cX3_remember 36 = .ok (.getfield 11, 3) := by decide +kernel
theorem dX3_remember_39 : decode cX3_remember 39 = .ok (.aload_n 0, 1) := by decide +kernel
theorem dX3_remember_40 : decode cX3_remember 40 = .ok (.getfield 15, 3) := by decide +kernel
theorem dX3_remember_43 : decode cX3_remember 43 = .ok (.aaload, 1) := by decide +kernel
theorem dX3_remember_44 : decode cX3_remember 44 = .ok (.ifnull 26, 3) := by decide +kernel
theorem dX3_remember_47 : decode cX3_remember 47 = .ok (.aload_n 0, 1) := by decide +kernel
theorem dX3_remember_48 : decode cX3_remember 48 = .ok (.getfield 11, 3) := by decide +kernel
theorem dX3_remember_51 : decode cX3_remember 51 = .ok (.aload_n 0, 1) := by decide +kernel
theorem dX3_remember_52 : decode cX3_remember 52 = .ok (.getfield 15, 3) := by decide +kernel
theorem dX3_remember_55 : decode cX3_remember 55 = .ok (.aaload, 1) := by decide +kernel
theorem dX3_remember_56 : decode cX3_remember 56 = .ok (.aload_n 1, 1) := by decide +kernel
theorem dX3_remember_57 : decode cX3_remember 57 = .ok (.invokevirtual 23, 3) := by decide +kernel
theorem dX3_remember_60 : decode cX3_remember 60 = .ok (.aload_n 0, 1) := by decide +kernel
theorem dX3_remember_61 : decode cX3_remember 61 = .ok (.dup, 1) := by decide +kernel
theorem dX3_remember_62 : decode cX3_remember 62 = .ok (.getfield 15, 3) := by decide +kernel
theorem dX3_remember_65 : decode cX3_remember 65 = .ok (.iconst 1, 1) := by decide +kernel
theorem dX3_remember_66 : decode cX3_remember 66 = .ok (.iadd, 1) := by decide +kernel
theorem dX3_remember_67 : decode cX3_remember 67 = .ok (.putfield 15, 3) := by decide +kernel
theorem dX3_remember_70 : decode cX3_remember 70 = .ok (.return_, 1) := by decide +kernel
theorem dX3_forgetOldest_0 : decode cX3_forgetOldest 0 = .ok (.iconst 1, 1) := by decide +kernel
theorem dX3_forgetOldest_1 : decode cX3_forgetOldest 1 = .ok (.istore_n 1, 1) := by decide +kernel
theorem dX3_forgetOldest_2 : decode cX3_forgetOldest 2 = .ok (.iload_n 1, 1) := by decide +kernel
theorem dX3_forgetOldest_3 : decode cX3_forgetOldest 3 = .ok (.aload_n 0, 1) := by decide +kernel
theorem dX3_forgetOldest_4 : decode cX3_forgetOldest 4 = .ok (.getfield 11, 3) := by decide +kernel
theorem dX3_forgetOldest_7 : decode cX3_forgetOldest 7 = .ok (.arraylength, 1) := by decide +kernel
theorem dX3_forgetOldest_8 : decode cX3_forgetOldest 8 = .ok (.if_icmp .ge 39, 3) := by decide +kernel
theorem dX3_forgetOldest_11 : decode cX3_forgetOldest 11 = .ok (.aload_n 0, 1) := by decide +kernel
theorem dX3_forgetOldest_12 : decode cX3_forgetOldest 12 = .ok (.getfield 11, 3) := by decide +kernel
theorem dX3_forgetOldest_15 : decode cX3_forgetOldest 15 = .ok (.iload_n 1, 1) := by decide +kernel
theorem dX3_forgetOldest_16 : decode cX3_forgetOldest 16 = .ok (.iconst 1, 1) := by decide +kernel
theorem dX3_forgetOldest_17 : decode cX3_forgetOldest 17 = .ok (.isub, 1) := by decide +kernel
theorem dX3_forgetOldest_18 : decode cX3_forgetOldest 18 = .ok (.aaload, 1) := by decide +kernel
theorem dX3_forgetOldest_19 : decode cX3_forgetOldest 19 = .ok (.astore_n 2, 1) := by decide +kernel
theorem dX3_forgetOldest_20 : decode cX3_forgetOldest 20 = .ok (.aload_n 0, 1) := by decide +kernel
theorem dX3_forgetOldest_21 : decode cX3_forgetOldest 21 = .ok (.getfield 11, 3) := by decide +kernel
theorem dX3_forgetOldest_24 : decode cX3_forgetOldest 24 = .ok (.iload_n 1, 1) := by decide +kernel
theorem dX3_forgetOldest_25 : decode cX3_forgetOldest 25 = .ok (.iconst 1, 1) := by decide +kernel
theorem dX3_forgetOldest_26 : decode cX3_forgetOldest 26 = .ok (.isub, 1) := by decide +kernel
theorem dX3_forgetOldest_27 : decode cX3_forgetOldest 27 = .ok (.aload_n 0, 1) := by decide +kernel
theorem dX3_forgetOldest_28 : decode cX3_forgetOldest 28 = .ok (.getfield 11, 3) := by decide +kernel
theorem dX3_forgetOldest_31 : decode cX3_forgetOldest 31 = .ok (.iload_n 1, 1) := by decide +kernel
theorem dX3_forgetOldest_32 : decode cX3_forgetOldest 32 = .ok (.aaload, 1) := by decide +kernel
theorem dX3_forgetOldest_33 : decode cX3_forgetOldest 33 = .ok (.aastore, 1) := by decide +kernel
theorem dX3_forgetOldest_34 : decode cX3_forgetOldest 34 = .ok (.aload_n 0, 1) := by decide +kernel
theorem dX3_forgetOldest_35 : decode cX3_forgetOldest 35 = .ok (.getfield 11, 3) := by decide +kernel
theorem dX3_forgetOldest_38 : decode cX3_forgetOldest 38 = .ok (.iload_n 1, 1) := by decide +kernel
theorem dX3_forgetOldest_39 : decode cX3_forgetOldest 39 = .ok (.aload_n 2, 1) := by decide +kernel
theorem dX3_forgetOldest_40 : decode cX3_forgetOldest 40 = .ok (.aastore, 1) := by decide +kernel
theorem dX3_forgetOldest_41 : decode cX3_forgetOldest 41 = .ok (.iinc 1 1, 3) := by decide +kernel
theorem dX3_forgetOldest_44 : decode cX3_forgetOldest 44 = .ok (.goto (-42), 3) := by decide +kernel
theorem dX3_forgetOldest_47 : decode cX3_forgetOldest 47 = .ok (.aload_n 0, 1) := by decide +kernel
theorem dX3_forgetOldest_48 : decode cX3_forgetOldest 48 = .ok (.dup, 1) := by decide +kernel
theorem dX3_forgetOldest_49 : decode cX3_forgetOldest 49 = .ok (.getfield 15, 3) := by decide +kernel
theorem dX3_forgetOldest_52 : decode cX3_forgetOldest 52 = .ok (.iconst 1, 1) := by decide +kernel
theorem dX3_forgetOldest_53 : decode cX3_forgetOldest 53 = .ok (.isub, 1) := by decide +kernel
theorem dX3_forgetOldest_54 : decode cX3_forgetOldest 54 = .ok (.putfield 15, 3) := by decide +kernel
theorem dX3_forgetOldest_57 : decode cX3_forgetOldest 57 = .ok (.return_, 1) := by decide +kernel
theorem dX3_takeBack_0 : decode cX3_takeBack 0 = .ok (.aload_n 0, 1) := by decide +kernel
theorem dX3_takeBack_1 : decode cX3_takeBack 1 = .ok (.getfield 15, 3) := by decide +kernel
theorem dX3_takeBack_4 : decode cX3_takeBack 4 = .ok (.ifCond .le 52, 3) := by decide +kernel
theorem dX3_takeBack_7 : decode cX3_takeBack 7 = .ok (.aload_n 0, 1) := by decide +kernel
theorem dX3_takeBack_8 : decode cX3_takeBack 8 = .ok (.getfield 15, 3) := by decide +kernel
theorem dX3_takeBack_11 : decode cX3_takeBack 11 = .ok (.aload_n 0, 1) := by decide +kernel
theorem dX3_takeBack_12 : decode cX3_takeBack 12 = .ok (.getfield 11, 3) := by decide +kernel
theorem dX3_takeBack_15 : decode cX3_takeBack 15 = .ok (.arraylength, 1) := by decide +kernel
theorem dX3_takeBack_16 : decode cX3_takeBack 16 = .ok (.if_icmp .gt 40, 3) := by decide +kernel
theorem dX3_takeBack_19 : decode cX3_takeBack 19 = .ok (.aload_n 0, 1) := by decide +kernel
theorem dX3_takeBack_20 : decode cX3_takeBack 20 = .ok (.getfield 11, 3) := by decide +kernel
theorem dX3_takeBack_23 : decode cX3_takeBack 23 = .ok (.aload_n 0, 1) := by decide +kernel
theorem dX3_takeBack_24 : decode cX3_takeBack 24 = .ok (.getfield 15, 3) := by decide +kernel
theorem dX3_takeBack_27 : decode cX3_takeBack 27 = .ok (.iconst 1, 1) := by decide +kernel
theorem dX3_takeBack_28 : decode cX3_takeBack 28 = .ok (.isub, 1) := by decide +kernel
theorem dX3_takeBack_29 : decode cX3_takeBack 29 = .ok (.aaload, 1) := by decide +kernel
theorem dX3_takeBack_30 : decode cX3_takeBack 30 = .ok (.ifnull 26, 3) := by decide +kernel
theorem dX3_takeBack_33 : decode cX3_takeBack 33 = .ok (.aload_n 0, 1) := by decide +kernel
theorem dX3_takeBack_34 : decode cX3_takeBack 34 = .ok (.dup, 1) := by decide +kernel
theorem dX3_takeBack_35 : decode cX3_takeBack 35 = .ok (.getfield 15, 3) := by decide +kernel
theorem dX3_takeBack_38 : decode cX3_takeBack 38 = .ok (.iconst 1, 1) := by decide +kernel
theorem dX3_takeBack_39 : decode cX3_takeBack 39 = .ok (.isub, 1) := by decide +kernel
theorem dX3_takeBack_40 : decode cX3_takeBack 40 = .ok (.putfield 15, 3) := by decide +kernel
theorem dX3_takeBack_43 : decode cX3_takeBack 43 = .ok (.aload_n 1, 1) := by decide +kernel
theorem dX3_takeBack_44 : decode cX3_takeBack 44 = .ok (.aload_n 0, 1) := by decide +kernel
theorem dX3_takeBack_45 : decode cX3_takeBack 45 = .ok (.getfield 11, 3) := by decide +kernel
theorem dX3_takeBack_48 : decode cX3_takeBack 48 = .ok (.aload_n 0, 1) := by decide +kernel
theorem dX3_takeBack_49 : decode cX3_takeBack 49 = .ok (.getfield 15, 3) := by decide +kernel
theorem dX3_takeBack_52 : decode cX3_takeBack 52 = .ok (.aaload, 1) := by decide +kernel
theorem dX3_takeBack_53 : decode cX3_takeBack 53 = .ok (.invokevirtual 23, 3) := by decide +kernel
theorem dX3_takeBack_56 : decode cX3_takeBack 56 = .ok (.aload_n 0, 1) := by decide +kernel
theorem dX3_takeBack_57 : decode cX3_takeBack 57 = .ok (.getfield 15, 3) := by decide +kernel
theorem dX3_takeBack_60 : decode cX3_takeBack 60 = .ok (.ireturn, 1) := by decide +kernel
theorem dX4_init_0 : decode cX4_init 0 = .ok (.aload_n 0, 1) := by decide +kernel
theorem dX4_init_1 : decode cX4_init 1 = .ok (.invokespecial 3, 3) := by decide +kernel
theorem dX4_init_4 : decode cX4_init 4 = .ok (.aload_n 0, 1) := by decide +kernel
theorem dX4_init_5 : decode cX4_init 5 = .ok (.iconst 3, 1) := by decide +kernel
theorem dX4_init_6 : decode cX4_init 6 = .ok (.putfield 9, 3) := by decide +kernel
theorem dX4_init_9 : decode cX4_init 9 = .ok (.aload_n 0, 1) := by decide +kernel
theorem dX4_init_10 : decode cX4_init 10 = .ok (.iconst 3, 1) := by decide +kernel
theorem dX4_init_11 : decode cX4_init 11 = .ok (.putfield 15, 3) := by decide +kernel
theorem dX4_init_14 : decode cX4_init 14 = .ok (.aload_n 0, 1) := by decide +kernel
theorem dX4_init_15 : decode cX4_init 15 = .ok (.lconst 0, 1) := by decide +kernel
theorem dX4_init_16 : decode cX4_init 16 = .ok (.putfield 18, 3) := by decide +kernel
theorem dX4_init_19 : decode cX4_init 19 = .ok (.aload_n 0, 1) := by decide +kernel
theorem dX4_init_20 : decode cX4_init 20 = .ok (.lconst 0, 1) := by decide +kernel
theorem dX4_init_21 : decode cX4_init 21 = .ok (.putfield 22, 3) := by decide +kernel
theorem dX4_init_24 : decode cX4_init 24 = .ok (.aload_n 0, 1) := by decide +kernel
theorem dX4_init_25 : decode cX4_init 25 = .ok (.lconst 0, 1) := by decide +kernel
theorem dX4_init_26 : decode cX4_init 26 = .ok (.putfield 25, 3) := by decide +kernel
theorem dX4_init_29 : decode cX4_init 29 = .ok (.aload_n 0, 1) := by decide +kernel
theorem dX4_init_30 : decode cX4_init 30 = .ok (.lconst 0, 1) := by decide +kernel
theorem dX4_init_31 : decode cX4_init 31 = .ok (.putfield 28, 3) := by decide +kernel
theorem dX4_init_34 : decode cX4_init 34 = .ok (.return_, 1) := by decide +kernel
theorem dX4_copyFrom_0 : decode cX4_copyFrom 0 = .ok (.aload_n 0, 1) := by decide +kernel
theorem dX4_copyFrom_1 : decode cX4_copyFrom 1 = .ok (.aload_n 1, 1) := by decide +kernel
theorem dX4_copyFrom_2 : decode cX4_copyFrom 2 = .ok (.getfield 9, 3) := by decide +kernel
theorem dX4_copyFrom_5 : decode cX4_copyFrom 5 = .ok (.putfield 9, 3) := by decide +kernel
theorem dX4_copyFrom_8 : decode cX4_copyFrom 8 = .ok (.aload_n 0, 1) := by decide +kernel
theorem dX4_copyFrom_9 : decode cX4_copyFrom 9 = .ok (.aload_n 1, 1) := by decide +kernel
theorem dX4_copyFrom_10 : decode cX4_copyFrom 10 = .ok (.getfield 15, 3) := by decide +kernel
theorem dX4_copyFrom_13 : decode cX4_copyFrom 13 = .ok (.putfield 15, 3) := by decide +kernel
theorem dX4_copyFrom_16 : decode cX4_copyFrom 16 = .ok (.aload_n 0, 1) := by decide +kernel
theorem dX4_copyFrom_17 : decode cX4_copyFrom 17 = .ok (.aload_n 1, 1) := by decide +kernel
theorem dX4_copyFrom_18 : decode cX4_copyFrom 18 = .ok (.getfield 18, 3) := by decide +kernel
theorem dX4_copyFrom_21 : decode cX4_copyFrom 21 = .ok (.putfield 18, 3) := by decide +kernel
theorem dX4_copyFrom_24 : decode cX4_copyFrom 24 = .ok (.aload_n 0, 1) := by decide +kernel
theorem dX4_copyFrom_25 : decode cX4_copyFrom 25 = .ok (.aload_n 1, 1) := by decide +kernel
theorem dX4_copyFrom_26 : decode cX4_copyFrom 26 = .ok (.getfield 22, 3) := by decide +kernel
theorem dX4_copyFrom_29 : decode cX4_copyFrom 29 = .ok (.putfield 22, 3) := by decide +kernel
theorem dX4_copyFrom_32 : decode cX4_copyFrom 32 = .ok (.aload_n 0, 1) := by decide +kernel
theorem dX4_copyFrom_33 : decode cX4_copyFrom 33 = .ok (.aload_n 1, 1) := by decide +kernel
theorem dX4_copyFrom_34 : decode cX4_copyFrom 34 = .ok (.getfield 25, 3) := by decide +kernel
theorem dX4_copyFrom_37 : decode cX4_copyFrom 37 = .ok (.putfield 25, 3) := by decide +kernel
theorem dX4_copyFrom_40 : decode cX4_copyFrom 40 = .ok (.aload_n 0, 1) := by decide +kernel
theorem dX4_copyFrom_41 : decode cX4_copyFrom 41 = .ok (.aload_n 1, 1) := by decide +kernel
theorem dX4_copyFrom_42 : decode cX4_copyFrom 42 = .ok (.getfield 28, 3) := by decide +kernel
theorem dX4_copyFrom_45 : decode cX4_copyFrom 45 = .ok (.putfield 28, 3) := by decide +kernel
theorem dX4_copyFrom_48 : decode cX4_copyFrom 48 = .ok (.return_, 1) := by decide +kernel
theorem dX4_beginBlank_0 : decode cX4_beginBlank 0 = .ok (.aload_n 0, 1) := by decide +kernel
theorem dX4_beginBlank_1 : decode cX4_beginBlank 1 = .ok (.iload_n 1, 1) := by decide +kernel
theorem dX4_beginBlank_2 : decode cX4_beginBlank 2 = .ok (.putfield 9, 3) := by decide +kernel
theorem dX4_beginBlank_5 : decode cX4_beginBlank 5 = .ok (.aload_n 0, 1) := by decide +kernel
theorem dX4_beginBlank_6 : decode cX4_beginBlank 6 = .ok (.iload_n 2, 1) := by decide +kernel
theorem dX4_beginBlank_7 : decode cX4_beginBlank 7 = .ok (.putfield 15, 3) := by decide +kernel
theorem dX4_beginBlank_10 : decode cX4_beginBlank 10 = .ok (.aload_n 0, 1) := by decide +kernel
theorem dX4_beginBlank_11 : decode cX4_beginBlank 11 = .ok (.lconst 0, 1) := by decide +kernel
theorem dX4_beginBlank_12 : decode cX4_beginBlank 12 = .ok (.putfield 18, 3) := by decide +kernel
theorem dX4_beginBlank_15 : decode cX4_beginBlank 15 = .ok (.aload_n 0, 1) := by decide +kernel
theorem dX4_beginBlank_16 : decode cX4_beginBlank 16 = .ok (.lconst 0, 1) := by decide +kernel
theorem dX4_beginBlank_17 : decode cX4_beginBlank 17 = .ok (.putfield 22, 3) := by decide +kernel
theorem dX4_beginBlank_20 : decode cX4_beginBlank 20 = .ok (.aload_n 0, 1) := by decide +kernel
theorem dX4_beginBlank_21 : decode cX4_beginBlank 21 = .ok (.lconst 0, 1) := by decide +kernel
theorem dX4_beginBlank_22 : decode cX4_beginBlank 22 = .ok (.putfield 25, 3) := by decide +kernel
theorem dX4_beginBlank_25 : decode cX4_beginBlank 25 = .ok (.aload_n 0, 1) := by decide +kernel
theorem dX4_beginBlank_26 : decode cX4_beginBlank 26 = .ok (.lconst 0, 1) := by decide +kernel
theorem dX4_beginBlank_27 : decode cX4_beginBlank 27 = .ok (.putfield 28, 3) := by decide +kernel
theorem dX4_beginBlank_30 : decode cX4_beginBlank 30 = .ok (.return_, 1) := by decide +kernel
theorem dX4_hasCell_0 : decode cX4_hasCell 0 = .ok (.iload_n 1, 1) := by decide +kernel
theorem dX4_hasCell_1 : decode cX4_hasCell 1 = .ok (.ifCond .lt 27, 3) := by decide +kernel
theorem dX4_hasCell_4 : decode cX4_hasCell 4 = .ok (.iload_n 1, 1) := by decide +kernel
theorem dX4_hasCell_5 : decode cX4_hasCell 5 = .ok (.aload_n 0, 1) := by decide +kernel
theorem dX4_hasCell_6 : decode cX4_hasCell 6 = .ok (.getfield 9, 3) := by decide +kernel
theorem dX4_hasCell_9 : decode cX4_hasCell 9 = .ok (.if_icmp .ge 19, 3) := by decide +kernel
theorem dX4_hasCell_12 : decode cX4_hasCell 12 = .ok (.iload_n 2, 1) := by decide +kernel
theorem dX4_hasCell_13 : decode cX4_hasCell 13 = .ok (.ifCond .lt 15, 3) := by decide +kernel
theorem dX4_hasCell_16 : decode cX4_hasCell 16 = .ok (.iload_n 2, 1) := by decide +kernel
theorem dX4_hasCell_17 : decode cX4_hasCell 17 = .ok (.aload_n 0, 1) := by decide +kernel
theorem dX4_hasCell_18 : decode cX4_hasCell 18 = .ok (.getfield 15, 3) := by decide +kernel
theorem dX4_hasCell_21 : decode cX4_hasCell 21 = .ok (.if_icmp .ge 7, 3) := by decide +kernel
theorem dX4_hasCell_24 : decode cX4_hasCell 24 = .ok (.iconst 1, 1) := by decide +kernel
theorem dX4_hasCell_25 : decode cX4_hasCell 25 = .ok (.goto 4, 3) := by decide +kernel
theorem dX4_hasCell_28 : decode cX4_hasCell 28 = .ok (.iconst 0, 1) := by decide +kernel
theorem dX4_hasCell_29 : decode cX4_hasCell 29 = .ok (.ireturn, 1) := by decide +kernel
theorem dX4_hasLine_0 : decode cX4_hasLine 0 = .ok (.iload_n 1, 1) := by decide +kernel
theorem dX4_hasLine_1 : decode cX4_hasLine 1 = .ok (.ifCond .lt 20, 3) := by decide +kernel
theorem dX4_hasLine_4 : decode cX4_hasLine 4 = .ok (.iload_n 1, 1) := by decide +kernel
theorem dX4_hasLine_5 : decode cX4_hasLine 5 = .ok (.aload_n 0, 1) := by decide +kernel
theorem dX4_hasLine_6 : decode cX4_hasLine 6 = .ok (.getfield 9, 3) := by decide +kernel
theorem dX4_hasLine_9 : decode cX4_hasLine 9 = .ok (.aload_n 0, 1) := by decide +kernel
theorem dX4_hasLine_10 : decode cX4_hasLine 10 = .ok (.getfield 15, 3) := by decide +kernel
theorem dX4_hasLine_13 : decode cX4_hasLine 13 = .ok (.iadd, 1) := by decide +kernel
theorem dX4_hasLine_14 : decode cX4_hasLine 14 = .ok (.if_icmp .ge 7, 3) := by decide +kernel
theorem dX4_hasLine_17 : decode cX4_hasLine 17 = .ok (.iconst 1, 1) := by decide +kernel
theorem dX4_hasLine_18 : decode cX4_hasLine 18 = .ok (.goto 4, 3) := by decide +kernel
theorem dX4_hasLine_21 : decode cX4_hasLine 21 = .ok (.iconst 0, 1) := by decide +kernel
theorem dX4_hasLine_22 : decode cX4_hasLine 22 = .ok (.ireturn, 1) := by decide +kernel
theorem dX4_board_0 : decode cX4_board 0 = .ok (.lconst 1, 1) := by decide +kernel
theorem dX4_board_1 : decode cX4_board 1 = .ok (.aload_n 0, 1) := by decide +kernel
theorem dX4_board_2 : decode cX4_board 2 = .ok (.getfield 15, 3) := by decide +kernel
theorem dX4_board_5 : decode cX4_board 5 = .ok (.lshl, 1) := by decide +kernel
theorem dX4_board_6 : decode cX4_board 6 = .ok (.lconst 1, 1) := by decide +kernel
theorem dX4_board_7 : decode cX4_board 7 = .ok (.lsub, 1) := by decide +kernel
theorem dX4_board_8 : decode cX4_board 8 = .ok (.ldc2_w 33, 3) := by decide +kernel
theorem dX4_board_11 : decode cX4_board 11 = .ok (.lmul, 1) := by decide +kernel
theorem dX4_board_12 : decode cX4_board 12 = .ok (.lconst 1, 1) := by decide +kernel
theorem dX4_board_13 : decode cX4_board 13 = .ok (.bipush 8, 2) := by decide +kernel
theorem dX4_board_15 : decode cX4_board 15 = .ok (.aload_n 0, 1) := by decide +kernel
theorem dX4_board_16 : decode cX4_board 16 = .ok (.getfield 9, 3) := by decide +kernel
theorem dX4_board_19 : decode cX4_board 19 = .ok (.imul, 1) := by decide +kernel
theorem dX4_board_20 : decode cX4_board 20 = .ok (.lshl, 1) := by decide +kernel
theorem dX4_board_21 : decode cX4_board 21 = .ok (.lconst 1, 1) := by decide +kernel
theorem dX4_board_22 : decode cX4_board 22 = .ok (.lsub, 1) := by decide +kernel
theorem dX4_board_23 : decode cX4_board 23 = .ok (.land, 1) := by decide +kernel
theorem dX4_board_24 : decode cX4_board 24 = .ok (.lreturn, 1) := by decide +kernel
theorem dX4_lineMask_0 : decode cX4_lineMask 0 = .ok (.aload_n 0, 1) := by decide +kernel
theorem dX4_lineMask_1 : decode cX4_lineMask 1 = .ok (.invokevirtual 35, 3) := by decide +kernel
theorem dX4_lineMask_4 : decode cX4_lineMask 4 = .ok (.iload_n 1, 1) := by decide +kernel
theorem dX4_lineMask_5 : decode cX4_lineMask 5 = .ok (.aload_n 0, 1) := by decide +kernel
theorem dX4_lineMask_6 : decode cX4_lineMask 6 = .ok (.getfield 9, 3) := by decide +kernel
theorem dX4_lineMask_9 : decode cX4_lineMask 9 = .ok (.if_icmp .ge 10, 3) := by decide +kernel
theorem dX4_lineMask_12 : decode cX4_lineMask 12 = .ok (.iload_n 1, 1) := by decide +kernel
theorem dX4_lineMask_13 : decode cX4_lineMask 13 = .ok (.invokestatic 39, 3) := by decide +kernel
theorem dX4_lineMask_16 : decode cX4_lineMask 16 = .ok (.goto 12, 3) := by decide +kernel
theorem dX4_lineMask_19 : decode cX4_lineMask 19 = .ok (.iload_n 1, 1) := by decide +kernel
theorem dX4_lineMask_20 : decode cX4_lineMask 20 = .ok (.aload_n 0, 1) := by decide +kernel
theorem dX4_lineMask_21 : decode cX4_lineMask 21 = .ok (.getfield 9, 3) := by decide +kernel
theorem dX4_lineMask_24 : decode cX4_lineMask 24 = .ok (.isub, 1) := by decide +kernel
theorem dX4_lineMask_25 : decode cX4_lineMask 25 = .ok (.invokestatic 43, 3) := by decide +kernel
theorem dX4_lineMask_28 : decode cX4_lineMask 28 = .ok (.land, 1) := by decide +kernel
theorem dX4_lineMask_29 : decode cX4_lineMask 29 = .ok (.lreturn, 1) := by decide +kernel
theorem dX4_stepIn_0 : decode cX4_stepIn 0 = .ok (.iload_n 1, 1) := by decide +kernel
theorem dX4_stepIn_1 : decode cX4_stepIn 1 = .ok (.aload_n 0, 1) := by decide +kernel
theorem dX4_stepIn_2 : decode cX4_stepIn 2 = .ok (.getfield 9, 3) := by decide +kernel
theorem dX4_stepIn_5 : decode cX4_stepIn 5 = .ok (.if_icmp .ge 7, 3) := by decide +kernel
theorem dX4_stepIn_8 : decode cX4_stepIn 8 = .ok (.iconst 1, 1) := by decide +kernel
theorem dX4_stepIn_9 : decode cX4_stepIn 9 = .ok (.goto 5, 3) := by decide +kernel
theorem dX4_stepIn_12 : decode cX4_stepIn 12 = .ok (.bipush 8, 2) := by decide +kernel
theorem dX4_stepIn_14 : decode cX4_stepIn 14 = .ok (.ireturn, 1) := by decide +kernel
theorem dX4_countFilled_0 : decode cX4_countFilled 0 = .ok (.aload_n 0, 1) := by decide +kernel
theorem dX4_countFilled_1 : decode cX4_countFilled 1 = .ok (.getfield 18, 3) := by decide +kernel
theorem dX4_countFilled_4 : decode cX4_countFilled 4 = .ok (.invokestatic 46, 3) := by decide +kernel
theorem dX4_countFilled_7 : decode cX4_countFilled 7 = .ok (.ireturn, 1) := by decide +kernel
theorem dX4_countOf_0 : decode cX4_countOf 0 = .ok (.aload_n 0, 1) := by decide +kernel
theorem dX4_countOf_1 : decode cX4_countOf 1 = .ok (.getfield 18, 3) := by decide +kernel
theorem dX4_countOf_4 : decode cX4_countOf 4 = .ok (.aload_n 0, 1) := by decide +kernel
theorem dX4_countOf_5 : decode cX4_countOf 5 = .ok (.iload_n 1, 1) := by decide +kernel
theorem dX4_countOf_6 : decode cX4_countOf 6 = .ok (.invokevirtual 52, 3) := by decide +kernel
theorem dX4_countOf_9 : decode cX4_countOf 9 = .ok (.land, 1) := by decide +kernel
theorem dX4_countOf_10 : decode cX4_countOf 10 = .ok (.invokestatic 46, 3) := by decide +kernel
theorem dX4_countOf_13 : decode cX4_countOf 13 = .ok (.ireturn, 1) := by decide +kernel
theorem dX4_wantedOf_0 : decode cX4_wantedOf 0 = .ok (.iload_n 1, 1) := by decide +kernel
theorem dX4_wantedOf_1 : decode cX4_wantedOf 1 = .ok (.aload_n 0, 1) := by decide +kernel
theorem dX4_wantedOf_2 : decode cX4_wantedOf 2 = .ok (.getfield 9, 3) := by decide +kernel
theorem dX4_wantedOf_5 : decode cX4_wantedOf 5 = .ok (.if_icmp .ge 14, 3) := by decide +kernel
theorem dX4_wantedOf_8 : decode cX4_wantedOf 8 = .ok (.aload_n 0, 1) := by decide +kernel
theorem dX4_wantedOf_9 : decode cX4_wantedOf 9 = .ok (.getfield 25, 3) := by decide +kernel
theorem dX4_wantedOf_12 : decode cX4_wantedOf 12 = .ok (.iload_n 1, 1) := by decide +kernel
theorem dX4_wantedOf_13 : decode cX4_wantedOf 13 = .ok (.invokestatic 55, 3) := by decide +kernel
theorem dX4_wantedOf_16 : decode cX4_wantedOf 16 = .ok (.goto 16, 3) := by decide +kernel
theorem dX4_wantedOf_19 : decode cX4_wantedOf 19 = .ok (.aload_n 0, 1) := by decide +kernel
theorem dX4_wantedOf_20 : decode cX4_wantedOf 20 = .ok (.getfield 28, 3) := by decide +kernel
theorem dX4_wantedOf_23 : decode cX4_wantedOf 23 = .ok (.iload_n 1, 1) := by decide +kernel
theorem dX4_wantedOf_24 : decode cX4_wantedOf 24 = .ok (.aload_n 0, 1) := by decide +kernel
theorem dX4_wantedOf_25 : decode cX4_wantedOf 25 = .ok (.getfield 9, 3) := by decide +kernel
theorem dX4_wantedOf_28 : decode cX4_wantedOf 28 = .ok (.isub, 1) := by decide +kernel
theorem dX4_wantedOf_29 : decode cX4_wantedOf 29 = .ok (.invokestatic 55, 3) := by decide +kernel
theorem dX4_wantedOf_32 : decode cX4_wantedOf 32 = .ok (.ireturn, 1) := by decide +kernel
theorem dX4_wantedOfRows_0 : decode cX4_wantedOfRows 0 = .ok (.aload_n 0, 1) := by decide +kernel
theorem dX4_wantedOfRows_1 : decode cX4_wantedOfRows 1 = .ok (.getfield 25, 3) := by decide +kernel
theorem dX4_wantedOfRows_4 : decode cX4_wantedOfRows 4 = .ok (.invokestatic 61, 3) := by decide +kernel
theorem dX4_wantedOfRows_7 : decode cX4_wantedOfRows 7 = .ok (.ireturn, 1) := by decide +kernel
theorem dX4_wantedOfColumns_0 : decode cX4_wantedOfColumns 0 = .ok (.aload_n 0, 1) := by decide +kernel
theorem dX4_wantedOfColumns_1 : decode cX4_wantedOfColumns 1 = .ok (.getfield 28, 3) := by decide +kernel
theorem dX4_wantedOfColumns_4 : decode cX4_wantedOfColumns 4 = .ok (.invokestatic 61, 3) := by decide +kernel
theorem dX4_wantedOfColumns_7 : decode cX4_wantedOfColumns 7 = .ok (.ireturn, 1) := by decide +kernel
theorem dX4_countWrongLines_0 : decode cX4_countWrongLines 0 = .ok (.iconst 0, 1) := by decide +kernel
theorem dX4_countWrongLines_1 : decode cX4_countWrongLines 1 = .ok (.istore_n 1, 1) := by decide +kernel
theorem dX4_countWrongLines_2 : decode cX4_countWrongLines 2 = .ok (.iconst 0, 1) := by decide +kernel
theorem dX4_countWrongLines_3 : decode cX4_countWrongLines 3 = .ok (.istore_n 2, 1) := by decide +kernel
theorem dX4_countWrongLines_4 : decode cX4_countWrongLines 4 = .ok (.iload_n 2, 1) := by decide +kernel
theorem dX4_countWrongLines_5 : decode cX4_countWrongLines 5 = .ok (.aload_n 0, 1) := by decide +kernel
theorem dX4_countWrongLines_6 : decode cX4_countWrongLines 6 = .ok (.getfield 9, 3) := by decide +kernel
theorem dX4_countWrongLines_9 : decode cX4_countWrongLines 9 = .ok (.aload_n 0, 1) := by decide +kernel
theorem dX4_countWrongLines_10 : decode cX4_countWrongLines 10 = .ok (.getfield 15, 3) := by decide +kernel
theorem dX4_countWrongLines_13 : decode cX4_countWrongLines 13 = .ok (.iadd, 1) := by decide +kernel
theorem dX4_countWrongLines_14 : decode cX4_countWrongLines 14 = .ok (.if_icmp .ge 33, 3) := by decide +kernel
theorem dX4_countWrongLines_17 : decode cX4_countWrongLines 17 = .ok (.iload_n 1, 1) := by decide +kernel
theorem dX4_countWrongLines_18 : decode cX4_countWrongLines 18 = .ok (.aload_n 0, 1) := by decide +kernel
theorem dX4_countWrongLines_19 : decode cX4_countWrongLines 19 = .ok (.iload_n 2, 1) := by decide +kernel
theorem dX4_countWrongLines_20 : decode cX4_countWrongLines 20 = .ok (.invokevirtual 64, 3) := by decide +kernel
theorem dX4_countWrongLines_23 : decode cX4_countWrongLines 23 = .ok (.aload_n 0, 1) := by decide +kernel
theorem dX4_countWrongLines_24 : decode cX4_countWrongLines 24 = .ok (.iload_n 2, 1) := by decide +kernel
theorem dX4_countWrongLines_25 : decode cX4_countWrongLines 25 = .ok (.invokevirtual 68, 3) := by decide +kernel
theorem dX4_countWrongLines_28 : decode cX4_countWrongLines 28 = .ok (.if_icmp .eq 7, 3) := by decide +kernel
theorem dX4_countWrongLines_31 : decode cX4_countWrongLines 31 = .ok (.iconst 1, 1) := by decide +kernel
theorem dX4_countWrongLines_32 : decode cX4_countWrongLines 32 = .ok (.goto 4, 3) := by decide +kernel
theorem dX4_countWrongLines_35 : decode cX4_countWrongLines 35 = .ok (.iconst 0, 1) := by decide +kernel
theorem dX4_countWrongLines_36 : decode cX4_countWrongLines 36 = .ok (.invokestatic 71, 3) := by decide +kernel
theorem dX4_countWrongLines_39 : decode cX4_countWrongLines 39 = .ok (.iadd, 1) := by decide +kernel
theorem dX4_countWrongLines_40 : decode cX4_countWrongLines 40 = .ok (.istore_n 1, 1) := by decide +kernel
theorem dX4_countWrongLines_41 : decode cX4_countWrongLines 41 = .ok (.iinc 2 1, 3) := by decide +kernel
theorem dX4_countWrongLines_44 : decode cX4_countWrongLines 44 = .ok (.goto (-40), 3) := by decide +kernel
theorem dX4_countWrongLines_47 : decode cX4_countWrongLines 47 = .ok (.iload_n 1, 1) := by decide +kernel
theorem dX4_countWrongLines_48 : decode cX4_countWrongLines 48 = .ok (.ireturn, 1) := by decide +kernel
theorem dX4_isPinned_0 : decode cX4_isPinned 0 = .ok (.aload_n 0, 1) := by decide +kernel
theorem dX4_isPinned_1 : decode cX4_isPinned 1 = .ok (.getfield 22, 3) := by decide +kernel
theorem dX4_isPinned_4 : decode cX4_isPinned 4 = .ok (.iload_n 1, 1) := by decide +kernel
theorem dX4_isPinned_5 : decode cX4_isPinned 5 = .ok (.iload_n 2, 1) := by decide +kernel
theorem dX4_isPinned_6 : decode cX4_isPinned 6 = .ok (.invokestatic 75, 3) := by decide +kernel
theorem dX4_isPinned_9 : decode cX4_isPinned 9 = .ok (.land, 1) := by decide +kernel
theorem dX4_isPinned_10 : decode cX4_isPinned 10 = .ok (.lconst 0, 1) := by decide +kernel
theorem dX4_isPinned_11 : decode cX4_isPinned 11 = .ok (.lcmp, 1) := by decide +kernel
theorem dX4_isPinned_12 : decode cX4_isPinned 12 = .ok (.ifCond .eq 7, 3) := by decide +kernel
theorem dX4_isPinned_15 : decode cX4_isPinned 15 = .ok (.iconst 1, 1) := by decide +kernel
theorem dX4_isPinned_16 : decode cX4_isPinned 16 = .ok (.goto 4, 3) := by decide +kernel
theorem dX4_isPinned_19 : decode cX4_isPinned 19 = .ok (.iconst 0, 1) := by decide +kernel
theorem dX4_isPinned_20 : decode cX4_isPinned 20 = .ok (.ireturn, 1) := by decide +kernel
theorem dX4_setFilled_0 : decode cX4_setFilled 0 = .ok (.iload_n 1, 1) := by decide +kernel
theorem dX4_setFilled_1 : decode cX4_setFilled 1 = .ok (.iload_n 2, 1) := by decide +kernel
theorem dX4_setFilled_2 : decode cX4_setFilled 2 = .ok (.invokestatic 75, 3) := by decide +kernel
theorem dX4_setFilled_5 : decode cX4_setFilled 5 = .ok (.lstore 4, 2) := by decide +kernel
theorem dX4_setFilled_7 : decode cX4_setFilled 7 = .ok (.aload_n 0, 1) := by decide +kernel
theorem dX4_setFilled_8 : decode cX4_setFilled 8 = .ok (.getfield 18, 3) := by decide +kernel
theorem dX4_setFilled_11 : decode cX4_setFilled 11 = .ok (.lload 4, 2) := by decide +kernel
theorem dX4_setFilled_13 : decode cX4_setFilled 13 = .ok (.land, 1) := by decide +kernel
theorem dX4_setFilled_14 : decode cX4_setFilled 14 = .ok (.lconst 0, 1) := by decide +kernel
theorem dX4_setFilled_15 : decode cX4_setFilled 15 = .ok (.lcmp, 1) := by decide +kernel
theorem dX4_setFilled_16 : decode cX4_setFilled 16 = .ok (.ifCond .eq 7, 3) := by decide +kernel
theorem dX4_setFilled_19 : decode cX4_setFilled 19 = .ok (.iconst 1, 1) := by decide +kernel
theorem dX4_setFilled_20 : decode cX4_setFilled 20 = .ok (.goto 4, 3) := by decide +kernel
theorem dX4_setFilled_23 : decode cX4_setFilled 23 = .ok (.iconst 0, 1) := by decide +kernel
theorem dX4_setFilled_24 : decode cX4_setFilled 24 = .ok (.istore 6, 2) := by decide +kernel
theorem dX4_setFilled_26 : decode cX4_setFilled 26 = .ok (.aload_n 0, 1) := by decide +kernel
theorem dX4_setFilled_27 : decode cX4_setFilled 27 = .ok (.iload_n 3, 1) := by decide +kernel
theorem dX4_setFilled_28 : decode cX4_setFilled 28 = .ok (.ifCond .eq 13, 3) := by decide +kernel
theorem dX4_setFilled_31 : decode cX4_setFilled 31 = .ok (.aload_n 0, 1) := by decide +kernel
theorem dX4_setFilled_32 : decode cX4_setFilled 32 = .ok (.getfield 18, 3) := by decide +kernel
theorem dX4_setFilled_35 : decode cX4_setFilled 35 = .ok (.lload 4, 2) := by decide +kernel
theorem dX4_setFilled_37 : decode cX4_setFilled 37 = .ok (.lor, 1) := by decide +kernel
theorem dX4_setFilled_38 : decode cX4_setFilled 38 = .ok (.goto 14, 3) := by decide +kernel
theorem dX4_setFilled_41 : decode cX4_setFilled 41 = .ok (.aload_n 0, 1) := by decide +kernel
theorem dX4_setFilled_42 : decode cX4_setFilled 42 = .ok (.getfield 18, 3) := by decide +kernel
theorem dX4_setFilled_45 : decode cX4_setFilled 45 = .ok (.lload 4, 2) := by decide +kernel
theorem dX4_setFilled_47 : decode cX4_setFilled 47 = .ok (.ldc2_w 79, 3) := by decide +kernel
theorem dX4_setFilled_50 : decode cX4_setFilled 50 = .ok (.lxor, 1) := by decide +kernel
theorem dX4_setFilled_51 : decode cX4_setFilled 51 = .ok (.land, 1) := by decide +kernel
theorem dX4_setFilled_52 : decode cX4_setFilled 52 = .ok (.putfield 18, 3) := by decide +kernel
theorem dX4_setFilled_55 : decode cX4_setFilled 55 = .ok (.iload 6, 2) := by decide +kernel
theorem dX4_setFilled_57 : decode cX4_setFilled 57 = .ok (.ireturn, 1) := by decide +kernel
theorem dX4_setPinned_0 : decode cX4_setPinned 0 = .ok (.iload_n 1, 1) := by decide +kernel
theorem dX4_setPinned_1 : decode cX4_setPinned 1 = .ok (.iload_n 2, 1) := by decide +kernel
theorem dX4_setPinned_2 : decode cX4_setPinned 2 = .ok (.invokestatic 75, 3) := by decide +kernel
theorem dX4_setPinned_5 : decode cX4_setPinned 5 = .ok (.lstore 4, 2) := by decide +kernel
theorem dX4_setPinned_7 : decode cX4_setPinned 7 = .ok (.aload_n 0, 1) := by decide +kernel
theorem dX4_setPinned_8 : decode cX4_setPinned 8 = .ok (.getfield 22, 3) := by decide +kernel
theorem dX4_setPinned_11 : decode cX4_setPinned 11 = .ok (.lload 4, 2) := by decide +kernel
theorem dX4_setPinned_13 : decode cX4_setPinned 13 = .ok (.land, 1) := by decide +kernel
theorem dX4_setPinned_14 : decode cX4_setPinned 14 = .ok (.lconst 0, 1) := by decide +kernel
theorem dX4_setPinned_15 : decode cX4_setPinned 15 = .ok (.lcmp, 1) := by decide +kernel
theorem dX4_setPinned_16 : decode cX4_setPinned 16 = .ok (.ifCond .eq 7, 3) := by decide +kernel
theorem dX4_setPinned_19 : decode cX4_setPinned 19 = .ok (.iconst 1, 1) := by decide +kernel
theorem dX4_setPinned_20 : decode cX4_setPinned 20 = .ok (.goto 4, 3) := by decide +kernel
theorem dX4_setPinned_23 : decode cX4_setPinned 23 = .ok (.iconst 0, 1) := by decide +kernel
theorem dX4_setPinned_24 : decode cX4_setPinned 24 = .ok (.istore 6, 2) := by decide +kernel
theorem dX4_setPinned_26 : decode cX4_setPinned 26 = .ok (.aload_n 0, 1) := by decide +kernel
theorem dX4_setPinned_27 : decode cX4_setPinned 27 = .ok (.iload_n 3, 1) := by decide +kernel
theorem dX4_setPinned_28 : decode cX4_setPinned 28 = .ok (.ifCond .eq 13, 3) := by decide +kernel
theorem dX4_setPinned_31 : decode cX4_setPinned 31 = .ok (.aload_n 0, 1) := by decide +kernel
theorem dX4_setPinned_32 : decode cX4_setPinned 32 = .ok (.getfield 22, 3) := by decide +kernel
theorem dX4_setPinned_35 : decode cX4_setPinned 35 = .ok (.lload 4, 2) := by decide +kernel
theorem dX4_setPinned_37 : decode cX4_setPinned 37 = .ok (.lor, 1) := by decide +kernel
theorem dX4_setPinned_38 : decode cX4_setPinned 38 = .ok (.goto 14, 3) := by decide +kernel
theorem dX4_setPinned_41 : decode cX4_setPinned 41 = .ok (.aload_n 0, 1) := by decide +kernel
theorem dX4_setPinned_42 : decode cX4_setPinned 42 = .ok (.getfield 22, 3) := by decide +kernel
theorem dX4_setPinned_45 : decode cX4_setPinned 45 = .ok (.lload 4, 2) := by decide +kernel
theorem dX4_setPinned_47 : decode cX4_setPinned 47 = .ok (.ldc2_w 79, 3) := by decide +kernel
theorem dX4_setPinned_50 : decode cX4_setPinned 50 = .ok (.lxor, 1) := by decide +kernel
theorem dX4_setPinned_51 : decode cX4_setPinned 51 = .ok (.land, 1) := by decide +kernel
theorem dX4_setPinned_52 : decode cX4_setPinned 52 = .ok (.putfield 22, 3) := by decide +kernel
theorem dX4_setPinned_55 : decode cX4_setPinned 55 = .ok (.iload 6, 2) := by decide +kernel
theorem dX4_setPinned_57 : decode cX4_setPinned 57 = .ok (.ireturn, 1) := by decide +kernel
theorem dX4_setWanted_0 : decode cX4_setWanted 0 = .ok (.aload_n 0, 1) := by decide +kernel
theorem dX4_setWanted_1 : decode cX4_setWanted 1 = .ok (.iload_n 1, 1) := by decide +kernel
theorem dX4_setWanted_2 : decode cX4_setWanted 2 = .ok (.invokevirtual 68, 3) := by decide +kernel
theorem dX4_setWanted_5 : decode cX4_setWanted 5 = .ok (.istore_n 3, 1) := by decide +kernel
theorem dX4_setWanted_6 : decode cX4_setWanted 6 = .ok (.iload_n 1, 1) := by decide +kernel
theorem dX4_setWanted_7 : decode cX4_setWanted 7 = .ok (.aload_n 0, 1) := by decide +kernel
theorem dX4_setWanted_8 : decode cX4_setWanted 8 = .ok (.getfield 9, 3) := by decide +kernel
theorem dX4_setWanted_11 : decode cX4_setWanted 11 = .ok (.if_icmp .ge 19, 3) := by decide +kernel
theorem dX4_setWanted_14 : decode cX4_setWanted 14 = .ok (.aload_n 0, 1) := by decide +kernel
theorem dX4_setWanted_15 : decode cX4_setWanted 15 = .ok (.aload_n 0, 1) := by decide +kernel
theorem dX4_setWanted_16 : decode cX4_setWanted 16 = .ok (.getfield 25, 3) := by decide +kernel
theorem dX4_setWanted_19 : decode cX4_setWanted 19 = .ok (.iload_n 1, 1) := by decide +kernel
theorem dX4_setWanted_20 : decode cX4_setWanted 20 = .ok (.iload_n 2, 1) := by decide +kernel
theorem dX4_setWanted_21 : decode cX4_setWanted 21 = .ok (.invokestatic 81, 3) := by decide +kernel
theorem dX4_setWanted_24 : decode cX4_setWanted 24 = .ok (.putfield 25, 3) := by decide +kernel
theorem dX4_setWanted_27 : decode cX4_setWanted 27 = .ok (.goto 21, 3) := by decide +kernel
theorem dX4_setWanted_30 : decode cX4_setWanted 30 = .ok (.aload_n 0, 1) := by decide +kernel
theorem dX4_setWanted_31 : decode cX4_setWanted 31 = .ok (.aload_n 0, 1) := by decide +kernel
theorem dX4_setWanted_32 : decode cX4_setWanted 32 = .ok (.getfield 28, 3) := by decide +kernel
theorem dX4_setWanted_35 : decode cX4_setWanted 35 = .ok (.iload_n 1, 1) := by decide +kernel
theorem dX4_setWanted_36 : decode cX4_setWanted 36 = .ok (.aload_n 0, 1) := by decide +kernel
theorem dX4_setWanted_37 : decode cX4_setWanted 37 = .ok (.getfield 9, 3) := by decide +kernel
theorem dX4_setWanted_40 : decode cX4_setWanted 40 = .ok (.isub, 1) := by decide +kernel
theorem dX4_setWanted_41 : decode cX4_setWanted 41 = .ok (.iload_n 2, 1) := by decide +kernel
theorem dX4_setWanted_42 : decode cX4_setWanted 42 = .ok (.invokestatic 81, 3) := by decide +kernel
theorem dX4_setWanted_45 : decode cX4_setWanted 45 = .ok (.putfield 28, 3) := by decide +kernel
theorem dX4_setWanted_48 : decode cX4_setWanted 48 = .ok (.iload_n 3, 1) := by decide +kernel
theorem dX4_setWanted_49 : decode cX4_setWanted 49 = .ok (.ireturn, 1) := by decide +kernel
theorem dX4_wantTheCounts_0 : decode cX4_wantTheCounts 0 = .ok (.iconst 0, 1) := by decide +kernel
theorem dX4_wantTheCounts_1 : decode cX4_wantTheCounts 1 = .ok (.istore_n 1, 1) := by decide +kernel
theorem dX4_wantTheCounts_2 : decode cX4_wantTheCounts 2 = .ok (.iconst 0, 1) := by decide +kernel
theorem dX4_wantTheCounts_3 : decode cX4_wantTheCounts 3 = .ok (.istore_n 2, 1) := by decide +kernel
theorem dX4_wantTheCounts_4 : decode cX4_wantTheCounts 4 = .ok (.iload_n 2, 1) := by decide +kernel
theorem dX4_wantTheCounts_5 : decode cX4_wantTheCounts 5 = .ok (.aload_n 0, 1) := by decide +kernel
theorem dX4_wantTheCounts_6 : decode cX4_wantTheCounts 6 = .ok (.getfield 9, 3) := by decide +kernel
theorem dX4_wantTheCounts_9 : decode cX4_wantTheCounts 9 = .ok (.aload_n 0, 1) := by decide +kernel
theorem dX4_wantTheCounts_10 : decode cX4_wantTheCounts 10 = .ok (.getfield 15, 3) := by decide +kernel
theorem dX4_wantTheCounts_13 : decode cX4_wantTheCounts 13 = .ok (.iadd, 1) := by decide +kernel
theorem dX4_wantTheCounts_14 : decode cX4_wantTheCounts 14 = .ok (.if_icmp .ge 36, 3) := by decide +kernel
theorem dX4_wantTheCounts_17 : decode cX4_wantTheCounts 17 = .ok (.aload_n 0, 1) := by decide +kernel
theorem dX4_wantTheCounts_18 : decode cX4_wantTheCounts 18 = .ok (.iload_n 2, 1) := by decide +kernel
theorem dX4_wantTheCounts_19 : decode cX4_wantTheCounts 19 = .ok (.invokevirtual 64, 3) := by decide +kernel
theorem dX4_wantTheCounts_22 : decode cX4_wantTheCounts 22 = .ok (.istore_n 3, 1) := by decide +kernel
theorem dX4_wantTheCounts_23 : decode cX4_wantTheCounts 23 = .ok (.iload_n 1, 1) := by decide +kernel
theorem dX4_wantTheCounts_24 : decode cX4_wantTheCounts 24 = .ok (.aload_n 0, 1) := by decide +kernel
theorem dX4_wantTheCounts_25 : decode cX4_wantTheCounts 25 = .ok (.iload_n 2, 1) := by decide +kernel
theorem dX4_wantTheCounts_26 : decode cX4_wantTheCounts 26 = .ok (.iload_n 3, 1) := by decide +kernel
theorem dX4_wantTheCounts_27 : decode cX4_wantTheCounts 27 = .ok (.invokevirtual 85, 3) := by decide +kernel
theorem dX4_wantTheCounts_30 : decode cX4_wantTheCounts 30 = .ok (.iload_n 3, 1) := by decide +kernel
theorem dX4_wantTheCounts_31 : decode cX4_wantTheCounts 31 = .ok (.if_icmp .eq 7, 3) := by decide +kernel
theorem dX4_wantTheCounts_34 : decode cX4_wantTheCounts 34 = .ok (.iconst 1, 1) := by decide +kernel
theorem dX4_wantTheCounts_35 : decode cX4_wantTheCounts 35 = .ok (.goto 4, 3) := by decide +kernel
theorem dX4_wantTheCounts_38 : decode cX4_wantTheCounts 38 = .ok (.iconst 0, 1) := by decide +kernel
theorem dX4_wantTheCounts_39 : decode cX4_wantTheCounts 39 = .ok (.invokestatic 71, 3) := by decide +kernel
theorem dX4_wantTheCounts_42 : decode cX4_wantTheCounts 42 = .ok (.iadd, 1) := by decide +kernel
theorem dX4_wantTheCounts_43 : decode cX4_wantTheCounts 43 = .ok (.istore_n 1, 1) := by decide +kernel
theorem dX4_wantTheCounts_44 : decode cX4_wantTheCounts 44 = .ok (.iinc 2 1, 3) := by decide +kernel
theorem dX4_wantTheCounts_47 : decode cX4_wantTheCounts 47 = .ok (.goto (-43), 3) := by decide +kernel
theorem dX4_wantTheCounts_50 : decode cX4_wantTheCounts 50 = .ok (.iload_n 1, 1) := by decide +kernel
theorem dX4_wantTheCounts_51 : decode cX4_wantTheCounts 51 = .ok (.ireturn, 1) := by decide +kernel
theorem dX4_refill_0 : decode cX4_refill 0 = .ok (.aload_n 0, 1) := by decide +kernel
theorem dX4_refill_1 : decode cX4_refill 1 = .ok (.getfield 18, 3) := by decide +kernel
theorem dX4_refill_4 : decode cX4_refill 4 = .ok (.lload_n 1, 1) := by decide +kernel
theorem dX4_refill_5 : decode cX4_refill 5 = .ok (.lxor, 1) := by decide +kernel
theorem dX4_refill_6 : decode cX4_refill 6 = .ok (.invokestatic 46, 3) := by decide +kernel
theorem dX4_refill_9 : decode cX4_refill 9 = .ok (.istore_n 3, 1) := by decide +kernel
theorem dX4_refill_10 : decode cX4_refill 10 = .ok (.aload_n 0, 1) := by decide +kernel
theorem dX4_refill_11 : decode cX4_refill 11 = .ok (.lload_n 1, 1) := by decide +kernel
theorem dX4_refill_12 : decode cX4_refill 12 = .ok (.putfield 18, 3) := by decide +kernel
theorem dX4_refill_15 : decode cX4_refill 15 = .ok (.iload_n 3, 1) := by decide +kernel
theorem dX4_refill_16 : decode cX4_refill 16 = .ok (.ireturn, 1) := by decide +kernel
theorem dX4_cutTo_0 : decode cX4_cutTo 0 = .ok (.aload_n 0, 1) := by decide +kernel
theorem dX4_cutTo_1 : decode cX4_cutTo 1 = .ok (.iload_n 1, 1) := by decide +kernel
theorem dX4_cutTo_2 : decode cX4_cutTo 2 = .ok (.putfield 9, 3) := by decide +kernel
theorem dX4_cutTo_5 : decode cX4_cutTo 5 = .ok (.aload_n 0, 1) := by decide +kernel
theorem dX4_cutTo_6 : decode cX4_cutTo 6 = .ok (.iload_n 2, 1) := by decide +kernel
theorem dX4_cutTo_7 : decode cX4_cutTo 7 = .ok (.putfield 15, 3) := by decide +kernel
theorem dX4_cutTo_10 : decode cX4_cutTo 10 = .ok (.aload_n 0, 1) := by decide +kernel
theorem dX4_cutTo_11 : decode cX4_cutTo 11 = .ok (.dup, 1) := by decide +kernel
theorem dX4_cutTo_12 : decode cX4_cutTo 12 = .ok (.getfield 18, 3) := by decide +kernel
theorem dX4_cutTo_15 : decode cX4_cutTo 15 = .ok (.aload_n 0, 1) := by decide +kernel
theorem dX4_cutTo_16 : decode cX4_cutTo 16 = .ok (.invokevirtual 35, 3) := by decide +kernel
theorem dX4_cutTo_19 : decode cX4_cutTo 19 = .ok (.land, 1) := by decide +kernel
theorem dX4_cutTo_20 : decode cX4_cutTo 20 = .ok (.putfield 18, 3) := by decide +kernel
theorem dX4_cutTo_23 : decode cX4_cutTo 23 = .ok (.aload_n 0, 1) := by decide +kernel
theorem dX4_cutTo_24 : decode cX4_cutTo 24 = .ok (.dup, 1) := by decide +kernel
theorem dX4_cutTo_25 : decode cX4_cutTo 25 = .ok (.getfield 22, 3) := by decide +kernel
theorem dX4_cutTo_28 : decode cX4_cutTo 28 = .ok (.aload_n 0, 1) := by decide +kernel
theorem dX4_cutTo_29 : decode cX4_cutTo 29 = .ok (.invokevirtual 35, 3) := by decide +kernel
theorem dX4_cutTo_32 : decode cX4_cutTo 32 = .ok (.land, 1) := by decide +kernel
theorem dX4_cutTo_33 : decode cX4_cutTo 33 = .ok (.putfield 22, 3) := by decide +kernel
theorem dX4_cutTo_36 : decode cX4_cutTo 36 = .ok (.iload_n 1, 1) := by decide +kernel
theorem dX4_cutTo_37 : decode cX4_cutTo 37 = .ok (.istore_n 3, 1) := by decide +kernel
theorem dX4_cutTo_38 : decode cX4_cutTo 38 = .ok (.iload_n 3, 1) := by decide +kernel
theorem dX4_cutTo_39 : decode cX4_cutTo 39 = .ok (.bipush 6, 2) := by decide +kernel
theorem dX4_cutTo_41 : decode cX4_cutTo 41 = .ok (.if_icmp .ge 22, 3) := by decide +kernel
theorem dX4_cutTo_44 : decode cX4_cutTo 44 = .ok (.aload_n 0, 1) := by decide +kernel
theorem dX4_cutTo_45 : decode cX4_cutTo 45 = .ok (.aload_n 0, 1) := by decide +kernel
theorem dX4_cutTo_46 : decode cX4_cutTo 46 = .ok (.getfield 25, 3) := by decide +kernel
theorem dX4_cutTo_49 : decode cX4_cutTo 49 = .ok (.iload_n 3, 1) := by decide +kernel
theorem dX4_cutTo_50 : decode cX4_cutTo 50 = .ok (.iconst 0, 1) := by decide +kernel
theorem dX4_cutTo_51 : decode cX4_cutTo 51 = .ok (.invokestatic 81, 3) := by decide +kernel
theorem dX4_cutTo_54 : decode cX4_cutTo 54 = .ok (.putfield 25, 3) := by decide +kernel
theorem dX4_cutTo_57 : decode cX4_cutTo 57 = .ok (.iinc 3 1, 3) := by decide +kernel
theorem dX4_cutTo_60 : decode cX4_cutTo 60 = .ok (.goto (-22), 3) := by decide +kernel
theorem dX4_cutTo_63 : decode cX4_cutTo 63 = .ok (.iload_n 2, 1) := by decide +kernel
theorem dX4_cutTo_64 : decode cX4_cutTo 64 = .ok (.istore_n 3, 1) := by decide +kernel
theorem dX4_cutTo_65 : decode cX4_cutTo 65 = .ok (.iload_n 3, 1) := by decide +kernel
theorem dX4_cutTo_66 : decode cX4_cutTo 66 = .ok (.bipush 6, 2) := by decide +kernel
theorem dX4_cutTo_68 : decode cX4_cutTo 68 = .ok (.if_icmp .ge 22, 3) := by decide +kernel
theorem dX4_cutTo_71 : decode cX4_cutTo 71 = .ok (.aload_n 0, 1) := by decide +kernel
theorem dX4_cutTo_72 : decode cX4_cutTo 72 = .ok (.aload_n 0, 1) := by decide +kernel
theorem dX4_cutTo_73 : decode cX4_cutTo 73 = .ok (.getfield 28, 3) := by decide +kernel
theorem dX4_cutTo_76 : decode cX4_cutTo 76 = .ok (.iload_n 3, 1) := by decide +kernel
theorem dX4_cutTo_77 : decode cX4_cutTo 77 = .ok (.iconst 0, 1) := by decide +kernel
theorem dX4_cutTo_78 : decode cX4_cutTo 78 = .ok (.invokestatic 81, 3) := by decide +kernel
theorem dX4_cutTo_81 : decode cX4_cutTo 81 = .ok (.putfield 28, 3) := by decide +kernel
theorem dX4_cutTo_84 : decode cX4_cutTo 84 = .ok (.iinc 3 1, 3) := by decide +kernel
theorem dX4_cutTo_87 : decode cX4_cutTo 87 = .ok (.goto (-22), 3) := by decide +kernel
theorem dX4_cutTo_90 : decode cX4_cutTo 90 = .ok (.return_, 1) := by decide +kernel
theorem dX4_turnQuarter_0 : decode cX4_turnQuarter 0 = .ok (.aload_n 0, 1) := by decide +kernel
theorem dX4_turnQuarter_1 : decode cX4_turnQuarter 1 = .ok (.getfield 18, 3) := by decide +kernel
theorem dX4_turnQuarter_4 : decode cX4_turnQuarter 4 = .ok (.lstore_n 1, 1) := by decide +kernel
theorem dX4_turnQuarter_5 : decode cX4_turnQuarter 5 = .ok (.aload_n 0, 1) := by decide +kernel
theorem dX4_turnQuarter_6 : decode cX4_turnQuarter 6 = .ok (.getfield 22, 3) := by decide +kernel
theorem dX4_turnQuarter_9 : decode cX4_turnQuarter 9 = .ok (.lstore_n 3, 1) := by decide +kernel
theorem dX4_turnQuarter_10 : decode cX4_turnQuarter 10 = .ok (.aload_n 0, 1) := by decide +kernel
theorem dX4_turnQuarter_11 : decode cX4_turnQuarter 11 = .ok (.getfield 25, 3) := by decide +kernel
theorem dX4_turnQuarter_14 : decode cX4_turnQuarter 14 = .ok (.lstore 5, 2) := by decide +kernel
theorem dX4_turnQuarter_16 : decode cX4_turnQuarter 16 = .ok (.aload_n 0, 1) := by decide +kernel
theorem dX4_turnQuarter_17 : decode cX4_turnQuarter 17 = .ok (.getfield 9, 3) := by decide +kernel
theorem dX4_turnQuarter_20 : decode cX4_turnQuarter 20 = .ok (.istore 7, 2) := by decide +kernel
theorem dX4_turnQuarter_22 : decode cX4_turnQuarter 22 = .ok (.aload_n 0, 1) := by decide +kernel
theorem dX4_turnQuarter_23 : decode cX4_turnQuarter 23 = .ok (.getfield 15, 3) := by decide +kernel
theorem dX4_turnQuarter_26 : decode cX4_turnQuarter 26 = .ok (.istore 8, 2) := by decide +kernel
theorem dX4_turnQuarter_28 : decode cX4_turnQuarter 28 = .ok (.aload_n 0, 1) := by decide +kernel
theorem dX4_turnQuarter_29 : decode cX4_turnQuarter 29 = .ok (.iload 8, 2) := by decide +kernel
theorem dX4_turnQuarter_31 : decode cX4_turnQuarter 31 = .ok (.putfield 9, 3) := by decide +kernel
theorem dX4_turnQuarter_34 : decode cX4_turnQuarter 34 = .ok (.aload_n 0, 1) := by decide +kernel
theorem dX4_turnQuarter_35 : decode cX4_turnQuarter 35 = .ok (.iload 7, 2) := by decide +kernel
theorem dX4_turnQuarter_37 : decode cX4_turnQuarter 37 = .ok (.putfield 15, 3) := by decide +kernel
theorem dX4_turnQuarter_40 : decode cX4_turnQuarter 40 = .ok (.aload_n 0, 1) := by decide +kernel
theorem dX4_turnQuarter_41 : decode cX4_turnQuarter 41 = .ok (.aload_n 0, 1) := by decide +kernel
theorem dX4_turnQuarter_42 : decode cX4_turnQuarter 42 = .ok (.getfield 28, 3) := by decide +kernel
theorem dX4_turnQuarter_45 : decode cX4_turnQuarter 45 = .ok (.putfield 25, 3) := by decide +kernel
theorem dX4_turnQuarter_48 : decode cX4_turnQuarter 48 = .ok (.aload_n 0, 1) := by decide +kernel
theorem dX4_turnQuarter_49 : decode cX4_turnQuarter 49 = .ok (.lconst 0, 1) := by decide +kernel
theorem dX4_turnQuarter_50 : decode cX4_turnQuarter 50 = .ok (.putfield 28, 3) := by decide +kernel
theorem dX4_turnQuarter_53 : decode cX4_turnQuarter 53 = .ok (.aload_n 0, 1) := by decide +kernel
theorem dX4_turnQuarter_54 : decode cX4_turnQuarter 54 = .ok (.lconst 0, 1) := by decide +kernel
theorem dX4_turnQuarter_55 : decode cX4_turnQuarter 55 = .ok (.putfield 18, 3) := by decide +kernel
theorem dX4_turnQuarter_58 : decode cX4_turnQuarter 58 = .ok (.aload_n 0, 1) := by decide +kernel
theorem dX4_turnQuarter_59 : decode cX4_turnQuarter 59 = .ok (.lconst 0, 1) := by decide +kernel
theorem dX4_turnQuarter_60 : decode cX4_turnQuarter 60 = .ok (.putfield 22, 3) := by decide +kernel
theorem dX4_turnQuarter_63 : decode cX4_turnQuarter 63 = .ok (.iconst 0, 1) := by decide +kernel
theorem dX4_turnQuarter_64 : decode cX4_turnQuarter 64 = .ok (.istore 9, 2) := by decide +kernel
theorem dX4_turnQuarter_66 : decode cX4_turnQuarter 66 = .ok (.iload 9, 2) := by decide +kernel
theorem dX4_turnQuarter_68 : decode cX4_turnQuarter 68 = .ok (.iload 7, 2) := by decide +kernel
theorem dX4_turnQuarter_70 : decode cX4_turnQuarter 70 = .ok (.if_icmp .ge 109, 3) := by decide +kernel
theorem dX4_turnQuarter_73 : decode cX4_turnQuarter 73 = .ok (.iload 7, 2) := by decide +kernel
theorem dX4_turnQuarter_75 : decode cX4_turnQuarter 75 = .ok (.iconst 1, 1) := by decide +kernel
theorem dX4_turnQuarter_76 : decode cX4_turnQuarter 76 = .ok (.isub, 1) := by decide +kernel
theorem dX4_turnQuarter_77 : decode cX4_turnQuarter 77 = .ok (.iload 9, 2) := by decide +kernel
theorem dX4_turnQuarter_79 : decode cX4_turnQuarter 79 = .ok (.isub, 1) := by decide +kernel
theorem dX4_turnQuarter_80 : decode cX4_turnQuarter 80 = .ok (.istore 10, 2) := by decide +kernel
theorem dX4_turnQuarter_82 : decode cX4_turnQuarter 82 = .ok (.aload_n 0, 1) := by decide +kernel
theorem dX4_turnQuarter_83 : decode cX4_turnQuarter 83 = .ok (.aload_n 0, 1) := by decide +kernel
theorem dX4_turnQuarter_84 : decode cX4_turnQuarter 84 = .ok (.getfield 28, 3) := by decide +kernel
theorem dX4_turnQuarter_87 : decode cX4_turnQuarter 87 = .ok (.iload 10, 2) := by decide +kernel
theorem dX4_turnQuarter_89 : decode cX4_turnQuarter 89 = .ok (.lload 5, 2) := by decide +kernel
theorem dX4_turnQuarter_91 : decode cX4_turnQuarter 91 = .ok (.iload 9, 2) := by decide +kernel
theorem dX4_turnQuarter_93 : decode cX4_turnQuarter 93 = .ok (.invokestatic 55, 3) := by decide +kernel
theorem dX4_turnQuarter_96 : decode cX4_turnQuarter 96 = .ok (.invokestatic 81, 3) := by decide +kernel
theorem dX4_turnQuarter_99 : decode cX4_turnQuarter 99 = .ok (.putfield 28, 3) := by decide +kernel
theorem dX4_turnQuarter_102 : decode cX4_turnQuarter 102 = .ok (.iconst 0, 1) := by decide +kernel
theorem dX4_turnQuarter_103 : decode cX4_turnQuarter 103 = .ok (.istore 11, 2) := by decide +kernel
theorem dX4_turnQuarter_105 : decode cX4_turnQuarter 105 = .ok (.iload 11, 2) := by decide +kernel
theorem dX4_turnQuarter_107 : decode cX4_turnQuarter 107 = .ok (.iload 8, 2) := by decide +kernel
theorem dX4_turnQuarter_109 : decode cX4_turnQuarter 109 = .ok (.if_icmp .ge 64, 3) := by decide +kernel
theorem dX4_turnQuarter_112 : decode cX4_turnQuarter 112 = .ok (.iload 9, 2) := by decide +kernel
theorem dX4_turnQuarter_114 : decode cX4_turnQuarter 114 = .ok (.iload 11, 2) := by decide +kernel
theorem dX4_turnQuarter_116 : decode cX4_turnQuarter 116 = .ok (.invokestatic 75, 3) := by decide +kernel
theorem dX4_turnQuarter_119 : decode cX4_turnQuarter 119 = .ok (.lstore 12, 2) := by decide +kernel
theorem dX4_turnQuarter_121 : decode cX4_turnQuarter 121 = .ok (.aload_n 0, 1) := by decide +kernel
theorem dX4_turnQuarter_122 : decode cX4_turnQuarter 122 = .ok (.iload 11, 2) := by decide +kernel
theorem dX4_turnQuarter_124 : decode cX4_turnQuarter 124 = .ok (.iload 10, 2) := by decide +kernel
theorem dX4_turnQuarter_126 : decode cX4_turnQuarter 126 = .ok (.lload_n 1, 1) := by decide +kernel
theorem dX4_turnQuarter_127 : decode cX4_turnQuarter 127 = .ok (.lload 12, 2) := by decide +kernel
theorem dX4_turnQuarter_129 : decode cX4_turnQuarter 129 = .ok (.land, 1) := by decide +kernel
theorem dX4_turnQuarter_130 : decode cX4_turnQuarter 130 = .ok (.lconst 0, 1) := by decide +kernel
theorem dX4_turnQuarter_131 : decode cX4_turnQuarter 131 = .ok (.lcmp, 1) := by decide +kernel
theorem dX4_turnQuarter_132 : decode cX4_turnQuarter 132 = .ok (.ifCond .eq 7, 3) := by decide +kernel
theorem dX4_turnQuarter_135 : decode cX4_turnQuarter 135 = .ok (.iconst 1, 1) := by decide +kernel
theorem dX4_turnQuarter_136 : decode cX4_turnQuarter 136 = .ok (.goto 4, 3) := by decide +kernel
theorem dX4_turnQuarter_139 : decode cX4_turnQuarter 139 = .ok (.iconst 0, 1) := by decide +kernel
theorem dX4_turnQuarter_140 : decode cX4_turnQuarter 140 = .ok (.invokevirtual 89, 3) := by decide +kernel
theorem dX4_turnQuarter_143 : decode cX4_turnQuarter 143 = .ok (.pop, 1) := by decide +kernel
theorem dX4_turnQuarter_144 : decode cX4_turnQuarter 144 = .ok (.aload_n 0, 1) := by decide +kernel
theorem dX4_turnQuarter_145 : decode cX4_turnQuarter 145 = .ok (.iload 11, 2) := by decide +kernel
theorem dX4_turnQuarter_147 : decode cX4_turnQuarter 147 = .ok (.iload 10, 2) := by decide +kernel
theorem dX4_turnQuarter_149 : decode cX4_turnQuarter 149 = .ok (.lload_n 3, 1) := by decide +kernel
theorem dX4_turnQuarter_150 : decode cX4_turnQuarter 150 = .ok (.lload 12, 2) := by decide +kernel
theorem dX4_turnQuarter_152 : decode cX4_turnQuarter 152 = .ok (.land, 1) := by decide +kernel
theorem dX4_turnQuarter_153 : decode cX4_turnQuarter 153 = .ok (.lconst 0, 1) := by decide +kernel
theorem dX4_turnQuarter_154 : decode cX4_turnQuarter 154 = .ok (.lcmp, 1) := by decide +kernel
theorem dX4_turnQuarter_155 : decode cX4_turnQuarter 155 = .ok (.ifCond .eq 7, 3) := by decide +kernel
theorem dX4_turnQuarter_158 : decode cX4_turnQuarter 158 = .ok (.iconst 1, 1) := by decide +kernel
theorem dX4_turnQuarter_159 : decode cX4_turnQuarter 159 = .ok (.goto 4, 3) := by decide +kernel
theorem dX4_turnQuarter_162 : decode cX4_turnQuarter 162 = .ok (.iconst 0, 1) := by decide +kernel
theorem dX4_turnQuarter_163 : decode cX4_turnQuarter 163 = .ok (.invokevirtual 93, 3) := by decide +kernel
theorem dX4_turnQuarter_166 : decode cX4_turnQuarter 166 = .ok (.pop, 1) := by decide +kernel
theorem dX4_turnQuarter_167 : decode cX4_turnQuarter 167 = .ok (.iinc 11 1, 3) := by decide +kernel
theorem dX4_turnQuarter_170 : decode cX4_turnQuarter 170 = .ok (.goto (-65), 3) := by decide +kernel
theorem dX4_turnQuarter_173 : decode cX4_turnQuarter 173 = .ok (.iinc 9 1, 3) := by decide +kernel
theorem dX4_turnQuarter_176 : decode cX4_turnQuarter 176 = .ok (.goto (-110), 3) := by decide +kernel
theorem dX4_turnQuarter_179 : decode cX4_turnQuarter 179 = .ok (.return_, 1) := by decide +kernel
theorem dX4_canExchange_0 : decode cX4_canExchange 0 = .ok (.iload_n 1, 1) := by decide +kernel
theorem dX4_canExchange_1 : decode cX4_canExchange 1 = .ok (.iload_n 2, 1) := by decide +kernel
theorem dX4_canExchange_2 : decode cX4_canExchange 2 = .ok (.iload_n 3, 1) := by decide +kernel
theorem dX4_canExchange_3 : decode cX4_canExchange 3 = .ok (.iload 4, 2) := by decide +kernel
theorem dX4_canExchange_5 : decode cX4_canExchange 5 = .ok (.invokestatic 96, 3) := by decide +kernel
theorem dX4_canExchange_8 : decode cX4_canExchange 8 = .ok (.lstore 5, 2) := by decide +kernel
theorem dX4_canExchange_10 : decode cX4_canExchange 10 = .ok (.aload_n 0, 1) := by decide +kernel
theorem dX4_canExchange_11 : decode cX4_canExchange 11 = .ok (.getfield 18, 3) := by decide +kernel
theorem dX4_canExchange_14 : decode cX4_canExchange 14 = .ok (.lload 5, 2) := by decide +kernel
theorem dX4_canExchange_16 : decode cX4_canExchange 16 = .ok (.land, 1) := by decide +kernel
theorem dX4_canExchange_17 : decode cX4_canExchange 17 = .ok (.lstore 7, 2) := by decide +kernel
theorem dX4_canExchange_19 : decode cX4_canExchange 19 = .ok (.aload_n 0, 1) := by decide +kernel
theorem dX4_canExchange_20 : decode cX4_canExchange 20 = .ok (.getfield 22, 3) := by decide +kernel
theorem dX4_canExchange_23 : decode cX4_canExchange 23 = .ok (.lload 5, 2) := by decide +kernel
theorem dX4_canExchange_25 : decode cX4_canExchange 25 = .ok (.land, 1) := by decide +kernel
theorem dX4_canExchange_26 : decode cX4_canExchange 26 = .ok (.lconst 0, 1) := by decide +kernel
theorem dX4_canExchange_27 : decode cX4_canExchange 27 = .ok (.lcmp, 1) := by decide +kernel
theorem dX4_canExchange_28 : decode cX4_canExchange 28 = .ok (.ifCond .ne 43, 3) := by decide +kernel
theorem dX4_canExchange_31 : decode cX4_canExchange 31 = .ok (.lload 7, 2) := by decide +kernel
theorem dX4_canExchange_33 : decode cX4_canExchange 33 = .ok (.iload_n 1, 1) := by decide +kernel
theorem dX4_canExchange_34 : decode cX4_canExchange 34 = .ok (.iload_n 3, 1) := by decide +kernel
theorem dX4_canExchange_35 : decode cX4_canExchange 35 = .ok (.invokestatic 75, 3) := by decide +kernel
theorem dX4_canExchange_38 : decode cX4_canExchange 38 = .ok (.iload_n 2, 1) := by decide +kernel
theorem dX4_canExchange_39 : decode cX4_canExchange 39 = .ok (.iload 4, 2) := by decide +kernel
theorem dX4_canExchange_41 : decode cX4_canExchange 41 = .ok (.invokestatic 75, 3) := by decide +kernel
theorem dX4_canExchange_44 : decode cX4_canExchange 44 = .ok (.lor, 1) := by decide +kernel
theorem dX4_canExchange_45 : decode cX4_canExchange 45 = .ok (.lcmp, 1) := by decide +kernel
theorem dX4_canExchange_46 : decode cX4_canExchange 46 = .ok (.ifCond .eq 21, 3) := by decide +kernel
theorem dX4_canExchange_49 : decode cX4_canExchange 49 = .ok (.lload 7, 2) := by decide +kernel
theorem dX4_canExchange_51 : decode cX4_canExchange 51 = .ok (.iload_n 1, 1) := by decide +kernel
theorem dX4_canExchange_52 : decode cX4_canExchange 52 = .ok (.iload 4, 2) := by decide +kernel
theorem dX4_canExchange_54 : decode cX4_canExchange 54 = .ok (.invokestatic 75, 3) := by decide +kernel
theorem dX4_canExchange_57 : decode cX4_canExchange 57 = .ok (.iload_n 2, 1) := by decide +kernel
theorem dX4_canExchange_58 : decode cX4_canExchange 58 = .ok (.iload_n 3, 1) := by decide +kernel
theorem dX4_canExchange_59 : decode cX4_canExchange 59 = .ok (.invokestatic 75, 3) := by decide +kernel
theorem dX4_canExchange_62 : decode cX4_canExchange 62 = .ok (.lor, 1) := by decide +kernel
theorem dX4_canExchange_63 : decode cX4_canExchange 63 = .ok (.lcmp, 1) := by decide +kernel
theorem dX4_canExchange_64 : decode cX4_canExchange 64 = .ok (.ifCond .ne 7, 3) := by decide +kernel
theorem dX4_canExchange_67 : decode cX4_canExchange 67 = .ok (.iconst 1, 1) := by decide +kernel
theorem dX4_canExchange_68 : decode cX4_canExchange 68 = .ok (.goto 4, 3) := by decide +kernel
theorem dX4_canExchange_71 : decode cX4_canExchange 71 = .ok (.iconst 0, 1) := by decide +kernel
theorem dX4_canExchange_72 : decode cX4_canExchange 72 = .ok (.ireturn, 1) := by decide +kernel
theorem dX4_countExchanges_0 : decode cX4_countExchanges 0 = .ok (.iconst 0, 1) := by decide +kernel
theorem dX4_countExchanges_1 : decode cX4_countExchanges 1 = .ok (.istore_n 1, 1) := by decide +kernel
theorem dX4_countExchanges_2 : decode cX4_countExchanges 2 = .ok (.iconst 0, 1) := by decide +kernel
theorem dX4_countExchanges_3 : decode cX4_countExchanges 3 = .ok (.istore_n 2, 1) := by decide +kernel
theorem dX4_countExchanges_4 : decode cX4_countExchanges 4 = .ok (.iload_n 2, 1) := by decide +kernel
theorem dX4_countExchanges_5 : decode cX4_countExchanges 5 = .ok (.aload_n 0, 1) := by decide +kernel
theorem dX4_countExchanges_6 : decode cX4_countExchanges 6 = .ok (.getfield 9, 3) := by decide +kernel
theorem dX4_countExchanges_9 : decode cX4_countExchanges 9 = .ok (.if_icmp .ge 36, 3) := by decide +kernel
theorem dX4_countExchanges_12 : decode cX4_countExchanges 12 = .ok (.iload_n 2, 1) := by decide +kernel
theorem dX4_countExchanges_13 : decode cX4_countExchanges 13 = .ok (.iconst 1, 1) := by decide +kernel
theorem dX4_countExchanges_14 : decode cX4_countExchanges 14 = .ok (.iadd, 1) := by decide +kernel
theorem dX4_countExchanges_15 : decode cX4_countExchanges 15 = .ok (.istore_n 3, 1) := by decide +kernel
theorem dX4_countExchanges_16 : decode cX4_countExchanges 16 = .ok (.iload_n 3, 1) := by decide +kernel
theorem dX4_countExchanges_17 : decode cX4_countExchanges 17 = .ok (.aload_n 0, 1) := by decide +kernel
theorem dX4_countExchanges_18 : decode cX4_countExchanges 18 = .ok (.getfield 9, 3) := by decide +kernel
theorem dX4_countExchanges_21 : decode cX4_countExchanges 21 = .ok (.if_icmp .ge 18, 3) := by decide +kernel
theorem dX4_countExchanges_24 : decode cX4_countExchanges 24 = .ok (.iload_n 1, 1) := by decide +kernel
theorem dX4_countExchanges_25 : decode cX4_countExchanges 25 = .ok (.aload_n 0, 1) := by decide +kernel
theorem dX4_countExchanges_26 : decode cX4_countExchanges 26 = .ok (.iload_n 2, 1) := by decide +kernel
theorem dX4_countExchanges_27 : decode cX4_countExchanges 27 = .ok (.iload_n 3, 1) := by decide +kernel
theorem dX4_countExchanges_28 : decode cX4_countExchanges 28 = .ok (.invokevirtual 100, 3) := by decide +kernel
theorem dX4_countExchanges_31 : decode cX4_countExchanges 31 = .ok (.iadd, 1) := by decide +kernel
theorem dX4_countExchanges_32 : decode cX4_countExchanges 32 = .ok (.istore_n 1, 1) := by decide +kernel
theorem dX4_countExchanges_33 : decode cX4_countExchanges 33 = .ok (.iinc 3 1, 3) := by decide +kernel
theorem dX4_countExchanges_36 : decode cX4_countExchanges 36 = .ok (.goto (-20), 3) := by decide +kernel
theorem dX4_countExchanges_39 : decode cX4_countExchanges 39 = .ok (.iinc 2 1, 3) := by decide +kernel
theorem dX4_countExchanges_42 : decode cX4_countExchanges 42 = .ok (.goto (-38), 3) := by decide +kernel
theorem dX4_countExchanges_45 : decode cX4_countExchanges 45 = .ok (.iload_n 1, 1) := by decide +kernel
theorem dX4_countExchanges_46 : decode cX4_countExchanges 46 = .ok (.ireturn, 1) := by decide +kernel
theorem dX4_countExchangesOf_0 : decode cX4_countExchangesOf 0 = .ok (.aload_n 0, 1) := by decide +kernel
theorem dX4_countExchangesOf_1 : decode cX4_countExchangesOf 1 = .ok (.getfield 22, 3) := by decide +kernel
theorem dX4_countExchangesOf_4 : decode cX4_countExchangesOf 4 = .ok (.ldc2_w 79, 3) := by decide +kernel
theorem dX4_countExchangesOf_7 : decode cX4_countExchangesOf 7 = .ok (.lxor, 1) := by decide +kernel
theorem dX4_countExchangesOf_8 : decode cX4_countExchangesOf 8 = .ok (.lstore_n 3, 1) := by decide +kernel
theorem dX4_countExchangesOf_9 : decode cX4_countExchangesOf 9 = .ok (.lload_n 3, 1) := by decide +kernel
theorem dX4_countExchangesOf_10 : decode cX4_countExchangesOf 10 = .ok (.iload_n 1, 1) := by decide +kernel
theorem dX4_countExchangesOf_11 : decode cX4_countExchangesOf 11 = .ok (.invokestatic 103, 3) := by decide +kernel
theorem dX4_countExchangesOf_14 : decode cX4_countExchangesOf 14 = .ok (.lload_n 3, 1) := by decide +kernel
theorem dX4_countExchangesOf_15 : decode cX4_countExchangesOf 15 = .ok (.iload_n 2, 1) := by decide +kernel
theorem dX4_countExchangesOf_16 : decode cX4_countExchangesOf 16 = .ok (.invokestatic 103, 3) := by decide +kernel
theorem dX4_countExchangesOf_19 : decode cX4_countExchangesOf 19 = .ok (.iand, 1) := by decide +kernel
theorem dX4_countExchangesOf_20 : decode cX4_countExchangesOf 20 = .ok (.istore 5, 2) := by decide +kernel
theorem dX4_countExchangesOf_22 : decode cX4_countExchangesOf 22 = .ok (.iload 5, 2) := by decide +kernel
theorem dX4_countExchangesOf_24 : decode cX4_countExchangesOf 24 = .ok (.aload_n 0, 1) := by decide +kernel
theorem dX4_countExchangesOf_25 : decode cX4_countExchangesOf 25 = .ok (.getfield 18, 3) := by decide +kernel
theorem dX4_countExchangesOf_28 : decode cX4_countExchangesOf 28 = .ok (.iload_n 1, 1) := by decide +kernel
theorem dX4_countExchangesOf_29 : decode cX4_countExchangesOf 29 = .ok (.invokestatic 103, 3) := by decide +kernel
theorem dX4_countExchangesOf_32 : decode cX4_countExchangesOf 32 = .ok (.iand, 1) := by decide +kernel
theorem dX4_countExchangesOf_33 : decode cX4_countExchangesOf 33 = .ok (.aload_n 0, 1) := by decide +kernel
theorem dX4_countExchangesOf_34 : decode cX4_countExchangesOf 34 = .ok (.getfield 18, 3) := by decide +kernel
theorem dX4_countExchangesOf_37 : decode cX4_countExchangesOf 37 = .ok (.iload_n 2, 1) := by decide +kernel
theorem dX4_countExchangesOf_38 : decode cX4_countExchangesOf 38 = .ok (.invokestatic 103, 3) := by decide +kernel
theorem dX4_countExchangesOf_41 : decode cX4_countExchangesOf 41 = .ok (.iconst (-1), 1) := by decide +kernel
theorem dX4_countExchangesOf_42 : decode cX4_countExchangesOf 42 = .ok (.ixor, 1) := by decide +kernel
theorem dX4_countExchangesOf_43 : decode cX4_countExchangesOf 43 = .ok (.iand, 1) := by decide +kernel
theorem dX4_countExchangesOf_44 : decode cX4_countExchangesOf 44 = .ok (.istore 6, 2) := by decide +kernel
theorem dX4_countExchangesOf_46 : decode cX4_countExchangesOf 46 = .ok (.iload 5, 2) := by decide +kernel
theorem dX4_countExchangesOf_48 : decode cX4_countExchangesOf 48 = .ok (.aload_n 0, 1) := by decide +kernel
theorem dX4_countExchangesOf_49 : decode cX4_countExchangesOf 49 = .ok (.getfield 18, 3) := by decide +kernel
theorem dX4_countExchangesOf_52 : decode cX4_countExchangesOf 52 = .ok (.iload_n 2, 1) := by decide +kernel
theorem dX4_countExchangesOf_53 : decode cX4_countExchangesOf 53 = .ok (.invokestatic 103, 3) := by decide +kernel
theorem dX4_countExchangesOf_56 : decode cX4_countExchangesOf 56 = .ok (.iand, 1) := by decide +kernel
theorem dX4_countExchangesOf_57 : decode cX4_countExchangesOf 57 = .ok (.aload_n 0, 1) := by decide +kernel
theorem dX4_countExchangesOf_58 : decode cX4_countExchangesOf 58 = .ok (.getfield 18, 3) := by decide +kernel
theorem dX4_countExchangesOf_61 : decode cX4_countExchangesOf 61 = .ok (.iload_n 1, 1) := by decide +kernel
theorem dX4_countExchangesOf_62 : decode cX4_countExchangesOf 62 = .ok (.invokestatic 103, 3) := by decide +kernel
theorem dX4_countExchangesOf_65 : decode cX4_countExchangesOf 65 = .ok (.iconst (-1), 1) := by decide +kernel
theorem dX4_countExchangesOf_66 : decode cX4_countExchangesOf 66 = .ok (.ixor, 1) := by decide +kernel
theorem dX4_countExchangesOf_67 : decode cX4_countExchangesOf 67 = .ok (.iand, 1) := by decide +kernel
theorem dX4_countExchangesOf_68 : decode cX4_countExchangesOf 68 = .ok (.istore 7, 2) := by decide +kernel
theorem dX4_countExchangesOf_70 : decode cX4_countExchangesOf 70 = .ok (.iload 6, 2) := by decide +kernel
theorem dX4_countExchangesOf_72 : decode cX4_countExchangesOf 72 = .ok (.invokestatic 106, 3) := by decide +kernel
theorem dX4_countExchangesOf_75 : decode cX4_countExchangesOf 75 = .ok (.iload 7, 2) := by decide +kernel
theorem dX4_countExchangesOf_77 : decode cX4_countExchangesOf 77 = .ok (.invokestatic 106, 3) := by decide +kernel
theorem dX4_countExchangesOf_80 : decode cX4_countExchangesOf 80 = .ok (.imul, 1) := by decide +kernel
theorem dX4_countExchangesOf_81 : decode cX4_countExchangesOf 81 = .ok (.ireturn, 1) := by decide +kernel
theorem dX4_exchangeNumbered_0 : decode cX4_exchangeNumbered 0 = .ok (.iload_n 1, 1) := by decide +kernel
theorem dX4_exchangeNumbered_1 : decode cX4_exchangeNumbered 1 = .ok (.istore_n 2, 1) := by decide +kernel
theorem dX4_exchangeNumbered_2 : decode cX4_exchangeNumbered 2 = .ok (.iconst 0, 1) := by decide +kernel
theorem dX4_exchangeNumbered_3 : decode cX4_exchangeNumbered 3 = .ok (.istore_n 3, 1) := by decide +kernel
theorem dX4_exchangeNumbered_4 : decode cX4_exchangeNumbered 4 = .ok (.iload_n 3, 1) := by decide +kernel
theorem dX4_exchangeNumbered_5 : decode cX4_exchangeNumbered 5 = .ok (.aload_n 0, 1) := by decide +kernel
theorem dX4_exchangeNumbered_6 : decode cX4_exchangeNumbered 6 = .ok (.getfield 9, 3) := by decide +kernel
theorem dX4_exchangeNumbered_9 : decode cX4_exchangeNumbered 9 = .ok (.if_icmp .ge 70, 3) := by decide +kernel
theorem dX4_exchangeNumbered_12 : decode cX4_exchangeNumbered 12 = .ok (.iload_n 3, 1) := by decide +kernel
theorem dX4_exchangeNumbered_13 : decode cX4_exchangeNumbered 13 = .ok (.iconst 1, 1) := by decide +kernel
theorem dX4_exchangeNumbered_14 : decode cX4_exchangeNumbered 14 = .ok (.iadd, 1) := by decide +kernel
theorem dX4_exchangeNumbered_15 : decode cX4_exchangeNumbered 15 = .ok (.istore 4, 2) := by decide +kernel
theorem dX4_exchangeNumbered_17 : decode cX4_exchangeNumbered 17 = .ok (.iload 4, 2) := by decide +kernel
theorem dX4_exchangeNumbered_19 : decode cX4_exchangeNumbered 19 = .ok (.aload_n 0, 1) := by decide +kernel
theorem dX4_exchangeNumbered_20 : decode cX4_exchangeNumbered 20 = .ok (.getfield 9, 3) := by decide +kernel
theorem dX4_exchangeNumbered_23 : decode cX4_exchangeNumbered 23 = .ok (.if_icmp .ge 50, 3) := by decide +kernel
theorem dX4_exchangeNumbered_26 : decode cX4_exchangeNumbered 26 = .ok (.aload_n 0, 1) := by decide +kernel
theorem dX4_exchangeNumbered_27 : decode cX4_exchangeNumbered 27 = .ok (.iload_n 3, 1) := by decide +kernel
theorem dX4_exchangeNumbered_28 : decode cX4_exchangeNumbered 28 = .ok (.iload 4, 2) := by decide +kernel
theorem dX4_exchangeNumbered_30 : decode cX4_exchangeNumbered 30 = .ok (.invokevirtual 100, 3) := by decide +kernel
theorem dX4_exchangeNumbered_33 : decode cX4_exchangeNumbered 33 = .ok (.istore 5, 2) := by decide +kernel
theorem dX4_exchangeNumbered_35 : decode cX4_exchangeNumbered 35 = .ok (.iload_n 2, 1) := by decide +kernel
theorem dX4_exchangeNumbered_36 : decode cX4_exchangeNumbered 36 = .ok (.iload 5, 2) := by decide +kernel
theorem dX4_exchangeNumbered_38 : decode cX4_exchangeNumbered 38 = .ok (.if_icmp .ge 24, 3) := by decide +kernel
theorem dX4_exchangeNumbered_41 : decode cX4_exchangeNumbered 41 = .ok (.sipush 1000, 3) := by decide +kernel
theorem dX4_exchangeNumbered_44 : decode cX4_exchangeNumbered 44 = .ok (.iload_n 3, 1) := by decide +kernel
theorem dX4_exchangeNumbered_45 : decode cX4_exchangeNumbered 45 = .ok (.imul, 1) := by decide +kernel
theorem dX4_exchangeNumbered_46 : decode cX4_exchangeNumbered 46 = .ok (.bipush 100, 2) := by decide +kernel
theorem dX4_exchangeNumbered_48 : decode cX4_exchangeNumbered 48 = .ok (.iload 4, 2) := by decide +kernel
theorem dX4_exchangeNumbered_50 : decode cX4_exchangeNumbered 50 = .ok (.imul, 1) := by decide +kernel
theorem dX4_exchangeNumbered_51 : decode cX4_exchangeNumbered 51 = .ok (.iadd, 1) := by decide +kernel
theorem dX4_exchangeNumbered_52 : decode cX4_exchangeNumbered 52 = .ok (.aload_n 0, 1) := by decide +kernel
theorem dX4_exchangeNumbered_53 : decode cX4_exchangeNumbered 53 = .ok (.iload_n 3, 1) := by decide +kernel
theorem dX4_exchangeNumbered_54 : decode cX4_exchangeNumbered 54 = .ok (.iload 4, 2) := by decide +kernel
theorem dX4_exchangeNumbered_56 : decode cX4_exchangeNumbered 56 = .ok (.iload_n 2, 1) := by decide +kernel
theorem dX4_exchangeNumbered_57 : decode cX4_exchangeNumbered 57 = .ok (.invokevirtual 110, 3) := by decide +kernel
theorem dX4_exchangeNumbered_60 : decode cX4_exchangeNumbered 60 = .ok (.iadd, 1) := by decide +kernel
theorem dX4_exchangeNumbered_61 : decode cX4_exchangeNumbered 61 = .ok (.ireturn, 1) := by decide +kernel
theorem dX4_exchangeNumbered_62 : decode cX4_exchangeNumbered 62 = .ok (.iload_n 2, 1) := by decide +kernel
theorem dX4_exchangeNumbered_63 : decode cX4_exchangeNumbered 63 = .ok (.iload 5, 2) := by decide +kernel
theorem dX4_exchangeNumbered_65 : decode cX4_exchangeNumbered 65 = .ok (.isub, 1) := by decide +kernel
theorem dX4_exchangeNumbered_66 : decode cX4_exchangeNumbered 66 = .ok (.istore_n 2, 1) := by decide +kernel
theorem dX4_exchangeNumbered_67 : decode cX4_exchangeNumbered 67 = .ok (.iinc 4 1, 3) := by decide +kernel
theorem dX4_exchangeNumbered_70 : decode cX4_exchangeNumbered 70 = .ok (.goto (-53), 3) := by decide +kernel
theorem dX4_exchangeNumbered_73 : decode cX4_exchangeNumbered 73 = .ok (.iinc 3 1, 3) := by decide +kernel
theorem dX4_exchangeNumbered_76 : decode cX4_exchangeNumbered 76 = .ok (.goto (-72), 3) := by decide +kernel
theorem dX4_exchangeNumbered_79 : decode cX4_exchangeNumbered 79 = .ok (.bipush (-9), 2) := by decide +kernel
theorem dX4_exchangeNumbered_81 : decode cX4_exchangeNumbered 81 = .ok (.ireturn, 1) := by decide +kernel
theorem dX4_exchangedColumns_0 : decode cX4_exchangedColumns 0 = .ok (.iload_n 3, 1) := by decide +kernel
theorem dX4_exchangedColumns_1 : decode cX4_exchangedColumns 1 = .ok (.istore 4, 2) := by decide +kernel
theorem dX4_exchangedColumns_3 : decode cX4_exchangedColumns 3 = .ok (.iconst 0, 1) := by decide +kernel
theorem dX4_exchangedColumns_4 : decode cX4_exchangedColumns 4 = .ok (.istore 5, 2) := by decide +kernel
theorem dX4_exchangedColumns_6 : decode cX4_exchangedColumns 6 = .ok (.iload 5, 2) := by decide +kernel
theorem dX4_exchangedColumns_8 : decode cX4_exchangedColumns 8 = .ok (.aload_n 0, 1) := by decide +kernel
theorem dX4_exchangedColumns_9 : decode cX4_exchangedColumns 9 = .ok (.getfield 15, 3) := by decide +kernel
theorem dX4_exchangedColumns_12 : decode cX4_exchangedColumns 12 = .ok (.if_icmp .ge 60, 3) := by decide +kernel
theorem dX4_exchangedColumns_15 : decode cX4_exchangedColumns 15 = .ok (.iload 5, 2) := by decide +kernel
theorem dX4_exchangedColumns_17 : decode cX4_exchangedColumns 17 = .ok (.iconst 1, 1) := by decide +kernel
theorem dX4_exchangedColumns_18 : decode cX4_exchangedColumns 18 = .ok (.iadd, 1) := by decide +kernel
theorem dX4_exchangedColumns_19 : decode cX4_exchangedColumns 19 = .ok (.istore 6, 2) := by decide +kernel
theorem dX4_exchangedColumns_21 : decode cX4_exchangedColumns 21 = .ok (.iload 6, 2) := by decide +kernel
theorem dX4_exchangedColumns_23 : decode cX4_exchangedColumns 23 = .ok (.aload_n 0, 1) := by decide +kernel
theorem dX4_exchangedColumns_24 : decode cX4_exchangedColumns 24 = .ok (.getfield 15, 3) := by decide +kernel
theorem dX4_exchangedColumns_27 : decode cX4_exchangedColumns 27 = .ok (.if_icmp .ge 39, 3) := by decide +kernel
theorem dX4_exchangedColumns_30 : decode cX4_exchangedColumns 30 = .ok (.aload_n 0, 1) := by decide +kernel
theorem dX4_exchangedColumns_31 : decode cX4_exchangedColumns 31 = .ok (.iload_n 1, 1) := by decide +kernel
theorem dX4_exchangedColumns_32 : decode cX4_exchangedColumns 32 = .ok (.iload_n 2, 1) := by decide +kernel
theorem dX4_exchangedColumns_33 : decode cX4_exchangedColumns 33 = .ok (.iload 5, 2) := by decide +kernel
theorem dX4_exchangedColumns_35 : decode cX4_exchangedColumns 35 = .ok (.iload 6, 2) := by decide +kernel
theorem dX4_exchangedColumns_37 : decode cX4_exchangedColumns 37 = .ok (.invokevirtual 114, 3) := by decide +kernel
theorem dX4_exchangedColumns_40 : decode cX4_exchangedColumns 40 = .ok (.ifCond .eq 20, 3) := by decide +kernel
theorem dX4_exchangedColumns_43 : decode cX4_exchangedColumns 43 = .ok (.iload 4, 2) := by decide +kernel
theorem dX4_exchangedColumns_45 : decode cX4_exchangedColumns 45 = .ok (.ifCond .ne 12, 3) := by decide +kernel
theorem dX4_exchangedColumns_48 : decode cX4_exchangedColumns 48 = .ok (.bipush 10, 2) := by decide +kernel
theorem dX4_exchangedColumns_50 : decode cX4_exchangedColumns 50 = .ok (.iload 5, 2) := by decide +kernel
theorem dX4_exchangedColumns_52 : decode cX4_exchangedColumns 52 = .ok (.imul, 1) := by decide +kernel
theorem dX4_exchangedColumns_53 : decode cX4_exchangedColumns 53 = .ok (.iload 6, 2) := by decide +kernel
theorem dX4_exchangedColumns_55 : decode cX4_exchangedColumns 55 = .ok (.iadd, 1) := by decide +kernel
theorem dX4_exchangedColumns_56 : decode cX4_exchangedColumns 56 = .ok (.ireturn, 1) := by decide +kernel
theorem dX4_exchangedColumns_57 : decode cX4_exchangedColumns 57 = .ok (.iinc 4 (-1), 3) := by decide +kernel
theorem dX4_exchangedColumns_60 : decode cX4_exchangedColumns 60 = .ok (.iinc 6 1, 3) := by decide +kernel
theorem dX4_exchangedColumns_63 : decode cX4_exchangedColumns 63 = .ok (.goto (-42), 3) := by decide +kernel
theorem dX4_exchangedColumns_66 : decode cX4_exchangedColumns 66 = .ok (.iinc 5 1, 3) := by decide +kernel
theorem dX4_exchangedColumns_69 : decode cX4_exchangedColumns 69 = .ok (.goto (-63), 3) := by decide +kernel
theorem dX4_exchangedColumns_72 : decode cX4_exchangedColumns 72 = .ok (.iconst 0, 1) := by decide +kernel
theorem dX4_exchangedColumns_73 : decode cX4_exchangedColumns 73 = .ok (.ireturn, 1) := by decide +kernel
theorem dX5_init_0 : decode cX5_init 0 = .ok (.aload_n 0, 1) := by decide +kernel
theorem dX5_init_1 : decode cX5_init 1 = .ok (.invokespecial 1, 3) := by decide +kernel
theorem dX5_init_4 : decode cX5_init 4 = .ok (.aload_n 0, 1) := by decide +kernel
theorem dX5_init_5 : decode cX5_init 5 = .ok (.iconst 2, 1) := by decide +kernel
theorem dX5_init_6 : decode cX5_init 6 = .ok (.anewarray 9, 3) := by decide +kernel
theorem dX5_init_9 : decode cX5_init 9 = .ok (.putfield 11, 3) := by decide +kernel
theorem dX5_init_12 : decode cX5_init 12 = .ok (.aload_n 0, 1) := by decide +kernel
theorem dX5_init_13 : decode cX5_init 13 = .ok (.iconst 2, 1) := by decide +kernel
theorem dX5_init_14 : decode cX5_init 14 = .ok (.newarray .boolean, 2) := by decide +kernel
theorem dX5_init_16 : decode cX5_init 16 = .ok (.putfield 15, 3) := by decide +kernel
theorem dX5_init_19 : decode cX5_init 19 = .ok (.iconst 0, 1) := by decide +kernel
theorem dX5_init_20 : decode cX5_init 20 = .ok (.istore_n 1, 1) := by decide +kernel
theorem dX5_init_21 : decode cX5_init 21 = .ok (.iload_n 1, 1) := by decide +kernel
theorem dX5_init_22 : decode cX5_init 22 = .ok (.aload_n 0, 1) := by decide +kernel
theorem dX5_init_23 : decode cX5_init 23 = .ok (.getfield 11, 3) := by decide +kernel
theorem dX5_init_26 : decode cX5_init 26 = .ok (.arraylength, 1) := by decide +kernel
theorem dX5_init_27 : decode cX5_init 27 = .ok (.if_icmp .ge 22, 3) := by decide +kernel
theorem dX5_init_30 : decode cX5_init 30 = .ok (.aload_n 0, 1) := by decide +kernel
theorem dX5_init_31 : decode cX5_init 31 = .ok (.getfield 11, 3) := by decide +kernel
theorem dX5_init_34 : decode cX5_init 34 = .ok (.iload_n 1, 1) := by decide +kernel
theorem dX5_init_35 : decode cX5_init 35 = .ok (.new 9, 3) := by decide +kernel
theorem dX5_init_38 : decode cX5_init 38 = .ok (.dup, 1) := by decide +kernel
theorem dX5_init_39 : decode cX5_init 39 = .ok (.invokespecial 19, 3) := by decide +kernel
theorem dX5_init_42 : decode cX5_init 42 = .ok (.aastore, 1) := by decide +kernel
theorem dX5_init_43 : decode cX5_init 43 = .ok (.iinc 1 1, 3) := by decide +kernel
theorem dX5_init_46 : decode cX5_init 46 = .ok (.goto (-25), 3) := by decide +kernel
theorem dX5_init_49 : decode cX5_init 49 = .ok (.return_, 1) := by decide +kernel
theorem dX5_forgetAll_0 : decode cX5_forgetAll 0 = .ok (.iconst 0, 1) := by decide +kernel
theorem dX5_forgetAll_1 : decode cX5_forgetAll 1 = .ok (.istore_n 1, 1) := by decide +kernel
theorem dX5_forgetAll_2 : decode cX5_forgetAll 2 = .ok (.iload_n 1, 1) := by decide +kernel
theorem dX5_forgetAll_3 : decode cX5_forgetAll 3 = .ok (.aload_n 0, 1) := by decide +kernel
theorem dX5_forgetAll_4 : decode cX5_forgetAll 4 = .ok (.getfield 15, 3) := by decide +kernel
theorem dX5_forgetAll_7 : decode cX5_forgetAll 7 = .ok (.arraylength, 1) := by decide +kernel
theorem dX5_forgetAll_8 : decode cX5_forgetAll 8 = .ok (.if_icmp .ge 16, 3) := by decide +kernel
theorem dX5_forgetAll_11 : decode cX5_forgetAll 11 = .ok (.aload_n 0, 1) := by decide +kernel
theorem dX5_forgetAll_12 : decode cX5_forgetAll 12 = .ok (.getfield 15, 3) := by decide +kernel
theorem dX5_forgetAll_15 : decode cX5_forgetAll 15 = .ok (.iload_n 1, 1) := by decide +kernel
theorem dX5_forgetAll_16 : decode cX5_forgetAll 16 = .ok (.iconst 0, 1) := by decide +kernel
theorem dX5_forgetAll_17 : decode cX5_forgetAll 17 = .ok (.bastore, 1) := by decide +kernel
theorem dX5_forgetAll_18 : decode cX5_forgetAll 18 = .ok (.iinc 1 1, 3) := by decide +kernel
theorem dX5_forgetAll_21 : decode cX5_forgetAll 21 = .ok (.goto (-19), 3) := by decide +kernel
theorem dX5_forgetAll_24 : decode cX5_forgetAll 24 = .ok (.return_, 1) := by decide +kernel
theorem dX5_has_0 : decode cX5_has 0 = .ok (.iload_n 1, 1) := by decide +kernel
theorem dX5_has_1 : decode cX5_has 1 = .ok (.ifCond .lt 25, 3) := by decide +kernel
theorem dX5_has_4 : decode cX5_has 4 = .ok (.iload_n 1, 1) := by decide +kernel
theorem dX5_has_5 : decode cX5_has 5 = .ok (.aload_n 0, 1) := by decide +kernel
theorem dX5_has_6 : decode cX5_has 6 = .ok (.getfield 15, 3) := by decide +kernel
theorem dX5_has_9 : decode cX5_has 9 = .ok (.arraylength, 1) := by decide +kernel
theorem dX5_has_10 : decode cX5_has 10 = .ok (.if_icmp .ge 16, 3) := by decide +kernel
theorem dX5_has_13 : decode cX5_has 13 = .ok (.aload_n 0, 1) := by decide +kernel
theorem dX5_has_14 : decode cX5_has 14 = .ok (.getfield 15, 3) := by decide +kernel
theorem dX5_has_17 : decode cX5_has 17 = .ok (.iload_n 1, 1) := by decide +kernel
theorem dX5_has_18 : decode cX5_has 18 = .ok (.baload, 1) := by decide +kernel
theorem dX5_has_19 : decode cX5_has 19 = .ok (.ifCond .eq 7, 3) := by decide +kernel
theorem dX5_has_22 : decode cX5_has 22 = .ok (.iconst 1, 1) := by decide +kernel
theorem dX5_has_23 : decode cX5_has 23 = .ok (.goto 4, 3) := by decide +kernel
theorem dX5_has_26 : decode cX5_has 26 = .ok (.iconst 0, 1) := by decide +kernel
theorem dX5_has_27 : decode cX5_has 27 = .ok (.ireturn, 1) := by decide +kernel
theorem dX5_put_0 : decode cX5_put 0 = .ok (.iload_n 1, 1) := by decide +kernel
theorem dX5_put_1 : decode cX5_put 1 = .ok (.ifCond .lt 47, 3) := by decide +kernel
theorem dX5_put_4 : decode cX5_put 4 = .ok (.iload_n 1, 1) := by decide +kernel
theorem dX5_put_5 : decode cX5_put 5 = .ok (.aload_n 0, 1) := by decide +kernel
theorem dX5_put_6 : decode cX5_put 6 = .ok (.getfield 15, 3) := by decide +kernel
theorem dX5_put_9 : decode cX5_put 9 = .ok (.arraylength, 1) := by decide +kernel
theorem dX5_put_10 : decode cX5_put 10 = .ok (.if_icmp .ge 38, 3) := by decide +kernel
theorem dX5_put_13 : decode cX5_put 13 = .ok (.iload_n 1, 1) := by decide +kernel
theorem dX5_put_14 : decode cX5_put 14 = .ok (.aload_n 0, 1) := by decide +kernel
theorem dX5_put_15 : decode cX5_put 15 = .ok (.getfield 11, 3) := by decide +kernel
theorem dX5_put_18 : decode cX5_put 18 = .ok (.arraylength, 1) := by decide +kernel
theorem dX5_put_19 : decode cX5_put 19 = .ok (.if_icmp .ge 29, 3) := by decide +kernel
theorem dX5_put_22 : decode cX5_put 22 = .ok (.aload_n 0, 1) := by decide +kernel
theorem dX5_put_23 : decode cX5_put 23 = .ok (.getfield 11, 3) := by decide +kernel
theorem dX5_put_26 : decode cX5_put 26 = .ok (.iload_n 1, 1) := by decide +kernel
theorem dX5_put_27 : decode cX5_put 27 = .ok (.aaload, 1) := by decide +kernel
theorem dX5_put_28 : decode cX5_put 28 = .ok (.ifnull 20, 3) := by decide +kernel
theorem dX5_put_31 : decode cX5_put 31 = .ok (.aload_n 0, 1) := by decide +kernel
theorem dX5_put_32 : decode cX5_put 32 = .ok (.getfield 11, 3) := by decide +kernel
theorem dX5_put_35 : decode cX5_put 35 = .ok (.iload_n 1, 1) := by decide +kernel
theorem dX5_put_36 : decode cX5_put 36 = .ok (.aaload, 1) := by decide +kernel
theorem dX5_put_37 : decode cX5_put 37 = .ok (.aload_n 2, 1) := by decide +kernel
theorem dX5_put_38 : decode cX5_put 38 = .ok (.invokevirtual 20, 3) := by decide +kernel
theorem dX5_put_41 : decode cX5_put 41 = .ok (.aload_n 0, 1) := by decide +kernel
theorem dX5_put_42 : decode cX5_put 42 = .ok (.getfield 15, 3) := by decide +kernel
theorem dX5_put_45 : decode cX5_put 45 = .ok (.iload_n 1, 1) := by decide +kernel
theorem dX5_put_46 : decode cX5_put 46 = .ok (.iconst 1, 1) := by decide +kernel
theorem dX5_put_47 : decode cX5_put 47 = .ok (.bastore, 1) := by decide +kernel
theorem dX5_put_48 : decode cX5_put 48 = .ok (.return_, 1) := by decide +kernel
theorem dX5_bringBack_0 : decode cX5_bringBack 0 = .ok (.iload_n 1, 1) := by decide +kernel
theorem dX5_bringBack_1 : decode cX5_bringBack 1 = .ok (.ifCond .lt 31, 3) := by decide +kernel
theorem dX5_bringBack_4 : decode cX5_bringBack 4 = .ok (.iload_n 1, 1) := by decide +kernel
theorem dX5_bringBack_5 : decode cX5_bringBack 5 = .ok (.aload_n 0, 1) := by decide +kernel
theorem dX5_bringBack_6 : decode cX5_bringBack 6 = .ok (.getfield 11, 3) := by decide +kernel
theorem dX5_bringBack_9 : decode cX5_bringBack 9 = .ok (.arraylength, 1) := by decide +kernel
theorem dX5_bringBack_10 : decode cX5_bringBack 10 = .ok (.if_icmp .ge 22, 3) := by decide +kernel
theorem dX5_bringBack_13 : decode cX5_bringBack 13 = .ok (.aload_n 0, 1) := by decide +kernel
theorem dX5_bringBack_14 : decode cX5_bringBack 14 = .ok (.getfield 11, 3) := by decide +kernel
theorem dX5_bringBack_17 : decode cX5_bringBack 17 = .ok (.iload_n 1, 1) := by decide +kernel
theorem dX5_bringBack_18 : decode cX5_bringBack 18 = .ok (.aaload, 1) := by decide +kernel
theorem dX5_bringBack_19 : decode cX5_bringBack 19 = .ok (.ifnull 13, 3) := by decide +kernel
theorem dX5_bringBack_22 : decode cX5_bringBack 22 = .ok (.aload_n 2, 1) := by decide +kernel
theorem dX5_bringBack_23 : decode cX5_bringBack 23 = .ok (.aload_n 0, 1) := by decide +kernel
theorem dX5_bringBack_24 : decode cX5_bringBack 24 = .ok (.getfield 11, 3) := by decide +kernel
theorem dX5_bringBack_27 : decode cX5_bringBack 27 = .ok (.iload_n 1, 1) := by decide +kernel
theorem dX5_bringBack_28 : decode cX5_bringBack 28 = .ok (.aaload, 1) := by decide +kernel
theorem dX5_bringBack_29 : decode cX5_bringBack 29 = .ok (.invokevirtual 20, 3) := by decide +kernel
theorem dX5_bringBack_32 : decode cX5_bringBack 32 = .ok (.return_, 1) := by decide +kernel
theorem dX6_init_0 : decode cX6_init 0 = .ok (.aload_n 0, 1) := by decide +kernel
theorem dX6_init_1 : decode cX6_init 1 = .ok (.invokespecial 3, 3) := by decide +kernel
theorem dX6_init_4 : decode cX6_init 4 = .ok (.aload_n 0, 1) := by decide +kernel
theorem dX6_init_5 : decode cX6_init 5 = .ok (.bipush 60, 2) := by decide +kernel
theorem dX6_init_7 : decode cX6_init 7 = .ok (.newarray .char, 2) := by decide +kernel
theorem dX6_init_9 : decode cX6_init 9 = .ok (.putfield 11, 3) := by decide +kernel
theorem dX6_init_12 : decode cX6_init 12 = .ok (.aload_n 0, 1) := by decide +kernel
theorem dX6_init_13 : decode cX6_init 13 = .ok (.iconst 0, 1) := by decide +kernel
theorem dX6_init_14 : decode cX6_init 14 = .ok (.putfield 15, 3) := by decide +kernel
theorem dX6_init_17 : decode cX6_init 17 = .ok (.return_, 1) := by decide +kernel
theorem dX6_isFull_0 : decode cX6_isFull 0 = .ok (.aload_n 0, 1) := by decide +kernel
theorem dX6_isFull_1 : decode cX6_isFull 1 = .ok (.getfield 15, 3) := by decide +kernel
theorem dX6_isFull_4 : decode cX6_isFull 4 = .ok (.aload_n 0, 1) := by decide +kernel
theorem dX6_isFull_5 : decode cX6_isFull 5 = .ok (.getfield 11, 3) := by decide +kernel
theorem dX6_isFull_8 : decode cX6_isFull 8 = .ok (.arraylength, 1) := by decide +kernel
theorem dX6_isFull_9 : decode cX6_isFull 9 = .ok (.if_icmp .lt 7, 3) := by decide +kernel
theorem dX6_isFull_12 : decode cX6_isFull 12 = .ok (.iconst 1, 1) := by decide +kernel
theorem dX6_isFull_13 : decode cX6_isFull 13 = .ok (.goto 4, 3) := by decide +kernel
theorem dX6_isFull_16 : decode cX6_isFull 16 = .ok (.iconst 0, 1) := by decide +kernel
theorem dX6_isFull_17 : decode cX6_isFull 17 = .ok (.ireturn, 1) := by decide +kernel
theorem dX6_put_0 : decode cX6_put 0 = .ok (.aload_n 0, 1) := by decide +kernel
theorem dX6_put_1 : decode cX6_put 1 = .ok (.getfield 15, 3) := by decide +kernel
theorem dX6_put_4 : decode cX6_put 4 = .ok (.ifCond .lt 35, 3) := by decide +kernel
theorem dX6_put_7 : decode cX6_put 7 = .ok (.aload_n 0, 1) := by decide +kernel
theorem dX6_put_8 : decode cX6_put 8 = .ok (.getfield 15, 3) := by decide +kernel
theorem dX6_put_11 : decode cX6_put 11 = .ok (.aload_n 0, 1) := by decide +kernel
theorem dX6_put_12 : decode cX6_put 12 = .ok (.getfield 11, 3) := by decide +kernel
theorem dX6_put_15 : decode cX6_put 15 = .ok (.arraylength, 1) := by decide +kernel
theorem dX6_put_16 : decode cX6_put 16 = .ok (.if_icmp .ge 23, 3) := by decide +kernel
theorem dX6_put_19 : decode cX6_put 19 = .ok (.aload_n 0, 1) := by decide +kernel
theorem dX6_put_20 : decode cX6_put 20 = .ok (.getfield 11, 3) := by decide +kernel
theorem dX6_put_23 : decode cX6_put 23 = .ok (.aload_n 0, 1) := by decide +kernel
theorem dX6_put_24 : decode cX6_put 24 = .ok (.getfield 15, 3) := by decide +kernel
theorem dX6_put_27 : decode cX6_put 27 = .ok (.iload_n 1, 1) := by decide +kernel
theorem dX6_put_28 : decode cX6_put 28 = .ok (.castore, 1) := by decide +kernel
theorem dX6_put_29 : decode cX6_put 29 = .ok (.aload_n 0, 1) := by decide +kernel
theorem dX6_put_30 : decode cX6_put 30 = .ok (.dup, 1) := by decide +kernel
theorem dX6_put_31 : decode cX6_put 31 = .ok (.getfield 15, 3) := by decide +kernel
theorem dX6_put_34 : decode cX6_put 34 = .ok (.iconst 1, 1) := by decide +kernel
theorem dX6_put_35 : decode cX6_put 35 = .ok (.iadd, 1) := by decide +kernel
theorem dX6_put_36 : decode cX6_put 36 = .ok (.putfield 15, 3) := by decide +kernel
theorem dX6_put_39 : decode cX6_put 39 = .ok (.aload_n 0, 1) := by decide +kernel
theorem dX6_put_40 : decode cX6_put 40 = .ok (.getfield 15, 3) := by decide +kernel
theorem dX6_put_43 : decode cX6_put 43 = .ok (.ireturn, 1) := by decide +kernel
theorem dX6_empty_0 : decode cX6_empty 0 = .ok (.aload_n 0, 1) := by decide +kernel
theorem dX6_empty_1 : decode cX6_empty 1 = .ok (.getfield 15, 3) := by decide +kernel
theorem dX6_empty_4 : decode cX6_empty 4 = .ok (.istore_n 1, 1) := by decide +kernel
theorem dX6_empty_5 : decode cX6_empty 5 = .ok (.aload_n 0, 1) := by decide +kernel
theorem dX6_empty_6 : decode cX6_empty 6 = .ok (.iconst 0, 1) := by decide +kernel
theorem dX6_empty_7 : decode cX6_empty 7 = .ok (.putfield 15, 3) := by decide +kernel
theorem dX6_empty_10 : decode cX6_empty 10 = .ok (.iload_n 1, 1) := by decide +kernel
theorem dX6_empty_11 : decode cX6_empty 11 = .ok (.ireturn, 1) := by decide +kernel
theorem dX6_signAt_0 : decode cX6_signAt 0 = .ok (.iload_n 1, 1) := by decide +kernel
theorem dX6_signAt_1 : decode cX6_signAt 1 = .ok (.ifCond .lt 29, 3) := by decide +kernel
theorem dX6_signAt_4 : decode cX6_signAt 4 = .ok (.iload_n 1, 1) := by decide +kernel
theorem dX6_signAt_5 : decode cX6_signAt 5 = .ok (.aload_n 0, 1) := by decide +kernel
theorem dX6_signAt_6 : decode cX6_signAt 6 = .ok (.getfield 15, 3) := by decide +kernel
theorem dX6_signAt_9 : decode cX6_signAt 9 = .ok (.if_icmp .ge 21, 3) := by decide +kernel
theorem dX6_signAt_12 : decode cX6_signAt 12 = .ok (.iload_n 1, 1) := by decide +kernel
theorem dX6_signAt_13 : decode cX6_signAt 13 = .ok (.aload_n 0, 1) := by decide +kernel
theorem dX6_signAt_14 : decode cX6_signAt 14 = .ok (.getfield 11, 3) := by decide +kernel
theorem dX6_signAt_17 : decode cX6_signAt 17 = .ok (.arraylength, 1) := by decide +kernel
theorem dX6_signAt_18 : decode cX6_signAt 18 = .ok (.if_icmp .ge 12, 3) := by decide +kernel
theorem dX6_signAt_21 : decode cX6_signAt 21 = .ok (.aload_n 0, 1) := by decide +kernel
theorem dX6_signAt_22 : decode cX6_signAt 22 = .ok (.getfield 11, 3) := by decide +kernel
theorem dX6_signAt_25 : decode cX6_signAt 25 = .ok (.iload_n 1, 1) := by decide +kernel
theorem dX6_signAt_26 : decode cX6_signAt 26 = .ok (.caload, 1) := by decide +kernel
theorem dX6_signAt_27 : decode cX6_signAt 27 = .ok (.goto 4, 3) := by decide +kernel
theorem dX6_signAt_30 : decode cX6_signAt 30 = .ok (.iconst 0, 1) := by decide +kernel
theorem dX6_signAt_31 : decode cX6_signAt 31 = .ok (.ireturn, 1) := by decide +kernel
theorem dX6_digitAt_0 : decode cX6_digitAt 0 = .ok (.aload_n 0, 1) := by decide +kernel
theorem dX6_digitAt_1 : decode cX6_digitAt 1 = .ok (.iload_n 1, 1) := by decide +kernel
theorem dX6_digitAt_2 : decode cX6_digitAt 2 = .ok (.invokevirtual 19, 3) := by decide +kernel
theorem dX6_digitAt_5 : decode cX6_digitAt 5 = .ok (.bipush 48, 2) := by decide +kernel
theorem dX6_digitAt_7 : decode cX6_digitAt 7 = .ok (.isub, 1) := by decide +kernel
theorem dX6_digitAt_8 : decode cX6_digitAt 8 = .ok (.ireturn, 1) := by decide +kernel
theorem dX6_cellsEnd_0 : decode cX6_cellsEnd 0 = .ok (.iconst 3, 1) := by decide +kernel
theorem dX6_cellsEnd_1 : decode cX6_cellsEnd 1 = .ok (.aload_n 0, 1) := by decide +kernel
theorem dX6_cellsEnd_2 : decode cX6_cellsEnd 2 = .ok (.iconst 1, 1) := by decide +kernel
theorem dX6_cellsEnd_3 : decode cX6_cellsEnd 3 = .ok (.invokevirtual 23, 3) := by decide +kernel
theorem dX6_cellsEnd_6 : decode cX6_cellsEnd 6 = .ok (.aload_n 0, 1) := by decide +kernel
theorem dX6_cellsEnd_7 : decode cX6_cellsEnd 7 = .ok (.iconst 2, 1) := by decide +kernel
theorem dX6_cellsEnd_8 : decode cX6_cellsEnd 8 = .ok (.invokevirtual 23, 3) := by decide +kernel
theorem dX6_cellsEnd_11 : decode cX6_cellsEnd 11 = .ok (.imul, 1) := by decide +kernel
theorem dX6_cellsEnd_12 : decode cX6_cellsEnd 12 = .ok (.iadd, 1) := by decide +kernel
theorem dX6_cellsEnd_13 : decode cX6_cellsEnd 13 = .ok (.ireturn, 1) := by decide +kernel
theorem dX6_firstError_0 : decode cX6_firstError 0 = .ok (.iconst 0, 1) := by decide +kernel
theorem dX6_firstError_1 : decode cX6_firstError 1 = .ok (.istore_n 1, 1) := by decide +kernel
theorem dX6_firstError_2 : decode cX6_firstError 2 = .ok (.iload_n 1, 1) := by decide +kernel
theorem dX6_firstError_3 : decode cX6_firstError 3 = .ok (.aload_n 0, 1) := by decide +kernel
theorem dX6_firstError_4 : decode cX6_firstError 4 = .ok (.getfield 15, 3) := by decide +kernel
theorem dX6_firstError_7 : decode cX6_firstError 7 = .ok (.if_icmp .ge 19, 3) := by decide +kernel
theorem dX6_firstError_10 : decode cX6_firstError 10 = .ok (.aload_n 0, 1) := by decide +kernel
theorem dX6_firstError_11 : decode cX6_firstError 11 = .ok (.iload_n 1, 1) := by decide +kernel
theorem dX6_firstError_12 : decode cX6_firstError 12 = .ok (.invokevirtual 27, 3) := by decide +kernel
theorem dX6_firstError_15 : decode cX6_firstError 15 = .ok (.ifCond .ne 5, 3) := by decide +kernel
theorem dX6_firstError_18 : decode cX6_firstError 18 = .ok (.iload_n 1, 1) := by decide +kernel
theorem dX6_firstError_19 : decode cX6_firstError 19 = .ok (.ireturn, 1) := by decide +kernel
theorem dX6_firstError_20 : decode cX6_firstError 20 = .ok (.iinc 1 1, 3) := by decide +kernel
theorem dX6_firstError_23 : decode cX6_firstError 23 = .ok (.goto (-21), 3) := by decide +kernel
theorem dX6_firstError_26 : decode cX6_firstError 26 = .ok (.aload_n 0, 1) := by decide +kernel
theorem dX6_firstError_27 : decode cX6_firstError 27 = .ok (.invokevirtual 31, 3) := by decide +kernel
theorem dX6_firstError_30 : decode cX6_firstError 30 = .ok (.ifCond .eq 8, 3) := by decide +kernel
theorem dX6_firstError_33 : decode cX6_firstError 33 = .ok (.bipush (-9), 2) := by decide +kernel
theorem dX6_firstError_35 : decode cX6_firstError 35 = .ok (.goto 7, 3) := by decide +kernel
theorem dX6_firstError_38 : decode cX6_firstError 38 = .ok (.aload_n 0, 1) := by decide +kernel
theorem dX6_firstError_39 : decode cX6_firstError 39 = .ok (.getfield 15, 3) := by decide +kernel
theorem dX6_firstError_42 : decode cX6_firstError 42 = .ok (.ireturn, 1) := by decide +kernel
theorem dX6_isAllowed_0 : decode cX6_isAllowed 0 = .ok (.iload_n 1, 1) := by decide +kernel
theorem dX6_isAllowed_1 : decode cX6_isAllowed 1 = .ok (.ifCond .ne 19, 3) := by decide +kernel
theorem dX6_isAllowed_4 : decode cX6_isAllowed 4 = .ok (.aload_n 0, 1) := by decide +kernel
theorem dX6_isAllowed_5 : decode cX6_isAllowed 5 = .ok (.iload_n 1, 1) := by decide +kernel
theorem dX6_isAllowed_6 : decode cX6_isAllowed 6 = .ok (.invokevirtual 19, 3) := by decide +kernel
theorem dX6_isAllowed_9 : decode cX6_isAllowed 9 = .ok (.bipush 80, 2) := by decide +kernel
theorem dX6_isAllowed_11 : decode cX6_isAllowed 11 = .ok (.if_icmp .ne 7, 3) := by decide +kernel
theorem dX6_isAllowed_14 : decode cX6_isAllowed 14 = .ok (.iconst 1, 1) := by decide +kernel
theorem dX6_isAllowed_15 : decode cX6_isAllowed 15 = .ok (.goto 4, 3) := by decide +kernel
theorem dX6_isAllowed_18 : decode cX6_isAllowed 18 = .ok (.iconst 0, 1) := by decide +kernel
theorem dX6_isAllowed_19 : decode cX6_isAllowed 19 = .ok (.ireturn, 1) := by decide +kernel
theorem dX6_isAllowed_20 : decode cX6_isAllowed 20 = .ok (.iload_n 1, 1) := by decide +kernel
theorem dX6_isAllowed_21 : decode cX6_isAllowed 21 = .ok (.iconst 3, 1) := by decide +kernel
theorem dX6_isAllowed_22 : decode cX6_isAllowed 22 = .ok (.if_icmp .ge 10, 3) := by decide +kernel
theorem dX6_isAllowed_25 : decode cX6_isAllowed 25 = .ok (.aload_n 0, 1) := by decide +kernel
theorem dX6_isAllowed_26 : decode cX6_isAllowed 26 = .ok (.iload_n 1, 1) := by decide +kernel
theorem dX6_isAllowed_27 : decode cX6_isAllowed 27 = .ok (.iconst 1, 1) := by decide +kernel
theorem dX6_isAllowed_28 : decode cX6_isAllowed 28 = .ok (.invokevirtual 35, 3) := by decide +kernel
theorem dX6_isAllowed_31 : decode cX6_isAllowed 31 = .ok (.ireturn, 1) := by decide +kernel
theorem dX6_isAllowed_32 : decode cX6_isAllowed 32 = .ok (.iload_n 1, 1) := by decide +kernel
theorem dX6_isAllowed_33 : decode cX6_isAllowed 33 = .ok (.aload_n 0, 1) := by decide +kernel
theorem dX6_isAllowed_34 : decode cX6_isAllowed 34 = .ok (.invokevirtual 39, 3) := by decide +kernel
theorem dX6_isAllowed_37 : decode cX6_isAllowed 37 = .ok (.if_icmp .ge 12, 3) := by decide +kernel
theorem dX6_isAllowed_40 : decode cX6_isAllowed 40 = .ok (.aload_n 0, 1) := by decide +kernel
theorem dX6_isAllowed_41 : decode cX6_isAllowed 41 = .ok (.iload_n 1, 1) := by decide +kernel
theorem dX6_isAllowed_42 : decode cX6_isAllowed 42 = .ok (.invokevirtual 19, 3) := by decide +kernel
theorem dX6_isAllowed_45 : decode cX6_isAllowed 45 = .ok (.invokestatic 43, 3) := by decide +kernel
theorem dX6_isAllowed_48 : decode cX6_isAllowed 48 = .ok (.ireturn, 1) := by decide +kernel
theorem dX6_isAllowed_49 : decode cX6_isAllowed 49 = .ok (.iload_n 1, 1) := by decide +kernel
theorem dX6_isAllowed_50 : decode cX6_isAllowed 50 = .ok (.aload_n 0, 1) := by decide +kernel
theorem dX6_isAllowed_51 : decode cX6_isAllowed 51 = .ok (.invokevirtual 39, 3) := by decide +kernel
theorem dX6_isAllowed_54 : decode cX6_isAllowed 54 = .ok (.if_icmp .ne 19, 3) := by decide +kernel
theorem dX6_isAllowed_57 : decode cX6_isAllowed 57 = .ok (.aload_n 0, 1) := by decide +kernel
theorem dX6_isAllowed_58 : decode cX6_isAllowed 58 = .ok (.iload_n 1, 1) := by decide +kernel
theorem dX6_isAllowed_59 : decode cX6_isAllowed 59 = .ok (.invokevirtual 19, 3) := by decide +kernel
theorem dX6_isAllowed_62 : decode cX6_isAllowed 62 = .ok (.bipush 58, 2) := by decide +kernel
theorem dX6_isAllowed_64 : decode cX6_isAllowed 64 = .ok (.if_icmp .ne 7, 3) := by decide +kernel
theorem dX6_isAllowed_67 : decode cX6_isAllowed 67 = .ok (.iconst 1, 1) := by decide +kernel
theorem dX6_isAllowed_68 : decode cX6_isAllowed 68 = .ok (.goto 4, 3) := by decide +kernel
theorem dX6_isAllowed_71 : decode cX6_isAllowed 71 = .ok (.iconst 0, 1) := by decide +kernel
theorem dX6_isAllowed_72 : decode cX6_isAllowed 72 = .ok (.ireturn, 1) := by decide +kernel
theorem dX6_isAllowed_73 : decode cX6_isAllowed 73 = .ok (.iload_n 1, 1) := by decide +kernel
theorem dX6_isAllowed_74 : decode cX6_isAllowed 74 = .ok (.aload_n 0, 1) := by decide +kernel
theorem dX6_isAllowed_75 : decode cX6_isAllowed 75 = .ok (.invokevirtual 47, 3) := by decide +kernel
theorem dX6_isAllowed_78 : decode cX6_isAllowed 78 = .ok (.if_icmp .ge 16, 3) := by decide +kernel
theorem dX6_isAllowed_81 : decode cX6_isAllowed 81 = .ok (.aload_n 0, 1) := by decide +kernel
theorem dX6_isAllowed_82 : decode cX6_isAllowed 82 = .ok (.iload_n 1, 1) := by decide +kernel
theorem dX6_isAllowed_83 : decode cX6_isAllowed 83 = .ok (.iconst 0, 1) := by decide +kernel
theorem dX6_isAllowed_84 : decode cX6_isAllowed 84 = .ok (.invokevirtual 35, 3) := by decide +kernel
theorem dX6_isAllowed_87 : decode cX6_isAllowed 87 = .ok (.ifCond .eq 7, 3) := by decide +kernel
theorem dX6_isAllowed_90 : decode cX6_isAllowed 90 = .ok (.iconst 1, 1) := by decide +kernel
theorem dX6_isAllowed_91 : decode cX6_isAllowed 91 = .ok (.goto 4, 3) := by decide +kernel
theorem dX6_isAllowed_94 : decode cX6_isAllowed 94 = .ok (.iconst 0, 1) := by decide +kernel
theorem dX6_isAllowed_95 : decode cX6_isAllowed 95 = .ok (.ireturn, 1) := by decide +kernel
theorem dX6_isWhole_0 : decode cX6_isWhole 0 = .ok (.aload_n 0, 1) := by decide +kernel
theorem dX6_isWhole_1 : decode cX6_isWhole 1 = .ok (.getfield 15, 3) := by decide +kernel
theorem dX6_isWhole_4 : decode cX6_isWhole 4 = .ok (.iconst 3, 1) := by decide +kernel
theorem dX6_isWhole_5 : decode cX6_isWhole 5 = .ok (.if_icmp .lt 29, 3) := by decide +kernel
theorem dX6_isWhole_8 : decode cX6_isWhole 8 = .ok (.aload_n 0, 1) := by decide +kernel
theorem dX6_isWhole_9 : decode cX6_isWhole 9 = .ok (.getfield 15, 3) := by decide +kernel
theorem dX6_isWhole_12 : decode cX6_isWhole 12 = .ok (.aload_n 0, 1) := by decide +kernel
theorem dX6_isWhole_13 : decode cX6_isWhole 13 = .ok (.invokevirtual 39, 3) := by decide +kernel
theorem dX6_isWhole_16 : decode cX6_isWhole 16 = .ok (.if_icmp .eq 14, 3) := by decide +kernel
theorem dX6_isWhole_19 : decode cX6_isWhole 19 = .ok (.aload_n 0, 1) := by decide +kernel
theorem dX6_isWhole_20 : decode cX6_isWhole 20 = .ok (.getfield 15, 3) := by decide +kernel
theorem dX6_isWhole_23 : decode cX6_isWhole 23 = .ok (.aload_n 0, 1) := by decide +kernel
theorem dX6_isWhole_24 : decode cX6_isWhole 24 = .ok (.invokevirtual 47, 3) := by decide +kernel
theorem dX6_isWhole_27 : decode cX6_isWhole 27 = .ok (.if_icmp .ne 7, 3) := by decide +kernel
theorem dX6_isWhole_30 : decode cX6_isWhole 30 = .ok (.iconst 1, 1) := by decide +kernel
theorem dX6_isWhole_31 : decode cX6_isWhole 31 = .ok (.goto 4, 3) := by decide +kernel
theorem dX6_isWhole_34 : decode cX6_isWhole 34 = .ok (.iconst 0, 1) := by decide +kernel
theorem dX6_isWhole_35 : decode cX6_isWhole 35 = .ok (.ireturn, 1) := by decide +kernel
theorem dX6_wantsEnd_0 : decode cX6_wantsEnd 0 = .ok (.aload_n 0, 1) := by decide +kernel
theorem dX6_wantsEnd_1 : decode cX6_wantsEnd 1 = .ok (.invokevirtual 39, 3) := by decide +kernel
theorem dX6_wantsEnd_4 : decode cX6_wantsEnd 4 = .ok (.iconst 1, 1) := by decide +kernel
theorem dX6_wantsEnd_5 : decode cX6_wantsEnd 5 = .ok (.iadd, 1) := by decide +kernel
theorem dX6_wantsEnd_6 : decode cX6_wantsEnd 6 = .ok (.aload_n 0, 1) := by decide +kernel
theorem dX6_wantsEnd_7 : decode cX6_wantsEnd 7 = .ok (.iconst 1, 1) := by decide +kernel
theorem dX6_wantsEnd_8 : decode cX6_wantsEnd 8 = .ok (.invokevirtual 23, 3) := by decide +kernel
theorem dX6_wantsEnd_11 : decode cX6_wantsEnd 11 = .ok (.iadd, 1) := by decide +kernel
theorem dX6_wantsEnd_12 : decode cX6_wantsEnd 12 = .ok (.aload_n 0, 1) := by decide +kernel
theorem dX6_wantsEnd_13 : decode cX6_wantsEnd 13 = .ok (.iconst 2, 1) := by decide +kernel
theorem dX6_wantsEnd_14 : decode cX6_wantsEnd 14 = .ok (.invokevirtual 23, 3) := by decide +kernel
theorem dX6_wantsEnd_17 : decode cX6_wantsEnd 17 = .ok (.iadd, 1) := by decide +kernel
theorem dX6_wantsEnd_18 : decode cX6_wantsEnd 18 = .ok (.ireturn, 1) := by decide +kernel
theorem dX6_isDigit_0 : decode cX6_isDigit 0 = .ok (.aload_n 0, 1) := by decide +kernel
theorem dX6_isDigit_1 : decode cX6_isDigit 1 = .ok (.iload_n 1, 1) := by decide +kernel
theorem dX6_isDigit_2 : decode cX6_isDigit 2 = .ok (.invokevirtual 23, 3) := by decide +kernel
theorem dX6_isDigit_5 : decode cX6_isDigit 5 = .ok (.iload_n 2, 1) := by decide +kernel
theorem dX6_isDigit_6 : decode cX6_isDigit 6 = .ok (.if_icmp .lt 17, 3) := by decide +kernel
theorem dX6_isDigit_9 : decode cX6_isDigit 9 = .ok (.aload_n 0, 1) := by decide +kernel
theorem dX6_isDigit_10 : decode cX6_isDigit 10 = .ok (.iload_n 1, 1) := by decide +kernel
theorem dX6_isDigit_11 : decode cX6_isDigit 11 = .ok (.invokevirtual 23, 3) := by decide +kernel
theorem dX6_isDigit_14 : decode cX6_isDigit 14 = .ok (.bipush 6, 2) := by decide +kernel
theorem dX6_isDigit_16 : decode cX6_isDigit 16 = .ok (.if_icmp .gt 7, 3) := by decide +kernel
theorem dX6_isDigit_19 : decode cX6_isDigit 19 = .ok (.iconst 1, 1) := by decide +kernel
theorem dX6_isDigit_20 : decode cX6_isDigit 20 = .ok (.goto 4, 3) := by decide +kernel
theorem dX6_isDigit_23 : decode cX6_isDigit 23 = .ok (.iconst 0, 1) := by decide +kernel
theorem dX6_isDigit_24 : decode cX6_isDigit 24 = .ok (.ireturn, 1) := by decide +kernel
theorem dX6_isCellSign_0 : decode cX6_isCellSign 0 = .ok (.iload_n 0, 1) := by decide +kernel
theorem dX6_isCellSign_1 : decode cX6_isCellSign 1 = .ok (.bipush 46, 2) := by decide +kernel
theorem dX6_isCellSign_3 : decode cX6_isCellSign 3 = .ok (.if_icmp .eq 21, 3) := by decide +kernel
theorem dX6_isCellSign_6 : decode cX6_isCellSign 6 = .ok (.iload_n 0, 1) := by decide +kernel
theorem dX6_isCellSign_7 : decode cX6_isCellSign 7 = .ok (.bipush 35, 2) := by decide +kernel
theorem dX6_isCellSign_9 : decode cX6_isCellSign 9 = .ok (.if_icmp .eq 15, 3) := by decide +kernel
theorem dX6_isCellSign_12 : decode cX6_isCellSign 12 = .ok (.iload_n 0, 1) := by decide +kernel
theorem dX6_isCellSign_13 : decode cX6_isCellSign 13 = .ok (.bipush 44, 2) := by decide +kernel
theorem dX6_isCellSign_15 : decode cX6_isCellSign 15 = .ok (.if_icmp .eq 9, 3) := by decide +kernel
theorem dX6_isCellSign_18 : decode cX6_isCellSign 18 = .ok (.iload_n 0, 1) := by decide +kernel
theorem dX6_isCellSign_19 : decode cX6_isCellSign 19 = .ok (.bipush 37, 2) := by decide +kernel
theorem dX6_isCellSign_21 : decode cX6_isCellSign 21 = .ok (.if_icmp .ne 7, 3) := by decide +kernel
theorem dX6_isCellSign_24 : decode cX6_isCellSign 24 = .ok (.iconst 1, 1) := by decide +kernel
theorem dX6_isCellSign_25 : decode cX6_isCellSign 25 = .ok (.goto 4, 3) := by decide +kernel
theorem dX6_isCellSign_28 : decode cX6_isCellSign 28 = .ok (.iconst 0, 1) := by decide +kernel
theorem dX6_isCellSign_29 : decode cX6_isCellSign 29 = .ok (.ireturn, 1) := by decide +kernel
theorem dX6_drawInto_0 : decode cX6_drawInto 0 = .ok (.aload_n 1, 1) := by decide +kernel
theorem dX6_drawInto_1 : decode cX6_drawInto 1 = .ok (.aload_n 0, 1) := by decide +kernel
theorem dX6_drawInto_2 : decode cX6_drawInto 2 = .ok (.iconst 1, 1) := by decide +kernel
theorem dX6_drawInto_3 : decode cX6_drawInto 3 = .ok (.invokevirtual 23, 3) := by decide +kernel
theorem dX6_drawInto_6 : decode cX6_drawInto 6 = .ok (.aload_n 0, 1) := by decide +kernel
theorem dX6_drawInto_7 : decode cX6_drawInto 7 = .ok (.iconst 2, 1) := by decide +kernel
theorem dX6_drawInto_8 : decode cX6_drawInto 8 = .ok (.invokevirtual 23, 3) := by decide +kernel
theorem dX6_drawInto_11 : decode cX6_drawInto 11 = .ok (.invokevirtual 50, 3) := by decide +kernel
theorem dX6_drawInto_14 : decode cX6_drawInto 14 = .ok (.iconst 0, 1) := by decide +kernel
theorem dX6_drawInto_15 : decode cX6_drawInto 15 = .ok (.istore_n 2, 1) := by decide +kernel
theorem dX6_drawInto_16 : decode cX6_drawInto 16 = .ok (.iload_n 2, 1) := by decide +kernel
theorem dX6_drawInto_17 : decode cX6_drawInto 17 = .ok (.aload_n 1, 1) := by decide +kernel
theorem dX6_drawInto_18 : decode cX6_drawInto 18 = .ok (.getfield 56, 3) := by decide +kernel
theorem dX6_drawInto_21 : decode cX6_drawInto 21 = .ok (.if_icmp .ge 93, 3) := by decide +kernel
theorem dX6_drawInto_24 : decode cX6_drawInto 24 = .ok (.iconst 0, 1) := by decide +kernel
theorem dX6_drawInto_25 : decode cX6_drawInto 25 = .ok (.istore_n 3, 1) := by decide +kernel
theorem dX6_drawInto_26 : decode cX6_drawInto 26 = .ok (.iload_n 3, 1) := by decide +kernel
theorem dX6_drawInto_27 : decode cX6_drawInto 27 = .ok (.aload_n 1, 1) := by decide +kernel
theorem dX6_drawInto_28 : decode cX6_drawInto 28 = .ok (.getfield 59, 3) := by decide +kernel
theorem dX6_drawInto_31 : decode cX6_drawInto 31 = .ok (.if_icmp .ge 77, 3) := by decide +kernel
theorem dX6_drawInto_34 : decode cX6_drawInto 34 = .ok (.aload_n 0, 1) := by decide +kernel
theorem dX6_drawInto_35 : decode cX6_drawInto 35 = .ok (.iconst 3, 1) := by decide +kernel
theorem dX6_drawInto_36 : decode cX6_drawInto 36 = .ok (.iload_n 2, 1) := by decide +kernel
theorem dX6_drawInto_37 : decode cX6_drawInto 37 = .ok (.aload_n 1, 1) := by decide +kernel
theorem dX6_drawInto_38 : decode cX6_drawInto 38 = .ok (.getfield 59, 3) := by decide +kernel
theorem dX6_drawInto_41 : decode cX6_drawInto 41 = .ok (.imul, 1) := by decide +kernel
theorem dX6_drawInto_42 : decode cX6_drawInto 42 = .ok (.iadd, 1) := by decide +kernel
theorem dX6_drawInto_43 : decode cX6_drawInto 43 = .ok (.iload_n 3, 1) := by decide +kernel
theorem dX6_drawInto_44 : decode cX6_drawInto 44 = .ok (.iadd, 1) := by decide +kernel
theorem dX6_drawInto_45 : decode cX6_drawInto 45 = .ok (.invokevirtual 19, 3) := by decide +kernel
theorem dX6_drawInto_48 : decode cX6_drawInto 48 = .ok (.istore 4, 2) := by decide +kernel
theorem dX6_drawInto_50 : decode cX6_drawInto 50 = .ok (.aload_n 1, 1) := by decide +kernel
theorem dX6_drawInto_51 : decode cX6_drawInto 51 = .ok (.iload_n 2, 1) := by decide +kernel
theorem dX6_drawInto_52 : decode cX6_drawInto 52 = .ok (.iload_n 3, 1) := by decide +kernel
theorem dX6_drawInto_53 : decode cX6_drawInto 53 = .ok (.iload 4, 2) := by decide +kernel
theorem dX6_drawInto_55 : decode cX6_drawInto 55 = .ok (.bipush 35, 2) := by decide +kernel
theorem dX6_drawInto_57 : decode cX6_drawInto 57 = .ok (.if_icmp .eq 10, 3) := by decide +kernel
theorem dX6_drawInto_60 : decode cX6_drawInto 60 = .ok (.iload 4, 2) := by decide +kernel
theorem dX6_drawInto_62 : decode cX6_drawInto 62 = .ok (.bipush 37, 2) := by decide +kernel
theorem dX6_drawInto_64 : decode cX6_drawInto 64 = .ok (.if_icmp .ne 7, 3) := by decide +kernel
theorem dX6_drawInto_67 : decode cX6_drawInto 67 = .ok (.iconst 1, 1) := by decide +kernel
theorem dX6_drawInto_68 : decode cX6_drawInto 68 = .ok (.goto 4, 3) := by decide +kernel
theorem dX6_drawInto_71 : decode cX6_drawInto 71 = .ok (.iconst 0, 1) := by decide +kernel
theorem dX6_drawInto_72 : decode cX6_drawInto 72 = .ok (.invokevirtual 62, 3) := by decide +kernel
theorem dX6_drawInto_75 : decode cX6_drawInto 75 = .ok (.pop, 1) := by decide +kernel
theorem dX6_drawInto_76 : decode cX6_drawInto 76 = .ok (.aload_n 1, 1) := by decide +kernel
theorem dX6_drawInto_77 : decode cX6_drawInto 77 = .ok (.iload_n 2, 1) := by decide +kernel
theorem dX6_drawInto_78 : decode cX6_drawInto 78 = .ok (.iload_n 3, 1) := by decide +kernel
theorem dX6_drawInto_79 : decode cX6_drawInto 79 = .ok (.iload 4, 2) := by decide +kernel
theorem dX6_drawInto_81 : decode cX6_drawInto 81 = .ok (.bipush 44, 2) := by decide +kernel
theorem dX6_drawInto_83 : decode cX6_drawInto 83 = .ok (.if_icmp .eq 10, 3) := by decide +kernel
theorem dX6_drawInto_86 : decode cX6_drawInto 86 = .ok (.iload 4, 2) := by decide +kernel
theorem dX6_drawInto_88 : decode cX6_drawInto 88 = .ok (.bipush 37, 2) := by decide +kernel
theorem dX6_drawInto_90 : decode cX6_drawInto 90 = .ok (.if_icmp .ne 7, 3) := by decide +kernel
theorem dX6_drawInto_93 : decode cX6_drawInto 93 = .ok (.iconst 1, 1) := by decide +kernel
theorem dX6_drawInto_94 : decode cX6_drawInto 94 = .ok (.goto 4, 3) := by decide +kernel
theorem dX6_drawInto_97 : decode cX6_drawInto 97 = .ok (.iconst 0, 1) := by decide +kernel
theorem dX6_drawInto_98 : decode cX6_drawInto 98 = .ok (.invokevirtual 66, 3) := by decide +kernel
theorem dX6_drawInto_101 : decode cX6_drawInto 101 = .ok (.pop, 1) := by decide +kernel
theorem dX6_drawInto_102 : decode cX6_drawInto 102 = .ok (.iinc 3 1, 3) := by decide +kernel
theorem dX6_drawInto_105 : decode cX6_drawInto 105 = .ok (.goto (-79), 3) := by decide +kernel
theorem dX6_drawInto_108 : decode cX6_drawInto 108 = .ok (.iinc 2 1, 3) := by decide +kernel
