theorem dX8_spreads_72 : decode cX8_spreads 72 = .ok (.iload_n 1, 1) := by decide +kernel
theorem dX8_spreads_73 : decode cX8_spreads 73 = .ok (.if_icmp .eq 45, 3) := by decide +kernel
theorem dX8_spreads_76 : decode cX8_spreads 76 = .ok (.aload_n 0, 1) := by decide +kernel
theorem dX8_spreads_77 : decode cX8_spreads 77 = .ok (.iload 4, 2) := by decide +kernel
theorem dX8_spreads_79 : decode cX8_spreads 79 = .ok (.iconst 1, 1) := by decide +kernel
theorem dX8_spreads_80 : decode cX8_spreads 80 = .ok (.iadd, 1) := by decide +kernel
theorem dX8_spreads_81 : decode cX8_spreads 81 = .ok (.iload 5, 2) := by decide +kernel
theorem dX8_spreads_83 : decode cX8_spreads 83 = .ok (.invokevirtual 133, 3) := by decide +kernel
theorem dX8_spreads_86 : decode cX8_spreads 86 = .ok (.iload_n 1, 1) := by decide +kernel
theorem dX8_spreads_87 : decode cX8_spreads 87 = .ok (.if_icmp .eq 31, 3) := by decide +kernel
theorem dX8_spreads_90 : decode cX8_spreads 90 = .ok (.aload_n 0, 1) := by decide +kernel
theorem dX8_spreads_91 : decode cX8_spreads 91 = .ok (.iload 4, 2) := by decide +kernel
theorem dX8_spreads_93 : decode cX8_spreads 93 = .ok (.iload 5, 2) := by decide +kernel
theorem dX8_spreads_95 : decode cX8_spreads 95 = .ok (.iconst 1, 1) := by decide +kernel
theorem dX8_spreads_96 : decode cX8_spreads 96 = .ok (.isub, 1) := by decide +kernel
theorem dX8_spreads_97 : decode cX8_spreads 97 = .ok (.invokevirtual 133, 3) := by decide +kernel
theorem dX8_spreads_100 : decode cX8_spreads 100 = .ok (.iload_n 1, 1) := by decide +kernel
theorem dX8_spreads_101 : decode cX8_spreads 101 = .ok (.if_icmp .eq 17, 3) := by decide +kernel
theorem dX8_spreads_104 : decode cX8_spreads 104 = .ok (.aload_n 0, 1) := by decide +kernel
theorem dX8_spreads_105 : decode cX8_spreads 105 = .ok (.iload 4, 2) := by decide +kernel
theorem dX8_spreads_107 : decode cX8_spreads 107 = .ok (.iload 5, 2) := by decide +kernel
theorem dX8_spreads_109 : decode cX8_spreads 109 = .ok (.iconst 1, 1) := by decide +kernel
theorem dX8_spreads_110 : decode cX8_spreads 110 = .ok (.iadd, 1) := by decide +kernel
theorem dX8_spreads_111 : decode cX8_spreads 111 = .ok (.invokevirtual 133, 3) := by decide +kernel
theorem dX8_spreads_114 : decode cX8_spreads 114 = .ok (.iload_n 1, 1) := by decide +kernel
theorem dX8_spreads_115 : decode cX8_spreads 115 = .ok (.if_icmp .ne 7, 3) := by decide +kernel
theorem dX8_spreads_118 : decode cX8_spreads 118 = .ok (.iconst 1, 1) := by decide +kernel
theorem dX8_spreads_119 : decode cX8_spreads 119 = .ok (.goto 4, 3) := by decide +kernel
theorem dX8_spreads_122 : decode cX8_spreads 122 = .ok (.iconst 0, 1) := by decide +kernel
theorem dX8_spreads_123 : decode cX8_spreads 123 = .ok (.istore 7, 2) := by decide +kernel
theorem dX8_spreads_125 : decode cX8_spreads 125 = .ok (.iload 6, 2) := by decide +kernel
theorem dX8_spreads_127 : decode cX8_spreads 127 = .ok (.ifCond .eq 17, 3) := by decide +kernel
theorem dX8_spreads_130 : decode cX8_spreads 130 = .ok (.iload 7, 2) := by decide +kernel
theorem dX8_spreads_132 : decode cX8_spreads 132 = .ok (.ifCond .eq 12, 3) := by decide +kernel
theorem dX8_spreads_135 : decode cX8_spreads 135 = .ok (.aload_n 0, 1) := by decide +kernel
theorem dX8_spreads_136 : decode cX8_spreads 136 = .ok (.getfield 25, 3) := by decide +kernel
theorem dX8_spreads_139 : decode cX8_spreads 139 = .ok (.iload_n 3, 1) := by decide +kernel
theorem dX8_spreads_140 : decode cX8_spreads 140 = .ok (.iload_n 1, 1) := by decide +kernel
theorem dX8_spreads_141 : decode cX8_spreads 141 = .ok (.iastore, 1) := by decide +kernel
theorem dX8_spreads_142 : decode cX8_spreads 142 = .ok (.iconst 1, 1) := by decide +kernel
theorem dX8_spreads_143 : decode cX8_spreads 143 = .ok (.istore_n 2, 1) := by decide +kernel
theorem dX8_spreads_144 : decode cX8_spreads 144 = .ok (.iinc 3 1, 3) := by decide +kernel
theorem dX8_spreads_147 : decode cX8_spreads 147 = .ok (.goto (-143), 3) := by decide +kernel
theorem dX8_spreads_150 : decode cX8_spreads 150 = .ok (.iload_n 2, 1) := by decide +kernel
theorem dX8_spreads_151 : decode cX8_spreads 151 = .ok (.ireturn, 1) := by decide +kernel
theorem dX8_openSide_0 : decode cX8_openSide 0 = .ok (.aload_n 0, 1) := by decide +kernel
theorem dX8_openSide_1 : decode cX8_openSide 1 = .ok (.iload_n 1, 1) := by decide +kernel
theorem dX8_openSide_2 : decode cX8_openSide 2 = .ok (.iload_n 2, 1) := by decide +kernel
theorem dX8_openSide_3 : decode cX8_openSide 3 = .ok (.invokevirtual 127, 3) := by decide +kernel
theorem dX8_openSide_6 : decode cX8_openSide 6 = .ok (.ifCond .eq 16, 3) := by decide +kernel
theorem dX8_openSide_9 : decode cX8_openSide 9 = .ok (.aload_n 0, 1) := by decide +kernel
theorem dX8_openSide_10 : decode cX8_openSide 10 = .ok (.iload_n 1, 1) := by decide +kernel
theorem dX8_openSide_11 : decode cX8_openSide 11 = .ok (.iload_n 2, 1) := by decide +kernel
theorem dX8_openSide_12 : decode cX8_openSide 12 = .ok (.invokevirtual 98, 3) := by decide +kernel
theorem dX8_openSide_15 : decode cX8_openSide 15 = .ok (.ifCond .eq 7, 3) := by decide +kernel
theorem dX8_openSide_18 : decode cX8_openSide 18 = .ok (.iconst 0, 1) := by decide +kernel
theorem dX8_openSide_19 : decode cX8_openSide 19 = .ok (.goto 4, 3) := by decide +kernel
theorem dX8_openSide_22 : decode cX8_openSide 22 = .ok (.iconst 1, 1) := by decide +kernel
theorem dX8_openSide_23 : decode cX8_openSide 23 = .ok (.ireturn, 1) := by decide +kernel
theorem dX8_openSides_0 : decode cX8_openSides 0 = .ok (.aload_n 0, 1) := by decide +kernel
theorem dX8_openSides_1 : decode cX8_openSides 1 = .ok (.iload_n 1, 1) := by decide +kernel
theorem dX8_openSides_2 : decode cX8_openSides 2 = .ok (.iconst 1, 1) := by decide +kernel
theorem dX8_openSides_3 : decode cX8_openSides 3 = .ok (.isub, 1) := by decide +kernel
theorem dX8_openSides_4 : decode cX8_openSides 4 = .ok (.iload_n 2, 1) := by decide +kernel
theorem dX8_openSides_5 : decode cX8_openSides 5 = .ok (.invokevirtual 136, 3) := by decide +kernel
theorem dX8_openSides_8 : decode cX8_openSides 8 = .ok (.aload_n 0, 1) := by decide +kernel
theorem dX8_openSides_9 : decode cX8_openSides 9 = .ok (.iload_n 1, 1) := by decide +kernel
theorem dX8_openSides_10 : decode cX8_openSides 10 = .ok (.iconst 1, 1) := by decide +kernel
theorem dX8_openSides_11 : decode cX8_openSides 11 = .ok (.iadd, 1) := by decide +kernel
theorem dX8_openSides_12 : decode cX8_openSides 12 = .ok (.iload_n 2, 1) := by decide +kernel
theorem dX8_openSides_13 : decode cX8_openSides 13 = .ok (.invokevirtual 136, 3) := by decide +kernel
theorem dX8_openSides_16 : decode cX8_openSides 16 = .ok (.iadd, 1) := by decide +kernel
theorem dX8_openSides_17 : decode cX8_openSides 17 = .ok (.aload_n 0, 1) := by decide +kernel
theorem dX8_openSides_18 : decode cX8_openSides 18 = .ok (.iload_n 1, 1) := by decide +kernel
theorem dX8_openSides_19 : decode cX8_openSides 19 = .ok (.iload_n 2, 1) := by decide +kernel
theorem dX8_openSides_20 : decode cX8_openSides 20 = .ok (.iconst 1, 1) := by decide +kernel
theorem dX8_openSides_21 : decode cX8_openSides 21 = .ok (.isub, 1) := by decide +kernel
theorem dX8_openSides_22 : decode cX8_openSides 22 = .ok (.invokevirtual 136, 3) := by decide +kernel
theorem dX8_openSides_25 : decode cX8_openSides 25 = .ok (.iadd, 1) := by decide +kernel
theorem dX8_openSides_26 : decode cX8_openSides 26 = .ok (.aload_n 0, 1) := by decide +kernel
theorem dX8_openSides_27 : decode cX8_openSides 27 = .ok (.iload_n 1, 1) := by decide +kernel
theorem dX8_openSides_28 : decode cX8_openSides 28 = .ok (.iload_n 2, 1) := by decide +kernel
theorem dX8_openSides_29 : decode cX8_openSides 29 = .ok (.iconst 1, 1) := by decide +kernel
theorem dX8_openSides_30 : decode cX8_openSides 30 = .ok (.iadd, 1) := by decide +kernel
theorem dX8_openSides_31 : decode cX8_openSides 31 = .ok (.invokevirtual 136, 3) := by decide +kernel
theorem dX8_openSides_34 : decode cX8_openSides 34 = .ok (.iadd, 1) := by decide +kernel
theorem dX8_openSides_35 : decode cX8_openSides 35 = .ok (.ireturn, 1) := by decide +kernel
theorem dX8_outline_0 : decode cX8_outline 0 = .ok (.iconst 0, 1) := by decide +kernel
theorem dX8_outline_1 : decode cX8_outline 1 = .ok (.istore_n 1, 1) := by decide +kernel
theorem dX8_outline_2 : decode cX8_outline 2 = .ok (.iconst 0, 1) := by decide +kernel
theorem dX8_outline_3 : decode cX8_outline 3 = .ok (.istore_n 2, 1) := by decide +kernel
theorem dX8_outline_4 : decode cX8_outline 4 = .ok (.iload_n 2, 1) := by decide +kernel
theorem dX8_outline_5 : decode cX8_outline 5 = .ok (.aload_n 0, 1) := by decide +kernel
theorem dX8_outline_6 : decode cX8_outline 6 = .ok (.invokevirtual 76, 3) := by decide +kernel
theorem dX8_outline_9 : decode cX8_outline 9 = .ok (.if_icmp .ge 47, 3) := by decide +kernel
theorem dX8_outline_12 : decode cX8_outline 12 = .ok (.iconst 0, 1) := by decide +kernel
theorem dX8_outline_13 : decode cX8_outline 13 = .ok (.istore_n 3, 1) := by decide +kernel
theorem dX8_outline_14 : decode cX8_outline 14 = .ok (.iload_n 3, 1) := by decide +kernel
theorem dX8_outline_15 : decode cX8_outline 15 = .ok (.aload_n 0, 1) := by decide +kernel
theorem dX8_outline_16 : decode cX8_outline 16 = .ok (.invokevirtual 84, 3) := by decide +kernel
theorem dX8_outline_19 : decode cX8_outline 19 = .ok (.if_icmp .ge 31, 3) := by decide +kernel
theorem dX8_outline_22 : decode cX8_outline 22 = .ok (.iload_n 1, 1) := by decide +kernel
theorem dX8_outline_23 : decode cX8_outline 23 = .ok (.aload_n 0, 1) := by decide +kernel
theorem dX8_outline_24 : decode cX8_outline 24 = .ok (.iload_n 2, 1) := by decide +kernel
theorem dX8_outline_25 : decode cX8_outline 25 = .ok (.iload_n 3, 1) := by decide +kernel
theorem dX8_outline_26 : decode cX8_outline 26 = .ok (.invokevirtual 98, 3) := by decide +kernel
theorem dX8_outline_29 : decode cX8_outline 29 = .ok (.ifCond .eq 12, 3) := by decide +kernel
theorem dX8_outline_32 : decode cX8_outline 32 = .ok (.aload_n 0, 1) := by decide +kernel
theorem dX8_outline_33 : decode cX8_outline 33 = .ok (.iload_n 2, 1) := by decide +kernel
theorem dX8_outline_34 : decode cX8_outline 34 = .ok (.iload_n 3, 1) := by decide +kernel
theorem dX8_outline_35 : decode cX8_outline 35 = .ok (.invokevirtual 139, 3) := by decide +kernel
theorem dX8_outline_38 : decode cX8_outline 38 = .ok (.goto 4, 3) := by decide +kernel
theorem dX8_outline_41 : decode cX8_outline 41 = .ok (.iconst 0, 1) := by decide +kernel
theorem dX8_outline_42 : decode cX8_outline 42 = .ok (.iadd, 1) := by decide +kernel
theorem dX8_outline_43 : decode cX8_outline 43 = .ok (.istore_n 1, 1) := by decide +kernel
theorem dX8_outline_44 : decode cX8_outline 44 = .ok (.iinc 3 1, 3) := by decide +kernel
theorem dX8_outline_47 : decode cX8_outline 47 = .ok (.goto (-33), 3) := by decide +kernel
theorem dX8_outline_50 : decode cX8_outline 50 = .ok (.iinc 2 1, 3) := by decide +kernel
theorem dX8_outline_53 : decode cX8_outline 53 = .ok (.goto (-49), 3) := by decide +kernel
theorem dX8_outline_56 : decode cX8_outline 56 = .ok (.iload_n 1, 1) := by decide +kernel
theorem dX8_outline_57 : decode cX8_outline 57 = .ok (.ireturn, 1) := by decide +kernel
theorem dX8_fillsHull_0 : decode cX8_fillsHull 0 = .ok (.bipush (-9), 2) := by decide +kernel
theorem dX8_fillsHull_2 : decode cX8_fillsHull 2 = .ok (.istore_n 2, 1) := by decide +kernel
theorem dX8_fillsHull_3 : decode cX8_fillsHull 3 = .ok (.bipush (-9), 2) := by decide +kernel
theorem dX8_fillsHull_5 : decode cX8_fillsHull 5 = .ok (.istore_n 3, 1) := by decide +kernel
theorem dX8_fillsHull_6 : decode cX8_fillsHull 6 = .ok (.iconst 0, 1) := by decide +kernel
theorem dX8_fillsHull_7 : decode cX8_fillsHull 7 = .ok (.istore 4, 2) := by decide +kernel
theorem dX8_fillsHull_9 : decode cX8_fillsHull 9 = .ok (.iload 4, 2) := by decide +kernel
theorem dX8_fillsHull_11 : decode cX8_fillsHull 11 = .ok (.aload_n 0, 1) := by decide +kernel
theorem dX8_fillsHull_12 : decode cX8_fillsHull 12 = .ok (.iload_n 1, 1) := by decide +kernel
theorem dX8_fillsHull_13 : decode cX8_fillsHull 13 = .ok (.invokevirtual 87, 3) := by decide +kernel
theorem dX8_fillsHull_16 : decode cX8_fillsHull 16 = .ok (.if_icmp .ge 64, 3) := by decide +kernel
theorem dX8_fillsHull_19 : decode cX8_fillsHull 19 = .ok (.aload_n 0, 1) := by decide +kernel
theorem dX8_fillsHull_20 : decode cX8_fillsHull 20 = .ok (.getfield 28, 3) := by decide +kernel
theorem dX8_fillsHull_23 : decode cX8_fillsHull 23 = .ok (.bipush 6, 2) := by decide +kernel
theorem dX8_fillsHull_25 : decode cX8_fillsHull 25 = .ok (.aload_n 0, 1) := by decide +kernel
theorem dX8_fillsHull_26 : decode cX8_fillsHull 26 = .ok (.iload_n 1, 1) := by decide +kernel
theorem dX8_fillsHull_27 : decode cX8_fillsHull 27 = .ok (.iload 4, 2) := by decide +kernel
theorem dX8_fillsHull_29 : decode cX8_fillsHull 29 = .ok (.invokevirtual 91, 3) := by decide +kernel
theorem dX8_fillsHull_32 : decode cX8_fillsHull 32 = .ok (.imul, 1) := by decide +kernel
theorem dX8_fillsHull_33 : decode cX8_fillsHull 33 = .ok (.aload_n 0, 1) := by decide +kernel
theorem dX8_fillsHull_34 : decode cX8_fillsHull 34 = .ok (.iload_n 1, 1) := by decide +kernel
theorem dX8_fillsHull_35 : decode cX8_fillsHull 35 = .ok (.iload 4, 2) := by decide +kernel
theorem dX8_fillsHull_37 : decode cX8_fillsHull 37 = .ok (.invokevirtual 95, 3) := by decide +kernel
theorem dX8_fillsHull_40 : decode cX8_fillsHull 40 = .ok (.iadd, 1) := by decide +kernel
theorem dX8_fillsHull_41 : decode cX8_fillsHull 41 = .ok (.baload, 1) := by decide +kernel
theorem dX8_fillsHull_42 : decode cX8_fillsHull 42 = .ok (.istore 5, 2) := by decide +kernel
theorem dX8_fillsHull_44 : decode cX8_fillsHull 44 = .ok (.iload 5, 2) := by decide +kernel
theorem dX8_fillsHull_46 : decode cX8_fillsHull 46 = .ok (.ifCond .eq 14, 3) := by decide +kernel
theorem dX8_fillsHull_49 : decode cX8_fillsHull 49 = .ok (.iload_n 2, 1) := by decide +kernel
theorem dX8_fillsHull_50 : decode cX8_fillsHull 50 = .ok (.bipush (-9), 2) := by decide +kernel
theorem dX8_fillsHull_52 : decode cX8_fillsHull 52 = .ok (.if_icmp .ne 8, 3) := by decide +kernel
theorem dX8_fillsHull_55 : decode cX8_fillsHull 55 = .ok (.iload 4, 2) := by decide +kernel
theorem dX8_fillsHull_57 : decode cX8_fillsHull 57 = .ok (.goto 4, 3) := by decide +kernel
theorem dX8_fillsHull_60 : decode cX8_fillsHull 60 = .ok (.iload_n 2, 1) := by decide +kernel
theorem dX8_fillsHull_61 : decode cX8_fillsHull 61 = .ok (.istore_n 2, 1) := by decide +kernel
theorem dX8_fillsHull_62 : decode cX8_fillsHull 62 = .ok (.iload 5, 2) := by decide +kernel
theorem dX8_fillsHull_64 : decode cX8_fillsHull 64 = .ok (.ifCond .eq 8, 3) := by decide +kernel
theorem dX8_fillsHull_67 : decode cX8_fillsHull 67 = .ok (.iload 4, 2) := by decide +kernel
theorem dX8_fillsHull_69 : decode cX8_fillsHull 69 = .ok (.goto 4, 3) := by decide +kernel
theorem dX8_fillsHull_72 : decode cX8_fillsHull 72 = .ok (.iload_n 3, 1) := by decide +kernel
theorem dX8_fillsHull_73 : decode cX8_fillsHull 73 = .ok (.istore_n 3, 1) := by decide +kernel
theorem dX8_fillsHull_74 : decode cX8_fillsHull 74 = .ok (.iinc 4 1, 3) := by decide +kernel
theorem dX8_fillsHull_77 : decode cX8_fillsHull 77 = .ok (.goto (-68), 3) := by decide +kernel
theorem dX8_fillsHull_80 : decode cX8_fillsHull 80 = .ok (.iconst 0, 1) := by decide +kernel
theorem dX8_fillsHull_81 : decode cX8_fillsHull 81 = .ok (.istore 4, 2) := by decide +kernel
theorem dX8_fillsHull_83 : decode cX8_fillsHull 83 = .ok (.iload_n 2, 1) := by decide +kernel
theorem dX8_fillsHull_84 : decode cX8_fillsHull 84 = .ok (.istore 5, 2) := by decide +kernel
theorem dX8_fillsHull_86 : decode cX8_fillsHull 86 = .ok (.iload_n 2, 1) := by decide +kernel
theorem dX8_fillsHull_87 : decode cX8_fillsHull 87 = .ok (.bipush (-9), 2) := by decide +kernel
theorem dX8_fillsHull_89 : decode cX8_fillsHull 89 = .ok (.if_icmp .eq 65, 3) := by decide +kernel
theorem dX8_fillsHull_92 : decode cX8_fillsHull 92 = .ok (.iload 5, 2) := by decide +kernel
theorem dX8_fillsHull_94 : decode cX8_fillsHull 94 = .ok (.iload_n 3, 1) := by decide +kernel
theorem dX8_fillsHull_95 : decode cX8_fillsHull 95 = .ok (.if_icmp .ge 59, 3) := by decide +kernel
theorem dX8_fillsHull_98 : decode cX8_fillsHull 98 = .ok (.bipush 6, 2) := by decide +kernel
theorem dX8_fillsHull_100 : decode cX8_fillsHull 100 = .ok (.aload_n 0, 1) := by decide +kernel
theorem dX8_fillsHull_101 : decode cX8_fillsHull 101 = .ok (.iload_n 1, 1) := by decide +kernel
theorem dX8_fillsHull_102 : decode cX8_fillsHull 102 = .ok (.iload 5, 2) := by decide +kernel
theorem dX8_fillsHull_104 : decode cX8_fillsHull 104 = .ok (.invokevirtual 91, 3) := by decide +kernel
theorem dX8_fillsHull_107 : decode cX8_fillsHull 107 = .ok (.imul, 1) := by decide +kernel
theorem dX8_fillsHull_108 : decode cX8_fillsHull 108 = .ok (.aload_n 0, 1) := by decide +kernel
theorem dX8_fillsHull_109 : decode cX8_fillsHull 109 = .ok (.iload_n 1, 1) := by decide +kernel
theorem dX8_fillsHull_110 : decode cX8_fillsHull 110 = .ok (.iload 5, 2) := by decide +kernel
theorem dX8_fillsHull_112 : decode cX8_fillsHull 112 = .ok (.invokevirtual 95, 3) := by decide +kernel
theorem dX8_fillsHull_115 : decode cX8_fillsHull 115 = .ok (.iadd, 1) := by decide +kernel
theorem dX8_fillsHull_116 : decode cX8_fillsHull 116 = .ok (.istore 6, 2) := by decide +kernel
theorem dX8_fillsHull_118 : decode cX8_fillsHull 118 = .ok (.iload 4, 2) := by decide +kernel
theorem dX8_fillsHull_120 : decode cX8_fillsHull 120 = .ok (.ifCond .ne 13, 3) := by decide +kernel
theorem dX8_fillsHull_123 : decode cX8_fillsHull 123 = .ok (.aload_n 0, 1) := by decide +kernel
theorem dX8_fillsHull_124 : decode cX8_fillsHull 124 = .ok (.getfield 28, 3) := by decide +kernel
theorem dX8_fillsHull_127 : decode cX8_fillsHull 127 = .ok (.iload 6, 2) := by decide +kernel
theorem dX8_fillsHull_129 : decode cX8_fillsHull 129 = .ok (.baload, 1) := by decide +kernel
theorem dX8_fillsHull_130 : decode cX8_fillsHull 130 = .ok (.ifCond .ne 7, 3) := by decide +kernel
theorem dX8_fillsHull_133 : decode cX8_fillsHull 133 = .ok (.iconst 1, 1) := by decide +kernel
theorem dX8_fillsHull_134 : decode cX8_fillsHull 134 = .ok (.goto 4, 3) := by decide +kernel
theorem dX8_fillsHull_137 : decode cX8_fillsHull 137 = .ok (.iconst 0, 1) := by decide +kernel
theorem dX8_fillsHull_138 : decode cX8_fillsHull 138 = .ok (.istore 4, 2) := by decide +kernel
theorem dX8_fillsHull_140 : decode cX8_fillsHull 140 = .ok (.aload_n 0, 1) := by decide +kernel
theorem dX8_fillsHull_141 : decode cX8_fillsHull 141 = .ok (.getfield 28, 3) := by decide +kernel
theorem dX8_fillsHull_144 : decode cX8_fillsHull 144 = .ok (.iload 6, 2) := by decide +kernel
theorem dX8_fillsHull_146 : decode cX8_fillsHull 146 = .ok (.iconst 1, 1) := by decide +kernel
theorem dX8_fillsHull_147 : decode cX8_fillsHull 147 = .ok (.bastore, 1) := by decide +kernel
theorem dX8_fillsHull_148 : decode cX8_fillsHull 148 = .ok (.iinc 5 1, 3) := by decide +kernel
theorem dX8_fillsHull_151 : decode cX8_fillsHull 151 = .ok (.goto (-65), 3) := by decide +kernel
theorem dX8_fillsHull_154 : decode cX8_fillsHull 154 = .ok (.iload 4, 2) := by decide +kernel
theorem dX8_fillsHull_156 : decode cX8_fillsHull 156 = .ok (.ireturn, 1) := by decide +kernel
theorem dX8_laysHull_0 : decode cX8_laysHull 0 = .ok (.iconst 0, 1) := by decide +kernel
theorem dX8_laysHull_1 : decode cX8_laysHull 1 = .ok (.istore_n 1, 1) := by decide +kernel
theorem dX8_laysHull_2 : decode cX8_laysHull 2 = .ok (.iload_n 1, 1) := by decide +kernel
theorem dX8_laysHull_3 : decode cX8_laysHull 3 = .ok (.bipush 36, 2) := by decide +kernel
theorem dX8_laysHull_5 : decode cX8_laysHull 5 = .ok (.if_icmp .ge 50, 3) := by decide +kernel
theorem dX8_laysHull_8 : decode cX8_laysHull 8 = .ok (.aload_n 0, 1) := by decide +kernel
theorem dX8_laysHull_9 : decode cX8_laysHull 9 = .ok (.getfield 28, 3) := by decide +kernel
theorem dX8_laysHull_12 : decode cX8_laysHull 12 = .ok (.iload_n 1, 1) := by decide +kernel
theorem dX8_laysHull_13 : decode cX8_laysHull 13 = .ok (.aload_n 0, 1) := by decide +kernel
theorem dX8_laysHull_14 : decode cX8_laysHull 14 = .ok (.iload_n 1, 1) := by decide +kernel
theorem dX8_laysHull_15 : decode cX8_laysHull 15 = .ok (.bipush 6, 2) := by decide +kernel
theorem dX8_laysHull_17 : decode cX8_laysHull 17 = .ok (.idiv, 1) := by decide +kernel
theorem dX8_laysHull_18 : decode cX8_laysHull 18 = .ok (.iload_n 1, 1) := by decide +kernel
theorem dX8_laysHull_19 : decode cX8_laysHull 19 = .ok (.bipush 6, 2) := by decide +kernel
theorem dX8_laysHull_21 : decode cX8_laysHull 21 = .ok (.irem, 1) := by decide +kernel
theorem dX8_laysHull_22 : decode cX8_laysHull 22 = .ok (.invokevirtual 127, 3) := by decide +kernel
theorem dX8_laysHull_25 : decode cX8_laysHull 25 = .ok (.ifCond .eq 22, 3) := by decide +kernel
theorem dX8_laysHull_28 : decode cX8_laysHull 28 = .ok (.aload_n 0, 1) := by decide +kernel
theorem dX8_laysHull_29 : decode cX8_laysHull 29 = .ok (.iload_n 1, 1) := by decide +kernel
theorem dX8_laysHull_30 : decode cX8_laysHull 30 = .ok (.bipush 6, 2) := by decide +kernel
theorem dX8_laysHull_32 : decode cX8_laysHull 32 = .ok (.idiv, 1) := by decide +kernel
theorem dX8_laysHull_33 : decode cX8_laysHull 33 = .ok (.iload_n 1, 1) := by decide +kernel
theorem dX8_laysHull_34 : decode cX8_laysHull 34 = .ok (.bipush 6, 2) := by decide +kernel
theorem dX8_laysHull_36 : decode cX8_laysHull 36 = .ok (.irem, 1) := by decide +kernel
theorem dX8_laysHull_37 : decode cX8_laysHull 37 = .ok (.invokevirtual 98, 3) := by decide +kernel
theorem dX8_laysHull_40 : decode cX8_laysHull 40 = .ok (.ifCond .eq 7, 3) := by decide +kernel
theorem dX8_laysHull_43 : decode cX8_laysHull 43 = .ok (.iconst 1, 1) := by decide +kernel
theorem dX8_laysHull_44 : decode cX8_laysHull 44 = .ok (.goto 4, 3) := by decide +kernel
theorem dX8_laysHull_47 : decode cX8_laysHull 47 = .ok (.iconst 0, 1) := by decide +kernel
theorem dX8_laysHull_48 : decode cX8_laysHull 48 = .ok (.bastore, 1) := by decide +kernel
theorem dX8_laysHull_49 : decode cX8_laysHull 49 = .ok (.iinc 1 1, 3) := by decide +kernel
theorem dX8_laysHull_52 : decode cX8_laysHull 52 = .ok (.goto (-50), 3) := by decide +kernel
theorem dX8_laysHull_55 : decode cX8_laysHull 55 = .ok (.iconst 1, 1) := by decide +kernel
theorem dX8_laysHull_56 : decode cX8_laysHull 56 = .ok (.istore_n 1, 1) := by decide +kernel
theorem dX8_laysHull_57 : decode cX8_laysHull 57 = .ok (.iload_n 1, 1) := by decide +kernel
theorem dX8_laysHull_58 : decode cX8_laysHull 58 = .ok (.ifCond .eq 49, 3) := by decide +kernel
theorem dX8_laysHull_61 : decode cX8_laysHull 61 = .ok (.iconst 0, 1) := by decide +kernel
theorem dX8_laysHull_62 : decode cX8_laysHull 62 = .ok (.istore_n 1, 1) := by decide +kernel
theorem dX8_laysHull_63 : decode cX8_laysHull 63 = .ok (.iconst 0, 1) := by decide +kernel
theorem dX8_laysHull_64 : decode cX8_laysHull 64 = .ok (.istore_n 2, 1) := by decide +kernel
theorem dX8_laysHull_65 : decode cX8_laysHull 65 = .ok (.iload_n 2, 1) := by decide +kernel
theorem dX8_laysHull_66 : decode cX8_laysHull 66 = .ok (.aload_n 0, 1) := by decide +kernel
theorem dX8_laysHull_67 : decode cX8_laysHull 67 = .ok (.invokevirtual 76, 3) := by decide +kernel
theorem dX8_laysHull_70 : decode cX8_laysHull 70 = .ok (.aload_n 0, 1) := by decide +kernel
theorem dX8_laysHull_71 : decode cX8_laysHull 71 = .ok (.invokevirtual 84, 3) := by decide +kernel
theorem dX8_laysHull_74 : decode cX8_laysHull 74 = .ok (.iadd, 1) := by decide +kernel
theorem dX8_laysHull_75 : decode cX8_laysHull 75 = .ok (.if_icmp .ge 29, 3) := by decide +kernel
theorem dX8_laysHull_78 : decode cX8_laysHull 78 = .ok (.aload_n 0, 1) := by decide +kernel
theorem dX8_laysHull_79 : decode cX8_laysHull 79 = .ok (.iload_n 2, 1) := by decide +kernel
theorem dX8_laysHull_80 : decode cX8_laysHull 80 = .ok (.invokevirtual 142, 3) := by decide +kernel
theorem dX8_laysHull_83 : decode cX8_laysHull 83 = .ok (.istore_n 3, 1) := by decide +kernel
theorem dX8_laysHull_84 : decode cX8_laysHull 84 = .ok (.iload_n 1, 1) := by decide +kernel
theorem dX8_laysHull_85 : decode cX8_laysHull 85 = .ok (.ifCond .ne 7, 3) := by decide +kernel
theorem dX8_laysHull_88 : decode cX8_laysHull 88 = .ok (.iload_n 3, 1) := by decide +kernel
theorem dX8_laysHull_89 : decode cX8_laysHull 89 = .ok (.ifCond .eq 7, 3) := by decide +kernel
theorem dX8_laysHull_92 : decode cX8_laysHull 92 = .ok (.iconst 1, 1) := by decide +kernel
theorem dX8_laysHull_93 : decode cX8_laysHull 93 = .ok (.goto 4, 3) := by decide +kernel
theorem dX8_laysHull_96 : decode cX8_laysHull 96 = .ok (.iconst 0, 1) := by decide +kernel
theorem dX8_laysHull_97 : decode cX8_laysHull 97 = .ok (.istore_n 1, 1) := by decide +kernel
theorem dX8_laysHull_98 : decode cX8_laysHull 98 = .ok (.iinc 2 1, 3) := by decide +kernel
theorem dX8_laysHull_101 : decode cX8_laysHull 101 = .ok (.goto (-36), 3) := by decide +kernel
theorem dX8_laysHull_104 : decode cX8_laysHull 104 = .ok (.goto (-47), 3) := by decide +kernel
theorem dX8_laysHull_107 : decode cX8_laysHull 107 = .ok (.iconst 0, 1) := by decide +kernel
theorem dX8_laysHull_108 : decode cX8_laysHull 108 = .ok (.istore_n 2, 1) := by decide +kernel
theorem dX8_laysHull_109 : decode cX8_laysHull 109 = .ok (.iconst 0, 1) := by decide +kernel
theorem dX8_laysHull_110 : decode cX8_laysHull 110 = .ok (.istore_n 3, 1) := by decide +kernel
theorem dX8_laysHull_111 : decode cX8_laysHull 111 = .ok (.iload_n 3, 1) := by decide +kernel
theorem dX8_laysHull_112 : decode cX8_laysHull 112 = .ok (.bipush 36, 2) := by decide +kernel
theorem dX8_laysHull_114 : decode cX8_laysHull 114 = .ok (.if_icmp .ge 26, 3) := by decide +kernel
theorem dX8_laysHull_117 : decode cX8_laysHull 117 = .ok (.iload_n 2, 1) := by decide +kernel
theorem dX8_laysHull_118 : decode cX8_laysHull 118 = .ok (.aload_n 0, 1) := by decide +kernel
theorem dX8_laysHull_119 : decode cX8_laysHull 119 = .ok (.getfield 28, 3) := by decide +kernel
theorem dX8_laysHull_122 : decode cX8_laysHull 122 = .ok (.iload_n 3, 1) := by decide +kernel
theorem dX8_laysHull_123 : decode cX8_laysHull 123 = .ok (.baload, 1) := by decide +kernel
theorem dX8_laysHull_124 : decode cX8_laysHull 124 = .ok (.ifCond .eq 7, 3) := by decide +kernel
theorem dX8_laysHull_127 : decode cX8_laysHull 127 = .ok (.iconst 1, 1) := by decide +kernel
theorem dX8_laysHull_128 : decode cX8_laysHull 128 = .ok (.goto 4, 3) := by decide +kernel
theorem dX8_laysHull_131 : decode cX8_laysHull 131 = .ok (.iconst 0, 1) := by decide +kernel
theorem dX8_laysHull_132 : decode cX8_laysHull 132 = .ok (.iadd, 1) := by decide +kernel
theorem dX8_laysHull_133 : decode cX8_laysHull 133 = .ok (.istore_n 2, 1) := by decide +kernel
theorem dX8_laysHull_134 : decode cX8_laysHull 134 = .ok (.iinc 3 1, 3) := by decide +kernel
theorem dX8_laysHull_137 : decode cX8_laysHull 137 = .ok (.goto (-26), 3) := by decide +kernel
theorem dX8_laysHull_140 : decode cX8_laysHull 140 = .ok (.iload_n 2, 1) := by decide +kernel
theorem dX8_laysHull_141 : decode cX8_laysHull 141 = .ok (.ireturn, 1) := by decide +kernel
theorem dX8_isOfFour_0 : decode cX8_isOfFour 0 = .ok (.aload_n 0, 1) := by decide +kernel
theorem dX8_isOfFour_1 : decode cX8_isOfFour 1 = .ok (.iload_n 1, 1) := by decide +kernel
theorem dX8_isOfFour_2 : decode cX8_isOfFour 2 = .ok (.iload_n 3, 1) := by decide +kernel
theorem dX8_isOfFour_3 : decode cX8_isOfFour 3 = .ok (.invokevirtual 145, 3) := by decide +kernel
theorem dX8_isOfFour_6 : decode cX8_isOfFour 6 = .ok (.ifCond .ne 32, 3) := by decide +kernel
theorem dX8_isOfFour_9 : decode cX8_isOfFour 9 = .ok (.aload_n 0, 1) := by decide +kernel
theorem dX8_isOfFour_10 : decode cX8_isOfFour 10 = .ok (.iload_n 1, 1) := by decide +kernel
theorem dX8_isOfFour_11 : decode cX8_isOfFour 11 = .ok (.iload 4, 2) := by decide +kernel
theorem dX8_isOfFour_13 : decode cX8_isOfFour 13 = .ok (.invokevirtual 145, 3) := by decide +kernel
theorem dX8_isOfFour_16 : decode cX8_isOfFour 16 = .ok (.ifCond .ne 22, 3) := by decide +kernel
theorem dX8_isOfFour_19 : decode cX8_isOfFour 19 = .ok (.aload_n 0, 1) := by decide +kernel
theorem dX8_isOfFour_20 : decode cX8_isOfFour 20 = .ok (.iload_n 2, 1) := by decide +kernel
theorem dX8_isOfFour_21 : decode cX8_isOfFour 21 = .ok (.iload_n 3, 1) := by decide +kernel
theorem dX8_isOfFour_22 : decode cX8_isOfFour 22 = .ok (.invokevirtual 145, 3) := by decide +kernel
theorem dX8_isOfFour_25 : decode cX8_isOfFour 25 = .ok (.ifCond .ne 13, 3) := by decide +kernel
theorem dX8_isOfFour_28 : decode cX8_isOfFour 28 = .ok (.aload_n 0, 1) := by decide +kernel
theorem dX8_isOfFour_29 : decode cX8_isOfFour 29 = .ok (.iload_n 2, 1) := by decide +kernel
theorem dX8_isOfFour_30 : decode cX8_isOfFour 30 = .ok (.iload 4, 2) := by decide +kernel
theorem dX8_isOfFour_32 : decode cX8_isOfFour 32 = .ok (.invokevirtual 145, 3) := by decide +kernel
theorem dX8_isOfFour_35 : decode cX8_isOfFour 35 = .ok (.ifCond .eq 7, 3) := by decide +kernel
theorem dX8_isOfFour_38 : decode cX8_isOfFour 38 = .ok (.iconst 1, 1) := by decide +kernel
theorem dX8_isOfFour_39 : decode cX8_isOfFour 39 = .ok (.goto 4, 3) := by decide +kernel
theorem dX8_isOfFour_42 : decode cX8_isOfFour 42 = .ok (.iconst 0, 1) := by decide +kernel
theorem dX8_isOfFour_43 : decode cX8_isOfFour 43 = .ok (.istore 5, 2) := by decide +kernel
theorem dX8_isOfFour_45 : decode cX8_isOfFour 45 = .ok (.aload_n 0, 1) := by decide +kernel
theorem dX8_isOfFour_46 : decode cX8_isOfFour 46 = .ok (.iload_n 1, 1) := by decide +kernel
theorem dX8_isOfFour_47 : decode cX8_isOfFour 47 = .ok (.iload_n 3, 1) := by decide +kernel
theorem dX8_isOfFour_48 : decode cX8_isOfFour 48 = .ok (.invokevirtual 98, 3) := by decide +kernel
theorem dX8_isOfFour_51 : decode cX8_isOfFour 51 = .ok (.istore 6, 2) := by decide +kernel
theorem dX8_isOfFour_53 : decode cX8_isOfFour 53 = .ok (.iload 5, 2) := by decide +kernel
theorem dX8_isOfFour_55 : decode cX8_isOfFour 55 = .ok (.ifCond .ne 42, 3) := by decide +kernel
theorem dX8_isOfFour_58 : decode cX8_isOfFour 58 = .ok (.aload_n 0, 1) := by decide +kernel
theorem dX8_isOfFour_59 : decode cX8_isOfFour 59 = .ok (.iload_n 2, 1) := by decide +kernel
theorem dX8_isOfFour_60 : decode cX8_isOfFour 60 = .ok (.iload 4, 2) := by decide +kernel
theorem dX8_isOfFour_62 : decode cX8_isOfFour 62 = .ok (.invokevirtual 98, 3) := by decide +kernel
theorem dX8_isOfFour_65 : decode cX8_isOfFour 65 = .ok (.iload 6, 2) := by decide +kernel
theorem dX8_isOfFour_67 : decode cX8_isOfFour 67 = .ok (.if_icmp .ne 30, 3) := by decide +kernel
theorem dX8_isOfFour_70 : decode cX8_isOfFour 70 = .ok (.aload_n 0, 1) := by decide +kernel
theorem dX8_isOfFour_71 : decode cX8_isOfFour 71 = .ok (.iload_n 1, 1) := by decide +kernel
theorem dX8_isOfFour_72 : decode cX8_isOfFour 72 = .ok (.iload 4, 2) := by decide +kernel
theorem dX8_isOfFour_74 : decode cX8_isOfFour 74 = .ok (.invokevirtual 98, 3) := by decide +kernel
theorem dX8_isOfFour_77 : decode cX8_isOfFour 77 = .ok (.iload 6, 2) := by decide +kernel
theorem dX8_isOfFour_79 : decode cX8_isOfFour 79 = .ok (.if_icmp .eq 18, 3) := by decide +kernel
theorem dX8_isOfFour_82 : decode cX8_isOfFour 82 = .ok (.aload_n 0, 1) := by decide +kernel
theorem dX8_isOfFour_83 : decode cX8_isOfFour 83 = .ok (.iload_n 2, 1) := by decide +kernel
theorem dX8_isOfFour_84 : decode cX8_isOfFour 84 = .ok (.iload_n 3, 1) := by decide +kernel
theorem dX8_isOfFour_85 : decode cX8_isOfFour 85 = .ok (.invokevirtual 98, 3) := by decide +kernel
theorem dX8_isOfFour_88 : decode cX8_isOfFour 88 = .ok (.iload 6, 2) := by decide +kernel
theorem dX8_isOfFour_90 : decode cX8_isOfFour 90 = .ok (.if_icmp .eq 7, 3) := by decide +kernel
theorem dX8_isOfFour_93 : decode cX8_isOfFour 93 = .ok (.iconst 1, 1) := by decide +kernel
theorem dX8_isOfFour_94 : decode cX8_isOfFour 94 = .ok (.goto 4, 3) := by decide +kernel
theorem dX8_isOfFour_97 : decode cX8_isOfFour 97 = .ok (.iconst 0, 1) := by decide +kernel
theorem dX8_isOfFour_98 : decode cX8_isOfFour 98 = .ok (.ireturn, 1) := by decide +kernel
theorem dX8_turnsFour_0 : decode cX8_turnsFour 0 = .ok (.aload_n 0, 1) := by decide +kernel
theorem dX8_turnsFour_1 : decode cX8_turnsFour 1 = .ok (.getfield 7, 3) := by decide +kernel
theorem dX8_turnsFour_4 : decode cX8_turnsFour 4 = .ok (.iconst 2, 1) := by decide +kernel
theorem dX8_turnsFour_5 : decode cX8_turnsFour 5 = .ok (.bipush 6, 2) := by decide +kernel
theorem dX8_turnsFour_7 : decode cX8_turnsFour 7 = .ok (.iload_n 1, 1) := by decide +kernel
theorem dX8_turnsFour_8 : decode cX8_turnsFour 8 = .ok (.imul, 1) := by decide +kernel
theorem dX8_turnsFour_9 : decode cX8_turnsFour 9 = .ok (.iadd, 1) := by decide +kernel
theorem dX8_turnsFour_10 : decode cX8_turnsFour 10 = .ok (.iload_n 3, 1) := by decide +kernel
theorem dX8_turnsFour_11 : decode cX8_turnsFour 11 = .ok (.iadd, 1) := by decide +kernel
theorem dX8_turnsFour_12 : decode cX8_turnsFour 12 = .ok (.dup2, 1) := by decide +kernel
theorem dX8_turnsFour_13 : decode cX8_turnsFour 13 = .ok (.iaload, 1) := by decide +kernel
theorem dX8_turnsFour_14 : decode cX8_turnsFour 14 = .ok (.iconst 1, 1) := by decide +kernel
theorem dX8_turnsFour_15 : decode cX8_turnsFour 15 = .ok (.ixor, 1) := by decide +kernel
theorem dX8_turnsFour_16 : decode cX8_turnsFour 16 = .ok (.iastore, 1) := by decide +kernel
theorem dX8_turnsFour_17 : decode cX8_turnsFour 17 = .ok (.aload_n 0, 1) := by decide +kernel
theorem dX8_turnsFour_18 : decode cX8_turnsFour 18 = .ok (.getfield 7, 3) := by decide +kernel
theorem dX8_turnsFour_21 : decode cX8_turnsFour 21 = .ok (.iconst 2, 1) := by decide +kernel
theorem dX8_turnsFour_22 : decode cX8_turnsFour 22 = .ok (.bipush 6, 2) := by decide +kernel
theorem dX8_turnsFour_24 : decode cX8_turnsFour 24 = .ok (.iload_n 1, 1) := by decide +kernel
theorem dX8_turnsFour_25 : decode cX8_turnsFour 25 = .ok (.imul, 1) := by decide +kernel
theorem dX8_turnsFour_26 : decode cX8_turnsFour 26 = .ok (.iadd, 1) := by decide +kernel
theorem dX8_turnsFour_27 : decode cX8_turnsFour 27 = .ok (.iload 4, 2) := by decide +kernel
theorem dX8_turnsFour_29 : decode cX8_turnsFour 29 = .ok (.iadd, 1) := by decide +kernel
theorem dX8_turnsFour_30 : decode cX8_turnsFour 30 = .ok (.dup2, 1) := by decide +kernel
theorem dX8_turnsFour_31 : decode cX8_turnsFour 31 = .ok (.iaload, 1) := by decide +kernel
theorem dX8_turnsFour_32 : decode cX8_turnsFour 32 = .ok (.iconst 1, 1) := by decide +kernel
theorem dX8_turnsFour_33 : decode cX8_turnsFour 33 = .ok (.ixor, 1) := by decide +kernel
theorem dX8_turnsFour_34 : decode cX8_turnsFour 34 = .ok (.iastore, 1) := by decide +kernel
theorem dX8_turnsFour_35 : decode cX8_turnsFour 35 = .ok (.aload_n 0, 1) := by decide +kernel
theorem dX8_turnsFour_36 : decode cX8_turnsFour 36 = .ok (.getfield 7, 3) := by decide +kernel
theorem dX8_turnsFour_39 : decode cX8_turnsFour 39 = .ok (.iconst 2, 1) := by decide +kernel
theorem dX8_turnsFour_40 : decode cX8_turnsFour 40 = .ok (.bipush 6, 2) := by decide +kernel
theorem dX8_turnsFour_42 : decode cX8_turnsFour 42 = .ok (.iload_n 2, 1) := by decide +kernel
theorem dX8_turnsFour_43 : decode cX8_turnsFour 43 = .ok (.imul, 1) := by decide +kernel
theorem dX8_turnsFour_44 : decode cX8_turnsFour 44 = .ok (.iadd, 1) := by decide +kernel
theorem dX8_turnsFour_45 : decode cX8_turnsFour 45 = .ok (.iload_n 3, 1) := by decide +kernel
theorem dX8_turnsFour_46 : decode cX8_turnsFour 46 = .ok (.iadd, 1) := by decide +kernel
theorem dX8_turnsFour_47 : decode cX8_turnsFour 47 = .ok (.dup2, 1) := by decide +kernel
theorem dX8_turnsFour_48 : decode cX8_turnsFour 48 = .ok (.iaload, 1) := by decide +kernel
theorem dX8_turnsFour_49 : decode cX8_turnsFour 49 = .ok (.iconst 1, 1) := by decide +kernel
theorem dX8_turnsFour_50 : decode cX8_turnsFour 50 = .ok (.ixor, 1) := by decide +kernel
theorem dX8_turnsFour_51 : decode cX8_turnsFour 51 = .ok (.iastore, 1) := by decide +kernel
theorem dX8_turnsFour_52 : decode cX8_turnsFour 52 = .ok (.aload_n 0, 1) := by decide +kernel
theorem dX8_turnsFour_53 : decode cX8_turnsFour 53 = .ok (.getfield 7, 3) := by decide +kernel
theorem dX8_turnsFour_56 : decode cX8_turnsFour 56 = .ok (.iconst 2, 1) := by decide +kernel
theorem dX8_turnsFour_57 : decode cX8_turnsFour 57 = .ok (.bipush 6, 2) := by decide +kernel
theorem dX8_turnsFour_59 : decode cX8_turnsFour 59 = .ok (.iload_n 2, 1) := by decide +kernel
theorem dX8_turnsFour_60 : decode cX8_turnsFour 60 = .ok (.imul, 1) := by decide +kernel
theorem dX8_turnsFour_61 : decode cX8_turnsFour 61 = .ok (.iadd, 1) := by decide +kernel
theorem dX8_turnsFour_62 : decode cX8_turnsFour 62 = .ok (.iload 4, 2) := by decide +kernel
theorem dX8_turnsFour_64 : decode cX8_turnsFour 64 = .ok (.iadd, 1) := by decide +kernel
theorem dX8_turnsFour_65 : decode cX8_turnsFour 65 = .ok (.dup2, 1) := by decide +kernel
theorem dX8_turnsFour_66 : decode cX8_turnsFour 66 = .ok (.iaload, 1) := by decide +kernel
theorem dX8_turnsFour_67 : decode cX8_turnsFour 67 = .ok (.iconst 1, 1) := by decide +kernel
theorem dX8_turnsFour_68 : decode cX8_turnsFour 68 = .ok (.ixor, 1) := by decide +kernel
theorem dX8_turnsFour_69 : decode cX8_turnsFour 69 = .ok (.iastore, 1) := by decide +kernel
theorem dX8_turnsFour_70 : decode cX8_turnsFour 70 = .ok (.return_, 1) := by decide +kernel
theorem dX8_exchangeOf_0 : decode cX8_exchangeOf 0 = .ok (.iconst 0, 1) := by decide +kernel
theorem dX8_exchangeOf_1 : decode cX8_exchangeOf 1 = .ok (.istore_n 2, 1) := by decide +kernel
theorem dX8_exchangeOf_2 : decode cX8_exchangeOf 2 = .ok (.iconst 0, 1) := by decide +kernel
theorem dX8_exchangeOf_3 : decode cX8_exchangeOf 3 = .ok (.istore_n 3, 1) := by decide +kernel
theorem dX8_exchangeOf_4 : decode cX8_exchangeOf 4 = .ok (.iload_n 3, 1) := by decide +kernel
theorem dX8_exchangeOf_5 : decode cX8_exchangeOf 5 = .ok (.sipush 1296, 3) := by decide +kernel
theorem dX8_exchangeOf_8 : decode cX8_exchangeOf 8 = .ok (.if_icmp .ge 117, 3) := by decide +kernel
theorem dX8_exchangeOf_11 : decode cX8_exchangeOf 11 = .ok (.iload_n 3, 1) := by decide +kernel
theorem dX8_exchangeOf_12 : decode cX8_exchangeOf 12 = .ok (.sipush 216, 3) := by decide +kernel
theorem dX8_exchangeOf_15 : decode cX8_exchangeOf 15 = .ok (.idiv, 1) := by decide +kernel
theorem dX8_exchangeOf_16 : decode cX8_exchangeOf 16 = .ok (.istore 4, 2) := by decide +kernel
theorem dX8_exchangeOf_18 : decode cX8_exchangeOf 18 = .ok (.iload_n 3, 1) := by decide +kernel
theorem dX8_exchangeOf_19 : decode cX8_exchangeOf 19 = .ok (.bipush 36, 2) := by decide +kernel
theorem dX8_exchangeOf_21 : decode cX8_exchangeOf 21 = .ok (.idiv, 1) := by decide +kernel
theorem dX8_exchangeOf_22 : decode cX8_exchangeOf 22 = .ok (.bipush 6, 2) := by decide +kernel
theorem dX8_exchangeOf_24 : decode cX8_exchangeOf 24 = .ok (.irem, 1) := by decide +kernel
theorem dX8_exchangeOf_25 : decode cX8_exchangeOf 25 = .ok (.istore 5, 2) := by decide +kernel
theorem dX8_exchangeOf_27 : decode cX8_exchangeOf 27 = .ok (.iload_n 3, 1) := by decide +kernel
theorem dX8_exchangeOf_28 : decode cX8_exchangeOf 28 = .ok (.bipush 6, 2) := by decide +kernel
theorem dX8_exchangeOf_30 : decode cX8_exchangeOf 30 = .ok (.idiv, 1) := by decide +kernel
theorem dX8_exchangeOf_31 : decode cX8_exchangeOf 31 = .ok (.bipush 6, 2) := by decide +kernel
theorem dX8_exchangeOf_33 : decode cX8_exchangeOf 33 = .ok (.irem, 1) := by decide +kernel
theorem dX8_exchangeOf_34 : decode cX8_exchangeOf 34 = .ok (.istore 6, 2) := by decide +kernel
theorem dX8_exchangeOf_36 : decode cX8_exchangeOf 36 = .ok (.iload_n 3, 1) := by decide +kernel
theorem dX8_exchangeOf_37 : decode cX8_exchangeOf 37 = .ok (.bipush 6, 2) := by decide +kernel
theorem dX8_exchangeOf_39 : decode cX8_exchangeOf 39 = .ok (.irem, 1) := by decide +kernel
theorem dX8_exchangeOf_40 : decode cX8_exchangeOf 40 = .ok (.istore 7, 2) := by decide +kernel
theorem dX8_exchangeOf_42 : decode cX8_exchangeOf 42 = .ok (.iload 4, 2) := by decide +kernel
theorem dX8_exchangeOf_44 : decode cX8_exchangeOf 44 = .ok (.iload 5, 2) := by decide +kernel
theorem dX8_exchangeOf_46 : decode cX8_exchangeOf 46 = .ok (.if_icmp .ge 73, 3) := by decide +kernel
theorem dX8_exchangeOf_49 : decode cX8_exchangeOf 49 = .ok (.iload 6, 2) := by decide +kernel
theorem dX8_exchangeOf_51 : decode cX8_exchangeOf 51 = .ok (.iload 7, 2) := by decide +kernel
theorem dX8_exchangeOf_53 : decode cX8_exchangeOf 53 = .ok (.if_icmp .ge 66, 3) := by decide +kernel
theorem dX8_exchangeOf_56 : decode cX8_exchangeOf 56 = .ok (.iload 5, 2) := by decide +kernel
theorem dX8_exchangeOf_58 : decode cX8_exchangeOf 58 = .ok (.aload_n 0, 1) := by decide +kernel
theorem dX8_exchangeOf_59 : decode cX8_exchangeOf 59 = .ok (.invokevirtual 76, 3) := by decide +kernel
theorem dX8_exchangeOf_62 : decode cX8_exchangeOf 62 = .ok (.if_icmp .ge 57, 3) := by decide +kernel
theorem dX8_exchangeOf_65 : decode cX8_exchangeOf 65 = .ok (.iload 7, 2) := by decide +kernel
theorem dX8_exchangeOf_67 : decode cX8_exchangeOf 67 = .ok (.aload_n 0, 1) := by decide +kernel
theorem dX8_exchangeOf_68 : decode cX8_exchangeOf 68 = .ok (.invokevirtual 84, 3) := by decide +kernel
theorem dX8_exchangeOf_71 : decode cX8_exchangeOf 71 = .ok (.if_icmp .ge 48, 3) := by decide +kernel
theorem dX8_exchangeOf_74 : decode cX8_exchangeOf 74 = .ok (.aload_n 0, 1) := by decide +kernel
theorem dX8_exchangeOf_75 : decode cX8_exchangeOf 75 = .ok (.iload 4, 2) := by decide +kernel
theorem dX8_exchangeOf_77 : decode cX8_exchangeOf 77 = .ok (.iload 5, 2) := by decide +kernel
theorem dX8_exchangeOf_79 : decode cX8_exchangeOf 79 = .ok (.iload 6, 2) := by decide +kernel
theorem dX8_exchangeOf_81 : decode cX8_exchangeOf 81 = .ok (.iload 7, 2) := by decide +kernel
theorem dX8_exchangeOf_83 : decode cX8_exchangeOf 83 = .ok (.invokevirtual 148, 3) := by decide +kernel
theorem dX8_exchangeOf_86 : decode cX8_exchangeOf 86 = .ok (.ifCond .eq 33, 3) := by decide +kernel
theorem dX8_exchangeOf_89 : decode cX8_exchangeOf 89 = .ok (.iload_n 2, 1) := by decide +kernel
theorem dX8_exchangeOf_90 : decode cX8_exchangeOf 90 = .ok (.iload_n 1, 1) := by decide +kernel
theorem dX8_exchangeOf_91 : decode cX8_exchangeOf 91 = .ok (.if_icmp .ne 25, 3) := by decide +kernel
theorem dX8_exchangeOf_94 : decode cX8_exchangeOf 94 = .ok (.sipush 1000, 3) := by decide +kernel
theorem dX8_exchangeOf_97 : decode cX8_exchangeOf 97 = .ok (.iload 4, 2) := by decide +kernel
theorem dX8_exchangeOf_99 : decode cX8_exchangeOf 99 = .ok (.imul, 1) := by decide +kernel
theorem dX8_exchangeOf_100 : decode cX8_exchangeOf 100 = .ok (.bipush 100, 2) := by decide +kernel
theorem dX8_exchangeOf_102 : decode cX8_exchangeOf 102 = .ok (.iload 5, 2) := by decide +kernel
theorem dX8_exchangeOf_104 : decode cX8_exchangeOf 104 = .ok (.imul, 1) := by decide +kernel
theorem dX8_exchangeOf_105 : decode cX8_exchangeOf 105 = .ok (.iadd, 1) := by decide +kernel
theorem dX8_exchangeOf_106 : decode cX8_exchangeOf 106 = .ok (.bipush 10, 2) := by decide +kernel
theorem dX8_exchangeOf_108 : decode cX8_exchangeOf 108 = .ok (.iload 6, 2) := by decide +kernel
theorem dX8_exchangeOf_110 : decode cX8_exchangeOf 110 = .ok (.imul, 1) := by decide +kernel
theorem dX8_exchangeOf_111 : decode cX8_exchangeOf 111 = .ok (.iadd, 1) := by decide +kernel
theorem dX8_exchangeOf_112 : decode cX8_exchangeOf 112 = .ok (.iload 7, 2) := by decide +kernel
theorem dX8_exchangeOf_114 : decode cX8_exchangeOf 114 = .ok (.iadd, 1) := by decide +kernel
theorem dX8_exchangeOf_115 : decode cX8_exchangeOf 115 = .ok (.ireturn, 1) := by decide +kernel
theorem dX8_exchangeOf_116 : decode cX8_exchangeOf 116 = .ok (.iinc 2 1, 3) := by decide +kernel
theorem dX8_exchangeOf_119 : decode cX8_exchangeOf 119 = .ok (.iinc 3 1, 3) := by decide +kernel
theorem dX8_exchangeOf_122 : decode cX8_exchangeOf 122 = .ok (.goto (-118), 3) := by decide +kernel
theorem dX8_exchangeOf_125 : decode cX8_exchangeOf 125 = .ok (.iload_n 1, 1) := by decide +kernel
theorem dX8_exchangeOf_126 : decode cX8_exchangeOf 126 = .ok (.bipush (-9), 2) := by decide +kernel
theorem dX8_exchangeOf_128 : decode cX8_exchangeOf 128 = .ok (.if_icmp .ne 7, 3) := by decide +kernel
theorem dX8_exchangeOf_131 : decode cX8_exchangeOf 131 = .ok (.iload_n 2, 1) := by decide +kernel
theorem dX8_exchangeOf_132 : decode cX8_exchangeOf 132 = .ok (.goto 5, 3) := by decide +kernel
theorem dX8_exchangeOf_135 : decode cX8_exchangeOf 135 = .ok (.bipush (-9), 2) := by decide +kernel
theorem dX8_exchangeOf_137 : decode cX8_exchangeOf 137 = .ok (.ireturn, 1) := by decide +kernel
theorem dX8_turnsTold_0 : decode cX8_turnsTold 0 = .ok (.aload_n 0, 1) := by decide +kernel
theorem dX8_turnsTold_1 : decode cX8_turnsTold 1 = .ok (.iload_n 1, 1) := by decide +kernel
theorem dX8_turnsTold_2 : decode cX8_turnsTold 2 = .ok (.sipush 1000, 3) := by decide +kernel
theorem dX8_turnsTold_5 : decode cX8_turnsTold 5 = .ok (.idiv, 1) := by decide +kernel
theorem dX8_turnsTold_6 : decode cX8_turnsTold 6 = .ok (.iload_n 1, 1) := by decide +kernel
theorem dX8_turnsTold_7 : decode cX8_turnsTold 7 = .ok (.bipush 100, 2) := by decide +kernel
theorem dX8_turnsTold_9 : decode cX8_turnsTold 9 = .ok (.idiv, 1) := by decide +kernel
theorem dX8_turnsTold_10 : decode cX8_turnsTold 10 = .ok (.bipush 10, 2) := by decide +kernel
theorem dX8_turnsTold_12 : decode cX8_turnsTold 12 = .ok (.irem, 1) := by decide +kernel
theorem dX8_turnsTold_13 : decode cX8_turnsTold 13 = .ok (.iload_n 1, 1) := by decide +kernel
theorem dX8_turnsTold_14 : decode cX8_turnsTold 14 = .ok (.bipush 10, 2) := by decide +kernel
theorem dX8_turnsTold_16 : decode cX8_turnsTold 16 = .ok (.idiv, 1) := by decide +kernel
theorem dX8_turnsTold_17 : decode cX8_turnsTold 17 = .ok (.bipush 10, 2) := by decide +kernel
theorem dX8_turnsTold_19 : decode cX8_turnsTold 19 = .ok (.irem, 1) := by decide +kernel
theorem dX8_turnsTold_20 : decode cX8_turnsTold 20 = .ok (.iload_n 1, 1) := by decide +kernel
theorem dX8_turnsTold_21 : decode cX8_turnsTold 21 = .ok (.bipush 10, 2) := by decide +kernel
theorem dX8_turnsTold_23 : decode cX8_turnsTold 23 = .ok (.irem, 1) := by decide +kernel
theorem dX8_turnsTold_24 : decode cX8_turnsTold 24 = .ok (.invokevirtual 152, 3) := by decide +kernel
theorem dX8_turnsTold_27 : decode cX8_turnsTold 27 = .ok (.return_, 1) := by decide +kernel
theorem dX8_givesPins_0 : decode cX8_givesPins 0 = .ok (.iconst 0, 1) := by decide +kernel
theorem dX8_givesPins_1 : decode cX8_givesPins 1 = .ok (.istore_n 1, 1) := by decide +kernel
theorem dX8_givesPins_2 : decode cX8_givesPins 2 = .ok (.iload_n 1, 1) := by decide +kernel
theorem dX8_givesPins_3 : decode cX8_givesPins 3 = .ok (.aload_n 0, 1) := by decide +kernel
theorem dX8_givesPins_4 : decode cX8_givesPins 4 = .ok (.invokevirtual 76, 3) := by decide +kernel
theorem dX8_givesPins_7 : decode cX8_givesPins 7 = .ok (.if_icmp .ge 63, 3) := by decide +kernel
theorem dX8_givesPins_10 : decode cX8_givesPins 10 = .ok (.iconst 0, 1) := by decide +kernel
theorem dX8_givesPins_11 : decode cX8_givesPins 11 = .ok (.istore_n 2, 1) := by decide +kernel
theorem dX8_givesPins_12 : decode cX8_givesPins 12 = .ok (.iload_n 2, 1) := by decide +kernel
theorem dX8_givesPins_13 : decode cX8_givesPins 13 = .ok (.aload_n 0, 1) := by decide +kernel
theorem dX8_givesPins_14 : decode cX8_givesPins 14 = .ok (.invokevirtual 84, 3) := by decide +kernel
theorem dX8_givesPins_17 : decode cX8_givesPins 17 = .ok (.if_icmp .ge 47, 3) := by decide +kernel
theorem dX8_givesPins_20 : decode cX8_givesPins 20 = .ok (.aload_n 0, 1) := by decide +kernel
theorem dX8_givesPins_21 : decode cX8_givesPins 21 = .ok (.getfield 32, 3) := by decide +kernel
theorem dX8_givesPins_24 : decode cX8_givesPins 24 = .ok (.bipush 6, 2) := by decide +kernel
theorem dX8_givesPins_26 : decode cX8_givesPins 26 = .ok (.iload_n 1, 1) := by decide +kernel
theorem dX8_givesPins_27 : decode cX8_givesPins 27 = .ok (.imul, 1) := by decide +kernel
theorem dX8_givesPins_28 : decode cX8_givesPins 28 = .ok (.iload_n 2, 1) := by decide +kernel
theorem dX8_givesPins_29 : decode cX8_givesPins 29 = .ok (.iadd, 1) := by decide +kernel
theorem dX8_givesPins_30 : decode cX8_givesPins 30 = .ok (.aload_n 0, 1) := by decide +kernel
theorem dX8_givesPins_31 : decode cX8_givesPins 31 = .ok (.iload_n 1, 1) := by decide +kernel
theorem dX8_givesPins_32 : decode cX8_givesPins 32 = .ok (.iload_n 2, 1) := by decide +kernel
theorem dX8_givesPins_33 : decode cX8_givesPins 33 = .ok (.invokevirtual 145, 3) := by decide +kernel
theorem dX8_givesPins_36 : decode cX8_givesPins 36 = .ok (.ifCond .eq 20, 3) := by decide +kernel
theorem dX8_givesPins_39 : decode cX8_givesPins 39 = .ok (.aload_n 0, 1) := by decide +kernel
theorem dX8_givesPins_40 : decode cX8_givesPins 40 = .ok (.iload_n 1, 1) := by decide +kernel
theorem dX8_givesPins_41 : decode cX8_givesPins 41 = .ok (.iload_n 2, 1) := by decide +kernel
theorem dX8_givesPins_42 : decode cX8_givesPins 42 = .ok (.invokevirtual 98, 3) := by decide +kernel
theorem dX8_givesPins_45 : decode cX8_givesPins 45 = .ok (.ifCond .eq 7, 3) := by decide +kernel
theorem dX8_givesPins_48 : decode cX8_givesPins 48 = .ok (.iconst 1, 1) := by decide +kernel
theorem dX8_givesPins_49 : decode cX8_givesPins 49 = .ok (.goto 8, 3) := by decide +kernel
theorem dX8_givesPins_52 : decode cX8_givesPins 52 = .ok (.iconst 0, 1) := by decide +kernel
theorem dX8_givesPins_53 : decode cX8_givesPins 53 = .ok (.goto 4, 3) := by decide +kernel
theorem dX8_givesPins_56 : decode cX8_givesPins 56 = .ok (.iconst (-1), 1) := by decide +kernel
theorem dX8_givesPins_57 : decode cX8_givesPins 57 = .ok (.iastore, 1) := by decide +kernel
theorem dX8_givesPins_58 : decode cX8_givesPins 58 = .ok (.iinc 2 1, 3) := by decide +kernel
theorem dX8_givesPins_61 : decode cX8_givesPins 61 = .ok (.goto (-49), 3) := by decide +kernel
theorem dX8_givesPins_64 : decode cX8_givesPins 64 = .ok (.iinc 1 1, 3) := by decide +kernel
theorem dX8_givesPins_67 : decode cX8_givesPins 67 = .ok (.goto (-65), 3) := by decide +kernel
theorem dX8_givesPins_70 : decode cX8_givesPins 70 = .ok (.return_, 1) := by decide +kernel
theorem dX8_hasNeeds_0 : decode cX8_hasNeeds 0 = .ok (.iconst 0, 1) := by decide +kernel
theorem dX8_hasNeeds_1 : decode cX8_hasNeeds 1 = .ok (.istore_n 1, 1) := by decide +kernel
theorem dX8_hasNeeds_2 : decode cX8_hasNeeds 2 = .ok (.iconst 0, 1) := by decide +kernel
theorem dX8_hasNeeds_3 : decode cX8_hasNeeds 3 = .ok (.istore_n 2, 1) := by decide +kernel
theorem dX8_hasNeeds_4 : decode cX8_hasNeeds 4 = .ok (.iload_n 2, 1) := by decide +kernel
theorem dX8_hasNeeds_5 : decode cX8_hasNeeds 5 = .ok (.aload_n 0, 1) := by decide +kernel
theorem dX8_hasNeeds_6 : decode cX8_hasNeeds 6 = .ok (.invokevirtual 76, 3) := by decide +kernel
theorem dX8_hasNeeds_9 : decode cX8_hasNeeds 9 = .ok (.aload_n 0, 1) := by decide +kernel
theorem dX8_hasNeeds_10 : decode cX8_hasNeeds 10 = .ok (.invokevirtual 84, 3) := by decide +kernel
theorem dX8_hasNeeds_13 : decode cX8_hasNeeds 13 = .ok (.iadd, 1) := by decide +kernel
theorem dX8_hasNeeds_14 : decode cX8_hasNeeds 14 = .ok (.if_icmp .ge 155, 3) := by decide +kernel
theorem dX8_hasNeeds_17 : decode cX8_hasNeeds 17 = .ok (.aload_n 0, 1) := by decide +kernel
theorem dX8_hasNeeds_18 : decode cX8_hasNeeds 18 = .ok (.getfield 7, 3) := by decide +kernel
theorem dX8_hasNeeds_21 : decode cX8_hasNeeds 21 = .ok (.aload_n 0, 1) := by decide +kernel
theorem dX8_hasNeeds_22 : decode cX8_hasNeeds 22 = .ok (.iload_n 2, 1) := by decide +kernel
theorem dX8_hasNeeds_23 : decode cX8_hasNeeds 23 = .ok (.invokevirtual 105, 3) := by decide +kernel
theorem dX8_hasNeeds_26 : decode cX8_hasNeeds 26 = .ok (.iaload, 1) := by decide +kernel
theorem dX8_hasNeeds_27 : decode cX8_hasNeeds 27 = .ok (.istore_n 3, 1) := by decide +kernel
theorem dX8_hasNeeds_28 : decode cX8_hasNeeds 28 = .ok (.iconst 0, 1) := by decide +kernel
theorem dX8_hasNeeds_29 : decode cX8_hasNeeds 29 = .ok (.istore 4, 2) := by decide +kernel
theorem dX8_hasNeeds_31 : decode cX8_hasNeeds 31 = .ok (.iconst 0, 1) := by decide +kernel
theorem dX8_hasNeeds_32 : decode cX8_hasNeeds 32 = .ok (.istore 5, 2) := by decide +kernel
theorem dX8_hasNeeds_34 : decode cX8_hasNeeds 34 = .ok (.iload 5, 2) := by decide +kernel
theorem dX8_hasNeeds_36 : decode cX8_hasNeeds 36 = .ok (.aload_n 0, 1) := by decide +kernel
theorem dX8_hasNeeds_37 : decode cX8_hasNeeds 37 = .ok (.iload_n 2, 1) := by decide +kernel
theorem dX8_hasNeeds_38 : decode cX8_hasNeeds 38 = .ok (.invokevirtual 87, 3) := by decide +kernel
theorem dX8_hasNeeds_41 : decode cX8_hasNeeds 41 = .ok (.if_icmp .ge 63, 3) := by decide +kernel
theorem dX8_hasNeeds_44 : decode cX8_hasNeeds 44 = .ok (.aload_n 0, 1) := by decide +kernel
theorem dX8_hasNeeds_45 : decode cX8_hasNeeds 45 = .ok (.getfield 32, 3) := by decide +kernel
theorem dX8_hasNeeds_48 : decode cX8_hasNeeds 48 = .ok (.bipush 6, 2) := by decide +kernel
theorem dX8_hasNeeds_50 : decode cX8_hasNeeds 50 = .ok (.aload_n 0, 1) := by decide +kernel
theorem dX8_hasNeeds_51 : decode cX8_hasNeeds 51 = .ok (.iload_n 2, 1) := by decide +kernel
theorem dX8_hasNeeds_52 : decode cX8_hasNeeds 52 = .ok (.iload 5, 2) := by decide +kernel
theorem dX8_hasNeeds_54 : decode cX8_hasNeeds 54 = .ok (.invokevirtual 91, 3) := by decide +kernel
theorem dX8_hasNeeds_57 : decode cX8_hasNeeds 57 = .ok (.imul, 1) := by decide +kernel
theorem dX8_hasNeeds_58 : decode cX8_hasNeeds 58 = .ok (.aload_n 0, 1) := by decide +kernel
theorem dX8_hasNeeds_59 : decode cX8_hasNeeds 59 = .ok (.iload_n 2, 1) := by decide +kernel
theorem dX8_hasNeeds_60 : decode cX8_hasNeeds 60 = .ok (.iload 5, 2) := by decide +kernel
theorem dX8_hasNeeds_62 : decode cX8_hasNeeds 62 = .ok (.invokevirtual 95, 3) := by decide +kernel
theorem dX8_hasNeeds_65 : decode cX8_hasNeeds 65 = .ok (.iadd, 1) := by decide +kernel
theorem dX8_hasNeeds_66 : decode cX8_hasNeeds 66 = .ok (.iaload, 1) := by decide +kernel
theorem dX8_hasNeeds_67 : decode cX8_hasNeeds 67 = .ok (.istore 6, 2) := by decide +kernel
theorem dX8_hasNeeds_69 : decode cX8_hasNeeds 69 = .ok (.iload_n 3, 1) := by decide +kernel
theorem dX8_hasNeeds_70 : decode cX8_hasNeeds 70 = .ok (.iload 6, 2) := by decide +kernel
theorem dX8_hasNeeds_72 : decode cX8_hasNeeds 72 = .ok (.iconst 1, 1) := by decide +kernel
theorem dX8_hasNeeds_73 : decode cX8_hasNeeds 73 = .ok (.if_icmp .ne 7, 3) := by decide +kernel
theorem dX8_hasNeeds_76 : decode cX8_hasNeeds 76 = .ok (.iconst 1, 1) := by decide +kernel
theorem dX8_hasNeeds_77 : decode cX8_hasNeeds 77 = .ok (.goto 4, 3) := by decide +kernel
theorem dX8_hasNeeds_80 : decode cX8_hasNeeds 80 = .ok (.iconst 0, 1) := by decide +kernel
theorem dX8_hasNeeds_81 : decode cX8_hasNeeds 81 = .ok (.isub, 1) := by decide +kernel
theorem dX8_hasNeeds_82 : decode cX8_hasNeeds 82 = .ok (.istore_n 3, 1) := by decide +kernel
theorem dX8_hasNeeds_83 : decode cX8_hasNeeds 83 = .ok (.iload 4, 2) := by decide +kernel
theorem dX8_hasNeeds_85 : decode cX8_hasNeeds 85 = .ok (.iload 6, 2) := by decide +kernel
theorem dX8_hasNeeds_87 : decode cX8_hasNeeds 87 = .ok (.ifCond .ge 7, 3) := by decide +kernel
theorem dX8_hasNeeds_90 : decode cX8_hasNeeds 90 = .ok (.iconst 1, 1) := by decide +kernel
theorem dX8_hasNeeds_91 : decode cX8_hasNeeds 91 = .ok (.goto 4, 3) := by decide +kernel
theorem dX8_hasNeeds_94 : decode cX8_hasNeeds 94 = .ok (.iconst 0, 1) := by decide +kernel
theorem dX8_hasNeeds_95 : decode cX8_hasNeeds 95 = .ok (.iadd, 1) := by decide +kernel
theorem dX8_hasNeeds_96 : decode cX8_hasNeeds 96 = .ok (.istore 4, 2) := by decide +kernel
theorem dX8_hasNeeds_98 : decode cX8_hasNeeds 98 = .ok (.iinc 5 1, 3) := by decide +kernel
theorem dX8_hasNeeds_101 : decode cX8_hasNeeds 101 = .ok (.goto (-67), 3) := by decide +kernel
theorem dX8_hasNeeds_104 : decode cX8_hasNeeds 104 = .ok (.iload_n 3, 1) := by decide +kernel
theorem dX8_hasNeeds_105 : decode cX8_hasNeeds 105 = .ok (.iconst 0, 1) := by decide +kernel
theorem dX8_hasNeeds_106 : decode cX8_hasNeeds 106 = .ok (.iload 4, 2) := by decide +kernel
theorem dX8_hasNeeds_108 : decode cX8_hasNeeds 108 = .ok (.invokestatic 80, 3) := by decide +kernel
theorem dX8_hasNeeds_111 : decode cX8_hasNeeds 111 = .ok (.ifCond .ne 5, 3) := by decide +kernel
theorem dX8_hasNeeds_114 : decode cX8_hasNeeds 114 = .ok (.iconst 0, 1) := by decide +kernel
theorem dX8_hasNeeds_115 : decode cX8_hasNeeds 115 = .ok (.ireturn, 1) := by decide +kernel
theorem dX8_hasNeeds_116 : decode cX8_hasNeeds 116 = .ok (.iload_n 1, 1) := by decide +kernel
theorem dX8_hasNeeds_117 : decode cX8_hasNeeds 117 = .ok (.iload_n 2, 1) := by decide +kernel
theorem dX8_hasNeeds_118 : decode cX8_hasNeeds 118 = .ok (.aload_n 0, 1) := by decide +kernel
theorem dX8_hasNeeds_119 : decode cX8_hasNeeds 119 = .ok (.invokevirtual 76, 3) := by decide +kernel
theorem dX8_hasNeeds_122 : decode cX8_hasNeeds 122 = .ok (.if_icmp .ge 7, 3) := by decide +kernel
theorem dX8_hasNeeds_125 : decode cX8_hasNeeds 125 = .ok (.iload_n 3, 1) := by decide +kernel
theorem dX8_hasNeeds_126 : decode cX8_hasNeeds 126 = .ok (.goto 5, 3) := by decide +kernel
theorem dX8_hasNeeds_129 : decode cX8_hasNeeds 129 = .ok (.iload_n 3, 1) := by decide +kernel
theorem dX8_hasNeeds_130 : decode cX8_hasNeeds 130 = .ok (.ineg, 1) := by decide +kernel
theorem dX8_hasNeeds_131 : decode cX8_hasNeeds 131 = .ok (.iadd, 1) := by decide +kernel
theorem dX8_hasNeeds_132 : decode cX8_hasNeeds 132 = .ok (.istore_n 1, 1) := by decide +kernel
theorem dX8_hasNeeds_133 : decode cX8_hasNeeds 133 = .ok (.iload_n 2, 1) := by decide +kernel
theorem dX8_hasNeeds_134 : decode cX8_hasNeeds 134 = .ok (.aload_n 0, 1) := by decide +kernel
theorem dX8_hasNeeds_135 : decode cX8_hasNeeds 135 = .ok (.invokevirtual 76, 3) := by decide +kernel
theorem dX8_hasNeeds_138 : decode cX8_hasNeeds 138 = .ok (.if_icmp .ge 13, 3) := by decide +kernel
theorem dX8_hasNeeds_141 : decode cX8_hasNeeds 141 = .ok (.aload_n 0, 1) := by decide +kernel
theorem dX8_hasNeeds_142 : decode cX8_hasNeeds 142 = .ok (.getfield 38, 3) := by decide +kernel
theorem dX8_hasNeeds_145 : decode cX8_hasNeeds 145 = .ok (.iload_n 2, 1) := by decide +kernel
theorem dX8_hasNeeds_146 : decode cX8_hasNeeds 146 = .ok (.iload_n 3, 1) := by decide +kernel
theorem dX8_hasNeeds_147 : decode cX8_hasNeeds 147 = .ok (.iastore, 1) := by decide +kernel
theorem dX8_hasNeeds_148 : decode cX8_hasNeeds 148 = .ok (.goto 15, 3) := by decide +kernel
theorem dX8_hasNeeds_151 : decode cX8_hasNeeds 151 = .ok (.aload_n 0, 1) := by decide +kernel
theorem dX8_hasNeeds_152 : decode cX8_hasNeeds 152 = .ok (.getfield 41, 3) := by decide +kernel
theorem dX8_hasNeeds_155 : decode cX8_hasNeeds 155 = .ok (.iload_n 2, 1) := by decide +kernel
theorem dX8_hasNeeds_156 : decode cX8_hasNeeds 156 = .ok (.aload_n 0, 1) := by decide +kernel
theorem dX8_hasNeeds_157 : decode cX8_hasNeeds 157 = .ok (.invokevirtual 76, 3) := by decide +kernel
theorem dX8_hasNeeds_160 : decode cX8_hasNeeds 160 = .ok (.isub, 1) := by decide +kernel
theorem dX8_hasNeeds_161 : decode cX8_hasNeeds 161 = .ok (.iload_n 3, 1) := by decide +kernel
theorem dX8_hasNeeds_162 : decode cX8_hasNeeds 162 = .ok (.iastore, 1) := by decide +kernel
theorem dX8_hasNeeds_163 : decode cX8_hasNeeds 163 = .ok (.iinc 2 1, 3) := by decide +kernel
theorem dX8_hasNeeds_166 : decode cX8_hasNeeds 166 = .ok (.goto (-162), 3) := by decide +kernel
theorem dX8_hasNeeds_169 : decode cX8_hasNeeds 169 = .ok (.iload_n 1, 1) := by decide +kernel
theorem dX8_hasNeeds_170 : decode cX8_hasNeeds 170 = .ok (.ifCond .ne 7, 3) := by decide +kernel
theorem dX8_hasNeeds_173 : decode cX8_hasNeeds 173 = .ok (.iconst 1, 1) := by decide +kernel
theorem dX8_hasNeeds_174 : decode cX8_hasNeeds 174 = .ok (.goto 4, 3) := by decide +kernel
theorem dX8_hasNeeds_177 : decode cX8_hasNeeds 177 = .ok (.iconst 0, 1) := by decide +kernel
theorem dX8_hasNeeds_178 : decode cX8_hasNeeds 178 = .ok (.ireturn, 1) := by decide +kernel
theorem dX8_wayFrom_0 : decode cX8_wayFrom 0 = .ok (.iconst 0, 1) := by decide +kernel
theorem dX8_wayFrom_1 : decode cX8_wayFrom 1 = .ok (.istore_n 2, 1) := by decide +kernel
theorem dX8_wayFrom_2 : decode cX8_wayFrom 2 = .ok (.iload_n 2, 1) := by decide +kernel
theorem dX8_wayFrom_3 : decode cX8_wayFrom 3 = .ok (.bipush 6, 2) := by decide +kernel
theorem dX8_wayFrom_5 : decode cX8_wayFrom 5 = .ok (.if_icmp .ge 25, 3) := by decide +kernel
theorem dX8_wayFrom_8 : decode cX8_wayFrom 8 = .ok (.aload_n 0, 1) := by decide +kernel
theorem dX8_wayFrom_9 : decode cX8_wayFrom 9 = .ok (.getfield 44, 3) := by decide +kernel
theorem dX8_wayFrom_12 : decode cX8_wayFrom 12 = .ok (.iload_n 2, 1) := by decide +kernel
theorem dX8_wayFrom_13 : decode cX8_wayFrom 13 = .ok (.bipush (-9), 2) := by decide +kernel
theorem dX8_wayFrom_15 : decode cX8_wayFrom 15 = .ok (.iastore, 1) := by decide +kernel
theorem dX8_wayFrom_16 : decode cX8_wayFrom 16 = .ok (.aload_n 0, 1) := by decide +kernel
theorem dX8_wayFrom_17 : decode cX8_wayFrom 17 = .ok (.getfield 47, 3) := by decide +kernel
theorem dX8_wayFrom_20 : decode cX8_wayFrom 20 = .ok (.iload_n 2, 1) := by decide +kernel
theorem dX8_wayFrom_21 : decode cX8_wayFrom 21 = .ok (.bipush (-9), 2) := by decide +kernel
theorem dX8_wayFrom_23 : decode cX8_wayFrom 23 = .ok (.iastore, 1) := by decide +kernel
theorem dX8_wayFrom_24 : decode cX8_wayFrom 24 = .ok (.iinc 2 1, 3) := by decide +kernel
theorem dX8_wayFrom_27 : decode cX8_wayFrom 27 = .ok (.goto (-25), 3) := by decide +kernel
theorem dX8_wayFrom_30 : decode cX8_wayFrom 30 = .ok (.iconst 1, 1) := by decide +kernel
theorem dX8_wayFrom_31 : decode cX8_wayFrom 31 = .ok (.istore_n 2, 1) := by decide +kernel
theorem dX8_wayFrom_32 : decode cX8_wayFrom 32 = .ok (.aload_n 0, 1) := by decide +kernel
theorem dX8_wayFrom_33 : decode cX8_wayFrom 33 = .ok (.getfield 50, 3) := by decide +kernel
theorem dX8_wayFrom_36 : decode cX8_wayFrom 36 = .ok (.iconst 0, 1) := by decide +kernel
theorem dX8_wayFrom_37 : decode cX8_wayFrom 37 = .ok (.iload_n 1, 1) := by decide +kernel
theorem dX8_wayFrom_38 : decode cX8_wayFrom 38 = .ok (.iastore, 1) := by decide +kernel
theorem dX8_wayFrom_39 : decode cX8_wayFrom 39 = .ok (.aload_n 0, 1) := by decide +kernel
theorem dX8_wayFrom_40 : decode cX8_wayFrom 40 = .ok (.getfield 47, 3) := by decide +kernel
theorem dX8_wayFrom_43 : decode cX8_wayFrom 43 = .ok (.iload_n 1, 1) := by decide +kernel
theorem dX8_wayFrom_44 : decode cX8_wayFrom 44 = .ok (.iconst (-1), 1) := by decide +kernel
theorem dX8_wayFrom_45 : decode cX8_wayFrom 45 = .ok (.iastore, 1) := by decide +kernel
theorem dX8_wayFrom_46 : decode cX8_wayFrom 46 = .ok (.iconst 0, 1) := by decide +kernel
theorem dX8_wayFrom_47 : decode cX8_wayFrom 47 = .ok (.istore_n 3, 1) := by decide +kernel
theorem dX8_wayFrom_48 : decode cX8_wayFrom 48 = .ok (.iload_n 3, 1) := by decide +kernel
theorem dX8_wayFrom_49 : decode cX8_wayFrom 49 = .ok (.iload_n 2, 1) := by decide +kernel
theorem dX8_wayFrom_50 : decode cX8_wayFrom 50 = .ok (.if_icmp .ge 183, 3) := by decide +kernel
theorem dX8_wayFrom_53 : decode cX8_wayFrom 53 = .ok (.aload_n 0, 1) := by decide +kernel
theorem dX8_wayFrom_54 : decode cX8_wayFrom 54 = .ok (.getfield 50, 3) := by decide +kernel
theorem dX8_wayFrom_57 : decode cX8_wayFrom 57 = .ok (.iload_n 3, 1) := by decide +kernel
theorem dX8_wayFrom_58 : decode cX8_wayFrom 58 = .ok (.iaload, 1) := by decide +kernel
theorem dX8_wayFrom_59 : decode cX8_wayFrom 59 = .ok (.istore 4, 2) := by decide +kernel
theorem dX8_wayFrom_61 : decode cX8_wayFrom 61 = .ok (.iconst 0, 1) := by decide +kernel
theorem dX8_wayFrom_62 : decode cX8_wayFrom 62 = .ok (.istore 5, 2) := by decide +kernel
theorem dX8_wayFrom_64 : decode cX8_wayFrom 64 = .ok (.iload 5, 2) := by decide +kernel
theorem dX8_wayFrom_66 : decode cX8_wayFrom 66 = .ok (.aload_n 0, 1) := by decide +kernel
theorem dX8_wayFrom_67 : decode cX8_wayFrom 67 = .ok (.invokevirtual 84, 3) := by decide +kernel
theorem dX8_wayFrom_70 : decode cX8_wayFrom 70 = .ok (.if_icmp .ge 157, 3) := by decide +kernel
theorem dX8_wayFrom_73 : decode cX8_wayFrom 73 = .ok (.aload_n 0, 1) := by decide +kernel
theorem dX8_wayFrom_74 : decode cX8_wayFrom 74 = .ok (.getfield 32, 3) := by decide +kernel
theorem dX8_wayFrom_77 : decode cX8_wayFrom 77 = .ok (.bipush 6, 2) := by decide +kernel
theorem dX8_wayFrom_79 : decode cX8_wayFrom 79 = .ok (.iload 4, 2) := by decide +kernel
theorem dX8_wayFrom_81 : decode cX8_wayFrom 81 = .ok (.imul, 1) := by decide +kernel
theorem dX8_wayFrom_82 : decode cX8_wayFrom 82 = .ok (.iload 5, 2) := by decide +kernel
theorem dX8_wayFrom_84 : decode cX8_wayFrom 84 = .ok (.iadd, 1) := by decide +kernel
theorem dX8_wayFrom_85 : decode cX8_wayFrom 85 = .ok (.iaload, 1) := by decide +kernel
theorem dX8_wayFrom_86 : decode cX8_wayFrom 86 = .ok (.ifCond .ge 135, 3) := by decide +kernel
theorem dX8_wayFrom_89 : decode cX8_wayFrom 89 = .ok (.aload_n 0, 1) := by decide +kernel
theorem dX8_wayFrom_90 : decode cX8_wayFrom 90 = .ok (.getfield 35, 3) := by decide +kernel
theorem dX8_wayFrom_93 : decode cX8_wayFrom 93 = .ok (.bipush 6, 2) := by decide +kernel
theorem dX8_wayFrom_95 : decode cX8_wayFrom 95 = .ok (.iload 4, 2) := by decide +kernel
theorem dX8_wayFrom_97 : decode cX8_wayFrom 97 = .ok (.imul, 1) := by decide +kernel
theorem dX8_wayFrom_98 : decode cX8_wayFrom 98 = .ok (.iload 5, 2) := by decide +kernel
theorem dX8_wayFrom_100 : decode cX8_wayFrom 100 = .ok (.iadd, 1) := by decide +kernel
theorem dX8_wayFrom_101 : decode cX8_wayFrom 101 = .ok (.baload, 1) := by decide +kernel
theorem dX8_wayFrom_102 : decode cX8_wayFrom 102 = .ok (.ifCond .ne 119, 3) := by decide +kernel
theorem dX8_wayFrom_105 : decode cX8_wayFrom 105 = .ok (.aload_n 0, 1) := by decide +kernel
theorem dX8_wayFrom_106 : decode cX8_wayFrom 106 = .ok (.getfield 44, 3) := by decide +kernel
theorem dX8_wayFrom_109 : decode cX8_wayFrom 109 = .ok (.iload 5, 2) := by decide +kernel
theorem dX8_wayFrom_111 : decode cX8_wayFrom 111 = .ok (.iaload, 1) := by decide +kernel
theorem dX8_wayFrom_112 : decode cX8_wayFrom 112 = .ok (.bipush (-9), 2) := by decide +kernel
theorem dX8_wayFrom_114 : decode cX8_wayFrom 114 = .ok (.if_icmp .ne 107, 3) := by decide +kernel
theorem dX8_wayFrom_117 : decode cX8_wayFrom 117 = .ok (.aload_n 0, 1) := by decide +kernel
theorem dX8_wayFrom_118 : decode cX8_wayFrom 118 = .ok (.getfield 44, 3) := by decide +kernel
theorem dX8_wayFrom_121 : decode cX8_wayFrom 121 = .ok (.iload 5, 2) := by decide +kernel
theorem dX8_wayFrom_123 : decode cX8_wayFrom 123 = .ok (.iload 4, 2) := by decide +kernel
theorem dX8_wayFrom_125 : decode cX8_wayFrom 125 = .ok (.iastore, 1) := by decide +kernel
theorem dX8_wayFrom_126 : decode cX8_wayFrom 126 = .ok (.aload_n 0, 1) := by decide +kernel
theorem dX8_wayFrom_127 : decode cX8_wayFrom 127 = .ok (.getfield 41, 3) := by decide +kernel
theorem dX8_wayFrom_130 : decode cX8_wayFrom 130 = .ok (.iload 5, 2) := by decide +kernel
theorem dX8_wayFrom_132 : decode cX8_wayFrom 132 = .ok (.iaload, 1) := by decide +kernel
theorem dX8_wayFrom_133 : decode cX8_wayFrom 133 = .ok (.ifCond .le 6, 3) := by decide +kernel
theorem dX8_wayFrom_136 : decode cX8_wayFrom 136 = .ok (.iload 5, 2) := by decide +kernel
theorem dX8_wayFrom_138 : decode cX8_wayFrom 138 = .ok (.ireturn, 1) := by decide +kernel
theorem dX8_wayFrom_139 : decode cX8_wayFrom 139 = .ok (.iconst 0, 1) := by decide +kernel
theorem dX8_wayFrom_140 : decode cX8_wayFrom 140 = .ok (.istore 6, 2) := by decide +kernel
theorem dX8_wayFrom_142 : decode cX8_wayFrom 142 = .ok (.iload 6, 2) := by decide +kernel
theorem dX8_wayFrom_144 : decode cX8_wayFrom 144 = .ok (.aload_n 0, 1) := by decide +kernel
theorem dX8_wayFrom_145 : decode cX8_wayFrom 145 = .ok (.invokevirtual 76, 3) := by decide +kernel
theorem dX8_wayFrom_148 : decode cX8_wayFrom 148 = .ok (.if_icmp .ge 73, 3) := by decide +kernel
theorem dX8_wayFrom_151 : decode cX8_wayFrom 151 = .ok (.aload_n 0, 1) := by decide +kernel
theorem dX8_wayFrom_152 : decode cX8_wayFrom 152 = .ok (.getfield 32, 3) := by decide +kernel
theorem dX8_wayFrom_155 : decode cX8_wayFrom 155 = .ok (.bipush 6, 2) := by decide +kernel
theorem dX8_wayFrom_157 : decode cX8_wayFrom 157 = .ok (.iload 6, 2) := by decide +kernel
theorem dX8_wayFrom_159 : decode cX8_wayFrom 159 = .ok (.imul, 1) := by decide +kernel
theorem dX8_wayFrom_160 : decode cX8_wayFrom 160 = .ok (.iload 5, 2) := by decide +kernel
theorem dX8_wayFrom_162 : decode cX8_wayFrom 162 = .ok (.iadd, 1) := by decide +kernel
theorem dX8_wayFrom_163 : decode cX8_wayFrom 163 = .ok (.iaload, 1) := by decide +kernel
theorem dX8_wayFrom_164 : decode cX8_wayFrom 164 = .ok (.ifCond .ge 51, 3) := by decide +kernel
theorem dX8_wayFrom_167 : decode cX8_wayFrom 167 = .ok (.aload_n 0, 1) := by decide +kernel
theorem dX8_wayFrom_168 : decode cX8_wayFrom 168 = .ok (.getfield 35, 3) := by decide +kernel
theorem dX8_wayFrom_171 : decode cX8_wayFrom 171 = .ok (.bipush 6, 2) := by decide +kernel
theorem dX8_wayFrom_173 : decode cX8_wayFrom 173 = .ok (.iload 6, 2) := by decide +kernel
theorem dX8_wayFrom_175 : decode cX8_wayFrom 175 = .ok (.imul, 1) := by decide +kernel
theorem dX8_wayFrom_176 : decode cX8_wayFrom 176 = .ok (.iload 5, 2) := by decide +kernel
theorem dX8_wayFrom_178 : decode cX8_wayFrom 178 = .ok (.iadd, 1) := by decide +kernel
theorem dX8_wayFrom_179 : decode cX8_wayFrom 179 = .ok (.baload, 1) := by decide +kernel
theorem dX8_wayFrom_180 : decode cX8_wayFrom 180 = .ok (.ifCond .eq 35, 3) := by decide +kernel
theorem dX8_wayFrom_183 : decode cX8_wayFrom 183 = .ok (.aload_n 0, 1) := by decide +kernel
theorem dX8_wayFrom_184 : decode cX8_wayFrom 184 = .ok (.getfield 47, 3) := by decide +kernel
theorem dX8_wayFrom_187 : decode cX8_wayFrom 187 = .ok (.iload 6, 2) := by decide +kernel
theorem dX8_wayFrom_189 : decode cX8_wayFrom 189 = .ok (.iaload, 1) := by decide +kernel
theorem dX8_wayFrom_190 : decode cX8_wayFrom 190 = .ok (.bipush (-9), 2) := by decide +kernel
theorem dX8_wayFrom_192 : decode cX8_wayFrom 192 = .ok (.if_icmp .ne 23, 3) := by decide +kernel
theorem dX8_wayFrom_195 : decode cX8_wayFrom 195 = .ok (.aload_n 0, 1) := by decide +kernel
theorem dX8_wayFrom_196 : decode cX8_wayFrom 196 = .ok (.getfield 47, 3) := by decide +kernel
theorem dX8_wayFrom_199 : decode cX8_wayFrom 199 = .ok (.iload 6, 2) := by decide +kernel
theorem dX8_wayFrom_201 : decode cX8_wayFrom 201 = .ok (.iload 5, 2) := by decide +kernel
theorem dX8_wayFrom_203 : decode cX8_wayFrom 203 = .ok (.iastore, 1) := by decide +kernel
theorem dX8_wayFrom_204 : decode cX8_wayFrom 204 = .ok (.aload_n 0, 1) := by decide +kernel
theorem dX8_wayFrom_205 : decode cX8_wayFrom 205 = .ok (.getfield 50, 3) := by decide +kernel
theorem dX8_wayFrom_208 : decode cX8_wayFrom 208 = .ok (.iload_n 2, 1) := by decide +kernel
theorem dX8_wayFrom_209 : decode cX8_wayFrom 209 = .ok (.iload 6, 2) := by decide +kernel
theorem dX8_wayFrom_211 : decode cX8_wayFrom 211 = .ok (.iastore, 1) := by decide +kernel
theorem dX8_wayFrom_212 : decode cX8_wayFrom 212 = .ok (.iinc 2 1, 3) := by decide +kernel
theorem dX8_wayFrom_215 : decode cX8_wayFrom 215 = .ok (.iinc 6 1, 3) := by decide +kernel
theorem dX8_wayFrom_218 : decode cX8_wayFrom 218 = .ok (.goto (-76), 3) := by decide +kernel
theorem dX8_wayFrom_221 : decode cX8_wayFrom 221 = .ok (.iinc 5 1, 3) := by decide +kernel
theorem dX8_wayFrom_224 : decode cX8_wayFrom 224 = .ok (.goto (-160), 3) := by decide +kernel
theorem dX8_wayFrom_227 : decode cX8_wayFrom 227 = .ok (.iinc 3 1, 3) := by decide +kernel
theorem dX8_wayFrom_230 : decode cX8_wayFrom 230 = .ok (.goto (-182), 3) := by decide +kernel
theorem dX8_wayFrom_233 : decode cX8_wayFrom 233 = .ok (.bipush (-9), 2) := by decide +kernel
theorem dX8_wayFrom_235 : decode cX8_wayFrom 235 = .ok (.ireturn, 1) := by decide +kernel
theorem dX8_canFit_0 : decode cX8_canFit 0 = .ok (.iconst 0, 1) := by decide +kernel
theorem dX8_canFit_1 : decode cX8_canFit 1 = .ok (.istore_n 1, 1) := by decide +kernel
theorem dX8_canFit_2 : decode cX8_canFit 2 = .ok (.iload_n 1, 1) := by decide +kernel
theorem dX8_canFit_3 : decode cX8_canFit 3 = .ok (.bipush 36, 2) := by decide +kernel
theorem dX8_canFit_5 : decode cX8_canFit 5 = .ok (.if_icmp .ge 16, 3) := by decide +kernel
theorem dX8_canFit_8 : decode cX8_canFit 8 = .ok (.aload_n 0, 1) := by decide +kernel
theorem dX8_canFit_9 : decode cX8_canFit 9 = .ok (.getfield 35, 3) := by decide +kernel
theorem dX8_canFit_12 : decode cX8_canFit 12 = .ok (.iload_n 1, 1) := by decide +kernel
theorem dX8_canFit_13 : decode cX8_canFit 13 = .ok (.iconst 0, 1) := by decide +kernel
theorem dX8_canFit_14 : decode cX8_canFit 14 = .ok (.bastore, 1) := by decide +kernel
theorem dX8_canFit_15 : decode cX8_canFit 15 = .ok (.iinc 1 1, 3) := by decide +kernel
theorem dX8_canFit_18 : decode cX8_canFit 18 = .ok (.goto (-16), 3) := by decide +kernel
theorem dX8_canFit_21 : decode cX8_canFit 21 = .ok (.aload_n 0, 1) := by decide +kernel
theorem dX8_canFit_22 : decode cX8_canFit 22 = .ok (.invokevirtual 156, 3) := by decide +kernel
theorem dX8_canFit_25 : decode cX8_canFit 25 = .ok (.ifCond .ne 5, 3) := by decide +kernel
theorem dX8_canFit_28 : decode cX8_canFit 28 = .ok (.iconst 0, 1) := by decide +kernel
theorem dX8_canFit_29 : decode cX8_canFit 29 = .ok (.ireturn, 1) := by decide +kernel
theorem dX8_canFit_30 : decode cX8_canFit 30 = .ok (.iconst 0, 1) := by decide +kernel
theorem dX8_canFit_31 : decode cX8_canFit 31 = .ok (.istore_n 1, 1) := by decide +kernel
theorem dX8_canFit_32 : decode cX8_canFit 32 = .ok (.iload_n 1, 1) := by decide +kernel
theorem dX8_canFit_33 : decode cX8_canFit 33 = .ok (.aload_n 0, 1) := by decide +kernel
theorem dX8_canFit_34 : decode cX8_canFit 34 = .ok (.invokevirtual 76, 3) := by decide +kernel
theorem dX8_canFit_37 : decode cX8_canFit 37 = .ok (.if_icmp .ge 110, 3) := by decide +kernel
theorem dX8_canFit_40 : decode cX8_canFit 40 = .ok (.aload_n 0, 1) := by decide +kernel
theorem dX8_canFit_41 : decode cX8_canFit 41 = .ok (.getfield 38, 3) := by decide +kernel
theorem dX8_canFit_44 : decode cX8_canFit 44 = .ok (.iload_n 1, 1) := by decide +kernel
theorem dX8_canFit_45 : decode cX8_canFit 45 = .ok (.iaload, 1) := by decide +kernel
theorem dX8_canFit_46 : decode cX8_canFit 46 = .ok (.ifCond .le 95, 3) := by decide +kernel
theorem dX8_canFit_49 : decode cX8_canFit 49 = .ok (.aload_n 0, 1) := by decide +kernel
theorem dX8_canFit_50 : decode cX8_canFit 50 = .ok (.iload_n 1, 1) := by decide +kernel
theorem dX8_canFit_51 : decode cX8_canFit 51 = .ok (.invokevirtual 160, 3) := by decide +kernel
theorem dX8_canFit_54 : decode cX8_canFit 54 = .ok (.istore_n 2, 1) := by decide +kernel
theorem dX8_canFit_55 : decode cX8_canFit 55 = .ok (.iload_n 2, 1) := by decide +kernel
theorem dX8_canFit_56 : decode cX8_canFit 56 = .ok (.bipush (-9), 2) := by decide +kernel
theorem dX8_canFit_58 : decode cX8_canFit 58 = .ok (.if_icmp .ne 5, 3) := by decide +kernel
theorem dX8_canFit_61 : decode cX8_canFit 61 = .ok (.iconst 0, 1) := by decide +kernel
theorem dX8_canFit_62 : decode cX8_canFit 62 = .ok (.ireturn, 1) := by decide +kernel
theorem dX8_canFit_63 : decode cX8_canFit 63 = .ok (.aload_n 0, 1) := by decide +kernel
theorem dX8_canFit_64 : decode cX8_canFit 64 = .ok (.getfield 41, 3) := by decide +kernel
theorem dX8_canFit_67 : decode cX8_canFit 67 = .ok (.iload_n 2, 1) := by decide +kernel
theorem dX8_canFit_68 : decode cX8_canFit 68 = .ok (.dup2, 1) := by decide +kernel
theorem dX8_canFit_69 : decode cX8_canFit 69 = .ok (.iaload, 1) := by decide +kernel
theorem dX8_canFit_70 : decode cX8_canFit 70 = .ok (.iconst 1, 1) := by decide +kernel
theorem dX8_canFit_71 : decode cX8_canFit 71 = .ok (.isub, 1) := by decide +kernel
theorem dX8_canFit_72 : decode cX8_canFit 72 = .ok (.iastore, 1) := by decide +kernel
theorem dX8_canFit_73 : decode cX8_canFit 73 = .ok (.iload_n 2, 1) := by decide +kernel
theorem dX8_canFit_74 : decode cX8_canFit 74 = .ok (.ifCond .lt 54, 3) := by decide +kernel
theorem dX8_canFit_77 : decode cX8_canFit 77 = .ok (.aload_n 0, 1) := by decide +kernel
theorem dX8_canFit_78 : decode cX8_canFit 78 = .ok (.getfield 44, 3) := by decide +kernel
theorem dX8_canFit_81 : decode cX8_canFit 81 = .ok (.iload_n 2, 1) := by decide +kernel
theorem dX8_canFit_82 : decode cX8_canFit 82 = .ok (.iaload, 1) := by decide +kernel
theorem dX8_canFit_83 : decode cX8_canFit 83 = .ok (.istore_n 3, 1) := by decide +kernel
theorem dX8_canFit_84 : decode cX8_canFit 84 = .ok (.aload_n 0, 1) := by decide +kernel
theorem dX8_canFit_85 : decode cX8_canFit 85 = .ok (.getfield 47, 3) := by decide +kernel
theorem dX8_canFit_88 : decode cX8_canFit 88 = .ok (.iload_n 3, 1) := by decide +kernel
theorem dX8_canFit_89 : decode cX8_canFit 89 = .ok (.iaload, 1) := by decide +kernel
theorem dX8_canFit_90 : decode cX8_canFit 90 = .ok (.istore 4, 2) := by decide +kernel
theorem dX8_canFit_92 : decode cX8_canFit 92 = .ok (.aload_n 0, 1) := by decide +kernel
theorem dX8_canFit_93 : decode cX8_canFit 93 = .ok (.getfield 35, 3) := by decide +kernel
theorem dX8_canFit_96 : decode cX8_canFit 96 = .ok (.bipush 6, 2) := by decide +kernel
theorem dX8_canFit_98 : decode cX8_canFit 98 = .ok (.iload_n 3, 1) := by decide +kernel
theorem dX8_canFit_99 : decode cX8_canFit 99 = .ok (.imul, 1) := by decide +kernel
theorem dX8_canFit_100 : decode cX8_canFit 100 = .ok (.iload_n 2, 1) := by decide +kernel
theorem dX8_canFit_101 : decode cX8_canFit 101 = .ok (.iadd, 1) := by decide +kernel
theorem dX8_canFit_102 : decode cX8_canFit 102 = .ok (.iconst 1, 1) := by decide +kernel
theorem dX8_canFit_103 : decode cX8_canFit 103 = .ok (.bastore, 1) := by decide +kernel
theorem dX8_canFit_104 : decode cX8_canFit 104 = .ok (.iload 4, 2) := by decide +kernel
theorem dX8_canFit_106 : decode cX8_canFit 106 = .ok (.ifCond .lt 16, 3) := by decide +kernel
theorem dX8_canFit_109 : decode cX8_canFit 109 = .ok (.aload_n 0, 1) := by decide +kernel
theorem dX8_canFit_110 : decode cX8_canFit 110 = .ok (.getfield 35, 3) := by decide +kernel
theorem dX8_canFit_113 : decode cX8_canFit 113 = .ok (.bipush 6, 2) := by decide +kernel
theorem dX8_canFit_115 : decode cX8_canFit 115 = .ok (.iload_n 3, 1) := by decide +kernel
theorem dX8_canFit_116 : decode cX8_canFit 116 = .ok (.imul, 1) := by decide +kernel
theorem dX8_canFit_117 : decode cX8_canFit 117 = .ok (.iload 4, 2) := by decide +kernel
theorem dX8_canFit_119 : decode cX8_canFit 119 = .ok (.iadd, 1) := by decide +kernel
theorem dX8_canFit_120 : decode cX8_canFit 120 = .ok (.iconst 0, 1) := by decide +kernel
theorem dX8_canFit_121 : decode cX8_canFit 121 = .ok (.bastore, 1) := by decide +kernel
theorem dX8_canFit_122 : decode cX8_canFit 122 = .ok (.iload 4, 2) := by decide +kernel
theorem dX8_canFit_124 : decode cX8_canFit 124 = .ok (.istore_n 2, 1) := by decide +kernel
theorem dX8_canFit_125 : decode cX8_canFit 125 = .ok (.goto (-52), 3) := by decide +kernel
theorem dX8_canFit_128 : decode cX8_canFit 128 = .ok (.aload_n 0, 1) := by decide +kernel
theorem dX8_canFit_129 : decode cX8_canFit 129 = .ok (.getfield 38, 3) := by decide +kernel
theorem dX8_canFit_132 : decode cX8_canFit 132 = .ok (.iload_n 1, 1) := by decide +kernel
theorem dX8_canFit_133 : decode cX8_canFit 133 = .ok (.dup2, 1) := by decide +kernel
theorem dX8_canFit_134 : decode cX8_canFit 134 = .ok (.iaload, 1) := by decide +kernel
theorem dX8_canFit_135 : decode cX8_canFit 135 = .ok (.iconst 1, 1) := by decide +kernel
theorem dX8_canFit_136 : decode cX8_canFit 136 = .ok (.isub, 1) := by decide +kernel
theorem dX8_canFit_137 : decode cX8_canFit 137 = .ok (.iastore, 1) := by decide +kernel
theorem dX8_canFit_138 : decode cX8_canFit 138 = .ok (.goto (-98), 3) := by decide +kernel
theorem dX8_canFit_141 : decode cX8_canFit 141 = .ok (.iinc 1 1, 3) := by decide +kernel
theorem dX8_canFit_144 : decode cX8_canFit 144 = .ok (.goto (-112), 3) := by decide +kernel
theorem dX8_canFit_147 : decode cX8_canFit 147 = .ok (.iconst 1, 1) := by decide +kernel
theorem dX8_canFit_148 : decode cX8_canFit 148 = .ok (.ireturn, 1) := by decide +kernel
theorem dX8_gives_0 : decode cX8_gives 0 = .ok (.aload_n 0, 1) := by decide +kernel
theorem dX8_gives_1 : decode cX8_gives 1 = .ok (.invokevirtual 163, 3) := by decide +kernel
theorem dX8_gives_4 : decode cX8_gives 4 = .ok (.ifCond .ne 5, 3) := by decide +kernel
theorem dX8_gives_7 : decode cX8_gives 7 = .ok (.iconst 0, 1) := by decide +kernel
theorem dX8_gives_8 : decode cX8_gives 8 = .ok (.ireturn, 1) := by decide +kernel
theorem dX8_gives_9 : decode cX8_gives 9 = .ok (.iload_n 1, 1) := by decide +kernel
theorem dX8_gives_10 : decode cX8_gives 10 = .ok (.istore_n 3, 1) := by decide +kernel
theorem dX8_gives_11 : decode cX8_gives 11 = .ok (.iload_n 3, 1) := by decide +kernel
theorem dX8_gives_12 : decode cX8_gives 12 = .ok (.aload_n 0, 1) := by decide +kernel
theorem dX8_gives_13 : decode cX8_gives 13 = .ok (.invokevirtual 76, 3) := by decide +kernel
theorem dX8_gives_16 : decode cX8_gives 16 = .ok (.aload_n 0, 1) := by decide +kernel
theorem dX8_gives_17 : decode cX8_gives 17 = .ok (.invokevirtual 84, 3) := by decide +kernel
theorem dX8_gives_20 : decode cX8_gives 20 = .ok (.imul, 1) := by decide +kernel
theorem dX8_gives_21 : decode cX8_gives 21 = .ok (.if_icmp .ge 86, 3) := by decide +kernel
theorem dX8_gives_24 : decode cX8_gives 24 = .ok (.bipush 6, 2) := by decide +kernel
theorem dX8_gives_26 : decode cX8_gives 26 = .ok (.iload_n 3, 1) := by decide +kernel
theorem dX8_gives_27 : decode cX8_gives 27 = .ok (.aload_n 0, 1) := by decide +kernel
theorem dX8_gives_28 : decode cX8_gives 28 = .ok (.invokevirtual 84, 3) := by decide +kernel
theorem dX8_gives_31 : decode cX8_gives 31 = .ok (.idiv, 1) := by decide +kernel
theorem dX8_gives_32 : decode cX8_gives 32 = .ok (.imul, 1) := by decide +kernel
theorem dX8_gives_33 : decode cX8_gives 33 = .ok (.iload_n 3, 1) := by decide +kernel
theorem dX8_gives_34 : decode cX8_gives 34 = .ok (.aload_n 0, 1) := by decide +kernel
theorem dX8_gives_35 : decode cX8_gives 35 = .ok (.invokevirtual 84, 3) := by decide +kernel
theorem dX8_gives_38 : decode cX8_gives 38 = .ok (.irem, 1) := by decide +kernel
theorem dX8_gives_39 : decode cX8_gives 39 = .ok (.iadd, 1) := by decide +kernel
theorem dX8_gives_40 : decode cX8_gives 40 = .ok (.istore 4, 2) := by decide +kernel
theorem dX8_gives_42 : decode cX8_gives 42 = .ok (.aload_n 0, 1) := by decide +kernel
theorem dX8_gives_43 : decode cX8_gives 43 = .ok (.getfield 32, 3) := by decide +kernel
theorem dX8_gives_46 : decode cX8_gives 46 = .ok (.iload 4, 2) := by decide +kernel
theorem dX8_gives_48 : decode cX8_gives 48 = .ok (.iaload, 1) := by decide +kernel
theorem dX8_gives_49 : decode cX8_gives 49 = .ok (.ifCond .ge 52, 3) := by decide +kernel
theorem dX8_gives_52 : decode cX8_gives 52 = .ok (.aload_n 0, 1) := by decide +kernel
theorem dX8_gives_53 : decode cX8_gives 53 = .ok (.getfield 32, 3) := by decide +kernel
theorem dX8_gives_56 : decode cX8_gives 56 = .ok (.iload 4, 2) := by decide +kernel
theorem dX8_gives_58 : decode cX8_gives 58 = .ok (.iload_n 2, 1) := by decide +kernel
theorem dX8_gives_59 : decode cX8_gives 59 = .ok (.ifCond .eq 7, 3) := by decide +kernel
theorem dX8_gives_62 : decode cX8_gives 62 = .ok (.iconst 1, 1) := by decide +kernel
theorem dX8_gives_63 : decode cX8_gives 63 = .ok (.goto 4, 3) := by decide +kernel
theorem dX8_gives_66 : decode cX8_gives 66 = .ok (.iconst 0, 1) := by decide +kernel
theorem dX8_gives_67 : decode cX8_gives 67 = .ok (.iastore, 1) := by decide +kernel
theorem dX8_gives_68 : decode cX8_gives 68 = .ok (.aload_n 0, 1) := by decide +kernel
theorem dX8_gives_69 : decode cX8_gives 69 = .ok (.getfield 32, 3) := by decide +kernel
theorem dX8_gives_72 : decode cX8_gives 72 = .ok (.iload 4, 2) := by decide +kernel
theorem dX8_gives_74 : decode cX8_gives 74 = .ok (.aload_n 0, 1) := by decide +kernel
theorem dX8_gives_75 : decode cX8_gives 75 = .ok (.invokevirtual 163, 3) := by decide +kernel
theorem dX8_gives_78 : decode cX8_gives 78 = .ok (.ifCond .eq 13, 3) := by decide +kernel
theorem dX8_gives_81 : decode cX8_gives 81 = .ok (.aload_n 0, 1) := by decide +kernel
theorem dX8_gives_82 : decode cX8_gives 82 = .ok (.getfield 32, 3) := by decide +kernel
theorem dX8_gives_85 : decode cX8_gives 85 = .ok (.iload 4, 2) := by decide +kernel
theorem dX8_gives_87 : decode cX8_gives 87 = .ok (.iaload, 1) := by decide +kernel
theorem dX8_gives_88 : decode cX8_gives 88 = .ok (.goto 12, 3) := by decide +kernel
theorem dX8_gives_91 : decode cX8_gives 91 = .ok (.iconst 1, 1) := by decide +kernel
theorem dX8_gives_92 : decode cX8_gives 92 = .ok (.aload_n 0, 1) := by decide +kernel
theorem dX8_gives_93 : decode cX8_gives 93 = .ok (.getfield 32, 3) := by decide +kernel
theorem dX8_gives_96 : decode cX8_gives 96 = .ok (.iload 4, 2) := by decide +kernel
theorem dX8_gives_98 : decode cX8_gives 98 = .ok (.iaload, 1) := by decide +kernel
theorem dX8_gives_99 : decode cX8_gives 99 = .ok (.isub, 1) := by decide +kernel
theorem dX8_gives_100 : decode cX8_gives 100 = .ok (.iastore, 1) := by decide +kernel
theorem dX8_gives_101 : decode cX8_gives 101 = .ok (.iinc 3 1, 3) := by decide +kernel
theorem dX8_gives_104 : decode cX8_gives 104 = .ok (.goto (-93), 3) := by decide +kernel
theorem dX8_gives_107 : decode cX8_gives 107 = .ok (.iconst 1, 1) := by decide +kernel
theorem dX8_gives_108 : decode cX8_gives 108 = .ok (.ireturn, 1) := by decide +kernel
theorem dX8_keepsGiven_0 : decode cX8_keepsGiven 0 = .ok (.iconst 0, 1) := by decide +kernel
theorem dX8_keepsGiven_1 : decode cX8_keepsGiven 1 = .ok (.istore_n 1, 1) := by decide +kernel
theorem dX8_keepsGiven_2 : decode cX8_keepsGiven 2 = .ok (.iload_n 1, 1) := by decide +kernel
theorem dX8_keepsGiven_3 : decode cX8_keepsGiven 3 = .ok (.bipush 36, 2) := by decide +kernel
theorem dX8_keepsGiven_5 : decode cX8_keepsGiven 5 = .ok (.if_icmp .ge 21, 3) := by decide +kernel
theorem dX8_keepsGiven_8 : decode cX8_keepsGiven 8 = .ok (.aload_n 0, 1) := by decide +kernel
theorem dX8_keepsGiven_9 : decode cX8_keepsGiven 9 = .ok (.getfield 53, 3) := by decide +kernel
theorem dX8_keepsGiven_12 : decode cX8_keepsGiven 12 = .ok (.iload_n 1, 1) := by decide +kernel
theorem dX8_keepsGiven_13 : decode cX8_keepsGiven 13 = .ok (.aload_n 0, 1) := by decide +kernel
theorem dX8_keepsGiven_14 : decode cX8_keepsGiven 14 = .ok (.getfield 32, 3) := by decide +kernel
theorem dX8_keepsGiven_17 : decode cX8_keepsGiven 17 = .ok (.iload_n 1, 1) := by decide +kernel
theorem dX8_keepsGiven_18 : decode cX8_keepsGiven 18 = .ok (.iaload, 1) := by decide +kernel
theorem dX8_keepsGiven_19 : decode cX8_keepsGiven 19 = .ok (.iastore, 1) := by decide +kernel
theorem dX8_keepsGiven_20 : decode cX8_keepsGiven 20 = .ok (.iinc 1 1, 3) := by decide +kernel
theorem dX8_keepsGiven_23 : decode cX8_keepsGiven 23 = .ok (.goto (-21), 3) := by decide +kernel
theorem dX8_keepsGiven_26 : decode cX8_keepsGiven 26 = .ok (.return_, 1) := by decide +kernel
theorem dX8_findsFirst_0 : decode cX8_findsFirst 0 = .ok (.aload_n 0, 1) := by decide +kernel
theorem dX8_findsFirst_1 : decode cX8_findsFirst 1 = .ok (.invokevirtual 166, 3) := by decide +kernel
theorem dX8_findsFirst_4 : decode cX8_findsFirst 4 = .ok (.aload_n 0, 1) := by decide +kernel
theorem dX8_findsFirst_5 : decode cX8_findsFirst 5 = .ok (.iconst 0, 1) := by decide +kernel
theorem dX8_findsFirst_6 : decode cX8_findsFirst 6 = .ok (.iload_n 1, 1) := by decide +kernel
theorem dX8_findsFirst_7 : decode cX8_findsFirst 7 = .ok (.invokevirtual 169, 3) := by decide +kernel
theorem dX8_findsFirst_10 : decode cX8_findsFirst 10 = .ok (.istore_n 2, 1) := by decide +kernel
theorem dX8_findsFirst_11 : decode cX8_findsFirst 11 = .ok (.aload_n 0, 1) := by decide +kernel
theorem dX8_findsFirst_12 : decode cX8_findsFirst 12 = .ok (.invokevirtual 173, 3) := by decide +kernel
theorem dX8_findsFirst_15 : decode cX8_findsFirst 15 = .ok (.iload_n 2, 1) := by decide +kernel
theorem dX8_findsFirst_16 : decode cX8_findsFirst 16 = .ok (.ireturn, 1) := by decide +kernel
theorem dX8_findsNext_0 : decode cX8_findsNext 0 = .ok (.aload_n 0, 1) := by decide +kernel
theorem dX8_findsNext_1 : decode cX8_findsNext 1 = .ok (.invokevirtual 76, 3) := by decide +kernel
theorem dX8_findsNext_4 : decode cX8_findsNext 4 = .ok (.aload_n 0, 1) := by decide +kernel
theorem dX8_findsNext_5 : decode cX8_findsNext 5 = .ok (.invokevirtual 84, 3) := by decide +kernel
theorem dX8_findsNext_8 : decode cX8_findsNext 8 = .ok (.imul, 1) := by decide +kernel
theorem dX8_findsNext_9 : decode cX8_findsNext 9 = .ok (.istore_n 1, 1) := by decide +kernel
theorem dX8_findsNext_10 : decode cX8_findsNext 10 = .ok (.iload_n 1, 1) := by decide +kernel
theorem dX8_findsNext_11 : decode cX8_findsNext 11 = .ok (.iconst 1, 1) := by decide +kernel
theorem dX8_findsNext_12 : decode cX8_findsNext 12 = .ok (.isub, 1) := by decide +kernel
theorem dX8_findsNext_13 : decode cX8_findsNext 13 = .ok (.istore_n 2, 1) := by decide +kernel
theorem dX8_findsNext_14 : decode cX8_findsNext 14 = .ok (.iload_n 2, 1) := by decide +kernel
theorem dX8_findsNext_15 : decode cX8_findsNext 15 = .ok (.ifCond .lt 131, 3) := by decide +kernel
theorem dX8_findsNext_18 : decode cX8_findsNext 18 = .ok (.bipush 6, 2) := by decide +kernel
theorem dX8_findsNext_20 : decode cX8_findsNext 20 = .ok (.iload_n 2, 1) := by decide +kernel
theorem dX8_findsNext_21 : decode cX8_findsNext 21 = .ok (.aload_n 0, 1) := by decide +kernel
theorem dX8_findsNext_22 : decode cX8_findsNext 22 = .ok (.invokevirtual 84, 3) := by decide +kernel
theorem dX8_findsNext_25 : decode cX8_findsNext 25 = .ok (.idiv, 1) := by decide +kernel
theorem dX8_findsNext_26 : decode cX8_findsNext 26 = .ok (.imul, 1) := by decide +kernel
theorem dX8_findsNext_27 : decode cX8_findsNext 27 = .ok (.iload_n 2, 1) := by decide +kernel
theorem dX8_findsNext_28 : decode cX8_findsNext 28 = .ok (.aload_n 0, 1) := by decide +kernel
theorem dX8_findsNext_29 : decode cX8_findsNext 29 = .ok (.invokevirtual 84, 3) := by decide +kernel
theorem dX8_findsNext_32 : decode cX8_findsNext 32 = .ok (.irem, 1) := by decide +kernel
theorem dX8_findsNext_33 : decode cX8_findsNext 33 = .ok (.iadd, 1) := by decide +kernel
theorem dX8_findsNext_34 : decode cX8_findsNext 34 = .ok (.istore_n 3, 1) := by decide +kernel
theorem dX8_findsNext_35 : decode cX8_findsNext 35 = .ok (.aload_n 0, 1) := by decide +kernel
theorem dX8_findsNext_36 : decode cX8_findsNext 36 = .ok (.getfield 53, 3) := by decide +kernel
theorem dX8_findsNext_39 : decode cX8_findsNext 39 = .ok (.iload_n 3, 1) := by decide +kernel
theorem dX8_findsNext_40 : decode cX8_findsNext 40 = .ok (.iaload, 1) := by decide +kernel
theorem dX8_findsNext_41 : decode cX8_findsNext 41 = .ok (.ifCond .ne 99, 3) := by decide +kernel
theorem dX8_findsNext_44 : decode cX8_findsNext 44 = .ok (.aload_n 0, 1) := by decide +kernel
theorem dX8_findsNext_45 : decode cX8_findsNext 45 = .ok (.iload_n 2, 1) := by decide +kernel
theorem dX8_findsNext_46 : decode cX8_findsNext 46 = .ok (.aload_n 0, 1) := by decide +kernel
theorem dX8_findsNext_47 : decode cX8_findsNext 47 = .ok (.invokevirtual 84, 3) := by decide +kernel
theorem dX8_findsNext_50 : decode cX8_findsNext 50 = .ok (.idiv, 1) := by decide +kernel
theorem dX8_findsNext_51 : decode cX8_findsNext 51 = .ok (.iload_n 2, 1) := by decide +kernel
theorem dX8_findsNext_52 : decode cX8_findsNext 52 = .ok (.aload_n 0, 1) := by decide +kernel
theorem dX8_findsNext_53 : decode cX8_findsNext 53 = .ok (.invokevirtual 84, 3) := by decide +kernel
theorem dX8_findsNext_56 : decode cX8_findsNext 56 = .ok (.irem, 1) := by decide +kernel
theorem dX8_findsNext_57 : decode cX8_findsNext 57 = .ok (.invokevirtual 145, 3) := by decide +kernel
theorem dX8_findsNext_60 : decode cX8_findsNext 60 = .ok (.ifCond .ne 80, 3) := by decide +kernel
theorem dX8_findsNext_63 : decode cX8_findsNext 63 = .ok (.aload_n 0, 1) := by decide +kernel
theorem dX8_findsNext_64 : decode cX8_findsNext 64 = .ok (.invokevirtual 166, 3) := by decide +kernel
theorem dX8_findsNext_67 : decode cX8_findsNext 67 = .ok (.iconst 0, 1) := by decide +kernel
theorem dX8_findsNext_68 : decode cX8_findsNext 68 = .ok (.istore 4, 2) := by decide +kernel
theorem dX8_findsNext_70 : decode cX8_findsNext 70 = .ok (.iload 4, 2) := by decide +kernel
theorem dX8_findsNext_72 : decode cX8_findsNext 72 = .ok (.iload_n 2, 1) := by decide +kernel
theorem dX8_findsNext_73 : decode cX8_findsNext 73 = .ok (.if_icmp .ge 43, 3) := by decide +kernel
theorem dX8_findsNext_76 : decode cX8_findsNext 76 = .ok (.bipush 6, 2) := by decide +kernel
theorem dX8_findsNext_78 : decode cX8_findsNext 78 = .ok (.iload 4, 2) := by decide +kernel
theorem dX8_findsNext_80 : decode cX8_findsNext 80 = .ok (.aload_n 0, 1) := by decide +kernel
theorem dX8_findsNext_81 : decode cX8_findsNext 81 = .ok (.invokevirtual 84, 3) := by decide +kernel
theorem dX8_findsNext_84 : decode cX8_findsNext 84 = .ok (.idiv, 1) := by decide +kernel
theorem dX8_findsNext_85 : decode cX8_findsNext 85 = .ok (.imul, 1) := by decide +kernel
theorem dX8_findsNext_86 : decode cX8_findsNext 86 = .ok (.iload 4, 2) := by decide +kernel
theorem dX8_findsNext_88 : decode cX8_findsNext 88 = .ok (.aload_n 0, 1) := by decide +kernel
theorem dX8_findsNext_89 : decode cX8_findsNext 89 = .ok (.invokevirtual 84, 3) := by decide +kernel
theorem dX8_findsNext_92 : decode cX8_findsNext 92 = .ok (.irem, 1) := by decide +kernel
theorem dX8_findsNext_93 : decode cX8_findsNext 93 = .ok (.iadd, 1) := by decide +kernel
theorem dX8_findsNext_94 : decode cX8_findsNext 94 = .ok (.istore 5, 2) := by decide +kernel
theorem dX8_findsNext_96 : decode cX8_findsNext 96 = .ok (.aload_n 0, 1) := by decide +kernel
theorem dX8_findsNext_97 : decode cX8_findsNext 97 = .ok (.getfield 32, 3) := by decide +kernel
theorem dX8_findsNext_100 : decode cX8_findsNext 100 = .ok (.iload 5, 2) := by decide +kernel
theorem dX8_findsNext_102 : decode cX8_findsNext 102 = .ok (.aload_n 0, 1) := by decide +kernel
theorem dX8_findsNext_103 : decode cX8_findsNext 103 = .ok (.getfield 53, 3) := by decide +kernel
theorem dX8_findsNext_106 : decode cX8_findsNext 106 = .ok (.iload 5, 2) := by decide +kernel
theorem dX8_findsNext_108 : decode cX8_findsNext 108 = .ok (.iaload, 1) := by decide +kernel
theorem dX8_findsNext_109 : decode cX8_findsNext 109 = .ok (.iastore, 1) := by decide +kernel
theorem dX8_findsNext_110 : decode cX8_findsNext 110 = .ok (.iinc 4 1, 3) := by decide +kernel
theorem dX8_findsNext_113 : decode cX8_findsNext 113 = .ok (.goto (-43), 3) := by decide +kernel
theorem dX8_findsNext_116 : decode cX8_findsNext 116 = .ok (.aload_n 0, 1) := by decide +kernel
theorem dX8_findsNext_117 : decode cX8_findsNext 117 = .ok (.getfield 32, 3) := by decide +kernel
theorem dX8_findsNext_120 : decode cX8_findsNext 120 = .ok (.iload_n 3, 1) := by decide +kernel
theorem dX8_findsNext_121 : decode cX8_findsNext 121 = .ok (.iconst 1, 1) := by decide +kernel
theorem dX8_findsNext_122 : decode cX8_findsNext 122 = .ok (.iastore, 1) := by decide +kernel
theorem dX8_findsNext_123 : decode cX8_findsNext 123 = .ok (.aload_n 0, 1) := by decide +kernel
theorem dX8_findsNext_124 : decode cX8_findsNext 124 = .ok (.iload_n 2, 1) := by decide +kernel
theorem dX8_findsNext_125 : decode cX8_findsNext 125 = .ok (.iconst 1, 1) := by decide +kernel
theorem dX8_findsNext_126 : decode cX8_findsNext 126 = .ok (.iadd, 1) := by decide +kernel
theorem dX8_findsNext_127 : decode cX8_findsNext 127 = .ok (.iconst 0, 1) := by decide +kernel
theorem dX8_findsNext_128 : decode cX8_findsNext 128 = .ok (.invokevirtual 169, 3) := by decide +kernel
theorem dX8_findsNext_131 : decode cX8_findsNext 131 = .ok (.ifCond .eq 9, 3) := by decide +kernel
theorem dX8_findsNext_134 : decode cX8_findsNext 134 = .ok (.aload_n 0, 1) := by decide +kernel
theorem dX8_findsNext_135 : decode cX8_findsNext 135 = .ok (.invokevirtual 173, 3) := by decide +kernel
theorem dX8_findsNext_138 : decode cX8_findsNext 138 = .ok (.iconst 1, 1) := by decide +kernel
theorem dX8_findsNext_139 : decode cX8_findsNext 139 = .ok (.ireturn, 1) := by decide +kernel
theorem dX8_findsNext_140 : decode cX8_findsNext 140 = .ok (.iinc 2 (-1), 3) := by decide +kernel
theorem dX8_findsNext_143 : decode cX8_findsNext 143 = .ok (.goto (-129), 3) := by decide +kernel
theorem dX8_findsNext_146 : decode cX8_findsNext 146 = .ok (.iconst 0, 1) := by decide +kernel
theorem dX8_findsNext_147 : decode cX8_findsNext 147 = .ok (.ireturn, 1) := by decide +kernel
theorem dX8_tellsCells_0 : decode cX8_tellsCells 0 = .ok (.iconst 0, 1) := by decide +kernel
theorem dX8_tellsCells_1 : decode cX8_tellsCells 1 = .ok (.istore_n 1, 1) := by decide +kernel
theorem dX8_tellsCells_2 : decode cX8_tellsCells 2 = .ok (.iload_n 1, 1) := by decide +kernel
theorem dX8_tellsCells_3 : decode cX8_tellsCells 3 = .ok (.aload_n 0, 1) := by decide +kernel
theorem dX8_tellsCells_4 : decode cX8_tellsCells 4 = .ok (.invokevirtual 76, 3) := by decide +kernel
theorem dX8_tellsCells_7 : decode cX8_tellsCells 7 = .ok (.if_icmp .ge 50, 3) := by decide +kernel
theorem dX8_tellsCells_10 : decode cX8_tellsCells 10 = .ok (.iconst 0, 1) := by decide +kernel
theorem dX8_tellsCells_11 : decode cX8_tellsCells 11 = .ok (.istore_n 2, 1) := by decide +kernel
theorem dX8_tellsCells_12 : decode cX8_tellsCells 12 = .ok (.iload_n 2, 1) := by decide +kernel
theorem dX8_tellsCells_13 : decode cX8_tellsCells 13 = .ok (.aload_n 0, 1) := by decide +kernel
theorem dX8_tellsCells_14 : decode cX8_tellsCells 14 = .ok (.invokevirtual 84, 3) := by decide +kernel
theorem dX8_tellsCells_17 : decode cX8_tellsCells 17 = .ok (.if_icmp .ge 34, 3) := by decide +kernel
theorem dX8_tellsCells_20 : decode cX8_tellsCells 20 = .ok (.aload_n 0, 1) := by decide +kernel
theorem dX8_tellsCells_21 : decode cX8_tellsCells 21 = .ok (.getfield 53, 3) := by decide +kernel
theorem dX8_tellsCells_24 : decode cX8_tellsCells 24 = .ok (.bipush 6, 2) := by decide +kernel
theorem dX8_tellsCells_26 : decode cX8_tellsCells 26 = .ok (.iload_n 1, 1) := by decide +kernel
theorem dX8_tellsCells_27 : decode cX8_tellsCells 27 = .ok (.imul, 1) := by decide +kernel
theorem dX8_tellsCells_28 : decode cX8_tellsCells 28 = .ok (.iload_n 2, 1) := by decide +kernel
theorem dX8_tellsCells_29 : decode cX8_tellsCells 29 = .ok (.iadd, 1) := by decide +kernel
theorem dX8_tellsCells_30 : decode cX8_tellsCells 30 = .ok (.aload_n 0, 1) := by decide +kernel
theorem dX8_tellsCells_31 : decode cX8_tellsCells 31 = .ok (.iload_n 1, 1) := by decide +kernel
theorem dX8_tellsCells_32 : decode cX8_tellsCells 32 = .ok (.iload_n 2, 1) := by decide +kernel
theorem dX8_tellsCells_33 : decode cX8_tellsCells 33 = .ok (.invokevirtual 98, 3) := by decide +kernel
theorem dX8_tellsCells_36 : decode cX8_tellsCells 36 = .ok (.ifCond .eq 7, 3) := by decide +kernel
theorem dX8_tellsCells_39 : decode cX8_tellsCells 39 = .ok (.iconst 1, 1) := by decide +kernel
theorem dX8_tellsCells_40 : decode cX8_tellsCells 40 = .ok (.goto 4, 3) := by decide +kernel
theorem dX8_tellsCells_43 : decode cX8_tellsCells 43 = .ok (.iconst 0, 1) := by decide +kernel
theorem dX8_tellsCells_44 : decode cX8_tellsCells 44 = .ok (.iastore, 1) := by decide +kernel
theorem dX8_tellsCells_45 : decode cX8_tellsCells 45 = .ok (.iinc 2 1, 3) := by decide +kernel
theorem dX8_tellsCells_48 : decode cX8_tellsCells 48 = .ok (.goto (-36), 3) := by decide +kernel
theorem dX8_tellsCells_51 : decode cX8_tellsCells 51 = .ok (.iinc 1 1, 3) := by decide +kernel
theorem dX8_tellsCells_54 : decode cX8_tellsCells 54 = .ok (.goto (-52), 3) := by decide +kernel
theorem dX8_tellsCells_57 : decode cX8_tellsCells 57 = .ok (.return_, 1) := by decide +kernel
theorem dX8_differsBy_0 : decode cX8_differsBy 0 = .ok (.iconst 0, 1) := by decide +kernel
theorem dX8_differsBy_1 : decode cX8_differsBy 1 = .ok (.istore_n 1, 1) := by decide +kernel
theorem dX8_differsBy_2 : decode cX8_differsBy 2 = .ok (.iconst 0, 1) := by decide +kernel
theorem dX8_differsBy_3 : decode cX8_differsBy 3 = .ok (.istore_n 2, 1) := by decide +kernel
theorem dX8_differsBy_4 : decode cX8_differsBy 4 = .ok (.iload_n 2, 1) := by decide +kernel
theorem dX8_differsBy_5 : decode cX8_differsBy 5 = .ok (.aload_n 0, 1) := by decide +kernel
theorem dX8_differsBy_6 : decode cX8_differsBy 6 = .ok (.invokevirtual 76, 3) := by decide +kernel
theorem dX8_differsBy_9 : decode cX8_differsBy 9 = .ok (.if_icmp .ge 62, 3) := by decide +kernel
theorem dX8_differsBy_12 : decode cX8_differsBy 12 = .ok (.iconst 0, 1) := by decide +kernel
theorem dX8_differsBy_13 : decode cX8_differsBy 13 = .ok (.istore_n 3, 1) := by decide +kernel
theorem dX8_differsBy_14 : decode cX8_differsBy 14 = .ok (.iload_n 3, 1) := by decide +kernel
theorem dX8_differsBy_15 : decode cX8_differsBy 15 = .ok (.aload_n 0, 1) := by decide +kernel
theorem dX8_differsBy_16 : decode cX8_differsBy 16 = .ok (.invokevirtual 84, 3) := by decide +kernel
theorem dX8_differsBy_19 : decode cX8_differsBy 19 = .ok (.if_icmp .ge 46, 3) := by decide +kernel
theorem dX8_differsBy_22 : decode cX8_differsBy 22 = .ok (.iload_n 1, 1) := by decide +kernel
theorem dX8_differsBy_23 : decode cX8_differsBy 23 = .ok (.aload_n 0, 1) := by decide +kernel
theorem dX8_differsBy_24 : decode cX8_differsBy 24 = .ok (.getfield 53, 3) := by decide +kernel
theorem dX8_differsBy_27 : decode cX8_differsBy 27 = .ok (.bipush 6, 2) := by decide +kernel
theorem dX8_differsBy_29 : decode cX8_differsBy 29 = .ok (.iload_n 2, 1) := by decide +kernel
theorem dX8_differsBy_30 : decode cX8_differsBy 30 = .ok (.imul, 1) := by decide +kernel
theorem dX8_differsBy_31 : decode cX8_differsBy 31 = .ok (.iload_n 3, 1) := by decide +kernel
theorem dX8_differsBy_32 : decode cX8_differsBy 32 = .ok (.iadd, 1) := by decide +kernel
theorem dX8_differsBy_33 : decode cX8_differsBy 33 = .ok (.iaload, 1) := by decide +kernel
theorem dX8_differsBy_34 : decode cX8_differsBy 34 = .ok (.iconst 1, 1) := by decide +kernel
theorem dX8_differsBy_35 : decode cX8_differsBy 35 = .ok (.if_icmp .ne 7, 3) := by decide +kernel
theorem dX8_differsBy_38 : decode cX8_differsBy 38 = .ok (.iconst 1, 1) := by decide +kernel
theorem dX8_differsBy_39 : decode cX8_differsBy 39 = .ok (.goto 4, 3) := by decide +kernel
theorem dX8_differsBy_42 : decode cX8_differsBy 42 = .ok (.iconst 0, 1) := by decide +kernel
theorem dX8_differsBy_43 : decode cX8_differsBy 43 = .ok (.aload_n 0, 1) := by decide +kernel
theorem dX8_differsBy_44 : decode cX8_differsBy 44 = .ok (.iload_n 2, 1) := by decide +kernel
theorem dX8_differsBy_45 : decode cX8_differsBy 45 = .ok (.iload_n 3, 1) := by decide +kernel
theorem dX8_differsBy_46 : decode cX8_differsBy 46 = .ok (.invokevirtual 98, 3) := by decide +kernel
theorem dX8_differsBy_49 : decode cX8_differsBy 49 = .ok (.if_icmp .ne 7, 3) := by decide +kernel
theorem dX8_differsBy_52 : decode cX8_differsBy 52 = .ok (.iconst 0, 1) := by decide +kernel
theorem dX8_differsBy_53 : decode cX8_differsBy 53 = .ok (.goto 4, 3) := by decide +kernel
theorem dX8_differsBy_56 : decode cX8_differsBy 56 = .ok (.iconst 1, 1) := by decide +kernel
theorem dX8_differsBy_57 : decode cX8_differsBy 57 = .ok (.iadd, 1) := by decide +kernel
theorem dX8_differsBy_58 : decode cX8_differsBy 58 = .ok (.istore_n 1, 1) := by decide +kernel
theorem dX8_differsBy_59 : decode cX8_differsBy 59 = .ok (.iinc 3 1, 3) := by decide +kernel
theorem dX8_differsBy_62 : decode cX8_differsBy 62 = .ok (.goto (-48), 3) := by decide +kernel
theorem dX8_differsBy_65 : decode cX8_differsBy 65 = .ok (.iinc 2 1, 3) := by decide +kernel
theorem dX8_differsBy_68 : decode cX8_differsBy 68 = .ok (.goto (-64), 3) := by decide +kernel
theorem dX8_differsBy_71 : decode cX8_differsBy 71 = .ok (.iload_n 1, 1) := by decide +kernel
theorem dX8_differsBy_72 : decode cX8_differsBy 72 = .ok (.ireturn, 1) := by decide +kernel
theorem dX8_takesPicture_0 : decode cX8_takesPicture 0 = .ok (.aload_n 0, 1) := by decide +kernel
theorem dX8_takesPicture_1 : decode cX8_takesPicture 1 = .ok (.invokevirtual 176, 3) := by decide +kernel
theorem dX8_takesPicture_4 : decode cX8_takesPicture 4 = .ok (.istore_n 1, 1) := by decide +kernel
theorem dX8_takesPicture_5 : decode cX8_takesPicture 5 = .ok (.iconst 0, 1) := by decide +kernel
theorem dX8_takesPicture_6 : decode cX8_takesPicture 6 = .ok (.istore_n 2, 1) := by decide +kernel
theorem dX8_takesPicture_7 : decode cX8_takesPicture 7 = .ok (.iload_n 2, 1) := by decide +kernel
theorem dX8_takesPicture_8 : decode cX8_takesPicture 8 = .ok (.aload_n 0, 1) := by decide +kernel
theorem dX8_takesPicture_9 : decode cX8_takesPicture 9 = .ok (.invokevirtual 76, 3) := by decide +kernel
theorem dX8_takesPicture_12 : decode cX8_takesPicture 12 = .ok (.if_icmp .ge 51, 3) := by decide +kernel
theorem dX8_takesPicture_15 : decode cX8_takesPicture 15 = .ok (.iconst 0, 1) := by decide +kernel
theorem dX8_takesPicture_16 : decode cX8_takesPicture 16 = .ok (.istore_n 3, 1) := by decide +kernel
theorem dX8_takesPicture_17 : decode cX8_takesPicture 17 = .ok (.iload_n 3, 1) := by decide +kernel
theorem dX8_takesPicture_18 : decode cX8_takesPicture 18 = .ok (.aload_n 0, 1) := by decide +kernel
theorem dX8_takesPicture_19 : decode cX8_takesPicture 19 = .ok (.invokevirtual 84, 3) := by decide +kernel
theorem dX8_takesPicture_22 : decode cX8_takesPicture 22 = .ok (.if_icmp .ge 35, 3) := by decide +kernel
theorem dX8_takesPicture_25 : decode cX8_takesPicture 25 = .ok (.aload_n 0, 1) := by decide +kernel
theorem dX8_takesPicture_26 : decode cX8_takesPicture 26 = .ok (.iload_n 2, 1) := by decide +kernel
theorem dX8_takesPicture_27 : decode cX8_takesPicture 27 = .ok (.iload_n 3, 1) := by decide +kernel
theorem dX8_takesPicture_28 : decode cX8_takesPicture 28 = .ok (.aload_n 0, 1) := by decide +kernel
theorem dX8_takesPicture_29 : decode cX8_takesPicture 29 = .ok (.getfield 53, 3) := by decide +kernel
theorem dX8_takesPicture_32 : decode cX8_takesPicture 32 = .ok (.bipush 6, 2) := by decide +kernel
theorem dX8_takesPicture_34 : decode cX8_takesPicture 34 = .ok (.iload_n 2, 1) := by decide +kernel
theorem dX8_takesPicture_35 : decode cX8_takesPicture 35 = .ok (.imul, 1) := by decide +kernel
theorem dX8_takesPicture_36 : decode cX8_takesPicture 36 = .ok (.iload_n 3, 1) := by decide +kernel
theorem dX8_takesPicture_37 : decode cX8_takesPicture 37 = .ok (.iadd, 1) := by decide +kernel
theorem dX8_takesPicture_38 : decode cX8_takesPicture 38 = .ok (.iaload, 1) := by decide +kernel
theorem dX8_takesPicture_39 : decode cX8_takesPicture 39 = .ok (.iconst 1, 1) := by decide +kernel
theorem dX8_takesPicture_40 : decode cX8_takesPicture 40 = .ok (.if_icmp .ne 7, 3) := by decide +kernel
theorem dX8_takesPicture_43 : decode cX8_takesPicture 43 = .ok (.iconst 1, 1) := by decide +kernel
theorem dX8_takesPicture_44 : decode cX8_takesPicture 44 = .ok (.goto 4, 3) := by decide +kernel
theorem dX8_takesPicture_47 : decode cX8_takesPicture 47 = .ok (.iconst 0, 1) := by decide +kernel
theorem dX8_takesPicture_48 : decode cX8_takesPicture 48 = .ok (.invokevirtual 179, 3) := by decide +kernel
theorem dX8_takesPicture_51 : decode cX8_takesPicture 51 = .ok (.iinc 3 1, 3) := by decide +kernel
theorem dX8_takesPicture_54 : decode cX8_takesPicture 54 = .ok (.goto (-37), 3) := by decide +kernel
theorem dX8_takesPicture_57 : decode cX8_takesPicture 57 = .ok (.iinc 2 1, 3) := by decide +kernel
theorem dX8_takesPicture_60 : decode cX8_takesPicture 60 = .ok (.goto (-53), 3) := by decide +kernel
theorem dX8_takesPicture_63 : decode cX8_takesPicture 63 = .ok (.iload_n 1, 1) := by decide +kernel
theorem dX8_takesPicture_64 : decode cX8_takesPicture 64 = .ok (.ireturn, 1) := by decide +kernel
theorem dX8_goesThrough_0 : decode cX8_goesThrough 0 = .ok (.iconst 0, 1) := by decide +kernel
theorem dX8_goesThrough_1 : decode cX8_goesThrough 1 = .ok (.istore_n 1, 1) := by decide +kernel
theorem dX8_goesThrough_2 : decode cX8_goesThrough 2 = .ok (.iload_n 1, 1) := by decide +kernel
theorem dX8_goesThrough_3 : decode cX8_goesThrough 3 = .ok (.bipush 36, 2) := by decide +kernel
theorem dX8_goesThrough_5 : decode cX8_goesThrough 5 = .ok (.if_icmp .ge 16, 3) := by decide +kernel
theorem dX8_goesThrough_8 : decode cX8_goesThrough 8 = .ok (.aload_n 0, 1) := by decide +kernel
theorem dX8_goesThrough_9 : decode cX8_goesThrough 9 = .ok (.getfield 56, 3) := by decide +kernel
theorem dX8_goesThrough_12 : decode cX8_goesThrough 12 = .ok (.iload_n 1, 1) := by decide +kernel
theorem dX8_goesThrough_13 : decode cX8_goesThrough 13 = .ok (.iconst 0, 1) := by decide +kernel
theorem dX8_goesThrough_14 : decode cX8_goesThrough 14 = .ok (.iastore, 1) := by decide +kernel
theorem dX8_goesThrough_15 : decode cX8_goesThrough 15 = .ok (.iinc 1 1, 3) := by decide +kernel
theorem dX8_goesThrough_18 : decode cX8_goesThrough 18 = .ok (.goto (-16), 3) := by decide +kernel
theorem dX8_goesThrough_21 : decode cX8_goesThrough 21 = .ok (.iconst 0, 1) := by decide +kernel
theorem dX8_goesThrough_22 : decode cX8_goesThrough 22 = .ok (.istore_n 1, 1) := by decide +kernel
theorem dX8_goesThrough_23 : decode cX8_goesThrough 23 = .ok (.aload_n 0, 1) := by decide +kernel
theorem dX8_goesThrough_24 : decode cX8_goesThrough 24 = .ok (.bipush 36, 2) := by decide +kernel
theorem dX8_goesThrough_26 : decode cX8_goesThrough 26 = .ok (.putfield 183, 3) := by decide +kernel
theorem dX8_goesThrough_29 : decode cX8_goesThrough 29 = .ok (.aload_n 0, 1) := by decide +kernel
theorem dX8_goesThrough_30 : decode cX8_goesThrough 30 = .ok (.iconst 0, 1) := by decide +kernel
theorem dX8_goesThrough_31 : decode cX8_goesThrough 31 = .ok (.invokevirtual 186, 3) := by decide +kernel
theorem dX8_goesThrough_34 : decode cX8_goesThrough 34 = .ok (.istore_n 2, 1) := by decide +kernel
theorem dX8_goesThrough_35 : decode cX8_goesThrough 35 = .ok (.iload_n 2, 1) := by decide +kernel
theorem dX8_goesThrough_36 : decode cX8_goesThrough 36 = .ok (.ifCond .eq 104, 3) := by decide +kernel
theorem dX8_goesThrough_39 : decode cX8_goesThrough 39 = .ok (.iload_n 1, 1) := by decide +kernel
theorem dX8_goesThrough_40 : decode cX8_goesThrough 40 = .ok (.bipush 100, 2) := by decide +kernel
theorem dX8_goesThrough_42 : decode cX8_goesThrough 42 = .ok (.if_icmp .gt 98, 3) := by decide +kernel
theorem dX8_goesThrough_45 : decode cX8_goesThrough 45 = .ok (.iinc 1 1, 3) := by decide +kernel
theorem dX8_goesThrough_48 : decode cX8_goesThrough 48 = .ok (.aload_n 0, 1) := by decide +kernel
theorem dX8_goesThrough_49 : decode cX8_goesThrough 49 = .ok (.invokevirtual 176, 3) := by decide +kernel
theorem dX8_goesThrough_52 : decode cX8_goesThrough 52 = .ok (.istore_n 3, 1) := by decide +kernel
theorem dX8_goesThrough_53 : decode cX8_goesThrough 53 = .ok (.aload_n 0, 1) := by decide +kernel
theorem dX8_goesThrough_54 : decode cX8_goesThrough 54 = .ok (.iload_n 3, 1) := by decide +kernel
theorem dX8_goesThrough_55 : decode cX8_goesThrough 55 = .ok (.aload_n 0, 1) := by decide +kernel
theorem dX8_goesThrough_56 : decode cX8_goesThrough 56 = .ok (.getfield 183, 3) := by decide +kernel
theorem dX8_goesThrough_59 : decode cX8_goesThrough 59 = .ok (.if_icmp .ge 7, 3) := by decide +kernel
theorem dX8_goesThrough_62 : decode cX8_goesThrough 62 = .ok (.iload_n 3, 1) := by decide +kernel
theorem dX8_goesThrough_63 : decode cX8_goesThrough 63 = .ok (.goto 7, 3) := by decide +kernel
theorem dX8_goesThrough_66 : decode cX8_goesThrough 66 = .ok (.aload_n 0, 1) := by decide +kernel
theorem dX8_goesThrough_67 : decode cX8_goesThrough 67 = .ok (.getfield 183, 3) := by decide +kernel
theorem dX8_goesThrough_70 : decode cX8_goesThrough 70 = .ok (.putfield 183, 3) := by decide +kernel
theorem dX8_goesThrough_73 : decode cX8_goesThrough 73 = .ok (.iconst 0, 1) := by decide +kernel
theorem dX8_goesThrough_74 : decode cX8_goesThrough 74 = .ok (.istore 4, 2) := by decide +kernel
theorem dX8_goesThrough_76 : decode cX8_goesThrough 76 = .ok (.iload 4, 2) := by decide +kernel
theorem dX8_goesThrough_78 : decode cX8_goesThrough 78 = .ok (.bipush 36, 2) := by decide +kernel
theorem dX8_goesThrough_80 : decode cX8_goesThrough 80 = .ok (.if_icmp .ge 52, 3) := by decide +kernel
theorem dX8_goesThrough_83 : decode cX8_goesThrough 83 = .ok (.aload_n 0, 1) := by decide +kernel
theorem dX8_goesThrough_84 : decode cX8_goesThrough 84 = .ok (.getfield 56, 3) := by decide +kernel
theorem dX8_goesThrough_87 : decode cX8_goesThrough 87 = .ok (.iload 4, 2) := by decide +kernel
theorem dX8_goesThrough_89 : decode cX8_goesThrough 89 = .ok (.dup2, 1) := by decide +kernel
theorem dX8_goesThrough_90 : decode cX8_goesThrough 90 = .ok (.iaload, 1) := by decide +kernel
theorem dX8_goesThrough_91 : decode cX8_goesThrough 91 = .ok (.aload_n 0, 1) := by decide +kernel
theorem dX8_goesThrough_92 : decode cX8_goesThrough 92 = .ok (.getfield 53, 3) := by decide +kernel
theorem dX8_goesThrough_95 : decode cX8_goesThrough 95 = .ok (.iload 4, 2) := by decide +kernel
theorem dX8_goesThrough_97 : decode cX8_goesThrough 97 = .ok (.iaload, 1) := by decide +kernel
theorem dX8_goesThrough_98 : decode cX8_goesThrough 98 = .ok (.iconst 1, 1) := by decide +kernel
theorem dX8_goesThrough_99 : decode cX8_goesThrough 99 = .ok (.if_icmp .ne 24, 3) := by decide +kernel
theorem dX8_goesThrough_102 : decode cX8_goesThrough 102 = .ok (.aload_n 0, 1) := by decide +kernel
theorem dX8_goesThrough_103 : decode cX8_goesThrough 103 = .ok (.iload 4, 2) := by decide +kernel
theorem dX8_goesThrough_105 : decode cX8_goesThrough 105 = .ok (.bipush 6, 2) := by decide +kernel
theorem dX8_goesThrough_107 : decode cX8_goesThrough 107 = .ok (.idiv, 1) := by decide +kernel
theorem dX8_goesThrough_108 : decode cX8_goesThrough 108 = .ok (.iload 4, 2) := by decide +kernel
theorem dX8_goesThrough_110 : decode cX8_goesThrough 110 = .ok (.bipush 6, 2) := by decide +kernel
theorem dX8_goesThrough_112 : decode cX8_goesThrough 112 = .ok (.irem, 1) := by decide +kernel
theorem dX8_goesThrough_113 : decode cX8_goesThrough 113 = .ok (.invokevirtual 127, 3) := by decide +kernel
theorem dX8_goesThrough_116 : decode cX8_goesThrough 116 = .ok (.ifCond .eq 7, 3) := by decide +kernel
theorem dX8_goesThrough_119 : decode cX8_goesThrough 119 = .ok (.iconst 1, 1) := by decide +kernel
theorem dX8_goesThrough_120 : decode cX8_goesThrough 120 = .ok (.goto 4, 3) := by decide +kernel
theorem dX8_goesThrough_123 : decode cX8_goesThrough 123 = .ok (.iconst 0, 1) := by decide +kernel
theorem dX8_goesThrough_124 : decode cX8_goesThrough 124 = .ok (.iadd, 1) := by decide +kernel
theorem dX8_goesThrough_125 : decode cX8_goesThrough 125 = .ok (.iastore, 1) := by decide +kernel
theorem dX8_goesThrough_126 : decode cX8_goesThrough 126 = .ok (.iinc 4 1, 3) := by decide +kernel
theorem dX8_goesThrough_129 : decode cX8_goesThrough 129 = .ok (.goto (-53), 3) := by decide +kernel
theorem dX8_goesThrough_132 : decode cX8_goesThrough 132 = .ok (.aload_n 0, 1) := by decide +kernel
theorem dX8_goesThrough_133 : decode cX8_goesThrough 133 = .ok (.invokevirtual 190, 3) := by decide +kernel
theorem dX8_goesThrough_136 : decode cX8_goesThrough 136 = .ok (.istore_n 2, 1) := by decide +kernel
theorem dX8_goesThrough_137 : decode cX8_goesThrough 137 = .ok (.goto (-102), 3) := by decide +kernel
theorem dX8_goesThrough_140 : decode cX8_goesThrough 140 = .ok (.iload_n 1, 1) := by decide +kernel
theorem dX8_goesThrough_141 : decode cX8_goesThrough 141 = .ok (.bipush 100, 2) := by decide +kernel
theorem dX8_goesThrough_143 : decode cX8_goesThrough 143 = .ok (.if_icmp .le 8, 3) := by decide +kernel
theorem dX8_goesThrough_146 : decode cX8_goesThrough 146 = .ok (.bipush 100, 2) := by decide +kernel
theorem dX8_goesThrough_148 : decode cX8_goesThrough 148 = .ok (.goto 4, 3) := by decide +kernel
theorem dX8_goesThrough_151 : decode cX8_goesThrough 151 = .ok (.iload_n 1, 1) := by decide +kernel
theorem dX8_goesThrough_152 : decode cX8_goesThrough 152 = .ok (.ireturn, 1) := by decide +kernel
theorem dX8_laysSures_0 : decode cX8_laysSures 0 = .ok (.aload_n 0, 1) := by decide +kernel
theorem dX8_laysSures_1 : decode cX8_laysSures 1 = .ok (.invokevirtual 166, 3) := by decide +kernel
theorem dX8_laysSures_4 : decode cX8_laysSures 4 = .ok (.aload_n 0, 1) := by decide +kernel
theorem dX8_laysSures_5 : decode cX8_laysSures 5 = .ok (.invokevirtual 163, 3) := by decide +kernel
theorem dX8_laysSures_8 : decode cX8_laysSures 8 = .ok (.ifCond .ne 5, 3) := by decide +kernel
theorem dX8_laysSures_11 : decode cX8_laysSures 11 = .ok (.iconst 0, 1) := by decide +kernel
theorem dX8_laysSures_12 : decode cX8_laysSures 12 = .ok (.ireturn, 1) := by decide +kernel
theorem dX8_laysSures_13 : decode cX8_laysSures 13 = .ok (.iconst 0, 1) := by decide +kernel
theorem dX8_laysSures_14 : decode cX8_laysSures 14 = .ok (.istore_n 1, 1) := by decide +kernel
theorem dX8_laysSures_15 : decode cX8_laysSures 15 = .ok (.iload_n 1, 1) := by decide +kernel
theorem dX8_laysSures_16 : decode cX8_laysSures 16 = .ok (.bipush 36, 2) := by decide +kernel
theorem dX8_laysSures_18 : decode cX8_laysSures 18 = .ok (.if_icmp .ge 47, 3) := by decide +kernel
theorem dX8_laysSures_21 : decode cX8_laysSures 21 = .ok (.aload_n 0, 1) := by decide +kernel
theorem dX8_laysSures_22 : decode cX8_laysSures 22 = .ok (.getfield 59, 3) := by decide +kernel
theorem dX8_laysSures_25 : decode cX8_laysSures 25 = .ok (.iload_n 1, 1) := by decide +kernel
theorem dX8_laysSures_26 : decode cX8_laysSures 26 = .ok (.aload_n 0, 1) := by decide +kernel
theorem dX8_laysSures_27 : decode cX8_laysSures 27 = .ok (.getfield 32, 3) := by decide +kernel
theorem dX8_laysSures_30 : decode cX8_laysSures 30 = .ok (.iload_n 1, 1) := by decide +kernel
theorem dX8_laysSures_31 : decode cX8_laysSures 31 = .ok (.iaload, 1) := by decide +kernel
theorem dX8_laysSures_32 : decode cX8_laysSures 32 = .ok (.ifCond .lt 12, 3) := by decide +kernel
theorem dX8_laysSures_35 : decode cX8_laysSures 35 = .ok (.aload_n 0, 1) := by decide +kernel
theorem dX8_laysSures_36 : decode cX8_laysSures 36 = .ok (.getfield 32, 3) := by decide +kernel
theorem dX8_laysSures_39 : decode cX8_laysSures 39 = .ok (.iload_n 1, 1) := by decide +kernel
theorem dX8_laysSures_40 : decode cX8_laysSures 40 = .ok (.iaload, 1) := by decide +kernel
theorem dX8_laysSures_41 : decode cX8_laysSures 41 = .ok (.goto 17, 3) := by decide +kernel
theorem dX8_laysSures_44 : decode cX8_laysSures 44 = .ok (.aload_n 0, 1) := by decide +kernel
theorem dX8_laysSures_45 : decode cX8_laysSures 45 = .ok (.getfield 35, 3) := by decide +kernel
theorem dX8_laysSures_48 : decode cX8_laysSures 48 = .ok (.iload_n 1, 1) := by decide +kernel
theorem dX8_laysSures_49 : decode cX8_laysSures 49 = .ok (.baload, 1) := by decide +kernel
theorem dX8_laysSures_50 : decode cX8_laysSures 50 = .ok (.ifCond .eq 7, 3) := by decide +kernel
theorem dX8_laysSures_53 : decode cX8_laysSures 53 = .ok (.iconst 1, 1) := by decide +kernel
theorem dX8_laysSures_54 : decode cX8_laysSures 54 = .ok (.goto 4, 3) := by decide +kernel
theorem dX8_laysSures_57 : decode cX8_laysSures 57 = .ok (.iconst 0, 1) := by decide +kernel
theorem dX8_laysSures_58 : decode cX8_laysSures 58 = .ok (.iastore, 1) := by decide +kernel
theorem dX8_laysSures_59 : decode cX8_laysSures 59 = .ok (.iinc 1 1, 3) := by decide +kernel
theorem dX8_laysSures_62 : decode cX8_laysSures 62 = .ok (.goto (-47), 3) := by decide +kernel
theorem dX8_laysSures_65 : decode cX8_laysSures 65 = .ok (.iconst 0, 1) := by decide +kernel
theorem dX8_laysSures_66 : decode cX8_laysSures 66 = .ok (.istore_n 1, 1) := by decide +kernel
theorem dX8_laysSures_67 : decode cX8_laysSures 67 = .ok (.iload_n 1, 1) := by decide +kernel
theorem dX8_laysSures_68 : decode cX8_laysSures 68 = .ok (.aload_n 0, 1) := by decide +kernel
theorem dX8_laysSures_69 : decode cX8_laysSures 69 = .ok (.invokevirtual 76, 3) := by decide +kernel
theorem dX8_laysSures_72 : decode cX8_laysSures 72 = .ok (.if_icmp .ge 82, 3) := by decide +kernel
theorem dX8_laysSures_75 : decode cX8_laysSures 75 = .ok (.iconst 0, 1) := by decide +kernel
theorem dX8_laysSures_76 : decode cX8_laysSures 76 = .ok (.istore_n 2, 1) := by decide +kernel
theorem dX8_laysSures_77 : decode cX8_laysSures 77 = .ok (.iload_n 2, 1) := by decide +kernel
theorem dX8_laysSures_78 : decode cX8_laysSures 78 = .ok (.aload_n 0, 1) := by decide +kernel
theorem dX8_laysSures_79 : decode cX8_laysSures 79 = .ok (.invokevirtual 84, 3) := by decide +kernel
theorem dX8_laysSures_82 : decode cX8_laysSures 82 = .ok (.if_icmp .ge 66, 3) := by decide +kernel
theorem dX8_laysSures_85 : decode cX8_laysSures 85 = .ok (.bipush 6, 2) := by decide +kernel
theorem dX8_laysSures_87 : decode cX8_laysSures 87 = .ok (.iload_n 1, 1) := by decide +kernel
theorem dX8_laysSures_88 : decode cX8_laysSures 88 = .ok (.imul, 1) := by decide +kernel
theorem dX8_laysSures_89 : decode cX8_laysSures 89 = .ok (.iload_n 2, 1) := by decide +kernel
theorem dX8_laysSures_90 : decode cX8_laysSures 90 = .ok (.iadd, 1) := by decide +kernel
theorem dX8_laysSures_91 : decode cX8_laysSures 91 = .ok (.istore_n 3, 1) := by decide +kernel
theorem dX8_laysSures_92 : decode cX8_laysSures 92 = .ok (.aload_n 0, 1) := by decide +kernel
theorem dX8_laysSures_93 : decode cX8_laysSures 93 = .ok (.iload_n 1, 1) := by decide +kernel
theorem dX8_laysSures_94 : decode cX8_laysSures 94 = .ok (.iload_n 2, 1) := by decide +kernel
theorem dX8_laysSures_95 : decode cX8_laysSures 95 = .ok (.invokevirtual 145, 3) := by decide +kernel
theorem dX8_laysSures_98 : decode cX8_laysSures 98 = .ok (.ifCond .ne 44, 3) := by decide +kernel
theorem dX8_laysSures_101 : decode cX8_laysSures 101 = .ok (.aload_n 0, 1) := by decide +kernel
theorem dX8_laysSures_102 : decode cX8_laysSures 102 = .ok (.invokevirtual 166, 3) := by decide +kernel
theorem dX8_laysSures_105 : decode cX8_laysSures 105 = .ok (.aload_n 0, 1) := by decide +kernel
theorem dX8_laysSures_106 : decode cX8_laysSures 106 = .ok (.getfield 32, 3) := by decide +kernel
theorem dX8_laysSures_109 : decode cX8_laysSures 109 = .ok (.iload_n 3, 1) := by decide +kernel
theorem dX8_laysSures_110 : decode cX8_laysSures 110 = .ok (.iconst 1, 1) := by decide +kernel
theorem dX8_laysSures_111 : decode cX8_laysSures 111 = .ok (.aload_n 0, 1) := by decide +kernel
theorem dX8_laysSures_112 : decode cX8_laysSures 112 = .ok (.getfield 59, 3) := by decide +kernel
theorem dX8_laysSures_115 : decode cX8_laysSures 115 = .ok (.iload_n 3, 1) := by decide +kernel
theorem dX8_laysSures_116 : decode cX8_laysSures 116 = .ok (.iaload, 1) := by decide +kernel
theorem dX8_laysSures_117 : decode cX8_laysSures 117 = .ok (.isub, 1) := by decide +kernel
theorem dX8_laysSures_118 : decode cX8_laysSures 118 = .ok (.iastore, 1) := by decide +kernel
theorem dX8_laysSures_119 : decode cX8_laysSures 119 = .ok (.aload_n 0, 1) := by decide +kernel
theorem dX8_laysSures_120 : decode cX8_laysSures 120 = .ok (.getfield 59, 3) := by decide +kernel
theorem dX8_laysSures_123 : decode cX8_laysSures 123 = .ok (.iload_n 3, 1) := by decide +kernel
theorem dX8_laysSures_124 : decode cX8_laysSures 124 = .ok (.aload_n 0, 1) := by decide +kernel
theorem dX8_laysSures_125 : decode cX8_laysSures 125 = .ok (.invokevirtual 163, 3) := by decide +kernel
theorem dX8_laysSures_128 : decode cX8_laysSures 128 = .ok (.ifCond .eq 7, 3) := by decide +kernel
theorem dX8_laysSures_131 : decode cX8_laysSures 131 = .ok (.iconst (-1), 1) := by decide +kernel
theorem dX8_laysSures_132 : decode cX8_laysSures 132 = .ok (.goto 9, 3) := by decide +kernel
theorem dX8_laysSures_135 : decode cX8_laysSures 135 = .ok (.aload_n 0, 1) := by decide +kernel
theorem dX8_laysSures_136 : decode cX8_laysSures 136 = .ok (.getfield 59, 3) := by decide +kernel
theorem dX8_laysSures_139 : decode cX8_laysSures 139 = .ok (.iload_n 3, 1) := by decide +kernel
theorem dX8_laysSures_140 : decode cX8_laysSures 140 = .ok (.iaload, 1) := by decide +kernel
theorem dX8_laysSures_141 : decode cX8_laysSures 141 = .ok (.iastore, 1) := by decide +kernel
theorem dX8_laysSures_142 : decode cX8_laysSures 142 = .ok (.iinc 2 1, 3) := by decide +kernel
theorem dX8_laysSures_145 : decode cX8_laysSures 145 = .ok (.goto (-68), 3) := by decide +kernel
theorem dX8_laysSures_148 : decode cX8_laysSures 148 = .ok (.iinc 1 1, 3) := by decide +kernel
theorem dX8_laysSures_151 : decode cX8_laysSures 151 = .ok (.goto (-84), 3) := by decide +kernel
theorem dX8_laysSures_154 : decode cX8_laysSures 154 = .ok (.iconst 1, 1) := by decide +kernel
theorem dX8_laysSures_155 : decode cX8_laysSures 155 = .ok (.ireturn, 1) := by decide +kernel
theorem dX8_pinnedMany_0 : decode cX8_pinnedMany 0 = .ok (.iconst 0, 1) := by decide +kernel
theorem dX8_pinnedMany_1 : decode cX8_pinnedMany 1 = .ok (.istore_n 1, 1) := by decide +kernel
theorem dX8_pinnedMany_2 : decode cX8_pinnedMany 2 = .ok (.iconst 0, 1) := by decide +kernel
theorem dX8_pinnedMany_3 : decode cX8_pinnedMany 3 = .ok (.istore_n 2, 1) := by decide +kernel
theorem dX8_pinnedMany_4 : decode cX8_pinnedMany 4 = .ok (.iload_n 2, 1) := by decide +kernel
theorem dX8_pinnedMany_5 : decode cX8_pinnedMany 5 = .ok (.aload_n 0, 1) := by decide +kernel
theorem dX8_pinnedMany_6 : decode cX8_pinnedMany 6 = .ok (.invokevirtual 76, 3) := by decide +kernel
theorem dX8_pinnedMany_9 : decode cX8_pinnedMany 9 = .ok (.if_icmp .ge 42, 3) := by decide +kernel
theorem dX8_pinnedMany_12 : decode cX8_pinnedMany 12 = .ok (.iconst 0, 1) := by decide +kernel
theorem dX8_pinnedMany_13 : decode cX8_pinnedMany 13 = .ok (.istore_n 3, 1) := by decide +kernel
theorem dX8_pinnedMany_14 : decode cX8_pinnedMany 14 = .ok (.iload_n 3, 1) := by decide +kernel
theorem dX8_pinnedMany_15 : decode cX8_pinnedMany 15 = .ok (.aload_n 0, 1) := by decide +kernel
theorem dX8_pinnedMany_16 : decode cX8_pinnedMany 16 = .ok (.invokevirtual 84, 3) := by decide +kernel
theorem dX8_pinnedMany_19 : decode cX8_pinnedMany 19 = .ok (.if_icmp .ge 26, 3) := by decide +kernel
theorem dX8_pinnedMany_22 : decode cX8_pinnedMany 22 = .ok (.iload_n 1, 1) := by decide +kernel
theorem dX8_pinnedMany_23 : decode cX8_pinnedMany 23 = .ok (.aload_n 0, 1) := by decide +kernel
theorem dX8_pinnedMany_24 : decode cX8_pinnedMany 24 = .ok (.iload_n 2, 1) := by decide +kernel
theorem dX8_pinnedMany_25 : decode cX8_pinnedMany 25 = .ok (.iload_n 3, 1) := by decide +kernel
theorem dX8_pinnedMany_26 : decode cX8_pinnedMany 26 = .ok (.invokevirtual 145, 3) := by decide +kernel
theorem dX8_pinnedMany_29 : decode cX8_pinnedMany 29 = .ok (.ifCond .eq 7, 3) := by decide +kernel
theorem dX8_pinnedMany_32 : decode cX8_pinnedMany 32 = .ok (.iconst 1, 1) := by decide +kernel
theorem dX8_pinnedMany_33 : decode cX8_pinnedMany 33 = .ok (.goto 4, 3) := by decide +kernel
theorem dX8_pinnedMany_36 : decode cX8_pinnedMany 36 = .ok (.iconst 0, 1) := by decide +kernel
theorem dX8_pinnedMany_37 : decode cX8_pinnedMany 37 = .ok (.iadd, 1) := by decide +kernel
theorem dX8_pinnedMany_38 : decode cX8_pinnedMany 38 = .ok (.istore_n 1, 1) := by decide +kernel
theorem dX8_pinnedMany_39 : decode cX8_pinnedMany 39 = .ok (.iinc 3 1, 3) := by decide +kernel
theorem dX8_pinnedMany_42 : decode cX8_pinnedMany 42 = .ok (.goto (-28), 3) := by decide +kernel
theorem dX8_pinnedMany_45 : decode cX8_pinnedMany 45 = .ok (.iinc 2 1, 3) := by decide +kernel
theorem dX8_pinnedMany_48 : decode cX8_pinnedMany 48 = .ok (.goto (-44), 3) := by decide +kernel
theorem dX8_pinnedMany_51 : decode cX8_pinnedMany 51 = .ok (.iload_n 1, 1) := by decide +kernel
theorem dX8_pinnedMany_52 : decode cX8_pinnedMany 52 = .ok (.ireturn, 1) := by decide +kernel
theorem dX8_wantsOf_0 : decode cX8_wantsOf 0 = .ok (.iconst 0, 1) := by decide +kernel
theorem dX8_wantsOf_1 : decode cX8_wantsOf 1 = .ok (.istore_n 3, 1) := by decide +kernel
theorem dX8_wantsOf_2 : decode cX8_wantsOf 2 = .ok (.iload_n 1, 1) := by decide +kernel
theorem dX8_wantsOf_3 : decode cX8_wantsOf 3 = .ok (.istore 4, 2) := by decide +kernel
theorem dX8_wantsOf_5 : decode cX8_wantsOf 5 = .ok (.iload 4, 2) := by decide +kernel
theorem dX8_wantsOf_7 : decode cX8_wantsOf 7 = .ok (.iload_n 2, 1) := by decide +kernel
theorem dX8_wantsOf_8 : decode cX8_wantsOf 8 = .ok (.if_icmp .ge 23, 3) := by decide +kernel
theorem dX8_wantsOf_11 : decode cX8_wantsOf 11 = .ok (.iload_n 3, 1) := by decide +kernel
theorem dX8_wantsOf_12 : decode cX8_wantsOf 12 = .ok (.aload_n 0, 1) := by decide +kernel
theorem dX8_wantsOf_13 : decode cX8_wantsOf 13 = .ok (.getfield 7, 3) := by decide +kernel
theorem dX8_wantsOf_16 : decode cX8_wantsOf 16 = .ok (.aload_n 0, 1) := by decide +kernel
theorem dX8_wantsOf_17 : decode cX8_wantsOf 17 = .ok (.iload 4, 2) := by decide +kernel
theorem dX8_wantsOf_19 : decode cX8_wantsOf 19 = .ok (.invokevirtual 105, 3) := by decide +kernel
theorem dX8_wantsOf_22 : decode cX8_wantsOf 22 = .ok (.iaload, 1) := by decide +kernel
theorem dX8_wantsOf_23 : decode cX8_wantsOf 23 = .ok (.iadd, 1) := by decide +kernel
theorem dX8_wantsOf_24 : decode cX8_wantsOf 24 = .ok (.istore_n 3, 1) := by decide +kernel
theorem dX8_wantsOf_25 : decode cX8_wantsOf 25 = .ok (.iinc 4 1, 3) := by decide +kernel
theorem dX8_wantsOf_28 : decode cX8_wantsOf 28 = .ok (.goto (-23), 3) := by decide +kernel
theorem dX8_wantsOf_31 : decode cX8_wantsOf 31 = .ok (.iload_n 3, 1) := by decide +kernel
theorem dX8_wantsOf_32 : decode cX8_wantsOf 32 = .ok (.ireturn, 1) := by decide +kernel
theorem dX8_about_0 : decode cX8_about 0 = .ok (.aload_n 0, 1) := by decide +kernel
theorem dX8_about_1 : decode cX8_about 1 = .ok (.iload_n 1, 1) := by decide +kernel
theorem dX8_about_2 : decode cX8_about 2 = .ok (.iconst 0, 1) := by decide +kernel
theorem dX8_about_3 : decode cX8_about 3 = .ok (.bipush 10, 2) := by decide +kernel
theorem dX8_about_5 : decode cX8_about 5 = .ok (.invokestatic 80, 3) := by decide +kernel
theorem dX8_about_8 : decode cX8_about 8 = .ok (.ifCond .ne 7, 3) := by decide +kernel
theorem dX8_about_11 : decode cX8_about 11 = .ok (.iconst 1, 1) := by decide +kernel
theorem dX8_about_12 : decode cX8_about 12 = .ok (.goto 4, 3) := by decide +kernel
theorem dX8_about_15 : decode cX8_about 15 = .ok (.iconst 0, 1) := by decide +kernel
theorem dX8_about_16 : decode cX8_about 16 = .ok (.putfield 65, 3) := by decide +kernel
theorem dX8_about_19 : decode cX8_about 19 = .ok (.iload_n 1, 1) := by decide +kernel
theorem dX8_about_20 : decode cX8_about 20 = .ok (.tableswitch 132 0 10 #[60, 60, 67, 72, 77, 87, 105, 110, 115, 120, 125], 60) := by decide +kernel
theorem dX8_about_80 : decode cX8_about 80 = .ok (.aload_n 0, 1) := by decide +kernel
theorem dX8_about_81 : decode cX8_about 81 = .ok (.getfield 7, 3) := by decide +kernel
theorem dX8_about_84 : decode cX8_about 84 = .ok (.iload_n 1, 1) := by decide +kernel
theorem dX8_about_85 : decode cX8_about 85 = .ok (.iaload, 1) := by decide +kernel
theorem dX8_about_86 : decode cX8_about 86 = .ok (.ireturn, 1) := by decide +kernel
theorem dX8_about_87 : decode cX8_about 87 = .ok (.aload_n 0, 1) := by decide +kernel
theorem dX8_about_88 : decode cX8_about 88 = .ok (.invokevirtual 124, 3) := by decide +kernel
theorem dX8_about_91 : decode cX8_about 91 = .ok (.ireturn, 1) := by decide +kernel
theorem dX8_about_92 : decode cX8_about 92 = .ok (.aload_n 0, 1) := by decide +kernel
theorem dX8_about_93 : decode cX8_about 93 = .ok (.invokevirtual 193, 3) := by decide +kernel
theorem dX8_about_96 : decode cX8_about 96 = .ok (.ireturn, 1) := by decide +kernel
theorem dX8_about_97 : decode cX8_about 97 = .ok (.aload_n 0, 1) := by decide +kernel
theorem dX8_about_98 : decode cX8_about 98 = .ok (.iconst 0, 1) := by decide +kernel
theorem dX8_about_99 : decode cX8_about 99 = .ok (.aload_n 0, 1) := by decide +kernel
theorem dX8_about_100 : decode cX8_about 100 = .ok (.invokevirtual 76, 3) := by decide +kernel
theorem dX8_about_103 : decode cX8_about 103 = .ok (.invokevirtual 196, 3) := by decide +kernel
theorem dX8_about_106 : decode cX8_about 106 = .ok (.ireturn, 1) := by decide +kernel
theorem dX8_about_107 : decode cX8_about 107 = .ok (.aload_n 0, 1) := by decide +kernel
theorem dX8_about_108 : decode cX8_about 108 = .ok (.aload_n 0, 1) := by decide +kernel
theorem dX8_about_109 : decode cX8_about 109 = .ok (.invokevirtual 76, 3) := by decide +kernel
theorem dX8_about_112 : decode cX8_about 112 = .ok (.aload_n 0, 1) := by decide +kernel
theorem dX8_about_113 : decode cX8_about 113 = .ok (.invokevirtual 76, 3) := by decide +kernel
theorem dX8_about_116 : decode cX8_about 116 = .ok (.aload_n 0, 1) := by decide +kernel
theorem dX8_about_117 : decode cX8_about 117 = .ok (.invokevirtual 84, 3) := by decide +kernel
theorem dX8_about_120 : decode cX8_about 120 = .ok (.iadd, 1) := by decide +kernel
theorem dX8_about_121 : decode cX8_about 121 = .ok (.invokevirtual 196, 3) := by decide +kernel
theorem dX8_about_124 : decode cX8_about 124 = .ok (.ireturn, 1) := by decide +kernel
theorem dX8_about_125 : decode cX8_about 125 = .ok (.aload_n 0, 1) := by decide +kernel
theorem dX8_about_126 : decode cX8_about 126 = .ok (.invokevirtual 199, 3) := by decide +kernel
theorem dX8_about_129 : decode cX8_about 129 = .ok (.ireturn, 1) := by decide +kernel
theorem dX8_about_130 : decode cX8_about 130 = .ok (.aload_n 0, 1) := by decide +kernel
theorem dX8_about_131 : decode cX8_about 131 = .ok (.invokevirtual 202, 3) := by decide +kernel
theorem dX8_about_134 : decode cX8_about 134 = .ok (.ireturn, 1) := by decide +kernel
theorem dX8_about_135 : decode cX8_about 135 = .ok (.aload_n 0, 1) := by decide +kernel
theorem dX8_about_136 : decode cX8_about 136 = .ok (.invokevirtual 205, 3) := by decide +kernel
theorem dX8_about_139 : decode cX8_about 139 = .ok (.ireturn, 1) := by decide +kernel
theorem dX8_about_140 : decode cX8_about 140 = .ok (.aload_n 0, 1) := by decide +kernel
theorem dX8_about_141 : decode cX8_about 141 = .ok (.invokevirtual 208, 3) := by decide +kernel
theorem dX8_about_144 : decode cX8_about 144 = .ok (.ireturn, 1) := by decide +kernel
theorem dX8_about_145 : decode cX8_about 145 = .ok (.aload_n 0, 1) := by decide +kernel
theorem dX8_about_146 : decode cX8_about 146 = .ok (.bipush (-9), 2) := by decide +kernel
theorem dX8_about_148 : decode cX8_about 148 = .ok (.invokevirtual 211, 3) := by decide +kernel
theorem dX8_about_151 : decode cX8_about 151 = .ok (.ireturn, 1) := by decide +kernel
theorem dX8_about_152 : decode cX8_about 152 = .ok (.iconst 0, 1) := by decide +kernel
theorem dX8_about_153 : decode cX8_about 153 = .ok (.ireturn, 1) := by decide +kernel
theorem dX8_runsOf_0 : decode cX8_runsOf 0 = .ok (.iconst 0, 1) := by decide +kernel
theorem dX8_runsOf_1 : decode cX8_runsOf 1 = .ok (.istore_n 3, 1) := by decide +kernel
theorem dX8_runsOf_2 : decode cX8_runsOf 2 = .ok (.iconst 0, 1) := by decide +kernel
theorem dX8_runsOf_3 : decode cX8_runsOf 3 = .ok (.istore 4, 2) := by decide +kernel
theorem dX8_runsOf_5 : decode cX8_runsOf 5 = .ok (.iconst 0, 1) := by decide +kernel
theorem dX8_runsOf_6 : decode cX8_runsOf 6 = .ok (.istore 5, 2) := by decide +kernel
theorem dX8_runsOf_8 : decode cX8_runsOf 8 = .ok (.iconst 0, 1) := by decide +kernel
theorem dX8_runsOf_9 : decode cX8_runsOf 9 = .ok (.istore 6, 2) := by decide +kernel
theorem dX8_runsOf_11 : decode cX8_runsOf 11 = .ok (.iload 6, 2) := by decide +kernel
theorem dX8_runsOf_13 : decode cX8_runsOf 13 = .ok (.aload_n 0, 1) := by decide +kernel
theorem dX8_runsOf_14 : decode cX8_runsOf 14 = .ok (.iload_n 1, 1) := by decide +kernel
theorem dX8_runsOf_15 : decode cX8_runsOf 15 = .ok (.invokevirtual 87, 3) := by decide +kernel
theorem dX8_runsOf_18 : decode cX8_runsOf 18 = .ok (.if_icmp .ge 70, 3) := by decide +kernel
theorem dX8_runsOf_21 : decode cX8_runsOf 21 = .ok (.aload_n 0, 1) := by decide +kernel
theorem dX8_runsOf_22 : decode cX8_runsOf 22 = .ok (.aload_n 0, 1) := by decide +kernel
theorem dX8_runsOf_23 : decode cX8_runsOf 23 = .ok (.iload_n 1, 1) := by decide +kernel
theorem dX8_runsOf_24 : decode cX8_runsOf 24 = .ok (.iload 6, 2) := by decide +kernel
theorem dX8_runsOf_26 : decode cX8_runsOf 26 = .ok (.invokevirtual 91, 3) := by decide +kernel
theorem dX8_runsOf_29 : decode cX8_runsOf 29 = .ok (.aload_n 0, 1) := by decide +kernel
theorem dX8_runsOf_30 : decode cX8_runsOf 30 = .ok (.iload_n 1, 1) := by decide +kernel
theorem dX8_runsOf_31 : decode cX8_runsOf 31 = .ok (.iload 6, 2) := by decide +kernel
theorem dX8_runsOf_33 : decode cX8_runsOf 33 = .ok (.invokevirtual 95, 3) := by decide +kernel
theorem dX8_runsOf_36 : decode cX8_runsOf 36 = .ok (.invokevirtual 98, 3) := by decide +kernel
theorem dX8_runsOf_39 : decode cX8_runsOf 39 = .ok (.ifCond .eq 10, 3) := by decide +kernel
theorem dX8_runsOf_42 : decode cX8_runsOf 42 = .ok (.iload 5, 2) := by decide +kernel
theorem dX8_runsOf_44 : decode cX8_runsOf 44 = .ok (.iconst 1, 1) := by decide +kernel
theorem dX8_runsOf_45 : decode cX8_runsOf 45 = .ok (.iadd, 1) := by decide +kernel
theorem dX8_runsOf_46 : decode cX8_runsOf 46 = .ok (.goto 4, 3) := by decide +kernel
theorem dX8_runsOf_49 : decode cX8_runsOf 49 = .ok (.iconst 0, 1) := by decide +kernel
theorem dX8_runsOf_50 : decode cX8_runsOf 50 = .ok (.istore 5, 2) := by decide +kernel
theorem dX8_runsOf_52 : decode cX8_runsOf 52 = .ok (.iload_n 3, 1) := by decide +kernel
theorem dX8_runsOf_53 : decode cX8_runsOf 53 = .ok (.iload 5, 2) := by decide +kernel
theorem dX8_runsOf_55 : decode cX8_runsOf 55 = .ok (.iconst 1, 1) := by decide +kernel
theorem dX8_runsOf_56 : decode cX8_runsOf 56 = .ok (.if_icmp .ne 7, 3) := by decide +kernel
theorem dX8_runsOf_59 : decode cX8_runsOf 59 = .ok (.iconst 1, 1) := by decide +kernel
theorem dX8_runsOf_60 : decode cX8_runsOf 60 = .ok (.goto 4, 3) := by decide +kernel
theorem dX8_runsOf_63 : decode cX8_runsOf 63 = .ok (.iconst 0, 1) := by decide +kernel
theorem dX8_runsOf_64 : decode cX8_runsOf 64 = .ok (.iadd, 1) := by decide +kernel
theorem dX8_runsOf_65 : decode cX8_runsOf 65 = .ok (.istore_n 3, 1) := by decide +kernel
theorem dX8_runsOf_66 : decode cX8_runsOf 66 = .ok (.iload 5, 2) := by decide +kernel
theorem dX8_runsOf_68 : decode cX8_runsOf 68 = .ok (.iload 4, 2) := by decide +kernel
theorem dX8_runsOf_70 : decode cX8_runsOf 70 = .ok (.if_icmp .le 8, 3) := by decide +kernel
theorem dX8_runsOf_73 : decode cX8_runsOf 73 = .ok (.iload 5, 2) := by decide +kernel
theorem dX8_runsOf_75 : decode cX8_runsOf 75 = .ok (.goto 5, 3) := by decide +kernel
theorem dX8_runsOf_78 : decode cX8_runsOf 78 = .ok (.iload 4, 2) := by decide +kernel
theorem dX8_runsOf_80 : decode cX8_runsOf 80 = .ok (.istore 4, 2) := by decide +kernel
theorem dX8_runsOf_82 : decode cX8_runsOf 82 = .ok (.iinc 6 1, 3) := by decide +kernel
theorem dX8_runsOf_85 : decode cX8_runsOf 85 = .ok (.goto (-74), 3) := by decide +kernel
theorem dX8_runsOf_88 : decode cX8_runsOf 88 = .ok (.iload_n 2, 1) := by decide +kernel
theorem dX8_runsOf_89 : decode cX8_runsOf 89 = .ok (.ifCond .eq 8, 3) := by decide +kernel
theorem dX8_runsOf_92 : decode cX8_runsOf 92 = .ok (.iload 4, 2) := by decide +kernel
theorem dX8_runsOf_94 : decode cX8_runsOf 94 = .ok (.goto 4, 3) := by decide +kernel
theorem dX8_runsOf_97 : decode cX8_runsOf 97 = .ok (.iload_n 3, 1) := by decide +kernel
theorem dX8_runsOf_98 : decode cX8_runsOf 98 = .ok (.ireturn, 1) := by decide +kernel
theorem dX8_pinsOf_0 : decode cX8_pinsOf 0 = .ok (.iconst 0, 1) := by decide +kernel
theorem dX8_pinsOf_1 : decode cX8_pinsOf 1 = .ok (.istore_n 3, 1) := by decide +kernel
theorem dX8_pinsOf_2 : decode cX8_pinsOf 2 = .ok (.iconst 0, 1) := by decide +kernel
theorem dX8_pinsOf_3 : decode cX8_pinsOf 3 = .ok (.istore 4, 2) := by decide +kernel
theorem dX8_pinsOf_5 : decode cX8_pinsOf 5 = .ok (.iload 4, 2) := by decide +kernel
theorem dX8_pinsOf_7 : decode cX8_pinsOf 7 = .ok (.aload_n 0, 1) := by decide +kernel
theorem dX8_pinsOf_8 : decode cX8_pinsOf 8 = .ok (.iload_n 1, 1) := by decide +kernel
theorem dX8_pinsOf_9 : decode cX8_pinsOf 9 = .ok (.invokevirtual 87, 3) := by decide +kernel
theorem dX8_pinsOf_12 : decode cX8_pinsOf 12 = .ok (.if_icmp .ge 58, 3) := by decide +kernel
theorem dX8_pinsOf_15 : decode cX8_pinsOf 15 = .ok (.aload_n 0, 1) := by decide +kernel
theorem dX8_pinsOf_16 : decode cX8_pinsOf 16 = .ok (.iload_n 1, 1) := by decide +kernel
theorem dX8_pinsOf_17 : decode cX8_pinsOf 17 = .ok (.iload 4, 2) := by decide +kernel
theorem dX8_pinsOf_19 : decode cX8_pinsOf 19 = .ok (.invokevirtual 91, 3) := by decide +kernel
theorem dX8_pinsOf_22 : decode cX8_pinsOf 22 = .ok (.istore 5, 2) := by decide +kernel
theorem dX8_pinsOf_24 : decode cX8_pinsOf 24 = .ok (.aload_n 0, 1) := by decide +kernel
theorem dX8_pinsOf_25 : decode cX8_pinsOf 25 = .ok (.iload_n 1, 1) := by decide +kernel
theorem dX8_pinsOf_26 : decode cX8_pinsOf 26 = .ok (.iload 4, 2) := by decide +kernel
theorem dX8_pinsOf_28 : decode cX8_pinsOf 28 = .ok (.invokevirtual 95, 3) := by decide +kernel
theorem dX8_pinsOf_31 : decode cX8_pinsOf 31 = .ok (.istore 6, 2) := by decide +kernel
theorem dX8_pinsOf_33 : decode cX8_pinsOf 33 = .ok (.iload_n 3, 1) := by decide +kernel
theorem dX8_pinsOf_34 : decode cX8_pinsOf 34 = .ok (.aload_n 0, 1) := by decide +kernel
theorem dX8_pinsOf_35 : decode cX8_pinsOf 35 = .ok (.iload 5, 2) := by decide +kernel
theorem dX8_pinsOf_37 : decode cX8_pinsOf 37 = .ok (.iload 6, 2) := by decide +kernel
theorem dX8_pinsOf_39 : decode cX8_pinsOf 39 = .ok (.invokevirtual 145, 3) := by decide +kernel
theorem dX8_pinsOf_42 : decode cX8_pinsOf 42 = .ok (.ifCond .eq 19, 3) := by decide +kernel
theorem dX8_pinsOf_45 : decode cX8_pinsOf 45 = .ok (.aload_n 0, 1) := by decide +kernel
theorem dX8_pinsOf_46 : decode cX8_pinsOf 46 = .ok (.iload 5, 2) := by decide +kernel
theorem dX8_pinsOf_48 : decode cX8_pinsOf 48 = .ok (.iload 6, 2) := by decide +kernel
theorem dX8_pinsOf_50 : decode cX8_pinsOf 50 = .ok (.invokevirtual 98, 3) := by decide +kernel
theorem dX8_pinsOf_53 : decode cX8_pinsOf 53 = .ok (.iload_n 2, 1) := by decide +kernel
theorem dX8_pinsOf_54 : decode cX8_pinsOf 54 = .ok (.if_icmp .ne 7, 3) := by decide +kernel
theorem dX8_pinsOf_57 : decode cX8_pinsOf 57 = .ok (.iconst 1, 1) := by decide +kernel
theorem dX8_pinsOf_58 : decode cX8_pinsOf 58 = .ok (.goto 4, 3) := by decide +kernel
theorem dX8_pinsOf_61 : decode cX8_pinsOf 61 = .ok (.iconst 0, 1) := by decide +kernel
theorem dX8_pinsOf_62 : decode cX8_pinsOf 62 = .ok (.iadd, 1) := by decide +kernel
theorem dX8_pinsOf_63 : decode cX8_pinsOf 63 = .ok (.istore_n 3, 1) := by decide +kernel
theorem dX8_pinsOf_64 : decode cX8_pinsOf 64 = .ok (.iinc 4 1, 3) := by decide +kernel
theorem dX8_pinsOf_67 : decode cX8_pinsOf 67 = .ok (.goto (-62), 3) := by decide +kernel
theorem dX8_pinsOf_70 : decode cX8_pinsOf 70 = .ok (.iload_n 3, 1) := by decide +kernel
theorem dX8_pinsOf_71 : decode cX8_pinsOf 71 = .ok (.ireturn, 1) := by decide +kernel
theorem dX8_line_0 : decode cX8_line 0 = .ok (.aload_n 0, 1) := by decide +kernel
theorem dX8_line_1 : decode cX8_line 1 = .ok (.aload_n 0, 1) := by decide +kernel
theorem dX8_line_2 : decode cX8_line 2 = .ok (.iload_n 1, 1) := by decide +kernel
theorem dX8_line_3 : decode cX8_line 3 = .ok (.invokevirtual 214, 3) := by decide +kernel
theorem dX8_line_6 : decode cX8_line 6 = .ok (.ifCond .ne 7, 3) := by decide +kernel
theorem dX8_line_9 : decode cX8_line 9 = .ok (.iconst 1, 1) := by decide +kernel
theorem dX8_line_10 : decode cX8_line 10 = .ok (.goto 17, 3) := by decide +kernel
theorem dX8_line_13 : decode cX8_line 13 = .ok (.iload_n 2, 1) := by decide +kernel
theorem dX8_line_14 : decode cX8_line 14 = .ok (.iconst 0, 1) := by decide +kernel
theorem dX8_line_15 : decode cX8_line 15 = .ok (.iconst 4, 1) := by decide +kernel
theorem dX8_line_16 : decode cX8_line 16 = .ok (.invokestatic 80, 3) := by decide +kernel
theorem dX8_line_19 : decode cX8_line 19 = .ok (.ifCond .ne 7, 3) := by decide +kernel
theorem dX8_line_22 : decode cX8_line 22 = .ok (.iconst 2, 1) := by decide +kernel
theorem dX8_line_23 : decode cX8_line 23 = .ok (.goto 4, 3) := by decide +kernel
theorem dX8_line_26 : decode cX8_line 26 = .ok (.iconst 0, 1) := by decide +kernel
theorem dX8_line_27 : decode cX8_line 27 = .ok (.putfield 65, 3) := by decide +kernel
theorem dX8_line_30 : decode cX8_line 30 = .ok (.aload_n 0, 1) := by decide +kernel
theorem dX8_line_31 : decode cX8_line 31 = .ok (.getfield 65, 3) := by decide +kernel
theorem dX8_line_34 : decode cX8_line 34 = .ok (.ifCond .eq 5, 3) := by decide +kernel
theorem dX8_line_37 : decode cX8_line 37 = .ok (.iconst 0, 1) := by decide +kernel
theorem dX8_line_38 : decode cX8_line 38 = .ok (.ireturn, 1) := by decide +kernel
theorem dX8_line_39 : decode cX8_line 39 = .ok (.iload_n 2, 1) := by decide +kernel
theorem dX8_line_40 : decode cX8_line 40 = .ok (.tableswitch 65 0 3 #[32, 38, 49, 49], 32) := by decide +kernel
theorem dX8_line_72 : decode cX8_line 72 = .ok (.aload_n 0, 1) := by decide +kernel
theorem dX8_line_73 : decode cX8_line 73 = .ok (.iload_n 1, 1) := by decide +kernel
theorem dX8_line_74 : decode cX8_line 74 = .ok (.invokevirtual 102, 3) := by decide +kernel
theorem dX8_line_77 : decode cX8_line 77 = .ok (.ireturn, 1) := by decide +kernel
theorem dX8_line_78 : decode cX8_line 78 = .ok (.aload_n 0, 1) := by decide +kernel
theorem dX8_line_79 : decode cX8_line 79 = .ok (.getfield 7, 3) := by decide +kernel
theorem dX8_line_82 : decode cX8_line 82 = .ok (.aload_n 0, 1) := by decide +kernel
theorem dX8_line_83 : decode cX8_line 83 = .ok (.iload_n 1, 1) := by decide +kernel
theorem dX8_line_84 : decode cX8_line 84 = .ok (.invokevirtual 105, 3) := by decide +kernel
theorem dX8_line_87 : decode cX8_line 87 = .ok (.iaload, 1) := by decide +kernel
theorem dX8_line_88 : decode cX8_line 88 = .ok (.ireturn, 1) := by decide +kernel
theorem dX8_line_89 : decode cX8_line 89 = .ok (.aload_n 0, 1) := by decide +kernel
theorem dX8_line_90 : decode cX8_line 90 = .ok (.iload_n 1, 1) := by decide +kernel
theorem dX8_line_91 : decode cX8_line 91 = .ok (.iload_n 2, 1) := by decide +kernel
theorem dX8_line_92 : decode cX8_line 92 = .ok (.iconst 3, 1) := by decide +kernel
theorem dX8_line_93 : decode cX8_line 93 = .ok (.if_icmp .ne 7, 3) := by decide +kernel
theorem dX8_line_96 : decode cX8_line 96 = .ok (.iconst 1, 1) := by decide +kernel
theorem dX8_line_97 : decode cX8_line 97 = .ok (.goto 4, 3) := by decide +kernel
theorem dX8_line_100 : decode cX8_line 100 = .ok (.iconst 0, 1) := by decide +kernel
theorem dX8_line_101 : decode cX8_line 101 = .ok (.invokevirtual 217, 3) := by decide +kernel
theorem dX8_line_104 : decode cX8_line 104 = .ok (.ireturn, 1) := by decide +kernel
theorem dX8_line_105 : decode cX8_line 105 = .ok (.aload_n 0, 1) := by decide +kernel
theorem dX8_line_106 : decode cX8_line 106 = .ok (.iload_n 1, 1) := by decide +kernel
theorem dX8_line_107 : decode cX8_line 107 = .ok (.iconst 1, 1) := by decide +kernel
theorem dX8_line_108 : decode cX8_line 108 = .ok (.invokevirtual 221, 3) := by decide +kernel
theorem dX8_line_111 : decode cX8_line 111 = .ok (.aload_n 0, 1) := by decide +kernel
theorem dX8_line_112 : decode cX8_line 112 = .ok (.iload_n 1, 1) := by decide +kernel
theorem dX8_line_113 : decode cX8_line 113 = .ok (.iconst 0, 1) := by decide +kernel
theorem dX8_line_114 : decode cX8_line 114 = .ok (.invokevirtual 221, 3) := by decide +kernel
theorem dX8_line_117 : decode cX8_line 117 = .ok (.iadd, 1) := by decide +kernel
theorem dX8_line_118 : decode cX8_line 118 = .ok (.ireturn, 1) := by decide +kernel
theorem dX8_cell_0 : decode cX8_cell 0 = .ok (.aload_n 0, 1) := by decide +kernel
theorem dX8_cell_1 : decode cX8_cell 1 = .ok (.aload_n 0, 1) := by decide +kernel
theorem dX8_cell_2 : decode cX8_cell 2 = .ok (.iload_n 1, 1) := by decide +kernel
theorem dX8_cell_3 : decode cX8_cell 3 = .ok (.iload_n 2, 1) := by decide +kernel
theorem dX8_cell_4 : decode cX8_cell 4 = .ok (.invokevirtual 127, 3) := by decide +kernel
theorem dX8_cell_7 : decode cX8_cell 7 = .ok (.ifCond .ne 7, 3) := by decide +kernel
theorem dX8_cell_10 : decode cX8_cell 10 = .ok (.iconst 1, 1) := by decide +kernel
theorem dX8_cell_11 : decode cX8_cell 11 = .ok (.goto 17, 3) := by decide +kernel
theorem dX8_cell_14 : decode cX8_cell 14 = .ok (.iload_n 3, 1) := by decide +kernel
theorem dX8_cell_15 : decode cX8_cell 15 = .ok (.iconst 0, 1) := by decide +kernel
theorem dX8_cell_16 : decode cX8_cell 16 = .ok (.iconst 4, 1) := by decide +kernel
theorem dX8_cell_17 : decode cX8_cell 17 = .ok (.invokestatic 80, 3) := by decide +kernel
theorem dX8_cell_20 : decode cX8_cell 20 = .ok (.ifCond .ne 7, 3) := by decide +kernel
theorem dX8_cell_23 : decode cX8_cell 23 = .ok (.iconst 2, 1) := by decide +kernel
theorem dX8_cell_24 : decode cX8_cell 24 = .ok (.goto 4, 3) := by decide +kernel
theorem dX8_cell_27 : decode cX8_cell 27 = .ok (.iconst 0, 1) := by decide +kernel
theorem dX8_cell_28 : decode cX8_cell 28 = .ok (.putfield 65, 3) := by decide +kernel
theorem dX8_cell_31 : decode cX8_cell 31 = .ok (.aload_n 0, 1) := by decide +kernel
theorem dX8_cell_32 : decode cX8_cell 32 = .ok (.getfield 65, 3) := by decide +kernel
theorem dX8_cell_35 : decode cX8_cell 35 = .ok (.ifCond .eq 5, 3) := by decide +kernel
theorem dX8_cell_38 : decode cX8_cell 38 = .ok (.iconst 0, 1) := by decide +kernel
theorem dX8_cell_39 : decode cX8_cell 39 = .ok (.ireturn, 1) := by decide +kernel
theorem dX8_cell_40 : decode cX8_cell 40 = .ok (.iconst 0, 1) := by decide +kernel
theorem dX8_cell_41 : decode cX8_cell 41 = .ok (.istore 4, 2) := by decide +kernel
theorem dX8_cell_43 : decode cX8_cell 43 = .ok (.iload_n 3, 1) := by decide +kernel
theorem dX8_cell_44 : decode cX8_cell 44 = .ok (.tableswitch 121 0 3 #[32, 47, 62, 90], 32) := by decide +kernel
theorem dX8_cell_76 : decode cX8_cell 76 = .ok (.aload_n 0, 1) := by decide +kernel
theorem dX8_cell_77 : decode cX8_cell 77 = .ok (.iload_n 1, 1) := by decide +kernel
theorem dX8_cell_78 : decode cX8_cell 78 = .ok (.iload_n 2, 1) := by decide +kernel
theorem dX8_cell_79 : decode cX8_cell 79 = .ok (.invokevirtual 98, 3) := by decide +kernel
theorem dX8_cell_82 : decode cX8_cell 82 = .ok (.ifCond .eq 7, 3) := by decide +kernel
theorem dX8_cell_85 : decode cX8_cell 85 = .ok (.iconst 1, 1) := by decide +kernel
theorem dX8_cell_86 : decode cX8_cell 86 = .ok (.goto 4, 3) := by decide +kernel
theorem dX8_cell_89 : decode cX8_cell 89 = .ok (.iconst 0, 1) := by decide +kernel
theorem dX8_cell_90 : decode cX8_cell 90 = .ok (.ireturn, 1) := by decide +kernel
theorem dX8_cell_91 : decode cX8_cell 91 = .ok (.aload_n 0, 1) := by decide +kernel
theorem dX8_cell_92 : decode cX8_cell 92 = .ok (.iload_n 1, 1) := by decide +kernel
theorem dX8_cell_93 : decode cX8_cell 93 = .ok (.iload_n 2, 1) := by decide +kernel
theorem dX8_cell_94 : decode cX8_cell 94 = .ok (.invokevirtual 145, 3) := by decide +kernel
theorem dX8_cell_97 : decode cX8_cell 97 = .ok (.ifCond .eq 7, 3) := by decide +kernel
theorem dX8_cell_100 : decode cX8_cell 100 = .ok (.iconst 1, 1) := by decide +kernel
theorem dX8_cell_101 : decode cX8_cell 101 = .ok (.goto 4, 3) := by decide +kernel
theorem dX8_cell_104 : decode cX8_cell 104 = .ok (.iconst 0, 1) := by decide +kernel
theorem dX8_cell_105 : decode cX8_cell 105 = .ok (.ireturn, 1) := by decide +kernel
theorem dX8_cell_106 : decode cX8_cell 106 = .ok (.aload_n 0, 1) := by decide +kernel
theorem dX8_cell_107 : decode cX8_cell 107 = .ok (.invokevirtual 202, 3) := by decide +kernel
theorem dX8_cell_110 : decode cX8_cell 110 = .ok (.istore 4, 2) := by decide +kernel
theorem dX8_cell_112 : decode cX8_cell 112 = .ok (.iload 4, 2) := by decide +kernel
theorem dX8_cell_114 : decode cX8_cell 114 = .ok (.ifCond .le 17, 3) := by decide +kernel
theorem dX8_cell_117 : decode cX8_cell 117 = .ok (.aload_n 0, 1) := by decide +kernel
theorem dX8_cell_118 : decode cX8_cell 118 = .ok (.getfield 25, 3) := by decide +kernel
theorem dX8_cell_121 : decode cX8_cell 121 = .ok (.bipush 6, 2) := by decide +kernel
theorem dX8_cell_123 : decode cX8_cell 123 = .ok (.iload_n 1, 1) := by decide +kernel
theorem dX8_cell_124 : decode cX8_cell 124 = .ok (.imul, 1) := by decide +kernel
theorem dX8_cell_125 : decode cX8_cell 125 = .ok (.iload_n 2, 1) := by decide +kernel
theorem dX8_cell_126 : decode cX8_cell 126 = .ok (.iadd, 1) := by decide +kernel
theorem dX8_cell_127 : decode cX8_cell 127 = .ok (.iaload, 1) := by decide +kernel
theorem dX8_cell_128 : decode cX8_cell 128 = .ok (.goto 5, 3) := by decide +kernel
theorem dX8_cell_131 : decode cX8_cell 131 = .ok (.bipush (-9), 2) := by decide +kernel
theorem dX8_cell_133 : decode cX8_cell 133 = .ok (.ireturn, 1) := by decide +kernel
theorem dX8_cell_134 : decode cX8_cell 134 = .ok (.aload_n 0, 1) := by decide +kernel
theorem dX8_cell_135 : decode cX8_cell 135 = .ok (.invokevirtual 208, 3) := by decide +kernel
theorem dX8_cell_138 : decode cX8_cell 138 = .ok (.istore 4, 2) := by decide +kernel
theorem dX8_cell_140 : decode cX8_cell 140 = .ok (.iload 4, 2) := by decide +kernel
theorem dX8_cell_142 : decode cX8_cell 142 = .ok (.ifCond .le 21, 3) := by decide +kernel
theorem dX8_cell_145 : decode cX8_cell 145 = .ok (.aload_n 0, 1) := by decide +kernel
theorem dX8_cell_146 : decode cX8_cell 146 = .ok (.getfield 28, 3) := by decide +kernel
theorem dX8_cell_149 : decode cX8_cell 149 = .ok (.bipush 6, 2) := by decide +kernel
theorem dX8_cell_151 : decode cX8_cell 151 = .ok (.iload_n 1, 1) := by decide +kernel
theorem dX8_cell_152 : decode cX8_cell 152 = .ok (.imul, 1) := by decide +kernel
theorem dX8_cell_153 : decode cX8_cell 153 = .ok (.iload_n 2, 1) := by decide +kernel
theorem dX8_cell_154 : decode cX8_cell 154 = .ok (.iadd, 1) := by decide +kernel
theorem dX8_cell_155 : decode cX8_cell 155 = .ok (.baload, 1) := by decide +kernel
theorem dX8_cell_156 : decode cX8_cell 156 = .ok (.ifCond .eq 7, 3) := by decide +kernel
theorem dX8_cell_159 : decode cX8_cell 159 = .ok (.iconst 1, 1) := by decide +kernel
theorem dX8_cell_160 : decode cX8_cell 160 = .ok (.goto 4, 3) := by decide +kernel
theorem dX8_cell_163 : decode cX8_cell 163 = .ok (.iconst 0, 1) := by decide +kernel
theorem dX8_cell_164 : decode cX8_cell 164 = .ok (.ireturn, 1) := by decide +kernel
theorem dX8_cell_165 : decode cX8_cell 165 = .ok (.aload_n 0, 1) := by decide +kernel
theorem dX8_cell_166 : decode cX8_cell 166 = .ok (.invokevirtual 224, 3) := by decide +kernel
theorem dX8_cell_169 : decode cX8_cell 169 = .ok (.ifCond .eq 21, 3) := by decide +kernel
theorem dX8_cell_172 : decode cX8_cell 172 = .ok (.aload_n 0, 1) := by decide +kernel
theorem dX8_cell_173 : decode cX8_cell 173 = .ok (.getfield 59, 3) := by decide +kernel
theorem dX8_cell_176 : decode cX8_cell 176 = .ok (.bipush 6, 2) := by decide +kernel
theorem dX8_cell_178 : decode cX8_cell 178 = .ok (.iload_n 1, 1) := by decide +kernel
theorem dX8_cell_179 : decode cX8_cell 179 = .ok (.imul, 1) := by decide +kernel
theorem dX8_cell_180 : decode cX8_cell 180 = .ok (.iload_n 2, 1) := by decide +kernel
theorem dX8_cell_181 : decode cX8_cell 181 = .ok (.iadd, 1) := by decide +kernel
theorem dX8_cell_182 : decode cX8_cell 182 = .ok (.iaload, 1) := by decide +kernel
theorem dX8_cell_183 : decode cX8_cell 183 = .ok (.ifCond .lt 7, 3) := by decide +kernel
theorem dX8_cell_186 : decode cX8_cell 186 = .ok (.iconst 1, 1) := by decide +kernel
theorem dX8_cell_187 : decode cX8_cell 187 = .ok (.goto 4, 3) := by decide +kernel
theorem dX8_cell_190 : decode cX8_cell 190 = .ok (.iconst 0, 1) := by decide +kernel
theorem dX8_cell_191 : decode cX8_cell 191 = .ok (.ireturn, 1) := by decide +kernel
theorem dX8_piece_0 : decode cX8_piece 0 = .ok (.aload_n 0, 1) := by decide +kernel
theorem dX8_piece_1 : decode cX8_piece 1 = .ok (.iload_n 1, 1) := by decide +kernel
theorem dX8_piece_2 : decode cX8_piece 2 = .ok (.iconst 0, 1) := by decide +kernel
theorem dX8_piece_3 : decode cX8_piece 3 = .ok (.aload_n 0, 1) := by decide +kernel
theorem dX8_piece_4 : decode cX8_piece 4 = .ok (.invokevirtual 202, 3) := by decide +kernel
theorem dX8_piece_7 : decode cX8_piece 7 = .ok (.iconst 1, 1) := by decide +kernel
theorem dX8_piece_8 : decode cX8_piece 8 = .ok (.isub, 1) := by decide +kernel
theorem dX8_piece_9 : decode cX8_piece 9 = .ok (.invokestatic 80, 3) := by decide +kernel
theorem dX8_piece_12 : decode cX8_piece 12 = .ok (.ifCond .ne 7, 3) := by decide +kernel
theorem dX8_piece_15 : decode cX8_piece 15 = .ok (.iconst 1, 1) := by decide +kernel
theorem dX8_piece_16 : decode cX8_piece 16 = .ok (.goto 17, 3) := by decide +kernel
theorem dX8_piece_19 : decode cX8_piece 19 = .ok (.iload_n 2, 1) := by decide +kernel
theorem dX8_piece_20 : decode cX8_piece 20 = .ok (.iconst 0, 1) := by decide +kernel
theorem dX8_piece_21 : decode cX8_piece 21 = .ok (.iconst 4, 1) := by decide +kernel
theorem dX8_piece_22 : decode cX8_piece 22 = .ok (.invokestatic 80, 3) := by decide +kernel
theorem dX8_piece_25 : decode cX8_piece 25 = .ok (.ifCond .ne 7, 3) := by decide +kernel
theorem dX8_piece_28 : decode cX8_piece 28 = .ok (.iconst 2, 1) := by decide +kernel
theorem dX8_piece_29 : decode cX8_piece 29 = .ok (.goto 4, 3) := by decide +kernel
theorem dX8_piece_32 : decode cX8_piece 32 = .ok (.iconst 0, 1) := by decide +kernel
theorem dX8_piece_33 : decode cX8_piece 33 = .ok (.putfield 65, 3) := by decide +kernel
theorem dX8_piece_36 : decode cX8_piece 36 = .ok (.aload_n 0, 1) := by decide +kernel
theorem dX8_piece_37 : decode cX8_piece 37 = .ok (.getfield 65, 3) := by decide +kernel
theorem dX8_piece_40 : decode cX8_piece 40 = .ok (.ifCond .eq 5, 3) := by decide +kernel
theorem dX8_piece_43 : decode cX8_piece 43 = .ok (.iconst 0, 1) := by decide +kernel
theorem dX8_piece_44 : decode cX8_piece 44 = .ok (.ireturn, 1) := by decide +kernel
theorem dX8_piece_45 : decode cX8_piece 45 = .ok (.iconst 0, 1) := by decide +kernel
theorem dX8_piece_46 : decode cX8_piece 46 = .ok (.istore_n 3, 1) := by decide +kernel
theorem dX8_piece_47 : decode cX8_piece 47 = .ok (.iconst 0, 1) := by decide +kernel
theorem dX8_piece_48 : decode cX8_piece 48 = .ok (.istore 4, 2) := by decide +kernel
theorem dX8_piece_50 : decode cX8_piece 50 = .ok (.iconst 0, 1) := by decide +kernel
theorem dX8_piece_51 : decode cX8_piece 51 = .ok (.istore 5, 2) := by decide +kernel
theorem dX8_piece_53 : decode cX8_piece 53 = .ok (.iconst 0, 1) := by decide +kernel
theorem dX8_piece_54 : decode cX8_piece 54 = .ok (.istore 6, 2) := by decide +kernel
theorem dX8_piece_56 : decode cX8_piece 56 = .ok (.bipush (-9), 2) := by decide +kernel
theorem dX8_piece_58 : decode cX8_piece 58 = .ok (.istore 7, 2) := by decide +kernel
theorem dX8_piece_60 : decode cX8_piece 60 = .ok (.iconst 0, 1) := by decide +kernel
theorem dX8_piece_61 : decode cX8_piece 61 = .ok (.istore 8, 2) := by decide +kernel
theorem dX8_piece_63 : decode cX8_piece 63 = .ok (.iload 8, 2) := by decide +kernel
theorem dX8_piece_65 : decode cX8_piece 65 = .ok (.bipush 36, 2) := by decide +kernel
theorem dX8_piece_67 : decode cX8_piece 67 = .ok (.if_icmp .ge 94, 3) := by decide +kernel
theorem dX8_piece_70 : decode cX8_piece 70 = .ok (.aload_n 0, 1) := by decide +kernel
theorem dX8_piece_71 : decode cX8_piece 71 = .ok (.getfield 25, 3) := by decide +kernel
theorem dX8_piece_74 : decode cX8_piece 74 = .ok (.iload 8, 2) := by decide +kernel
theorem dX8_piece_76 : decode cX8_piece 76 = .ok (.iaload, 1) := by decide +kernel
theorem dX8_piece_77 : decode cX8_piece 77 = .ok (.iload_n 1, 1) := by decide +kernel
theorem dX8_piece_78 : decode cX8_piece 78 = .ok (.if_icmp .ne 77, 3) := by decide +kernel
theorem dX8_piece_81 : decode cX8_piece 81 = .ok (.iinc 3 1, 3) := by decide +kernel
theorem dX8_piece_84 : decode cX8_piece 84 = .ok (.iload 4, 2) := by decide +kernel
theorem dX8_piece_86 : decode cX8_piece 86 = .ok (.aload_n 0, 1) := by decide +kernel
theorem dX8_piece_87 : decode cX8_piece 87 = .ok (.iload 8, 2) := by decide +kernel
theorem dX8_piece_89 : decode cX8_piece 89 = .ok (.bipush 6, 2) := by decide +kernel
theorem dX8_piece_91 : decode cX8_piece 91 = .ok (.idiv, 1) := by decide +kernel
theorem dX8_piece_92 : decode cX8_piece 92 = .ok (.iload 8, 2) := by decide +kernel
theorem dX8_piece_94 : decode cX8_piece 94 = .ok (.bipush 6, 2) := by decide +kernel
theorem dX8_piece_96 : decode cX8_piece 96 = .ok (.irem, 1) := by decide +kernel
theorem dX8_piece_97 : decode cX8_piece 97 = .ok (.invokevirtual 139, 3) := by decide +kernel
theorem dX8_piece_100 : decode cX8_piece 100 = .ok (.iadd, 1) := by decide +kernel
theorem dX8_piece_101 : decode cX8_piece 101 = .ok (.istore 4, 2) := by decide +kernel
theorem dX8_piece_103 : decode cX8_piece 103 = .ok (.iload 5, 2) := by decide +kernel
theorem dX8_piece_105 : decode cX8_piece 105 = .ok (.iconst 1, 1) := by decide +kernel
theorem dX8_piece_106 : decode cX8_piece 106 = .ok (.iload 8, 2) := by decide +kernel
theorem dX8_piece_108 : decode cX8_piece 108 = .ok (.bipush 6, 2) := by decide +kernel
theorem dX8_piece_110 : decode cX8_piece 110 = .ok (.idiv, 1) := by decide +kernel
theorem dX8_piece_111 : decode cX8_piece 111 = .ok (.ishl, 1) := by decide +kernel
theorem dX8_piece_112 : decode cX8_piece 112 = .ok (.ior, 1) := by decide +kernel
theorem dX8_piece_113 : decode cX8_piece 113 = .ok (.istore 5, 2) := by decide +kernel
theorem dX8_piece_115 : decode cX8_piece 115 = .ok (.iload 6, 2) := by decide +kernel
theorem dX8_piece_117 : decode cX8_piece 117 = .ok (.iconst 1, 1) := by decide +kernel
theorem dX8_piece_118 : decode cX8_piece 118 = .ok (.iload 8, 2) := by decide +kernel
theorem dX8_piece_120 : decode cX8_piece 120 = .ok (.bipush 6, 2) := by decide +kernel
theorem dX8_piece_122 : decode cX8_piece 122 = .ok (.irem, 1) := by decide +kernel
theorem dX8_piece_123 : decode cX8_piece 123 = .ok (.ishl, 1) := by decide +kernel
theorem dX8_piece_124 : decode cX8_piece 124 = .ok (.ior, 1) := by decide +kernel
theorem dX8_piece_125 : decode cX8_piece 125 = .ok (.istore 6, 2) := by decide +kernel
theorem dX8_piece_127 : decode cX8_piece 127 = .ok (.iload 7, 2) := by decide +kernel
theorem dX8_piece_129 : decode cX8_piece 129 = .ok (.bipush (-9), 2) := by decide +kernel
theorem dX8_piece_131 : decode cX8_piece 131 = .ok (.if_icmp .ne 20, 3) := by decide +kernel
theorem dX8_piece_134 : decode cX8_piece 134 = .ok (.bipush 10, 2) := by decide +kernel
theorem dX8_piece_136 : decode cX8_piece 136 = .ok (.iload 8, 2) := by decide +kernel
theorem dX8_piece_138 : decode cX8_piece 138 = .ok (.bipush 6, 2) := by decide +kernel
theorem dX8_piece_140 : decode cX8_piece 140 = .ok (.idiv, 1) := by decide +kernel
theorem dX8_piece_141 : decode cX8_piece 141 = .ok (.imul, 1) := by decide +kernel
theorem dX8_piece_142 : decode cX8_piece 142 = .ok (.iload 8, 2) := by decide +kernel
theorem dX8_piece_144 : decode cX8_piece 144 = .ok (.bipush 6, 2) := by decide +kernel
theorem dX8_piece_146 : decode cX8_piece 146 = .ok (.irem, 1) := by decide +kernel
theorem dX8_piece_147 : decode cX8_piece 147 = .ok (.iadd, 1) := by decide +kernel
theorem dX8_piece_148 : decode cX8_piece 148 = .ok (.goto 5, 3) := by decide +kernel
theorem dX8_piece_151 : decode cX8_piece 151 = .ok (.iload 7, 2) := by decide +kernel
theorem dX8_piece_153 : decode cX8_piece 153 = .ok (.istore 7, 2) := by decide +kernel
theorem dX8_piece_155 : decode cX8_piece 155 = .ok (.iinc 8 1, 3) := by decide +kernel
theorem dX8_piece_158 : decode cX8_piece 158 = .ok (.goto (-95), 3) := by decide +kernel
theorem dX8_piece_161 : decode cX8_piece 161 = .ok (.iload_n 2, 1) := by decide +kernel
theorem dX8_piece_162 : decode cX8_piece 162 = .ok (.ifCond .ne 7, 3) := by decide +kernel
theorem dX8_piece_165 : decode cX8_piece 165 = .ok (.iload_n 3, 1) := by decide +kernel
theorem dX8_piece_166 : decode cX8_piece 166 = .ok (.goto 41, 3) := by decide +kernel
theorem dX8_piece_169 : decode cX8_piece 169 = .ok (.iload_n 2, 1) := by decide +kernel
theorem dX8_piece_170 : decode cX8_piece 170 = .ok (.iconst 1, 1) := by decide +kernel
theorem dX8_piece_171 : decode cX8_piece 171 = .ok (.if_icmp .ne 8, 3) := by decide +kernel
theorem dX8_piece_174 : decode cX8_piece 174 = .ok (.iload 4, 2) := by decide +kernel
theorem dX8_piece_176 : decode cX8_piece 176 = .ok (.goto 31, 3) := by decide +kernel
theorem dX8_piece_179 : decode cX8_piece 179 = .ok (.iload_n 2, 1) := by decide +kernel
theorem dX8_piece_180 : decode cX8_piece 180 = .ok (.iconst 2, 1) := by decide +kernel
theorem dX8_piece_181 : decode cX8_piece 181 = .ok (.if_icmp .ne 11, 3) := by decide +kernel
theorem dX8_piece_184 : decode cX8_piece 184 = .ok (.iload 5, 2) := by decide +kernel
theorem dX8_piece_186 : decode cX8_piece 186 = .ok (.invokestatic 227, 3) := by decide +kernel
theorem dX8_piece_189 : decode cX8_piece 189 = .ok (.goto 18, 3) := by decide +kernel
theorem dX8_piece_192 : decode cX8_piece 192 = .ok (.iload_n 2, 1) := by decide +kernel
theorem dX8_piece_193 : decode cX8_piece 193 = .ok (.iconst 3, 1) := by decide +kernel
theorem dX8_piece_194 : decode cX8_piece 194 = .ok (.if_icmp .ne 11, 3) := by decide +kernel
theorem dX8_piece_197 : decode cX8_piece 197 = .ok (.iload 6, 2) := by decide +kernel
theorem dX8_piece_199 : decode cX8_piece 199 = .ok (.invokestatic 227, 3) := by decide +kernel
theorem dX8_piece_202 : decode cX8_piece 202 = .ok (.goto 5, 3) := by decide +kernel
theorem dX8_piece_205 : decode cX8_piece 205 = .ok (.iload 7, 2) := by decide +kernel
theorem dX8_piece_207 : decode cX8_piece 207 = .ok (.ireturn, 1) := by decide +kernel
theorem dX8_ones_0 : decode cX8_ones 0 = .ok (.iconst 0, 1) := by decide +kernel
theorem dX8_ones_1 : decode cX8_ones 1 = .ok (.istore_n 1, 1) := by decide +kernel
theorem dX8_ones_2 : decode cX8_ones 2 = .ok (.iconst 0, 1) := by decide +kernel
theorem dX8_ones_3 : decode cX8_ones 3 = .ok (.istore_n 2, 1) := by decide +kernel
theorem dX8_ones_4 : decode cX8_ones 4 = .ok (.iload_n 2, 1) := by decide +kernel
theorem dX8_ones_5 : decode cX8_ones 5 = .ok (.bipush 6, 2) := by decide +kernel
theorem dX8_ones_7 : decode cX8_ones 7 = .ok (.if_icmp .ge 17, 3) := by decide +kernel
theorem dX8_ones_10 : decode cX8_ones 10 = .ok (.iload_n 1, 1) := by decide +kernel
theorem dX8_ones_11 : decode cX8_ones 11 = .ok (.iload_n 0, 1) := by decide +kernel
theorem dX8_ones_12 : decode cX8_ones 12 = .ok (.iload_n 2, 1) := by decide +kernel
theorem dX8_ones_13 : decode cX8_ones 13 = .ok (.ishr, 1) := by decide +kernel
theorem dX8_ones_14 : decode cX8_ones 14 = .ok (.iconst 1, 1) := by decide +kernel
theorem dX8_ones_15 : decode cX8_ones 15 = .ok (.iand, 1) := by decide +kernel
theorem dX8_ones_16 : decode cX8_ones 16 = .ok (.iadd, 1) := by decide +kernel
theorem dX8_ones_17 : decode cX8_ones 17 = .ok (.istore_n 1, 1) := by decide +kernel
theorem dX8_ones_18 : decode cX8_ones 18 = .ok (.iinc 2 1, 3) := by decide +kernel
theorem dX8_ones_21 : decode cX8_ones 21 = .ok (.goto (-17), 3) := by decide +kernel
theorem dX8_ones_24 : decode cX8_ones 24 = .ok (.iload_n 1, 1) := by decide +kernel
theorem dX8_ones_25 : decode cX8_ones 25 = .ok (.ireturn, 1) := by decide +kernel
theorem dX8_exchangeAt_0 : decode cX8_exchangeAt 0 = .ok (.aload_n 0, 1) := by decide +kernel
theorem dX8_exchangeAt_1 : decode cX8_exchangeAt 1 = .ok (.iload_n 1, 1) := by decide +kernel
theorem dX8_exchangeAt_2 : decode cX8_exchangeAt 2 = .ok (.ifCond .ge 7, 3) := by decide +kernel
theorem dX8_exchangeAt_5 : decode cX8_exchangeAt 5 = .ok (.iconst 1, 1) := by decide +kernel
theorem dX8_exchangeAt_6 : decode cX8_exchangeAt 6 = .ok (.goto 4, 3) := by decide +kernel
theorem dX8_exchangeAt_9 : decode cX8_exchangeAt 9 = .ok (.iconst 0, 1) := by decide +kernel
theorem dX8_exchangeAt_10 : decode cX8_exchangeAt 10 = .ok (.putfield 65, 3) := by decide +kernel
theorem dX8_exchangeAt_13 : decode cX8_exchangeAt 13 = .ok (.aload_n 0, 1) := by decide +kernel
theorem dX8_exchangeAt_14 : decode cX8_exchangeAt 14 = .ok (.getfield 65, 3) := by decide +kernel
theorem dX8_exchangeAt_17 : decode cX8_exchangeAt 17 = .ok (.ifCond .eq 7, 3) := by decide +kernel
theorem dX8_exchangeAt_20 : decode cX8_exchangeAt 20 = .ok (.iconst 0, 1) := by decide +kernel
theorem dX8_exchangeAt_21 : decode cX8_exchangeAt 21 = .ok (.goto 8, 3) := by decide +kernel
theorem dX8_exchangeAt_24 : decode cX8_exchangeAt 24 = .ok (.aload_n 0, 1) := by decide +kernel
theorem dX8_exchangeAt_25 : decode cX8_exchangeAt 25 = .ok (.iload_n 1, 1) := by decide +kernel
theorem dX8_exchangeAt_26 : decode cX8_exchangeAt 26 = .ok (.invokevirtual 211, 3) := by decide +kernel
theorem dX8_exchangeAt_29 : decode cX8_exchangeAt 29 = .ok (.ireturn, 1) := by decide +kernel
theorem dX8_whyNot_0 : decode cX8_whyNot 0 = .ok (.aload_n 0, 1) := by decide +kernel
theorem dX8_whyNot_1 : decode cX8_whyNot 1 = .ok (.aload_n 0, 1) := by decide +kernel
theorem dX8_whyNot_2 : decode cX8_whyNot 2 = .ok (.iload_n 1, 1) := by decide +kernel
theorem dX8_whyNot_3 : decode cX8_whyNot 3 = .ok (.invokevirtual 214, 3) := by decide +kernel
theorem dX8_whyNot_6 : decode cX8_whyNot 6 = .ok (.ifCond .ne 7, 3) := by decide +kernel
theorem dX8_whyNot_9 : decode cX8_whyNot 9 = .ok (.iconst 1, 1) := by decide +kernel
theorem dX8_whyNot_10 : decode cX8_whyNot 10 = .ok (.goto 4, 3) := by decide +kernel
theorem dX8_whyNot_13 : decode cX8_whyNot 13 = .ok (.iconst 0, 1) := by decide +kernel
theorem dX8_whyNot_14 : decode cX8_whyNot 14 = .ok (.putfield 65, 3) := by decide +kernel
theorem dX8_whyNot_17 : decode cX8_whyNot 17 = .ok (.aload_n 0, 1) := by decide +kernel
theorem dX8_whyNot_18 : decode cX8_whyNot 18 = .ok (.getfield 65, 3) := by decide +kernel
theorem dX8_whyNot_21 : decode cX8_whyNot 21 = .ok (.ifCond .eq 5, 3) := by decide +kernel
theorem dX8_whyNot_24 : decode cX8_whyNot 24 = .ok (.iconst 0, 1) := by decide +kernel
theorem dX8_whyNot_25 : decode cX8_whyNot 25 = .ok (.ireturn, 1) := by decide +kernel
theorem dX8_whyNot_26 : decode cX8_whyNot 26 = .ok (.aload_n 0, 1) := by decide +kernel
theorem dX8_whyNot_27 : decode cX8_whyNot 27 = .ok (.getfield 7, 3) := by decide +kernel
theorem dX8_whyNot_30 : decode cX8_whyNot 30 = .ok (.aload_n 0, 1) := by decide +kernel
theorem dX8_whyNot_31 : decode cX8_whyNot 31 = .ok (.iload_n 1, 1) := by decide +kernel
theorem dX8_whyNot_32 : decode cX8_whyNot 32 = .ok (.invokevirtual 105, 3) := by decide +kernel
theorem dX8_whyNot_35 : decode cX8_whyNot 35 = .ok (.iaload, 1) := by decide +kernel
theorem dX8_whyNot_36 : decode cX8_whyNot 36 = .ok (.istore_n 2, 1) := by decide +kernel
theorem dX8_whyNot_37 : decode cX8_whyNot 37 = .ok (.aload_n 0, 1) := by decide +kernel
theorem dX8_whyNot_38 : decode cX8_whyNot 38 = .ok (.iload_n 1, 1) := by decide +kernel
theorem dX8_whyNot_39 : decode cX8_whyNot 39 = .ok (.invokevirtual 102, 3) := by decide +kernel
theorem dX8_whyNot_42 : decode cX8_whyNot 42 = .ok (.iload_n 2, 1) := by decide +kernel
theorem dX8_whyNot_43 : decode cX8_whyNot 43 = .ok (.if_icmp .ne 7, 3) := by decide +kernel
theorem dX8_whyNot_46 : decode cX8_whyNot 46 = .ok (.iconst 0, 1) := by decide +kernel
theorem dX8_whyNot_47 : decode cX8_whyNot 47 = .ok (.goto 38, 3) := by decide +kernel
theorem dX8_whyNot_50 : decode cX8_whyNot 50 = .ok (.iload_n 2, 1) := by decide +kernel
theorem dX8_whyNot_51 : decode cX8_whyNot 51 = .ok (.aload_n 0, 1) := by decide +kernel
theorem dX8_whyNot_52 : decode cX8_whyNot 52 = .ok (.iload_n 1, 1) := by decide +kernel
theorem dX8_whyNot_53 : decode cX8_whyNot 53 = .ok (.invokevirtual 87, 3) := by decide +kernel
theorem dX8_whyNot_56 : decode cX8_whyNot 56 = .ok (.aload_n 0, 1) := by decide +kernel
theorem dX8_whyNot_57 : decode cX8_whyNot 57 = .ok (.iload_n 1, 1) := by decide +kernel
theorem dX8_whyNot_58 : decode cX8_whyNot 58 = .ok (.iconst 0, 1) := by decide +kernel
theorem dX8_whyNot_59 : decode cX8_whyNot 59 = .ok (.invokevirtual 221, 3) := by decide +kernel
theorem dX8_whyNot_62 : decode cX8_whyNot 62 = .ok (.isub, 1) := by decide +kernel
theorem dX8_whyNot_63 : decode cX8_whyNot 63 = .ok (.if_icmp .le 7, 3) := by decide +kernel
theorem dX8_whyNot_66 : decode cX8_whyNot 66 = .ok (.iconst 1, 1) := by decide +kernel
theorem dX8_whyNot_67 : decode cX8_whyNot 67 = .ok (.goto 18, 3) := by decide +kernel
theorem dX8_whyNot_70 : decode cX8_whyNot 70 = .ok (.iload_n 2, 1) := by decide +kernel
theorem dX8_whyNot_71 : decode cX8_whyNot 71 = .ok (.aload_n 0, 1) := by decide +kernel
theorem dX8_whyNot_72 : decode cX8_whyNot 72 = .ok (.iload_n 1, 1) := by decide +kernel
theorem dX8_whyNot_73 : decode cX8_whyNot 73 = .ok (.iconst 1, 1) := by decide +kernel
theorem dX8_whyNot_74 : decode cX8_whyNot 74 = .ok (.invokevirtual 221, 3) := by decide +kernel
theorem dX8_whyNot_77 : decode cX8_whyNot 77 = .ok (.if_icmp .ge 7, 3) := by decide +kernel
theorem dX8_whyNot_80 : decode cX8_whyNot 80 = .ok (.iconst 2, 1) := by decide +kernel
theorem dX8_whyNot_81 : decode cX8_whyNot 81 = .ok (.goto 4, 3) := by decide +kernel
theorem dX8_whyNot_84 : decode cX8_whyNot 84 = .ok (.iconst 3, 1) := by decide +kernel
theorem dX8_whyNot_85 : decode cX8_whyNot 85 = .ok (.ireturn, 1) := by decide +kernel
theorem dX8_resize_0 : decode cX8_resize 0 = .ok (.aload_n 0, 1) := by decide +kernel
theorem dX8_resize_1 : decode cX8_resize 1 = .ok (.iload_n 1, 1) := by decide +kernel
theorem dX8_resize_2 : decode cX8_resize 2 = .ok (.iconst 1, 1) := by decide +kernel
theorem dX8_resize_3 : decode cX8_resize 3 = .ok (.bipush 6, 2) := by decide +kernel
theorem dX8_resize_5 : decode cX8_resize 5 = .ok (.invokestatic 80, 3) := by decide +kernel
theorem dX8_resize_8 : decode cX8_resize 8 = .ok (.ifCond .eq 13, 3) := by decide +kernel
theorem dX8_resize_11 : decode cX8_resize 11 = .ok (.iload_n 2, 1) := by decide +kernel
theorem dX8_resize_12 : decode cX8_resize 12 = .ok (.iconst 1, 1) := by decide +kernel
theorem dX8_resize_13 : decode cX8_resize 13 = .ok (.bipush 6, 2) := by decide +kernel
theorem dX8_resize_15 : decode cX8_resize 15 = .ok (.invokestatic 80, 3) := by decide +kernel
theorem dX8_resize_18 : decode cX8_resize 18 = .ok (.ifCond .ne 7, 3) := by decide +kernel
theorem dX8_resize_21 : decode cX8_resize 21 = .ok (.iconst 1, 1) := by decide +kernel
theorem dX8_resize_22 : decode cX8_resize 22 = .ok (.goto 4, 3) := by decide +kernel
theorem dX8_resize_25 : decode cX8_resize 25 = .ok (.iconst 0, 1) := by decide +kernel
theorem dX8_resize_26 : decode cX8_resize 26 = .ok (.putfield 65, 3) := by decide +kernel
theorem dX8_resize_29 : decode cX8_resize 29 = .ok (.aload_n 0, 1) := by decide +kernel
theorem dX8_resize_30 : decode cX8_resize 30 = .ok (.getfield 65, 3) := by decide +kernel
theorem dX8_resize_33 : decode cX8_resize 33 = .ok (.ifCond .eq 5, 3) := by decide +kernel
theorem dX8_resize_36 : decode cX8_resize 36 = .ok (.iconst 0, 1) := by decide +kernel
theorem dX8_resize_37 : decode cX8_resize 37 = .ok (.ireturn, 1) := by decide +kernel
theorem dX8_resize_38 : decode cX8_resize 38 = .ok (.aload_n 0, 1) := by decide +kernel
theorem dX8_resize_39 : decode cX8_resize 39 = .ok (.invokevirtual 230, 3) := by decide +kernel
theorem dX8_resize_42 : decode cX8_resize 42 = .ok (.aload_n 0, 1) := by decide +kernel
theorem dX8_resize_43 : decode cX8_resize 43 = .ok (.getfield 7, 3) := by decide +kernel
theorem dX8_resize_46 : decode cX8_resize 46 = .ok (.iconst 0, 1) := by decide +kernel
theorem dX8_resize_47 : decode cX8_resize 47 = .ok (.iload_n 1, 1) := by decide +kernel
theorem dX8_resize_48 : decode cX8_resize 48 = .ok (.iastore, 1) := by decide +kernel
theorem dX8_resize_49 : decode cX8_resize 49 = .ok (.aload_n 0, 1) := by decide +kernel
theorem dX8_resize_50 : decode cX8_resize 50 = .ok (.getfield 7, 3) := by decide +kernel
theorem dX8_resize_53 : decode cX8_resize 53 = .ok (.iconst 1, 1) := by decide +kernel
theorem dX8_resize_54 : decode cX8_resize 54 = .ok (.iload_n 2, 1) := by decide +kernel
theorem dX8_resize_55 : decode cX8_resize 55 = .ok (.iastore, 1) := by decide +kernel
theorem dX8_resize_56 : decode cX8_resize 56 = .ok (.iconst 0, 1) := by decide +kernel
theorem dX8_resize_57 : decode cX8_resize 57 = .ok (.istore_n 3, 1) := by decide +kernel
theorem dX8_resize_58 : decode cX8_resize 58 = .ok (.iload_n 3, 1) := by decide +kernel
theorem dX8_resize_59 : decode cX8_resize 59 = .ok (.bipush 36, 2) := by decide +kernel
theorem dX8_resize_61 : decode cX8_resize 61 = .ok (.if_icmp .ge 44, 3) := by decide +kernel
theorem dX8_resize_64 : decode cX8_resize 64 = .ok (.aload_n 0, 1) := by decide +kernel
theorem dX8_resize_65 : decode cX8_resize 65 = .ok (.getfield 7, 3) := by decide +kernel
theorem dX8_resize_68 : decode cX8_resize 68 = .ok (.iconst 2, 1) := by decide +kernel
theorem dX8_resize_69 : decode cX8_resize 69 = .ok (.iload_n 3, 1) := by decide +kernel
theorem dX8_resize_70 : decode cX8_resize 70 = .ok (.iadd, 1) := by decide +kernel
theorem dX8_resize_71 : decode cX8_resize 71 = .ok (.aload_n 0, 1) := by decide +kernel
theorem dX8_resize_72 : decode cX8_resize 72 = .ok (.iload_n 3, 1) := by decide +kernel
theorem dX8_resize_73 : decode cX8_resize 73 = .ok (.bipush 6, 2) := by decide +kernel
theorem dX8_resize_75 : decode cX8_resize 75 = .ok (.idiv, 1) := by decide +kernel
theorem dX8_resize_76 : decode cX8_resize 76 = .ok (.iload_n 3, 1) := by decide +kernel
theorem dX8_resize_77 : decode cX8_resize 77 = .ok (.bipush 6, 2) := by decide +kernel
theorem dX8_resize_79 : decode cX8_resize 79 = .ok (.irem, 1) := by decide +kernel
theorem dX8_resize_80 : decode cX8_resize 80 = .ok (.invokevirtual 127, 3) := by decide +kernel
theorem dX8_resize_83 : decode cX8_resize 83 = .ok (.ifCond .eq 14, 3) := by decide +kernel
theorem dX8_resize_86 : decode cX8_resize 86 = .ok (.aload_n 0, 1) := by decide +kernel
theorem dX8_resize_87 : decode cX8_resize 87 = .ok (.getfield 7, 3) := by decide +kernel
theorem dX8_resize_90 : decode cX8_resize 90 = .ok (.iconst 2, 1) := by decide +kernel
theorem dX8_resize_91 : decode cX8_resize 91 = .ok (.iload_n 3, 1) := by decide +kernel
theorem dX8_resize_92 : decode cX8_resize 92 = .ok (.iadd, 1) := by decide +kernel
theorem dX8_resize_93 : decode cX8_resize 93 = .ok (.iaload, 1) := by decide +kernel
theorem dX8_resize_94 : decode cX8_resize 94 = .ok (.goto 4, 3) := by decide +kernel
theorem dX8_resize_97 : decode cX8_resize 97 = .ok (.iconst 0, 1) := by decide +kernel
theorem dX8_resize_98 : decode cX8_resize 98 = .ok (.iastore, 1) := by decide +kernel
theorem dX8_resize_99 : decode cX8_resize 99 = .ok (.iinc 3 1, 3) := by decide +kernel
theorem dX8_resize_102 : decode cX8_resize 102 = .ok (.goto (-44), 3) := by decide +kernel
theorem dX8_resize_105 : decode cX8_resize 105 = .ok (.iconst 0, 1) := by decide +kernel
theorem dX8_resize_106 : decode cX8_resize 106 = .ok (.istore_n 3, 1) := by decide +kernel
theorem dX8_resize_107 : decode cX8_resize 107 = .ok (.iload_n 3, 1) := by decide +kernel
theorem dX8_resize_108 : decode cX8_resize 108 = .ok (.bipush 6, 2) := by decide +kernel
theorem dX8_resize_110 : decode cX8_resize 110 = .ok (.if_icmp .ge 63, 3) := by decide +kernel
theorem dX8_resize_113 : decode cX8_resize 113 = .ok (.aload_n 0, 1) := by decide +kernel
theorem dX8_resize_114 : decode cX8_resize 114 = .ok (.getfield 7, 3) := by decide +kernel
theorem dX8_resize_117 : decode cX8_resize 117 = .ok (.bipush 38, 2) := by decide +kernel
theorem dX8_resize_119 : decode cX8_resize 119 = .ok (.iload_n 3, 1) := by decide +kernel
theorem dX8_resize_120 : decode cX8_resize 120 = .ok (.iadd, 1) := by decide +kernel
theorem dX8_resize_121 : decode cX8_resize 121 = .ok (.iload_n 3, 1) := by decide +kernel
theorem dX8_resize_122 : decode cX8_resize 122 = .ok (.iload_n 1, 1) := by decide +kernel
theorem dX8_resize_123 : decode cX8_resize 123 = .ok (.if_icmp .ge 15, 3) := by decide +kernel
theorem dX8_resize_126 : decode cX8_resize 126 = .ok (.aload_n 0, 1) := by decide +kernel
theorem dX8_resize_127 : decode cX8_resize 127 = .ok (.getfield 7, 3) := by decide +kernel
theorem dX8_resize_130 : decode cX8_resize 130 = .ok (.bipush 38, 2) := by decide +kernel
theorem dX8_resize_132 : decode cX8_resize 132 = .ok (.iload_n 3, 1) := by decide +kernel
theorem dX8_resize_133 : decode cX8_resize 133 = .ok (.iadd, 1) := by decide +kernel
theorem dX8_resize_134 : decode cX8_resize 134 = .ok (.iaload, 1) := by decide +kernel
theorem dX8_resize_135 : decode cX8_resize 135 = .ok (.goto 4, 3) := by decide +kernel
theorem dX8_resize_138 : decode cX8_resize 138 = .ok (.iconst 0, 1) := by decide +kernel
theorem dX8_resize_139 : decode cX8_resize 139 = .ok (.iastore, 1) := by decide +kernel
theorem dX8_resize_140 : decode cX8_resize 140 = .ok (.aload_n 0, 1) := by decide +kernel
theorem dX8_resize_141 : decode cX8_resize 141 = .ok (.getfield 7, 3) := by decide +kernel
theorem dX8_resize_144 : decode cX8_resize 144 = .ok (.bipush 44, 2) := by decide +kernel
theorem dX8_resize_146 : decode cX8_resize 146 = .ok (.iload_n 3, 1) := by decide +kernel
theorem dX8_resize_147 : decode cX8_resize 147 = .ok (.iadd, 1) := by decide +kernel
theorem dX8_resize_148 : decode cX8_resize 148 = .ok (.iload_n 3, 1) := by decide +kernel
theorem dX8_resize_149 : decode cX8_resize 149 = .ok (.iload_n 2, 1) := by decide +kernel
theorem dX8_resize_150 : decode cX8_resize 150 = .ok (.if_icmp .ge 15, 3) := by decide +kernel
theorem dX8_resize_153 : decode cX8_resize 153 = .ok (.aload_n 0, 1) := by decide +kernel
theorem dX8_resize_154 : decode cX8_resize 154 = .ok (.getfield 7, 3) := by decide +kernel
theorem dX8_resize_157 : decode cX8_resize 157 = .ok (.bipush 44, 2) := by decide +kernel
theorem dX8_resize_159 : decode cX8_resize 159 = .ok (.iload_n 3, 1) := by decide +kernel
theorem dX8_resize_160 : decode cX8_resize 160 = .ok (.iadd, 1) := by decide +kernel
theorem dX8_resize_161 : decode cX8_resize 161 = .ok (.iaload, 1) := by decide +kernel
theorem dX8_resize_162 : decode cX8_resize 162 = .ok (.goto 4, 3) := by decide +kernel
theorem dX8_resize_165 : decode cX8_resize 165 = .ok (.iconst 0, 1) := by decide +kernel
theorem dX8_resize_166 : decode cX8_resize 166 = .ok (.iastore, 1) := by decide +kernel
theorem dX8_resize_167 : decode cX8_resize 167 = .ok (.iinc 3 1, 3) := by decide +kernel
theorem dX8_resize_170 : decode cX8_resize 170 = .ok (.goto (-63), 3) := by decide +kernel
theorem dX8_resize_173 : decode cX8_resize 173 = .ok (.aload_n 0, 1) := by decide +kernel
theorem dX8_resize_174 : decode cX8_resize 174 = .ok (.invokevirtual 124, 3) := by decide +kernel
theorem dX8_resize_177 : decode cX8_resize 177 = .ok (.ireturn, 1) := by decide +kernel
theorem dX8_fill_0 : decode cX8_fill 0 = .ok (.aload_n 0, 1) := by decide +kernel
theorem dX8_fill_1 : decode cX8_fill 1 = .ok (.aload_n 0, 1) := by decide +kernel
theorem dX8_fill_2 : decode cX8_fill 2 = .ok (.iload_n 1, 1) := by decide +kernel
theorem dX8_fill_3 : decode cX8_fill 3 = .ok (.iload_n 2, 1) := by decide +kernel
theorem dX8_fill_4 : decode cX8_fill 4 = .ok (.invokevirtual 127, 3) := by decide +kernel
theorem dX8_fill_7 : decode cX8_fill 7 = .ok (.ifCond .ne 7, 3) := by decide +kernel
theorem dX8_fill_10 : decode cX8_fill 10 = .ok (.iconst 1, 1) := by decide +kernel
theorem dX8_fill_11 : decode cX8_fill 11 = .ok (.goto 17, 3) := by decide +kernel
theorem dX8_fill_14 : decode cX8_fill 14 = .ok (.aload_n 0, 1) := by decide +kernel
theorem dX8_fill_15 : decode cX8_fill 15 = .ok (.iload_n 1, 1) := by decide +kernel
theorem dX8_fill_16 : decode cX8_fill 16 = .ok (.iload_n 2, 1) := by decide +kernel
theorem dX8_fill_17 : decode cX8_fill 17 = .ok (.invokevirtual 145, 3) := by decide +kernel
theorem dX8_fill_20 : decode cX8_fill 20 = .ok (.ifCond .eq 7, 3) := by decide +kernel
theorem dX8_fill_23 : decode cX8_fill 23 = .ok (.iconst 2, 1) := by decide +kernel
theorem dX8_fill_24 : decode cX8_fill 24 = .ok (.goto 4, 3) := by decide +kernel
theorem dX8_fill_27 : decode cX8_fill 27 = .ok (.iconst 0, 1) := by decide +kernel
theorem dX8_fill_28 : decode cX8_fill 28 = .ok (.putfield 65, 3) := by decide +kernel
theorem dX8_fill_31 : decode cX8_fill 31 = .ok (.aload_n 0, 1) := by decide +kernel
theorem dX8_fill_32 : decode cX8_fill 32 = .ok (.getfield 65, 3) := by decide +kernel
theorem dX8_fill_35 : decode cX8_fill 35 = .ok (.ifCond .eq 5, 3) := by decide +kernel
theorem dX8_fill_38 : decode cX8_fill 38 = .ok (.iconst 0, 1) := by decide +kernel
theorem dX8_fill_39 : decode cX8_fill 39 = .ok (.ireturn, 1) := by decide +kernel
theorem dX8_fill_40 : decode cX8_fill 40 = .ok (.aload_n 0, 1) := by decide +kernel
theorem dX8_fill_41 : decode cX8_fill 41 = .ok (.invokevirtual 230, 3) := by decide +kernel
theorem dX8_fill_44 : decode cX8_fill 44 = .ok (.aload_n 0, 1) := by decide +kernel
theorem dX8_fill_45 : decode cX8_fill 45 = .ok (.iload_n 1, 1) := by decide +kernel
theorem dX8_fill_46 : decode cX8_fill 46 = .ok (.iload_n 2, 1) := by decide +kernel
theorem dX8_fill_47 : decode cX8_fill 47 = .ok (.invokevirtual 98, 3) := by decide +kernel
theorem dX8_fill_50 : decode cX8_fill 50 = .ok (.istore 4, 2) := by decide +kernel
theorem dX8_fill_52 : decode cX8_fill 52 = .ok (.aload_n 0, 1) := by decide +kernel
theorem dX8_fill_53 : decode cX8_fill 53 = .ok (.iload_n 1, 1) := by decide +kernel
theorem dX8_fill_54 : decode cX8_fill 54 = .ok (.iload_n 2, 1) := by decide +kernel
theorem dX8_fill_55 : decode cX8_fill 55 = .ok (.iload_n 3, 1) := by decide +kernel
theorem dX8_fill_56 : decode cX8_fill 56 = .ok (.invokevirtual 179, 3) := by decide +kernel
theorem dX8_fill_59 : decode cX8_fill 59 = .ok (.iload 4, 2) := by decide +kernel
theorem dX8_fill_61 : decode cX8_fill 61 = .ok (.ireturn, 1) := by decide +kernel
theorem dX8_pins_0 : decode cX8_pins 0 = .ok (.iconst 2, 1) := by decide +kernel
theorem dX8_pins_1 : decode cX8_pins 1 = .ok (.bipush 6, 2) := by decide +kernel
theorem dX8_pins_3 : decode cX8_pins 3 = .ok (.iload_n 1, 1) := by decide +kernel
theorem dX8_pins_4 : decode cX8_pins 4 = .ok (.imul, 1) := by decide +kernel
theorem dX8_pins_5 : decode cX8_pins 5 = .ok (.iadd, 1) := by decide +kernel
theorem dX8_pins_6 : decode cX8_pins 6 = .ok (.iload_n 2, 1) := by decide +kernel
theorem dX8_pins_7 : decode cX8_pins 7 = .ok (.iadd, 1) := by decide +kernel
theorem dX8_pins_8 : decode cX8_pins 8 = .ok (.istore 4, 2) := by decide +kernel
theorem dX8_pins_10 : decode cX8_pins 10 = .ok (.aload_n 0, 1) := by decide +kernel
theorem dX8_pins_11 : decode cX8_pins 11 = .ok (.getfield 7, 3) := by decide +kernel
theorem dX8_pins_14 : decode cX8_pins 14 = .ok (.iload 4, 2) := by decide +kernel
theorem dX8_pins_16 : decode cX8_pins 16 = .ok (.iload_n 3, 1) := by decide +kernel
theorem dX8_pins_17 : decode cX8_pins 17 = .ok (.ifCond .eq 15, 3) := by decide +kernel
theorem dX8_pins_20 : decode cX8_pins 20 = .ok (.aload_n 0, 1) := by decide +kernel
theorem dX8_pins_21 : decode cX8_pins 21 = .ok (.getfield 7, 3) := by decide +kernel
theorem dX8_pins_24 : decode cX8_pins 24 = .ok (.iload 4, 2) := by decide +kernel
theorem dX8_pins_26 : decode cX8_pins 26 = .ok (.iaload, 1) := by decide +kernel
theorem dX8_pins_27 : decode cX8_pins 27 = .ok (.iconst 2, 1) := by decide +kernel
theorem dX8_pins_28 : decode cX8_pins 28 = .ok (.ior, 1) := by decide +kernel
theorem dX8_pins_29 : decode cX8_pins 29 = .ok (.goto 12, 3) := by decide +kernel
theorem dX8_pins_32 : decode cX8_pins 32 = .ok (.aload_n 0, 1) := by decide +kernel
theorem dX8_pins_33 : decode cX8_pins 33 = .ok (.getfield 7, 3) := by decide +kernel
theorem dX8_pins_36 : decode cX8_pins 36 = .ok (.iload 4, 2) := by decide +kernel
theorem dX8_pins_38 : decode cX8_pins 38 = .ok (.iaload, 1) := by decide +kernel
theorem dX8_pins_39 : decode cX8_pins 39 = .ok (.iconst 1, 1) := by decide +kernel
theorem dX8_pins_40 : decode cX8_pins 40 = .ok (.iand, 1) := by decide +kernel
theorem dX8_pins_41 : decode cX8_pins 41 = .ok (.iastore, 1) := by decide +kernel
theorem dX8_pins_42 : decode cX8_pins 42 = .ok (.return_, 1) := by decide +kernel
theorem dX8_pin_0 : decode cX8_pin 0 = .ok (.aload_n 0, 1) := by decide +kernel
theorem dX8_pin_1 : decode cX8_pin 1 = .ok (.aload_n 0, 1) := by decide +kernel
theorem dX8_pin_2 : decode cX8_pin 2 = .ok (.iload_n 1, 1) := by decide +kernel
theorem dX8_pin_3 : decode cX8_pin 3 = .ok (.iload_n 2, 1) := by decide +kernel
theorem dX8_pin_4 : decode cX8_pin 4 = .ok (.invokevirtual 127, 3) := by decide +kernel
theorem dX8_pin_7 : decode cX8_pin 7 = .ok (.ifCond .ne 7, 3) := by decide +kernel
theorem dX8_pin_10 : decode cX8_pin 10 = .ok (.iconst 1, 1) := by decide +kernel
theorem dX8_pin_11 : decode cX8_pin 11 = .ok (.goto 4, 3) := by decide +kernel
theorem dX8_pin_14 : decode cX8_pin 14 = .ok (.iconst 0, 1) := by decide +kernel
theorem dX8_pin_15 : decode cX8_pin 15 = .ok (.putfield 65, 3) := by decide +kernel
theorem dX8_pin_18 : decode cX8_pin 18 = .ok (.aload_n 0, 1) := by decide +kernel
theorem dX8_pin_19 : decode cX8_pin 19 = .ok (.getfield 65, 3) := by decide +kernel
theorem dX8_pin_22 : decode cX8_pin 22 = .ok (.ifCond .eq 5, 3) := by decide +kernel
theorem dX8_pin_25 : decode cX8_pin 25 = .ok (.iconst 0, 1) := by decide +kernel
theorem dX8_pin_26 : decode cX8_pin 26 = .ok (.ireturn, 1) := by decide +kernel
theorem dX8_pin_27 : decode cX8_pin 27 = .ok (.aload_n 0, 1) := by decide +kernel
theorem dX8_pin_28 : decode cX8_pin 28 = .ok (.invokevirtual 230, 3) := by decide +kernel
theorem dX8_pin_31 : decode cX8_pin 31 = .ok (.aload_n 0, 1) := by decide +kernel
theorem dX8_pin_32 : decode cX8_pin 32 = .ok (.iload_n 1, 1) := by decide +kernel
theorem dX8_pin_33 : decode cX8_pin 33 = .ok (.iload_n 2, 1) := by decide +kernel
theorem dX8_pin_34 : decode cX8_pin 34 = .ok (.invokevirtual 145, 3) := by decide +kernel
theorem dX8_pin_37 : decode cX8_pin 37 = .ok (.istore 4, 2) := by decide +kernel
theorem dX8_pin_39 : decode cX8_pin 39 = .ok (.aload_n 0, 1) := by decide +kernel
theorem dX8_pin_40 : decode cX8_pin 40 = .ok (.iload_n 1, 1) := by decide +kernel
theorem dX8_pin_41 : decode cX8_pin 41 = .ok (.iload_n 2, 1) := by decide +kernel
theorem dX8_pin_42 : decode cX8_pin 42 = .ok (.iload_n 3, 1) := by decide +kernel
theorem dX8_pin_43 : decode cX8_pin 43 = .ok (.invokevirtual 233, 3) := by decide +kernel
theorem dX8_pin_46 : decode cX8_pin 46 = .ok (.iload 4, 2) := by decide +kernel
theorem dX8_pin_48 : decode cX8_pin 48 = .ok (.ireturn, 1) := by decide +kernel
theorem dX8_want_0 : decode cX8_want 0 = .ok (.aload_n 0, 1) := by decide +kernel
theorem dX8_want_1 : decode cX8_want 1 = .ok (.aload_n 0, 1) := by decide +kernel
theorem dX8_want_2 : decode cX8_want 2 = .ok (.iload_n 1, 1) := by decide +kernel
theorem dX8_want_3 : decode cX8_want 3 = .ok (.invokevirtual 214, 3) := by decide +kernel
theorem dX8_want_6 : decode cX8_want 6 = .ok (.ifCond .ne 7, 3) := by decide +kernel
theorem dX8_want_9 : decode cX8_want 9 = .ok (.iconst 1, 1) := by decide +kernel
theorem dX8_want_10 : decode cX8_want 10 = .ok (.goto 18, 3) := by decide +kernel
theorem dX8_want_13 : decode cX8_want 13 = .ok (.iload_n 2, 1) := by decide +kernel
theorem dX8_want_14 : decode cX8_want 14 = .ok (.iconst 0, 1) := by decide +kernel
theorem dX8_want_15 : decode cX8_want 15 = .ok (.bipush 6, 2) := by decide +kernel
theorem dX8_want_17 : decode cX8_want 17 = .ok (.invokestatic 80, 3) := by decide +kernel
theorem dX8_want_20 : decode cX8_want 20 = .ok (.ifCond .ne 7, 3) := by decide +kernel
theorem dX8_want_23 : decode cX8_want 23 = .ok (.iconst 2, 1) := by decide +kernel
theorem dX8_want_24 : decode cX8_want 24 = .ok (.goto 4, 3) := by decide +kernel
theorem dX8_want_27 : decode cX8_want 27 = .ok (.iconst 0, 1) := by decide +kernel
theorem dX8_want_28 : decode cX8_want 28 = .ok (.putfield 65, 3) := by decide +kernel
theorem dX8_want_31 : decode cX8_want 31 = .ok (.aload_n 0, 1) := by decide +kernel
theorem dX8_want_32 : decode cX8_want 32 = .ok (.getfield 65, 3) := by decide +kernel
theorem dX8_want_35 : decode cX8_want 35 = .ok (.ifCond .eq 5, 3) := by decide +kernel
theorem dX8_want_38 : decode cX8_want 38 = .ok (.iconst 0, 1) := by decide +kernel
theorem dX8_want_39 : decode cX8_want 39 = .ok (.ireturn, 1) := by decide +kernel
theorem dX8_want_40 : decode cX8_want 40 = .ok (.aload_n 0, 1) := by decide +kernel
theorem dX8_want_41 : decode cX8_want 41 = .ok (.invokevirtual 230, 3) := by decide +kernel
theorem dX8_want_44 : decode cX8_want 44 = .ok (.aload_n 0, 1) := by decide +kernel
theorem dX8_want_45 : decode cX8_want 45 = .ok (.getfield 7, 3) := by decide +kernel
theorem dX8_want_48 : decode cX8_want 48 = .ok (.aload_n 0, 1) := by decide +kernel
theorem dX8_want_49 : decode cX8_want 49 = .ok (.iload_n 1, 1) := by decide +kernel
theorem dX8_want_50 : decode cX8_want 50 = .ok (.invokevirtual 105, 3) := by decide +kernel
theorem dX8_want_53 : decode cX8_want 53 = .ok (.iaload, 1) := by decide +kernel
theorem dX8_want_54 : decode cX8_want 54 = .ok (.istore_n 3, 1) := by decide +kernel
theorem dX8_want_55 : decode cX8_want 55 = .ok (.aload_n 0, 1) := by decide +kernel
theorem dX8_want_56 : decode cX8_want 56 = .ok (.getfield 7, 3) := by decide +kernel
theorem dX8_want_59 : decode cX8_want 59 = .ok (.aload_n 0, 1) := by decide +kernel
theorem dX8_want_60 : decode cX8_want 60 = .ok (.iload_n 1, 1) := by decide +kernel
theorem dX8_want_61 : decode cX8_want 61 = .ok (.invokevirtual 105, 3) := by decide +kernel
theorem dX8_want_64 : decode cX8_want 64 = .ok (.iload_n 2, 1) := by decide +kernel
theorem dX8_want_65 : decode cX8_want 65 = .ok (.iastore, 1) := by decide +kernel
theorem dX8_want_66 : decode cX8_want 66 = .ok (.iload_n 3, 1) := by decide +kernel
theorem dX8_want_67 : decode cX8_want 67 = .ok (.ireturn, 1) := by decide +kernel
theorem dX8_wantAll_0 : decode cX8_wantAll 0 = .ok (.aload_n 0, 1) := by decide +kernel
theorem dX8_wantAll_1 : decode cX8_wantAll 1 = .ok (.iconst 0, 1) := by decide +kernel
theorem dX8_wantAll_2 : decode cX8_wantAll 2 = .ok (.putfield 65, 3) := by decide +kernel
theorem dX8_wantAll_5 : decode cX8_wantAll 5 = .ok (.aload_n 0, 1) := by decide +kernel
theorem dX8_wantAll_6 : decode cX8_wantAll 6 = .ok (.invokevirtual 230, 3) := by decide +kernel
theorem dX8_wantAll_9 : decode cX8_wantAll 9 = .ok (.aload_n 0, 1) := by decide +kernel
theorem dX8_wantAll_10 : decode cX8_wantAll 10 = .ok (.invokevirtual 199, 3) := by decide +kernel
theorem dX8_wantAll_13 : decode cX8_wantAll 13 = .ok (.istore_n 1, 1) := by decide +kernel
theorem dX8_wantAll_14 : decode cX8_wantAll 14 = .ok (.iconst 0, 1) := by decide +kernel
theorem dX8_wantAll_15 : decode cX8_wantAll 15 = .ok (.istore_n 2, 1) := by decide +kernel
theorem dX8_wantAll_16 : decode cX8_wantAll 16 = .ok (.iload_n 2, 1) := by decide +kernel
theorem dX8_wantAll_17 : decode cX8_wantAll 17 = .ok (.aload_n 0, 1) := by decide +kernel
theorem dX8_wantAll_18 : decode cX8_wantAll 18 = .ok (.invokevirtual 76, 3) := by decide +kernel
theorem dX8_wantAll_21 : decode cX8_wantAll 21 = .ok (.aload_n 0, 1) := by decide +kernel
theorem dX8_wantAll_22 : decode cX8_wantAll 22 = .ok (.invokevirtual 84, 3) := by decide +kernel
theorem dX8_wantAll_25 : decode cX8_wantAll 25 = .ok (.iadd, 1) := by decide +kernel
theorem dX8_wantAll_26 : decode cX8_wantAll 26 = .ok (.if_icmp .ge 24, 3) := by decide +kernel
theorem dX8_wantAll_29 : decode cX8_wantAll 29 = .ok (.aload_n 0, 1) := by decide +kernel
theorem dX8_wantAll_30 : decode cX8_wantAll 30 = .ok (.getfield 7, 3) := by decide +kernel
theorem dX8_wantAll_33 : decode cX8_wantAll 33 = .ok (.aload_n 0, 1) := by decide +kernel
theorem dX8_wantAll_34 : decode cX8_wantAll 34 = .ok (.iload_n 2, 1) := by decide +kernel
theorem dX8_wantAll_35 : decode cX8_wantAll 35 = .ok (.invokevirtual 105, 3) := by decide +kernel
theorem dX8_wantAll_38 : decode cX8_wantAll 38 = .ok (.aload_n 0, 1) := by decide +kernel
theorem dX8_wantAll_39 : decode cX8_wantAll 39 = .ok (.iload_n 2, 1) := by decide +kernel
theorem dX8_wantAll_40 : decode cX8_wantAll 40 = .ok (.invokevirtual 102, 3) := by decide +kernel
theorem dX8_wantAll_43 : decode cX8_wantAll 43 = .ok (.iastore, 1) := by decide +kernel
theorem dX8_wantAll_44 : decode cX8_wantAll 44 = .ok (.iinc 2 1, 3) := by decide +kernel
theorem dX8_wantAll_47 : decode cX8_wantAll 47 = .ok (.goto (-31), 3) := by decide +kernel
theorem dX8_wantAll_50 : decode cX8_wantAll 50 = .ok (.iload_n 1, 1) := by decide +kernel
theorem dX8_wantAll_51 : decode cX8_wantAll 51 = .ok (.ireturn, 1) := by decide +kernel
theorem dX8_exchange_0 : decode cX8_exchange 0 = .ok (.aload_n 0, 1) := by decide +kernel
theorem dX8_exchange_1 : decode cX8_exchange 1 = .ok (.iload_n 1, 1) := by decide +kernel
theorem dX8_exchange_2 : decode cX8_exchange 2 = .ok (.iload_n 3, 1) := by decide +kernel
theorem dX8_exchange_3 : decode cX8_exchange 3 = .ok (.invokevirtual 127, 3) := by decide +kernel
theorem dX8_exchange_6 : decode cX8_exchange 6 = .ok (.ifCond .eq 17, 3) := by decide +kernel
theorem dX8_exchange_9 : decode cX8_exchange 9 = .ok (.aload_n 0, 1) := by decide +kernel
theorem dX8_exchange_10 : decode cX8_exchange 10 = .ok (.iload_n 2, 1) := by decide +kernel
theorem dX8_exchange_11 : decode cX8_exchange 11 = .ok (.iload 4, 2) := by decide +kernel
theorem dX8_exchange_13 : decode cX8_exchange 13 = .ok (.invokevirtual 127, 3) := by decide +kernel
theorem dX8_exchange_16 : decode cX8_exchange 16 = .ok (.ifCond .eq 7, 3) := by decide +kernel
theorem dX8_exchange_19 : decode cX8_exchange 19 = .ok (.iconst 1, 1) := by decide +kernel
theorem dX8_exchange_20 : decode cX8_exchange 20 = .ok (.goto 4, 3) := by decide +kernel
theorem dX8_exchange_23 : decode cX8_exchange 23 = .ok (.iconst 0, 1) := by decide +kernel
theorem dX8_exchange_24 : decode cX8_exchange 24 = .ok (.istore 5, 2) := by decide +kernel
theorem dX8_exchange_26 : decode cX8_exchange 26 = .ok (.aload_n 0, 1) := by decide +kernel
theorem dX8_exchange_27 : decode cX8_exchange 27 = .ok (.iload 5, 2) := by decide +kernel
theorem dX8_exchange_29 : decode cX8_exchange 29 = .ok (.ifCond .ne 7, 3) := by decide +kernel
theorem dX8_exchange_32 : decode cX8_exchange 32 = .ok (.iconst 1, 1) := by decide +kernel
theorem dX8_exchange_33 : decode cX8_exchange 33 = .ok (.goto 35, 3) := by decide +kernel
theorem dX8_exchange_36 : decode cX8_exchange 36 = .ok (.iload_n 2, 1) := by decide +kernel
theorem dX8_exchange_37 : decode cX8_exchange 37 = .ok (.iload_n 1, 1) := by decide +kernel
theorem dX8_exchange_38 : decode cX8_exchange 38 = .ok (.if_icmp .le 9, 3) := by decide +kernel
theorem dX8_exchange_41 : decode cX8_exchange 41 = .ok (.iload 4, 2) := by decide +kernel
theorem dX8_exchange_43 : decode cX8_exchange 43 = .ok (.iload_n 3, 1) := by decide +kernel
theorem dX8_exchange_44 : decode cX8_exchange 44 = .ok (.if_icmp .gt 7, 3) := by decide +kernel
theorem dX8_exchange_47 : decode cX8_exchange 47 = .ok (.iconst 2, 1) := by decide +kernel
theorem dX8_exchange_48 : decode cX8_exchange 48 = .ok (.goto 20, 3) := by decide +kernel
theorem dX8_exchange_51 : decode cX8_exchange 51 = .ok (.aload_n 0, 1) := by decide +kernel
theorem dX8_exchange_52 : decode cX8_exchange 52 = .ok (.iload_n 1, 1) := by decide +kernel
theorem dX8_exchange_53 : decode cX8_exchange 53 = .ok (.iload_n 2, 1) := by decide +kernel
theorem dX8_exchange_54 : decode cX8_exchange 54 = .ok (.iload_n 3, 1) := by decide +kernel
theorem dX8_exchange_55 : decode cX8_exchange 55 = .ok (.iload 4, 2) := by decide +kernel
theorem dX8_exchange_57 : decode cX8_exchange 57 = .ok (.invokevirtual 148, 3) := by decide +kernel
theorem dX8_exchange_60 : decode cX8_exchange 60 = .ok (.ifCond .ne 7, 3) := by decide +kernel
theorem dX8_exchange_63 : decode cX8_exchange 63 = .ok (.iconst 3, 1) := by decide +kernel
theorem dX8_exchange_64 : decode cX8_exchange 64 = .ok (.goto 4, 3) := by decide +kernel
theorem dX8_exchange_67 : decode cX8_exchange 67 = .ok (.iconst 0, 1) := by decide +kernel
theorem dX8_exchange_68 : decode cX8_exchange 68 = .ok (.putfield 65, 3) := by decide +kernel
theorem dX8_exchange_71 : decode cX8_exchange 71 = .ok (.aload_n 0, 1) := by decide +kernel
theorem dX8_exchange_72 : decode cX8_exchange 72 = .ok (.getfield 65, 3) := by decide +kernel
theorem dX8_exchange_75 : decode cX8_exchange 75 = .ok (.ifCond .eq 5, 3) := by decide +kernel
theorem dX8_exchange_78 : decode cX8_exchange 78 = .ok (.iconst 0, 1) := by decide +kernel
theorem dX8_exchange_79 : decode cX8_exchange 79 = .ok (.ireturn, 1) := by decide +kernel
theorem dX8_exchange_80 : decode cX8_exchange 80 = .ok (.aload_n 0, 1) := by decide +kernel
theorem dX8_exchange_81 : decode cX8_exchange 81 = .ok (.invokevirtual 230, 3) := by decide +kernel
theorem dX8_exchange_84 : decode cX8_exchange 84 = .ok (.aload_n 0, 1) := by decide +kernel
theorem dX8_exchange_85 : decode cX8_exchange 85 = .ok (.iload_n 1, 1) := by decide +kernel
theorem dX8_exchange_86 : decode cX8_exchange 86 = .ok (.iload_n 2, 1) := by decide +kernel
theorem dX8_exchange_87 : decode cX8_exchange 87 = .ok (.iload_n 3, 1) := by decide +kernel
theorem dX8_exchange_88 : decode cX8_exchange 88 = .ok (.iload 4, 2) := by decide +kernel
theorem dX8_exchange_90 : decode cX8_exchange 90 = .ok (.invokevirtual 152, 3) := by decide +kernel
theorem dX8_exchange_93 : decode cX8_exchange 93 = .ok (.aload_n 0, 1) := by decide +kernel
theorem dX8_exchange_94 : decode cX8_exchange 94 = .ok (.invokevirtual 202, 3) := by decide +kernel
theorem dX8_exchange_97 : decode cX8_exchange 97 = .ok (.ireturn, 1) := by decide +kernel
theorem dX8_solve_0 : decode cX8_solve 0 = .ok (.aload_n 0, 1) := by decide +kernel
theorem dX8_solve_1 : decode cX8_solve 1 = .ok (.iload_n 1, 1) := by decide +kernel
theorem dX8_solve_2 : decode cX8_solve 2 = .ok (.iconst 0, 1) := by decide +kernel
theorem dX8_solve_3 : decode cX8_solve 3 = .ok (.iconst 1, 1) := by decide +kernel
theorem dX8_solve_4 : decode cX8_solve 4 = .ok (.invokestatic 80, 3) := by decide +kernel
theorem dX8_solve_7 : decode cX8_solve 7 = .ok (.ifCond .ne 7, 3) := by decide +kernel
theorem dX8_solve_10 : decode cX8_solve 10 = .ok (.iconst 1, 1) := by decide +kernel
theorem dX8_solve_11 : decode cX8_solve 11 = .ok (.goto 25, 3) := by decide +kernel
theorem dX8_solve_14 : decode cX8_solve 14 = .ok (.aload_n 0, 1) := by decide +kernel
theorem dX8_solve_15 : decode cX8_solve 15 = .ok (.iload_n 1, 1) := by decide +kernel
theorem dX8_solve_16 : decode cX8_solve 16 = .ok (.iconst 1, 1) := by decide +kernel
theorem dX8_solve_17 : decode cX8_solve 17 = .ok (.if_icmp .ne 7, 3) := by decide +kernel
theorem dX8_solve_20 : decode cX8_solve 20 = .ok (.iconst 1, 1) := by decide +kernel
theorem dX8_solve_21 : decode cX8_solve 21 = .ok (.goto 4, 3) := by decide +kernel
theorem dX8_solve_24 : decode cX8_solve 24 = .ok (.iconst 0, 1) := by decide +kernel
theorem dX8_solve_25 : decode cX8_solve 25 = .ok (.invokevirtual 186, 3) := by decide +kernel
theorem dX8_solve_28 : decode cX8_solve 28 = .ok (.ifCond .ne 7, 3) := by decide +kernel
theorem dX8_solve_31 : decode cX8_solve 31 = .ok (.iconst 2, 1) := by decide +kernel
theorem dX8_solve_32 : decode cX8_solve 32 = .ok (.goto 4, 3) := by decide +kernel
theorem dX8_solve_35 : decode cX8_solve 35 = .ok (.iconst 0, 1) := by decide +kernel
theorem dX8_solve_36 : decode cX8_solve 36 = .ok (.putfield 65, 3) := by decide +kernel
theorem dX8_solve_39 : decode cX8_solve 39 = .ok (.aload_n 0, 1) := by decide +kernel
theorem dX8_solve_40 : decode cX8_solve 40 = .ok (.getfield 65, 3) := by decide +kernel
theorem dX8_solve_43 : decode cX8_solve 43 = .ok (.ifCond .eq 5, 3) := by decide +kernel
theorem dX8_solve_46 : decode cX8_solve 46 = .ok (.iconst 0, 1) := by decide +kernel
theorem dX8_solve_47 : decode cX8_solve 47 = .ok (.ireturn, 1) := by decide +kernel
theorem dX8_solve_48 : decode cX8_solve 48 = .ok (.aload_n 0, 1) := by decide +kernel
theorem dX8_solve_49 : decode cX8_solve 49 = .ok (.invokevirtual 230, 3) := by decide +kernel
theorem dX8_solve_52 : decode cX8_solve 52 = .ok (.aload_n 0, 1) := by decide +kernel
theorem dX8_solve_53 : decode cX8_solve 53 = .ok (.invokevirtual 236, 3) := by decide +kernel
theorem dX8_solve_56 : decode cX8_solve 56 = .ok (.ireturn, 1) := by decide +kernel
theorem dX8_findsBehind_0 : decode cX8_findsBehind 0 = .ok (.aload_n 0, 1) := by decide +kernel
theorem dX8_findsBehind_1 : decode cX8_findsBehind 1 = .ok (.invokevirtual 239, 3) := by decide +kernel
theorem dX8_findsBehind_4 : decode cX8_findsBehind 4 = .ok (.aload_n 0, 1) := by decide +kernel
theorem dX8_findsBehind_5 : decode cX8_findsBehind 5 = .ok (.invokevirtual 190, 3) := by decide +kernel
theorem dX8_findsBehind_8 : decode cX8_findsBehind 8 = .ok (.ireturn, 1) := by decide +kernel
theorem dX8_next_0 : decode cX8_next 0 = .ok (.aload_n 0, 1) := by decide +kernel
theorem dX8_next_1 : decode cX8_next 1 = .ok (.aload_n 0, 1) := by decide +kernel
theorem dX8_next_2 : decode cX8_next 2 = .ok (.invokevirtual 242, 3) := by decide +kernel
theorem dX8_next_5 : decode cX8_next 5 = .ok (.ifCond .ne 7, 3) := by decide +kernel
theorem dX8_next_8 : decode cX8_next 8 = .ok (.iconst 1, 1) := by decide +kernel
theorem dX8_next_9 : decode cX8_next 9 = .ok (.goto 4, 3) := by decide +kernel
theorem dX8_next_12 : decode cX8_next 12 = .ok (.iconst 0, 1) := by decide +kernel
theorem dX8_next_13 : decode cX8_next 13 = .ok (.putfield 65, 3) := by decide +kernel
theorem dX8_next_16 : decode cX8_next 16 = .ok (.aload_n 0, 1) := by decide +kernel
theorem dX8_next_17 : decode cX8_next 17 = .ok (.getfield 65, 3) := by decide +kernel
theorem dX8_next_20 : decode cX8_next 20 = .ok (.ifCond .eq 5, 3) := by decide +kernel
theorem dX8_next_23 : decode cX8_next 23 = .ok (.iconst 0, 1) := by decide +kernel
theorem dX8_next_24 : decode cX8_next 24 = .ok (.ireturn, 1) := by decide +kernel
theorem dX8_next_25 : decode cX8_next 25 = .ok (.aload_n 0, 1) := by decide +kernel
theorem dX8_next_26 : decode cX8_next 26 = .ok (.invokevirtual 230, 3) := by decide +kernel
theorem dX8_next_29 : decode cX8_next 29 = .ok (.aload_n 0, 1) := by decide +kernel
theorem dX8_next_30 : decode cX8_next 30 = .ok (.invokevirtual 236, 3) := by decide +kernel
theorem dX8_next_33 : decode cX8_next 33 = .ok (.ireturn, 1) := by decide +kernel
theorem dX8_turns_0 : decode cX8_turns 0 = .ok (.aload_n 0, 1) := by decide +kernel
