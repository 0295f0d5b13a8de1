theorem dX6_drawInto_111 : decode cX6_drawInto 111 = .ok (.goto (-95), 3) := by decide +kernel
theorem dX6_drawInto_114 : decode cX6_drawInto 114 = .ok (.aload_n 0, 1) := by decide +kernel
theorem dX6_drawInto_115 : decode cX6_drawInto 115 = .ok (.getfield 15, 3) := by decide +kernel
theorem dX6_drawInto_118 : decode cX6_drawInto 118 = .ok (.aload_n 0, 1) := by decide +kernel
theorem dX6_drawInto_119 : decode cX6_drawInto 119 = .ok (.invokevirtual 39, 3) := by decide +kernel
theorem dX6_drawInto_122 : decode cX6_drawInto 122 = .ok (.if_icmp .ne 9, 3) := by decide +kernel
theorem dX6_drawInto_125 : decode cX6_drawInto 125 = .ok (.aload_n 1, 1) := by decide +kernel
theorem dX6_drawInto_126 : decode cX6_drawInto 126 = .ok (.invokevirtual 69, 3) := by decide +kernel
theorem dX6_drawInto_129 : decode cX6_drawInto 129 = .ok (.pop, 1) := by decide +kernel
theorem dX6_drawInto_130 : decode cX6_drawInto 130 = .ok (.return_, 1) := by decide +kernel
theorem dX6_drawInto_131 : decode cX6_drawInto 131 = .ok (.iconst 0, 1) := by decide +kernel
theorem dX6_drawInto_132 : decode cX6_drawInto 132 = .ok (.istore_n 2, 1) := by decide +kernel
theorem dX6_drawInto_133 : decode cX6_drawInto 133 = .ok (.iload_n 2, 1) := by decide +kernel
theorem dX6_drawInto_134 : decode cX6_drawInto 134 = .ok (.aload_n 1, 1) := by decide +kernel
theorem dX6_drawInto_135 : decode cX6_drawInto 135 = .ok (.getfield 56, 3) := by decide +kernel
theorem dX6_drawInto_138 : decode cX6_drawInto 138 = .ok (.aload_n 1, 1) := by decide +kernel
theorem dX6_drawInto_139 : decode cX6_drawInto 139 = .ok (.getfield 59, 3) := by decide +kernel
theorem dX6_drawInto_142 : decode cX6_drawInto 142 = .ok (.iadd, 1) := by decide +kernel
theorem dX6_drawInto_143 : decode cX6_drawInto 143 = .ok (.if_icmp .ge 27, 3) := by decide +kernel
theorem dX6_drawInto_146 : decode cX6_drawInto 146 = .ok (.aload_n 1, 1) := by decide +kernel
theorem dX6_drawInto_147 : decode cX6_drawInto 147 = .ok (.iload_n 2, 1) := by decide +kernel
theorem dX6_drawInto_148 : decode cX6_drawInto 148 = .ok (.aload_n 0, 1) := by decide +kernel
theorem dX6_drawInto_149 : decode cX6_drawInto 149 = .ok (.aload_n 0, 1) := by decide +kernel
theorem dX6_drawInto_150 : decode cX6_drawInto 150 = .ok (.invokevirtual 39, 3) := by decide +kernel
theorem dX6_drawInto_153 : decode cX6_drawInto 153 = .ok (.iconst 1, 1) := by decide +kernel
theorem dX6_drawInto_154 : decode cX6_drawInto 154 = .ok (.iadd, 1) := by decide +kernel
theorem dX6_drawInto_155 : decode cX6_drawInto 155 = .ok (.iload_n 2, 1) := by decide +kernel
theorem dX6_drawInto_156 : decode cX6_drawInto 156 = .ok (.iadd, 1) := by decide +kernel
theorem dX6_drawInto_157 : decode cX6_drawInto 157 = .ok (.invokevirtual 23, 3) := by decide +kernel
theorem dX6_drawInto_160 : decode cX6_drawInto 160 = .ok (.invokevirtual 72, 3) := by decide +kernel
theorem dX6_drawInto_163 : decode cX6_drawInto 163 = .ok (.pop, 1) := by decide +kernel
theorem dX6_drawInto_164 : decode cX6_drawInto 164 = .ok (.iinc 2 1, 3) := by decide +kernel
theorem dX6_drawInto_167 : decode cX6_drawInto 167 = .ok (.goto (-34), 3) := by decide +kernel
theorem dX6_drawInto_170 : decode cX6_drawInto 170 = .ok (.return_, 1) := by decide +kernel
theorem dX7_init_0 : decode cX7_init 0 = .ok (.aload_n 0, 1) := by decide +kernel
theorem dX7_init_1 : decode cX7_init 1 = .ok (.invokespecial 1, 3) := by decide +kernel
theorem dX7_init_4 : decode cX7_init 4 = .ok (.aload_n 0, 1) := by decide +kernel
theorem dX7_init_5 : decode cX7_init 5 = .ok (.new 7, 3) := by decide +kernel
theorem dX7_init_8 : decode cX7_init 8 = .ok (.dup, 1) := by decide +kernel
theorem dX7_init_9 : decode cX7_init 9 = .ok (.invokespecial 9, 3) := by decide +kernel
theorem dX7_init_12 : decode cX7_init 12 = .ok (.putfield 10, 3) := by decide +kernel
theorem dX7_init_15 : decode cX7_init 15 = .ok (.aload_n 0, 1) := by decide +kernel
theorem dX7_init_16 : decode cX7_init 16 = .ok (.new 16, 3) := by decide +kernel
theorem dX7_init_19 : decode cX7_init 19 = .ok (.dup, 1) := by decide +kernel
theorem dX7_init_20 : decode cX7_init 20 = .ok (.invokespecial 18, 3) := by decide +kernel
theorem dX7_init_23 : decode cX7_init 23 = .ok (.putfield 19, 3) := by decide +kernel
theorem dX7_init_26 : decode cX7_init 26 = .ok (.aload_n 0, 1) := by decide +kernel
theorem dX7_init_27 : decode cX7_init 27 = .ok (.new 16, 3) := by decide +kernel
theorem dX7_init_30 : decode cX7_init 30 = .ok (.dup, 1) := by decide +kernel
theorem dX7_init_31 : decode cX7_init 31 = .ok (.invokespecial 18, 3) := by decide +kernel
theorem dX7_init_34 : decode cX7_init 34 = .ok (.putfield 23, 3) := by decide +kernel
theorem dX7_init_37 : decode cX7_init 37 = .ok (.aload_n 0, 1) := by decide +kernel
theorem dX7_init_38 : decode cX7_init 38 = .ok (.new 26, 3) := by decide +kernel
theorem dX7_init_41 : decode cX7_init 41 = .ok (.dup, 1) := by decide +kernel
theorem dX7_init_42 : decode cX7_init 42 = .ok (.invokespecial 28, 3) := by decide +kernel
theorem dX7_init_45 : decode cX7_init 45 = .ok (.putfield 29, 3) := by decide +kernel
theorem dX7_init_48 : decode cX7_init 48 = .ok (.aload_n 0, 1) := by decide +kernel
theorem dX7_init_49 : decode cX7_init 49 = .ok (.new 33, 3) := by decide +kernel
theorem dX7_init_52 : decode cX7_init 52 = .ok (.dup, 1) := by decide +kernel
theorem dX7_init_53 : decode cX7_init 53 = .ok (.invokespecial 35, 3) := by decide +kernel
theorem dX7_init_56 : decode cX7_init 56 = .ok (.putfield 36, 3) := by decide +kernel
theorem dX7_init_59 : decode cX7_init 59 = .ok (.aload_n 0, 1) := by decide +kernel
theorem dX7_init_60 : decode cX7_init 60 = .ok (.new 40, 3) := by decide +kernel
theorem dX7_init_63 : decode cX7_init 63 = .ok (.dup, 1) := by decide +kernel
theorem dX7_init_64 : decode cX7_init 64 = .ok (.invokespecial 42, 3) := by decide +kernel
theorem dX7_init_67 : decode cX7_init 67 = .ok (.putfield 43, 3) := by decide +kernel
theorem dX7_init_70 : decode cX7_init 70 = .ok (.aload_n 0, 1) := by decide +kernel
theorem dX7_init_71 : decode cX7_init 71 = .ok (.bipush 48, 2) := by decide +kernel
theorem dX7_init_73 : decode cX7_init 73 = .ok (.newarray .int, 2) := by decide +kernel
theorem dX7_init_75 : decode cX7_init 75 = .ok (.putfield 49, 3) := by decide +kernel
theorem dX7_init_78 : decode cX7_init 78 = .ok (.return_, 1) := by decide +kernel
theorem dX7_append_0 : decode cX7_append 0 = .ok (.iload_n 1, 1) := by decide +kernel
theorem dX7_append_1 : decode cX7_append 1 = .ok (.ifCond .lt 10, 3) := by decide +kernel
theorem dX7_append_4 : decode cX7_append 4 = .ok (.iload_n 1, 1) := by decide +kernel
theorem dX7_append_5 : decode cX7_append 5 = .ok (.sipush 255, 3) := by decide +kernel
theorem dX7_append_8 : decode cX7_append 8 = .ok (.if_icmp .le 13, 3) := by decide +kernel
theorem dX7_append_11 : decode cX7_append 11 = .ok (.new 53, 3) := by decide +kernel
theorem dX7_append_14 : decode cX7_append 14 = .ok (.dup, 1) := by decide +kernel
theorem dX7_append_15 : decode cX7_append 15 = .ok (.ldc 55, 2) := by decide +kernel
theorem dX7_append_17 : decode cX7_append 17 = .ok (.invokespecial 57, 3) := by decide +kernel
theorem dX7_append_20 : decode cX7_append 20 = .ok (.athrow, 1) := by decide +kernel
theorem dX7_append_21 : decode cX7_append 21 = .ok (.aload_n 0, 1) := by decide +kernel
theorem dX7_append_22 : decode cX7_append 22 = .ok (.getfield 10, 3) := by decide +kernel
theorem dX7_append_25 : decode cX7_append 25 = .ok (.invokevirtual 60, 3) := by decide +kernel
theorem dX7_append_28 : decode cX7_append 28 = .ok (.ifCond .eq 13, 3) := by decide +kernel
theorem dX7_append_31 : decode cX7_append 31 = .ok (.new 64, 3) := by decide +kernel
theorem dX7_append_34 : decode cX7_append 34 = .ok (.dup, 1) := by decide +kernel
theorem dX7_append_35 : decode cX7_append 35 = .ok (.ldc 66, 2) := by decide +kernel
theorem dX7_append_37 : decode cX7_append 37 = .ok (.invokespecial 68, 3) := by decide +kernel
theorem dX7_append_40 : decode cX7_append 40 = .ok (.athrow, 1) := by decide +kernel
theorem dX7_append_41 : decode cX7_append 41 = .ok (.aload_n 0, 1) := by decide +kernel
theorem dX7_append_42 : decode cX7_append 42 = .ok (.getfield 10, 3) := by decide +kernel
theorem dX7_append_45 : decode cX7_append 45 = .ok (.iload_n 1, 1) := by decide +kernel
theorem dX7_append_46 : decode cX7_append 46 = .ok (.i2c, 1) := by decide +kernel
theorem dX7_append_47 : decode cX7_append 47 = .ok (.invokevirtual 69, 3) := by decide +kernel
theorem dX7_append_50 : decode cX7_append 50 = .ok (.ireturn, 1) := by decide +kernel
theorem dX7_clearText_0 : decode cX7_clearText 0 = .ok (.aload_n 0, 1) := by decide +kernel
theorem dX7_clearText_1 : decode cX7_clearText 1 = .ok (.getfield 10, 3) := by decide +kernel
theorem dX7_clearText_4 : decode cX7_clearText 4 = .ok (.invokevirtual 73, 3) := by decide +kernel
theorem dX7_clearText_7 : decode cX7_clearText 7 = .ok (.ireturn, 1) := by decide +kernel
theorem dX7_errorPosition_0 : decode cX7_errorPosition 0 = .ok (.aload_n 0, 1) := by decide +kernel
theorem dX7_errorPosition_1 : decode cX7_errorPosition 1 = .ok (.getfield 10, 3) := by decide +kernel
theorem dX7_errorPosition_4 : decode cX7_errorPosition 4 = .ok (.invokevirtual 77, 3) := by decide +kernel
theorem dX7_errorPosition_7 : decode cX7_errorPosition 7 = .ok (.ireturn, 1) := by decide +kernel
theorem dX7_load_0 : decode cX7_load 0 = .ok (.aload_n 0, 1) := by decide +kernel
theorem dX7_load_1 : decode cX7_load 1 = .ok (.getfield 10, 3) := by decide +kernel
theorem dX7_load_4 : decode cX7_load 4 = .ok (.invokevirtual 77, 3) := by decide +kernel
theorem dX7_load_7 : decode cX7_load 7 = .ok (.bipush (-9), 2) := by decide +kernel
theorem dX7_load_9 : decode cX7_load 9 = .ok (.if_icmp .eq 13, 3) := by decide +kernel
theorem dX7_load_12 : decode cX7_load 12 = .ok (.new 64, 3) := by decide +kernel
theorem dX7_load_15 : decode cX7_load 15 = .ok (.dup, 1) := by decide +kernel
theorem dX7_load_16 : decode cX7_load 16 = .ok (.ldc 80, 2) := by decide +kernel
theorem dX7_load_18 : decode cX7_load 18 = .ok (.invokespecial 68, 3) := by decide +kernel
theorem dX7_load_21 : decode cX7_load 21 = .ok (.athrow, 1) := by decide +kernel
theorem dX7_load_22 : decode cX7_load 22 = .ok (.aload_n 0, 1) := by decide +kernel
theorem dX7_load_23 : decode cX7_load 23 = .ok (.getfield 10, 3) := by decide +kernel
theorem dX7_load_26 : decode cX7_load 26 = .ok (.aload_n 0, 1) := by decide +kernel
theorem dX7_load_27 : decode cX7_load 27 = .ok (.getfield 19, 3) := by decide +kernel
theorem dX7_load_30 : decode cX7_load 30 = .ok (.invokevirtual 82, 3) := by decide +kernel
theorem dX7_load_33 : decode cX7_load 33 = .ok (.aload_n 0, 1) := by decide +kernel
theorem dX7_load_34 : decode cX7_load 34 = .ok (.getfield 29, 3) := by decide +kernel
theorem dX7_load_37 : decode cX7_load 37 = .ok (.invokevirtual 86, 3) := by decide +kernel
theorem dX7_load_40 : decode cX7_load 40 = .ok (.aload_n 0, 1) := by decide +kernel
theorem dX7_load_41 : decode cX7_load 41 = .ok (.getfield 36, 3) := by decide +kernel
theorem dX7_load_44 : decode cX7_load 44 = .ok (.invokevirtual 89, 3) := by decide +kernel
theorem dX7_load_47 : decode cX7_load 47 = .ok (.aload_n 0, 1) := by decide +kernel
theorem dX7_load_48 : decode cX7_load 48 = .ok (.getfield 19, 3) := by decide +kernel
theorem dX7_load_51 : decode cX7_load 51 = .ok (.invokevirtual 90, 3) := by decide +kernel
theorem dX7_load_54 : decode cX7_load 54 = .ok (.ireturn, 1) := by decide +kernel
theorem dX7_about_0 : decode cX7_about 0 = .ok (.iload_n 1, 1) := by decide +kernel
theorem dX7_about_1 : decode cX7_about 1 = .ok (.tableswitch 169 0 10 #[59, 67, 75, 83, 94, 102, 110, 118, 129, 147, 161], 59) := by decide +kernel
theorem dX7_about_60 : decode cX7_about 60 = .ok (.aload_n 0, 1) := by decide +kernel
theorem dX7_about_61 : decode cX7_about 61 = .ok (.getfield 19, 3) := by decide +kernel
theorem dX7_about_64 : decode cX7_about 64 = .ok (.getfield 93, 3) := by decide +kernel
theorem dX7_about_67 : decode cX7_about 67 = .ok (.ireturn, 1) := by decide +kernel
theorem dX7_about_68 : decode cX7_about 68 = .ok (.aload_n 0, 1) := by decide +kernel
theorem dX7_about_69 : decode cX7_about 69 = .ok (.getfield 19, 3) := by decide +kernel
theorem dX7_about_72 : decode cX7_about 72 = .ok (.getfield 97, 3) := by decide +kernel
theorem dX7_about_75 : decode cX7_about 75 = .ok (.ireturn, 1) := by decide +kernel
theorem dX7_about_76 : decode cX7_about 76 = .ok (.aload_n 0, 1) := by decide +kernel
theorem dX7_about_77 : decode cX7_about 77 = .ok (.getfield 19, 3) := by decide +kernel
theorem dX7_about_80 : decode cX7_about 80 = .ok (.invokevirtual 90, 3) := by decide +kernel
theorem dX7_about_83 : decode cX7_about 83 = .ok (.ireturn, 1) := by decide +kernel
theorem dX7_about_84 : decode cX7_about 84 = .ok (.aload_n 0, 1) := by decide +kernel
theorem dX7_about_85 : decode cX7_about 85 = .ok (.getfield 19, 3) := by decide +kernel
theorem dX7_about_88 : decode cX7_about 88 = .ok (.getfield 100, 3) := by decide +kernel
theorem dX7_about_91 : decode cX7_about 91 = .ok (.invokestatic 104, 3) := by decide +kernel
theorem dX7_about_94 : decode cX7_about 94 = .ok (.ireturn, 1) := by decide +kernel
theorem dX7_about_95 : decode cX7_about 95 = .ok (.aload_n 0, 1) := by decide +kernel
theorem dX7_about_96 : decode cX7_about 96 = .ok (.getfield 19, 3) := by decide +kernel
theorem dX7_about_99 : decode cX7_about 99 = .ok (.invokevirtual 110, 3) := by decide +kernel
theorem dX7_about_102 : decode cX7_about 102 = .ok (.ireturn, 1) := by decide +kernel
theorem dX7_about_103 : decode cX7_about 103 = .ok (.aload_n 0, 1) := by decide +kernel
theorem dX7_about_104 : decode cX7_about 104 = .ok (.getfield 19, 3) := by decide +kernel
theorem dX7_about_107 : decode cX7_about 107 = .ok (.invokevirtual 113, 3) := by decide +kernel
theorem dX7_about_110 : decode cX7_about 110 = .ok (.ireturn, 1) := by decide +kernel
theorem dX7_about_111 : decode cX7_about 111 = .ok (.aload_n 0, 1) := by decide +kernel
theorem dX7_about_112 : decode cX7_about 112 = .ok (.getfield 19, 3) := by decide +kernel
theorem dX7_about_115 : decode cX7_about 115 = .ok (.invokevirtual 116, 3) := by decide +kernel
theorem dX7_about_118 : decode cX7_about 118 = .ok (.ireturn, 1) := by decide +kernel
theorem dX7_about_119 : decode cX7_about 119 = .ok (.aload_n 0, 1) := by decide +kernel
theorem dX7_about_120 : decode cX7_about 120 = .ok (.getfield 19, 3) := by decide +kernel
theorem dX7_about_123 : decode cX7_about 123 = .ok (.getfield 119, 3) := by decide +kernel
theorem dX7_about_126 : decode cX7_about 126 = .ok (.invokestatic 122, 3) := by decide +kernel
theorem dX7_about_129 : decode cX7_about 129 = .ok (.ireturn, 1) := by decide +kernel
theorem dX7_about_130 : decode cX7_about 130 = .ok (.aload_n 0, 1) := by decide +kernel
theorem dX7_about_131 : decode cX7_about 131 = .ok (.getfield 19, 3) := by decide +kernel
theorem dX7_about_134 : decode cX7_about 134 = .ok (.getfield 119, 3) := by decide +kernel
theorem dX7_about_137 : decode cX7_about 137 = .ok (.aload_n 0, 1) := by decide +kernel
theorem dX7_about_138 : decode cX7_about 138 = .ok (.getfield 19, 3) := by decide +kernel
theorem dX7_about_141 : decode cX7_about 141 = .ok (.getfield 119, 3) := by decide +kernel
theorem dX7_about_144 : decode cX7_about 144 = .ok (.invokestatic 125, 3) := by decide +kernel
theorem dX7_about_147 : decode cX7_about 147 = .ok (.ireturn, 1) := by decide +kernel
theorem dX7_about_148 : decode cX7_about 148 = .ok (.aload_n 0, 1) := by decide +kernel
theorem dX7_about_149 : decode cX7_about 149 = .ok (.getfield 19, 3) := by decide +kernel
theorem dX7_about_152 : decode cX7_about 152 = .ok (.getfield 119, 3) := by decide +kernel
theorem dX7_about_155 : decode cX7_about 155 = .ok (.invokestatic 129, 3) := by decide +kernel
theorem dX7_about_158 : decode cX7_about 158 = .ok (.invokestatic 104, 3) := by decide +kernel
theorem dX7_about_161 : decode cX7_about 161 = .ok (.ireturn, 1) := by decide +kernel
theorem dX7_about_162 : decode cX7_about 162 = .ok (.aload_n 0, 1) := by decide +kernel
theorem dX7_about_163 : decode cX7_about 163 = .ok (.getfield 19, 3) := by decide +kernel
theorem dX7_about_166 : decode cX7_about 166 = .ok (.invokevirtual 133, 3) := by decide +kernel
theorem dX7_about_169 : decode cX7_about 169 = .ok (.ireturn, 1) := by decide +kernel
theorem dX7_about_170 : decode cX7_about 170 = .ok (.new 53, 3) := by decide +kernel
theorem dX7_about_173 : decode cX7_about 173 = .ok (.dup, 1) := by decide +kernel
theorem dX7_about_174 : decode cX7_about 174 = .ok (.ldc 136, 2) := by decide +kernel
theorem dX7_about_176 : decode cX7_about 176 = .ok (.invokespecial 57, 3) := by decide +kernel
theorem dX7_about_179 : decode cX7_about 179 = .ok (.athrow, 1) := by decide +kernel
theorem dX7_line_0 : decode cX7_line 0 = .ok (.aload_n 0, 1) := by decide +kernel
theorem dX7_line_1 : decode cX7_line 1 = .ok (.iload_n 1, 1) := by decide +kernel
theorem dX7_line_2 : decode cX7_line 2 = .ok (.invokevirtual 138, 3) := by decide +kernel
theorem dX7_line_5 : decode cX7_line 5 = .ok (.aload_n 0, 1) := by decide +kernel
theorem dX7_line_6 : decode cX7_line 6 = .ok (.getfield 19, 3) := by decide +kernel
theorem dX7_line_9 : decode cX7_line 9 = .ok (.iload_n 1, 1) := by decide +kernel
theorem dX7_line_10 : decode cX7_line 10 = .ok (.invokevirtual 142, 3) := by decide +kernel
theorem dX7_line_13 : decode cX7_line 13 = .ok (.lstore_n 3, 1) := by decide +kernel
theorem dX7_line_14 : decode cX7_line 14 = .ok (.iload_n 2, 1) := by decide +kernel
theorem dX7_line_15 : decode cX7_line 15 = .ok (.tableswitch 106 0 4 #[33, 42, 51, 72, 93], 33) := by decide +kernel
theorem dX7_line_48 : decode cX7_line 48 = .ok (.aload_n 0, 1) := by decide +kernel
theorem dX7_line_49 : decode cX7_line 49 = .ok (.getfield 19, 3) := by decide +kernel
theorem dX7_line_52 : decode cX7_line 52 = .ok (.iload_n 1, 1) := by decide +kernel
theorem dX7_line_53 : decode cX7_line 53 = .ok (.invokevirtual 146, 3) := by decide +kernel
theorem dX7_line_56 : decode cX7_line 56 = .ok (.ireturn, 1) := by decide +kernel
theorem dX7_line_57 : decode cX7_line 57 = .ok (.aload_n 0, 1) := by decide +kernel
theorem dX7_line_58 : decode cX7_line 58 = .ok (.getfield 19, 3) := by decide +kernel
theorem dX7_line_61 : decode cX7_line 61 = .ok (.iload_n 1, 1) := by decide +kernel
theorem dX7_line_62 : decode cX7_line 62 = .ok (.invokevirtual 150, 3) := by decide +kernel
theorem dX7_line_65 : decode cX7_line 65 = .ok (.ireturn, 1) := by decide +kernel
theorem dX7_line_66 : decode cX7_line 66 = .ok (.aload_n 0, 1) := by decide +kernel
theorem dX7_line_67 : decode cX7_line 67 = .ok (.getfield 19, 3) := by decide +kernel
theorem dX7_line_70 : decode cX7_line 70 = .ok (.getfield 119, 3) := by decide +kernel
theorem dX7_line_73 : decode cX7_line 73 = .ok (.lload_n 3, 1) := by decide +kernel
theorem dX7_line_74 : decode cX7_line 74 = .ok (.land, 1) := by decide +kernel
theorem dX7_line_75 : decode cX7_line 75 = .ok (.aload_n 0, 1) := by decide +kernel
theorem dX7_line_76 : decode cX7_line 76 = .ok (.getfield 19, 3) := by decide +kernel
theorem dX7_line_79 : decode cX7_line 79 = .ok (.iload_n 1, 1) := by decide +kernel
theorem dX7_line_80 : decode cX7_line 80 = .ok (.invokevirtual 153, 3) := by decide +kernel
theorem dX7_line_83 : decode cX7_line 83 = .ok (.invokestatic 156, 3) := by decide +kernel
theorem dX7_line_86 : decode cX7_line 86 = .ok (.ireturn, 1) := by decide +kernel
theorem dX7_line_87 : decode cX7_line 87 = .ok (.aload_n 0, 1) := by decide +kernel
theorem dX7_line_88 : decode cX7_line 88 = .ok (.getfield 19, 3) := by decide +kernel
theorem dX7_line_91 : decode cX7_line 91 = .ok (.getfield 119, 3) := by decide +kernel
theorem dX7_line_94 : decode cX7_line 94 = .ok (.lload_n 3, 1) := by decide +kernel
theorem dX7_line_95 : decode cX7_line 95 = .ok (.land, 1) := by decide +kernel
theorem dX7_line_96 : decode cX7_line 96 = .ok (.aload_n 0, 1) := by decide +kernel
theorem dX7_line_97 : decode cX7_line 97 = .ok (.getfield 19, 3) := by decide +kernel
theorem dX7_line_100 : decode cX7_line 100 = .ok (.iload_n 1, 1) := by decide +kernel
theorem dX7_line_101 : decode cX7_line 101 = .ok (.invokevirtual 153, 3) := by decide +kernel
theorem dX7_line_104 : decode cX7_line 104 = .ok (.invokestatic 160, 3) := by decide +kernel
theorem dX7_line_107 : decode cX7_line 107 = .ok (.ireturn, 1) := by decide +kernel
theorem dX7_line_108 : decode cX7_line 108 = .ok (.aload_n 0, 1) := by decide +kernel
theorem dX7_line_109 : decode cX7_line 109 = .ok (.getfield 19, 3) := by decide +kernel
theorem dX7_line_112 : decode cX7_line 112 = .ok (.getfield 100, 3) := by decide +kernel
theorem dX7_line_115 : decode cX7_line 115 = .ok (.lload_n 3, 1) := by decide +kernel
theorem dX7_line_116 : decode cX7_line 116 = .ok (.land, 1) := by decide +kernel
theorem dX7_line_117 : decode cX7_line 117 = .ok (.invokestatic 104, 3) := by decide +kernel
theorem dX7_line_120 : decode cX7_line 120 = .ok (.ireturn, 1) := by decide +kernel
theorem dX7_line_121 : decode cX7_line 121 = .ok (.new 53, 3) := by decide +kernel
theorem dX7_line_124 : decode cX7_line 124 = .ok (.dup, 1) := by decide +kernel
theorem dX7_line_125 : decode cX7_line 125 = .ok (.ldc 163, 2) := by decide +kernel
theorem dX7_line_127 : decode cX7_line 127 = .ok (.invokespecial 57, 3) := by decide +kernel
theorem dX7_line_130 : decode cX7_line 130 = .ok (.athrow, 1) := by decide +kernel
theorem dX7_cell_0 : decode cX7_cell 0 = .ok (.aload_n 0, 1) := by decide +kernel
theorem dX7_cell_1 : decode cX7_cell 1 = .ok (.iload_n 1, 1) := by decide +kernel
theorem dX7_cell_2 : decode cX7_cell 2 = .ok (.iload_n 2, 1) := by decide +kernel
theorem dX7_cell_3 : decode cX7_cell 3 = .ok (.invokevirtual 165, 3) := by decide +kernel
theorem dX7_cell_6 : decode cX7_cell 6 = .ok (.iload_n 1, 1) := by decide +kernel
theorem dX7_cell_7 : decode cX7_cell 7 = .ok (.iload_n 2, 1) := by decide +kernel
theorem dX7_cell_8 : decode cX7_cell 8 = .ok (.invokestatic 169, 3) := by decide +kernel
theorem dX7_cell_11 : decode cX7_cell 11 = .ok (.lstore 4, 2) := by decide +kernel
theorem dX7_cell_13 : decode cX7_cell 13 = .ok (.iload_n 3, 1) := by decide +kernel
theorem dX7_cell_14 : decode cX7_cell 14 = .ok (.tableswitch 150 0 4 #[34, 58, 82, 95, 122], 34) := by decide +kernel
theorem dX7_cell_48 : decode cX7_cell 48 = .ok (.aload_n 0, 1) := by decide +kernel
theorem dX7_cell_49 : decode cX7_cell 49 = .ok (.getfield 19, 3) := by decide +kernel
theorem dX7_cell_52 : decode cX7_cell 52 = .ok (.getfield 119, 3) := by decide +kernel
theorem dX7_cell_55 : decode cX7_cell 55 = .ok (.lload 4, 2) := by decide +kernel
theorem dX7_cell_57 : decode cX7_cell 57 = .ok (.land, 1) := by decide +kernel
theorem dX7_cell_58 : decode cX7_cell 58 = .ok (.lconst 0, 1) := by decide +kernel
theorem dX7_cell_59 : decode cX7_cell 59 = .ok (.lcmp, 1) := by decide +kernel
theorem dX7_cell_60 : decode cX7_cell 60 = .ok (.ifCond .eq 7, 3) := by decide +kernel
theorem dX7_cell_63 : decode cX7_cell 63 = .ok (.iconst 1, 1) := by decide +kernel
theorem dX7_cell_64 : decode cX7_cell 64 = .ok (.goto 4, 3) := by decide +kernel
theorem dX7_cell_67 : decode cX7_cell 67 = .ok (.iconst 0, 1) := by decide +kernel
theorem dX7_cell_68 : decode cX7_cell 68 = .ok (.invokestatic 173, 3) := by decide +kernel
theorem dX7_cell_71 : decode cX7_cell 71 = .ok (.ireturn, 1) := by decide +kernel
theorem dX7_cell_72 : decode cX7_cell 72 = .ok (.aload_n 0, 1) := by decide +kernel
theorem dX7_cell_73 : decode cX7_cell 73 = .ok (.getfield 19, 3) := by decide +kernel
theorem dX7_cell_76 : decode cX7_cell 76 = .ok (.getfield 100, 3) := by decide +kernel
theorem dX7_cell_79 : decode cX7_cell 79 = .ok (.lload 4, 2) := by decide +kernel
theorem dX7_cell_81 : decode cX7_cell 81 = .ok (.land, 1) := by decide +kernel
theorem dX7_cell_82 : decode cX7_cell 82 = .ok (.lconst 0, 1) := by decide +kernel
theorem dX7_cell_83 : decode cX7_cell 83 = .ok (.lcmp, 1) := by decide +kernel
theorem dX7_cell_84 : decode cX7_cell 84 = .ok (.ifCond .eq 7, 3) := by decide +kernel
theorem dX7_cell_87 : decode cX7_cell 87 = .ok (.iconst 1, 1) := by decide +kernel
theorem dX7_cell_88 : decode cX7_cell 88 = .ok (.goto 4, 3) := by decide +kernel
theorem dX7_cell_91 : decode cX7_cell 91 = .ok (.iconst 0, 1) := by decide +kernel
theorem dX7_cell_92 : decode cX7_cell 92 = .ok (.invokestatic 173, 3) := by decide +kernel
theorem dX7_cell_95 : decode cX7_cell 95 = .ok (.ireturn, 1) := by decide +kernel
theorem dX7_cell_96 : decode cX7_cell 96 = .ok (.aload_n 0, 1) := by decide +kernel
theorem dX7_cell_97 : decode cX7_cell 97 = .ok (.getfield 19, 3) := by decide +kernel
theorem dX7_cell_100 : decode cX7_cell 100 = .ok (.getfield 119, 3) := by decide +kernel
theorem dX7_cell_103 : decode cX7_cell 103 = .ok (.lload 4, 2) := by decide +kernel
theorem dX7_cell_105 : decode cX7_cell 105 = .ok (.invokestatic 177, 3) := by decide +kernel
theorem dX7_cell_108 : decode cX7_cell 108 = .ok (.ireturn, 1) := by decide +kernel
theorem dX7_cell_109 : decode cX7_cell 109 = .ok (.aload_n 0, 1) := by decide +kernel
theorem dX7_cell_110 : decode cX7_cell 110 = .ok (.getfield 19, 3) := by decide +kernel
theorem dX7_cell_113 : decode cX7_cell 113 = .ok (.getfield 119, 3) := by decide +kernel
theorem dX7_cell_116 : decode cX7_cell 116 = .ok (.invokestatic 129, 3) := by decide +kernel
theorem dX7_cell_119 : decode cX7_cell 119 = .ok (.lload 4, 2) := by decide +kernel
theorem dX7_cell_121 : decode cX7_cell 121 = .ok (.land, 1) := by decide +kernel
theorem dX7_cell_122 : decode cX7_cell 122 = .ok (.lconst 0, 1) := by decide +kernel
theorem dX7_cell_123 : decode cX7_cell 123 = .ok (.lcmp, 1) := by decide +kernel
theorem dX7_cell_124 : decode cX7_cell 124 = .ok (.ifCond .eq 7, 3) := by decide +kernel
theorem dX7_cell_127 : decode cX7_cell 127 = .ok (.iconst 1, 1) := by decide +kernel
theorem dX7_cell_128 : decode cX7_cell 128 = .ok (.goto 4, 3) := by decide +kernel
theorem dX7_cell_131 : decode cX7_cell 131 = .ok (.iconst 0, 1) := by decide +kernel
theorem dX7_cell_132 : decode cX7_cell 132 = .ok (.invokestatic 173, 3) := by decide +kernel
theorem dX7_cell_135 : decode cX7_cell 135 = .ok (.ireturn, 1) := by decide +kernel
theorem dX7_cell_136 : decode cX7_cell 136 = .ok (.aload_n 0, 1) := by decide +kernel
theorem dX7_cell_137 : decode cX7_cell 137 = .ok (.getfield 43, 3) := by decide +kernel
theorem dX7_cell_140 : decode cX7_cell 140 = .ok (.aload_n 0, 1) := by decide +kernel
theorem dX7_cell_141 : decode cX7_cell 141 = .ok (.getfield 19, 3) := by decide +kernel
theorem dX7_cell_144 : decode cX7_cell 144 = .ok (.invokevirtual 180, 3) := by decide +kernel
theorem dX7_cell_147 : decode cX7_cell 147 = .ok (.lload 4, 2) := by decide +kernel
theorem dX7_cell_149 : decode cX7_cell 149 = .ok (.land, 1) := by decide +kernel
theorem dX7_cell_150 : decode cX7_cell 150 = .ok (.lconst 0, 1) := by decide +kernel
theorem dX7_cell_151 : decode cX7_cell 151 = .ok (.lcmp, 1) := by decide +kernel
theorem dX7_cell_152 : decode cX7_cell 152 = .ok (.ifCond .eq 7, 3) := by decide +kernel
theorem dX7_cell_155 : decode cX7_cell 155 = .ok (.iconst 1, 1) := by decide +kernel
theorem dX7_cell_156 : decode cX7_cell 156 = .ok (.goto 4, 3) := by decide +kernel
theorem dX7_cell_159 : decode cX7_cell 159 = .ok (.iconst 0, 1) := by decide +kernel
theorem dX7_cell_160 : decode cX7_cell 160 = .ok (.invokestatic 173, 3) := by decide +kernel
theorem dX7_cell_163 : decode cX7_cell 163 = .ok (.ireturn, 1) := by decide +kernel
theorem dX7_cell_164 : decode cX7_cell 164 = .ok (.new 53, 3) := by decide +kernel
theorem dX7_cell_167 : decode cX7_cell 167 = .ok (.dup, 1) := by decide +kernel
theorem dX7_cell_168 : decode cX7_cell 168 = .ok (.ldc 163, 2) := by decide +kernel
theorem dX7_cell_170 : decode cX7_cell 170 = .ok (.invokespecial 57, 3) := by decide +kernel
theorem dX7_cell_173 : decode cX7_cell 173 = .ok (.athrow, 1) := by decide +kernel
theorem dX7_piece_0 : decode cX7_piece 0 = .ok (.iload_n 1, 1) := by decide +kernel
theorem dX7_piece_1 : decode cX7_piece 1 = .ok (.ifCond .lt 17, 3) := by decide +kernel
theorem dX7_piece_4 : decode cX7_piece 4 = .ok (.iload_n 1, 1) := by decide +kernel
theorem dX7_piece_5 : decode cX7_piece 5 = .ok (.aload_n 0, 1) := by decide +kernel
theorem dX7_piece_6 : decode cX7_piece 6 = .ok (.getfield 19, 3) := by decide +kernel
theorem dX7_piece_9 : decode cX7_piece 9 = .ok (.getfield 119, 3) := by decide +kernel
theorem dX7_piece_12 : decode cX7_piece 12 = .ok (.invokestatic 122, 3) := by decide +kernel
theorem dX7_piece_15 : decode cX7_piece 15 = .ok (.if_icmp .lt 13, 3) := by decide +kernel
theorem dX7_piece_18 : decode cX7_piece 18 = .ok (.new 184, 3) := by decide +kernel
theorem dX7_piece_21 : decode cX7_piece 21 = .ok (.dup, 1) := by decide +kernel
theorem dX7_piece_22 : decode cX7_piece 22 = .ok (.ldc 186, 2) := by decide +kernel
theorem dX7_piece_24 : decode cX7_piece 24 = .ok (.invokespecial 188, 3) := by decide +kernel
theorem dX7_piece_27 : decode cX7_piece 27 = .ok (.athrow, 1) := by decide +kernel
theorem dX7_piece_28 : decode cX7_piece 28 = .ok (.aload_n 0, 1) := by decide +kernel
theorem dX7_piece_29 : decode cX7_piece 29 = .ok (.getfield 19, 3) := by decide +kernel
theorem dX7_piece_32 : decode cX7_piece 32 = .ok (.getfield 119, 3) := by decide +kernel
theorem dX7_piece_35 : decode cX7_piece 35 = .ok (.iload_n 1, 1) := by decide +kernel
theorem dX7_piece_36 : decode cX7_piece 36 = .ok (.invokestatic 189, 3) := by decide +kernel
theorem dX7_piece_39 : decode cX7_piece 39 = .ok (.lstore_n 3, 1) := by decide +kernel
theorem dX7_piece_40 : decode cX7_piece 40 = .ok (.iload_n 2, 1) := by decide +kernel
theorem dX7_piece_41 : decode cX7_piece 41 = .ok (.tableswitch 70 0 4 #[35, 40, 52, 57, 62], 35) := by decide +kernel
theorem dX7_piece_76 : decode cX7_piece 76 = .ok (.lload_n 3, 1) := by decide +kernel
theorem dX7_piece_77 : decode cX7_piece 77 = .ok (.invokestatic 104, 3) := by decide +kernel
theorem dX7_piece_80 : decode cX7_piece 80 = .ok (.ireturn, 1) := by decide +kernel
theorem dX7_piece_81 : decode cX7_piece 81 = .ok (.lload_n 3, 1) := by decide +kernel
theorem dX7_piece_82 : decode cX7_piece 82 = .ok (.aload_n 0, 1) := by decide +kernel
theorem dX7_piece_83 : decode cX7_piece 83 = .ok (.getfield 19, 3) := by decide +kernel
theorem dX7_piece_86 : decode cX7_piece 86 = .ok (.getfield 119, 3) := by decide +kernel
theorem dX7_piece_89 : decode cX7_piece 89 = .ok (.invokestatic 125, 3) := by decide +kernel
theorem dX7_piece_92 : decode cX7_piece 92 = .ok (.ireturn, 1) := by decide +kernel
theorem dX7_piece_93 : decode cX7_piece 93 = .ok (.lload_n 3, 1) := by decide +kernel
theorem dX7_piece_94 : decode cX7_piece 94 = .ok (.invokestatic 193, 3) := by decide +kernel
theorem dX7_piece_97 : decode cX7_piece 97 = .ok (.ireturn, 1) := by decide +kernel
theorem dX7_piece_98 : decode cX7_piece 98 = .ok (.lload_n 3, 1) := by decide +kernel
theorem dX7_piece_99 : decode cX7_piece 99 = .ok (.invokestatic 196, 3) := by decide +kernel
theorem dX7_piece_102 : decode cX7_piece 102 = .ok (.ireturn, 1) := by decide +kernel
theorem dX7_piece_103 : decode cX7_piece 103 = .ok (.lload_n 3, 1) := by decide +kernel
theorem dX7_piece_104 : decode cX7_piece 104 = .ok (.invokestatic 199, 3) := by decide +kernel
theorem dX7_piece_107 : decode cX7_piece 107 = .ok (.invokestatic 202, 3) := by decide +kernel
theorem dX7_piece_110 : decode cX7_piece 110 = .ok (.ireturn, 1) := by decide +kernel
theorem dX7_piece_111 : decode cX7_piece 111 = .ok (.new 53, 3) := by decide +kernel
theorem dX7_piece_114 : decode cX7_piece 114 = .ok (.dup, 1) := by decide +kernel
theorem dX7_piece_115 : decode cX7_piece 115 = .ok (.ldc 163, 2) := by decide +kernel
theorem dX7_piece_117 : decode cX7_piece 117 = .ok (.invokespecial 57, 3) := by decide +kernel
theorem dX7_piece_120 : decode cX7_piece 120 = .ok (.athrow, 1) := by decide +kernel
theorem dX7_exchangeAt_0 : decode cX7_exchangeAt 0 = .ok (.iload_n 1, 1) := by decide +kernel
theorem dX7_exchangeAt_1 : decode cX7_exchangeAt 1 = .ok (.ifCond .ge 13, 3) := by decide +kernel
theorem dX7_exchangeAt_4 : decode cX7_exchangeAt 4 = .ok (.new 53, 3) := by decide +kernel
theorem dX7_exchangeAt_7 : decode cX7_exchangeAt 7 = .ok (.dup, 1) := by decide +kernel
theorem dX7_exchangeAt_8 : decode cX7_exchangeAt 8 = .ok (.ldc 205, 2) := by decide +kernel
theorem dX7_exchangeAt_10 : decode cX7_exchangeAt 10 = .ok (.invokespecial 57, 3) := by decide +kernel
theorem dX7_exchangeAt_13 : decode cX7_exchangeAt 13 = .ok (.athrow, 1) := by decide +kernel
theorem dX7_exchangeAt_14 : decode cX7_exchangeAt 14 = .ok (.aload_n 0, 1) := by decide +kernel
theorem dX7_exchangeAt_15 : decode cX7_exchangeAt 15 = .ok (.getfield 19, 3) := by decide +kernel
theorem dX7_exchangeAt_18 : decode cX7_exchangeAt 18 = .ok (.iload_n 1, 1) := by decide +kernel
theorem dX7_exchangeAt_19 : decode cX7_exchangeAt 19 = .ok (.invokevirtual 207, 3) := by decide +kernel
theorem dX7_exchangeAt_22 : decode cX7_exchangeAt 22 = .ok (.ireturn, 1) := by decide +kernel
theorem dX7_whyNot_0 : decode cX7_whyNot 0 = .ok (.aload_n 0, 1) := by decide +kernel
theorem dX7_whyNot_1 : decode cX7_whyNot 1 = .ok (.iload_n 1, 1) := by decide +kernel
theorem dX7_whyNot_2 : decode cX7_whyNot 2 = .ok (.invokevirtual 138, 3) := by decide +kernel
theorem dX7_whyNot_5 : decode cX7_whyNot 5 = .ok (.aload_n 0, 1) := by decide +kernel
theorem dX7_whyNot_6 : decode cX7_whyNot 6 = .ok (.getfield 19, 3) := by decide +kernel
theorem dX7_whyNot_9 : decode cX7_whyNot 9 = .ok (.iload_n 1, 1) := by decide +kernel
theorem dX7_whyNot_10 : decode cX7_whyNot 10 = .ok (.invokevirtual 142, 3) := by decide +kernel
theorem dX7_whyNot_13 : decode cX7_whyNot 13 = .ok (.lstore_n 2, 1) := by decide +kernel
theorem dX7_whyNot_14 : decode cX7_whyNot 14 = .ok (.aload_n 0, 1) := by decide +kernel
theorem dX7_whyNot_15 : decode cX7_whyNot 15 = .ok (.getfield 19, 3) := by decide +kernel
theorem dX7_whyNot_18 : decode cX7_whyNot 18 = .ok (.iload_n 1, 1) := by decide +kernel
theorem dX7_whyNot_19 : decode cX7_whyNot 19 = .ok (.invokevirtual 150, 3) := by decide +kernel
theorem dX7_whyNot_22 : decode cX7_whyNot 22 = .ok (.istore 4, 2) := by decide +kernel
theorem dX7_whyNot_24 : decode cX7_whyNot 24 = .ok (.aload_n 0, 1) := by decide +kernel
theorem dX7_whyNot_25 : decode cX7_whyNot 25 = .ok (.getfield 19, 3) := by decide +kernel
theorem dX7_whyNot_28 : decode cX7_whyNot 28 = .ok (.iload_n 1, 1) := by decide +kernel
theorem dX7_whyNot_29 : decode cX7_whyNot 29 = .ok (.invokevirtual 146, 3) := by decide +kernel
theorem dX7_whyNot_32 : decode cX7_whyNot 32 = .ok (.iload 4, 2) := by decide +kernel
theorem dX7_whyNot_34 : decode cX7_whyNot 34 = .ok (.if_icmp .ne 5, 3) := by decide +kernel
theorem dX7_whyNot_37 : decode cX7_whyNot 37 = .ok (.iconst 0, 1) := by decide +kernel
theorem dX7_whyNot_38 : decode cX7_whyNot 38 = .ok (.ireturn, 1) := by decide +kernel
theorem dX7_whyNot_39 : decode cX7_whyNot 39 = .ok (.iload 4, 2) := by decide +kernel
theorem dX7_whyNot_41 : decode cX7_whyNot 41 = .ok (.lload_n 2, 1) := by decide +kernel
theorem dX7_whyNot_42 : decode cX7_whyNot 42 = .ok (.aload_n 0, 1) := by decide +kernel
theorem dX7_whyNot_43 : decode cX7_whyNot 43 = .ok (.getfield 19, 3) := by decide +kernel
theorem dX7_whyNot_46 : decode cX7_whyNot 46 = .ok (.getfield 100, 3) := by decide +kernel
theorem dX7_whyNot_49 : decode cX7_whyNot 49 = .ok (.aload_n 0, 1) := by decide +kernel
theorem dX7_whyNot_50 : decode cX7_whyNot 50 = .ok (.getfield 19, 3) := by decide +kernel
theorem dX7_whyNot_53 : decode cX7_whyNot 53 = .ok (.getfield 119, 3) := by decide +kernel
theorem dX7_whyNot_56 : decode cX7_whyNot 56 = .ok (.ldc2_w 210, 3) := by decide +kernel
theorem dX7_whyNot_59 : decode cX7_whyNot 59 = .ok (.lxor, 1) := by decide +kernel
theorem dX7_whyNot_60 : decode cX7_whyNot 60 = .ok (.land, 1) := by decide +kernel
theorem dX7_whyNot_61 : decode cX7_whyNot 61 = .ok (.ldc2_w 210, 3) := by decide +kernel
theorem dX7_whyNot_64 : decode cX7_whyNot 64 = .ok (.lxor, 1) := by decide +kernel
theorem dX7_whyNot_65 : decode cX7_whyNot 65 = .ok (.land, 1) := by decide +kernel
theorem dX7_whyNot_66 : decode cX7_whyNot 66 = .ok (.invokestatic 104, 3) := by decide +kernel
theorem dX7_whyNot_69 : decode cX7_whyNot 69 = .ok (.if_icmp .le 5, 3) := by decide +kernel
theorem dX7_whyNot_72 : decode cX7_whyNot 72 = .ok (.iconst 1, 1) := by decide +kernel
theorem dX7_whyNot_73 : decode cX7_whyNot 73 = .ok (.ireturn, 1) := by decide +kernel
theorem dX7_whyNot_74 : decode cX7_whyNot 74 = .ok (.iload 4, 2) := by decide +kernel
theorem dX7_whyNot_76 : decode cX7_whyNot 76 = .ok (.lload_n 2, 1) := by decide +kernel
theorem dX7_whyNot_77 : decode cX7_whyNot 77 = .ok (.aload_n 0, 1) := by decide +kernel
theorem dX7_whyNot_78 : decode cX7_whyNot 78 = .ok (.getfield 19, 3) := by decide +kernel
theorem dX7_whyNot_81 : decode cX7_whyNot 81 = .ok (.getfield 100, 3) := by decide +kernel
theorem dX7_whyNot_84 : decode cX7_whyNot 84 = .ok (.land, 1) := by decide +kernel
theorem dX7_whyNot_85 : decode cX7_whyNot 85 = .ok (.aload_n 0, 1) := by decide +kernel
theorem dX7_whyNot_86 : decode cX7_whyNot 86 = .ok (.getfield 19, 3) := by decide +kernel
theorem dX7_whyNot_89 : decode cX7_whyNot 89 = .ok (.getfield 119, 3) := by decide +kernel
theorem dX7_whyNot_92 : decode cX7_whyNot 92 = .ok (.land, 1) := by decide +kernel
theorem dX7_whyNot_93 : decode cX7_whyNot 93 = .ok (.invokestatic 104, 3) := by decide +kernel
theorem dX7_whyNot_96 : decode cX7_whyNot 96 = .ok (.if_icmp .ge 5, 3) := by decide +kernel
theorem dX7_whyNot_99 : decode cX7_whyNot 99 = .ok (.iconst 2, 1) := by decide +kernel
theorem dX7_whyNot_100 : decode cX7_whyNot 100 = .ok (.ireturn, 1) := by decide +kernel
theorem dX7_whyNot_101 : decode cX7_whyNot 101 = .ok (.iconst 3, 1) := by decide +kernel
theorem dX7_whyNot_102 : decode cX7_whyNot 102 = .ok (.ireturn, 1) := by decide +kernel
theorem dX7_resize_0 : decode cX7_resize 0 = .ok (.iload_n 1, 1) := by decide +kernel
theorem dX7_resize_1 : decode cX7_resize 1 = .ok (.iconst 1, 1) := by decide +kernel
theorem dX7_resize_2 : decode cX7_resize 2 = .ok (.if_icmp .lt 20, 3) := by decide +kernel
theorem dX7_resize_5 : decode cX7_resize 5 = .ok (.iload_n 1, 1) := by decide +kernel
theorem dX7_resize_6 : decode cX7_resize 6 = .ok (.bipush 6, 2) := by decide +kernel
theorem dX7_resize_8 : decode cX7_resize 8 = .ok (.if_icmp .gt 14, 3) := by decide +kernel
theorem dX7_resize_11 : decode cX7_resize 11 = .ok (.iload_n 2, 1) := by decide +kernel
theorem dX7_resize_12 : decode cX7_resize 12 = .ok (.iconst 1, 1) := by decide +kernel
theorem dX7_resize_13 : decode cX7_resize 13 = .ok (.if_icmp .lt 9, 3) := by decide +kernel
theorem dX7_resize_16 : decode cX7_resize 16 = .ok (.iload_n 2, 1) := by decide +kernel
theorem dX7_resize_17 : decode cX7_resize 17 = .ok (.bipush 6, 2) := by decide +kernel
theorem dX7_resize_19 : decode cX7_resize 19 = .ok (.if_icmp .le 13, 3) := by decide +kernel
theorem dX7_resize_22 : decode cX7_resize 22 = .ok (.new 53, 3) := by decide +kernel
theorem dX7_resize_25 : decode cX7_resize 25 = .ok (.dup, 1) := by decide +kernel
theorem dX7_resize_26 : decode cX7_resize 26 = .ok (.ldc 212, 2) := by decide +kernel
theorem dX7_resize_28 : decode cX7_resize 28 = .ok (.invokespecial 57, 3) := by decide +kernel
theorem dX7_resize_31 : decode cX7_resize 31 = .ok (.athrow, 1) := by decide +kernel
theorem dX7_resize_32 : decode cX7_resize 32 = .ok (.aload_n 0, 1) := by decide +kernel
theorem dX7_resize_33 : decode cX7_resize 33 = .ok (.getfield 29, 3) := by decide +kernel
theorem dX7_resize_36 : decode cX7_resize 36 = .ok (.aload_n 0, 1) := by decide +kernel
theorem dX7_resize_37 : decode cX7_resize 37 = .ok (.getfield 19, 3) := by decide +kernel
theorem dX7_resize_40 : decode cX7_resize 40 = .ok (.invokevirtual 214, 3) := by decide +kernel
theorem dX7_resize_43 : decode cX7_resize 43 = .ok (.aload_n 0, 1) := by decide +kernel
theorem dX7_resize_44 : decode cX7_resize 44 = .ok (.getfield 19, 3) := by decide +kernel
theorem dX7_resize_47 : decode cX7_resize 47 = .ok (.iload_n 1, 1) := by decide +kernel
theorem dX7_resize_48 : decode cX7_resize 48 = .ok (.iload_n 2, 1) := by decide +kernel
theorem dX7_resize_49 : decode cX7_resize 49 = .ok (.invokevirtual 217, 3) := by decide +kernel
theorem dX7_resize_52 : decode cX7_resize 52 = .ok (.aload_n 0, 1) := by decide +kernel
theorem dX7_resize_53 : decode cX7_resize 53 = .ok (.getfield 19, 3) := by decide +kernel
theorem dX7_resize_56 : decode cX7_resize 56 = .ok (.invokevirtual 90, 3) := by decide +kernel
theorem dX7_resize_59 : decode cX7_resize 59 = .ok (.ireturn, 1) := by decide +kernel
theorem dX7_fill_0 : decode cX7_fill 0 = .ok (.aload_n 0, 1) := by decide +kernel
theorem dX7_fill_1 : decode cX7_fill 1 = .ok (.iload_n 1, 1) := by decide +kernel
theorem dX7_fill_2 : decode cX7_fill 2 = .ok (.iload_n 2, 1) := by decide +kernel
theorem dX7_fill_3 : decode cX7_fill 3 = .ok (.invokevirtual 165, 3) := by decide +kernel
theorem dX7_fill_6 : decode cX7_fill 6 = .ok (.aload_n 0, 1) := by decide +kernel
theorem dX7_fill_7 : decode cX7_fill 7 = .ok (.getfield 19, 3) := by decide +kernel
theorem dX7_fill_10 : decode cX7_fill 10 = .ok (.iload_n 1, 1) := by decide +kernel
theorem dX7_fill_11 : decode cX7_fill 11 = .ok (.iload_n 2, 1) := by decide +kernel
theorem dX7_fill_12 : decode cX7_fill 12 = .ok (.invokevirtual 220, 3) := by decide +kernel
theorem dX7_fill_15 : decode cX7_fill 15 = .ok (.ifCond .eq 13, 3) := by decide +kernel
theorem dX7_fill_18 : decode cX7_fill 18 = .ok (.new 64, 3) := by decide +kernel
theorem dX7_fill_21 : decode cX7_fill 21 = .ok (.dup, 1) := by decide +kernel
theorem dX7_fill_22 : decode cX7_fill 22 = .ok (.ldc 224, 2) := by decide +kernel
theorem dX7_fill_24 : decode cX7_fill 24 = .ok (.invokespecial 68, 3) := by decide +kernel
theorem dX7_fill_27 : decode cX7_fill 27 = .ok (.athrow, 1) := by decide +kernel
theorem dX7_fill_28 : decode cX7_fill 28 = .ok (.aload_n 0, 1) := by decide +kernel
theorem dX7_fill_29 : decode cX7_fill 29 = .ok (.getfield 29, 3) := by decide +kernel
theorem dX7_fill_32 : decode cX7_fill 32 = .ok (.aload_n 0, 1) := by decide +kernel
theorem dX7_fill_33 : decode cX7_fill 33 = .ok (.getfield 19, 3) := by decide +kernel
theorem dX7_fill_36 : decode cX7_fill 36 = .ok (.invokevirtual 214, 3) := by decide +kernel
theorem dX7_fill_39 : decode cX7_fill 39 = .ok (.aload_n 0, 1) := by decide +kernel
theorem dX7_fill_40 : decode cX7_fill 40 = .ok (.getfield 19, 3) := by decide +kernel
theorem dX7_fill_43 : decode cX7_fill 43 = .ok (.iload_n 1, 1) := by decide +kernel
theorem dX7_fill_44 : decode cX7_fill 44 = .ok (.iload_n 2, 1) := by decide +kernel
theorem dX7_fill_45 : decode cX7_fill 45 = .ok (.iload_n 3, 1) := by decide +kernel
theorem dX7_fill_46 : decode cX7_fill 46 = .ok (.invokevirtual 226, 3) := by decide +kernel
theorem dX7_fill_49 : decode cX7_fill 49 = .ok (.ireturn, 1) := by decide +kernel
theorem dX7_pin_0 : decode cX7_pin 0 = .ok (.aload_n 0, 1) := by decide +kernel
theorem dX7_pin_1 : decode cX7_pin 1 = .ok (.iload_n 1, 1) := by decide +kernel
theorem dX7_pin_2 : decode cX7_pin 2 = .ok (.iload_n 2, 1) := by decide +kernel
theorem dX7_pin_3 : decode cX7_pin 3 = .ok (.invokevirtual 165, 3) := by decide +kernel
theorem dX7_pin_6 : decode cX7_pin 6 = .ok (.aload_n 0, 1) := by decide +kernel
theorem dX7_pin_7 : decode cX7_pin 7 = .ok (.getfield 29, 3) := by decide +kernel
theorem dX7_pin_10 : decode cX7_pin 10 = .ok (.aload_n 0, 1) := by decide +kernel
theorem dX7_pin_11 : decode cX7_pin 11 = .ok (.getfield 19, 3) := by decide +kernel
theorem dX7_pin_14 : decode cX7_pin 14 = .ok (.invokevirtual 214, 3) := by decide +kernel
theorem dX7_pin_17 : decode cX7_pin 17 = .ok (.aload_n 0, 1) := by decide +kernel
theorem dX7_pin_18 : decode cX7_pin 18 = .ok (.getfield 19, 3) := by decide +kernel
theorem dX7_pin_21 : decode cX7_pin 21 = .ok (.iload_n 1, 1) := by decide +kernel
theorem dX7_pin_22 : decode cX7_pin 22 = .ok (.iload_n 2, 1) := by decide +kernel
theorem dX7_pin_23 : decode cX7_pin 23 = .ok (.iload_n 3, 1) := by decide +kernel
theorem dX7_pin_24 : decode cX7_pin 24 = .ok (.invokevirtual 230, 3) := by decide +kernel
theorem dX7_pin_27 : decode cX7_pin 27 = .ok (.ireturn, 1) := by decide +kernel
theorem dX7_want_0 : decode cX7_want 0 = .ok (.aload_n 0, 1) := by decide +kernel
theorem dX7_want_1 : decode cX7_want 1 = .ok (.iload_n 1, 1) := by decide +kernel
theorem dX7_want_2 : decode cX7_want 2 = .ok (.invokevirtual 138, 3) := by decide +kernel
theorem dX7_want_5 : decode cX7_want 5 = .ok (.iload_n 2, 1) := by decide +kernel
theorem dX7_want_6 : decode cX7_want 6 = .ok (.ifCond .lt 9, 3) := by decide +kernel
theorem dX7_want_9 : decode cX7_want 9 = .ok (.iload_n 2, 1) := by decide +kernel
theorem dX7_want_10 : decode cX7_want 10 = .ok (.bipush 6, 2) := by decide +kernel
theorem dX7_want_12 : decode cX7_want 12 = .ok (.if_icmp .le 13, 3) := by decide +kernel
theorem dX7_want_15 : decode cX7_want 15 = .ok (.new 53, 3) := by decide +kernel
theorem dX7_want_18 : decode cX7_want 18 = .ok (.dup, 1) := by decide +kernel
theorem dX7_want_19 : decode cX7_want 19 = .ok (.ldc 233, 2) := by decide +kernel
theorem dX7_want_21 : decode cX7_want 21 = .ok (.invokespecial 57, 3) := by decide +kernel
theorem dX7_want_24 : decode cX7_want 24 = .ok (.athrow, 1) := by decide +kernel
theorem dX7_want_25 : decode cX7_want 25 = .ok (.aload_n 0, 1) := by decide +kernel
theorem dX7_want_26 : decode cX7_want 26 = .ok (.getfield 29, 3) := by decide +kernel
theorem dX7_want_29 : decode cX7_want 29 = .ok (.aload_n 0, 1) := by decide +kernel
theorem dX7_want_30 : decode cX7_want 30 = .ok (.getfield 19, 3) := by decide +kernel
theorem dX7_want_33 : decode cX7_want 33 = .ok (.invokevirtual 214, 3) := by decide +kernel
theorem dX7_want_36 : decode cX7_want 36 = .ok (.aload_n 0, 1) := by decide +kernel
theorem dX7_want_37 : decode cX7_want 37 = .ok (.getfield 19, 3) := by decide +kernel
theorem dX7_want_40 : decode cX7_want 40 = .ok (.iload_n 1, 1) := by decide +kernel
theorem dX7_want_41 : decode cX7_want 41 = .ok (.iload_n 2, 1) := by decide +kernel
theorem dX7_want_42 : decode cX7_want 42 = .ok (.invokevirtual 235, 3) := by decide +kernel
theorem dX7_want_45 : decode cX7_want 45 = .ok (.ireturn, 1) := by decide +kernel
theorem dX7_wantAll_0 : decode cX7_wantAll 0 = .ok (.aload_n 0, 1) := by decide +kernel
theorem dX7_wantAll_1 : decode cX7_wantAll 1 = .ok (.getfield 29, 3) := by decide +kernel
theorem dX7_wantAll_4 : decode cX7_wantAll 4 = .ok (.aload_n 0, 1) := by decide +kernel
theorem dX7_wantAll_5 : decode cX7_wantAll 5 = .ok (.getfield 19, 3) := by decide +kernel
theorem dX7_wantAll_8 : decode cX7_wantAll 8 = .ok (.invokevirtual 214, 3) := by decide +kernel
theorem dX7_wantAll_11 : decode cX7_wantAll 11 = .ok (.aload_n 0, 1) := by decide +kernel
theorem dX7_wantAll_12 : decode cX7_wantAll 12 = .ok (.getfield 19, 3) := by decide +kernel
theorem dX7_wantAll_15 : decode cX7_wantAll 15 = .ok (.invokevirtual 239, 3) := by decide +kernel
theorem dX7_wantAll_18 : decode cX7_wantAll 18 = .ok (.ireturn, 1) := by decide +kernel
theorem dX7_exchange_0 : decode cX7_exchange 0 = .ok (.aload_n 0, 1) := by decide +kernel
theorem dX7_exchange_1 : decode cX7_exchange 1 = .ok (.iload_n 1, 1) := by decide +kernel
theorem dX7_exchange_2 : decode cX7_exchange 2 = .ok (.iload_n 3, 1) := by decide +kernel
theorem dX7_exchange_3 : decode cX7_exchange 3 = .ok (.invokevirtual 165, 3) := by decide +kernel
theorem dX7_exchange_6 : decode cX7_exchange 6 = .ok (.aload_n 0, 1) := by decide +kernel
theorem dX7_exchange_7 : decode cX7_exchange 7 = .ok (.iload_n 2, 1) := by decide +kernel
theorem dX7_exchange_8 : decode cX7_exchange 8 = .ok (.iload 4, 2) := by decide +kernel
theorem dX7_exchange_10 : decode cX7_exchange 10 = .ok (.invokevirtual 165, 3) := by decide +kernel
theorem dX7_exchange_13 : decode cX7_exchange 13 = .ok (.iload_n 2, 1) := by decide +kernel
theorem dX7_exchange_14 : decode cX7_exchange 14 = .ok (.iload_n 1, 1) := by decide +kernel
theorem dX7_exchange_15 : decode cX7_exchange 15 = .ok (.if_icmp .le 9, 3) := by decide +kernel
theorem dX7_exchange_18 : decode cX7_exchange 18 = .ok (.iload 4, 2) := by decide +kernel
theorem dX7_exchange_20 : decode cX7_exchange 20 = .ok (.iload_n 3, 1) := by decide +kernel
theorem dX7_exchange_21 : decode cX7_exchange 21 = .ok (.if_icmp .gt 13, 3) := by decide +kernel
theorem dX7_exchange_24 : decode cX7_exchange 24 = .ok (.new 53, 3) := by decide +kernel
theorem dX7_exchange_27 : decode cX7_exchange 27 = .ok (.dup, 1) := by decide +kernel
theorem dX7_exchange_28 : decode cX7_exchange 28 = .ok (.ldc 242, 2) := by decide +kernel
theorem dX7_exchange_30 : decode cX7_exchange 30 = .ok (.invokespecial 57, 3) := by decide +kernel
theorem dX7_exchange_33 : decode cX7_exchange 33 = .ok (.athrow, 1) := by decide +kernel
theorem dX7_exchange_34 : decode cX7_exchange 34 = .ok (.aload_n 0, 1) := by decide +kernel
theorem dX7_exchange_35 : decode cX7_exchange 35 = .ok (.getfield 19, 3) := by decide +kernel
theorem dX7_exchange_38 : decode cX7_exchange 38 = .ok (.iload_n 1, 1) := by decide +kernel
theorem dX7_exchange_39 : decode cX7_exchange 39 = .ok (.iload_n 2, 1) := by decide +kernel
theorem dX7_exchange_40 : decode cX7_exchange 40 = .ok (.iload_n 3, 1) := by decide +kernel
theorem dX7_exchange_41 : decode cX7_exchange 41 = .ok (.iload 4, 2) := by decide +kernel
theorem dX7_exchange_43 : decode cX7_exchange 43 = .ok (.invokevirtual 244, 3) := by decide +kernel
theorem dX7_exchange_46 : decode cX7_exchange 46 = .ok (.ifCond .ne 13, 3) := by decide +kernel
theorem dX7_exchange_49 : decode cX7_exchange 49 = .ok (.new 64, 3) := by decide +kernel
theorem dX7_exchange_52 : decode cX7_exchange 52 = .ok (.dup, 1) := by decide +kernel
theorem dX7_exchange_53 : decode cX7_exchange 53 = .ok (.ldc 248, 2) := by decide +kernel
theorem dX7_exchange_55 : decode cX7_exchange 55 = .ok (.invokespecial 68, 3) := by decide +kernel
theorem dX7_exchange_58 : decode cX7_exchange 58 = .ok (.athrow, 1) := by decide +kernel
theorem dX7_exchange_59 : decode cX7_exchange 59 = .ok (.aload_n 0, 1) := by decide +kernel
theorem dX7_exchange_60 : decode cX7_exchange 60 = .ok (.getfield 29, 3) := by decide +kernel
theorem dX7_exchange_63 : decode cX7_exchange 63 = .ok (.aload_n 0, 1) := by decide +kernel
theorem dX7_exchange_64 : decode cX7_exchange 64 = .ok (.getfield 19, 3) := by decide +kernel
theorem dX7_exchange_67 : decode cX7_exchange 67 = .ok (.invokevirtual 214, 3) := by decide +kernel
theorem dX7_exchange_70 : decode cX7_exchange 70 = .ok (.aload_n 0, 1) := by decide +kernel
theorem dX7_exchange_71 : decode cX7_exchange 71 = .ok (.getfield 19, 3) := by decide +kernel
theorem dX7_exchange_74 : decode cX7_exchange 74 = .ok (.dup, 1) := by decide +kernel
theorem dX7_exchange_75 : decode cX7_exchange 75 = .ok (.getfield 119, 3) := by decide +kernel
theorem dX7_exchange_78 : decode cX7_exchange 78 = .ok (.iload_n 1, 1) := by decide +kernel
theorem dX7_exchange_79 : decode cX7_exchange 79 = .ok (.iload_n 2, 1) := by decide +kernel
theorem dX7_exchange_80 : decode cX7_exchange 80 = .ok (.iload_n 3, 1) := by decide +kernel
theorem dX7_exchange_81 : decode cX7_exchange 81 = .ok (.iload 4, 2) := by decide +kernel
theorem dX7_exchange_83 : decode cX7_exchange 83 = .ok (.invokestatic 250, 3) := by decide +kernel
theorem dX7_exchange_86 : decode cX7_exchange 86 = .ok (.lxor, 1) := by decide +kernel
theorem dX7_exchange_87 : decode cX7_exchange 87 = .ok (.putfield 119, 3) := by decide +kernel
theorem dX7_exchange_90 : decode cX7_exchange 90 = .ok (.aload_n 0, 1) := by decide +kernel
theorem dX7_exchange_91 : decode cX7_exchange 91 = .ok (.getfield 19, 3) := by decide +kernel
theorem dX7_exchange_94 : decode cX7_exchange 94 = .ok (.getfield 119, 3) := by decide +kernel
theorem dX7_exchange_97 : decode cX7_exchange 97 = .ok (.invokestatic 122, 3) := by decide +kernel
theorem dX7_exchange_100 : decode cX7_exchange 100 = .ok (.ireturn, 1) := by decide +kernel
theorem dX7_solve_0 : decode cX7_solve 0 = .ok (.iload_n 1, 1) := by decide +kernel
theorem dX7_solve_1 : decode cX7_solve 1 = .ok (.ifCond .eq 18, 3) := by decide +kernel
theorem dX7_solve_4 : decode cX7_solve 4 = .ok (.iload_n 1, 1) := by decide +kernel
theorem dX7_solve_5 : decode cX7_solve 5 = .ok (.iconst 1, 1) := by decide +kernel
theorem dX7_solve_6 : decode cX7_solve 6 = .ok (.if_icmp .eq 13, 3) := by decide +kernel
theorem dX7_solve_9 : decode cX7_solve 9 = .ok (.new 53, 3) := by decide +kernel
theorem dX7_solve_12 : decode cX7_solve 12 = .ok (.dup, 1) := by decide +kernel
theorem dX7_solve_13 : decode cX7_solve 13 = .ok (.ldc 254, 2) := by decide +kernel
theorem dX7_solve_15 : decode cX7_solve 15 = .ok (.invokespecial 57, 3) := by decide +kernel
theorem dX7_solve_18 : decode cX7_solve 18 = .ok (.athrow, 1) := by decide +kernel
theorem dX7_solve_19 : decode cX7_solve 19 = .ok (.aload_n 0, 1) := by decide +kernel
theorem dX7_solve_20 : decode cX7_solve 20 = .ok (.getfield 43, 3) := by decide +kernel
theorem dX7_solve_23 : decode cX7_solve 23 = .ok (.aload_n 0, 1) := by decide +kernel
theorem dX7_solve_24 : decode cX7_solve 24 = .ok (.getfield 19, 3) := by decide +kernel
theorem dX7_solve_27 : decode cX7_solve 27 = .ok (.iload_n 1, 1) := by decide +kernel
theorem dX7_solve_28 : decode cX7_solve 28 = .ok (.iconst 1, 1) := by decide +kernel
theorem dX7_solve_29 : decode cX7_solve 29 = .ok (.if_icmp .ne 7, 3) := by decide +kernel
theorem dX7_solve_32 : decode cX7_solve 32 = .ok (.iconst 1, 1) := by decide +kernel
theorem dX7_solve_33 : decode cX7_solve 33 = .ok (.goto 4, 3) := by decide +kernel
theorem dX7_solve_36 : decode cX7_solve 36 = .ok (.iconst 0, 1) := by decide +kernel
theorem dX7_solve_37 : decode cX7_solve 37 = .ok (.invokevirtual 256, 3) := by decide +kernel
theorem dX7_solve_40 : decode cX7_solve 40 = .ok (.ifCond .ne 14, 3) := by decide +kernel
theorem dX7_solve_43 : decode cX7_solve 43 = .ok (.new 64, 3) := by decide +kernel
theorem dX7_solve_46 : decode cX7_solve 46 = .ok (.dup, 1) := by decide +kernel
theorem dX7_solve_47 : decode cX7_solve 47 = .ok (.ldc_w 260, 3) := by decide +kernel
theorem dX7_solve_50 : decode cX7_solve 50 = .ok (.invokespecial 68, 3) := by decide +kernel
theorem dX7_solve_53 : decode cX7_solve 53 = .ok (.athrow, 1) := by decide +kernel
theorem dX7_solve_54 : decode cX7_solve 54 = .ok (.aload_n 0, 1) := by decide +kernel
theorem dX7_solve_55 : decode cX7_solve 55 = .ok (.getfield 29, 3) := by decide +kernel
theorem dX7_solve_58 : decode cX7_solve 58 = .ok (.aload_n 0, 1) := by decide +kernel
theorem dX7_solve_59 : decode cX7_solve 59 = .ok (.getfield 19, 3) := by decide +kernel
theorem dX7_solve_62 : decode cX7_solve 62 = .ok (.invokevirtual 214, 3) := by decide +kernel
theorem dX7_solve_65 : decode cX7_solve 65 = .ok (.aload_n 0, 1) := by decide +kernel
theorem dX7_solve_66 : decode cX7_solve 66 = .ok (.getfield 19, 3) := by decide +kernel
theorem dX7_solve_69 : decode cX7_solve 69 = .ok (.aload_n 0, 1) := by decide +kernel
theorem dX7_solve_70 : decode cX7_solve 70 = .ok (.getfield 43, 3) := by decide +kernel
theorem dX7_solve_73 : decode cX7_solve 73 = .ok (.invokevirtual 262, 3) := by decide +kernel
theorem dX7_solve_76 : decode cX7_solve 76 = .ok (.invokevirtual 266, 3) := by decide +kernel
theorem dX7_solve_79 : decode cX7_solve 79 = .ok (.ireturn, 1) := by decide +kernel
theorem dX7_next_0 : decode cX7_next 0 = .ok (.aload_n 0, 1) := by decide +kernel
theorem dX7_next_1 : decode cX7_next 1 = .ok (.getfield 43, 3) := by decide +kernel
theorem dX7_next_4 : decode cX7_next 4 = .ok (.aload_n 0, 1) := by decide +kernel
theorem dX7_next_5 : decode cX7_next 5 = .ok (.getfield 19, 3) := by decide +kernel
theorem dX7_next_8 : decode cX7_next 8 = .ok (.invokevirtual 269, 3) := by decide +kernel
theorem dX7_next_11 : decode cX7_next 11 = .ok (.ifCond .ne 14, 3) := by decide +kernel
theorem dX7_next_14 : decode cX7_next 14 = .ok (.new 64, 3) := by decide +kernel
theorem dX7_next_17 : decode cX7_next 17 = .ok (.dup, 1) := by decide +kernel
theorem dX7_next_18 : decode cX7_next 18 = .ok (.ldc_w 273, 3) := by decide +kernel
theorem dX7_next_21 : decode cX7_next 21 = .ok (.invokespecial 68, 3) := by decide +kernel
theorem dX7_next_24 : decode cX7_next 24 = .ok (.athrow, 1) := by decide +kernel
theorem dX7_next_25 : decode cX7_next 25 = .ok (.aload_n 0, 1) := by decide +kernel
theorem dX7_next_26 : decode cX7_next 26 = .ok (.getfield 29, 3) := by decide +kernel
theorem dX7_next_29 : decode cX7_next 29 = .ok (.aload_n 0, 1) := by decide +kernel
theorem dX7_next_30 : decode cX7_next 30 = .ok (.getfield 19, 3) := by decide +kernel
theorem dX7_next_33 : decode cX7_next 33 = .ok (.invokevirtual 214, 3) := by decide +kernel
theorem dX7_next_36 : decode cX7_next 36 = .ok (.aload_n 0, 1) := by decide +kernel
theorem dX7_next_37 : decode cX7_next 37 = .ok (.getfield 19, 3) := by decide +kernel
theorem dX7_next_40 : decode cX7_next 40 = .ok (.aload_n 0, 1) := by decide +kernel
theorem dX7_next_41 : decode cX7_next 41 = .ok (.getfield 43, 3) := by decide +kernel
theorem dX7_next_44 : decode cX7_next 44 = .ok (.invokevirtual 262, 3) := by decide +kernel
theorem dX7_next_47 : decode cX7_next 47 = .ok (.invokevirtual 266, 3) := by decide +kernel
theorem dX7_next_50 : decode cX7_next 50 = .ok (.ireturn, 1) := by decide +kernel
theorem dX7_turn_0 : decode cX7_turn 0 = .ok (.aload_n 0, 1) := by decide +kernel
theorem dX7_turn_1 : decode cX7_turn 1 = .ok (.getfield 29, 3) := by decide +kernel
theorem dX7_turn_4 : decode cX7_turn 4 = .ok (.aload_n 0, 1) := by decide +kernel
theorem dX7_turn_5 : decode cX7_turn 5 = .ok (.getfield 19, 3) := by decide +kernel
theorem dX7_turn_8 : decode cX7_turn 8 = .ok (.invokevirtual 214, 3) := by decide +kernel
theorem dX7_turn_11 : decode cX7_turn 11 = .ok (.aload_n 0, 1) := by decide +kernel
theorem dX7_turn_12 : decode cX7_turn 12 = .ok (.getfield 19, 3) := by decide +kernel
theorem dX7_turn_15 : decode cX7_turn 15 = .ok (.invokevirtual 275, 3) := by decide +kernel
theorem dX7_turn_18 : decode cX7_turn 18 = .ok (.aload_n 0, 1) := by decide +kernel
theorem dX7_turn_19 : decode cX7_turn 19 = .ok (.getfield 19, 3) := by decide +kernel
theorem dX7_turn_22 : decode cX7_turn 22 = .ok (.getfield 93, 3) := by decide +kernel
theorem dX7_turn_25 : decode cX7_turn 25 = .ok (.ireturn, 1) := by decide +kernel
theorem dX7_undo_0 : decode cX7_undo 0 = .ok (.aload_n 0, 1) := by decide +kernel
theorem dX7_undo_1 : decode cX7_undo 1 = .ok (.getfield 29, 3) := by decide +kernel
theorem dX7_undo_4 : decode cX7_undo 4 = .ok (.invokevirtual 278, 3) := by decide +kernel
theorem dX7_undo_7 : decode cX7_undo 7 = .ok (.ifCond .eq 14, 3) := by decide +kernel
theorem dX7_undo_10 : decode cX7_undo 10 = .ok (.new 64, 3) := by decide +kernel
theorem dX7_undo_13 : decode cX7_undo 13 = .ok (.dup, 1) := by decide +kernel
theorem dX7_undo_14 : decode cX7_undo 14 = .ok (.ldc_w 281, 3) := by decide +kernel
theorem dX7_undo_17 : decode cX7_undo 17 = .ok (.invokespecial 68, 3) := by decide +kernel
theorem dX7_undo_20 : decode cX7_undo 20 = .ok (.athrow, 1) := by decide +kernel
theorem dX7_undo_21 : decode cX7_undo 21 = .ok (.aload_n 0, 1) := by decide +kernel
theorem dX7_undo_22 : decode cX7_undo 22 = .ok (.getfield 29, 3) := by decide +kernel
theorem dX7_undo_25 : decode cX7_undo 25 = .ok (.aload_n 0, 1) := by decide +kernel
theorem dX7_undo_26 : decode cX7_undo 26 = .ok (.getfield 19, 3) := by decide +kernel
theorem dX7_undo_29 : decode cX7_undo 29 = .ok (.invokevirtual 283, 3) := by decide +kernel
theorem dX7_undo_32 : decode cX7_undo 32 = .ok (.ireturn, 1) := by decide +kernel
theorem dX7_howMany_0 : decode cX7_howMany 0 = .ok (.aload_n 0, 1) := by decide +kernel
theorem dX7_howMany_1 : decode cX7_howMany 1 = .ok (.invokevirtual 287, 3) := by decide +kernel
theorem dX7_howMany_4 : decode cX7_howMany 4 = .ok (.ireturn, 1) := by decide +kernel
theorem dX7_sure_0 : decode cX7_sure 0 = .ok (.aload_n 0, 1) := by decide +kernel
theorem dX7_sure_1 : decode cX7_sure 1 = .ok (.getfield 43, 3) := by decide +kernel
theorem dX7_sure_4 : decode cX7_sure 4 = .ok (.aload_n 0, 1) := by decide +kernel
theorem dX7_sure_5 : decode cX7_sure 5 = .ok (.getfield 19, 3) := by decide +kernel
theorem dX7_sure_8 : decode cX7_sure 8 = .ok (.invokevirtual 180, 3) := by decide +kernel
theorem dX7_sure_11 : decode cX7_sure 11 = .ok (.lstore_n 2, 1) := by decide +kernel
theorem dX7_sure_12 : decode cX7_sure 12 = .ok (.iload_n 1, 1) := by decide +kernel
theorem dX7_sure_13 : decode cX7_sure 13 = .ok (.ifCond .eq 15, 3) := by decide +kernel
theorem dX7_sure_16 : decode cX7_sure 16 = .ok (.lload_n 2, 1) := by decide +kernel
theorem dX7_sure_17 : decode cX7_sure 17 = .ok (.aload_n 0, 1) := by decide +kernel
theorem dX7_sure_18 : decode cX7_sure 18 = .ok (.getfield 43, 3) := by decide +kernel
theorem dX7_sure_21 : decode cX7_sure 21 = .ok (.invokevirtual 262, 3) := by decide +kernel
theorem dX7_sure_24 : decode cX7_sure 24 = .ok (.land, 1) := by decide +kernel
theorem dX7_sure_25 : decode cX7_sure 25 = .ok (.goto 16, 3) := by decide +kernel
theorem dX7_sure_28 : decode cX7_sure 28 = .ok (.lload_n 2, 1) := by decide +kernel
theorem dX7_sure_29 : decode cX7_sure 29 = .ok (.aload_n 0, 1) := by decide +kernel
theorem dX7_sure_30 : decode cX7_sure 30 = .ok (.getfield 43, 3) := by decide +kernel
theorem dX7_sure_33 : decode cX7_sure 33 = .ok (.invokevirtual 262, 3) := by decide +kernel
theorem dX7_sure_36 : decode cX7_sure 36 = .ok (.ldc2_w 210, 3) := by decide +kernel
theorem dX7_sure_39 : decode cX7_sure 39 = .ok (.lxor, 1) := by decide +kernel
theorem dX7_sure_40 : decode cX7_sure 40 = .ok (.land, 1) := by decide +kernel
theorem dX7_sure_41 : decode cX7_sure 41 = .ok (.invokestatic 104, 3) := by decide +kernel
theorem dX7_sure_44 : decode cX7_sure 44 = .ok (.ireturn, 1) := by decide +kernel
theorem dX7_split_0 : decode cX7_split 0 = .ok (.aload_n 0, 1) := by decide +kernel
theorem dX7_split_1 : decode cX7_split 1 = .ok (.invokevirtual 287, 3) := by decide +kernel
theorem dX7_split_4 : decode cX7_split 4 = .ok (.istore_n 1, 1) := by decide +kernel
theorem dX7_split_5 : decode cX7_split 5 = .ok (.iload_n 1, 1) := by decide +kernel
theorem dX7_split_6 : decode cX7_split 6 = .ok (.iconst 2, 1) := by decide +kernel
theorem dX7_split_7 : decode cX7_split 7 = .ok (.if_icmp .lt 9, 3) := by decide +kernel
theorem dX7_split_10 : decode cX7_split 10 = .ok (.iload_n 1, 1) := by decide +kernel
theorem dX7_split_11 : decode cX7_split 11 = .ok (.bipush 100, 2) := by decide +kernel
theorem dX7_split_13 : decode cX7_split 13 = .ok (.if_icmp .lt 6, 3) := by decide +kernel
theorem dX7_split_16 : decode cX7_split 16 = .ok (.bipush (-9), 2) := by decide +kernel
theorem dX7_split_18 : decode cX7_split 18 = .ok (.ireturn, 1) := by decide +kernel
theorem dX7_split_19 : decode cX7_split 19 = .ok (.aload_n 0, 1) := by decide +kernel
theorem dX7_split_20 : decode cX7_split 20 = .ok (.invokevirtual 290, 3) := by decide +kernel
theorem dX7_split_23 : decode cX7_split 23 = .ok (.aload_n 0, 1) := by decide +kernel
theorem dX7_split_24 : decode cX7_split 24 = .ok (.iload_n 1, 1) := by decide +kernel
theorem dX7_split_25 : decode cX7_split 25 = .ok (.invokevirtual 293, 3) := by decide +kernel
theorem dX7_split_28 : decode cX7_split 28 = .ok (.ireturn, 1) := by decide +kernel
theorem dX7_nearest_0 : decode cX7_nearest 0 = .ok (.aload_n 0, 1) := by decide +kernel
theorem dX7_nearest_1 : decode cX7_nearest 1 = .ok (.invokevirtual 287, 3) := by decide +kernel
theorem dX7_nearest_4 : decode cX7_nearest 4 = .ok (.istore_n 1, 1) := by decide +kernel
theorem dX7_nearest_5 : decode cX7_nearest 5 = .ok (.iload_n 1, 1) := by decide +kernel
theorem dX7_nearest_6 : decode cX7_nearest 6 = .ok (.iconst 1, 1) := by decide +kernel
theorem dX7_nearest_7 : decode cX7_nearest 7 = .ok (.if_icmp .lt 9, 3) := by decide +kernel
theorem dX7_nearest_10 : decode cX7_nearest 10 = .ok (.iload_n 1, 1) := by decide +kernel
theorem dX7_nearest_11 : decode cX7_nearest 11 = .ok (.bipush 100, 2) := by decide +kernel
theorem dX7_nearest_13 : decode cX7_nearest 13 = .ok (.if_icmp .lt 14, 3) := by decide +kernel
theorem dX7_nearest_16 : decode cX7_nearest 16 = .ok (.new 64, 3) := by decide +kernel
theorem dX7_nearest_19 : decode cX7_nearest 19 = .ok (.dup, 1) := by decide +kernel
theorem dX7_nearest_20 : decode cX7_nearest 20 = .ok (.ldc_w 296, 3) := by decide +kernel
theorem dX7_nearest_23 : decode cX7_nearest 23 = .ok (.invokespecial 68, 3) := by decide +kernel
theorem dX7_nearest_26 : decode cX7_nearest 26 = .ok (.athrow, 1) := by decide +kernel
theorem dX7_nearest_27 : decode cX7_nearest 27 = .ok (.aload_n 0, 1) := by decide +kernel
theorem dX7_nearest_28 : decode cX7_nearest 28 = .ok (.invokevirtual 298, 3) := by decide +kernel
theorem dX7_nearest_31 : decode cX7_nearest 31 = .ok (.ireturn, 1) := by decide +kernel
theorem dX7_bestExchange_0 : decode cX7_bestExchange 0 = .ok (.bipush (-9), 2) := by decide +kernel
theorem dX7_bestExchange_2 : decode cX7_bestExchange 2 = .ok (.istore_n 1, 1) := by decide +kernel
theorem dX7_bestExchange_3 : decode cX7_bestExchange 3 = .ok (.iconst 0, 1) := by decide +kernel
theorem dX7_bestExchange_4 : decode cX7_bestExchange 4 = .ok (.istore_n 2, 1) := by decide +kernel
theorem dX7_bestExchange_5 : decode cX7_bestExchange 5 = .ok (.iconst 0, 1) := by decide +kernel
theorem dX7_bestExchange_6 : decode cX7_bestExchange 6 = .ok (.istore_n 3, 1) := by decide +kernel
theorem dX7_bestExchange_7 : decode cX7_bestExchange 7 = .ok (.aload_n 0, 1) := by decide +kernel
theorem dX7_bestExchange_8 : decode cX7_bestExchange 8 = .ok (.getfield 19, 3) := by decide +kernel
theorem dX7_bestExchange_11 : decode cX7_bestExchange 11 = .ok (.invokevirtual 133, 3) := by decide +kernel
theorem dX7_bestExchange_14 : decode cX7_bestExchange 14 = .ok (.istore 4, 2) := by decide +kernel
theorem dX7_bestExchange_16 : decode cX7_bestExchange 16 = .ok (.iconst 0, 1) := by decide +kernel
theorem dX7_bestExchange_17 : decode cX7_bestExchange 17 = .ok (.istore 5, 2) := by decide +kernel
theorem dX7_bestExchange_19 : decode cX7_bestExchange 19 = .ok (.iload 5, 2) := by decide +kernel
theorem dX7_bestExchange_21 : decode cX7_bestExchange 21 = .ok (.iload 4, 2) := by decide +kernel
theorem dX7_bestExchange_23 : decode cX7_bestExchange 23 = .ok (.if_icmp .ge 80, 3) := by decide +kernel
theorem dX7_bestExchange_26 : decode cX7_bestExchange 26 = .ok (.aload_n 0, 1) := by decide +kernel
theorem dX7_bestExchange_27 : decode cX7_bestExchange 27 = .ok (.getfield 19, 3) := by decide +kernel
theorem dX7_bestExchange_30 : decode cX7_bestExchange 30 = .ok (.getfield 119, 3) := by decide +kernel
theorem dX7_bestExchange_33 : decode cX7_bestExchange 33 = .ok (.aload_n 0, 1) := by decide +kernel
theorem dX7_bestExchange_34 : decode cX7_bestExchange 34 = .ok (.getfield 19, 3) := by decide +kernel
theorem dX7_bestExchange_37 : decode cX7_bestExchange 37 = .ok (.iload 5, 2) := by decide +kernel
theorem dX7_bestExchange_39 : decode cX7_bestExchange 39 = .ok (.invokevirtual 207, 3) := by decide +kernel
theorem dX7_bestExchange_42 : decode cX7_bestExchange 42 = .ok (.invokestatic 301, 3) := by decide +kernel
theorem dX7_bestExchange_45 : decode cX7_bestExchange 45 = .ok (.lxor, 1) := by decide +kernel
theorem dX7_bestExchange_46 : decode cX7_bestExchange 46 = .ok (.lstore 6, 2) := by decide +kernel
theorem dX7_bestExchange_48 : decode cX7_bestExchange 48 = .ok (.lload 6, 2) := by decide +kernel
theorem dX7_bestExchange_50 : decode cX7_bestExchange 50 = .ok (.invokestatic 122, 3) := by decide +kernel
theorem dX7_bestExchange_53 : decode cX7_bestExchange 53 = .ok (.istore 8, 2) := by decide +kernel
theorem dX7_bestExchange_55 : decode cX7_bestExchange 55 = .ok (.lload 6, 2) := by decide +kernel
theorem dX7_bestExchange_57 : decode cX7_bestExchange 57 = .ok (.lload 6, 2) := by decide +kernel
theorem dX7_bestExchange_59 : decode cX7_bestExchange 59 = .ok (.invokestatic 125, 3) := by decide +kernel
theorem dX7_bestExchange_62 : decode cX7_bestExchange 62 = .ok (.istore 9, 2) := by decide +kernel
theorem dX7_bestExchange_64 : decode cX7_bestExchange 64 = .ok (.iload_n 1, 1) := by decide +kernel
theorem dX7_bestExchange_65 : decode cX7_bestExchange 65 = .ok (.bipush (-9), 2) := by decide +kernel
theorem dX7_bestExchange_67 : decode cX7_bestExchange 67 = .ok (.if_icmp .eq 21, 3) := by decide +kernel
theorem dX7_bestExchange_70 : decode cX7_bestExchange 70 = .ok (.iload 8, 2) := by decide +kernel
theorem dX7_bestExchange_72 : decode cX7_bestExchange 72 = .ok (.iload_n 2, 1) := by decide +kernel
theorem dX7_bestExchange_73 : decode cX7_bestExchange 73 = .ok (.if_icmp .lt 15, 3) := by decide +kernel
theorem dX7_bestExchange_76 : decode cX7_bestExchange 76 = .ok (.iload 8, 2) := by decide +kernel
theorem dX7_bestExchange_78 : decode cX7_bestExchange 78 = .ok (.iload_n 2, 1) := by decide +kernel
theorem dX7_bestExchange_79 : decode cX7_bestExchange 79 = .ok (.if_icmp .ne 18, 3) := by decide +kernel
theorem dX7_bestExchange_82 : decode cX7_bestExchange 82 = .ok (.iload 9, 2) := by decide +kernel
theorem dX7_bestExchange_84 : decode cX7_bestExchange 84 = .ok (.iload_n 3, 1) := by decide +kernel
theorem dX7_bestExchange_85 : decode cX7_bestExchange 85 = .ok (.if_icmp .ge 12, 3) := by decide +kernel
theorem dX7_bestExchange_88 : decode cX7_bestExchange 88 = .ok (.iload 5, 2) := by decide +kernel
theorem dX7_bestExchange_90 : decode cX7_bestExchange 90 = .ok (.istore_n 1, 1) := by decide +kernel
theorem dX7_bestExchange_91 : decode cX7_bestExchange 91 = .ok (.iload 8, 2) := by decide +kernel
theorem dX7_bestExchange_93 : decode cX7_bestExchange 93 = .ok (.istore_n 2, 1) := by decide +kernel
theorem dX7_bestExchange_94 : decode cX7_bestExchange 94 = .ok (.iload 9, 2) := by decide +kernel
theorem dX7_bestExchange_96 : decode cX7_bestExchange 96 = .ok (.istore_n 3, 1) := by decide +kernel
theorem dX7_bestExchange_97 : decode cX7_bestExchange 97 = .ok (.iinc 5 1, 3) := by decide +kernel
theorem dX7_bestExchange_100 : decode cX7_bestExchange 100 = .ok (.goto (-81), 3) := by decide +kernel
theorem dX7_bestExchange_103 : decode cX7_bestExchange 103 = .ok (.iload_n 1, 1) := by decide +kernel
theorem dX7_bestExchange_104 : decode cX7_bestExchange 104 = .ok (.ireturn, 1) := by decide +kernel
theorem dX7_runScript_0 : decode cX7_runScript 0 = .ok (.iload_n 1, 1) := by decide +kernel
theorem dX7_runScript_1 : decode cX7_runScript 1 = .ok (.iconst 1, 1) := by decide +kernel
theorem dX7_runScript_2 : decode cX7_runScript 2 = .ok (.if_icmp .lt 8, 3) := by decide +kernel
theorem dX7_runScript_5 : decode cX7_runScript 5 = .ok (.iload_n 1, 1) := by decide +kernel
theorem dX7_runScript_6 : decode cX7_runScript 6 = .ok (.iconst 4, 1) := by decide +kernel
theorem dX7_runScript_7 : decode cX7_runScript 7 = .ok (.if_icmp .le 14, 3) := by decide +kernel
theorem dX7_runScript_10 : decode cX7_runScript 10 = .ok (.new 53, 3) := by decide +kernel
theorem dX7_runScript_13 : decode cX7_runScript 13 = .ok (.dup, 1) := by decide +kernel
theorem dX7_runScript_14 : decode cX7_runScript 14 = .ok (.ldc_w 304, 3) := by decide +kernel
theorem dX7_runScript_17 : decode cX7_runScript 17 = .ok (.invokespecial 57, 3) := by decide +kernel
theorem dX7_runScript_20 : decode cX7_runScript 20 = .ok (.athrow, 1) := by decide +kernel
theorem dX7_runScript_21 : decode cX7_runScript 21 = .ok (.lconst 1, 1) := by decide +kernel
theorem dX7_runScript_22 : decode cX7_runScript 22 = .ok (.lstore 4, 2) := by decide +kernel
theorem dX7_runScript_24 : decode cX7_runScript 24 = .ok (.iconst 0, 1) := by decide +kernel
theorem dX7_runScript_25 : decode cX7_runScript 25 = .ok (.istore 6, 2) := by decide +kernel
theorem dX7_runScript_27 : decode cX7_runScript 27 = .ok (.iload 6, 2) := by decide +kernel
theorem dX7_runScript_29 : decode cX7_runScript 29 = .ok (.iload_n 1, 1) := by decide +kernel
theorem dX7_runScript_30 : decode cX7_runScript 30 = .ok (.if_icmp .ge 17, 3) := by decide +kernel
theorem dX7_runScript_33 : decode cX7_runScript 33 = .ok (.lload 4, 2) := by decide +kernel
theorem dX7_runScript_35 : decode cX7_runScript 35 = .ok (.ldc2_w 306, 3) := by decide +kernel
theorem dX7_runScript_38 : decode cX7_runScript 38 = .ok (.lmul, 1) := by decide +kernel
theorem dX7_runScript_39 : decode cX7_runScript 39 = .ok (.lstore 4, 2) := by decide +kernel
theorem dX7_runScript_41 : decode cX7_runScript 41 = .ok (.iinc 6 1, 3) := by decide +kernel
theorem dX7_runScript_44 : decode cX7_runScript 44 = .ok (.goto (-17), 3) := by decide +kernel
theorem dX7_runScript_47 : decode cX7_runScript 47 = .ok (.lload_n 2, 1) := by decide +kernel
theorem dX7_runScript_48 : decode cX7_runScript 48 = .ok (.lconst 0, 1) := by decide +kernel
theorem dX7_runScript_49 : decode cX7_runScript 49 = .ok (.lcmp, 1) := by decide +kernel
theorem dX7_runScript_50 : decode cX7_runScript 50 = .ok (.ifCond .lt 10, 3) := by decide +kernel
theorem dX7_runScript_53 : decode cX7_runScript 53 = .ok (.lload_n 2, 1) := by decide +kernel
theorem dX7_runScript_54 : decode cX7_runScript 54 = .ok (.lload 4, 2) := by decide +kernel
theorem dX7_runScript_56 : decode cX7_runScript 56 = .ok (.lcmp, 1) := by decide +kernel
theorem dX7_runScript_57 : decode cX7_runScript 57 = .ok (.ifCond .lt 14, 3) := by decide +kernel
theorem dX7_runScript_60 : decode cX7_runScript 60 = .ok (.new 53, 3) := by decide +kernel
theorem dX7_runScript_63 : decode cX7_runScript 63 = .ok (.dup, 1) := by decide +kernel
theorem dX7_runScript_64 : decode cX7_runScript 64 = .ok (.ldc_w 308, 3) := by decide +kernel
theorem dX7_runScript_67 : decode cX7_runScript 67 = .ok (.invokespecial 57, 3) := by decide +kernel
theorem dX7_runScript_70 : decode cX7_runScript 70 = .ok (.athrow, 1) := by decide +kernel
theorem dX7_runScript_71 : decode cX7_runScript 71 = .ok (.aload_n 0, 1) := by decide +kernel
theorem dX7_runScript_72 : decode cX7_runScript 72 = .ok (.getfield 23, 3) := by decide +kernel
theorem dX7_runScript_75 : decode cX7_runScript 75 = .ok (.aload_n 0, 1) := by decide +kernel
theorem dX7_runScript_76 : decode cX7_runScript 76 = .ok (.getfield 19, 3) := by decide +kernel
theorem dX7_runScript_79 : decode cX7_runScript 79 = .ok (.invokevirtual 310, 3) := by decide +kernel
theorem dX7_runScript_82 : decode cX7_runScript 82 = .ok (.lload 4, 2) := by decide +kernel
theorem dX7_runScript_84 : decode cX7_runScript 84 = .ok (.ldc2_w 306, 3) := by decide +kernel
theorem dX7_runScript_87 : decode cX7_runScript 87 = .ok (.ldiv, 1) := by decide +kernel
theorem dX7_runScript_88 : decode cX7_runScript 88 = .ok (.lstore 6, 2) := by decide +kernel
theorem dX7_runScript_90 : decode cX7_runScript 90 = .ok (.iconst 0, 1) := by decide +kernel
theorem dX7_runScript_91 : decode cX7_runScript 91 = .ok (.istore 8, 2) := by decide +kernel
theorem dX7_runScript_93 : decode cX7_runScript 93 = .ok (.iload 8, 2) := by decide +kernel
theorem dX7_runScript_95 : decode cX7_runScript 95 = .ok (.iload_n 1, 1) := by decide +kernel
theorem dX7_runScript_96 : decode cX7_runScript 96 = .ok (.if_icmp .ge 43, 3) := by decide +kernel
theorem dX7_runScript_99 : decode cX7_runScript 99 = .ok (.lload 6, 2) := by decide +kernel
theorem dX7_runScript_101 : decode cX7_runScript 101 = .ok (.lconst 0, 1) := by decide +kernel
theorem dX7_runScript_102 : decode cX7_runScript 102 = .ok (.lcmp, 1) := by decide +kernel
theorem dX7_runScript_103 : decode cX7_runScript 103 = .ok (.ifCond .le 36, 3) := by decide +kernel
theorem dX7_runScript_106 : decode cX7_runScript 106 = .ok (.aload_n 0, 1) := by decide +kernel
theorem dX7_runScript_107 : decode cX7_runScript 107 = .ok (.lload_n 2, 1) := by decide +kernel
theorem dX7_runScript_108 : decode cX7_runScript 108 = .ok (.lload 6, 2) := by decide +kernel
theorem dX7_runScript_110 : decode cX7_runScript 110 = .ok (.ldiv, 1) := by decide +kernel
theorem dX7_runScript_111 : decode cX7_runScript 111 = .ok (.ldc2_w 306, 3) := by decide +kernel
theorem dX7_runScript_114 : decode cX7_runScript 114 = .ok (.lrem, 1) := by decide +kernel
theorem dX7_runScript_115 : decode cX7_runScript 115 = .ok (.l2i, 1) := by decide +kernel
theorem dX7_runScript_116 : decode cX7_runScript 116 = .ok (.invokevirtual 313, 3) := by decide +kernel
theorem dX7_runScript_119 : decode cX7_runScript 119 = .ok (.ifCond .ne 6, 3) := by decide +kernel
theorem dX7_runScript_122 : decode cX7_runScript 122 = .ok (.iload 8, 2) := by decide +kernel
theorem dX7_runScript_124 : decode cX7_runScript 124 = .ok (.ireturn, 1) := by decide +kernel
theorem dX7_runScript_125 : decode cX7_runScript 125 = .ok (.lload 6, 2) := by decide +kernel
theorem dX7_runScript_127 : decode cX7_runScript 127 = .ok (.ldc2_w 306, 3) := by decide +kernel
theorem dX7_runScript_130 : decode cX7_runScript 130 = .ok (.ldiv, 1) := by decide +kernel
theorem dX7_runScript_131 : decode cX7_runScript 131 = .ok (.lstore 6, 2) := by decide +kernel
theorem dX7_runScript_133 : decode cX7_runScript 133 = .ok (.iinc 8 1, 3) := by decide +kernel
theorem dX7_runScript_136 : decode cX7_runScript 136 = .ok (.goto (-43), 3) := by decide +kernel
theorem dX7_runScript_139 : decode cX7_runScript 139 = .ok (.bipush (-9), 2) := by decide +kernel
theorem dX7_runScript_141 : decode cX7_runScript 141 = .ok (.ireturn, 1) := by decide +kernel
theorem dX7_simulate_0 : decode cX7_simulate 0 = .ok (.iload_n 3, 1) := by decide +kernel
theorem dX7_simulate_1 : decode cX7_simulate 1 = .ok (.iconst 1, 1) := by decide +kernel
theorem dX7_simulate_2 : decode cX7_simulate 2 = .ok (.if_icmp .lt 9, 3) := by decide +kernel
theorem dX7_simulate_5 : decode cX7_simulate 5 = .ok (.iload_n 3, 1) := by decide +kernel
theorem dX7_simulate_6 : decode cX7_simulate 6 = .ok (.bipush 99, 2) := by decide +kernel
theorem dX7_simulate_8 : decode cX7_simulate 8 = .ok (.if_icmp .le 14, 3) := by decide +kernel
theorem dX7_simulate_11 : decode cX7_simulate 11 = .ok (.new 53, 3) := by decide +kernel
theorem dX7_simulate_14 : decode cX7_simulate 14 = .ok (.dup, 1) := by decide +kernel
theorem dX7_simulate_15 : decode cX7_simulate 15 = .ok (.ldc_w 317, 3) := by decide +kernel
theorem dX7_simulate_18 : decode cX7_simulate 18 = .ok (.invokespecial 57, 3) := by decide +kernel
theorem dX7_simulate_21 : decode cX7_simulate 21 = .ok (.athrow, 1) := by decide +kernel
theorem dX7_simulate_22 : decode cX7_simulate 22 = .ok (.aload_n 0, 1) := by decide +kernel
theorem dX7_simulate_23 : decode cX7_simulate 23 = .ok (.getfield 23, 3) := by decide +kernel
theorem dX7_simulate_26 : decode cX7_simulate 26 = .ok (.aload_n 0, 1) := by decide +kernel
theorem dX7_simulate_27 : decode cX7_simulate 27 = .ok (.getfield 19, 3) := by decide +kernel
theorem dX7_simulate_30 : decode cX7_simulate 30 = .ok (.invokevirtual 310, 3) := by decide +kernel
theorem dX7_simulate_33 : decode cX7_simulate 33 = .ok (.lload_n 1, 1) := by decide +kernel
theorem dX7_simulate_34 : decode cX7_simulate 34 = .ok (.lstore 4, 2) := by decide +kernel
theorem dX7_simulate_36 : decode cX7_simulate 36 = .ok (.iconst 0, 1) := by decide +kernel
theorem dX7_simulate_37 : decode cX7_simulate 37 = .ok (.istore 6, 2) := by decide +kernel
theorem dX7_simulate_39 : decode cX7_simulate 39 = .ok (.iload 6, 2) := by decide +kernel
theorem dX7_simulate_41 : decode cX7_simulate 41 = .ok (.iload_n 3, 1) := by decide +kernel
theorem dX7_simulate_42 : decode cX7_simulate 42 = .ok (.if_icmp .ge 70, 3) := by decide +kernel
theorem dX7_simulate_45 : decode cX7_simulate 45 = .ok (.lload 4, 2) := by decide +kernel
theorem dX7_simulate_47 : decode cX7_simulate 47 = .ok (.ldc2_w 319, 3) := by decide +kernel
theorem dX7_simulate_50 : decode cX7_simulate 50 = .ok (.lmul, 1) := by decide +kernel
theorem dX7_simulate_51 : decode cX7_simulate 51 = .ok (.ldc2_w 321, 3) := by decide +kernel
theorem dX7_simulate_54 : decode cX7_simulate 54 = .ok (.ladd, 1) := by decide +kernel
theorem dX7_simulate_55 : decode cX7_simulate 55 = .ok (.lstore 4, 2) := by decide +kernel
theorem dX7_simulate_57 : decode cX7_simulate 57 = .ok (.lload 4, 2) := by decide +kernel
theorem dX7_simulate_59 : decode cX7_simulate 59 = .ok (.bipush 33, 2) := by decide +kernel
theorem dX7_simulate_61 : decode cX7_simulate 61 = .ok (.lushr, 1) := by decide +kernel
theorem dX7_simulate_62 : decode cX7_simulate 62 = .ok (.l2i, 1) := by decide +kernel
theorem dX7_simulate_63 : decode cX7_simulate 63 = .ok (.istore 7, 2) := by decide +kernel
theorem dX7_simulate_65 : decode cX7_simulate 65 = .ok (.aload_n 0, 1) := by decide +kernel
theorem dX7_simulate_66 : decode cX7_simulate 66 = .ok (.getfield 23, 3) := by decide +kernel
theorem dX7_simulate_69 : decode cX7_simulate 69 = .ok (.invokevirtual 133, 3) := by decide +kernel
theorem dX7_simulate_72 : decode cX7_simulate 72 = .ok (.istore 8, 2) := by decide +kernel
theorem dX7_simulate_74 : decode cX7_simulate 74 = .ok (.iload 8, 2) := by decide +kernel
theorem dX7_simulate_76 : decode cX7_simulate 76 = .ok (.ifCond .le 30, 3) := by decide +kernel
theorem dX7_simulate_79 : decode cX7_simulate 79 = .ok (.aload_n 0, 1) := by decide +kernel
theorem dX7_simulate_80 : decode cX7_simulate 80 = .ok (.getfield 23, 3) := by decide +kernel
theorem dX7_simulate_83 : decode cX7_simulate 83 = .ok (.dup, 1) := by decide +kernel
theorem dX7_simulate_84 : decode cX7_simulate 84 = .ok (.getfield 119, 3) := by decide +kernel
theorem dX7_simulate_87 : decode cX7_simulate 87 = .ok (.aload_n 0, 1) := by decide +kernel
theorem dX7_simulate_88 : decode cX7_simulate 88 = .ok (.getfield 23, 3) := by decide +kernel
theorem dX7_simulate_91 : decode cX7_simulate 91 = .ok (.iload 7, 2) := by decide +kernel
theorem dX7_simulate_93 : decode cX7_simulate 93 = .ok (.iload 8, 2) := by decide +kernel
theorem dX7_simulate_95 : decode cX7_simulate 95 = .ok (.irem, 1) := by decide +kernel
theorem dX7_simulate_96 : decode cX7_simulate 96 = .ok (.invokevirtual 207, 3) := by decide +kernel
theorem dX7_simulate_99 : decode cX7_simulate 99 = .ok (.invokestatic 301, 3) := by decide +kernel
theorem dX7_simulate_102 : decode cX7_simulate 102 = .ok (.lxor, 1) := by decide +kernel
theorem dX7_simulate_103 : decode cX7_simulate 103 = .ok (.putfield 119, 3) := by decide +kernel
theorem dX7_simulate_106 : decode cX7_simulate 106 = .ok (.iinc 6 1, 3) := by decide +kernel
theorem dX7_simulate_109 : decode cX7_simulate 109 = .ok (.goto (-70), 3) := by decide +kernel
theorem dX7_simulate_112 : decode cX7_simulate 112 = .ok (.bipush 100, 2) := by decide +kernel
theorem dX7_simulate_114 : decode cX7_simulate 114 = .ok (.aload_n 0, 1) := by decide +kernel
theorem dX7_simulate_115 : decode cX7_simulate 115 = .ok (.getfield 23, 3) := by decide +kernel
theorem dX7_simulate_118 : decode cX7_simulate 118 = .ok (.getfield 119, 3) := by decide +kernel
theorem dX7_simulate_121 : decode cX7_simulate 121 = .ok (.invokestatic 122, 3) := by decide +kernel
theorem dX7_simulate_124 : decode cX7_simulate 124 = .ok (.imul, 1) := by decide +kernel
theorem dX7_simulate_125 : decode cX7_simulate 125 = .ok (.aload_n 0, 1) := by decide +kernel
theorem dX7_simulate_126 : decode cX7_simulate 126 = .ok (.getfield 23, 3) := by decide +kernel
theorem dX7_simulate_129 : decode cX7_simulate 129 = .ok (.getfield 119, 3) := by decide +kernel
theorem dX7_simulate_132 : decode cX7_simulate 132 = .ok (.aload_n 0, 1) := by decide +kernel
theorem dX7_simulate_133 : decode cX7_simulate 133 = .ok (.getfield 23, 3) := by decide +kernel
theorem dX7_simulate_136 : decode cX7_simulate 136 = .ok (.getfield 119, 3) := by decide +kernel
theorem dX7_simulate_139 : decode cX7_simulate 139 = .ok (.invokestatic 125, 3) := by decide +kernel
theorem dX7_simulate_142 : decode cX7_simulate 142 = .ok (.iadd, 1) := by decide +kernel
theorem dX7_simulate_143 : decode cX7_simulate 143 = .ok (.ireturn, 1) := by decide +kernel
theorem dX7_save_0 : decode cX7_save 0 = .ok (.aload_n 0, 1) := by decide +kernel
theorem dX7_save_1 : decode cX7_save 1 = .ok (.iload_n 1, 1) := by decide +kernel
theorem dX7_save_2 : decode cX7_save 2 = .ok (.invokevirtual 323, 3) := by decide +kernel
theorem dX7_save_5 : decode cX7_save 5 = .ok (.aload_n 0, 1) := by decide +kernel
theorem dX7_save_6 : decode cX7_save 6 = .ok (.getfield 36, 3) := by decide +kernel
theorem dX7_save_9 : decode cX7_save 9 = .ok (.iload_n 1, 1) := by decide +kernel
theorem dX7_save_10 : decode cX7_save 10 = .ok (.aload_n 0, 1) := by decide +kernel
theorem dX7_save_11 : decode cX7_save 11 = .ok (.getfield 19, 3) := by decide +kernel
theorem dX7_save_14 : decode cX7_save 14 = .ok (.invokevirtual 326, 3) := by decide +kernel
theorem dX7_save_17 : decode cX7_save 17 = .ok (.aload_n 0, 1) := by decide +kernel
theorem dX7_save_18 : decode cX7_save 18 = .ok (.getfield 19, 3) := by decide +kernel
theorem dX7_save_21 : decode cX7_save 21 = .ok (.invokevirtual 90, 3) := by decide +kernel
theorem dX7_save_24 : decode cX7_save 24 = .ok (.ireturn, 1) := by decide +kernel
theorem dX7_restore_0 : decode cX7_restore 0 = .ok (.aload_n 0, 1) := by decide +kernel
theorem dX7_restore_1 : decode cX7_restore 1 = .ok (.iload_n 1, 1) := by decide +kernel
theorem dX7_restore_2 : decode cX7_restore 2 = .ok (.invokevirtual 323, 3) := by decide +kernel
theorem dX7_restore_5 : decode cX7_restore 5 = .ok (.aload_n 0, 1) := by decide +kernel
theorem dX7_restore_6 : decode cX7_restore 6 = .ok (.getfield 36, 3) := by decide +kernel
theorem dX7_restore_9 : decode cX7_restore 9 = .ok (.iload_n 1, 1) := by decide +kernel
theorem dX7_restore_10 : decode cX7_restore 10 = .ok (.invokevirtual 329, 3) := by decide +kernel
theorem dX7_restore_13 : decode cX7_restore 13 = .ok (.ifCond .ne 14, 3) := by decide +kernel
theorem dX7_restore_16 : decode cX7_restore 16 = .ok (.new 64, 3) := by decide +kernel
theorem dX7_restore_19 : decode cX7_restore 19 = .ok (.dup, 1) := by decide +kernel
theorem dX7_restore_20 : decode cX7_restore 20 = .ok (.ldc_w 332, 3) := by decide +kernel
theorem dX7_restore_23 : decode cX7_restore 23 = .ok (.invokespecial 68, 3) := by decide +kernel
theorem dX7_restore_26 : decode cX7_restore 26 = .ok (.athrow, 1) := by decide +kernel
theorem dX7_restore_27 : decode cX7_restore 27 = .ok (.aload_n 0, 1) := by decide +kernel
theorem dX7_restore_28 : decode cX7_restore 28 = .ok (.getfield 36, 3) := by decide +kernel
theorem dX7_restore_31 : decode cX7_restore 31 = .ok (.iload_n 1, 1) := by decide +kernel
theorem dX7_restore_32 : decode cX7_restore 32 = .ok (.aload_n 0, 1) := by decide +kernel
theorem dX7_restore_33 : decode cX7_restore 33 = .ok (.getfield 19, 3) := by decide +kernel
theorem dX7_restore_36 : decode cX7_restore 36 = .ok (.invokevirtual 334, 3) := by decide +kernel
theorem dX7_restore_39 : decode cX7_restore 39 = .ok (.aload_n 0, 1) := by decide +kernel
theorem dX7_restore_40 : decode cX7_restore 40 = .ok (.getfield 29, 3) := by decide +kernel
theorem dX7_restore_43 : decode cX7_restore 43 = .ok (.invokevirtual 86, 3) := by decide +kernel
theorem dX7_restore_46 : decode cX7_restore 46 = .ok (.aload_n 0, 1) := by decide +kernel
theorem dX7_restore_47 : decode cX7_restore 47 = .ok (.getfield 19, 3) := by decide +kernel
theorem dX7_restore_50 : decode cX7_restore 50 = .ok (.invokevirtual 90, 3) := by decide +kernel
theorem dX7_restore_53 : decode cX7_restore 53 = .ok (.ireturn, 1) := by decide +kernel
theorem dX7_checkLine_0 : decode cX7_checkLine 0 = .ok (.aload_n 0, 1) := by decide +kernel
theorem dX7_checkLine_1 : decode cX7_checkLine 1 = .ok (.getfield 19, 3) := by decide +kernel
theorem dX7_checkLine_4 : decode cX7_checkLine 4 = .ok (.iload_n 1, 1) := by decide +kernel
theorem dX7_checkLine_5 : decode cX7_checkLine 5 = .ok (.invokevirtual 337, 3) := by decide +kernel
theorem dX7_checkLine_8 : decode cX7_checkLine 8 = .ok (.ifCond .ne 14, 3) := by decide +kernel
theorem dX7_checkLine_11 : decode cX7_checkLine 11 = .ok (.new 184, 3) := by decide +kernel
theorem dX7_checkLine_14 : decode cX7_checkLine 14 = .ok (.dup, 1) := by decide +kernel
theorem dX7_checkLine_15 : decode cX7_checkLine 15 = .ok (.ldc_w 340, 3) := by decide +kernel
theorem dX7_checkLine_18 : decode cX7_checkLine 18 = .ok (.invokespecial 188, 3) := by decide +kernel
theorem dX7_checkLine_21 : decode cX7_checkLine 21 = .ok (.athrow, 1) := by decide +kernel
theorem dX7_checkLine_22 : decode cX7_checkLine 22 = .ok (.return_, 1) := by decide +kernel
theorem dX7_checkCell_0 : decode cX7_checkCell 0 = .ok (.aload_n 0, 1) := by decide +kernel
theorem dX7_checkCell_1 : decode cX7_checkCell 1 = .ok (.getfield 19, 3) := by decide +kernel
theorem dX7_checkCell_4 : decode cX7_checkCell 4 = .ok (.iload_n 1, 1) := by decide +kernel
theorem dX7_checkCell_5 : decode cX7_checkCell 5 = .ok (.iload_n 2, 1) := by decide +kernel
theorem dX7_checkCell_6 : decode cX7_checkCell 6 = .ok (.invokevirtual 342, 3) := by decide +kernel
theorem dX7_checkCell_9 : decode cX7_checkCell 9 = .ok (.ifCond .ne 14, 3) := by decide +kernel
theorem dX7_checkCell_12 : decode cX7_checkCell 12 = .ok (.new 184, 3) := by decide +kernel
theorem dX7_checkCell_15 : decode cX7_checkCell 15 = .ok (.dup, 1) := by decide +kernel
theorem dX7_checkCell_16 : decode cX7_checkCell 16 = .ok (.ldc_w 345, 3) := by decide +kernel
theorem dX7_checkCell_19 : decode cX7_checkCell 19 = .ok (.invokespecial 188, 3) := by decide +kernel
theorem dX7_checkCell_22 : decode cX7_checkCell 22 = .ok (.athrow, 1) := by decide +kernel
theorem dX7_checkCell_23 : decode cX7_checkCell 23 = .ok (.return_, 1) := by decide +kernel
theorem dX7_checkSlot_0 : decode cX7_checkSlot 0 = .ok (.iload_n 1, 1) := by decide +kernel
theorem dX7_checkSlot_1 : decode cX7_checkSlot 1 = .ok (.ifCond .eq 19, 3) := by decide +kernel
theorem dX7_checkSlot_4 : decode cX7_checkSlot 4 = .ok (.iload_n 1, 1) := by decide +kernel
theorem dX7_checkSlot_5 : decode cX7_checkSlot 5 = .ok (.iconst 1, 1) := by decide +kernel
theorem dX7_checkSlot_6 : decode cX7_checkSlot 6 = .ok (.if_icmp .eq 14, 3) := by decide +kernel
theorem dX7_checkSlot_9 : decode cX7_checkSlot 9 = .ok (.new 184, 3) := by decide +kernel
theorem dX7_checkSlot_12 : decode cX7_checkSlot 12 = .ok (.dup, 1) := by decide +kernel
theorem dX7_checkSlot_13 : decode cX7_checkSlot 13 = .ok (.ldc_w 347, 3) := by decide +kernel
theorem dX7_checkSlot_16 : decode cX7_checkSlot 16 = .ok (.invokespecial 188, 3) := by decide +kernel
theorem dX7_checkSlot_19 : decode cX7_checkSlot 19 = .ok (.athrow, 1) := by decide +kernel
theorem dX7_checkSlot_20 : decode cX7_checkSlot 20 = .ok (.return_, 1) := by decide +kernel
theorem dX7_oneIf_0 : decode cX7_oneIf 0 = .ok (.iload_n 0, 1) := by decide +kernel
theorem dX7_oneIf_1 : decode cX7_oneIf 1 = .ok (.ifCond .eq 7, 3) := by decide +kernel
theorem dX7_oneIf_4 : decode cX7_oneIf 4 = .ok (.iconst 1, 1) := by decide +kernel
theorem dX7_oneIf_5 : decode cX7_oneIf 5 = .ok (.goto 4, 3) := by decide +kernel
theorem dX7_oneIf_8 : decode cX7_oneIf 8 = .ok (.iconst 0, 1) := by decide +kernel
theorem dX7_oneIf_9 : decode cX7_oneIf 9 = .ok (.ireturn, 1) := by decide +kernel
theorem dX7_countFitting_0 : decode cX7_countFitting 0 = .ok (.iconst 0, 1) := by decide +kernel
theorem dX7_countFitting_1 : decode cX7_countFitting 1 = .ok (.istore_n 1, 1) := by decide +kernel
theorem dX7_countFitting_2 : decode cX7_countFitting 2 = .ok (.aload_n 0, 1) := by decide +kernel
theorem dX7_countFitting_3 : decode cX7_countFitting 3 = .ok (.getfield 43, 3) := by decide +kernel
theorem dX7_countFitting_6 : decode cX7_countFitting 6 = .ok (.aload_n 0, 1) := by decide +kernel
theorem dX7_countFitting_7 : decode cX7_countFitting 7 = .ok (.getfield 19, 3) := by decide +kernel
theorem dX7_countFitting_10 : decode cX7_countFitting 10 = .ok (.iconst 0, 1) := by decide +kernel
theorem dX7_countFitting_11 : decode cX7_countFitting 11 = .ok (.invokevirtual 256, 3) := by decide +kernel
theorem dX7_countFitting_14 : decode cX7_countFitting 14 = .ok (.istore_n 2, 1) := by decide +kernel
theorem dX7_countFitting_15 : decode cX7_countFitting 15 = .ok (.iload_n 2, 1) := by decide +kernel
theorem dX7_countFitting_16 : decode cX7_countFitting 16 = .ok (.ifCond .eq 27, 3) := by decide +kernel
theorem dX7_countFitting_19 : decode cX7_countFitting 19 = .ok (.iload_n 1, 1) := by decide +kernel
theorem dX7_countFitting_20 : decode cX7_countFitting 20 = .ok (.bipush 100, 2) := by decide +kernel
theorem dX7_countFitting_22 : decode cX7_countFitting 22 = .ok (.if_icmp .ge 21, 3) := by decide +kernel
theorem dX7_countFitting_25 : decode cX7_countFitting 25 = .ok (.iinc 1 1, 3) := by decide +kernel
theorem dX7_countFitting_28 : decode cX7_countFitting 28 = .ok (.aload_n 0, 1) := by decide +kernel
theorem dX7_countFitting_29 : decode cX7_countFitting 29 = .ok (.getfield 43, 3) := by decide +kernel
theorem dX7_countFitting_32 : decode cX7_countFitting 32 = .ok (.aload_n 0, 1) := by decide +kernel
theorem dX7_countFitting_33 : decode cX7_countFitting 33 = .ok (.getfield 19, 3) := by decide +kernel
theorem dX7_countFitting_36 : decode cX7_countFitting 36 = .ok (.invokevirtual 349, 3) := by decide +kernel
theorem dX7_countFitting_39 : decode cX7_countFitting 39 = .ok (.istore_n 2, 1) := by decide +kernel
theorem dX7_countFitting_40 : decode cX7_countFitting 40 = .ok (.goto (-25), 3) := by decide +kernel
theorem dX7_countFitting_43 : decode cX7_countFitting 43 = .ok (.iload_n 1, 1) := by decide +kernel
theorem dX7_countFitting_44 : decode cX7_countFitting 44 = .ok (.ireturn, 1) := by decide +kernel
theorem dX7_tallyFitting_0 : decode cX7_tallyFitting 0 = .ok (.iconst 0, 1) := by decide +kernel
theorem dX7_tallyFitting_1 : decode cX7_tallyFitting 1 = .ok (.istore_n 1, 1) := by decide +kernel
theorem dX7_tallyFitting_2 : decode cX7_tallyFitting 2 = .ok (.iload_n 1, 1) := by decide +kernel
theorem dX7_tallyFitting_3 : decode cX7_tallyFitting 3 = .ok (.aload_n 0, 1) := by decide +kernel
theorem dX7_tallyFitting_4 : decode cX7_tallyFitting 4 = .ok (.getfield 49, 3) := by decide +kernel
theorem dX7_tallyFitting_7 : decode cX7_tallyFitting 7 = .ok (.arraylength, 1) := by decide +kernel
theorem dX7_tallyFitting_8 : decode cX7_tallyFitting 8 = .ok (.if_icmp .ge 16, 3) := by decide +kernel
theorem dX7_tallyFitting_11 : decode cX7_tallyFitting 11 = .ok (.aload_n 0, 1) := by decide +kernel
theorem dX7_tallyFitting_12 : decode cX7_tallyFitting 12 = .ok (.getfield 49, 3) := by decide +kernel
theorem dX7_tallyFitting_15 : decode cX7_tallyFitting 15 = .ok (.iload_n 1, 1) := by decide +kernel
theorem dX7_tallyFitting_16 : decode cX7_tallyFitting 16 = .ok (.iconst 0, 1) := by decide +kernel
theorem dX7_tallyFitting_17 : decode cX7_tallyFitting 17 = .ok (.iastore, 1) := by decide +kernel
theorem dX7_tallyFitting_18 : decode cX7_tallyFitting 18 = .ok (.iinc 1 1, 3) := by decide +kernel
theorem dX7_tallyFitting_21 : decode cX7_tallyFitting 21 = .ok (.goto (-19), 3) := by decide +kernel
theorem dX7_tallyFitting_24 : decode cX7_tallyFitting 24 = .ok (.aload_n 0, 1) := by decide +kernel
theorem dX7_tallyFitting_25 : decode cX7_tallyFitting 25 = .ok (.getfield 43, 3) := by decide +kernel
theorem dX7_tallyFitting_28 : decode cX7_tallyFitting 28 = .ok (.aload_n 0, 1) := by decide +kernel
theorem dX7_tallyFitting_29 : decode cX7_tallyFitting 29 = .ok (.getfield 19, 3) := by decide +kernel
theorem dX7_tallyFitting_32 : decode cX7_tallyFitting 32 = .ok (.iconst 0, 1) := by decide +kernel
theorem dX7_tallyFitting_33 : decode cX7_tallyFitting 33 = .ok (.invokevirtual 256, 3) := by decide +kernel
theorem dX7_tallyFitting_36 : decode cX7_tallyFitting 36 = .ok (.istore_n 1, 1) := by decide +kernel
theorem dX7_tallyFitting_37 : decode cX7_tallyFitting 37 = .ok (.iconst 0, 1) := by decide +kernel
theorem dX7_tallyFitting_38 : decode cX7_tallyFitting 38 = .ok (.istore_n 2, 1) := by decide +kernel
theorem dX7_tallyFitting_39 : decode cX7_tallyFitting 39 = .ok (.iload_n 1, 1) := by decide +kernel
theorem dX7_tallyFitting_40 : decode cX7_tallyFitting 40 = .ok (.ifCond .eq 65, 3) := by decide +kernel
theorem dX7_tallyFitting_43 : decode cX7_tallyFitting 43 = .ok (.iload_n 2, 1) := by decide +kernel
theorem dX7_tallyFitting_44 : decode cX7_tallyFitting 44 = .ok (.bipush 100, 2) := by decide +kernel
theorem dX7_tallyFitting_46 : decode cX7_tallyFitting 46 = .ok (.if_icmp .ge 59, 3) := by decide +kernel
theorem dX7_tallyFitting_49 : decode cX7_tallyFitting 49 = .ok (.iconst 0, 1) := by decide +kernel
theorem dX7_tallyFitting_50 : decode cX7_tallyFitting 50 = .ok (.istore_n 3, 1) := by decide +kernel
theorem dX7_tallyFitting_51 : decode cX7_tallyFitting 51 = .ok (.iload_n 3, 1) := by decide +kernel
theorem dX7_tallyFitting_52 : decode cX7_tallyFitting 52 = .ok (.aload_n 0, 1) := by decide +kernel
theorem dX7_tallyFitting_53 : decode cX7_tallyFitting 53 = .ok (.getfield 49, 3) := by decide +kernel
theorem dX7_tallyFitting_56 : decode cX7_tallyFitting 56 = .ok (.arraylength, 1) := by decide +kernel
theorem dX7_tallyFitting_57 : decode cX7_tallyFitting 57 = .ok (.if_icmp .ge 30, 3) := by decide +kernel
theorem dX7_tallyFitting_60 : decode cX7_tallyFitting 60 = .ok (.aload_n 0, 1) := by decide +kernel
theorem dX7_tallyFitting_61 : decode cX7_tallyFitting 61 = .ok (.getfield 49, 3) := by decide +kernel
theorem dX7_tallyFitting_64 : decode cX7_tallyFitting 64 = .ok (.iload_n 3, 1) := by decide +kernel
theorem dX7_tallyFitting_65 : decode cX7_tallyFitting 65 = .ok (.dup2, 1) := by decide +kernel
theorem dX7_tallyFitting_66 : decode cX7_tallyFitting 66 = .ok (.iaload, 1) := by decide +kernel
theorem dX7_tallyFitting_67 : decode cX7_tallyFitting 67 = .ok (.aload_n 0, 1) := by decide +kernel
theorem dX7_tallyFitting_68 : decode cX7_tallyFitting 68 = .ok (.getfield 43, 3) := by decide +kernel
theorem dX7_tallyFitting_71 : decode cX7_tallyFitting 71 = .ok (.invokevirtual 262, 3) := by decide +kernel
theorem dX7_tallyFitting_74 : decode cX7_tallyFitting 74 = .ok (.iload_n 3, 1) := by decide +kernel
theorem dX7_tallyFitting_75 : decode cX7_tallyFitting 75 = .ok (.lushr, 1) := by decide +kernel
theorem dX7_tallyFitting_76 : decode cX7_tallyFitting 76 = .ok (.l2i, 1) := by decide +kernel
theorem dX7_tallyFitting_77 : decode cX7_tallyFitting 77 = .ok (.iconst 1, 1) := by decide +kernel
theorem dX7_tallyFitting_78 : decode cX7_tallyFitting 78 = .ok (.iand, 1) := by decide +kernel
theorem dX7_tallyFitting_79 : decode cX7_tallyFitting 79 = .ok (.iadd, 1) := by decide +kernel
theorem dX7_tallyFitting_80 : decode cX7_tallyFitting 80 = .ok (.iastore, 1) := by decide +kernel
theorem dX7_tallyFitting_81 : decode cX7_tallyFitting 81 = .ok (.iinc 3 1, 3) := by decide +kernel
theorem dX7_tallyFitting_84 : decode cX7_tallyFitting 84 = .ok (.goto (-33), 3) := by decide +kernel
theorem dX7_tallyFitting_87 : decode cX7_tallyFitting 87 = .ok (.aload_n 0, 1) := by decide +kernel
theorem dX7_tallyFitting_88 : decode cX7_tallyFitting 88 = .ok (.getfield 43, 3) := by decide +kernel
theorem dX7_tallyFitting_91 : decode cX7_tallyFitting 91 = .ok (.aload_n 0, 1) := by decide +kernel
theorem dX7_tallyFitting_92 : decode cX7_tallyFitting 92 = .ok (.getfield 19, 3) := by decide +kernel
theorem dX7_tallyFitting_95 : decode cX7_tallyFitting 95 = .ok (.invokevirtual 349, 3) := by decide +kernel
theorem dX7_tallyFitting_98 : decode cX7_tallyFitting 98 = .ok (.istore_n 1, 1) := by decide +kernel
theorem dX7_tallyFitting_99 : decode cX7_tallyFitting 99 = .ok (.iinc 2 1, 3) := by decide +kernel
theorem dX7_tallyFitting_102 : decode cX7_tallyFitting 102 = .ok (.goto (-63), 3) := by decide +kernel
theorem dX7_tallyFitting_105 : decode cX7_tallyFitting 105 = .ok (.return_, 1) := by decide +kernel
theorem dX7_bestParted_0 : decode cX7_bestParted 0 = .ok (.bipush (-9), 2) := by decide +kernel
theorem dX7_bestParted_2 : decode cX7_bestParted 2 = .ok (.istore_n 2, 1) := by decide +kernel
theorem dX7_bestParted_3 : decode cX7_bestParted 3 = .ok (.iconst 0, 1) := by decide +kernel
theorem dX7_bestParted_4 : decode cX7_bestParted 4 = .ok (.istore_n 3, 1) := by decide +kernel
theorem dX7_bestParted_5 : decode cX7_bestParted 5 = .ok (.iconst 0, 1) := by decide +kernel
theorem dX7_bestParted_6 : decode cX7_bestParted 6 = .ok (.istore 4, 2) := by decide +kernel
theorem dX7_bestParted_8 : decode cX7_bestParted 8 = .ok (.iload 4, 2) := by decide +kernel
theorem dX7_bestParted_10 : decode cX7_bestParted 10 = .ok (.aload_n 0, 1) := by decide +kernel
theorem dX7_bestParted_11 : decode cX7_bestParted 11 = .ok (.getfield 49, 3) := by decide +kernel
theorem dX7_bestParted_14 : decode cX7_bestParted 14 = .ok (.arraylength, 1) := by decide +kernel
theorem dX7_bestParted_15 : decode cX7_bestParted 15 = .ok (.if_icmp .ge 45, 3) := by decide +kernel
theorem dX7_bestParted_18 : decode cX7_bestParted 18 = .ok (.aload_n 0, 1) := by decide +kernel
theorem dX7_bestParted_19 : decode cX7_bestParted 19 = .ok (.getfield 49, 3) := by decide +kernel
theorem dX7_bestParted_22 : decode cX7_bestParted 22 = .ok (.iload 4, 2) := by decide +kernel
theorem dX7_bestParted_24 : decode cX7_bestParted 24 = .ok (.iaload, 1) := by decide +kernel
theorem dX7_bestParted_25 : decode cX7_bestParted 25 = .ok (.iload_n 1, 1) := by decide +kernel
theorem dX7_bestParted_26 : decode cX7_bestParted 26 = .ok (.aload_n 0, 1) := by decide +kernel
theorem dX7_bestParted_27 : decode cX7_bestParted 27 = .ok (.getfield 49, 3) := by decide +kernel
theorem dX7_bestParted_30 : decode cX7_bestParted 30 = .ok (.iload 4, 2) := by decide +kernel
theorem dX7_bestParted_32 : decode cX7_bestParted 32 = .ok (.iaload, 1) := by decide +kernel
theorem dX7_bestParted_33 : decode cX7_bestParted 33 = .ok (.isub, 1) := by decide +kernel
theorem dX7_bestParted_34 : decode cX7_bestParted 34 = .ok (.invokestatic 352, 3) := by decide +kernel
theorem dX7_bestParted_37 : decode cX7_bestParted 37 = .ok (.istore 5, 2) := by decide +kernel
theorem dX7_bestParted_39 : decode cX7_bestParted 39 = .ok (.iload 5, 2) := by decide +kernel
theorem dX7_bestParted_41 : decode cX7_bestParted 41 = .ok (.iload_n 3, 1) := by decide +kernel
theorem dX7_bestParted_42 : decode cX7_bestParted 42 = .ok (.if_icmp .le 12, 3) := by decide +kernel
theorem dX7_bestParted_45 : decode cX7_bestParted 45 = .ok (.iload 5, 2) := by decide +kernel
theorem dX7_bestParted_47 : decode cX7_bestParted 47 = .ok (.istore_n 3, 1) := by decide +kernel
theorem dX7_bestParted_48 : decode cX7_bestParted 48 = .ok (.iload 4, 2) := by decide +kernel
theorem dX7_bestParted_50 : decode cX7_bestParted 50 = .ok (.invokestatic 202, 3) := by decide +kernel
theorem dX7_bestParted_53 : decode cX7_bestParted 53 = .ok (.istore_n 2, 1) := by decide +kernel
theorem dX7_bestParted_54 : decode cX7_bestParted 54 = .ok (.iinc 4 1, 3) := by decide +kernel
theorem dX7_bestParted_57 : decode cX7_bestParted 57 = .ok (.goto (-49), 3) := by decide +kernel
theorem dX7_bestParted_60 : decode cX7_bestParted 60 = .ok (.iload_n 2, 1) := by decide +kernel
theorem dX7_bestParted_61 : decode cX7_bestParted 61 = .ok (.ireturn, 1) := by decide +kernel
theorem dX7_leastDistance_0 : decode cX7_leastDistance 0 = .ok (.bipush 48, 2) := by decide +kernel
theorem dX7_leastDistance_2 : decode cX7_leastDistance 2 = .ok (.istore_n 1, 1) := by decide +kernel
theorem dX7_leastDistance_3 : decode cX7_leastDistance 3 = .ok (.aload_n 0, 1) := by decide +kernel
theorem dX7_leastDistance_4 : decode cX7_leastDistance 4 = .ok (.getfield 43, 3) := by decide +kernel
theorem dX7_leastDistance_7 : decode cX7_leastDistance 7 = .ok (.aload_n 0, 1) := by decide +kernel
theorem dX7_leastDistance_8 : decode cX7_leastDistance 8 = .ok (.getfield 19, 3) := by decide +kernel
theorem dX7_leastDistance_11 : decode cX7_leastDistance 11 = .ok (.iconst 0, 1) := by decide +kernel
theorem dX7_leastDistance_12 : decode cX7_leastDistance 12 = .ok (.invokevirtual 256, 3) := by decide +kernel
theorem dX7_leastDistance_15 : decode cX7_leastDistance 15 = .ok (.istore_n 2, 1) := by decide +kernel
theorem dX7_leastDistance_16 : decode cX7_leastDistance 16 = .ok (.iconst 0, 1) := by decide +kernel
theorem dX7_leastDistance_17 : decode cX7_leastDistance 17 = .ok (.istore_n 3, 1) := by decide +kernel
theorem dX7_leastDistance_18 : decode cX7_leastDistance 18 = .ok (.iload_n 2, 1) := by decide +kernel
theorem dX7_leastDistance_19 : decode cX7_leastDistance 19 = .ok (.ifCond .eq 50, 3) := by decide +kernel
theorem dX7_leastDistance_22 : decode cX7_leastDistance 22 = .ok (.iload_n 3, 1) := by decide +kernel
theorem dX7_leastDistance_23 : decode cX7_leastDistance 23 = .ok (.bipush 100, 2) := by decide +kernel
theorem dX7_leastDistance_25 : decode cX7_leastDistance 25 = .ok (.if_icmp .ge 44, 3) := by decide +kernel
theorem dX7_leastDistance_28 : decode cX7_leastDistance 28 = .ok (.iload_n 1, 1) := by decide +kernel
theorem dX7_leastDistance_29 : decode cX7_leastDistance 29 = .ok (.aload_n 0, 1) := by decide +kernel
theorem dX7_leastDistance_30 : decode cX7_leastDistance 30 = .ok (.getfield 43, 3) := by decide +kernel
theorem dX7_leastDistance_33 : decode cX7_leastDistance 33 = .ok (.invokevirtual 262, 3) := by decide +kernel
theorem dX7_leastDistance_36 : decode cX7_leastDistance 36 = .ok (.aload_n 0, 1) := by decide +kernel
theorem dX7_leastDistance_37 : decode cX7_leastDistance 37 = .ok (.getfield 19, 3) := by decide +kernel
theorem dX7_leastDistance_40 : decode cX7_leastDistance 40 = .ok (.getfield 119, 3) := by decide +kernel
theorem dX7_leastDistance_43 : decode cX7_leastDistance 43 = .ok (.lxor, 1) := by decide +kernel
theorem dX7_leastDistance_44 : decode cX7_leastDistance 44 = .ok (.invokestatic 104, 3) := by decide +kernel
theorem dX7_leastDistance_47 : decode cX7_leastDistance 47 = .ok (.invokestatic 352, 3) := by decide +kernel
theorem dX7_leastDistance_50 : decode cX7_leastDistance 50 = .ok (.istore_n 1, 1) := by decide +kernel
theorem dX7_leastDistance_51 : decode cX7_leastDistance 51 = .ok (.aload_n 0, 1) := by decide +kernel
theorem dX7_leastDistance_52 : decode cX7_leastDistance 52 = .ok (.getfield 43, 3) := by decide +kernel
theorem dX7_leastDistance_55 : decode cX7_leastDistance 55 = .ok (.aload_n 0, 1) := by decide +kernel
theorem dX7_leastDistance_56 : decode cX7_leastDistance 56 = .ok (.getfield 19, 3) := by decide +kernel
theorem dX7_leastDistance_59 : decode cX7_leastDistance 59 = .ok (.invokevirtual 349, 3) := by decide +kernel
theorem dX7_leastDistance_62 : decode cX7_leastDistance 62 = .ok (.istore_n 2, 1) := by decide +kernel
theorem dX7_leastDistance_63 : decode cX7_leastDistance 63 = .ok (.iinc 3 1, 3) := by decide +kernel
theorem dX7_leastDistance_66 : decode cX7_leastDistance 66 = .ok (.goto (-48), 3) := by decide +kernel
theorem dX7_leastDistance_69 : decode cX7_leastDistance 69 = .ok (.iload_n 1, 1) := by decide +kernel
theorem dX7_leastDistance_70 : decode cX7_leastDistance 70 = .ok (.ireturn, 1) := by decide +kernel
theorem dX7_succeeds_0 : decode cX7_succeeds 0 = .ok (.iload_n 1, 1) := by decide +kernel
theorem dX7_succeeds_1 : decode cX7_succeeds 1 = .ok (.bipush 100, 2) := by decide +kernel
theorem dX7_succeeds_3 : decode cX7_succeeds 3 = .ok (.idiv, 1) := by decide +kernel
theorem dX7_succeeds_4 : decode cX7_succeeds 4 = .ok (.bipush 10, 2) := by decide +kernel
theorem dX7_succeeds_6 : decode cX7_succeeds 6 = .ok (.irem, 1) := by decide +kernel
theorem dX7_succeeds_7 : decode cX7_succeeds 7 = .ok (.istore_n 2, 1) := by decide +kernel
theorem dX7_succeeds_8 : decode cX7_succeeds 8 = .ok (.iload_n 1, 1) := by decide +kernel
theorem dX7_succeeds_9 : decode cX7_succeeds 9 = .ok (.bipush 10, 2) := by decide +kernel
theorem dX7_succeeds_11 : decode cX7_succeeds 11 = .ok (.idiv, 1) := by decide +kernel
theorem dX7_succeeds_12 : decode cX7_succeeds 12 = .ok (.bipush 10, 2) := by decide +kernel
theorem dX7_succeeds_14 : decode cX7_succeeds 14 = .ok (.irem, 1) := by decide +kernel
theorem dX7_succeeds_15 : decode cX7_succeeds 15 = .ok (.istore_n 3, 1) := by decide +kernel
theorem dX7_succeeds_16 : decode cX7_succeeds 16 = .ok (.iload_n 1, 1) := by decide +kernel
theorem dX7_succeeds_17 : decode cX7_succeeds 17 = .ok (.bipush 10, 2) := by decide +kernel
theorem dX7_succeeds_19 : decode cX7_succeeds 19 = .ok (.irem, 1) := by decide +kernel
theorem dX7_succeeds_20 : decode cX7_succeeds 20 = .ok (.istore 4, 2) := by decide +kernel
theorem dX7_succeeds_22 : decode cX7_succeeds 22 = .ok (.iload_n 1, 1) := by decide +kernel
theorem dX7_succeeds_23 : decode cX7_succeeds 23 = .ok (.sipush 1000, 3) := by decide +kernel
theorem dX7_succeeds_26 : decode cX7_succeeds 26 = .ok (.idiv, 1) := by decide +kernel
theorem dX7_succeeds_27 : decode cX7_succeeds 27 = .ok (.tableswitch 273 1 9 #[49, 58, 67, 80, 127, 149, 182, 212, 249], 49) := by decide +kernel
theorem dX7_succeeds_76 : decode cX7_succeeds 76 = .ok (.aload_n 0, 1) := by decide +kernel
theorem dX7_succeeds_77 : decode cX7_succeeds 77 = .ok (.iload_n 2, 1) := by decide +kernel
theorem dX7_succeeds_78 : decode cX7_succeeds 78 = .ok (.iload_n 3, 1) := by decide +kernel
theorem dX7_succeeds_79 : decode cX7_succeeds 79 = .ok (.iload 4, 2) := by decide +kernel
theorem dX7_succeeds_81 : decode cX7_succeeds 81 = .ok (.invokevirtual 357, 3) := by decide +kernel
theorem dX7_succeeds_84 : decode cX7_succeeds 84 = .ok (.ireturn, 1) := by decide +kernel
theorem dX7_succeeds_85 : decode cX7_succeeds 85 = .ok (.aload_n 0, 1) := by decide +kernel
theorem dX7_succeeds_86 : decode cX7_succeeds 86 = .ok (.iload_n 2, 1) := by decide +kernel
theorem dX7_succeeds_87 : decode cX7_succeeds 87 = .ok (.iload_n 3, 1) := by decide +kernel
theorem dX7_succeeds_88 : decode cX7_succeeds 88 = .ok (.iload 4, 2) := by decide +kernel
theorem dX7_succeeds_90 : decode cX7_succeeds 90 = .ok (.invokevirtual 361, 3) := by decide +kernel
theorem dX7_succeeds_93 : decode cX7_succeeds 93 = .ok (.ireturn, 1) := by decide +kernel
theorem dX7_succeeds_94 : decode cX7_succeeds 94 = .ok (.aload_n 0, 1) := by decide +kernel
theorem dX7_succeeds_95 : decode cX7_succeeds 95 = .ok (.bipush 10, 2) := by decide +kernel
theorem dX7_succeeds_97 : decode cX7_succeeds 97 = .ok (.iload_n 2, 1) := by decide +kernel
theorem dX7_succeeds_98 : decode cX7_succeeds 98 = .ok (.imul, 1) := by decide +kernel
theorem dX7_succeeds_99 : decode cX7_succeeds 99 = .ok (.iload_n 3, 1) := by decide +kernel
theorem dX7_succeeds_100 : decode cX7_succeeds 100 = .ok (.iadd, 1) := by decide +kernel
theorem dX7_succeeds_101 : decode cX7_succeeds 101 = .ok (.iload 4, 2) := by decide +kernel
theorem dX7_succeeds_103 : decode cX7_succeeds 103 = .ok (.invokevirtual 364, 3) := by decide +kernel
theorem dX7_succeeds_106 : decode cX7_succeeds 106 = .ok (.ireturn, 1) := by decide +kernel
theorem dX7_succeeds_107 : decode cX7_succeeds 107 = .ok (.iload_n 2, 1) := by decide +kernel
theorem dX7_succeeds_108 : decode cX7_succeeds 108 = .ok (.iload_n 3, 1) := by decide +kernel
theorem dX7_succeeds_109 : decode cX7_succeeds 109 = .ok (.iadd, 1) := by decide +kernel
theorem dX7_succeeds_110 : decode cX7_succeeds 110 = .ok (.ifCond .ne 42, 3) := by decide +kernel
theorem dX7_succeeds_113 : decode cX7_succeeds 113 = .ok (.iload 4, 2) := by decide +kernel
theorem dX7_succeeds_115 : decode cX7_succeeds 115 = .ok (.iconst 1, 1) := by decide +kernel
theorem dX7_succeeds_116 : decode cX7_succeeds 116 = .ok (.if_icmp .gt 36, 3) := by decide +kernel
theorem dX7_succeeds_119 : decode cX7_succeeds 119 = .ok (.aload_n 0, 1) := by decide +kernel
theorem dX7_succeeds_120 : decode cX7_succeeds 120 = .ok (.aload_n 0, 1) := by decide +kernel
theorem dX7_succeeds_121 : decode cX7_succeeds 121 = .ok (.getfield 43, 3) := by decide +kernel
theorem dX7_succeeds_124 : decode cX7_succeeds 124 = .ok (.aload_n 0, 1) := by decide +kernel
theorem dX7_succeeds_125 : decode cX7_succeeds 125 = .ok (.getfield 23, 3) := by decide +kernel
theorem dX7_succeeds_128 : decode cX7_succeeds 128 = .ok (.iload 4, 2) := by decide +kernel
theorem dX7_succeeds_130 : decode cX7_succeeds 130 = .ok (.iconst 1, 1) := by decide +kernel
theorem dX7_succeeds_131 : decode cX7_succeeds 131 = .ok (.if_icmp .ne 7, 3) := by decide +kernel
theorem dX7_succeeds_134 : decode cX7_succeeds 134 = .ok (.iconst 1, 1) := by decide +kernel
theorem dX7_succeeds_135 : decode cX7_succeeds 135 = .ok (.goto 4, 3) := by decide +kernel
theorem dX7_succeeds_138 : decode cX7_succeeds 138 = .ok (.iconst 0, 1) := by decide +kernel
theorem dX7_succeeds_139 : decode cX7_succeeds 139 = .ok (.invokevirtual 256, 3) := by decide +kernel
theorem dX7_succeeds_142 : decode cX7_succeeds 142 = .ok (.invokevirtual 367, 3) := by decide +kernel
theorem dX7_succeeds_145 : decode cX7_succeeds 145 = .ok (.ifCond .eq 7, 3) := by decide +kernel
theorem dX7_succeeds_148 : decode cX7_succeeds 148 = .ok (.iconst 1, 1) := by decide +kernel
theorem dX7_succeeds_149 : decode cX7_succeeds 149 = .ok (.goto 4, 3) := by decide +kernel
theorem dX7_succeeds_152 : decode cX7_succeeds 152 = .ok (.iconst 0, 1) := by decide +kernel
theorem dX7_succeeds_153 : decode cX7_succeeds 153 = .ok (.ireturn, 1) := by decide +kernel
theorem dX7_succeeds_154 : decode cX7_succeeds 154 = .ok (.iload_n 2, 1) := by decide +kernel
theorem dX7_succeeds_155 : decode cX7_succeeds 155 = .ok (.iload_n 3, 1) := by decide +kernel
theorem dX7_succeeds_156 : decode cX7_succeeds 156 = .ok (.iadd, 1) := by decide +kernel
theorem dX7_succeeds_157 : decode cX7_succeeds 157 = .ok (.iload 4, 2) := by decide +kernel
theorem dX7_succeeds_159 : decode cX7_succeeds 159 = .ok (.iadd, 1) := by decide +kernel
theorem dX7_succeeds_160 : decode cX7_succeeds 160 = .ok (.ifCond .ne 14, 3) := by decide +kernel
theorem dX7_succeeds_163 : decode cX7_succeeds 163 = .ok (.aload_n 0, 1) := by decide +kernel
theorem dX7_succeeds_164 : decode cX7_succeeds 164 = .ok (.invokevirtual 371, 3) := by decide +kernel
theorem dX7_succeeds_167 : decode cX7_succeeds 167 = .ok (.ifCond .eq 7, 3) := by decide +kernel
theorem dX7_succeeds_170 : decode cX7_succeeds 170 = .ok (.iconst 1, 1) := by decide +kernel
theorem dX7_succeeds_171 : decode cX7_succeeds 171 = .ok (.goto 4, 3) := by decide +kernel
theorem dX7_succeeds_174 : decode cX7_succeeds 174 = .ok (.iconst 0, 1) := by decide +kernel
theorem dX7_succeeds_175 : decode cX7_succeeds 175 = .ok (.ireturn, 1) := by decide +kernel
theorem dX7_succeeds_176 : decode cX7_succeeds 176 = .ok (.iload_n 2, 1) := by decide +kernel
theorem dX7_succeeds_177 : decode cX7_succeeds 177 = .ok (.iload_n 3, 1) := by decide +kernel
theorem dX7_succeeds_178 : decode cX7_succeeds 178 = .ok (.iadd, 1) := by decide +kernel
theorem dX7_succeeds_179 : decode cX7_succeeds 179 = .ok (.iload 4, 2) := by decide +kernel
theorem dX7_succeeds_181 : decode cX7_succeeds 181 = .ok (.iadd, 1) := by decide +kernel
theorem dX7_succeeds_182 : decode cX7_succeeds 182 = .ok (.ifCond .ne 25, 3) := by decide +kernel
theorem dX7_succeeds_185 : decode cX7_succeeds 185 = .ok (.aload_n 0, 1) := by decide +kernel
theorem dX7_succeeds_186 : decode cX7_succeeds 186 = .ok (.aload_n 0, 1) := by decide +kernel
theorem dX7_succeeds_187 : decode cX7_succeeds 187 = .ok (.getfield 43, 3) := by decide +kernel
theorem dX7_succeeds_190 : decode cX7_succeeds 190 = .ok (.aload_n 0, 1) := by decide +kernel
theorem dX7_succeeds_191 : decode cX7_succeeds 191 = .ok (.getfield 23, 3) := by decide +kernel
theorem dX7_succeeds_194 : decode cX7_succeeds 194 = .ok (.invokevirtual 269, 3) := by decide +kernel
theorem dX7_succeeds_197 : decode cX7_succeeds 197 = .ok (.invokevirtual 367, 3) := by decide +kernel
theorem dX7_succeeds_200 : decode cX7_succeeds 200 = .ok (.ifCond .eq 7, 3) := by decide +kernel
theorem dX7_succeeds_203 : decode cX7_succeeds 203 = .ok (.iconst 1, 1) := by decide +kernel
theorem dX7_succeeds_204 : decode cX7_succeeds 204 = .ok (.goto 4, 3) := by decide +kernel
theorem dX7_succeeds_207 : decode cX7_succeeds 207 = .ok (.iconst 0, 1) := by decide +kernel
theorem dX7_succeeds_208 : decode cX7_succeeds 208 = .ok (.ireturn, 1) := by decide +kernel
theorem dX7_succeeds_209 : decode cX7_succeeds 209 = .ok (.iload_n 2, 1) := by decide +kernel
theorem dX7_succeeds_210 : decode cX7_succeeds 210 = .ok (.ifCond .ne 27, 3) := by decide +kernel
theorem dX7_succeeds_213 : decode cX7_succeeds 213 = .ok (.aload_n 0, 1) := by decide +kernel
theorem dX7_succeeds_214 : decode cX7_succeeds 214 = .ok (.getfield 23, 3) := by decide +kernel
theorem dX7_succeeds_217 : decode cX7_succeeds 217 = .ok (.getfield 119, 3) := by decide +kernel
theorem dX7_succeeds_220 : decode cX7_succeeds 220 = .ok (.invokestatic 122, 3) := by decide +kernel
theorem dX7_succeeds_223 : decode cX7_succeeds 223 = .ok (.bipush 10, 2) := by decide +kernel
theorem dX7_succeeds_225 : decode cX7_succeeds 225 = .ok (.iload_n 3, 1) := by decide +kernel
theorem dX7_succeeds_226 : decode cX7_succeeds 226 = .ok (.imul, 1) := by decide +kernel
theorem dX7_succeeds_227 : decode cX7_succeeds 227 = .ok (.iload 4, 2) := by decide +kernel
theorem dX7_succeeds_229 : decode cX7_succeeds 229 = .ok (.iadd, 1) := by decide +kernel
theorem dX7_succeeds_230 : decode cX7_succeeds 230 = .ok (.if_icmp .gt 7, 3) := by decide +kernel
theorem dX7_succeeds_233 : decode cX7_succeeds 233 = .ok (.iconst 1, 1) := by decide +kernel
theorem dX7_succeeds_234 : decode cX7_succeeds 234 = .ok (.goto 4, 3) := by decide +kernel
theorem dX7_succeeds_237 : decode cX7_succeeds 237 = .ok (.iconst 0, 1) := by decide +kernel
theorem dX7_succeeds_238 : decode cX7_succeeds 238 = .ok (.ireturn, 1) := by decide +kernel
theorem dX7_succeeds_239 : decode cX7_succeeds 239 = .ok (.iload_n 2, 1) := by decide +kernel
theorem dX7_succeeds_240 : decode cX7_succeeds 240 = .ok (.ifCond .ne 34, 3) := by decide +kernel
theorem dX7_succeeds_243 : decode cX7_succeeds 243 = .ok (.aload_n 0, 1) := by decide +kernel
theorem dX7_succeeds_244 : decode cX7_succeeds 244 = .ok (.getfield 23, 3) := by decide +kernel
theorem dX7_succeeds_247 : decode cX7_succeeds 247 = .ok (.getfield 119, 3) := by decide +kernel
theorem dX7_succeeds_250 : decode cX7_succeeds 250 = .ok (.aload_n 0, 1) := by decide +kernel
theorem dX7_succeeds_251 : decode cX7_succeeds 251 = .ok (.getfield 23, 3) := by decide +kernel
theorem dX7_succeeds_254 : decode cX7_succeeds 254 = .ok (.getfield 119, 3) := by decide +kernel
theorem dX7_succeeds_257 : decode cX7_succeeds 257 = .ok (.invokestatic 125, 3) := by decide +kernel
theorem dX7_succeeds_260 : decode cX7_succeeds 260 = .ok (.bipush 10, 2) := by decide +kernel
theorem dX7_succeeds_262 : decode cX7_succeeds 262 = .ok (.iload_n 3, 1) := by decide +kernel
theorem dX7_succeeds_263 : decode cX7_succeeds 263 = .ok (.imul, 1) := by decide +kernel
theorem dX7_succeeds_264 : decode cX7_succeeds 264 = .ok (.iload 4, 2) := by decide +kernel
theorem dX7_succeeds_266 : decode cX7_succeeds 266 = .ok (.iadd, 1) := by decide +kernel
theorem dX7_succeeds_267 : decode cX7_succeeds 267 = .ok (.if_icmp .gt 7, 3) := by decide +kernel
theorem dX7_succeeds_270 : decode cX7_succeeds 270 = .ok (.iconst 1, 1) := by decide +kernel
theorem dX7_succeeds_271 : decode cX7_succeeds 271 = .ok (.goto 4, 3) := by decide +kernel
theorem dX7_succeeds_274 : decode cX7_succeeds 274 = .ok (.iconst 0, 1) := by decide +kernel
theorem dX7_succeeds_275 : decode cX7_succeeds 275 = .ok (.ireturn, 1) := by decide +kernel
theorem dX7_succeeds_276 : decode cX7_succeeds 276 = .ok (.iload_n 2, 1) := by decide +kernel
theorem dX7_succeeds_277 : decode cX7_succeeds 277 = .ok (.iload_n 3, 1) := by decide +kernel
theorem dX7_succeeds_278 : decode cX7_succeeds 278 = .ok (.iadd, 1) := by decide +kernel
theorem dX7_succeeds_279 : decode cX7_succeeds 279 = .ok (.ifCond .ne 19, 3) := by decide +kernel
theorem dX7_succeeds_282 : decode cX7_succeeds 282 = .ok (.aload_n 0, 1) := by decide +kernel
theorem dX7_succeeds_283 : decode cX7_succeeds 283 = .ok (.getfield 23, 3) := by decide +kernel
theorem dX7_succeeds_286 : decode cX7_succeeds 286 = .ok (.invokevirtual 116, 3) := by decide +kernel
theorem dX7_succeeds_289 : decode cX7_succeeds 289 = .ok (.iload 4, 2) := by decide +kernel
theorem dX7_succeeds_291 : decode cX7_succeeds 291 = .ok (.if_icmp .gt 7, 3) := by decide +kernel
theorem dX7_succeeds_294 : decode cX7_succeeds 294 = .ok (.iconst 1, 1) := by decide +kernel
theorem dX7_succeeds_295 : decode cX7_succeeds 295 = .ok (.goto 4, 3) := by decide +kernel
theorem dX7_succeeds_298 : decode cX7_succeeds 298 = .ok (.iconst 0, 1) := by decide +kernel
theorem dX7_succeeds_299 : decode cX7_succeeds 299 = .ok (.ireturn, 1) := by decide +kernel
theorem dX7_succeeds_300 : decode cX7_succeeds 300 = .ok (.iconst 0, 1) := by decide +kernel
theorem dX7_succeeds_301 : decode cX7_succeeds 301 = .ok (.ireturn, 1) := by decide +kernel
theorem dX7_scriptFills_0 : decode cX7_scriptFills 0 = .ok (.iload_n 3, 1) := by decide +kernel
theorem dX7_scriptFills_1 : decode cX7_scriptFills 1 = .ok (.iconst 1, 1) := by decide +kernel
theorem dX7_scriptFills_2 : decode cX7_scriptFills 2 = .ok (.if_icmp .gt 27, 3) := by decide +kernel
theorem dX7_scriptFills_5 : decode cX7_scriptFills 5 = .ok (.aload_n 0, 1) := by decide +kernel
theorem dX7_scriptFills_6 : decode cX7_scriptFills 6 = .ok (.getfield 23, 3) := by decide +kernel
theorem dX7_scriptFills_9 : decode cX7_scriptFills 9 = .ok (.iload_n 1, 1) := by decide +kernel
theorem dX7_scriptFills_10 : decode cX7_scriptFills 10 = .ok (.iload_n 2, 1) := by decide +kernel
theorem dX7_scriptFills_11 : decode cX7_scriptFills 11 = .ok (.invokevirtual 342, 3) := by decide +kernel
theorem dX7_scriptFills_14 : decode cX7_scriptFills 14 = .ok (.ifCond .eq 15, 3) := by decide +kernel
theorem dX7_scriptFills_17 : decode cX7_scriptFills 17 = .ok (.aload_n 0, 1) := by decide +kernel
theorem dX7_scriptFills_18 : decode cX7_scriptFills 18 = .ok (.getfield 23, 3) := by decide +kernel
theorem dX7_scriptFills_21 : decode cX7_scriptFills 21 = .ok (.iload_n 1, 1) := by decide +kernel
theorem dX7_scriptFills_22 : decode cX7_scriptFills 22 = .ok (.iload_n 2, 1) := by decide +kernel
theorem dX7_scriptFills_23 : decode cX7_scriptFills 23 = .ok (.invokevirtual 220, 3) := by decide +kernel
theorem dX7_scriptFills_26 : decode cX7_scriptFills 26 = .ok (.ifCond .eq 5, 3) := by decide +kernel
theorem dX7_scriptFills_29 : decode cX7_scriptFills 29 = .ok (.iconst 0, 1) := by decide +kernel
theorem dX7_scriptFills_30 : decode cX7_scriptFills 30 = .ok (.ireturn, 1) := by decide +kernel
theorem dX7_scriptFills_31 : decode cX7_scriptFills 31 = .ok (.aload_n 0, 1) := by decide +kernel
theorem dX7_scriptFills_32 : decode cX7_scriptFills 32 = .ok (.getfield 23, 3) := by decide +kernel
theorem dX7_scriptFills_35 : decode cX7_scriptFills 35 = .ok (.iload_n 1, 1) := by decide +kernel
theorem dX7_scriptFills_36 : decode cX7_scriptFills 36 = .ok (.iload_n 2, 1) := by decide +kernel
theorem dX7_scriptFills_37 : decode cX7_scriptFills 37 = .ok (.iload_n 3, 1) := by decide +kernel
theorem dX7_scriptFills_38 : decode cX7_scriptFills 38 = .ok (.iconst 1, 1) := by decide +kernel
theorem dX7_scriptFills_39 : decode cX7_scriptFills 39 = .ok (.if_icmp .ne 7, 3) := by decide +kernel
theorem dX7_scriptFills_42 : decode cX7_scriptFills 42 = .ok (.iconst 1, 1) := by decide +kernel
theorem dX7_scriptFills_43 : decode cX7_scriptFills 43 = .ok (.goto 4, 3) := by decide +kernel
theorem dX7_scriptFills_46 : decode cX7_scriptFills 46 = .ok (.iconst 0, 1) := by decide +kernel
theorem dX7_scriptFills_47 : decode cX7_scriptFills 47 = .ok (.invokevirtual 226, 3) := by decide +kernel
theorem dX7_scriptFills_50 : decode cX7_scriptFills 50 = .ok (.pop, 1) := by decide +kernel
theorem dX7_scriptFills_51 : decode cX7_scriptFills 51 = .ok (.iconst 1, 1) := by decide +kernel
theorem dX7_scriptFills_52 : decode cX7_scriptFills 52 = .ok (.ireturn, 1) := by decide +kernel
theorem dX7_scriptPins_0 : decode cX7_scriptPins 0 = .ok (.iload_n 3, 1) := by decide +kernel
theorem dX7_scriptPins_1 : decode cX7_scriptPins 1 = .ok (.iconst 1, 1) := by decide +kernel
theorem dX7_scriptPins_2 : decode cX7_scriptPins 2 = .ok (.if_icmp .gt 15, 3) := by decide +kernel
theorem dX7_scriptPins_5 : decode cX7_scriptPins 5 = .ok (.aload_n 0, 1) := by decide +kernel
theorem dX7_scriptPins_6 : decode cX7_scriptPins 6 = .ok (.getfield 23, 3) := by decide +kernel
theorem dX7_scriptPins_9 : decode cX7_scriptPins 9 = .ok (.iload_n 1, 1) := by decide +kernel
theorem dX7_scriptPins_10 : decode cX7_scriptPins 10 = .ok (.iload_n 2, 1) := by decide +kernel
theorem dX7_scriptPins_11 : decode cX7_scriptPins 11 = .ok (.invokevirtual 342, 3) := by decide +kernel
theorem dX7_scriptPins_14 : decode cX7_scriptPins 14 = .ok (.ifCond .ne 5, 3) := by decide +kernel
theorem dX7_scriptPins_17 : decode cX7_scriptPins 17 = .ok (.iconst 0, 1) := by decide +kernel
theorem dX7_scriptPins_18 : decode cX7_scriptPins 18 = .ok (.ireturn, 1) := by decide +kernel
theorem dX7_scriptPins_19 : decode cX7_scriptPins 19 = .ok (.aload_n 0, 1) := by decide +kernel
theorem dX7_scriptPins_20 : decode cX7_scriptPins 20 = .ok (.getfield 23, 3) := by decide +kernel
theorem dX7_scriptPins_23 : decode cX7_scriptPins 23 = .ok (.iload_n 1, 1) := by decide +kernel
theorem dX7_scriptPins_24 : decode cX7_scriptPins 24 = .ok (.iload_n 2, 1) := by decide +kernel
theorem dX7_scriptPins_25 : decode cX7_scriptPins 25 = .ok (.iload_n 3, 1) := by decide +kernel
theorem dX7_scriptPins_26 : decode cX7_scriptPins 26 = .ok (.iconst 1, 1) := by decide +kernel
theorem dX7_scriptPins_27 : decode cX7_scriptPins 27 = .ok (.if_icmp .ne 7, 3) := by decide +kernel
theorem dX7_scriptPins_30 : decode cX7_scriptPins 30 = .ok (.iconst 1, 1) := by decide +kernel
theorem dX7_scriptPins_31 : decode cX7_scriptPins 31 = .ok (.goto 4, 3) := by decide +kernel
theorem dX7_scriptPins_34 : decode cX7_scriptPins 34 = .ok (.iconst 0, 1) := by decide +kernel
theorem dX7_scriptPins_35 : decode cX7_scriptPins 35 = .ok (.invokevirtual 230, 3) := by decide +kernel
theorem dX7_scriptPins_38 : decode cX7_scriptPins 38 = .ok (.pop, 1) := by decide +kernel
theorem dX7_scriptPins_39 : decode cX7_scriptPins 39 = .ok (.iconst 1, 1) := by decide +kernel
theorem dX7_scriptPins_40 : decode cX7_scriptPins 40 = .ok (.ireturn, 1) := by decide +kernel
theorem dX7_scriptWants_0 : decode cX7_scriptWants 0 = .ok (.iload_n 2, 1) := by decide +kernel
theorem dX7_scriptWants_1 : decode cX7_scriptWants 1 = .ok (.bipush 6, 2) := by decide +kernel
theorem dX7_scriptWants_3 : decode cX7_scriptWants 3 = .ok (.if_icmp .gt 14, 3) := by decide +kernel
theorem dX7_scriptWants_6 : decode cX7_scriptWants 6 = .ok (.aload_n 0, 1) := by decide +kernel
theorem dX7_scriptWants_7 : decode cX7_scriptWants 7 = .ok (.getfield 23, 3) := by decide +kernel
theorem dX7_scriptWants_10 : decode cX7_scriptWants 10 = .ok (.iload_n 1, 1) := by decide +kernel
theorem dX7_scriptWants_11 : decode cX7_scriptWants 11 = .ok (.invokevirtual 337, 3) := by decide +kernel
theorem dX7_scriptWants_14 : decode cX7_scriptWants 14 = .ok (.ifCond .ne 5, 3) := by decide +kernel
theorem dX7_scriptWants_17 : decode cX7_scriptWants 17 = .ok (.iconst 0, 1) := by decide +kernel
theorem dX7_scriptWants_18 : decode cX7_scriptWants 18 = .ok (.ireturn, 1) := by decide +kernel
theorem dX7_scriptWants_19 : decode cX7_scriptWants 19 = .ok (.aload_n 0, 1) := by decide +kernel
theorem dX7_scriptWants_20 : decode cX7_scriptWants 20 = .ok (.getfield 23, 3) := by decide +kernel
theorem dX7_scriptWants_23 : decode cX7_scriptWants 23 = .ok (.iload_n 1, 1) := by decide +kernel
theorem dX7_scriptWants_24 : decode cX7_scriptWants 24 = .ok (.iload_n 2, 1) := by decide +kernel
theorem dX7_scriptWants_25 : decode cX7_scriptWants 25 = .ok (.invokevirtual 235, 3) := by decide +kernel
theorem dX7_scriptWants_28 : decode cX7_scriptWants 28 = .ok (.pop, 1) := by decide +kernel
theorem dX7_scriptWants_29 : decode cX7_scriptWants 29 = .ok (.iconst 1, 1) := by decide +kernel
theorem dX7_scriptWants_30 : decode cX7_scriptWants 30 = .ok (.ireturn, 1) := by decide +kernel
theorem dX7_scriptTurns_0 : decode cX7_scriptTurns 0 = .ok (.aload_n 0, 1) := by decide +kernel
theorem dX7_scriptTurns_1 : decode cX7_scriptTurns 1 = .ok (.getfield 23, 3) := by decide +kernel
theorem dX7_scriptTurns_4 : decode cX7_scriptTurns 4 = .ok (.invokevirtual 275, 3) := by decide +kernel
theorem dX7_scriptTurns_7 : decode cX7_scriptTurns 7 = .ok (.iconst 1, 1) := by decide +kernel
theorem dX7_scriptTurns_8 : decode cX7_scriptTurns 8 = .ok (.ireturn, 1) := by decide +kernel
theorem dX7_refilled_0 : decode cX7_refilled 0 = .ok (.iload_n 1, 1) := by decide +kernel
theorem dX7_refilled_1 : decode cX7_refilled 1 = .ok (.ifCond .eq 18, 3) := by decide +kernel
theorem dX7_refilled_4 : decode cX7_refilled 4 = .ok (.aload_n 0, 1) := by decide +kernel
theorem dX7_refilled_5 : decode cX7_refilled 5 = .ok (.getfield 23, 3) := by decide +kernel
theorem dX7_refilled_8 : decode cX7_refilled 8 = .ok (.aload_n 0, 1) := by decide +kernel
theorem dX7_refilled_9 : decode cX7_refilled 9 = .ok (.getfield 43, 3) := by decide +kernel
theorem dX7_refilled_12 : decode cX7_refilled 12 = .ok (.invokevirtual 262, 3) := by decide +kernel
theorem dX7_refilled_15 : decode cX7_refilled 15 = .ok (.invokevirtual 266, 3) := by decide +kernel
theorem dX7_refilled_18 : decode cX7_refilled 18 = .ok (.pop, 1) := by decide +kernel
theorem dX7_refilled_19 : decode cX7_refilled 19 = .ok (.iload_n 1, 1) := by decide +kernel
theorem dX7_refilled_20 : decode cX7_refilled 20 = .ok (.ireturn, 1) := by decide +kernel
theorem dX8_init_0 : decode cX8_init 0 = .ok (.aload_n 0, 1) := by decide +kernel
theorem dX8_init_1 : decode cX8_init 1 = .ok (.invokespecial 1, 3) := by decide +kernel
theorem dX8_init_4 : decode cX8_init 4 = .ok (.aload_n 0, 1) := by decide +kernel
theorem dX8_init_5 : decode cX8_init 5 = .ok (.bipush 50, 2) := by decide +kernel
theorem dX8_init_7 : decode cX8_init 7 = .ok (.newarray .int, 2) := by decide +kernel
theorem dX8_init_9 : decode cX8_init 9 = .ok (.putfield 7, 3) := by decide +kernel
theorem dX8_init_12 : decode cX8_init 12 = .ok (.aload_n 0, 1) := by decide +kernel
theorem dX8_init_13 : decode cX8_init 13 = .ok (.sipush 700, 3) := by decide +kernel
theorem dX8_init_16 : decode cX8_init 16 = .ok (.newarray .int, 2) := by decide +kernel
theorem dX8_init_18 : decode cX8_init 18 = .ok (.putfield 13, 3) := by decide +kernel
theorem dX8_init_21 : decode cX8_init 21 = .ok (.aload_n 0, 1) := by decide +kernel
theorem dX8_init_22 : decode cX8_init 22 = .ok (.bipush 100, 2) := by decide +kernel
theorem dX8_init_24 : decode cX8_init 24 = .ok (.newarray .int, 2) := by decide +kernel
theorem dX8_init_26 : decode cX8_init 26 = .ok (.putfield 16, 3) := by decide +kernel
theorem dX8_init_29 : decode cX8_init 29 = .ok (.aload_n 0, 1) := by decide +kernel
theorem dX8_init_30 : decode cX8_init 30 = .ok (.bipush 50, 2) := by decide +kernel
theorem dX8_init_32 : decode cX8_init 32 = .ok (.newarray .int, 2) := by decide +kernel
theorem dX8_init_34 : decode cX8_init 34 = .ok (.putfield 19, 3) := by decide +kernel
theorem dX8_init_37 : decode cX8_init 37 = .ok (.aload_n 0, 1) := by decide +kernel
theorem dX8_init_38 : decode cX8_init 38 = .ok (.bipush 60, 2) := by decide +kernel
theorem dX8_init_40 : decode cX8_init 40 = .ok (.newarray .int, 2) := by decide +kernel
theorem dX8_init_42 : decode cX8_init 42 = .ok (.putfield 22, 3) := by decide +kernel
theorem dX8_init_45 : decode cX8_init 45 = .ok (.aload_n 0, 1) := by decide +kernel
theorem dX8_init_46 : decode cX8_init 46 = .ok (.bipush 36, 2) := by decide +kernel
theorem dX8_init_48 : decode cX8_init 48 = .ok (.newarray .int, 2) := by decide +kernel
theorem dX8_init_50 : decode cX8_init 50 = .ok (.putfield 25, 3) := by decide +kernel
theorem dX8_init_53 : decode cX8_init 53 = .ok (.aload_n 0, 1) := by decide +kernel
theorem dX8_init_54 : decode cX8_init 54 = .ok (.bipush 36, 2) := by decide +kernel
theorem dX8_init_56 : decode cX8_init 56 = .ok (.newarray .boolean, 2) := by decide +kernel
theorem dX8_init_58 : decode cX8_init 58 = .ok (.putfield 28, 3) := by decide +kernel
theorem dX8_init_61 : decode cX8_init 61 = .ok (.aload_n 0, 1) := by decide +kernel
theorem dX8_init_62 : decode cX8_init 62 = .ok (.bipush 36, 2) := by decide +kernel
theorem dX8_init_64 : decode cX8_init 64 = .ok (.newarray .int, 2) := by decide +kernel
theorem dX8_init_66 : decode cX8_init 66 = .ok (.putfield 32, 3) := by decide +kernel
theorem dX8_init_69 : decode cX8_init 69 = .ok (.aload_n 0, 1) := by decide +kernel
theorem dX8_init_70 : decode cX8_init 70 = .ok (.bipush 36, 2) := by decide +kernel
theorem dX8_init_72 : decode cX8_init 72 = .ok (.newarray .boolean, 2) := by decide +kernel
theorem dX8_init_74 : decode cX8_init 74 = .ok (.putfield 35, 3) := by decide +kernel
theorem dX8_init_77 : decode cX8_init 77 = .ok (.aload_n 0, 1) := by decide +kernel
theorem dX8_init_78 : decode cX8_init 78 = .ok (.bipush 6, 2) := by decide +kernel
theorem dX8_init_80 : decode cX8_init 80 = .ok (.newarray .int, 2) := by decide +kernel
theorem dX8_init_82 : decode cX8_init 82 = .ok (.putfield 38, 3) := by decide +kernel
theorem dX8_init_85 : decode cX8_init 85 = .ok (.aload_n 0, 1) := by decide +kernel
theorem dX8_init_86 : decode cX8_init 86 = .ok (.bipush 6, 2) := by decide +kernel
theorem dX8_init_88 : decode cX8_init 88 = .ok (.newarray .int, 2) := by decide +kernel
theorem dX8_init_90 : decode cX8_init 90 = .ok (.putfield 41, 3) := by decide +kernel
theorem dX8_init_93 : decode cX8_init 93 = .ok (.aload_n 0, 1) := by decide +kernel
theorem dX8_init_94 : decode cX8_init 94 = .ok (.bipush 6, 2) := by decide +kernel
theorem dX8_init_96 : decode cX8_init 96 = .ok (.newarray .int, 2) := by decide +kernel
theorem dX8_init_98 : decode cX8_init 98 = .ok (.putfield 44, 3) := by decide +kernel
theorem dX8_init_101 : decode cX8_init 101 = .ok (.aload_n 0, 1) := by decide +kernel
theorem dX8_init_102 : decode cX8_init 102 = .ok (.bipush 6, 2) := by decide +kernel
theorem dX8_init_104 : decode cX8_init 104 = .ok (.newarray .int, 2) := by decide +kernel
theorem dX8_init_106 : decode cX8_init 106 = .ok (.putfield 47, 3) := by decide +kernel
theorem dX8_init_109 : decode cX8_init 109 = .ok (.aload_n 0, 1) := by decide +kernel
theorem dX8_init_110 : decode cX8_init 110 = .ok (.bipush 6, 2) := by decide +kernel
theorem dX8_init_112 : decode cX8_init 112 = .ok (.newarray .int, 2) := by decide +kernel
theorem dX8_init_114 : decode cX8_init 114 = .ok (.putfield 50, 3) := by decide +kernel
theorem dX8_init_117 : decode cX8_init 117 = .ok (.aload_n 0, 1) := by decide +kernel
theorem dX8_init_118 : decode cX8_init 118 = .ok (.bipush 36, 2) := by decide +kernel
theorem dX8_init_120 : decode cX8_init 120 = .ok (.newarray .int, 2) := by decide +kernel
theorem dX8_init_122 : decode cX8_init 122 = .ok (.putfield 53, 3) := by decide +kernel
theorem dX8_init_125 : decode cX8_init 125 = .ok (.aload_n 0, 1) := by decide +kernel
theorem dX8_init_126 : decode cX8_init 126 = .ok (.bipush 36, 2) := by decide +kernel
theorem dX8_init_128 : decode cX8_init 128 = .ok (.newarray .int, 2) := by decide +kernel
theorem dX8_init_130 : decode cX8_init 130 = .ok (.putfield 56, 3) := by decide +kernel
theorem dX8_init_133 : decode cX8_init 133 = .ok (.aload_n 0, 1) := by decide +kernel
theorem dX8_init_134 : decode cX8_init 134 = .ok (.bipush 36, 2) := by decide +kernel
theorem dX8_init_136 : decode cX8_init 136 = .ok (.newarray .int, 2) := by decide +kernel
theorem dX8_init_138 : decode cX8_init 138 = .ok (.putfield 59, 3) := by decide +kernel
theorem dX8_init_141 : decode cX8_init 141 = .ok (.aload_n 0, 1) := by decide +kernel
theorem dX8_init_142 : decode cX8_init 142 = .ok (.bipush 50, 2) := by decide +kernel
theorem dX8_init_144 : decode cX8_init 144 = .ok (.newarray .int, 2) := by decide +kernel
theorem dX8_init_146 : decode cX8_init 146 = .ok (.putfield 62, 3) := by decide +kernel
theorem dX8_init_149 : decode cX8_init 149 = .ok (.aload_n 0, 1) := by decide +kernel
theorem dX8_init_150 : decode cX8_init 150 = .ok (.getfield 7, 3) := by decide +kernel
theorem dX8_init_153 : decode cX8_init 153 = .ok (.iconst 0, 1) := by decide +kernel
theorem dX8_init_154 : decode cX8_init 154 = .ok (.iconst 3, 1) := by decide +kernel
theorem dX8_init_155 : decode cX8_init 155 = .ok (.iastore, 1) := by decide +kernel
theorem dX8_init_156 : decode cX8_init 156 = .ok (.aload_n 0, 1) := by decide +kernel
theorem dX8_init_157 : decode cX8_init 157 = .ok (.getfield 7, 3) := by decide +kernel
theorem dX8_init_160 : decode cX8_init 160 = .ok (.iconst 1, 1) := by decide +kernel
theorem dX8_init_161 : decode cX8_init 161 = .ok (.iconst 3, 1) := by decide +kernel
theorem dX8_init_162 : decode cX8_init 162 = .ok (.iastore, 1) := by decide +kernel
theorem dX8_init_163 : decode cX8_init 163 = .ok (.return_, 1) := by decide +kernel
theorem dX8_thrown_0 : decode cX8_thrown 0 = .ok (.aload_n 0, 1) := by decide +kernel
theorem dX8_thrown_1 : decode cX8_thrown 1 = .ok (.getfield 65, 3) := by decide +kernel
theorem dX8_thrown_4 : decode cX8_thrown 4 = .ok (.ireturn, 1) := by decide +kernel
theorem dX8_in_0 : decode cX8_in 0 = .ok (.iload_n 0, 1) := by decide +kernel
theorem dX8_in_1 : decode cX8_in 1 = .ok (.iload_n 1, 1) := by decide +kernel
theorem dX8_in_2 : decode cX8_in 2 = .ok (.if_icmp .lt 12, 3) := by decide +kernel
theorem dX8_in_5 : decode cX8_in 5 = .ok (.iload_n 0, 1) := by decide +kernel
theorem dX8_in_6 : decode cX8_in 6 = .ok (.iload_n 2, 1) := by decide +kernel
theorem dX8_in_7 : decode cX8_in 7 = .ok (.if_icmp .gt 7, 3) := by decide +kernel
theorem dX8_in_10 : decode cX8_in 10 = .ok (.iconst 1, 1) := by decide +kernel
theorem dX8_in_11 : decode cX8_in 11 = .ok (.goto 4, 3) := by decide +kernel
theorem dX8_in_14 : decode cX8_in 14 = .ok (.iconst 0, 1) := by decide +kernel
theorem dX8_in_15 : decode cX8_in 15 = .ok (.ireturn, 1) := by decide +kernel
theorem dX8_copies_0 : decode cX8_copies 0 = .ok (.iconst 0, 1) := by decide +kernel
theorem dX8_copies_1 : decode cX8_copies 1 = .ok (.istore 4, 2) := by decide +kernel
theorem dX8_copies_3 : decode cX8_copies 3 = .ok (.iload 4, 2) := by decide +kernel
theorem dX8_copies_5 : decode cX8_copies 5 = .ok (.bipush 50, 2) := by decide +kernel
theorem dX8_copies_7 : decode cX8_copies 7 = .ok (.if_icmp .ge 21, 3) := by decide +kernel
theorem dX8_copies_10 : decode cX8_copies 10 = .ok (.aload_n 2, 1) := by decide +kernel
theorem dX8_copies_11 : decode cX8_copies 11 = .ok (.iload_n 3, 1) := by decide +kernel
theorem dX8_copies_12 : decode cX8_copies 12 = .ok (.iload 4, 2) := by decide +kernel
theorem dX8_copies_14 : decode cX8_copies 14 = .ok (.iadd, 1) := by decide +kernel
theorem dX8_copies_15 : decode cX8_copies 15 = .ok (.aload_n 0, 1) := by decide +kernel
theorem dX8_copies_16 : decode cX8_copies 16 = .ok (.iload_n 1, 1) := by decide +kernel
theorem dX8_copies_17 : decode cX8_copies 17 = .ok (.iload 4, 2) := by decide +kernel
theorem dX8_copies_19 : decode cX8_copies 19 = .ok (.iadd, 1) := by decide +kernel
theorem dX8_copies_20 : decode cX8_copies 20 = .ok (.iaload, 1) := by decide +kernel
theorem dX8_copies_21 : decode cX8_copies 21 = .ok (.iastore, 1) := by decide +kernel
theorem dX8_copies_22 : decode cX8_copies 22 = .ok (.iinc 4 1, 3) := by decide +kernel
theorem dX8_copies_25 : decode cX8_copies 25 = .ok (.goto (-22), 3) := by decide +kernel
theorem dX8_copies_28 : decode cX8_copies 28 = .ok (.return_, 1) := by decide +kernel
theorem dX8_remembers_0 : decode cX8_remembers 0 = .ok (.aload_n 0, 1) := by decide +kernel
theorem dX8_remembers_1 : decode cX8_remembers 1 = .ok (.getfield 69, 3) := by decide +kernel
theorem dX8_remembers_4 : decode cX8_remembers 4 = .ok (.bipush 14, 2) := by decide +kernel
theorem dX8_remembers_6 : decode cX8_remembers 6 = .ok (.if_icmp .ne 39, 3) := by decide +kernel
theorem dX8_remembers_9 : decode cX8_remembers 9 = .ok (.iconst 0, 1) := by decide +kernel
theorem dX8_remembers_10 : decode cX8_remembers 10 = .ok (.istore_n 1, 1) := by decide +kernel
theorem dX8_remembers_11 : decode cX8_remembers 11 = .ok (.iload_n 1, 1) := by decide +kernel
theorem dX8_remembers_12 : decode cX8_remembers 12 = .ok (.sipush 650, 3) := by decide +kernel
theorem dX8_remembers_15 : decode cX8_remembers 15 = .ok (.if_icmp .ge 24, 3) := by decide +kernel
theorem dX8_remembers_18 : decode cX8_remembers 18 = .ok (.aload_n 0, 1) := by decide +kernel
theorem dX8_remembers_19 : decode cX8_remembers 19 = .ok (.getfield 13, 3) := by decide +kernel
theorem dX8_remembers_22 : decode cX8_remembers 22 = .ok (.iload_n 1, 1) := by decide +kernel
theorem dX8_remembers_23 : decode cX8_remembers 23 = .ok (.aload_n 0, 1) := by decide +kernel
theorem dX8_remembers_24 : decode cX8_remembers 24 = .ok (.getfield 13, 3) := by decide +kernel
theorem dX8_remembers_27 : decode cX8_remembers 27 = .ok (.iload_n 1, 1) := by decide +kernel
theorem dX8_remembers_28 : decode cX8_remembers 28 = .ok (.bipush 50, 2) := by decide +kernel
theorem dX8_remembers_30 : decode cX8_remembers 30 = .ok (.iadd, 1) := by decide +kernel
theorem dX8_remembers_31 : decode cX8_remembers 31 = .ok (.iaload, 1) := by decide +kernel
theorem dX8_remembers_32 : decode cX8_remembers 32 = .ok (.iastore, 1) := by decide +kernel
theorem dX8_remembers_33 : decode cX8_remembers 33 = .ok (.iinc 1 1, 3) := by decide +kernel
theorem dX8_remembers_36 : decode cX8_remembers 36 = .ok (.goto (-25), 3) := by decide +kernel
theorem dX8_remembers_39 : decode cX8_remembers 39 = .ok (.aload_n 0, 1) := by decide +kernel
theorem dX8_remembers_40 : decode cX8_remembers 40 = .ok (.bipush 13, 2) := by decide +kernel
theorem dX8_remembers_42 : decode cX8_remembers 42 = .ok (.putfield 69, 3) := by decide +kernel
theorem dX8_remembers_45 : decode cX8_remembers 45 = .ok (.aload_n 0, 1) := by decide +kernel
theorem dX8_remembers_46 : decode cX8_remembers 46 = .ok (.getfield 7, 3) := by decide +kernel
theorem dX8_remembers_49 : decode cX8_remembers 49 = .ok (.iconst 0, 1) := by decide +kernel
theorem dX8_remembers_50 : decode cX8_remembers 50 = .ok (.aload_n 0, 1) := by decide +kernel
theorem dX8_remembers_51 : decode cX8_remembers 51 = .ok (.getfield 13, 3) := by decide +kernel
theorem dX8_remembers_54 : decode cX8_remembers 54 = .ok (.aload_n 0, 1) := by decide +kernel
theorem dX8_remembers_55 : decode cX8_remembers 55 = .ok (.getfield 69, 3) := by decide +kernel
theorem dX8_remembers_58 : decode cX8_remembers 58 = .ok (.bipush 50, 2) := by decide +kernel
theorem dX8_remembers_60 : decode cX8_remembers 60 = .ok (.imul, 1) := by decide +kernel
theorem dX8_remembers_61 : decode cX8_remembers 61 = .ok (.invokestatic 72, 3) := by decide +kernel
theorem dX8_remembers_64 : decode cX8_remembers 64 = .ok (.aload_n 0, 1) := by decide +kernel
theorem dX8_remembers_65 : decode cX8_remembers 65 = .ok (.dup, 1) := by decide +kernel
theorem dX8_remembers_66 : decode cX8_remembers 66 = .ok (.getfield 69, 3) := by decide +kernel
theorem dX8_remembers_69 : decode cX8_remembers 69 = .ok (.iconst 1, 1) := by decide +kernel
theorem dX8_remembers_70 : decode cX8_remembers 70 = .ok (.iadd, 1) := by decide +kernel
theorem dX8_remembers_71 : decode cX8_remembers 71 = .ok (.putfield 69, 3) := by decide +kernel
theorem dX8_remembers_74 : decode cX8_remembers 74 = .ok (.return_, 1) := by decide +kernel
theorem dX8_rows_0 : decode cX8_rows 0 = .ok (.aload_n 0, 1) := by decide +kernel
theorem dX8_rows_1 : decode cX8_rows 1 = .ok (.getfield 7, 3) := by decide +kernel
theorem dX8_rows_4 : decode cX8_rows 4 = .ok (.iconst 0, 1) := by decide +kernel
theorem dX8_rows_5 : decode cX8_rows 5 = .ok (.iaload, 1) := by decide +kernel
theorem dX8_rows_6 : decode cX8_rows 6 = .ok (.ireturn, 1) := by decide +kernel
theorem dX8_columns_0 : decode cX8_columns 0 = .ok (.aload_n 0, 1) := by decide +kernel
theorem dX8_columns_1 : decode cX8_columns 1 = .ok (.getfield 7, 3) := by decide +kernel
theorem dX8_columns_4 : decode cX8_columns 4 = .ok (.iconst 1, 1) := by decide +kernel
theorem dX8_columns_5 : decode cX8_columns 5 = .ok (.iaload, 1) := by decide +kernel
theorem dX8_columns_6 : decode cX8_columns 6 = .ok (.ireturn, 1) := by decide +kernel
theorem dX8_isCell_0 : decode cX8_isCell 0 = .ok (.iload_n 1, 1) := by decide +kernel
theorem dX8_isCell_1 : decode cX8_isCell 1 = .ok (.iconst 0, 1) := by decide +kernel
theorem dX8_isCell_2 : decode cX8_isCell 2 = .ok (.aload_n 0, 1) := by decide +kernel
theorem dX8_isCell_3 : decode cX8_isCell 3 = .ok (.invokevirtual 76, 3) := by decide +kernel
theorem dX8_isCell_6 : decode cX8_isCell 6 = .ok (.iconst 1, 1) := by decide +kernel
theorem dX8_isCell_7 : decode cX8_isCell 7 = .ok (.isub, 1) := by decide +kernel
theorem dX8_isCell_8 : decode cX8_isCell 8 = .ok (.invokestatic 80, 3) := by decide +kernel
theorem dX8_isCell_11 : decode cX8_isCell 11 = .ok (.ifCond .eq 21, 3) := by decide +kernel
theorem dX8_isCell_14 : decode cX8_isCell 14 = .ok (.iload_n 2, 1) := by decide +kernel
theorem dX8_isCell_15 : decode cX8_isCell 15 = .ok (.iconst 0, 1) := by decide +kernel
theorem dX8_isCell_16 : decode cX8_isCell 16 = .ok (.aload_n 0, 1) := by decide +kernel
theorem dX8_isCell_17 : decode cX8_isCell 17 = .ok (.invokevirtual 84, 3) := by decide +kernel
theorem dX8_isCell_20 : decode cX8_isCell 20 = .ok (.iconst 1, 1) := by decide +kernel
theorem dX8_isCell_21 : decode cX8_isCell 21 = .ok (.isub, 1) := by decide +kernel
theorem dX8_isCell_22 : decode cX8_isCell 22 = .ok (.invokestatic 80, 3) := by decide +kernel
theorem dX8_isCell_25 : decode cX8_isCell 25 = .ok (.ifCond .eq 7, 3) := by decide +kernel
theorem dX8_isCell_28 : decode cX8_isCell 28 = .ok (.iconst 1, 1) := by decide +kernel
theorem dX8_isCell_29 : decode cX8_isCell 29 = .ok (.goto 4, 3) := by decide +kernel
theorem dX8_isCell_32 : decode cX8_isCell 32 = .ok (.iconst 0, 1) := by decide +kernel
theorem dX8_isCell_33 : decode cX8_isCell 33 = .ok (.ireturn, 1) := by decide +kernel
theorem dX8_isFilled_0 : decode cX8_isFilled 0 = .ok (.aload_n 0, 1) := by decide +kernel
theorem dX8_isFilled_1 : decode cX8_isFilled 1 = .ok (.getfield 7, 3) := by decide +kernel
theorem dX8_isFilled_4 : decode cX8_isFilled 4 = .ok (.iconst 2, 1) := by decide +kernel
theorem dX8_isFilled_5 : decode cX8_isFilled 5 = .ok (.bipush 6, 2) := by decide +kernel
theorem dX8_isFilled_7 : decode cX8_isFilled 7 = .ok (.iload_n 1, 1) := by decide +kernel
theorem dX8_isFilled_8 : decode cX8_isFilled 8 = .ok (.imul, 1) := by decide +kernel
theorem dX8_isFilled_9 : decode cX8_isFilled 9 = .ok (.iadd, 1) := by decide +kernel
theorem dX8_isFilled_10 : decode cX8_isFilled 10 = .ok (.iload_n 2, 1) := by decide +kernel
theorem dX8_isFilled_11 : decode cX8_isFilled 11 = .ok (.iadd, 1) := by decide +kernel
theorem dX8_isFilled_12 : decode cX8_isFilled 12 = .ok (.iaload, 1) := by decide +kernel
theorem dX8_isFilled_13 : decode cX8_isFilled 13 = .ok (.iconst 1, 1) := by decide +kernel
theorem dX8_isFilled_14 : decode cX8_isFilled 14 = .ok (.iand, 1) := by decide +kernel
theorem dX8_isFilled_15 : decode cX8_isFilled 15 = .ok (.iconst 1, 1) := by decide +kernel
theorem dX8_isFilled_16 : decode cX8_isFilled 16 = .ok (.if_icmp .ne 7, 3) := by decide +kernel
theorem dX8_isFilled_19 : decode cX8_isFilled 19 = .ok (.iconst 1, 1) := by decide +kernel
theorem dX8_isFilled_20 : decode cX8_isFilled 20 = .ok (.goto 4, 3) := by decide +kernel
theorem dX8_isFilled_23 : decode cX8_isFilled 23 = .ok (.iconst 0, 1) := by decide +kernel
theorem dX8_isFilled_24 : decode cX8_isFilled 24 = .ok (.ireturn, 1) := by decide +kernel
theorem dX8_isPinned_0 : decode cX8_isPinned 0 = .ok (.aload_n 0, 1) := by decide +kernel
theorem dX8_isPinned_1 : decode cX8_isPinned 1 = .ok (.getfield 7, 3) := by decide +kernel
theorem dX8_isPinned_4 : decode cX8_isPinned 4 = .ok (.iconst 2, 1) := by decide +kernel
theorem dX8_isPinned_5 : decode cX8_isPinned 5 = .ok (.bipush 6, 2) := by decide +kernel
theorem dX8_isPinned_7 : decode cX8_isPinned 7 = .ok (.iload_n 1, 1) := by decide +kernel
theorem dX8_isPinned_8 : decode cX8_isPinned 8 = .ok (.imul, 1) := by decide +kernel
theorem dX8_isPinned_9 : decode cX8_isPinned 9 = .ok (.iadd, 1) := by decide +kernel
theorem dX8_isPinned_10 : decode cX8_isPinned 10 = .ok (.iload_n 2, 1) := by decide +kernel
theorem dX8_isPinned_11 : decode cX8_isPinned 11 = .ok (.iadd, 1) := by decide +kernel
theorem dX8_isPinned_12 : decode cX8_isPinned 12 = .ok (.iaload, 1) := by decide +kernel
theorem dX8_isPinned_13 : decode cX8_isPinned 13 = .ok (.iconst 2, 1) := by decide +kernel
theorem dX8_isPinned_14 : decode cX8_isPinned 14 = .ok (.iand, 1) := by decide +kernel
theorem dX8_isPinned_15 : decode cX8_isPinned 15 = .ok (.iconst 2, 1) := by decide +kernel
theorem dX8_isPinned_16 : decode cX8_isPinned 16 = .ok (.if_icmp .ne 7, 3) := by decide +kernel
theorem dX8_isPinned_19 : decode cX8_isPinned 19 = .ok (.iconst 1, 1) := by decide +kernel
theorem dX8_isPinned_20 : decode cX8_isPinned 20 = .ok (.goto 4, 3) := by decide +kernel
theorem dX8_isPinned_23 : decode cX8_isPinned 23 = .ok (.iconst 0, 1) := by decide +kernel
theorem dX8_isPinned_24 : decode cX8_isPinned 24 = .ok (.ireturn, 1) := by decide +kernel
theorem dX8_fills_0 : decode cX8_fills 0 = .ok (.iconst 2, 1) := by decide +kernel
theorem dX8_fills_1 : decode cX8_fills 1 = .ok (.bipush 6, 2) := by decide +kernel
theorem dX8_fills_3 : decode cX8_fills 3 = .ok (.iload_n 1, 1) := by decide +kernel
theorem dX8_fills_4 : decode cX8_fills 4 = .ok (.imul, 1) := by decide +kernel
theorem dX8_fills_5 : decode cX8_fills 5 = .ok (.iadd, 1) := by decide +kernel
theorem dX8_fills_6 : decode cX8_fills 6 = .ok (.iload_n 2, 1) := by decide +kernel
theorem dX8_fills_7 : decode cX8_fills 7 = .ok (.iadd, 1) := by decide +kernel
theorem dX8_fills_8 : decode cX8_fills 8 = .ok (.istore 4, 2) := by decide +kernel
theorem dX8_fills_10 : decode cX8_fills 10 = .ok (.aload_n 0, 1) := by decide +kernel
theorem dX8_fills_11 : decode cX8_fills 11 = .ok (.getfield 7, 3) := by decide +kernel
theorem dX8_fills_14 : decode cX8_fills 14 = .ok (.iload 4, 2) := by decide +kernel
theorem dX8_fills_16 : decode cX8_fills 16 = .ok (.iload_n 3, 1) := by decide +kernel
theorem dX8_fills_17 : decode cX8_fills 17 = .ok (.ifCond .eq 15, 3) := by decide +kernel
theorem dX8_fills_20 : decode cX8_fills 20 = .ok (.aload_n 0, 1) := by decide +kernel
theorem dX8_fills_21 : decode cX8_fills 21 = .ok (.getfield 7, 3) := by decide +kernel
theorem dX8_fills_24 : decode cX8_fills 24 = .ok (.iload 4, 2) := by decide +kernel
theorem dX8_fills_26 : decode cX8_fills 26 = .ok (.iaload, 1) := by decide +kernel
theorem dX8_fills_27 : decode cX8_fills 27 = .ok (.iconst 1, 1) := by decide +kernel
theorem dX8_fills_28 : decode cX8_fills 28 = .ok (.ior, 1) := by decide +kernel
theorem dX8_fills_29 : decode cX8_fills 29 = .ok (.goto 12, 3) := by decide +kernel
theorem dX8_fills_32 : decode cX8_fills 32 = .ok (.aload_n 0, 1) := by decide +kernel
theorem dX8_fills_33 : decode cX8_fills 33 = .ok (.getfield 7, 3) := by decide +kernel
theorem dX8_fills_36 : decode cX8_fills 36 = .ok (.iload 4, 2) := by decide +kernel
theorem dX8_fills_38 : decode cX8_fills 38 = .ok (.iaload, 1) := by decide +kernel
theorem dX8_fills_39 : decode cX8_fills 39 = .ok (.iconst 2, 1) := by decide +kernel
theorem dX8_fills_40 : decode cX8_fills 40 = .ok (.iand, 1) := by decide +kernel
theorem dX8_fills_41 : decode cX8_fills 41 = .ok (.iastore, 1) := by decide +kernel
theorem dX8_fills_42 : decode cX8_fills 42 = .ok (.return_, 1) := by decide +kernel
theorem dX8_isLine_0 : decode cX8_isLine 0 = .ok (.iload_n 1, 1) := by decide +kernel
theorem dX8_isLine_1 : decode cX8_isLine 1 = .ok (.iconst 0, 1) := by decide +kernel
theorem dX8_isLine_2 : decode cX8_isLine 2 = .ok (.aload_n 0, 1) := by decide +kernel
theorem dX8_isLine_3 : decode cX8_isLine 3 = .ok (.invokevirtual 76, 3) := by decide +kernel
theorem dX8_isLine_6 : decode cX8_isLine 6 = .ok (.aload_n 0, 1) := by decide +kernel
theorem dX8_isLine_7 : decode cX8_isLine 7 = .ok (.invokevirtual 84, 3) := by decide +kernel
theorem dX8_isLine_10 : decode cX8_isLine 10 = .ok (.iadd, 1) := by decide +kernel
theorem dX8_isLine_11 : decode cX8_isLine 11 = .ok (.iconst 1, 1) := by decide +kernel
theorem dX8_isLine_12 : decode cX8_isLine 12 = .ok (.isub, 1) := by decide +kernel
theorem dX8_isLine_13 : decode cX8_isLine 13 = .ok (.invokestatic 80, 3) := by decide +kernel
theorem dX8_isLine_16 : decode cX8_isLine 16 = .ok (.ireturn, 1) := by decide +kernel
theorem dX8_wantAt_0 : decode cX8_wantAt 0 = .ok (.iload_n 1, 1) := by decide +kernel
theorem dX8_wantAt_1 : decode cX8_wantAt 1 = .ok (.aload_n 0, 1) := by decide +kernel
theorem dX8_wantAt_2 : decode cX8_wantAt 2 = .ok (.invokevirtual 76, 3) := by decide +kernel
theorem dX8_wantAt_5 : decode cX8_wantAt 5 = .ok (.if_icmp .ge 10, 3) := by decide +kernel
theorem dX8_wantAt_8 : decode cX8_wantAt 8 = .ok (.bipush 38, 2) := by decide +kernel
theorem dX8_wantAt_10 : decode cX8_wantAt 10 = .ok (.iload_n 1, 1) := by decide +kernel
theorem dX8_wantAt_11 : decode cX8_wantAt 11 = .ok (.iadd, 1) := by decide +kernel
theorem dX8_wantAt_12 : decode cX8_wantAt 12 = .ok (.goto 12, 3) := by decide +kernel
theorem dX8_wantAt_15 : decode cX8_wantAt 15 = .ok (.bipush 44, 2) := by decide +kernel
theorem dX8_wantAt_17 : decode cX8_wantAt 17 = .ok (.iload_n 1, 1) := by decide +kernel
theorem dX8_wantAt_18 : decode cX8_wantAt 18 = .ok (.iadd, 1) := by decide +kernel
theorem dX8_wantAt_19 : decode cX8_wantAt 19 = .ok (.aload_n 0, 1) := by decide +kernel
theorem dX8_wantAt_20 : decode cX8_wantAt 20 = .ok (.invokevirtual 76, 3) := by decide +kernel
theorem dX8_wantAt_23 : decode cX8_wantAt 23 = .ok (.isub, 1) := by decide +kernel
theorem dX8_wantAt_24 : decode cX8_wantAt 24 = .ok (.ireturn, 1) := by decide +kernel
theorem dX8_lengthOf_0 : decode cX8_lengthOf 0 = .ok (.iload_n 1, 1) := by decide +kernel
theorem dX8_lengthOf_1 : decode cX8_lengthOf 1 = .ok (.aload_n 0, 1) := by decide +kernel
theorem dX8_lengthOf_2 : decode cX8_lengthOf 2 = .ok (.invokevirtual 76, 3) := by decide +kernel
theorem dX8_lengthOf_5 : decode cX8_lengthOf 5 = .ok (.if_icmp .ge 10, 3) := by decide +kernel
theorem dX8_lengthOf_8 : decode cX8_lengthOf 8 = .ok (.aload_n 0, 1) := by decide +kernel
theorem dX8_lengthOf_9 : decode cX8_lengthOf 9 = .ok (.invokevirtual 84, 3) := by decide +kernel
theorem dX8_lengthOf_12 : decode cX8_lengthOf 12 = .ok (.goto 7, 3) := by decide +kernel
theorem dX8_lengthOf_15 : decode cX8_lengthOf 15 = .ok (.aload_n 0, 1) := by decide +kernel
theorem dX8_lengthOf_16 : decode cX8_lengthOf 16 = .ok (.invokevirtual 76, 3) := by decide +kernel
theorem dX8_lengthOf_19 : decode cX8_lengthOf 19 = .ok (.ireturn, 1) := by decide +kernel
theorem dX8_rowOf_0 : decode cX8_rowOf 0 = .ok (.iload_n 1, 1) := by decide +kernel
theorem dX8_rowOf_1 : decode cX8_rowOf 1 = .ok (.aload_n 0, 1) := by decide +kernel
theorem dX8_rowOf_2 : decode cX8_rowOf 2 = .ok (.invokevirtual 76, 3) := by decide +kernel
theorem dX8_rowOf_5 : decode cX8_rowOf 5 = .ok (.if_icmp .ge 7, 3) := by decide +kernel
theorem dX8_rowOf_8 : decode cX8_rowOf 8 = .ok (.iload_n 1, 1) := by decide +kernel
theorem dX8_rowOf_9 : decode cX8_rowOf 9 = .ok (.goto 4, 3) := by decide +kernel
theorem dX8_rowOf_12 : decode cX8_rowOf 12 = .ok (.iload_n 2, 1) := by decide +kernel
theorem dX8_rowOf_13 : decode cX8_rowOf 13 = .ok (.ireturn, 1) := by decide +kernel
theorem dX8_columnOf_0 : decode cX8_columnOf 0 = .ok (.iload_n 1, 1) := by decide +kernel
theorem dX8_columnOf_1 : decode cX8_columnOf 1 = .ok (.aload_n 0, 1) := by decide +kernel
theorem dX8_columnOf_2 : decode cX8_columnOf 2 = .ok (.invokevirtual 76, 3) := by decide +kernel
theorem dX8_columnOf_5 : decode cX8_columnOf 5 = .ok (.if_icmp .ge 7, 3) := by decide +kernel
theorem dX8_columnOf_8 : decode cX8_columnOf 8 = .ok (.iload_n 2, 1) := by decide +kernel
theorem dX8_columnOf_9 : decode cX8_columnOf 9 = .ok (.goto 9, 3) := by decide +kernel
theorem dX8_columnOf_12 : decode cX8_columnOf 12 = .ok (.iload_n 1, 1) := by decide +kernel
theorem dX8_columnOf_13 : decode cX8_columnOf 13 = .ok (.aload_n 0, 1) := by decide +kernel
theorem dX8_columnOf_14 : decode cX8_columnOf 14 = .ok (.invokevirtual 76, 3) := by decide +kernel
theorem dX8_columnOf_17 : decode cX8_columnOf 17 = .ok (.isub, 1) := by decide +kernel
theorem dX8_columnOf_18 : decode cX8_columnOf 18 = .ok (.ireturn, 1) := by decide +kernel
theorem dX8_countOf_0 : decode cX8_countOf 0 = .ok (.iconst 0, 1) := by decide +kernel
theorem dX8_countOf_1 : decode cX8_countOf 1 = .ok (.istore_n 2, 1) := by decide +kernel
theorem dX8_countOf_2 : decode cX8_countOf 2 = .ok (.iconst 0, 1) := by decide +kernel
theorem dX8_countOf_3 : decode cX8_countOf 3 = .ok (.istore_n 3, 1) := by decide +kernel
theorem dX8_countOf_4 : decode cX8_countOf 4 = .ok (.iload_n 3, 1) := by decide +kernel
theorem dX8_countOf_5 : decode cX8_countOf 5 = .ok (.aload_n 0, 1) := by decide +kernel
theorem dX8_countOf_6 : decode cX8_countOf 6 = .ok (.iload_n 1, 1) := by decide +kernel
theorem dX8_countOf_7 : decode cX8_countOf 7 = .ok (.invokevirtual 87, 3) := by decide +kernel
theorem dX8_countOf_10 : decode cX8_countOf 10 = .ok (.if_icmp .ge 36, 3) := by decide +kernel
theorem dX8_countOf_13 : decode cX8_countOf 13 = .ok (.iload_n 2, 1) := by decide +kernel
theorem dX8_countOf_14 : decode cX8_countOf 14 = .ok (.aload_n 0, 1) := by decide +kernel
theorem dX8_countOf_15 : decode cX8_countOf 15 = .ok (.aload_n 0, 1) := by decide +kernel
theorem dX8_countOf_16 : decode cX8_countOf 16 = .ok (.iload_n 1, 1) := by decide +kernel
theorem dX8_countOf_17 : decode cX8_countOf 17 = .ok (.iload_n 3, 1) := by decide +kernel
theorem dX8_countOf_18 : decode cX8_countOf 18 = .ok (.invokevirtual 91, 3) := by decide +kernel
theorem dX8_countOf_21 : decode cX8_countOf 21 = .ok (.aload_n 0, 1) := by decide +kernel
theorem dX8_countOf_22 : decode cX8_countOf 22 = .ok (.iload_n 1, 1) := by decide +kernel
theorem dX8_countOf_23 : decode cX8_countOf 23 = .ok (.iload_n 3, 1) := by decide +kernel
theorem dX8_countOf_24 : decode cX8_countOf 24 = .ok (.invokevirtual 95, 3) := by decide +kernel
theorem dX8_countOf_27 : decode cX8_countOf 27 = .ok (.invokevirtual 98, 3) := by decide +kernel
theorem dX8_countOf_30 : decode cX8_countOf 30 = .ok (.ifCond .eq 7, 3) := by decide +kernel
theorem dX8_countOf_33 : decode cX8_countOf 33 = .ok (.iconst 1, 1) := by decide +kernel
theorem dX8_countOf_34 : decode cX8_countOf 34 = .ok (.goto 4, 3) := by decide +kernel
theorem dX8_countOf_37 : decode cX8_countOf 37 = .ok (.iconst 0, 1) := by decide +kernel
theorem dX8_countOf_38 : decode cX8_countOf 38 = .ok (.iadd, 1) := by decide +kernel
theorem dX8_countOf_39 : decode cX8_countOf 39 = .ok (.istore_n 2, 1) := by decide +kernel
theorem dX8_countOf_40 : decode cX8_countOf 40 = .ok (.iinc 3 1, 3) := by decide +kernel
theorem dX8_countOf_43 : decode cX8_countOf 43 = .ok (.goto (-39), 3) := by decide +kernel
theorem dX8_countOf_46 : decode cX8_countOf 46 = .ok (.iload_n 2, 1) := by decide +kernel
theorem dX8_countOf_47 : decode cX8_countOf 47 = .ok (.ireturn, 1) := by decide +kernel
theorem dX8_filledMany_0 : decode cX8_filledMany 0 = .ok (.iconst 0, 1) := by decide +kernel
theorem dX8_filledMany_1 : decode cX8_filledMany 1 = .ok (.istore_n 1, 1) := by decide +kernel
theorem dX8_filledMany_2 : decode cX8_filledMany 2 = .ok (.iconst 0, 1) := by decide +kernel
theorem dX8_filledMany_3 : decode cX8_filledMany 3 = .ok (.istore_n 2, 1) := by decide +kernel
theorem dX8_filledMany_4 : decode cX8_filledMany 4 = .ok (.iload_n 2, 1) := by decide +kernel
theorem dX8_filledMany_5 : decode cX8_filledMany 5 = .ok (.aload_n 0, 1) := by decide +kernel
theorem dX8_filledMany_6 : decode cX8_filledMany 6 = .ok (.invokevirtual 76, 3) := by decide +kernel
theorem dX8_filledMany_9 : decode cX8_filledMany 9 = .ok (.if_icmp .ge 17, 3) := by decide +kernel
theorem dX8_filledMany_12 : decode cX8_filledMany 12 = .ok (.iload_n 1, 1) := by decide +kernel
theorem dX8_filledMany_13 : decode cX8_filledMany 13 = .ok (.aload_n 0, 1) := by decide +kernel
theorem dX8_filledMany_14 : decode cX8_filledMany 14 = .ok (.iload_n 2, 1) := by decide +kernel
theorem dX8_filledMany_15 : decode cX8_filledMany 15 = .ok (.invokevirtual 102, 3) := by decide +kernel
theorem dX8_filledMany_18 : decode cX8_filledMany 18 = .ok (.iadd, 1) := by decide +kernel
theorem dX8_filledMany_19 : decode cX8_filledMany 19 = .ok (.istore_n 1, 1) := by decide +kernel
theorem dX8_filledMany_20 : decode cX8_filledMany 20 = .ok (.iinc 2 1, 3) := by decide +kernel
theorem dX8_filledMany_23 : decode cX8_filledMany 23 = .ok (.goto (-19), 3) := by decide +kernel
theorem dX8_filledMany_26 : decode cX8_filledMany 26 = .ok (.iload_n 1, 1) := by decide +kernel
theorem dX8_filledMany_27 : decode cX8_filledMany 27 = .ok (.ireturn, 1) := by decide +kernel
theorem dX8_wrongLines_0 : decode cX8_wrongLines 0 = .ok (.iconst 0, 1) := by decide +kernel
theorem dX8_wrongLines_1 : decode cX8_wrongLines 1 = .ok (.istore_n 1, 1) := by decide +kernel
theorem dX8_wrongLines_2 : decode cX8_wrongLines 2 = .ok (.iconst 0, 1) := by decide +kernel
theorem dX8_wrongLines_3 : decode cX8_wrongLines 3 = .ok (.istore_n 2, 1) := by decide +kernel
theorem dX8_wrongLines_4 : decode cX8_wrongLines 4 = .ok (.iload_n 2, 1) := by decide +kernel
theorem dX8_wrongLines_5 : decode cX8_wrongLines 5 = .ok (.aload_n 0, 1) := by decide +kernel
theorem dX8_wrongLines_6 : decode cX8_wrongLines 6 = .ok (.invokevirtual 76, 3) := by decide +kernel
theorem dX8_wrongLines_9 : decode cX8_wrongLines 9 = .ok (.aload_n 0, 1) := by decide +kernel
theorem dX8_wrongLines_10 : decode cX8_wrongLines 10 = .ok (.invokevirtual 84, 3) := by decide +kernel
theorem dX8_wrongLines_13 : decode cX8_wrongLines 13 = .ok (.iadd, 1) := by decide +kernel
theorem dX8_wrongLines_14 : decode cX8_wrongLines 14 = .ok (.if_icmp .ge 35, 3) := by decide +kernel
theorem dX8_wrongLines_17 : decode cX8_wrongLines 17 = .ok (.iload_n 1, 1) := by decide +kernel
theorem dX8_wrongLines_18 : decode cX8_wrongLines 18 = .ok (.aload_n 0, 1) := by decide +kernel
theorem dX8_wrongLines_19 : decode cX8_wrongLines 19 = .ok (.iload_n 2, 1) := by decide +kernel
theorem dX8_wrongLines_20 : decode cX8_wrongLines 20 = .ok (.invokevirtual 102, 3) := by decide +kernel
theorem dX8_wrongLines_23 : decode cX8_wrongLines 23 = .ok (.aload_n 0, 1) := by decide +kernel
theorem dX8_wrongLines_24 : decode cX8_wrongLines 24 = .ok (.getfield 7, 3) := by decide +kernel
theorem dX8_wrongLines_27 : decode cX8_wrongLines 27 = .ok (.aload_n 0, 1) := by decide +kernel
theorem dX8_wrongLines_28 : decode cX8_wrongLines 28 = .ok (.iload_n 2, 1) := by decide +kernel
theorem dX8_wrongLines_29 : decode cX8_wrongLines 29 = .ok (.invokevirtual 105, 3) := by decide +kernel
theorem dX8_wrongLines_32 : decode cX8_wrongLines 32 = .ok (.iaload, 1) := by decide +kernel
theorem dX8_wrongLines_33 : decode cX8_wrongLines 33 = .ok (.if_icmp .eq 7, 3) := by decide +kernel
theorem dX8_wrongLines_36 : decode cX8_wrongLines 36 = .ok (.iconst 1, 1) := by decide +kernel
theorem dX8_wrongLines_37 : decode cX8_wrongLines 37 = .ok (.goto 4, 3) := by decide +kernel
theorem dX8_wrongLines_40 : decode cX8_wrongLines 40 = .ok (.iconst 0, 1) := by decide +kernel
theorem dX8_wrongLines_41 : decode cX8_wrongLines 41 = .ok (.iadd, 1) := by decide +kernel
theorem dX8_wrongLines_42 : decode cX8_wrongLines 42 = .ok (.istore_n 1, 1) := by decide +kernel
theorem dX8_wrongLines_43 : decode cX8_wrongLines 43 = .ok (.iinc 2 1, 3) := by decide +kernel
theorem dX8_wrongLines_46 : decode cX8_wrongLines 46 = .ok (.goto (-42), 3) := by decide +kernel
theorem dX8_wrongLines_49 : decode cX8_wrongLines 49 = .ok (.iload_n 1, 1) := by decide +kernel
theorem dX8_wrongLines_50 : decode cX8_wrongLines 50 = .ok (.ireturn, 1) := by decide +kernel
theorem dX8_append_0 : decode cX8_append 0 = .ok (.aload_n 0, 1) := by decide +kernel
theorem dX8_append_1 : decode cX8_append 1 = .ok (.iload_n 1, 1) := by decide +kernel
theorem dX8_append_2 : decode cX8_append 2 = .ok (.iconst 0, 1) := by decide +kernel
theorem dX8_append_3 : decode cX8_append 3 = .ok (.sipush 255, 3) := by decide +kernel
theorem dX8_append_6 : decode cX8_append 6 = .ok (.invokestatic 80, 3) := by decide +kernel
theorem dX8_append_9 : decode cX8_append 9 = .ok (.ifCond .ne 7, 3) := by decide +kernel
theorem dX8_append_12 : decode cX8_append 12 = .ok (.iconst 1, 1) := by decide +kernel
theorem dX8_append_13 : decode cX8_append 13 = .ok (.goto 17, 3) := by decide +kernel
theorem dX8_append_16 : decode cX8_append 16 = .ok (.aload_n 0, 1) := by decide +kernel
theorem dX8_append_17 : decode cX8_append 17 = .ok (.getfield 108, 3) := by decide +kernel
theorem dX8_append_20 : decode cX8_append 20 = .ok (.bipush 60, 2) := by decide +kernel
theorem dX8_append_22 : decode cX8_append 22 = .ok (.if_icmp .ne 7, 3) := by decide +kernel
theorem dX8_append_25 : decode cX8_append 25 = .ok (.iconst 2, 1) := by decide +kernel
theorem dX8_append_26 : decode cX8_append 26 = .ok (.goto 4, 3) := by decide +kernel
theorem dX8_append_29 : decode cX8_append 29 = .ok (.iconst 0, 1) := by decide +kernel
theorem dX8_append_30 : decode cX8_append 30 = .ok (.putfield 65, 3) := by decide +kernel
theorem dX8_append_33 : decode cX8_append 33 = .ok (.aload_n 0, 1) := by decide +kernel
theorem dX8_append_34 : decode cX8_append 34 = .ok (.getfield 65, 3) := by decide +kernel
theorem dX8_append_37 : decode cX8_append 37 = .ok (.ifCond .eq 5, 3) := by decide +kernel
theorem dX8_append_40 : decode cX8_append 40 = .ok (.iconst 0, 1) := by decide +kernel
theorem dX8_append_41 : decode cX8_append 41 = .ok (.ireturn, 1) := by decide +kernel
theorem dX8_append_42 : decode cX8_append 42 = .ok (.aload_n 0, 1) := by decide +kernel
theorem dX8_append_43 : decode cX8_append 43 = .ok (.getfield 22, 3) := by decide +kernel
theorem dX8_append_46 : decode cX8_append 46 = .ok (.aload_n 0, 1) := by decide +kernel
theorem dX8_append_47 : decode cX8_append 47 = .ok (.getfield 108, 3) := by decide +kernel
theorem dX8_append_50 : decode cX8_append 50 = .ok (.iload_n 1, 1) := by decide +kernel
theorem dX8_append_51 : decode cX8_append 51 = .ok (.iastore, 1) := by decide +kernel
theorem dX8_append_52 : decode cX8_append 52 = .ok (.aload_n 0, 1) := by decide +kernel
theorem dX8_append_53 : decode cX8_append 53 = .ok (.dup, 1) := by decide +kernel
theorem dX8_append_54 : decode cX8_append 54 = .ok (.getfield 108, 3) := by decide +kernel
theorem dX8_append_57 : decode cX8_append 57 = .ok (.iconst 1, 1) := by decide +kernel
theorem dX8_append_58 : decode cX8_append 58 = .ok (.iadd, 1) := by decide +kernel
theorem dX8_append_59 : decode cX8_append 59 = .ok (.putfield 108, 3) := by decide +kernel
theorem dX8_append_62 : decode cX8_append 62 = .ok (.aload_n 0, 1) := by decide +kernel
theorem dX8_append_63 : decode cX8_append 63 = .ok (.getfield 108, 3) := by decide +kernel
theorem dX8_append_66 : decode cX8_append 66 = .ok (.ireturn, 1) := by decide +kernel
theorem dX8_clearText_0 : decode cX8_clearText 0 = .ok (.aload_n 0, 1) := by decide +kernel
theorem dX8_clearText_1 : decode cX8_clearText 1 = .ok (.iconst 0, 1) := by decide +kernel
theorem dX8_clearText_2 : decode cX8_clearText 2 = .ok (.putfield 65, 3) := by decide +kernel
theorem dX8_clearText_5 : decode cX8_clearText 5 = .ok (.aload_n 0, 1) := by decide +kernel
theorem dX8_clearText_6 : decode cX8_clearText 6 = .ok (.getfield 108, 3) := by decide +kernel
theorem dX8_clearText_9 : decode cX8_clearText 9 = .ok (.istore_n 1, 1) := by decide +kernel
theorem dX8_clearText_10 : decode cX8_clearText 10 = .ok (.aload_n 0, 1) := by decide +kernel
theorem dX8_clearText_11 : decode cX8_clearText 11 = .ok (.iconst 0, 1) := by decide +kernel
theorem dX8_clearText_12 : decode cX8_clearText 12 = .ok (.putfield 108, 3) := by decide +kernel
theorem dX8_clearText_15 : decode cX8_clearText 15 = .ok (.iload_n 1, 1) := by decide +kernel
theorem dX8_clearText_16 : decode cX8_clearText 16 = .ok (.ireturn, 1) := by decide +kernel
theorem dX8_signAt_0 : decode cX8_signAt 0 = .ok (.iload_n 1, 1) := by decide +kernel
theorem dX8_signAt_1 : decode cX8_signAt 1 = .ok (.aload_n 0, 1) := by decide +kernel
theorem dX8_signAt_2 : decode cX8_signAt 2 = .ok (.getfield 108, 3) := by decide +kernel
theorem dX8_signAt_5 : decode cX8_signAt 5 = .ok (.if_icmp .ge 12, 3) := by decide +kernel
theorem dX8_signAt_8 : decode cX8_signAt 8 = .ok (.aload_n 0, 1) := by decide +kernel
theorem dX8_signAt_9 : decode cX8_signAt 9 = .ok (.getfield 22, 3) := by decide +kernel
theorem dX8_signAt_12 : decode cX8_signAt 12 = .ok (.iload_n 1, 1) := by decide +kernel
theorem dX8_signAt_13 : decode cX8_signAt 13 = .ok (.iaload, 1) := by decide +kernel
theorem dX8_signAt_14 : decode cX8_signAt 14 = .ok (.goto 5, 3) := by decide +kernel
theorem dX8_signAt_17 : decode cX8_signAt 17 = .ok (.bipush (-9), 2) := by decide +kernel
theorem dX8_signAt_19 : decode cX8_signAt 19 = .ok (.ireturn, 1) := by decide +kernel
theorem dX8_isMark_0 : decode cX8_isMark 0 = .ok (.iload_n 0, 1) := by decide +kernel
theorem dX8_isMark_1 : decode cX8_isMark 1 = .ok (.bipush 46, 2) := by decide +kernel
theorem dX8_isMark_3 : decode cX8_isMark 3 = .ok (.if_icmp .eq 21, 3) := by decide +kernel
theorem dX8_isMark_6 : decode cX8_isMark 6 = .ok (.iload_n 0, 1) := by decide +kernel
theorem dX8_isMark_7 : decode cX8_isMark 7 = .ok (.bipush 35, 2) := by decide +kernel
theorem dX8_isMark_9 : decode cX8_isMark 9 = .ok (.if_icmp .eq 15, 3) := by decide +kernel
theorem dX8_isMark_12 : decode cX8_isMark 12 = .ok (.iload_n 0, 1) := by decide +kernel
theorem dX8_isMark_13 : decode cX8_isMark 13 = .ok (.bipush 44, 2) := by decide +kernel
theorem dX8_isMark_15 : decode cX8_isMark 15 = .ok (.if_icmp .eq 9, 3) := by decide +kernel
theorem dX8_isMark_18 : decode cX8_isMark 18 = .ok (.iload_n 0, 1) := by decide +kernel
theorem dX8_isMark_19 : decode cX8_isMark 19 = .ok (.bipush 37, 2) := by decide +kernel
theorem dX8_isMark_21 : decode cX8_isMark 21 = .ok (.if_icmp .ne 7, 3) := by decide +kernel
theorem dX8_isMark_24 : decode cX8_isMark 24 = .ok (.iconst 1, 1) := by decide +kernel
theorem dX8_isMark_25 : decode cX8_isMark 25 = .ok (.goto 4, 3) := by decide +kernel
theorem dX8_isMark_28 : decode cX8_isMark 28 = .ok (.iconst 0, 1) := by decide +kernel
theorem dX8_isMark_29 : decode cX8_isMark 29 = .ok (.ireturn, 1) := by decide +kernel
theorem dX8_faultOf_0 : decode cX8_faultOf 0 = .ok (.aload_n 0, 1) := by decide +kernel
theorem dX8_faultOf_1 : decode cX8_faultOf 1 = .ok (.iconst 0, 1) := by decide +kernel
theorem dX8_faultOf_2 : decode cX8_faultOf 2 = .ok (.invokevirtual 111, 3) := by decide +kernel
theorem dX8_faultOf_5 : decode cX8_faultOf 5 = .ok (.bipush 80, 2) := by decide +kernel
theorem dX8_faultOf_7 : decode cX8_faultOf 7 = .ok (.if_icmp .eq 5, 3) := by decide +kernel
theorem dX8_faultOf_10 : decode cX8_faultOf 10 = .ok (.iconst 0, 1) := by decide +kernel
theorem dX8_faultOf_11 : decode cX8_faultOf 11 = .ok (.ireturn, 1) := by decide +kernel
theorem dX8_faultOf_12 : decode cX8_faultOf 12 = .ok (.aload_n 0, 1) := by decide +kernel
theorem dX8_faultOf_13 : decode cX8_faultOf 13 = .ok (.iconst 1, 1) := by decide +kernel
theorem dX8_faultOf_14 : decode cX8_faultOf 14 = .ok (.invokevirtual 111, 3) := by decide +kernel
theorem dX8_faultOf_17 : decode cX8_faultOf 17 = .ok (.bipush 49, 2) := by decide +kernel
theorem dX8_faultOf_19 : decode cX8_faultOf 19 = .ok (.bipush 54, 2) := by decide +kernel
theorem dX8_faultOf_21 : decode cX8_faultOf 21 = .ok (.invokestatic 80, 3) := by decide +kernel
theorem dX8_faultOf_24 : decode cX8_faultOf 24 = .ok (.ifCond .ne 5, 3) := by decide +kernel
theorem dX8_faultOf_27 : decode cX8_faultOf 27 = .ok (.iconst 1, 1) := by decide +kernel
theorem dX8_faultOf_28 : decode cX8_faultOf 28 = .ok (.ireturn, 1) := by decide +kernel
theorem dX8_faultOf_29 : decode cX8_faultOf 29 = .ok (.aload_n 0, 1) := by decide +kernel
theorem dX8_faultOf_30 : decode cX8_faultOf 30 = .ok (.iconst 2, 1) := by decide +kernel
theorem dX8_faultOf_31 : decode cX8_faultOf 31 = .ok (.invokevirtual 111, 3) := by decide +kernel
theorem dX8_faultOf_34 : decode cX8_faultOf 34 = .ok (.bipush 49, 2) := by decide +kernel
theorem dX8_faultOf_36 : decode cX8_faultOf 36 = .ok (.bipush 54, 2) := by decide +kernel
theorem dX8_faultOf_38 : decode cX8_faultOf 38 = .ok (.invokestatic 80, 3) := by decide +kernel
theorem dX8_faultOf_41 : decode cX8_faultOf 41 = .ok (.ifCond .ne 5, 3) := by decide +kernel
theorem dX8_faultOf_44 : decode cX8_faultOf 44 = .ok (.iconst 2, 1) := by decide +kernel
theorem dX8_faultOf_45 : decode cX8_faultOf 45 = .ok (.ireturn, 1) := by decide +kernel
theorem dX8_faultOf_46 : decode cX8_faultOf 46 = .ok (.aload_n 0, 1) := by decide +kernel
theorem dX8_faultOf_47 : decode cX8_faultOf 47 = .ok (.iconst 1, 1) := by decide +kernel
theorem dX8_faultOf_48 : decode cX8_faultOf 48 = .ok (.invokevirtual 111, 3) := by decide +kernel
theorem dX8_faultOf_51 : decode cX8_faultOf 51 = .ok (.aload_n 0, 1) := by decide +kernel
theorem dX8_faultOf_52 : decode cX8_faultOf 52 = .ok (.iconst 2, 1) := by decide +kernel
theorem dX8_faultOf_53 : decode cX8_faultOf 53 = .ok (.invokevirtual 111, 3) := by decide +kernel
theorem dX8_faultOf_56 : decode cX8_faultOf 56 = .ok (.iadd, 1) := by decide +kernel
theorem dX8_faultOf_57 : decode cX8_faultOf 57 = .ok (.bipush 96, 2) := by decide +kernel
theorem dX8_faultOf_59 : decode cX8_faultOf 59 = .ok (.isub, 1) := by decide +kernel
theorem dX8_faultOf_60 : decode cX8_faultOf 60 = .ok (.istore_n 1, 1) := by decide +kernel
theorem dX8_faultOf_61 : decode cX8_faultOf 61 = .ok (.aload_n 0, 1) := by decide +kernel
theorem dX8_faultOf_62 : decode cX8_faultOf 62 = .ok (.iconst 1, 1) := by decide +kernel
theorem dX8_faultOf_63 : decode cX8_faultOf 63 = .ok (.invokevirtual 111, 3) := by decide +kernel
theorem dX8_faultOf_66 : decode cX8_faultOf 66 = .ok (.bipush 48, 2) := by decide +kernel
theorem dX8_faultOf_68 : decode cX8_faultOf 68 = .ok (.isub, 1) := by decide +kernel
theorem dX8_faultOf_69 : decode cX8_faultOf 69 = .ok (.aload_n 0, 1) := by decide +kernel
theorem dX8_faultOf_70 : decode cX8_faultOf 70 = .ok (.iconst 2, 1) := by decide +kernel
theorem dX8_faultOf_71 : decode cX8_faultOf 71 = .ok (.invokevirtual 111, 3) := by decide +kernel
theorem dX8_faultOf_74 : decode cX8_faultOf 74 = .ok (.bipush 48, 2) := by decide +kernel
theorem dX8_faultOf_76 : decode cX8_faultOf 76 = .ok (.isub, 1) := by decide +kernel
theorem dX8_faultOf_77 : decode cX8_faultOf 77 = .ok (.imul, 1) := by decide +kernel
theorem dX8_faultOf_78 : decode cX8_faultOf 78 = .ok (.istore_n 2, 1) := by decide +kernel
theorem dX8_faultOf_79 : decode cX8_faultOf 79 = .ok (.iconst 3, 1) := by decide +kernel
theorem dX8_faultOf_80 : decode cX8_faultOf 80 = .ok (.istore_n 3, 1) := by decide +kernel
theorem dX8_faultOf_81 : decode cX8_faultOf 81 = .ok (.iload_n 3, 1) := by decide +kernel
theorem dX8_faultOf_82 : decode cX8_faultOf 82 = .ok (.iconst 3, 1) := by decide +kernel
theorem dX8_faultOf_83 : decode cX8_faultOf 83 = .ok (.iload_n 2, 1) := by decide +kernel
theorem dX8_faultOf_84 : decode cX8_faultOf 84 = .ok (.iadd, 1) := by decide +kernel
theorem dX8_faultOf_85 : decode cX8_faultOf 85 = .ok (.if_icmp .ge 22, 3) := by decide +kernel
theorem dX8_faultOf_88 : decode cX8_faultOf 88 = .ok (.aload_n 0, 1) := by decide +kernel
theorem dX8_faultOf_89 : decode cX8_faultOf 89 = .ok (.iload_n 3, 1) := by decide +kernel
theorem dX8_faultOf_90 : decode cX8_faultOf 90 = .ok (.invokevirtual 111, 3) := by decide +kernel
theorem dX8_faultOf_93 : decode cX8_faultOf 93 = .ok (.invokestatic 114, 3) := by decide +kernel
theorem dX8_faultOf_96 : decode cX8_faultOf 96 = .ok (.ifCond .ne 5, 3) := by decide +kernel
theorem dX8_faultOf_99 : decode cX8_faultOf 99 = .ok (.iload_n 3, 1) := by decide +kernel
theorem dX8_faultOf_100 : decode cX8_faultOf 100 = .ok (.ireturn, 1) := by decide +kernel
theorem dX8_faultOf_101 : decode cX8_faultOf 101 = .ok (.iinc 3 1, 3) := by decide +kernel
theorem dX8_faultOf_104 : decode cX8_faultOf 104 = .ok (.goto (-23), 3) := by decide +kernel
theorem dX8_faultOf_107 : decode cX8_faultOf 107 = .ok (.iconst 3, 1) := by decide +kernel
theorem dX8_faultOf_108 : decode cX8_faultOf 108 = .ok (.iload_n 2, 1) := by decide +kernel
theorem dX8_faultOf_109 : decode cX8_faultOf 109 = .ok (.iadd, 1) := by decide +kernel
theorem dX8_faultOf_110 : decode cX8_faultOf 110 = .ok (.istore_n 3, 1) := by decide +kernel
theorem dX8_faultOf_111 : decode cX8_faultOf 111 = .ok (.iload_n 3, 1) := by decide +kernel
theorem dX8_faultOf_112 : decode cX8_faultOf 112 = .ok (.aload_n 0, 1) := by decide +kernel
theorem dX8_faultOf_113 : decode cX8_faultOf 113 = .ok (.getfield 108, 3) := by decide +kernel
theorem dX8_faultOf_116 : decode cX8_faultOf 116 = .ok (.if_icmp .ne 6, 3) := by decide +kernel
theorem dX8_faultOf_119 : decode cX8_faultOf 119 = .ok (.bipush (-9), 2) := by decide +kernel
theorem dX8_faultOf_121 : decode cX8_faultOf 121 = .ok (.ireturn, 1) := by decide +kernel
theorem dX8_faultOf_122 : decode cX8_faultOf 122 = .ok (.aload_n 0, 1) := by decide +kernel
theorem dX8_faultOf_123 : decode cX8_faultOf 123 = .ok (.iload_n 3, 1) := by decide +kernel
theorem dX8_faultOf_124 : decode cX8_faultOf 124 = .ok (.invokevirtual 111, 3) := by decide +kernel
theorem dX8_faultOf_127 : decode cX8_faultOf 127 = .ok (.bipush 58, 2) := by decide +kernel
theorem dX8_faultOf_129 : decode cX8_faultOf 129 = .ok (.if_icmp .eq 5, 3) := by decide +kernel
theorem dX8_faultOf_132 : decode cX8_faultOf 132 = .ok (.iload_n 3, 1) := by decide +kernel
theorem dX8_faultOf_133 : decode cX8_faultOf 133 = .ok (.ireturn, 1) := by decide +kernel
theorem dX8_faultOf_134 : decode cX8_faultOf 134 = .ok (.iload_n 3, 1) := by decide +kernel
theorem dX8_faultOf_135 : decode cX8_faultOf 135 = .ok (.iconst 1, 1) := by decide +kernel
theorem dX8_faultOf_136 : decode cX8_faultOf 136 = .ok (.iadd, 1) := by decide +kernel
theorem dX8_faultOf_137 : decode cX8_faultOf 137 = .ok (.istore 4, 2) := by decide +kernel
theorem dX8_faultOf_139 : decode cX8_faultOf 139 = .ok (.iload 4, 2) := by decide +kernel
theorem dX8_faultOf_141 : decode cX8_faultOf 141 = .ok (.iload_n 3, 1) := by decide +kernel
theorem dX8_faultOf_142 : decode cX8_faultOf 142 = .ok (.iload_n 1, 1) := by decide +kernel
theorem dX8_faultOf_143 : decode cX8_faultOf 143 = .ok (.iadd, 1) := by decide +kernel
theorem dX8_faultOf_144 : decode cX8_faultOf 144 = .ok (.if_icmp .gt 28, 3) := by decide +kernel
theorem dX8_faultOf_147 : decode cX8_faultOf 147 = .ok (.aload_n 0, 1) := by decide +kernel
theorem dX8_faultOf_148 : decode cX8_faultOf 148 = .ok (.iload 4, 2) := by decide +kernel
theorem dX8_faultOf_150 : decode cX8_faultOf 150 = .ok (.invokevirtual 111, 3) := by decide +kernel
theorem dX8_faultOf_153 : decode cX8_faultOf 153 = .ok (.bipush 48, 2) := by decide +kernel
theorem dX8_faultOf_155 : decode cX8_faultOf 155 = .ok (.bipush 54, 2) := by decide +kernel
theorem dX8_faultOf_157 : decode cX8_faultOf 157 = .ok (.invokestatic 80, 3) := by decide +kernel
theorem dX8_faultOf_160 : decode cX8_faultOf 160 = .ok (.ifCond .ne 6, 3) := by decide +kernel
theorem dX8_faultOf_163 : decode cX8_faultOf 163 = .ok (.iload 4, 2) := by decide +kernel
theorem dX8_faultOf_165 : decode cX8_faultOf 165 = .ok (.ireturn, 1) := by decide +kernel
theorem dX8_faultOf_166 : decode cX8_faultOf 166 = .ok (.iinc 4 1, 3) := by decide +kernel
theorem dX8_faultOf_169 : decode cX8_faultOf 169 = .ok (.goto (-30), 3) := by decide +kernel
theorem dX8_faultOf_172 : decode cX8_faultOf 172 = .ok (.iload_n 3, 1) := by decide +kernel
theorem dX8_faultOf_173 : decode cX8_faultOf 173 = .ok (.iload_n 1, 1) := by decide +kernel
theorem dX8_faultOf_174 : decode cX8_faultOf 174 = .ok (.iadd, 1) := by decide +kernel
theorem dX8_faultOf_175 : decode cX8_faultOf 175 = .ok (.iconst 1, 1) := by decide +kernel
theorem dX8_faultOf_176 : decode cX8_faultOf 176 = .ok (.iadd, 1) := by decide +kernel
theorem dX8_faultOf_177 : decode cX8_faultOf 177 = .ok (.aload_n 0, 1) := by decide +kernel
theorem dX8_faultOf_178 : decode cX8_faultOf 178 = .ok (.getfield 108, 3) := by decide +kernel
theorem dX8_faultOf_181 : decode cX8_faultOf 181 = .ok (.if_icmp .ne 8, 3) := by decide +kernel
theorem dX8_faultOf_184 : decode cX8_faultOf 184 = .ok (.bipush (-9), 2) := by decide +kernel
theorem dX8_faultOf_186 : decode cX8_faultOf 186 = .ok (.goto 8, 3) := by decide +kernel
theorem dX8_faultOf_189 : decode cX8_faultOf 189 = .ok (.iload_n 3, 1) := by decide +kernel
theorem dX8_faultOf_190 : decode cX8_faultOf 190 = .ok (.iload_n 1, 1) := by decide +kernel
theorem dX8_faultOf_191 : decode cX8_faultOf 191 = .ok (.iadd, 1) := by decide +kernel
theorem dX8_faultOf_192 : decode cX8_faultOf 192 = .ok (.iconst 1, 1) := by decide +kernel
theorem dX8_faultOf_193 : decode cX8_faultOf 193 = .ok (.iadd, 1) := by decide +kernel
theorem dX8_faultOf_194 : decode cX8_faultOf 194 = .ok (.ireturn, 1) := by decide +kernel
theorem dX8_errorPosition_0 : decode cX8_errorPosition 0 = .ok (.aload_n 0, 1) := by decide +kernel
theorem dX8_errorPosition_1 : decode cX8_errorPosition 1 = .ok (.iconst 0, 1) := by decide +kernel
theorem dX8_errorPosition_2 : decode cX8_errorPosition 2 = .ok (.putfield 65, 3) := by decide +kernel
theorem dX8_errorPosition_5 : decode cX8_errorPosition 5 = .ok (.aload_n 0, 1) := by decide +kernel
theorem dX8_errorPosition_6 : decode cX8_errorPosition 6 = .ok (.invokevirtual 118, 3) := by decide +kernel
theorem dX8_errorPosition_9 : decode cX8_errorPosition 9 = .ok (.ireturn, 1) := by decide +kernel
theorem dX8_load_0 : decode cX8_load 0 = .ok (.aload_n 0, 1) := by decide +kernel
theorem dX8_load_1 : decode cX8_load 1 = .ok (.aload_n 0, 1) := by decide +kernel
theorem dX8_load_2 : decode cX8_load 2 = .ok (.invokevirtual 118, 3) := by decide +kernel
theorem dX8_load_5 : decode cX8_load 5 = .ok (.bipush (-9), 2) := by decide +kernel
theorem dX8_load_7 : decode cX8_load 7 = .ok (.if_icmp .eq 7, 3) := by decide +kernel
theorem dX8_load_10 : decode cX8_load 10 = .ok (.iconst 1, 1) := by decide +kernel
theorem dX8_load_11 : decode cX8_load 11 = .ok (.goto 4, 3) := by decide +kernel
theorem dX8_load_14 : decode cX8_load 14 = .ok (.iconst 0, 1) := by decide +kernel
theorem dX8_load_15 : decode cX8_load 15 = .ok (.putfield 65, 3) := by decide +kernel
theorem dX8_load_18 : decode cX8_load 18 = .ok (.aload_n 0, 1) := by decide +kernel
theorem dX8_load_19 : decode cX8_load 19 = .ok (.getfield 65, 3) := by decide +kernel
theorem dX8_load_22 : decode cX8_load 22 = .ok (.ifCond .eq 5, 3) := by decide +kernel
theorem dX8_load_25 : decode cX8_load 25 = .ok (.iconst 0, 1) := by decide +kernel
theorem dX8_load_26 : decode cX8_load 26 = .ok (.ireturn, 1) := by decide +kernel
theorem dX8_load_27 : decode cX8_load 27 = .ok (.iconst 0, 1) := by decide +kernel
theorem dX8_load_28 : decode cX8_load 28 = .ok (.istore_n 1, 1) := by decide +kernel
theorem dX8_load_29 : decode cX8_load 29 = .ok (.iload_n 1, 1) := by decide +kernel
theorem dX8_load_30 : decode cX8_load 30 = .ok (.bipush 50, 2) := by decide +kernel
theorem dX8_load_32 : decode cX8_load 32 = .ok (.if_icmp .ge 16, 3) := by decide +kernel
theorem dX8_load_35 : decode cX8_load 35 = .ok (.aload_n 0, 1) := by decide +kernel
theorem dX8_load_36 : decode cX8_load 36 = .ok (.getfield 7, 3) := by decide +kernel
theorem dX8_load_39 : decode cX8_load 39 = .ok (.iload_n 1, 1) := by decide +kernel
theorem dX8_load_40 : decode cX8_load 40 = .ok (.iconst 0, 1) := by decide +kernel
theorem dX8_load_41 : decode cX8_load 41 = .ok (.iastore, 1) := by decide +kernel
theorem dX8_load_42 : decode cX8_load 42 = .ok (.iinc 1 1, 3) := by decide +kernel
theorem dX8_load_45 : decode cX8_load 45 = .ok (.goto (-16), 3) := by decide +kernel
theorem dX8_load_48 : decode cX8_load 48 = .ok (.aload_n 0, 1) := by decide +kernel
theorem dX8_load_49 : decode cX8_load 49 = .ok (.getfield 7, 3) := by decide +kernel
theorem dX8_load_52 : decode cX8_load 52 = .ok (.iconst 0, 1) := by decide +kernel
theorem dX8_load_53 : decode cX8_load 53 = .ok (.aload_n 0, 1) := by decide +kernel
theorem dX8_load_54 : decode cX8_load 54 = .ok (.getfield 22, 3) := by decide +kernel
theorem dX8_load_57 : decode cX8_load 57 = .ok (.iconst 1, 1) := by decide +kernel
theorem dX8_load_58 : decode cX8_load 58 = .ok (.iaload, 1) := by decide +kernel
theorem dX8_load_59 : decode cX8_load 59 = .ok (.bipush 48, 2) := by decide +kernel
theorem dX8_load_61 : decode cX8_load 61 = .ok (.isub, 1) := by decide +kernel
theorem dX8_load_62 : decode cX8_load 62 = .ok (.iastore, 1) := by decide +kernel
theorem dX8_load_63 : decode cX8_load 63 = .ok (.aload_n 0, 1) := by decide +kernel
theorem dX8_load_64 : decode cX8_load 64 = .ok (.getfield 7, 3) := by decide +kernel
theorem dX8_load_67 : decode cX8_load 67 = .ok (.iconst 1, 1) := by decide +kernel
theorem dX8_load_68 : decode cX8_load 68 = .ok (.aload_n 0, 1) := by decide +kernel
theorem dX8_load_69 : decode cX8_load 69 = .ok (.getfield 22, 3) := by decide +kernel
theorem dX8_load_72 : decode cX8_load 72 = .ok (.iconst 2, 1) := by decide +kernel
theorem dX8_load_73 : decode cX8_load 73 = .ok (.iaload, 1) := by decide +kernel
theorem dX8_load_74 : decode cX8_load 74 = .ok (.bipush 48, 2) := by decide +kernel
theorem dX8_load_76 : decode cX8_load 76 = .ok (.isub, 1) := by decide +kernel
theorem dX8_load_77 : decode cX8_load 77 = .ok (.iastore, 1) := by decide +kernel
theorem dX8_load_78 : decode cX8_load 78 = .ok (.aload_n 0, 1) := by decide +kernel
theorem dX8_load_79 : decode cX8_load 79 = .ok (.invokevirtual 76, 3) := by decide +kernel
theorem dX8_load_82 : decode cX8_load 82 = .ok (.aload_n 0, 1) := by decide +kernel
theorem dX8_load_83 : decode cX8_load 83 = .ok (.invokevirtual 84, 3) := by decide +kernel
theorem dX8_load_86 : decode cX8_load 86 = .ok (.imul, 1) := by decide +kernel
theorem dX8_load_87 : decode cX8_load 87 = .ok (.istore_n 1, 1) := by decide +kernel
theorem dX8_load_88 : decode cX8_load 88 = .ok (.iconst 0, 1) := by decide +kernel
theorem dX8_load_89 : decode cX8_load 89 = .ok (.istore_n 2, 1) := by decide +kernel
theorem dX8_load_90 : decode cX8_load 90 = .ok (.iload_n 2, 1) := by decide +kernel
theorem dX8_load_91 : decode cX8_load 91 = .ok (.iload_n 1, 1) := by decide +kernel
theorem dX8_load_92 : decode cX8_load 92 = .ok (.if_icmp .ge 72, 3) := by decide +kernel
theorem dX8_load_95 : decode cX8_load 95 = .ok (.aload_n 0, 1) := by decide +kernel
theorem dX8_load_96 : decode cX8_load 96 = .ok (.getfield 22, 3) := by decide +kernel
theorem dX8_load_99 : decode cX8_load 99 = .ok (.iconst 3, 1) := by decide +kernel
theorem dX8_load_100 : decode cX8_load 100 = .ok (.iload_n 2, 1) := by decide +kernel
theorem dX8_load_101 : decode cX8_load 101 = .ok (.iadd, 1) := by decide +kernel
theorem dX8_load_102 : decode cX8_load 102 = .ok (.iaload, 1) := by decide +kernel
theorem dX8_load_103 : decode cX8_load 103 = .ok (.istore_n 3, 1) := by decide +kernel
theorem dX8_load_104 : decode cX8_load 104 = .ok (.aload_n 0, 1) := by decide +kernel
theorem dX8_load_105 : decode cX8_load 105 = .ok (.getfield 7, 3) := by decide +kernel
theorem dX8_load_108 : decode cX8_load 108 = .ok (.iconst 2, 1) := by decide +kernel
theorem dX8_load_109 : decode cX8_load 109 = .ok (.bipush 6, 2) := by decide +kernel
theorem dX8_load_111 : decode cX8_load 111 = .ok (.iload_n 2, 1) := by decide +kernel
theorem dX8_load_112 : decode cX8_load 112 = .ok (.aload_n 0, 1) := by decide +kernel
theorem dX8_load_113 : decode cX8_load 113 = .ok (.invokevirtual 84, 3) := by decide +kernel
theorem dX8_load_116 : decode cX8_load 116 = .ok (.idiv, 1) := by decide +kernel
theorem dX8_load_117 : decode cX8_load 117 = .ok (.imul, 1) := by decide +kernel
theorem dX8_load_118 : decode cX8_load 118 = .ok (.iadd, 1) := by decide +kernel
theorem dX8_load_119 : decode cX8_load 119 = .ok (.iload_n 2, 1) := by decide +kernel
theorem dX8_load_120 : decode cX8_load 120 = .ok (.aload_n 0, 1) := by decide +kernel
theorem dX8_load_121 : decode cX8_load 121 = .ok (.invokevirtual 84, 3) := by decide +kernel
theorem dX8_load_124 : decode cX8_load 124 = .ok (.irem, 1) := by decide +kernel
theorem dX8_load_125 : decode cX8_load 125 = .ok (.iadd, 1) := by decide +kernel
theorem dX8_load_126 : decode cX8_load 126 = .ok (.iload_n 3, 1) := by decide +kernel
theorem dX8_load_127 : decode cX8_load 127 = .ok (.bipush 35, 2) := by decide +kernel
theorem dX8_load_129 : decode cX8_load 129 = .ok (.if_icmp .ne 7, 3) := by decide +kernel
theorem dX8_load_132 : decode cX8_load 132 = .ok (.iconst 1, 1) := by decide +kernel
theorem dX8_load_133 : decode cX8_load 133 = .ok (.goto 24, 3) := by decide +kernel
theorem dX8_load_136 : decode cX8_load 136 = .ok (.iload_n 3, 1) := by decide +kernel
theorem dX8_load_137 : decode cX8_load 137 = .ok (.bipush 44, 2) := by decide +kernel
theorem dX8_load_139 : decode cX8_load 139 = .ok (.if_icmp .ne 7, 3) := by decide +kernel
theorem dX8_load_142 : decode cX8_load 142 = .ok (.iconst 2, 1) := by decide +kernel
theorem dX8_load_143 : decode cX8_load 143 = .ok (.goto 14, 3) := by decide +kernel
theorem dX8_load_146 : decode cX8_load 146 = .ok (.iload_n 3, 1) := by decide +kernel
theorem dX8_load_147 : decode cX8_load 147 = .ok (.bipush 37, 2) := by decide +kernel
theorem dX8_load_149 : decode cX8_load 149 = .ok (.if_icmp .ne 7, 3) := by decide +kernel
theorem dX8_load_152 : decode cX8_load 152 = .ok (.iconst 3, 1) := by decide +kernel
theorem dX8_load_153 : decode cX8_load 153 = .ok (.goto 4, 3) := by decide +kernel
theorem dX8_load_156 : decode cX8_load 156 = .ok (.iconst 0, 1) := by decide +kernel
theorem dX8_load_157 : decode cX8_load 157 = .ok (.iastore, 1) := by decide +kernel
theorem dX8_load_158 : decode cX8_load 158 = .ok (.iinc 2 1, 3) := by decide +kernel
theorem dX8_load_161 : decode cX8_load 161 = .ok (.goto (-71), 3) := by decide +kernel
theorem dX8_load_164 : decode cX8_load 164 = .ok (.iconst 0, 1) := by decide +kernel
theorem dX8_load_165 : decode cX8_load 165 = .ok (.istore_n 2, 1) := by decide +kernel
theorem dX8_load_166 : decode cX8_load 166 = .ok (.iload_n 2, 1) := by decide +kernel
theorem dX8_load_167 : decode cX8_load 167 = .ok (.aload_n 0, 1) := by decide +kernel
theorem dX8_load_168 : decode cX8_load 168 = .ok (.invokevirtual 76, 3) := by decide +kernel
theorem dX8_load_171 : decode cX8_load 171 = .ok (.aload_n 0, 1) := by decide +kernel
theorem dX8_load_172 : decode cX8_load 172 = .ok (.invokevirtual 84, 3) := by decide +kernel
theorem dX8_load_175 : decode cX8_load 175 = .ok (.iadd, 1) := by decide +kernel
theorem dX8_load_176 : decode cX8_load 176 = .ok (.if_icmp .ge 50, 3) := by decide +kernel
theorem dX8_load_179 : decode cX8_load 179 = .ok (.aload_n 0, 1) := by decide +kernel
theorem dX8_load_180 : decode cX8_load 180 = .ok (.getfield 7, 3) := by decide +kernel
theorem dX8_load_183 : decode cX8_load 183 = .ok (.aload_n 0, 1) := by decide +kernel
theorem dX8_load_184 : decode cX8_load 184 = .ok (.iload_n 2, 1) := by decide +kernel
theorem dX8_load_185 : decode cX8_load 185 = .ok (.invokevirtual 105, 3) := by decide +kernel
theorem dX8_load_188 : decode cX8_load 188 = .ok (.aload_n 0, 1) := by decide +kernel
theorem dX8_load_189 : decode cX8_load 189 = .ok (.getfield 108, 3) := by decide +kernel
theorem dX8_load_192 : decode cX8_load 192 = .ok (.iconst 3, 1) := by decide +kernel
theorem dX8_load_193 : decode cX8_load 193 = .ok (.iload_n 1, 1) := by decide +kernel
theorem dX8_load_194 : decode cX8_load 194 = .ok (.iadd, 1) := by decide +kernel
theorem dX8_load_195 : decode cX8_load 195 = .ok (.if_icmp .le 19, 3) := by decide +kernel
theorem dX8_load_198 : decode cX8_load 198 = .ok (.aload_n 0, 1) := by decide +kernel
theorem dX8_load_199 : decode cX8_load 199 = .ok (.getfield 22, 3) := by decide +kernel
theorem dX8_load_202 : decode cX8_load 202 = .ok (.iconst 4, 1) := by decide +kernel
theorem dX8_load_203 : decode cX8_load 203 = .ok (.iload_n 1, 1) := by decide +kernel
theorem dX8_load_204 : decode cX8_load 204 = .ok (.iadd, 1) := by decide +kernel
theorem dX8_load_205 : decode cX8_load 205 = .ok (.iload_n 2, 1) := by decide +kernel
theorem dX8_load_206 : decode cX8_load 206 = .ok (.iadd, 1) := by decide +kernel
theorem dX8_load_207 : decode cX8_load 207 = .ok (.iaload, 1) := by decide +kernel
theorem dX8_load_208 : decode cX8_load 208 = .ok (.bipush 48, 2) := by decide +kernel
theorem dX8_load_210 : decode cX8_load 210 = .ok (.isub, 1) := by decide +kernel
theorem dX8_load_211 : decode cX8_load 211 = .ok (.goto 8, 3) := by decide +kernel
theorem dX8_load_214 : decode cX8_load 214 = .ok (.aload_n 0, 1) := by decide +kernel
theorem dX8_load_215 : decode cX8_load 215 = .ok (.iload_n 2, 1) := by decide +kernel
theorem dX8_load_216 : decode cX8_load 216 = .ok (.invokevirtual 102, 3) := by decide +kernel
theorem dX8_load_219 : decode cX8_load 219 = .ok (.iastore, 1) := by decide +kernel
theorem dX8_load_220 : decode cX8_load 220 = .ok (.iinc 2 1, 3) := by decide +kernel
theorem dX8_load_223 : decode cX8_load 223 = .ok (.goto (-57), 3) := by decide +kernel
theorem dX8_load_226 : decode cX8_load 226 = .ok (.aload_n 0, 1) := by decide +kernel
theorem dX8_load_227 : decode cX8_load 227 = .ok (.iconst 0, 1) := by decide +kernel
theorem dX8_load_228 : decode cX8_load 228 = .ok (.putfield 69, 3) := by decide +kernel
theorem dX8_load_231 : decode cX8_load 231 = .ok (.aload_n 0, 1) := by decide +kernel
theorem dX8_load_232 : decode cX8_load 232 = .ok (.iconst 0, 1) := by decide +kernel
theorem dX8_load_233 : decode cX8_load 233 = .ok (.putfield 121, 3) := by decide +kernel
theorem dX8_load_236 : decode cX8_load 236 = .ok (.aload_n 0, 1) := by decide +kernel
theorem dX8_load_237 : decode cX8_load 237 = .ok (.invokevirtual 124, 3) := by decide +kernel
theorem dX8_load_240 : decode cX8_load 240 = .ok (.ireturn, 1) := by decide +kernel
theorem dX8_pieceAt_0 : decode cX8_pieceAt 0 = .ok (.aload_n 0, 1) := by decide +kernel
theorem dX8_pieceAt_1 : decode cX8_pieceAt 1 = .ok (.iload_n 1, 1) := by decide +kernel
theorem dX8_pieceAt_2 : decode cX8_pieceAt 2 = .ok (.iload_n 2, 1) := by decide +kernel
theorem dX8_pieceAt_3 : decode cX8_pieceAt 3 = .ok (.invokevirtual 127, 3) := by decide +kernel
theorem dX8_pieceAt_6 : decode cX8_pieceAt 6 = .ok (.ifCond .eq 17, 3) := by decide +kernel
theorem dX8_pieceAt_9 : decode cX8_pieceAt 9 = .ok (.aload_n 0, 1) := by decide +kernel
theorem dX8_pieceAt_10 : decode cX8_pieceAt 10 = .ok (.getfield 25, 3) := by decide +kernel
theorem dX8_pieceAt_13 : decode cX8_pieceAt 13 = .ok (.bipush 6, 2) := by decide +kernel
theorem dX8_pieceAt_15 : decode cX8_pieceAt 15 = .ok (.iload_n 1, 1) := by decide +kernel
theorem dX8_pieceAt_16 : decode cX8_pieceAt 16 = .ok (.imul, 1) := by decide +kernel
theorem dX8_pieceAt_17 : decode cX8_pieceAt 17 = .ok (.iload_n 2, 1) := by decide +kernel
theorem dX8_pieceAt_18 : decode cX8_pieceAt 18 = .ok (.iadd, 1) := by decide +kernel
theorem dX8_pieceAt_19 : decode cX8_pieceAt 19 = .ok (.iaload, 1) := by decide +kernel
theorem dX8_pieceAt_20 : decode cX8_pieceAt 20 = .ok (.goto 5, 3) := by decide +kernel
theorem dX8_pieceAt_23 : decode cX8_pieceAt 23 = .ok (.bipush (-9), 2) := by decide +kernel
theorem dX8_pieceAt_25 : decode cX8_pieceAt 25 = .ok (.ireturn, 1) := by decide +kernel
theorem dX8_laysPieces_0 : decode cX8_laysPieces 0 = .ok (.iconst 0, 1) := by decide +kernel
theorem dX8_laysPieces_1 : decode cX8_laysPieces 1 = .ok (.istore_n 1, 1) := by decide +kernel
theorem dX8_laysPieces_2 : decode cX8_laysPieces 2 = .ok (.iconst 0, 1) := by decide +kernel
theorem dX8_laysPieces_3 : decode cX8_laysPieces 3 = .ok (.istore_n 2, 1) := by decide +kernel
theorem dX8_laysPieces_4 : decode cX8_laysPieces 4 = .ok (.iload_n 2, 1) := by decide +kernel
theorem dX8_laysPieces_5 : decode cX8_laysPieces 5 = .ok (.bipush 36, 2) := by decide +kernel
theorem dX8_laysPieces_7 : decode cX8_laysPieces 7 = .ok (.if_icmp .ge 17, 3) := by decide +kernel
theorem dX8_laysPieces_10 : decode cX8_laysPieces 10 = .ok (.aload_n 0, 1) := by decide +kernel
theorem dX8_laysPieces_11 : decode cX8_laysPieces 11 = .ok (.getfield 25, 3) := by decide +kernel
theorem dX8_laysPieces_14 : decode cX8_laysPieces 14 = .ok (.iload_n 2, 1) := by decide +kernel
theorem dX8_laysPieces_15 : decode cX8_laysPieces 15 = .ok (.bipush (-9), 2) := by decide +kernel
theorem dX8_laysPieces_17 : decode cX8_laysPieces 17 = .ok (.iastore, 1) := by decide +kernel
theorem dX8_laysPieces_18 : decode cX8_laysPieces 18 = .ok (.iinc 2 1, 3) := by decide +kernel
theorem dX8_laysPieces_21 : decode cX8_laysPieces 21 = .ok (.goto (-17), 3) := by decide +kernel
theorem dX8_laysPieces_24 : decode cX8_laysPieces 24 = .ok (.iconst 0, 1) := by decide +kernel
theorem dX8_laysPieces_25 : decode cX8_laysPieces 25 = .ok (.istore_n 2, 1) := by decide +kernel
theorem dX8_laysPieces_26 : decode cX8_laysPieces 26 = .ok (.iload_n 2, 1) := by decide +kernel
theorem dX8_laysPieces_27 : decode cX8_laysPieces 27 = .ok (.bipush 36, 2) := by decide +kernel
theorem dX8_laysPieces_29 : decode cX8_laysPieces 29 = .ok (.if_icmp .ge 79, 3) := by decide +kernel
theorem dX8_laysPieces_32 : decode cX8_laysPieces 32 = .ok (.iload_n 2, 1) := by decide +kernel
theorem dX8_laysPieces_33 : decode cX8_laysPieces 33 = .ok (.bipush 6, 2) := by decide +kernel
theorem dX8_laysPieces_35 : decode cX8_laysPieces 35 = .ok (.idiv, 1) := by decide +kernel
theorem dX8_laysPieces_36 : decode cX8_laysPieces 36 = .ok (.istore_n 3, 1) := by decide +kernel
theorem dX8_laysPieces_37 : decode cX8_laysPieces 37 = .ok (.iload_n 2, 1) := by decide +kernel
theorem dX8_laysPieces_38 : decode cX8_laysPieces 38 = .ok (.bipush 6, 2) := by decide +kernel
theorem dX8_laysPieces_40 : decode cX8_laysPieces 40 = .ok (.irem, 1) := by decide +kernel
theorem dX8_laysPieces_41 : decode cX8_laysPieces 41 = .ok (.istore 4, 2) := by decide +kernel
theorem dX8_laysPieces_43 : decode cX8_laysPieces 43 = .ok (.aload_n 0, 1) := by decide +kernel
theorem dX8_laysPieces_44 : decode cX8_laysPieces 44 = .ok (.iload_n 3, 1) := by decide +kernel
theorem dX8_laysPieces_45 : decode cX8_laysPieces 45 = .ok (.iload 4, 2) := by decide +kernel
theorem dX8_laysPieces_47 : decode cX8_laysPieces 47 = .ok (.invokevirtual 127, 3) := by decide +kernel
theorem dX8_laysPieces_50 : decode cX8_laysPieces 50 = .ok (.ifCond .eq 52, 3) := by decide +kernel
theorem dX8_laysPieces_53 : decode cX8_laysPieces 53 = .ok (.aload_n 0, 1) := by decide +kernel
theorem dX8_laysPieces_54 : decode cX8_laysPieces 54 = .ok (.iload_n 3, 1) := by decide +kernel
theorem dX8_laysPieces_55 : decode cX8_laysPieces 55 = .ok (.iload 4, 2) := by decide +kernel
theorem dX8_laysPieces_57 : decode cX8_laysPieces 57 = .ok (.invokevirtual 98, 3) := by decide +kernel
theorem dX8_laysPieces_60 : decode cX8_laysPieces 60 = .ok (.ifCond .eq 42, 3) := by decide +kernel
theorem dX8_laysPieces_63 : decode cX8_laysPieces 63 = .ok (.aload_n 0, 1) := by decide +kernel
theorem dX8_laysPieces_64 : decode cX8_laysPieces 64 = .ok (.getfield 25, 3) := by decide +kernel
theorem dX8_laysPieces_67 : decode cX8_laysPieces 67 = .ok (.iload_n 2, 1) := by decide +kernel
theorem dX8_laysPieces_68 : decode cX8_laysPieces 68 = .ok (.iaload, 1) := by decide +kernel
theorem dX8_laysPieces_69 : decode cX8_laysPieces 69 = .ok (.bipush (-9), 2) := by decide +kernel
theorem dX8_laysPieces_71 : decode cX8_laysPieces 71 = .ok (.if_icmp .ne 31, 3) := by decide +kernel
theorem dX8_laysPieces_74 : decode cX8_laysPieces 74 = .ok (.aload_n 0, 1) := by decide +kernel
theorem dX8_laysPieces_75 : decode cX8_laysPieces 75 = .ok (.getfield 25, 3) := by decide +kernel
theorem dX8_laysPieces_78 : decode cX8_laysPieces 78 = .ok (.iload_n 2, 1) := by decide +kernel
theorem dX8_laysPieces_79 : decode cX8_laysPieces 79 = .ok (.iload_n 1, 1) := by decide +kernel
theorem dX8_laysPieces_80 : decode cX8_laysPieces 80 = .ok (.iastore, 1) := by decide +kernel
theorem dX8_laysPieces_81 : decode cX8_laysPieces 81 = .ok (.iconst 1, 1) := by decide +kernel
theorem dX8_laysPieces_82 : decode cX8_laysPieces 82 = .ok (.istore 5, 2) := by decide +kernel
theorem dX8_laysPieces_84 : decode cX8_laysPieces 84 = .ok (.iload 5, 2) := by decide +kernel
theorem dX8_laysPieces_86 : decode cX8_laysPieces 86 = .ok (.ifCond .eq 13, 3) := by decide +kernel
theorem dX8_laysPieces_89 : decode cX8_laysPieces 89 = .ok (.aload_n 0, 1) := by decide +kernel
theorem dX8_laysPieces_90 : decode cX8_laysPieces 90 = .ok (.iload_n 1, 1) := by decide +kernel
theorem dX8_laysPieces_91 : decode cX8_laysPieces 91 = .ok (.invokevirtual 130, 3) := by decide +kernel
theorem dX8_laysPieces_94 : decode cX8_laysPieces 94 = .ok (.istore 5, 2) := by decide +kernel
theorem dX8_laysPieces_96 : decode cX8_laysPieces 96 = .ok (.goto (-12), 3) := by decide +kernel
theorem dX8_laysPieces_99 : decode cX8_laysPieces 99 = .ok (.iinc 1 1, 3) := by decide +kernel
theorem dX8_laysPieces_102 : decode cX8_laysPieces 102 = .ok (.iinc 2 1, 3) := by decide +kernel
theorem dX8_laysPieces_105 : decode cX8_laysPieces 105 = .ok (.goto (-79), 3) := by decide +kernel
theorem dX8_laysPieces_108 : decode cX8_laysPieces 108 = .ok (.iload_n 1, 1) := by decide +kernel
theorem dX8_laysPieces_109 : decode cX8_laysPieces 109 = .ok (.ireturn, 1) := by decide +kernel
theorem dX8_spreads_0 : decode cX8_spreads 0 = .ok (.iconst 0, 1) := by decide +kernel
theorem dX8_spreads_1 : decode cX8_spreads 1 = .ok (.istore_n 2, 1) := by decide +kernel
theorem dX8_spreads_2 : decode cX8_spreads 2 = .ok (.iconst 0, 1) := by decide +kernel
theorem dX8_spreads_3 : decode cX8_spreads 3 = .ok (.istore_n 3, 1) := by decide +kernel
theorem dX8_spreads_4 : decode cX8_spreads 4 = .ok (.iload_n 3, 1) := by decide +kernel
theorem dX8_spreads_5 : decode cX8_spreads 5 = .ok (.bipush 36, 2) := by decide +kernel
theorem dX8_spreads_7 : decode cX8_spreads 7 = .ok (.if_icmp .ge 143, 3) := by decide +kernel
theorem dX8_spreads_10 : decode cX8_spreads 10 = .ok (.iload_n 3, 1) := by decide +kernel
theorem dX8_spreads_11 : decode cX8_spreads 11 = .ok (.bipush 6, 2) := by decide +kernel
theorem dX8_spreads_13 : decode cX8_spreads 13 = .ok (.idiv, 1) := by decide +kernel
theorem dX8_spreads_14 : decode cX8_spreads 14 = .ok (.istore 4, 2) := by decide +kernel
theorem dX8_spreads_16 : decode cX8_spreads 16 = .ok (.iload_n 3, 1) := by decide +kernel
theorem dX8_spreads_17 : decode cX8_spreads 17 = .ok (.bipush 6, 2) := by decide +kernel
theorem dX8_spreads_19 : decode cX8_spreads 19 = .ok (.irem, 1) := by decide +kernel
theorem dX8_spreads_20 : decode cX8_spreads 20 = .ok (.istore 5, 2) := by decide +kernel
theorem dX8_spreads_22 : decode cX8_spreads 22 = .ok (.aload_n 0, 1) := by decide +kernel
theorem dX8_spreads_23 : decode cX8_spreads 23 = .ok (.iload 4, 2) := by decide +kernel
theorem dX8_spreads_25 : decode cX8_spreads 25 = .ok (.iload 5, 2) := by decide +kernel
theorem dX8_spreads_27 : decode cX8_spreads 27 = .ok (.invokevirtual 127, 3) := by decide +kernel
theorem dX8_spreads_30 : decode cX8_spreads 30 = .ok (.ifCond .eq 29, 3) := by decide +kernel
theorem dX8_spreads_33 : decode cX8_spreads 33 = .ok (.aload_n 0, 1) := by decide +kernel
theorem dX8_spreads_34 : decode cX8_spreads 34 = .ok (.iload 4, 2) := by decide +kernel
theorem dX8_spreads_36 : decode cX8_spreads 36 = .ok (.iload 5, 2) := by decide +kernel
theorem dX8_spreads_38 : decode cX8_spreads 38 = .ok (.invokevirtual 98, 3) := by decide +kernel
theorem dX8_spreads_41 : decode cX8_spreads 41 = .ok (.ifCond .eq 18, 3) := by decide +kernel
theorem dX8_spreads_44 : decode cX8_spreads 44 = .ok (.aload_n 0, 1) := by decide +kernel
theorem dX8_spreads_45 : decode cX8_spreads 45 = .ok (.getfield 25, 3) := by decide +kernel
theorem dX8_spreads_48 : decode cX8_spreads 48 = .ok (.iload_n 3, 1) := by decide +kernel
theorem dX8_spreads_49 : decode cX8_spreads 49 = .ok (.iaload, 1) := by decide +kernel
theorem dX8_spreads_50 : decode cX8_spreads 50 = .ok (.bipush (-9), 2) := by decide +kernel
theorem dX8_spreads_52 : decode cX8_spreads 52 = .ok (.if_icmp .ne 7, 3) := by decide +kernel
theorem dX8_spreads_55 : decode cX8_spreads 55 = .ok (.iconst 1, 1) := by decide +kernel
theorem dX8_spreads_56 : decode cX8_spreads 56 = .ok (.goto 4, 3) := by decide +kernel
theorem dX8_spreads_59 : decode cX8_spreads 59 = .ok (.iconst 0, 1) := by decide +kernel
theorem dX8_spreads_60 : decode cX8_spreads 60 = .ok (.istore 6, 2) := by decide +kernel
theorem dX8_spreads_62 : decode cX8_spreads 62 = .ok (.aload_n 0, 1) := by decide +kernel
theorem dX8_spreads_63 : decode cX8_spreads 63 = .ok (.iload 4, 2) := by decide +kernel
theorem dX8_spreads_65 : decode cX8_spreads 65 = .ok (.iconst 1, 1) := by decide +kernel
theorem dX8_spreads_66 : decode cX8_spreads 66 = .ok (.isub, 1) := by decide +kernel
theorem dX8_spreads_67 : decode cX8_spreads 67 = .ok (.iload 5, 2) := by decide +kernel
theorem dX8_spreads_69 : decode cX8_spreads 69 = .ok (.invokevirtual 133, 3) := by decide +kernel
