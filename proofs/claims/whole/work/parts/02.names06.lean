theorem dX7_drawWord_47 : decode cX7_drawWord 47 = .ok (.if_icmp .ge 37, 3) := by decide +kernel
theorem dX7_drawWord_50 : decode cX7_drawWord 50 = .ok (.lload 5, 2) := by decide +kernel
theorem dX7_drawWord_52 : decode cX7_drawWord 52 = .ok (.invokestatic 221, 3) := by decide +kernel
theorem dX7_drawWord_55 : decode cX7_drawWord 55 = .ok (.lstore 5, 2) := by decide +kernel
theorem dX7_drawWord_57 : decode cX7_drawWord 57 = .ok (.aload_n 0, 1) := by decide +kernel
theorem dX7_drawWord_58 : decode cX7_drawWord 58 = .ok (.getfield 19, 3) := by decide +kernel
theorem dX7_drawWord_61 : decode cX7_drawWord 61 = .ok (.bipush 97, 2) := by decide +kernel
theorem dX7_drawWord_63 : decode cX7_drawWord 63 = .ok (.lload 5, 2) := by decide +kernel
theorem dX7_drawWord_65 : decode cX7_drawWord 65 = .ok (.ldc2_w 224, 3) := by decide +kernel
theorem dX7_drawWord_68 : decode cX7_drawWord 68 = .ok (.ldiv, 1) := by decide +kernel
theorem dX7_drawWord_69 : decode cX7_drawWord 69 = .ok (.iload 4, 2) := by decide +kernel
theorem dX7_drawWord_71 : decode cX7_drawWord 71 = .ok (.i2l, 1) := by decide +kernel
theorem dX7_drawWord_72 : decode cX7_drawWord 72 = .ok (.lrem, 1) := by decide +kernel
theorem dX7_drawWord_73 : decode cX7_drawWord 73 = .ok (.l2i, 1) := by decide +kernel
theorem dX7_drawWord_74 : decode cX7_drawWord 74 = .ok (.iadd, 1) := by decide +kernel
theorem dX7_drawWord_75 : decode cX7_drawWord 75 = .ok (.invokevirtual 226, 3) := by decide +kernel
theorem dX7_drawWord_78 : decode cX7_drawWord 78 = .ok (.iinc 8 1, 3) := by decide +kernel
theorem dX7_drawWord_81 : decode cX7_drawWord 81 = .ok (.goto (-38), 3) := by decide +kernel
theorem dX7_drawWord_84 : decode cX7_drawWord 84 = .ok (.lload 5, 2) := by decide +kernel
theorem dX7_drawWord_86 : decode cX7_drawWord 86 = .ok (.lreturn, 1) := by decide +kernel
theorem dX7_drawn_0 : decode cX7_drawn 0 = .ok (.lload_n 0, 1) := by decide +kernel
theorem dX7_drawn_1 : decode cX7_drawn 1 = .ok (.ldc2_w 227, 3) := by decide +kernel
theorem dX7_drawn_4 : decode cX7_drawn 4 = .ok (.lmul, 1) := by decide +kernel
theorem dX7_drawn_5 : decode cX7_drawn 5 = .ok (.ldc2_w 229, 3) := by decide +kernel
theorem dX7_drawn_8 : decode cX7_drawn 8 = .ok (.ladd, 1) := by decide +kernel
theorem dX7_drawn_9 : decode cX7_drawn 9 = .ok (.ldc2_w 231, 3) := by decide +kernel
theorem dX7_drawn_12 : decode cX7_drawn 12 = .ok (.lrem, 1) := by decide +kernel
theorem dX7_drawn_13 : decode cX7_drawn 13 = .ok (.lreturn, 1) := by decide +kernel
theorem dX7_isSign_0 : decode cX7_isSign 0 = .ok (.iload_n 0, 1) := by decide +kernel
theorem dX7_isSign_1 : decode cX7_isSign 1 = .ok (.bipush 97, 2) := by decide +kernel
theorem dX7_isSign_3 : decode cX7_isSign 3 = .ok (.if_icmp .lt 9, 3) := by decide +kernel
theorem dX7_isSign_6 : decode cX7_isSign 6 = .ok (.iload_n 0, 1) := by decide +kernel
theorem dX7_isSign_7 : decode cX7_isSign 7 = .ok (.bipush 122, 2) := by decide +kernel
theorem dX7_isSign_9 : decode cX7_isSign 9 = .ok (.if_icmp .le 27, 3) := by decide +kernel
theorem dX7_isSign_12 : decode cX7_isSign 12 = .ok (.iload_n 0, 1) := by decide +kernel
theorem dX7_isSign_13 : decode cX7_isSign 13 = .ok (.bipush 65, 2) := by decide +kernel
theorem dX7_isSign_15 : decode cX7_isSign 15 = .ok (.if_icmp .lt 9, 3) := by decide +kernel
theorem dX7_isSign_18 : decode cX7_isSign 18 = .ok (.iload_n 0, 1) := by decide +kernel
theorem dX7_isSign_19 : decode cX7_isSign 19 = .ok (.bipush 90, 2) := by decide +kernel
theorem dX7_isSign_21 : decode cX7_isSign 21 = .ok (.if_icmp .le 15, 3) := by decide +kernel
theorem dX7_isSign_24 : decode cX7_isSign 24 = .ok (.iload_n 0, 1) := by decide +kernel
theorem dX7_isSign_25 : decode cX7_isSign 25 = .ok (.bipush 48, 2) := by decide +kernel
theorem dX7_isSign_27 : decode cX7_isSign 27 = .ok (.if_icmp .lt 13, 3) := by decide +kernel
theorem dX7_isSign_30 : decode cX7_isSign 30 = .ok (.iload_n 0, 1) := by decide +kernel
theorem dX7_isSign_31 : decode cX7_isSign 31 = .ok (.bipush 57, 2) := by decide +kernel
theorem dX7_isSign_33 : decode cX7_isSign 33 = .ok (.if_icmp .gt 7, 3) := by decide +kernel
theorem dX7_isSign_36 : decode cX7_isSign 36 = .ok (.iconst 1, 1) := by decide +kernel
theorem dX7_isSign_37 : decode cX7_isSign 37 = .ok (.goto 4, 3) := by decide +kernel
theorem dX7_isSign_40 : decode cX7_isSign 40 = .ok (.iconst 0, 1) := by decide +kernel
theorem dX7_isSign_41 : decode cX7_isSign 41 = .ok (.ireturn, 1) := by decide +kernel
theorem dX8_init_0 : decode cX8_init 0 = .ok (.aload_n 0, 1) := by decide +kernel
theorem dX8_init_1 : decode cX8_init 1 = .ok (.invokespecial 1, 3) := by decide +kernel
theorem dX8_init_4 : decode cX8_init 4 = .ok (.aload_n 0, 1) := by decide +kernel
theorem dX8_init_5 : decode cX8_init 5 = .ok (.sipush 1552, 3) := by decide +kernel
theorem dX8_init_8 : decode cX8_init 8 = .ok (.newarray .int, 2) := by decide +kernel
theorem dX8_init_10 : decode cX8_init 10 = .ok (.putfield 7, 3) := by decide +kernel
theorem dX8_init_13 : decode cX8_init 13 = .ok (.aload_n 0, 1) := by decide +kernel
theorem dX8_init_14 : decode cX8_init 14 = .ok (.sipush 9312, 3) := by decide +kernel
theorem dX8_init_17 : decode cX8_init 17 = .ok (.newarray .int, 2) := by decide +kernel
theorem dX8_init_19 : decode cX8_init 19 = .ok (.putfield 13, 3) := by decide +kernel
theorem dX8_init_22 : decode cX8_init 22 = .ok (.aload_n 0, 1) := by decide +kernel
theorem dX8_init_23 : decode cX8_init 23 = .ok (.sipush 1552, 3) := by decide +kernel
theorem dX8_init_26 : decode cX8_init 26 = .ok (.newarray .int, 2) := by decide +kernel
theorem dX8_init_28 : decode cX8_init 28 = .ok (.putfield 16, 3) := by decide +kernel
theorem dX8_init_31 : decode cX8_init 31 = .ok (.aload_n 0, 1) := by decide +kernel
theorem dX8_init_32 : decode cX8_init 32 = .ok (.iconst 3, 1) := by decide +kernel
theorem dX8_init_33 : decode cX8_init 33 = .ok (.newarray .int, 2) := by decide +kernel
theorem dX8_init_35 : decode cX8_init 35 = .ok (.putfield 19, 3) := by decide +kernel
theorem dX8_init_38 : decode cX8_init 38 = .ok (.aload_n 0, 1) := by decide +kernel
theorem dX8_init_39 : decode cX8_init 39 = .ok (.bipush 120, 2) := by decide +kernel
theorem dX8_init_41 : decode cX8_init 41 = .ok (.newarray .int, 2) := by decide +kernel
theorem dX8_init_43 : decode cX8_init 43 = .ok (.putfield 22, 3) := by decide +kernel
theorem dX8_init_46 : decode cX8_init 46 = .ok (.aload_n 0, 1) := by decide +kernel
theorem dX8_init_47 : decode cX8_init 47 = .ok (.bipush 24, 2) := by decide +kernel
theorem dX8_init_49 : decode cX8_init 49 = .ok (.newarray .int, 2) := by decide +kernel
theorem dX8_init_51 : decode cX8_init 51 = .ok (.putfield 25, 3) := by decide +kernel
theorem dX8_init_54 : decode cX8_init 54 = .ok (.aload_n 0, 1) := by decide +kernel
theorem dX8_init_55 : decode cX8_init 55 = .ok (.bipush 10, 2) := by decide +kernel
theorem dX8_init_57 : decode cX8_init 57 = .ok (.newarray .int, 2) := by decide +kernel
theorem dX8_init_59 : decode cX8_init 59 = .ok (.putfield 28, 3) := by decide +kernel
theorem dX8_init_62 : decode cX8_init 62 = .ok (.aload_n 0, 1) := by decide +kernel
theorem dX8_init_63 : decode cX8_init 63 = .ok (.bipush 10, 2) := by decide +kernel
theorem dX8_init_65 : decode cX8_init 65 = .ok (.newarray .int, 2) := by decide +kernel
theorem dX8_init_67 : decode cX8_init 67 = .ok (.putfield 31, 3) := by decide +kernel
theorem dX8_init_70 : decode cX8_init 70 = .ok (.aload_n 0, 1) := by decide +kernel
theorem dX8_init_71 : decode cX8_init 71 = .ok (.bipush 10, 2) := by decide +kernel
theorem dX8_init_73 : decode cX8_init 73 = .ok (.newarray .int, 2) := by decide +kernel
theorem dX8_init_75 : decode cX8_init 75 = .ok (.putfield 34, 3) := by decide +kernel
theorem dX8_init_78 : decode cX8_init 78 = .ok (.aload_n 0, 1) := by decide +kernel
theorem dX8_init_79 : decode cX8_init 79 = .ok (.bipush 10, 2) := by decide +kernel
theorem dX8_init_81 : decode cX8_init 81 = .ok (.newarray .int, 2) := by decide +kernel
theorem dX8_init_83 : decode cX8_init 83 = .ok (.putfield 37, 3) := by decide +kernel
theorem dX8_init_86 : decode cX8_init 86 = .ok (.aload_n 0, 1) := by decide +kernel
theorem dX8_init_87 : decode cX8_init 87 = .ok (.bipush 8, 2) := by decide +kernel
theorem dX8_init_89 : decode cX8_init 89 = .ok (.newarray .int, 2) := by decide +kernel
theorem dX8_init_91 : decode cX8_init 91 = .ok (.putfield 40, 3) := by decide +kernel
theorem dX8_init_94 : decode cX8_init 94 = .ok (.aload_n 0, 1) := by decide +kernel
theorem dX8_init_95 : decode cX8_init 95 = .ok (.bipush 8, 2) := by decide +kernel
theorem dX8_init_97 : decode cX8_init 97 = .ok (.newarray .int, 2) := by decide +kernel
theorem dX8_init_99 : decode cX8_init 99 = .ok (.putfield 43, 3) := by decide +kernel
theorem dX8_init_102 : decode cX8_init 102 = .ok (.aload_n 0, 1) := by decide +kernel
theorem dX8_init_103 : decode cX8_init 103 = .ok (.bipush 8, 2) := by decide +kernel
theorem dX8_init_105 : decode cX8_init 105 = .ok (.newarray .int, 2) := by decide +kernel
theorem dX8_init_107 : decode cX8_init 107 = .ok (.putfield 46, 3) := by decide +kernel
theorem dX8_init_110 : decode cX8_init 110 = .ok (.aload_n 0, 1) := by decide +kernel
theorem dX8_init_111 : decode cX8_init 111 = .ok (.bipush 8, 2) := by decide +kernel
theorem dX8_init_113 : decode cX8_init 113 = .ok (.newarray .int, 2) := by decide +kernel
theorem dX8_init_115 : decode cX8_init 115 = .ok (.putfield 49, 3) := by decide +kernel
theorem dX8_init_118 : decode cX8_init 118 = .ok (.aload_n 0, 1) := by decide +kernel
theorem dX8_init_119 : decode cX8_init 119 = .ok (.bipush 8, 2) := by decide +kernel
theorem dX8_init_121 : decode cX8_init 121 = .ok (.newarray .int, 2) := by decide +kernel
theorem dX8_init_123 : decode cX8_init 123 = .ok (.putfield 52, 3) := by decide +kernel
theorem dX8_init_126 : decode cX8_init 126 = .ok (.aload_n 0, 1) := by decide +kernel
theorem dX8_init_127 : decode cX8_init 127 = .ok (.bipush 8, 2) := by decide +kernel
theorem dX8_init_129 : decode cX8_init 129 = .ok (.newarray .int, 2) := by decide +kernel
theorem dX8_init_131 : decode cX8_init 131 = .ok (.putfield 55, 3) := by decide +kernel
theorem dX8_init_134 : decode cX8_init 134 = .ok (.aload_n 0, 1) := by decide +kernel
theorem dX8_init_135 : decode cX8_init 135 = .ok (.bipush 10, 2) := by decide +kernel
theorem dX8_init_137 : decode cX8_init 137 = .ok (.newarray .int, 2) := by decide +kernel
theorem dX8_init_139 : decode cX8_init 139 = .ok (.putfield 58, 3) := by decide +kernel
theorem dX8_init_142 : decode cX8_init 142 = .ok (.aload_n 0, 1) := by decide +kernel
theorem dX8_init_143 : decode cX8_init 143 = .ok (.bipush 10, 2) := by decide +kernel
theorem dX8_init_145 : decode cX8_init 145 = .ok (.newarray .int, 2) := by decide +kernel
theorem dX8_init_147 : decode cX8_init 147 = .ok (.putfield 61, 3) := by decide +kernel
theorem dX8_init_150 : decode cX8_init 150 = .ok (.aload_n 0, 1) := by decide +kernel
theorem dX8_init_151 : decode cX8_init 151 = .ok (.bipush 10, 2) := by decide +kernel
theorem dX8_init_153 : decode cX8_init 153 = .ok (.newarray .int, 2) := by decide +kernel
theorem dX8_init_155 : decode cX8_init 155 = .ok (.putfield 64, 3) := by decide +kernel
theorem dX8_init_158 : decode cX8_init 158 = .ok (.aload_n 0, 1) := by decide +kernel
theorem dX8_init_159 : decode cX8_init 159 = .ok (.bipush 10, 2) := by decide +kernel
theorem dX8_init_161 : decode cX8_init 161 = .ok (.newarray .int, 2) := by decide +kernel
theorem dX8_init_163 : decode cX8_init 163 = .ok (.putfield 67, 3) := by decide +kernel
theorem dX8_init_166 : decode cX8_init 166 = .ok (.aload_n 0, 1) := by decide +kernel
theorem dX8_init_167 : decode cX8_init 167 = .ok (.bipush 24, 2) := by decide +kernel
theorem dX8_init_169 : decode cX8_init 169 = .ok (.newarray .int, 2) := by decide +kernel
theorem dX8_init_171 : decode cX8_init 171 = .ok (.putfield 70, 3) := by decide +kernel
theorem dX8_init_174 : decode cX8_init 174 = .ok (.aload_n 0, 1) := by decide +kernel
theorem dX8_init_175 : decode cX8_init 175 = .ok (.bipush 24, 2) := by decide +kernel
theorem dX8_init_177 : decode cX8_init 177 = .ok (.newarray .int, 2) := by decide +kernel
theorem dX8_init_179 : decode cX8_init 179 = .ok (.putfield 73, 3) := by decide +kernel
theorem dX8_init_182 : decode cX8_init 182 = .ok (.aload_n 0, 1) := by decide +kernel
theorem dX8_init_183 : decode cX8_init 183 = .ok (.bipush 24, 2) := by decide +kernel
theorem dX8_init_185 : decode cX8_init 185 = .ok (.newarray .int, 2) := by decide +kernel
theorem dX8_init_187 : decode cX8_init 187 = .ok (.putfield 76, 3) := by decide +kernel
theorem dX8_init_190 : decode cX8_init 190 = .ok (.aload_n 0, 1) := by decide +kernel
theorem dX8_init_191 : decode cX8_init 191 = .ok (.getfield 7, 3) := by decide +kernel
theorem dX8_init_194 : decode cX8_init 194 = .ok (.iconst 1, 1) := by decide +kernel
theorem dX8_init_195 : decode cX8_init 195 = .ok (.iconst 4, 1) := by decide +kernel
theorem dX8_init_196 : decode cX8_init 196 = .ok (.iastore, 1) := by decide +kernel
theorem dX8_init_197 : decode cX8_init 197 = .ok (.return_, 1) := by decide +kernel
theorem dX8_in_0 : decode cX8_in 0 = .ok (.iload_n 0, 1) := by decide +kernel
theorem dX8_in_1 : decode cX8_in 1 = .ok (.iload_n 1, 1) := by decide +kernel
theorem dX8_in_2 : decode cX8_in 2 = .ok (.if_icmp .lt 12, 3) := by decide +kernel
theorem dX8_in_5 : decode cX8_in 5 = .ok (.iload_n 0, 1) := by decide +kernel
theorem dX8_in_6 : decode cX8_in 6 = .ok (.iload_n 2, 1) := by decide +kernel
theorem dX8_in_7 : decode cX8_in 7 = .ok (.if_icmp .gt 7, 3) := by decide +kernel
theorem dX8_in_10 : decode cX8_in 10 = .ok (.iconst 1, 1) := by decide +kernel
theorem dX8_in_11 : decode cX8_in 11 = .ok (.goto 4, 3) := by decide +kernel
theorem dX8_in_14 : decode cX8_in 14 = .ok (.iconst 0, 1) := by decide +kernel
theorem dX8_in_15 : decode cX8_in 15 = .ok (.ireturn, 1) := by decide +kernel
theorem dX8_refuses_0 : decode cX8_refuses 0 = .ok (.aload_n 0, 1) := by decide +kernel
theorem dX8_refuses_1 : decode cX8_refuses 1 = .ok (.getfield 19, 3) := by decide +kernel
theorem dX8_refuses_4 : decode cX8_refuses 4 = .ok (.bipush (-2), 2) := by decide +kernel
theorem dX8_refuses_6 : decode cX8_refuses 6 = .ok (.iload_n 1, 1) := by decide +kernel
theorem dX8_refuses_7 : decode cX8_refuses 7 = .ok (.isub, 1) := by decide +kernel
theorem dX8_refuses_8 : decode cX8_refuses 8 = .ok (.dup2, 1) := by decide +kernel
theorem dX8_refuses_9 : decode cX8_refuses 9 = .ok (.iaload, 1) := by decide +kernel
theorem dX8_refuses_10 : decode cX8_refuses 10 = .ok (.iconst 1, 1) := by decide +kernel
theorem dX8_refuses_11 : decode cX8_refuses 11 = .ok (.iadd, 1) := by decide +kernel
theorem dX8_refuses_12 : decode cX8_refuses 12 = .ok (.iastore, 1) := by decide +kernel
theorem dX8_refuses_13 : decode cX8_refuses 13 = .ok (.iload_n 1, 1) := by decide +kernel
theorem dX8_refuses_14 : decode cX8_refuses 14 = .ok (.ireturn, 1) := by decide +kernel
theorem dX8_aside_0 : decode cX8_aside 0 = .ok (.iconst 0, 1) := by decide +kernel
theorem dX8_aside_1 : decode cX8_aside 1 = .ok (.istore_n 1, 1) := by decide +kernel
theorem dX8_aside_2 : decode cX8_aside 2 = .ok (.iload_n 1, 1) := by decide +kernel
theorem dX8_aside_3 : decode cX8_aside 3 = .ok (.sipush 1552, 3) := by decide +kernel
theorem dX8_aside_6 : decode cX8_aside 6 = .ok (.if_icmp .ge 21, 3) := by decide +kernel
theorem dX8_aside_9 : decode cX8_aside 9 = .ok (.aload_n 0, 1) := by decide +kernel
theorem dX8_aside_10 : decode cX8_aside 10 = .ok (.getfield 16, 3) := by decide +kernel
theorem dX8_aside_13 : decode cX8_aside 13 = .ok (.iload_n 1, 1) := by decide +kernel
theorem dX8_aside_14 : decode cX8_aside 14 = .ok (.aload_n 0, 1) := by decide +kernel
theorem dX8_aside_15 : decode cX8_aside 15 = .ok (.getfield 7, 3) := by decide +kernel
theorem dX8_aside_18 : decode cX8_aside 18 = .ok (.iload_n 1, 1) := by decide +kernel
theorem dX8_aside_19 : decode cX8_aside 19 = .ok (.iaload, 1) := by decide +kernel
theorem dX8_aside_20 : decode cX8_aside 20 = .ok (.iastore, 1) := by decide +kernel
theorem dX8_aside_21 : decode cX8_aside 21 = .ok (.iinc 1 1, 3) := by decide +kernel
theorem dX8_aside_24 : decode cX8_aside 24 = .ok (.goto (-22), 3) := by decide +kernel
theorem dX8_aside_27 : decode cX8_aside 27 = .ok (.return_, 1) := by decide +kernel
theorem dX8_keeps_0 : decode cX8_keeps 0 = .ok (.aload_n 0, 1) := by decide +kernel
theorem dX8_keeps_1 : decode cX8_keeps 1 = .ok (.getfield 79, 3) := by decide +kernel
theorem dX8_keeps_4 : decode cX8_keeps 4 = .ok (.bipush 6, 2) := by decide +kernel
theorem dX8_keeps_6 : decode cX8_keeps 6 = .ok (.if_icmp .ne 44, 3) := by decide +kernel
theorem dX8_keeps_9 : decode cX8_keeps 9 = .ok (.iconst 0, 1) := by decide +kernel
theorem dX8_keeps_10 : decode cX8_keeps 10 = .ok (.istore_n 1, 1) := by decide +kernel
theorem dX8_keeps_11 : decode cX8_keeps 11 = .ok (.iload_n 1, 1) := by decide +kernel
theorem dX8_keeps_12 : decode cX8_keeps 12 = .ok (.sipush 7760, 3) := by decide +kernel
theorem dX8_keeps_15 : decode cX8_keeps 15 = .ok (.if_icmp .ge 25, 3) := by decide +kernel
theorem dX8_keeps_18 : decode cX8_keeps 18 = .ok (.aload_n 0, 1) := by decide +kernel
theorem dX8_keeps_19 : decode cX8_keeps 19 = .ok (.getfield 13, 3) := by decide +kernel
theorem dX8_keeps_22 : decode cX8_keeps 22 = .ok (.iload_n 1, 1) := by decide +kernel
theorem dX8_keeps_23 : decode cX8_keeps 23 = .ok (.aload_n 0, 1) := by decide +kernel
theorem dX8_keeps_24 : decode cX8_keeps 24 = .ok (.getfield 13, 3) := by decide +kernel
theorem dX8_keeps_27 : decode cX8_keeps 27 = .ok (.iload_n 1, 1) := by decide +kernel
theorem dX8_keeps_28 : decode cX8_keeps 28 = .ok (.sipush 1552, 3) := by decide +kernel
theorem dX8_keeps_31 : decode cX8_keeps 31 = .ok (.iadd, 1) := by decide +kernel
theorem dX8_keeps_32 : decode cX8_keeps 32 = .ok (.iaload, 1) := by decide +kernel
theorem dX8_keeps_33 : decode cX8_keeps 33 = .ok (.iastore, 1) := by decide +kernel
theorem dX8_keeps_34 : decode cX8_keeps 34 = .ok (.iinc 1 1, 3) := by decide +kernel
theorem dX8_keeps_37 : decode cX8_keeps 37 = .ok (.goto (-26), 3) := by decide +kernel
theorem dX8_keeps_40 : decode cX8_keeps 40 = .ok (.aload_n 0, 1) := by decide +kernel
theorem dX8_keeps_41 : decode cX8_keeps 41 = .ok (.dup, 1) := by decide +kernel
theorem dX8_keeps_42 : decode cX8_keeps 42 = .ok (.getfield 79, 3) := by decide +kernel
theorem dX8_keeps_45 : decode cX8_keeps 45 = .ok (.iconst 1, 1) := by decide +kernel
theorem dX8_keeps_46 : decode cX8_keeps 46 = .ok (.isub, 1) := by decide +kernel
theorem dX8_keeps_47 : decode cX8_keeps 47 = .ok (.putfield 79, 3) := by decide +kernel
theorem dX8_keeps_50 : decode cX8_keeps 50 = .ok (.iconst 0, 1) := by decide +kernel
theorem dX8_keeps_51 : decode cX8_keeps 51 = .ok (.istore_n 1, 1) := by decide +kernel
theorem dX8_keeps_52 : decode cX8_keeps 52 = .ok (.iload_n 1, 1) := by decide +kernel
theorem dX8_keeps_53 : decode cX8_keeps 53 = .ok (.sipush 1552, 3) := by decide +kernel
theorem dX8_keeps_56 : decode cX8_keeps 56 = .ok (.if_icmp .ge 30, 3) := by decide +kernel
theorem dX8_keeps_59 : decode cX8_keeps 59 = .ok (.aload_n 0, 1) := by decide +kernel
theorem dX8_keeps_60 : decode cX8_keeps 60 = .ok (.getfield 13, 3) := by decide +kernel
theorem dX8_keeps_63 : decode cX8_keeps 63 = .ok (.sipush 1552, 3) := by decide +kernel
theorem dX8_keeps_66 : decode cX8_keeps 66 = .ok (.aload_n 0, 1) := by decide +kernel
theorem dX8_keeps_67 : decode cX8_keeps 67 = .ok (.getfield 79, 3) := by decide +kernel
theorem dX8_keeps_70 : decode cX8_keeps 70 = .ok (.imul, 1) := by decide +kernel
theorem dX8_keeps_71 : decode cX8_keeps 71 = .ok (.iload_n 1, 1) := by decide +kernel
theorem dX8_keeps_72 : decode cX8_keeps 72 = .ok (.iadd, 1) := by decide +kernel
theorem dX8_keeps_73 : decode cX8_keeps 73 = .ok (.aload_n 0, 1) := by decide +kernel
theorem dX8_keeps_74 : decode cX8_keeps 74 = .ok (.getfield 16, 3) := by decide +kernel
theorem dX8_keeps_77 : decode cX8_keeps 77 = .ok (.iload_n 1, 1) := by decide +kernel
theorem dX8_keeps_78 : decode cX8_keeps 78 = .ok (.iaload, 1) := by decide +kernel
theorem dX8_keeps_79 : decode cX8_keeps 79 = .ok (.iastore, 1) := by decide +kernel
theorem dX8_keeps_80 : decode cX8_keeps 80 = .ok (.iinc 1 1, 3) := by decide +kernel
theorem dX8_keeps_83 : decode cX8_keeps 83 = .ok (.goto (-31), 3) := by decide +kernel
theorem dX8_keeps_86 : decode cX8_keeps 86 = .ok (.aload_n 0, 1) := by decide +kernel
theorem dX8_keeps_87 : decode cX8_keeps 87 = .ok (.dup, 1) := by decide +kernel
theorem dX8_keeps_88 : decode cX8_keeps 88 = .ok (.getfield 79, 3) := by decide +kernel
theorem dX8_keeps_91 : decode cX8_keeps 91 = .ok (.iconst 1, 1) := by decide +kernel
theorem dX8_keeps_92 : decode cX8_keeps 92 = .ok (.iadd, 1) := by decide +kernel
theorem dX8_keeps_93 : decode cX8_keeps 93 = .ok (.putfield 79, 3) := by decide +kernel
theorem dX8_keeps_96 : decode cX8_keeps 96 = .ok (.return_, 1) := by decide +kernel
theorem dX8_lengthOf_0 : decode cX8_lengthOf 0 = .ok (.iload_n 1, 1) := by decide +kernel
theorem dX8_lengthOf_1 : decode cX8_lengthOf 1 = .ok (.bipush 48, 2) := by decide +kernel
theorem dX8_lengthOf_3 : decode cX8_lengthOf 3 = .ok (.if_icmp .ne 10, 3) := by decide +kernel
theorem dX8_lengthOf_6 : decode cX8_lengthOf 6 = .ok (.aload_n 0, 1) := by decide +kernel
theorem dX8_lengthOf_7 : decode cX8_lengthOf 7 = .ok (.getfield 83, 3) := by decide +kernel
theorem dX8_lengthOf_10 : decode cX8_lengthOf 10 = .ok (.goto 13, 3) := by decide +kernel
theorem dX8_lengthOf_13 : decode cX8_lengthOf 13 = .ok (.aload_n 0, 1) := by decide +kernel
theorem dX8_lengthOf_14 : decode cX8_lengthOf 14 = .ok (.getfield 7, 3) := by decide +kernel
theorem dX8_lengthOf_17 : decode cX8_lengthOf 17 = .ok (.sipush 350, 3) := by decide +kernel
theorem dX8_lengthOf_20 : decode cX8_lengthOf 20 = .ok (.iload_n 1, 1) := by decide +kernel
theorem dX8_lengthOf_21 : decode cX8_lengthOf 21 = .ok (.iadd, 1) := by decide +kernel
theorem dX8_lengthOf_22 : decode cX8_lengthOf 22 = .ok (.iaload, 1) := by decide +kernel
theorem dX8_lengthOf_23 : decode cX8_lengthOf 23 = .ok (.ireturn, 1) := by decide +kernel
theorem dX8_signOf_0 : decode cX8_signOf 0 = .ok (.iload_n 1, 1) := by decide +kernel
theorem dX8_signOf_1 : decode cX8_signOf 1 = .ok (.bipush 48, 2) := by decide +kernel
theorem dX8_signOf_3 : decode cX8_signOf 3 = .ok (.if_icmp .ne 12, 3) := by decide +kernel
theorem dX8_signOf_6 : decode cX8_signOf 6 = .ok (.aload_n 0, 1) := by decide +kernel
theorem dX8_signOf_7 : decode cX8_signOf 7 = .ok (.getfield 25, 3) := by decide +kernel
theorem dX8_signOf_10 : decode cX8_signOf 10 = .ok (.iload_n 2, 1) := by decide +kernel
theorem dX8_signOf_11 : decode cX8_signOf 11 = .ok (.iaload, 1) := by decide +kernel
theorem dX8_signOf_12 : decode cX8_signOf 12 = .ok (.goto 18, 3) := by decide +kernel
theorem dX8_signOf_15 : decode cX8_signOf 15 = .ok (.aload_n 0, 1) := by decide +kernel
theorem dX8_signOf_16 : decode cX8_signOf 16 = .ok (.getfield 7, 3) := by decide +kernel
theorem dX8_signOf_19 : decode cX8_signOf 19 = .ok (.sipush 400, 3) := by decide +kernel
theorem dX8_signOf_22 : decode cX8_signOf 22 = .ok (.bipush 24, 2) := by decide +kernel
theorem dX8_signOf_24 : decode cX8_signOf 24 = .ok (.iload_n 1, 1) := by decide +kernel
theorem dX8_signOf_25 : decode cX8_signOf 25 = .ok (.imul, 1) := by decide +kernel
theorem dX8_signOf_26 : decode cX8_signOf 26 = .ok (.iadd, 1) := by decide +kernel
theorem dX8_signOf_27 : decode cX8_signOf 27 = .ok (.iload_n 2, 1) := by decide +kernel
theorem dX8_signOf_28 : decode cX8_signOf 28 = .ok (.iadd, 1) := by decide +kernel
theorem dX8_signOf_29 : decode cX8_signOf 29 = .ok (.iaload, 1) := by decide +kernel
theorem dX8_signOf_30 : decode cX8_signOf 30 = .ok (.ireturn, 1) := by decide +kernel
set_option maxRecDepth 20000 in
theorem ggX8_bitOf_X8_lengthOf : GoodIn wsX8_bitOf wsX8_lengthOf := goodIn_r _ [5, 6, 7, 13, 14, 15, 16, 17, 18, 19, 20, 21, 22, 23, 24, 25, 26, 27, 28, 29, 30, 31, 32, 33, 34, 35, 36, 37, 38, 39, 40, 41, 42, 43, 44, 45, 46] (by decide +kernel) (by decide +kernel)
set_option maxRecDepth 20000 in
theorem gX8_bitOf_X8_lengthOf : GoodIn wsX8_bitOf (wsV RX8 86 RX8 yX8_lengthOf wsX8_lengthOf) := goodIn_app (goodIn_of _ (by decide +kernel)) ggX8_bitOf_X8_lengthOf
set_option maxRecDepth 20000 in
theorem ggX8_bitOf_X8_signOf : GoodIn wsX8_bitOf wsX8_signOf := goodIn_r _ [11, 12, 7, 13, 14, 15, 16, 17, 18, 19, 20, 21, 22, 23, 24, 25, 26, 27, 28, 29, 30, 31, 32, 33, 34, 35, 36, 37, 38, 39, 40, 41, 42, 43, 44, 45, 46] (by decide +kernel) (by decide +kernel)
set_option maxRecDepth 20000 in
theorem gX8_bitOf_X8_signOf : GoodIn wsX8_bitOf (wsV RX8 90 RX8 yX8_signOf wsX8_signOf) := goodIn_app (goodIn_of _ (by decide +kernel)) ggX8_bitOf_X8_signOf
theorem dX8_bitOf_0 : decode cX8_bitOf 0 = .ok (.iload_n 2, 1) := by decide +kernel
theorem dX8_bitOf_1 : decode cX8_bitOf 1 = .ok (.bipush 8, 2) := by decide +kernel
theorem dX8_bitOf_3 : decode cX8_bitOf 3 = .ok (.idiv, 1) := by decide +kernel
theorem dX8_bitOf_4 : decode cX8_bitOf 4 = .ok (.aload_n 0, 1) := by decide +kernel
theorem dX8_bitOf_5 : decode cX8_bitOf 5 = .ok (.iload_n 1, 1) := by decide +kernel
theorem dX8_bitOf_6 : decode cX8_bitOf 6 = .ok (.invokevirtual 86, 3) := by decide +kernel
theorem dX8_bitOf_9 : decode cX8_bitOf 9 = .ok (.if_icmp .ge 25, 3) := by decide +kernel
theorem dX8_bitOf_12 : decode cX8_bitOf 12 = .ok (.aload_n 0, 1) := by decide +kernel
theorem dX8_bitOf_13 : decode cX8_bitOf 13 = .ok (.iload_n 1, 1) := by decide +kernel
theorem dX8_bitOf_14 : decode cX8_bitOf 14 = .ok (.iload_n 2, 1) := by decide +kernel
theorem dX8_bitOf_15 : decode cX8_bitOf 15 = .ok (.bipush 8, 2) := by decide +kernel
theorem dX8_bitOf_17 : decode cX8_bitOf 17 = .ok (.idiv, 1) := by decide +kernel
theorem dX8_bitOf_18 : decode cX8_bitOf 18 = .ok (.invokevirtual 90, 3) := by decide +kernel
theorem dX8_bitOf_21 : decode cX8_bitOf 21 = .ok (.bipush 7, 2) := by decide +kernel
theorem dX8_bitOf_23 : decode cX8_bitOf 23 = .ok (.iload_n 2, 1) := by decide +kernel
theorem dX8_bitOf_24 : decode cX8_bitOf 24 = .ok (.bipush 8, 2) := by decide +kernel
theorem dX8_bitOf_26 : decode cX8_bitOf 26 = .ok (.irem, 1) := by decide +kernel
theorem dX8_bitOf_27 : decode cX8_bitOf 27 = .ok (.isub, 1) := by decide +kernel
theorem dX8_bitOf_28 : decode cX8_bitOf 28 = .ok (.ishr, 1) := by decide +kernel
theorem dX8_bitOf_29 : decode cX8_bitOf 29 = .ok (.iconst 1, 1) := by decide +kernel
theorem dX8_bitOf_30 : decode cX8_bitOf 30 = .ok (.iand, 1) := by decide +kernel
theorem dX8_bitOf_31 : decode cX8_bitOf 31 = .ok (.goto 4, 3) := by decide +kernel
theorem dX8_bitOf_34 : decode cX8_bitOf 34 = .ok (.iconst 0, 1) := by decide +kernel
theorem dX8_bitOf_35 : decode cX8_bitOf 35 = .ok (.ireturn, 1) := by decide +kernel
set_option maxRecDepth 20000 in
theorem ggX8_differ_X8_bitOf : GoodIn wsX8_differ wsX8_bitOf := goodIn_r _ [5, 6, 7, 8, 4, 9, 10, 11, 12, 13, 14, 15, 16, 17, 18, 19, 20, 21, 22, 23, 24, 25, 26, 27, 28, 29, 30, 31, 32, 33, 34, 35, 36, 37, 38, 39, 40, 41, 42, 43, 44, 45, 46, 47, 48, 49, 50] (by decide +kernel) (by decide +kernel)
set_option maxRecDepth 20000 in
theorem gX8_differ_X8_bitOf : GoodIn wsX8_differ (wsV RX8 94 RX8 yX8_bitOf wsX8_bitOf) := goodIn_app (goodIn_of _ (by decide +kernel)) ggX8_differ_X8_bitOf
theorem dX8_differ_0 : decode cX8_differ 0 = .ok (.iconst (-1), 1) := by decide +kernel
theorem dX8_differ_1 : decode cX8_differ 1 = .ok (.istore_n 3, 1) := by decide +kernel
theorem dX8_differ_2 : decode cX8_differ 2 = .ok (.sipush 191, 3) := by decide +kernel
theorem dX8_differ_5 : decode cX8_differ 5 = .ok (.istore 4, 2) := by decide +kernel
theorem dX8_differ_7 : decode cX8_differ 7 = .ok (.iload 4, 2) := by decide +kernel
theorem dX8_differ_9 : decode cX8_differ 9 = .ok (.ifCond .lt 33, 3) := by decide +kernel
theorem dX8_differ_12 : decode cX8_differ 12 = .ok (.aload_n 0, 1) := by decide +kernel
theorem dX8_differ_13 : decode cX8_differ 13 = .ok (.iload_n 1, 1) := by decide +kernel
theorem dX8_differ_14 : decode cX8_differ 14 = .ok (.iload 4, 2) := by decide +kernel
theorem dX8_differ_16 : decode cX8_differ 16 = .ok (.invokevirtual 94, 3) := by decide +kernel
theorem dX8_differ_19 : decode cX8_differ 19 = .ok (.aload_n 0, 1) := by decide +kernel
theorem dX8_differ_20 : decode cX8_differ 20 = .ok (.iload_n 2, 1) := by decide +kernel
theorem dX8_differ_21 : decode cX8_differ 21 = .ok (.iload 4, 2) := by decide +kernel
theorem dX8_differ_23 : decode cX8_differ 23 = .ok (.invokevirtual 94, 3) := by decide +kernel
theorem dX8_differ_26 : decode cX8_differ 26 = .ok (.if_icmp .eq 8, 3) := by decide +kernel
theorem dX8_differ_29 : decode cX8_differ 29 = .ok (.iload 4, 2) := by decide +kernel
theorem dX8_differ_31 : decode cX8_differ 31 = .ok (.goto 4, 3) := by decide +kernel
theorem dX8_differ_34 : decode cX8_differ 34 = .ok (.iload_n 3, 1) := by decide +kernel
theorem dX8_differ_35 : decode cX8_differ 35 = .ok (.istore_n 3, 1) := by decide +kernel
theorem dX8_differ_36 : decode cX8_differ 36 = .ok (.iinc 4 (-1), 3) := by decide +kernel
theorem dX8_differ_39 : decode cX8_differ 39 = .ok (.goto (-32), 3) := by decide +kernel
theorem dX8_differ_42 : decode cX8_differ 42 = .ok (.iload_n 3, 1) := by decide +kernel
theorem dX8_differ_43 : decode cX8_differ 43 = .ok (.ireturn, 1) := by decide +kernel
set_option maxRecDepth 20000 in
theorem ggX8_isAhead_X8_differ : GoodIn wsX8_isAhead wsX8_differ := goodIn_r _ [5, 6, 7, 8, 4, 9, 10, 11, 12, 13, 14, 15, 16, 17, 18, 19, 20, 21, 22, 23, 24, 25, 26, 27, 28, 29, 30, 31, 32, 33, 34, 35, 36, 37, 38, 39, 40, 41, 42, 43, 44, 45, 46, 47, 48, 49, 50, 51, 52, 53, 54] (by decide +kernel) (by decide +kernel)
set_option maxRecDepth 20000 in
theorem gX8_isAhead_X8_differ : GoodIn wsX8_isAhead (wsV RX8 97 RX8 yX8_differ wsX8_differ) := goodIn_app (goodIn_of _ (by decide +kernel)) ggX8_isAhead_X8_differ
set_option maxRecDepth 20000 in
theorem ggX8_isAhead_X8_bitOf : GoodIn wsX8_isAhead wsX8_bitOf := goodIn_r _ [9, 10, 11, 12, 4, 13, 14, 15, 16, 17, 18, 19, 20, 21, 22, 23, 24, 25, 26, 27, 28, 29, 30, 31, 32, 33, 34, 35, 36, 37, 38, 39, 40, 41, 42, 43, 44, 45, 46, 47, 48, 49, 50, 51, 52, 53, 54] (by decide +kernel) (by decide +kernel)
set_option maxRecDepth 20000 in
theorem gX8_isAhead_X8_bitOf : GoodIn wsX8_isAhead (wsV RX8 94 RX8 yX8_bitOf wsX8_bitOf) := goodIn_app (goodIn_of _ (by decide +kernel)) ggX8_isAhead_X8_bitOf
theorem dX8_isAhead_0 : decode cX8_isAhead 0 = .ok (.aload_n 0, 1) := by decide +kernel
theorem dX8_isAhead_1 : decode cX8_isAhead 1 = .ok (.iload_n 1, 1) := by decide +kernel
theorem dX8_isAhead_2 : decode cX8_isAhead 2 = .ok (.iload_n 2, 1) := by decide +kernel
theorem dX8_isAhead_3 : decode cX8_isAhead 3 = .ok (.invokevirtual 97, 3) := by decide +kernel
theorem dX8_isAhead_6 : decode cX8_isAhead 6 = .ok (.istore_n 3, 1) := by decide +kernel
theorem dX8_isAhead_7 : decode cX8_isAhead 7 = .ok (.iload_n 3, 1) := by decide +kernel
theorem dX8_isAhead_8 : decode cX8_isAhead 8 = .ok (.iconst (-1), 1) := by decide +kernel
theorem dX8_isAhead_9 : decode cX8_isAhead 9 = .ok (.if_icmp .eq 16, 3) := by decide +kernel
theorem dX8_isAhead_12 : decode cX8_isAhead 12 = .ok (.aload_n 0, 1) := by decide +kernel
theorem dX8_isAhead_13 : decode cX8_isAhead 13 = .ok (.iload_n 1, 1) := by decide +kernel
theorem dX8_isAhead_14 : decode cX8_isAhead 14 = .ok (.iload_n 3, 1) := by decide +kernel
theorem dX8_isAhead_15 : decode cX8_isAhead 15 = .ok (.invokevirtual 94, 3) := by decide +kernel
theorem dX8_isAhead_18 : decode cX8_isAhead 18 = .ok (.ifCond .ne 7, 3) := by decide +kernel
theorem dX8_isAhead_21 : decode cX8_isAhead 21 = .ok (.iconst 1, 1) := by decide +kernel
theorem dX8_isAhead_22 : decode cX8_isAhead 22 = .ok (.goto 4, 3) := by decide +kernel
theorem dX8_isAhead_25 : decode cX8_isAhead 25 = .ok (.iconst 0, 1) := by decide +kernel
theorem dX8_isAhead_26 : decode cX8_isAhead 26 = .ok (.ireturn, 1) := by decide +kernel
set_option maxRecDepth 20000 in
theorem ggX8_ahead_X8_isAhead : GoodIn wsX8_ahead wsX8_isAhead := goodIn_r _ [6, 7, 8, 9, 5, 10, 11, 12, 13, 14, 15, 16, 17, 18, 19, 1, 20, 21, 22, 23, 24, 25, 26, 27, 28, 29, 30, 31, 32, 33, 34, 35, 36, 37, 38, 39, 40, 41, 42, 43, 44, 45, 46, 47, 48, 49, 50, 51, 52, 53, 54, 55, 56, 57, 58] (by decide +kernel) (by decide +kernel)
set_option maxRecDepth 20000 in
theorem gX8_ahead_X8_isAhead : GoodIn wsX8_ahead (wsV RX8 100 RX8 yX8_isAhead wsX8_isAhead) := goodIn_app (goodIn_of _ (by decide +kernel)) ggX8_ahead_X8_isAhead
theorem dX8_ahead_0 : decode cX8_ahead 0 = .ok (.iconst 0, 1) := by decide +kernel
theorem dX8_ahead_1 : decode cX8_ahead 1 = .ok (.istore_n 1, 1) := by decide +kernel
theorem dX8_ahead_2 : decode cX8_ahead 2 = .ok (.iconst 0, 1) := by decide +kernel
theorem dX8_ahead_3 : decode cX8_ahead 3 = .ok (.istore_n 2, 1) := by decide +kernel
theorem dX8_ahead_4 : decode cX8_ahead 4 = .ok (.iload_n 2, 1) := by decide +kernel
theorem dX8_ahead_5 : decode cX8_ahead 5 = .ok (.aload_n 0, 1) := by decide +kernel
theorem dX8_ahead_6 : decode cX8_ahead 6 = .ok (.getfield 7, 3) := by decide +kernel
theorem dX8_ahead_9 : decode cX8_ahead 9 = .ok (.iconst 0, 1) := by decide +kernel
theorem dX8_ahead_10 : decode cX8_ahead 10 = .ok (.iaload, 1) := by decide +kernel
theorem dX8_ahead_11 : decode cX8_ahead 11 = .ok (.if_icmp .ge 27, 3) := by decide +kernel
theorem dX8_ahead_14 : decode cX8_ahead 14 = .ok (.iload_n 1, 1) := by decide +kernel
theorem dX8_ahead_15 : decode cX8_ahead 15 = .ok (.aload_n 0, 1) := by decide +kernel
theorem dX8_ahead_16 : decode cX8_ahead 16 = .ok (.iload_n 2, 1) := by decide +kernel
theorem dX8_ahead_17 : decode cX8_ahead 17 = .ok (.bipush 48, 2) := by decide +kernel
theorem dX8_ahead_19 : decode cX8_ahead 19 = .ok (.invokevirtual 100, 3) := by decide +kernel
theorem dX8_ahead_22 : decode cX8_ahead 22 = .ok (.ifCond .eq 7, 3) := by decide +kernel
theorem dX8_ahead_25 : decode cX8_ahead 25 = .ok (.iconst 1, 1) := by decide +kernel
theorem dX8_ahead_26 : decode cX8_ahead 26 = .ok (.goto 4, 3) := by decide +kernel
theorem dX8_ahead_29 : decode cX8_ahead 29 = .ok (.iconst 0, 1) := by decide +kernel
theorem dX8_ahead_30 : decode cX8_ahead 30 = .ok (.iadd, 1) := by decide +kernel
theorem dX8_ahead_31 : decode cX8_ahead 31 = .ok (.istore_n 1, 1) := by decide +kernel
theorem dX8_ahead_32 : decode cX8_ahead 32 = .ok (.iinc 2 1, 3) := by decide +kernel
theorem dX8_ahead_35 : decode cX8_ahead 35 = .ok (.goto (-31), 3) := by decide +kernel
theorem dX8_ahead_38 : decode cX8_ahead 38 = .ok (.iload_n 1, 1) := by decide +kernel
theorem dX8_ahead_39 : decode cX8_ahead 39 = .ok (.ireturn, 1) := by decide +kernel
set_option maxRecDepth 20000 in
theorem ggX8_isThere_X8_differ : GoodIn wsX8_isThere wsX8_differ := goodIn_r _ [6, 7, 8, 9, 5, 10, 11, 12, 13, 14, 15, 1, 16, 17, 18, 19, 20, 21, 22, 23, 24, 25, 26, 27, 28, 29, 30, 31, 32, 33, 34, 35, 36, 37, 38, 39, 40, 41, 42, 43, 44, 45, 46, 47, 48, 49, 50, 51, 52, 53, 54] (by decide +kernel) (by decide +kernel)
set_option maxRecDepth 20000 in
theorem gX8_isThere_X8_differ : GoodIn wsX8_isThere (wsV RX8 97 RX8 yX8_differ wsX8_differ) := goodIn_app (goodIn_of _ (by decide +kernel)) ggX8_isThere_X8_differ
theorem dX8_isThere_0 : decode cX8_isThere 0 = .ok (.iconst 0, 1) := by decide +kernel
theorem dX8_isThere_1 : decode cX8_isThere 1 = .ok (.istore_n 1, 1) := by decide +kernel
theorem dX8_isThere_2 : decode cX8_isThere 2 = .ok (.iconst 0, 1) := by decide +kernel
theorem dX8_isThere_3 : decode cX8_isThere 3 = .ok (.istore_n 2, 1) := by decide +kernel
theorem dX8_isThere_4 : decode cX8_isThere 4 = .ok (.iload_n 2, 1) := by decide +kernel
theorem dX8_isThere_5 : decode cX8_isThere 5 = .ok (.aload_n 0, 1) := by decide +kernel
theorem dX8_isThere_6 : decode cX8_isThere 6 = .ok (.getfield 7, 3) := by decide +kernel
theorem dX8_isThere_9 : decode cX8_isThere 9 = .ok (.iconst 0, 1) := by decide +kernel
theorem dX8_isThere_10 : decode cX8_isThere 10 = .ok (.iaload, 1) := by decide +kernel
theorem dX8_isThere_11 : decode cX8_isThere 11 = .ok (.if_icmp .ge 30, 3) := by decide +kernel
theorem dX8_isThere_14 : decode cX8_isThere 14 = .ok (.iload_n 1, 1) := by decide +kernel
theorem dX8_isThere_15 : decode cX8_isThere 15 = .ok (.ifCond .ne 14, 3) := by decide +kernel
theorem dX8_isThere_18 : decode cX8_isThere 18 = .ok (.aload_n 0, 1) := by decide +kernel
theorem dX8_isThere_19 : decode cX8_isThere 19 = .ok (.iload_n 2, 1) := by decide +kernel
theorem dX8_isThere_20 : decode cX8_isThere 20 = .ok (.bipush 48, 2) := by decide +kernel
theorem dX8_isThere_22 : decode cX8_isThere 22 = .ok (.invokevirtual 97, 3) := by decide +kernel
theorem dX8_isThere_25 : decode cX8_isThere 25 = .ok (.iconst (-1), 1) := by decide +kernel
theorem dX8_isThere_26 : decode cX8_isThere 26 = .ok (.if_icmp .ne 7, 3) := by decide +kernel
theorem dX8_isThere_29 : decode cX8_isThere 29 = .ok (.iconst 1, 1) := by decide +kernel
theorem dX8_isThere_30 : decode cX8_isThere 30 = .ok (.goto 4, 3) := by decide +kernel
theorem dX8_isThere_33 : decode cX8_isThere 33 = .ok (.iconst 0, 1) := by decide +kernel
theorem dX8_isThere_34 : decode cX8_isThere 34 = .ok (.istore_n 1, 1) := by decide +kernel
theorem dX8_isThere_35 : decode cX8_isThere 35 = .ok (.iinc 2 1, 3) := by decide +kernel
theorem dX8_isThere_38 : decode cX8_isThere 38 = .ok (.goto (-34), 3) := by decide +kernel
theorem dX8_isThere_41 : decode cX8_isThere 41 = .ok (.iload_n 1, 1) := by decide +kernel
theorem dX8_isThere_42 : decode cX8_isThere 42 = .ok (.ireturn, 1) := by decide +kernel
theorem dX8_sizeOf_0 : decode cX8_sizeOf 0 = .ok (.aload_n 0, 1) := by decide +kernel
theorem dX8_sizeOf_1 : decode cX8_sizeOf 1 = .ok (.getfield 7, 3) := by decide +kernel
theorem dX8_sizeOf_4 : decode cX8_sizeOf 4 = .ok (.bipush 12, 2) := by decide +kernel
theorem dX8_sizeOf_6 : decode cX8_sizeOf 6 = .ok (.bipush 48, 2) := by decide +kernel
theorem dX8_sizeOf_8 : decode cX8_sizeOf 8 = .ok (.iload_n 1, 1) := by decide +kernel
theorem dX8_sizeOf_9 : decode cX8_sizeOf 9 = .ok (.imul, 1) := by decide +kernel
theorem dX8_sizeOf_10 : decode cX8_sizeOf 10 = .ok (.iadd, 1) := by decide +kernel
theorem dX8_sizeOf_11 : decode cX8_sizeOf 11 = .ok (.iload_n 2, 1) := by decide +kernel
theorem dX8_sizeOf_12 : decode cX8_sizeOf 12 = .ok (.iadd, 1) := by decide +kernel
theorem dX8_sizeOf_13 : decode cX8_sizeOf 13 = .ok (.iaload, 1) := by decide +kernel
theorem dX8_sizeOf_14 : decode cX8_sizeOf 14 = .ok (.ireturn, 1) := by decide +kernel
theorem dX8_setSize_0 : decode cX8_setSize 0 = .ok (.aload_n 0, 1) := by decide +kernel
theorem dX8_setSize_1 : decode cX8_setSize 1 = .ok (.getfield 7, 3) := by decide +kernel
theorem dX8_setSize_4 : decode cX8_setSize 4 = .ok (.bipush 12, 2) := by decide +kernel
theorem dX8_setSize_6 : decode cX8_setSize 6 = .ok (.bipush 48, 2) := by decide +kernel
theorem dX8_setSize_8 : decode cX8_setSize 8 = .ok (.iload_n 1, 1) := by decide +kernel
theorem dX8_setSize_9 : decode cX8_setSize 9 = .ok (.imul, 1) := by decide +kernel
theorem dX8_setSize_10 : decode cX8_setSize 10 = .ok (.iadd, 1) := by decide +kernel
theorem dX8_setSize_11 : decode cX8_setSize 11 = .ok (.iload_n 2, 1) := by decide +kernel
theorem dX8_setSize_12 : decode cX8_setSize 12 = .ok (.iadd, 1) := by decide +kernel
theorem dX8_setSize_13 : decode cX8_setSize 13 = .ok (.iload_n 3, 1) := by decide +kernel
theorem dX8_setSize_14 : decode cX8_setSize 14 = .ok (.iastore, 1) := by decide +kernel
theorem dX8_setSize_15 : decode cX8_setSize 15 = .ok (.return_, 1) := by decide +kernel
set_option maxRecDepth 20000 in
theorem ggX8_entriesAhead_X8_sizeOf : GoodIn wsX8_entriesAhead wsX8_sizeOf := goodIn_r _ [5, 6, 7, 8, 9, 10, 11, 12, 13, 14, 15, 16, 17, 18, 19, 20, 21, 22, 23, 24, 25, 26, 27, 28, 29, 30, 31, 32, 33, 34, 35, 36, 37, 38, 39, 40] (by decide +kernel) (by decide +kernel)
set_option maxRecDepth 20000 in
theorem gX8_entriesAhead_X8_sizeOf : GoodIn wsX8_entriesAhead (wsV RX8 104 RX8 yX8_sizeOf wsX8_sizeOf) := goodIn_app (goodIn_of _ (by decide +kernel)) ggX8_entriesAhead_X8_sizeOf
theorem dX8_entriesAhead_0 : decode cX8_entriesAhead 0 = .ok (.iconst 0, 1) := by decide +kernel
theorem dX8_entriesAhead_1 : decode cX8_entriesAhead 1 = .ok (.istore_n 3, 1) := by decide +kernel
theorem dX8_entriesAhead_2 : decode cX8_entriesAhead 2 = .ok (.iconst 0, 1) := by decide +kernel
theorem dX8_entriesAhead_3 : decode cX8_entriesAhead 3 = .ok (.istore 4, 2) := by decide +kernel
theorem dX8_entriesAhead_5 : decode cX8_entriesAhead 5 = .ok (.iload 4, 2) := by decide +kernel
theorem dX8_entriesAhead_7 : decode cX8_entriesAhead 7 = .ok (.iload_n 2, 1) := by decide +kernel
theorem dX8_entriesAhead_8 : decode cX8_entriesAhead 8 = .ok (.if_icmp .ge 19, 3) := by decide +kernel
theorem dX8_entriesAhead_11 : decode cX8_entriesAhead 11 = .ok (.iload_n 3, 1) := by decide +kernel
theorem dX8_entriesAhead_12 : decode cX8_entriesAhead 12 = .ok (.aload_n 0, 1) := by decide +kernel
theorem dX8_entriesAhead_13 : decode cX8_entriesAhead 13 = .ok (.iload_n 1, 1) := by decide +kernel
theorem dX8_entriesAhead_14 : decode cX8_entriesAhead 14 = .ok (.iload 4, 2) := by decide +kernel
theorem dX8_entriesAhead_16 : decode cX8_entriesAhead 16 = .ok (.invokevirtual 104, 3) := by decide +kernel
theorem dX8_entriesAhead_19 : decode cX8_entriesAhead 19 = .ok (.iadd, 1) := by decide +kernel
theorem dX8_entriesAhead_20 : decode cX8_entriesAhead 20 = .ok (.istore_n 3, 1) := by decide +kernel
theorem dX8_entriesAhead_21 : decode cX8_entriesAhead 21 = .ok (.iinc 4 1, 3) := by decide +kernel
theorem dX8_entriesAhead_24 : decode cX8_entriesAhead 24 = .ok (.goto (-19), 3) := by decide +kernel
theorem dX8_entriesAhead_27 : decode cX8_entriesAhead 27 = .ok (.iload_n 3, 1) := by decide +kernel
theorem dX8_entriesAhead_28 : decode cX8_entriesAhead 28 = .ok (.ireturn, 1) := by decide +kernel
set_option maxRecDepth 20000 in
theorem ggX8_headOf_X8_entriesAhead : GoodIn wsX8_headOf wsX8_entriesAhead := goodIn_r _ [5, 6, 7, 8, 4, 9, 10, 11, 12, 13, 14, 15, 16, 17, 18, 19, 20, 21, 22, 23, 24, 25, 26, 27, 28, 29, 30, 31, 32, 33, 34, 35, 36, 37, 38, 39, 40, 41, 42, 43, 44] (by decide +kernel) (by decide +kernel)
set_option maxRecDepth 20000 in
theorem gX8_headOf_X8_entriesAhead : GoodIn wsX8_headOf (wsV RX8 107 RX8 yX8_entriesAhead wsX8_entriesAhead) := goodIn_app (goodIn_of _ (by decide +kernel)) ggX8_headOf_X8_entriesAhead
theorem dX8_headOf_0 : decode cX8_headOf 0 = .ok (.iload_n 2, 1) := by decide +kernel
theorem dX8_headOf_1 : decode cX8_headOf 1 = .ok (.istore_n 3, 1) := by decide +kernel
theorem dX8_headOf_2 : decode cX8_headOf 2 = .ok (.iload_n 1, 1) := by decide +kernel
theorem dX8_headOf_3 : decode cX8_headOf 3 = .ok (.istore 4, 2) := by decide +kernel
theorem dX8_headOf_5 : decode cX8_headOf 5 = .ok (.iload 4, 2) := by decide +kernel
theorem dX8_headOf_7 : decode cX8_headOf 7 = .ok (.ifCond .lt 17, 3) := by decide +kernel
theorem dX8_headOf_10 : decode cX8_headOf 10 = .ok (.aload_n 0, 1) := by decide +kernel
theorem dX8_headOf_11 : decode cX8_headOf 11 = .ok (.iload 4, 2) := by decide +kernel
theorem dX8_headOf_13 : decode cX8_headOf 13 = .ok (.iload_n 3, 1) := by decide +kernel
theorem dX8_headOf_14 : decode cX8_headOf 14 = .ok (.invokevirtual 107, 3) := by decide +kernel
theorem dX8_headOf_17 : decode cX8_headOf 17 = .ok (.istore_n 3, 1) := by decide +kernel
theorem dX8_headOf_18 : decode cX8_headOf 18 = .ok (.iinc 4 (-1), 3) := by decide +kernel
theorem dX8_headOf_21 : decode cX8_headOf 21 = .ok (.goto (-16), 3) := by decide +kernel
theorem dX8_headOf_24 : decode cX8_headOf 24 = .ok (.iload_n 3, 1) := by decide +kernel
theorem dX8_headOf_25 : decode cX8_headOf 25 = .ok (.ireturn, 1) := by decide +kernel
theorem dX8_topLevel_0 : decode cX8_topLevel 0 = .ok (.aload_n 0, 1) := by decide +kernel
theorem dX8_topLevel_1 : decode cX8_topLevel 1 = .ok (.getfield 7, 3) := by decide +kernel
theorem dX8_topLevel_4 : decode cX8_topLevel 4 = .ok (.iconst 2, 1) := by decide +kernel
theorem dX8_topLevel_5 : decode cX8_topLevel 5 = .ok (.iaload, 1) := by decide +kernel
theorem dX8_topLevel_6 : decode cX8_topLevel 6 = .ok (.iconst 1, 1) := by decide +kernel
theorem dX8_topLevel_7 : decode cX8_topLevel 7 = .ok (.isub, 1) := by decide +kernel
theorem dX8_topLevel_8 : decode cX8_topLevel 8 = .ok (.ireturn, 1) := by decide +kernel
theorem dX8_numberOf_0 : decode cX8_numberOf 0 = .ok (.iload_n 2, 1) := by decide +kernel
theorem dX8_numberOf_1 : decode cX8_numberOf 1 = .ok (.istore_n 3, 1) := by decide +kernel
theorem dX8_numberOf_2 : decode cX8_numberOf 2 = .ok (.iload_n 1, 1) := by decide +kernel
theorem dX8_numberOf_3 : decode cX8_numberOf 3 = .ok (.iconst 1, 1) := by decide +kernel
theorem dX8_numberOf_4 : decode cX8_numberOf 4 = .ok (.iadd, 1) := by decide +kernel
theorem dX8_numberOf_5 : decode cX8_numberOf 5 = .ok (.istore 4, 2) := by decide +kernel
theorem dX8_numberOf_7 : decode cX8_numberOf 7 = .ok (.iload 4, 2) := by decide +kernel
theorem dX8_numberOf_9 : decode cX8_numberOf 9 = .ok (.aload_n 0, 1) := by decide +kernel
theorem dX8_numberOf_10 : decode cX8_numberOf 10 = .ok (.getfield 7, 3) := by decide +kernel
theorem dX8_numberOf_13 : decode cX8_numberOf 13 = .ok (.iconst 2, 1) := by decide +kernel
theorem dX8_numberOf_14 : decode cX8_numberOf 14 = .ok (.iaload, 1) := by decide +kernel
theorem dX8_numberOf_15 : decode cX8_numberOf 15 = .ok (.if_icmp .ge 21, 3) := by decide +kernel
theorem dX8_numberOf_18 : decode cX8_numberOf 18 = .ok (.iload_n 3, 1) := by decide +kernel
theorem dX8_numberOf_19 : decode cX8_numberOf 19 = .ok (.aload_n 0, 1) := by decide +kernel
theorem dX8_numberOf_20 : decode cX8_numberOf 20 = .ok (.getfield 7, 3) := by decide +kernel
theorem dX8_numberOf_23 : decode cX8_numberOf 23 = .ok (.iconst 3, 1) := by decide +kernel
theorem dX8_numberOf_24 : decode cX8_numberOf 24 = .ok (.iload 4, 2) := by decide +kernel
theorem dX8_numberOf_26 : decode cX8_numberOf 26 = .ok (.iadd, 1) := by decide +kernel
theorem dX8_numberOf_27 : decode cX8_numberOf 27 = .ok (.iaload, 1) := by decide +kernel
theorem dX8_numberOf_28 : decode cX8_numberOf 28 = .ok (.iadd, 1) := by decide +kernel
theorem dX8_numberOf_29 : decode cX8_numberOf 29 = .ok (.istore_n 3, 1) := by decide +kernel
theorem dX8_numberOf_30 : decode cX8_numberOf 30 = .ok (.iinc 4 1, 3) := by decide +kernel
theorem dX8_numberOf_33 : decode cX8_numberOf 33 = .ok (.goto (-26), 3) := by decide +kernel
theorem dX8_numberOf_36 : decode cX8_numberOf 36 = .ok (.iload_n 3, 1) := by decide +kernel
theorem dX8_numberOf_37 : decode cX8_numberOf 37 = .ok (.ireturn, 1) := by decide +kernel
theorem dX8_manyPages_0 : decode cX8_manyPages 0 = .ok (.iconst 0, 1) := by decide +kernel
theorem dX8_manyPages_1 : decode cX8_manyPages 1 = .ok (.istore_n 1, 1) := by decide +kernel
theorem dX8_manyPages_2 : decode cX8_manyPages 2 = .ok (.iconst 0, 1) := by decide +kernel
theorem dX8_manyPages_3 : decode cX8_manyPages 3 = .ok (.istore_n 2, 1) := by decide +kernel
theorem dX8_manyPages_4 : decode cX8_manyPages 4 = .ok (.iload_n 2, 1) := by decide +kernel
theorem dX8_manyPages_5 : decode cX8_manyPages 5 = .ok (.aload_n 0, 1) := by decide +kernel
theorem dX8_manyPages_6 : decode cX8_manyPages 6 = .ok (.getfield 7, 3) := by decide +kernel
theorem dX8_manyPages_9 : decode cX8_manyPages 9 = .ok (.iconst 2, 1) := by decide +kernel
theorem dX8_manyPages_10 : decode cX8_manyPages 10 = .ok (.iaload, 1) := by decide +kernel
theorem dX8_manyPages_11 : decode cX8_manyPages 11 = .ok (.if_icmp .ge 20, 3) := by decide +kernel
theorem dX8_manyPages_14 : decode cX8_manyPages 14 = .ok (.iload_n 1, 1) := by decide +kernel
theorem dX8_manyPages_15 : decode cX8_manyPages 15 = .ok (.aload_n 0, 1) := by decide +kernel
theorem dX8_manyPages_16 : decode cX8_manyPages 16 = .ok (.getfield 7, 3) := by decide +kernel
theorem dX8_manyPages_19 : decode cX8_manyPages 19 = .ok (.iconst 3, 1) := by decide +kernel
theorem dX8_manyPages_20 : decode cX8_manyPages 20 = .ok (.iload_n 2, 1) := by decide +kernel
theorem dX8_manyPages_21 : decode cX8_manyPages 21 = .ok (.iadd, 1) := by decide +kernel
theorem dX8_manyPages_22 : decode cX8_manyPages 22 = .ok (.iaload, 1) := by decide +kernel
theorem dX8_manyPages_23 : decode cX8_manyPages 23 = .ok (.iadd, 1) := by decide +kernel
theorem dX8_manyPages_24 : decode cX8_manyPages 24 = .ok (.istore_n 1, 1) := by decide +kernel
theorem dX8_manyPages_25 : decode cX8_manyPages 25 = .ok (.iinc 2 1, 3) := by decide +kernel
theorem dX8_manyPages_28 : decode cX8_manyPages 28 = .ok (.goto (-24), 3) := by decide +kernel
theorem dX8_manyPages_31 : decode cX8_manyPages 31 = .ok (.iload_n 1, 1) := by decide +kernel
theorem dX8_manyPages_32 : decode cX8_manyPages 32 = .ok (.ireturn, 1) := by decide +kernel
set_option maxRecDepth 20000 in
theorem ggX8_levelOf_X8_topLevel : GoodIn wsX8_levelOf wsX8_topLevel := goodIn_r _ [6, 1, 7, 8, 9, 10, 11, 12, 13, 14, 15, 16, 17, 18, 19, 20, 21, 22, 23, 24, 25, 26, 27, 28, 29, 30, 31, 32, 33, 34, 35, 36, 37, 38, 39, 40] (by decide +kernel) (by decide +kernel)
set_option maxRecDepth 20000 in
theorem gX8_levelOf_X8_topLevel : GoodIn wsX8_levelOf (wsV RX8 110 RX8 yX8_topLevel wsX8_topLevel) := goodIn_app (goodIn_of _ (by decide +kernel)) ggX8_levelOf_X8_topLevel
theorem dX8_levelOf_0 : decode cX8_levelOf 0 = .ok (.aload_n 0, 1) := by decide +kernel
theorem dX8_levelOf_1 : decode cX8_levelOf 1 = .ok (.invokevirtual 110, 3) := by decide +kernel
theorem dX8_levelOf_4 : decode cX8_levelOf 4 = .ok (.istore_n 2, 1) := by decide +kernel
theorem dX8_levelOf_5 : decode cX8_levelOf 5 = .ok (.iload_n 1, 1) := by decide +kernel
theorem dX8_levelOf_6 : decode cX8_levelOf 6 = .ok (.istore_n 3, 1) := by decide +kernel
theorem dX8_levelOf_7 : decode cX8_levelOf 7 = .ok (.iload_n 3, 1) := by decide +kernel
theorem dX8_levelOf_8 : decode cX8_levelOf 8 = .ok (.aload_n 0, 1) := by decide +kernel
theorem dX8_levelOf_9 : decode cX8_levelOf 9 = .ok (.getfield 7, 3) := by decide +kernel
theorem dX8_levelOf_12 : decode cX8_levelOf 12 = .ok (.iconst 3, 1) := by decide +kernel
theorem dX8_levelOf_13 : decode cX8_levelOf 13 = .ok (.iload_n 2, 1) := by decide +kernel
theorem dX8_levelOf_14 : decode cX8_levelOf 14 = .ok (.iadd, 1) := by decide +kernel
theorem dX8_levelOf_15 : decode cX8_levelOf 15 = .ok (.iaload, 1) := by decide +kernel
theorem dX8_levelOf_16 : decode cX8_levelOf 16 = .ok (.if_icmp .lt 20, 3) := by decide +kernel
theorem dX8_levelOf_19 : decode cX8_levelOf 19 = .ok (.iload_n 3, 1) := by decide +kernel
theorem dX8_levelOf_20 : decode cX8_levelOf 20 = .ok (.aload_n 0, 1) := by decide +kernel
theorem dX8_levelOf_21 : decode cX8_levelOf 21 = .ok (.getfield 7, 3) := by decide +kernel
theorem dX8_levelOf_24 : decode cX8_levelOf 24 = .ok (.iconst 3, 1) := by decide +kernel
theorem dX8_levelOf_25 : decode cX8_levelOf 25 = .ok (.iload_n 2, 1) := by decide +kernel
theorem dX8_levelOf_26 : decode cX8_levelOf 26 = .ok (.iadd, 1) := by decide +kernel
theorem dX8_levelOf_27 : decode cX8_levelOf 27 = .ok (.iaload, 1) := by decide +kernel
theorem dX8_levelOf_28 : decode cX8_levelOf 28 = .ok (.isub, 1) := by decide +kernel
theorem dX8_levelOf_29 : decode cX8_levelOf 29 = .ok (.istore_n 3, 1) := by decide +kernel
theorem dX8_levelOf_30 : decode cX8_levelOf 30 = .ok (.iinc 2 (-1), 3) := by decide +kernel
theorem dX8_levelOf_33 : decode cX8_levelOf 33 = .ok (.goto (-26), 3) := by decide +kernel
theorem dX8_levelOf_36 : decode cX8_levelOf 36 = .ok (.iload_n 2, 1) := by decide +kernel
theorem dX8_levelOf_37 : decode cX8_levelOf 37 = .ok (.ireturn, 1) := by decide +kernel
set_option maxRecDepth 20000 in
theorem ggX8_pageOf_X8_levelOf : GoodIn wsX8_pageOf wsX8_levelOf := goodIn_r _ [5, 6, 7, 8, 9, 4, 10, 15, 16, 17, 18, 19, 20, 21, 22, 23, 24, 25, 26, 27, 28, 29, 30, 31, 32, 33, 34, 35, 36, 37, 38, 39, 40, 41, 42, 43, 44, 45, 46, 47, 48] (by decide +kernel) (by decide +kernel)
set_option maxRecDepth 20000 in
theorem gX8_pageOf_X8_levelOf : GoodIn wsX8_pageOf (wsV RX8 114 RX8 yX8_levelOf wsX8_levelOf) := goodIn_app (goodIn_of _ (by decide +kernel)) ggX8_pageOf_X8_levelOf
set_option maxRecDepth 20000 in
theorem ggX8_pageOf_X8_numberOf : GoodIn wsX8_pageOf wsX8_numberOf := goodIn_r _ [14, 6, 15, 16, 17, 18, 19, 20, 21, 22, 23, 24, 25, 26, 27, 28, 29, 30, 31, 32, 33, 34, 35, 36, 37, 38, 39, 40, 41, 42, 43, 44, 45, 46, 47, 48] (by decide +kernel) (by decide +kernel)
set_option maxRecDepth 20000 in
theorem gX8_pageOf_X8_numberOf : GoodIn wsX8_pageOf (wsV RX8 117 RX8 yX8_numberOf wsX8_numberOf) := goodIn_app (goodIn_of _ (by decide +kernel)) ggX8_pageOf_X8_numberOf
theorem dX8_pageOf_0 : decode cX8_pageOf 0 = .ok (.iload_n 1, 1) := by decide +kernel
theorem dX8_pageOf_1 : decode cX8_pageOf 1 = .ok (.aload_n 0, 1) := by decide +kernel
theorem dX8_pageOf_2 : decode cX8_pageOf 2 = .ok (.aload_n 0, 1) := by decide +kernel
theorem dX8_pageOf_3 : decode cX8_pageOf 3 = .ok (.iload_n 1, 1) := by decide +kernel
theorem dX8_pageOf_4 : decode cX8_pageOf 4 = .ok (.invokevirtual 114, 3) := by decide +kernel
theorem dX8_pageOf_7 : decode cX8_pageOf 7 = .ok (.iconst 0, 1) := by decide +kernel
theorem dX8_pageOf_8 : decode cX8_pageOf 8 = .ok (.invokevirtual 117, 3) := by decide +kernel
theorem dX8_pageOf_11 : decode cX8_pageOf 11 = .ok (.isub, 1) := by decide +kernel
theorem dX8_pageOf_12 : decode cX8_pageOf 12 = .ok (.ireturn, 1) := by decide +kernel
set_option maxRecDepth 20000 in
theorem ggX8_over_X8_entriesAhead : GoodIn wsX8_over wsX8_entriesAhead := goodIn_r _ [5, 6, 7, 8, 4, 9, 10, 11, 12, 13, 14, 15, 16, 17, 18, 19, 20, 21, 22, 23, 24, 25, 26, 27, 28, 29, 30, 31, 32, 33, 34, 35, 36, 37, 38, 39, 40, 41, 42, 43, 44] (by decide +kernel) (by decide +kernel)
set_option maxRecDepth 20000 in
theorem gX8_over_X8_entriesAhead : GoodIn wsX8_over (wsV RX8 107 RX8 yX8_entriesAhead wsX8_entriesAhead) := goodIn_app (goodIn_of _ (by decide +kernel)) ggX8_over_X8_entriesAhead
theorem dX8_over_0 : decode cX8_over 0 = .ok (.iconst 0, 1) := by decide +kernel
theorem dX8_over_1 : decode cX8_over 1 = .ok (.istore_n 3, 1) := by decide +kernel
theorem dX8_over_2 : decode cX8_over 2 = .ok (.aload_n 0, 1) := by decide +kernel
theorem dX8_over_3 : decode cX8_over 3 = .ok (.iload_n 1, 1) := by decide +kernel
theorem dX8_over_4 : decode cX8_over 4 = .ok (.iconst 1, 1) := by decide +kernel
theorem dX8_over_5 : decode cX8_over 5 = .ok (.iadd, 1) := by decide +kernel
theorem dX8_over_6 : decode cX8_over 6 = .ok (.iload_n 3, 1) := by decide +kernel
theorem dX8_over_7 : decode cX8_over 7 = .ok (.iconst 1, 1) := by decide +kernel
theorem dX8_over_8 : decode cX8_over 8 = .ok (.iadd, 1) := by decide +kernel
theorem dX8_over_9 : decode cX8_over 9 = .ok (.invokevirtual 107, 3) := by decide +kernel
theorem dX8_over_12 : decode cX8_over 12 = .ok (.iload_n 2, 1) := by decide +kernel
theorem dX8_over_13 : decode cX8_over 13 = .ok (.if_icmp .gt 9, 3) := by decide +kernel
theorem dX8_over_16 : decode cX8_over 16 = .ok (.iinc 3 1, 3) := by decide +kernel
theorem dX8_over_19 : decode cX8_over 19 = .ok (.goto (-17), 3) := by decide +kernel
theorem dX8_over_22 : decode cX8_over 22 = .ok (.iload_n 3, 1) := by decide +kernel
theorem dX8_over_23 : decode cX8_over 23 = .ok (.ireturn, 1) := by decide +kernel
set_option maxRecDepth 20000 in
theorem ggX8_laysHeads_X8_sizeOf : GoodIn wsX8_laysHeads wsX8_sizeOf := goodIn_r _ [7, 8, 17, 18, 19, 20, 21, 22, 23, 24, 25, 26, 27, 28, 29, 30, 31, 32, 33, 34, 35, 36, 37, 38, 39, 40, 41, 42, 43, 44, 45, 46, 47, 48, 49, 50] (by decide +kernel) (by decide +kernel)
set_option maxRecDepth 20000 in
theorem gX8_laysHeads_X8_sizeOf : GoodIn wsX8_laysHeads (wsV RX8 104 RX8 yX8_sizeOf wsX8_sizeOf) := goodIn_app (goodIn_of _ (by decide +kernel)) ggX8_laysHeads_X8_sizeOf
set_option maxRecDepth 20000 in
theorem ggX8_laysHeads_X8_entriesAhead : GoodIn wsX8_laysHeads wsX8_entriesAhead := goodIn_r _ [12, 3, 4, 5, 6, 7, 8, 17, 18, 19, 20, 21, 22, 23, 24, 25, 26, 27, 28, 29, 30, 31, 32, 33, 34, 35, 36, 37, 38, 39, 40, 41, 42, 43, 44, 45, 46, 47, 48, 49, 50] (by decide +kernel) (by decide +kernel)
set_option maxRecDepth 20000 in
theorem gX8_laysHeads_X8_entriesAhead : GoodIn wsX8_laysHeads (wsV RX8 107 RX8 yX8_entriesAhead wsX8_entriesAhead) := goodIn_app (goodIn_of _ (by decide +kernel)) ggX8_laysHeads_X8_entriesAhead
set_option maxRecDepth 20000 in
theorem ggX8_laysHeads_X8_headOf : GoodIn wsX8_laysHeads wsX8_headOf := goodIn_r _ [16, 9, 10, 11, 6, 12, 3, 4, 5, 7, 8, 17, 18, 19, 20, 21, 22, 23, 24, 25, 26, 27, 28, 29, 30, 31, 32, 33, 34, 35, 36, 37, 38, 39, 40, 41, 42, 43, 44, 45, 46, 47, 48, 49, 50] (by decide +kernel) (by decide +kernel)
set_option maxRecDepth 20000 in
theorem gX8_laysHeads_X8_headOf : GoodIn wsX8_laysHeads (wsV RX8 123 RX8 yX8_headOf wsX8_headOf) := goodIn_app (goodIn_of _ (by decide +kernel)) ggX8_laysHeads_X8_headOf
theorem dX8_laysHeads_0 : decode cX8_laysHeads 0 = .ok (.aload_n 0, 1) := by decide +kernel
theorem dX8_laysHeads_1 : decode cX8_laysHeads 1 = .ok (.aload_n 0, 1) := by decide +kernel
theorem dX8_laysHeads_2 : decode cX8_laysHeads 2 = .ok (.iload_n 1, 1) := by decide +kernel
theorem dX8_laysHeads_3 : decode cX8_laysHeads 3 = .ok (.iload_n 2, 1) := by decide +kernel
theorem dX8_laysHeads_4 : decode cX8_laysHeads 4 = .ok (.invokevirtual 104, 3) := by decide +kernel
theorem dX8_laysHeads_7 : decode cX8_laysHeads 7 = .ok (.putfield 120, 3) := by decide +kernel
theorem dX8_laysHeads_10 : decode cX8_laysHeads 10 = .ok (.aload_n 0, 1) := by decide +kernel
theorem dX8_laysHeads_11 : decode cX8_laysHeads 11 = .ok (.iload_n 1, 1) := by decide +kernel
theorem dX8_laysHeads_12 : decode cX8_laysHeads 12 = .ok (.iload_n 2, 1) := by decide +kernel
theorem dX8_laysHeads_13 : decode cX8_laysHeads 13 = .ok (.invokevirtual 107, 3) := by decide +kernel
theorem dX8_laysHeads_16 : decode cX8_laysHeads 16 = .ok (.istore_n 3, 1) := by decide +kernel
theorem dX8_laysHeads_17 : decode cX8_laysHeads 17 = .ok (.iconst 0, 1) := by decide +kernel
theorem dX8_laysHeads_18 : decode cX8_laysHeads 18 = .ok (.istore 4, 2) := by decide +kernel
theorem dX8_laysHeads_20 : decode cX8_laysHeads 20 = .ok (.iload 4, 2) := by decide +kernel
theorem dX8_laysHeads_22 : decode cX8_laysHeads 22 = .ok (.aload_n 0, 1) := by decide +kernel
theorem dX8_laysHeads_23 : decode cX8_laysHeads 23 = .ok (.getfield 120, 3) := by decide +kernel
theorem dX8_laysHeads_26 : decode cX8_laysHeads 26 = .ok (.if_icmp .ge 38, 3) := by decide +kernel
theorem dX8_laysHeads_29 : decode cX8_laysHeads 29 = .ok (.aload_n 0, 1) := by decide +kernel
theorem dX8_laysHeads_30 : decode cX8_laysHeads 30 = .ok (.getfield 28, 3) := by decide +kernel
theorem dX8_laysHeads_33 : decode cX8_laysHeads 33 = .ok (.iload 4, 2) := by decide +kernel
theorem dX8_laysHeads_35 : decode cX8_laysHeads 35 = .ok (.iload_n 1, 1) := by decide +kernel
theorem dX8_laysHeads_36 : decode cX8_laysHeads 36 = .ok (.ifCond .ne 10, 3) := by decide +kernel
theorem dX8_laysHeads_39 : decode cX8_laysHeads 39 = .ok (.iload_n 3, 1) := by decide +kernel
theorem dX8_laysHeads_40 : decode cX8_laysHeads 40 = .ok (.iload 4, 2) := by decide +kernel
theorem dX8_laysHeads_42 : decode cX8_laysHeads 42 = .ok (.iadd, 1) := by decide +kernel
theorem dX8_laysHeads_43 : decode cX8_laysHeads 43 = .ok (.goto 14, 3) := by decide +kernel
theorem dX8_laysHeads_46 : decode cX8_laysHeads 46 = .ok (.aload_n 0, 1) := by decide +kernel
theorem dX8_laysHeads_47 : decode cX8_laysHeads 47 = .ok (.iload_n 1, 1) := by decide +kernel
theorem dX8_laysHeads_48 : decode cX8_laysHeads 48 = .ok (.iconst 1, 1) := by decide +kernel
theorem dX8_laysHeads_49 : decode cX8_laysHeads 49 = .ok (.isub, 1) := by decide +kernel
theorem dX8_laysHeads_50 : decode cX8_laysHeads 50 = .ok (.iload_n 3, 1) := by decide +kernel
theorem dX8_laysHeads_51 : decode cX8_laysHeads 51 = .ok (.iload 4, 2) := by decide +kernel
theorem dX8_laysHeads_53 : decode cX8_laysHeads 53 = .ok (.iadd, 1) := by decide +kernel
theorem dX8_laysHeads_54 : decode cX8_laysHeads 54 = .ok (.invokevirtual 123, 3) := by decide +kernel
theorem dX8_laysHeads_57 : decode cX8_laysHeads 57 = .ok (.iastore, 1) := by decide +kernel
theorem dX8_laysHeads_58 : decode cX8_laysHeads 58 = .ok (.iinc 4 1, 3) := by decide +kernel
theorem dX8_laysHeads_61 : decode cX8_laysHeads 61 = .ok (.goto (-41), 3) := by decide +kernel
theorem dX8_laysHeads_64 : decode cX8_laysHeads 64 = .ok (.return_, 1) := by decide +kernel
set_option maxRecDepth 20000 in
theorem ggX8_parting_X8_bitOf : GoodIn wsX8_parting wsX8_bitOf := goodIn_r _ [6, 7, 8, 9, 5, 10, 11, 12, 13, 14, 15, 16, 17, 18, 19, 20, 21, 22, 23, 24, 25, 26, 27, 28, 29, 30, 31, 32, 33, 34, 35, 36, 37, 38, 39, 40, 41, 42, 43, 44, 45, 46, 47, 48, 49, 50, 51] (by decide +kernel) (by decide +kernel)
set_option maxRecDepth 20000 in
theorem gX8_parting_X8_bitOf : GoodIn wsX8_parting (wsV RX8 94 RX8 yX8_bitOf wsX8_bitOf) := goodIn_app (goodIn_of _ (by decide +kernel)) ggX8_parting_X8_bitOf
theorem dX8_parting_0 : decode cX8_parting 0 = .ok (.iload_n 1, 1) := by decide +kernel
theorem dX8_parting_1 : decode cX8_parting 1 = .ok (.istore 4, 2) := by decide +kernel
theorem dX8_parting_3 : decode cX8_parting 3 = .ok (.iload 4, 2) := by decide +kernel
theorem dX8_parting_5 : decode cX8_parting 5 = .ok (.iload_n 2, 1) := by decide +kernel
theorem dX8_parting_6 : decode cX8_parting 6 = .ok (.if_icmp .ge 24, 3) := by decide +kernel
theorem dX8_parting_9 : decode cX8_parting 9 = .ok (.aload_n 0, 1) := by decide +kernel
theorem dX8_parting_10 : decode cX8_parting 10 = .ok (.aload_n 0, 1) := by decide +kernel
theorem dX8_parting_11 : decode cX8_parting 11 = .ok (.getfield 28, 3) := by decide +kernel
theorem dX8_parting_14 : decode cX8_parting 14 = .ok (.iload 4, 2) := by decide +kernel
theorem dX8_parting_16 : decode cX8_parting 16 = .ok (.iaload, 1) := by decide +kernel
theorem dX8_parting_17 : decode cX8_parting 17 = .ok (.iload_n 3, 1) := by decide +kernel
theorem dX8_parting_18 : decode cX8_parting 18 = .ok (.invokevirtual 94, 3) := by decide +kernel
theorem dX8_parting_21 : decode cX8_parting 21 = .ok (.ifCond .ne 9, 3) := by decide +kernel
theorem dX8_parting_24 : decode cX8_parting 24 = .ok (.iinc 4 1, 3) := by decide +kernel
theorem dX8_parting_27 : decode cX8_parting 27 = .ok (.goto (-24), 3) := by decide +kernel
theorem dX8_parting_30 : decode cX8_parting 30 = .ok (.iload 4, 2) := by decide +kernel
theorem dX8_parting_32 : decode cX8_parting 32 = .ok (.ireturn, 1) := by decide +kernel
set_option maxRecDepth 20000 in
theorem ggX8_looksAt_X8_laysHeads : GoodIn wsX8_looksAt wsX8_laysHeads := goodIn_r _ [15, 2, 3, 16, 17, 18, 14, 19, 20, 21, 22, 23, 24, 25, 26, 27, 28, 51, 52, 53, 54, 55, 56, 57, 58, 59, 60, 61, 62, 63, 64, 65, 66, 67, 68, 69, 70, 71, 72, 73, 74, 75, 76, 77, 78, 79, 80, 81, 82, 83, 84] (by decide +kernel) (by decide +kernel)
set_option maxRecDepth 20000 in
theorem gX8_looksAt_X8_laysHeads : GoodIn wsX8_looksAt (wsV RX8 126 RX8 yX8_laysHeads wsX8_laysHeads) := goodIn_app (goodIn_of _ (by decide +kernel)) ggX8_looksAt_X8_laysHeads
set_option maxRecDepth 20000 in
theorem ggX8_looksAt_X8_differ : GoodIn wsX8_looksAt wsX8_differ := goodIn_r _ [32, 33, 34, 35, 14, 36, 37, 38, 39, 40, 41, 20, 42, 43, 44, 45, 46, 51, 52, 53, 54, 55, 56, 57, 58, 59, 60, 61, 62, 63, 64, 65, 66, 67, 68, 69, 70, 71, 72, 73, 74, 75, 76, 77, 78, 79, 80, 81, 82, 83, 84] (by decide +kernel) (by decide +kernel)
set_option maxRecDepth 20000 in
theorem gX8_looksAt_X8_differ : GoodIn wsX8_looksAt (wsV RX8 97 RX8 yX8_differ wsX8_differ) := goodIn_app (goodIn_of _ (by decide +kernel)) ggX8_looksAt_X8_differ
set_option maxRecDepth 20000 in
theorem ggX8_looksAt_X8_parting : GoodIn wsX8_looksAt wsX8_parting := goodIn_r _ [50, 3, 33, 34, 35, 14, 36, 37, 38, 39, 40, 41, 20, 42, 43, 44, 45, 46, 51, 52, 53, 54, 55, 56, 57, 58, 59, 60, 61, 62, 63, 64, 65, 66, 67, 68, 69, 70, 71, 72, 73, 74, 75, 76, 77, 78, 79, 80, 81, 82, 83, 84] (by decide +kernel) (by decide +kernel)
set_option maxRecDepth 20000 in
theorem gX8_looksAt_X8_parting : GoodIn wsX8_looksAt (wsV RX8 133 RX8 yX8_parting wsX8_parting) := goodIn_app (goodIn_of _ (by decide +kernel)) ggX8_looksAt_X8_parting
set_option maxRecDepth 20000 in
theorem ggX8_looksAt_X8_bitOf : GoodIn wsX8_looksAt wsX8_bitOf := goodIn_r _ [36, 37, 38, 39, 14, 40, 41, 20, 42, 43, 44, 45, 46, 51, 52, 53, 54, 55, 56, 57, 58, 59, 60, 61, 62, 63, 64, 65, 66, 67, 68, 69, 70, 71, 72, 73, 74, 75, 76, 77, 78, 79, 80, 81, 82, 83, 84] (by decide +kernel) (by decide +kernel)
set_option maxRecDepth 20000 in
theorem gX8_looksAt_X8_bitOf : GoodIn wsX8_looksAt (wsV RX8 94 RX8 yX8_bitOf wsX8_bitOf) := goodIn_app (goodIn_of _ (by decide +kernel)) ggX8_looksAt_X8_bitOf
set_option maxRecDepth 20000 in
theorem ggX8_looksAt_X8_lengthOf : GoodIn wsX8_looksAt wsX8_lengthOf := goodIn_r _ [40, 41, 20, 51, 52, 53, 54, 55, 56, 57, 58, 59, 60, 61, 62, 63, 64, 65, 66, 67, 68, 69, 70, 71, 72, 73, 74, 75, 76, 77, 78, 79, 80, 81, 82, 83, 84] (by decide +kernel) (by decide +kernel)
set_option maxRecDepth 20000 in
theorem gX8_looksAt_X8_lengthOf : GoodIn wsX8_looksAt (wsV RX8 86 RX8 yX8_lengthOf wsX8_lengthOf) := goodIn_app (goodIn_of _ (by decide +kernel)) ggX8_looksAt_X8_lengthOf
theorem dX8_looksAt_0 : decode cX8_looksAt 0 = .ok (.aload_n 0, 1) := by decide +kernel
theorem dX8_looksAt_1 : decode cX8_looksAt 1 = .ok (.iload_n 1, 1) := by decide +kernel
theorem dX8_looksAt_2 : decode cX8_looksAt 2 = .ok (.iload_n 2, 1) := by decide +kernel
theorem dX8_looksAt_3 : decode cX8_looksAt 3 = .ok (.invokevirtual 126, 3) := by decide +kernel
theorem dX8_looksAt_6 : decode cX8_looksAt 6 = .ok (.aload_n 0, 1) := by decide +kernel
theorem dX8_looksAt_7 : decode cX8_looksAt 7 = .ok (.iconst 0, 1) := by decide +kernel
theorem dX8_looksAt_8 : decode cX8_looksAt 8 = .ok (.putfield 130, 3) := by decide +kernel
theorem dX8_looksAt_11 : decode cX8_looksAt 11 = .ok (.iconst 0, 1) := by decide +kernel
theorem dX8_looksAt_12 : decode cX8_looksAt 12 = .ok (.istore 4, 2) := by decide +kernel
theorem dX8_looksAt_14 : decode cX8_looksAt 14 = .ok (.aload_n 0, 1) := by decide +kernel
theorem dX8_looksAt_15 : decode cX8_looksAt 15 = .ok (.getfield 120, 3) := by decide +kernel
theorem dX8_looksAt_18 : decode cX8_looksAt 18 = .ok (.istore 5, 2) := by decide +kernel
theorem dX8_looksAt_20 : decode cX8_looksAt 20 = .ok (.iload 5, 2) := by decide +kernel
theorem dX8_looksAt_22 : decode cX8_looksAt 22 = .ok (.iload 4, 2) := by decide +kernel
theorem dX8_looksAt_24 : decode cX8_looksAt 24 = .ok (.isub, 1) := by decide +kernel
theorem dX8_looksAt_25 : decode cX8_looksAt 25 = .ok (.iconst 1, 1) := by decide +kernel
theorem dX8_looksAt_26 : decode cX8_looksAt 26 = .ok (.if_icmp .le 123, 3) := by decide +kernel
theorem dX8_looksAt_29 : decode cX8_looksAt 29 = .ok (.aload_n 0, 1) := by decide +kernel
theorem dX8_looksAt_30 : decode cX8_looksAt 30 = .ok (.aload_n 0, 1) := by decide +kernel
theorem dX8_looksAt_31 : decode cX8_looksAt 31 = .ok (.getfield 28, 3) := by decide +kernel
theorem dX8_looksAt_34 : decode cX8_looksAt 34 = .ok (.iload 4, 2) := by decide +kernel
theorem dX8_looksAt_36 : decode cX8_looksAt 36 = .ok (.iaload, 1) := by decide +kernel
theorem dX8_looksAt_37 : decode cX8_looksAt 37 = .ok (.aload_n 0, 1) := by decide +kernel
theorem dX8_looksAt_38 : decode cX8_looksAt 38 = .ok (.getfield 28, 3) := by decide +kernel
theorem dX8_looksAt_41 : decode cX8_looksAt 41 = .ok (.iload 5, 2) := by decide +kernel
theorem dX8_looksAt_43 : decode cX8_looksAt 43 = .ok (.iconst 1, 1) := by decide +kernel
theorem dX8_looksAt_44 : decode cX8_looksAt 44 = .ok (.isub, 1) := by decide +kernel
theorem dX8_looksAt_45 : decode cX8_looksAt 45 = .ok (.iaload, 1) := by decide +kernel
theorem dX8_looksAt_46 : decode cX8_looksAt 46 = .ok (.invokevirtual 97, 3) := by decide +kernel
theorem dX8_looksAt_49 : decode cX8_looksAt 49 = .ok (.istore 6, 2) := by decide +kernel
theorem dX8_looksAt_51 : decode cX8_looksAt 51 = .ok (.aload_n 0, 1) := by decide +kernel
theorem dX8_looksAt_52 : decode cX8_looksAt 52 = .ok (.getfield 31, 3) := by decide +kernel
theorem dX8_looksAt_55 : decode cX8_looksAt 55 = .ok (.aload_n 0, 1) := by decide +kernel
theorem dX8_looksAt_56 : decode cX8_looksAt 56 = .ok (.getfield 130, 3) := by decide +kernel
theorem dX8_looksAt_59 : decode cX8_looksAt 59 = .ok (.iload 6, 2) := by decide +kernel
theorem dX8_looksAt_61 : decode cX8_looksAt 61 = .ok (.iastore, 1) := by decide +kernel
theorem dX8_looksAt_62 : decode cX8_looksAt 62 = .ok (.aload_n 0, 1) := by decide +kernel
theorem dX8_looksAt_63 : decode cX8_looksAt 63 = .ok (.getfield 34, 3) := by decide +kernel
theorem dX8_looksAt_66 : decode cX8_looksAt 66 = .ok (.aload_n 0, 1) := by decide +kernel
theorem dX8_looksAt_67 : decode cX8_looksAt 67 = .ok (.getfield 130, 3) := by decide +kernel
theorem dX8_looksAt_70 : decode cX8_looksAt 70 = .ok (.iload 4, 2) := by decide +kernel
theorem dX8_looksAt_72 : decode cX8_looksAt 72 = .ok (.iastore, 1) := by decide +kernel
theorem dX8_looksAt_73 : decode cX8_looksAt 73 = .ok (.aload_n 0, 1) := by decide +kernel
theorem dX8_looksAt_74 : decode cX8_looksAt 74 = .ok (.getfield 37, 3) := by decide +kernel
theorem dX8_looksAt_77 : decode cX8_looksAt 77 = .ok (.aload_n 0, 1) := by decide +kernel
theorem dX8_looksAt_78 : decode cX8_looksAt 78 = .ok (.getfield 130, 3) := by decide +kernel
theorem dX8_looksAt_81 : decode cX8_looksAt 81 = .ok (.iload 5, 2) := by decide +kernel
theorem dX8_looksAt_83 : decode cX8_looksAt 83 = .ok (.iastore, 1) := by decide +kernel
theorem dX8_looksAt_84 : decode cX8_looksAt 84 = .ok (.aload_n 0, 1) := by decide +kernel
theorem dX8_looksAt_85 : decode cX8_looksAt 85 = .ok (.dup, 1) := by decide +kernel
theorem dX8_looksAt_86 : decode cX8_looksAt 86 = .ok (.getfield 130, 3) := by decide +kernel
theorem dX8_looksAt_89 : decode cX8_looksAt 89 = .ok (.iconst 1, 1) := by decide +kernel
theorem dX8_looksAt_90 : decode cX8_looksAt 90 = .ok (.iadd, 1) := by decide +kernel
theorem dX8_looksAt_91 : decode cX8_looksAt 91 = .ok (.putfield 130, 3) := by decide +kernel
theorem dX8_looksAt_94 : decode cX8_looksAt 94 = .ok (.aload_n 0, 1) := by decide +kernel
theorem dX8_looksAt_95 : decode cX8_looksAt 95 = .ok (.iload 4, 2) := by decide +kernel
theorem dX8_looksAt_97 : decode cX8_looksAt 97 = .ok (.iload 5, 2) := by decide +kernel
theorem dX8_looksAt_99 : decode cX8_looksAt 99 = .ok (.iload 6, 2) := by decide +kernel
theorem dX8_looksAt_101 : decode cX8_looksAt 101 = .ok (.invokevirtual 133, 3) := by decide +kernel
theorem dX8_looksAt_104 : decode cX8_looksAt 104 = .ok (.istore 7, 2) := by decide +kernel
theorem dX8_looksAt_106 : decode cX8_looksAt 106 = .ok (.aload_n 0, 1) := by decide +kernel
theorem dX8_looksAt_107 : decode cX8_looksAt 107 = .ok (.bipush 48, 2) := by decide +kernel
theorem dX8_looksAt_109 : decode cX8_looksAt 109 = .ok (.iload 6, 2) := by decide +kernel
theorem dX8_looksAt_111 : decode cX8_looksAt 111 = .ok (.invokevirtual 94, 3) := by decide +kernel
theorem dX8_looksAt_114 : decode cX8_looksAt 114 = .ok (.ifCond .ne 8, 3) := by decide +kernel
theorem dX8_looksAt_117 : decode cX8_looksAt 117 = .ok (.iload 7, 2) := by decide +kernel
theorem dX8_looksAt_119 : decode cX8_looksAt 119 = .ok (.goto 5, 3) := by decide +kernel
theorem dX8_looksAt_122 : decode cX8_looksAt 122 = .ok (.iload 5, 2) := by decide +kernel
theorem dX8_looksAt_124 : decode cX8_looksAt 124 = .ok (.istore 5, 2) := by decide +kernel
theorem dX8_looksAt_126 : decode cX8_looksAt 126 = .ok (.aload_n 0, 1) := by decide +kernel
theorem dX8_looksAt_127 : decode cX8_looksAt 127 = .ok (.bipush 48, 2) := by decide +kernel
theorem dX8_looksAt_129 : decode cX8_looksAt 129 = .ok (.iload 6, 2) := by decide +kernel
theorem dX8_looksAt_131 : decode cX8_looksAt 131 = .ok (.invokevirtual 94, 3) := by decide +kernel
theorem dX8_looksAt_134 : decode cX8_looksAt 134 = .ok (.ifCond .ne 8, 3) := by decide +kernel
theorem dX8_looksAt_137 : decode cX8_looksAt 137 = .ok (.iload 4, 2) := by decide +kernel
theorem dX8_looksAt_139 : decode cX8_looksAt 139 = .ok (.goto 5, 3) := by decide +kernel
theorem dX8_looksAt_142 : decode cX8_looksAt 142 = .ok (.iload 7, 2) := by decide +kernel
theorem dX8_looksAt_144 : decode cX8_looksAt 144 = .ok (.istore 4, 2) := by decide +kernel
theorem dX8_looksAt_146 : decode cX8_looksAt 146 = .ok (.goto (-126), 3) := by decide +kernel
theorem dX8_looksAt_149 : decode cX8_looksAt 149 = .ok (.aload_n 0, 1) := by decide +kernel
theorem dX8_looksAt_150 : decode cX8_looksAt 150 = .ok (.iload 4, 2) := by decide +kernel
theorem dX8_looksAt_152 : decode cX8_looksAt 152 = .ok (.putfield 137, 3) := by decide +kernel
theorem dX8_looksAt_155 : decode cX8_looksAt 155 = .ok (.aload_n 0, 1) := by decide +kernel
theorem dX8_looksAt_156 : decode cX8_looksAt 156 = .ok (.aload_n 0, 1) := by decide +kernel
theorem dX8_looksAt_157 : decode cX8_looksAt 157 = .ok (.bipush 48, 2) := by decide +kernel
theorem dX8_looksAt_159 : decode cX8_looksAt 159 = .ok (.aload_n 0, 1) := by decide +kernel
theorem dX8_looksAt_160 : decode cX8_looksAt 160 = .ok (.getfield 28, 3) := by decide +kernel
theorem dX8_looksAt_163 : decode cX8_looksAt 163 = .ok (.aload_n 0, 1) := by decide +kernel
theorem dX8_looksAt_164 : decode cX8_looksAt 164 = .ok (.getfield 137, 3) := by decide +kernel
theorem dX8_looksAt_167 : decode cX8_looksAt 167 = .ok (.iaload, 1) := by decide +kernel
theorem dX8_looksAt_168 : decode cX8_looksAt 168 = .ok (.invokevirtual 97, 3) := by decide +kernel
theorem dX8_looksAt_171 : decode cX8_looksAt 171 = .ok (.putfield 140, 3) := by decide +kernel
theorem dX8_looksAt_174 : decode cX8_looksAt 174 = .ok (.aload_n 0, 1) := by decide +kernel
theorem dX8_looksAt_175 : decode cX8_looksAt 175 = .ok (.getfield 140, 3) := by decide +kernel
theorem dX8_looksAt_178 : decode cX8_looksAt 178 = .ok (.iconst (-1), 1) := by decide +kernel
theorem dX8_looksAt_179 : decode cX8_looksAt 179 = .ok (.if_icmp .ne 23, 3) := by decide +kernel
theorem dX8_looksAt_182 : decode cX8_looksAt 182 = .ok (.aload_n 0, 1) := by decide +kernel
theorem dX8_looksAt_183 : decode cX8_looksAt 183 = .ok (.aload_n 0, 1) := by decide +kernel
theorem dX8_looksAt_184 : decode cX8_looksAt 184 = .ok (.getfield 28, 3) := by decide +kernel
theorem dX8_looksAt_187 : decode cX8_looksAt 187 = .ok (.aload_n 0, 1) := by decide +kernel
theorem dX8_looksAt_188 : decode cX8_looksAt 188 = .ok (.getfield 137, 3) := by decide +kernel
theorem dX8_looksAt_191 : decode cX8_looksAt 191 = .ok (.iaload, 1) := by decide +kernel
theorem dX8_looksAt_192 : decode cX8_looksAt 192 = .ok (.invokevirtual 86, 3) := by decide +kernel
theorem dX8_looksAt_195 : decode cX8_looksAt 195 = .ok (.iconst 1, 1) := by decide +kernel
theorem dX8_looksAt_196 : decode cX8_looksAt 196 = .ok (.isub, 1) := by decide +kernel
theorem dX8_looksAt_197 : decode cX8_looksAt 197 = .ok (.iconst 4, 1) := by decide +kernel
theorem dX8_looksAt_198 : decode cX8_looksAt 198 = .ok (.idiv, 1) := by decide +kernel
theorem dX8_looksAt_199 : decode cX8_looksAt 199 = .ok (.goto 10, 3) := by decide +kernel
theorem dX8_looksAt_202 : decode cX8_looksAt 202 = .ok (.aload_n 0, 1) := by decide +kernel
theorem dX8_looksAt_203 : decode cX8_looksAt 203 = .ok (.getfield 140, 3) := by decide +kernel
theorem dX8_looksAt_206 : decode cX8_looksAt 206 = .ok (.bipush 32, 2) := by decide +kernel
theorem dX8_looksAt_208 : decode cX8_looksAt 208 = .ok (.idiv, 1) := by decide +kernel
theorem dX8_looksAt_209 : decode cX8_looksAt 209 = .ok (.istore 6, 2) := by decide +kernel
theorem dX8_looksAt_211 : decode cX8_looksAt 211 = .ok (.aload_n 0, 1) := by decide +kernel
theorem dX8_looksAt_212 : decode cX8_looksAt 212 = .ok (.iload 6, 2) := by decide +kernel
theorem dX8_looksAt_214 : decode cX8_looksAt 214 = .ok (.iload_n 3, 1) := by decide +kernel
theorem dX8_looksAt_215 : decode cX8_looksAt 215 = .ok (.bipush 32, 2) := by decide +kernel
theorem dX8_looksAt_217 : decode cX8_looksAt 217 = .ok (.idiv, 1) := by decide +kernel
theorem dX8_looksAt_218 : decode cX8_looksAt 218 = .ok (.isub, 1) := by decide +kernel
theorem dX8_looksAt_219 : decode cX8_looksAt 219 = .ok (.iconst 1, 1) := by decide +kernel
theorem dX8_looksAt_220 : decode cX8_looksAt 220 = .ok (.iadd, 1) := by decide +kernel
theorem dX8_looksAt_221 : decode cX8_looksAt 221 = .ok (.putfield 143, 3) := by decide +kernel
theorem dX8_looksAt_224 : decode cX8_looksAt 224 = .ok (.aload_n 0, 1) := by decide +kernel
theorem dX8_looksAt_225 : decode cX8_looksAt 225 = .ok (.aload_n 0, 1) := by decide +kernel
theorem dX8_looksAt_226 : decode cX8_looksAt 226 = .ok (.getfield 143, 3) := by decide +kernel
theorem dX8_looksAt_229 : decode cX8_looksAt 229 = .ok (.ifCond .ge 7, 3) := by decide +kernel
theorem dX8_looksAt_232 : decode cX8_looksAt 232 = .ok (.iconst 0, 1) := by decide +kernel
theorem dX8_looksAt_233 : decode cX8_looksAt 233 = .ok (.goto 7, 3) := by decide +kernel
theorem dX8_looksAt_236 : decode cX8_looksAt 236 = .ok (.aload_n 0, 1) := by decide +kernel
theorem dX8_looksAt_237 : decode cX8_looksAt 237 = .ok (.getfield 143, 3) := by decide +kernel
theorem dX8_looksAt_240 : decode cX8_looksAt 240 = .ok (.putfield 143, 3) := by decide +kernel
theorem dX8_looksAt_243 : decode cX8_looksAt 243 = .ok (.aload_n 0, 1) := by decide +kernel
theorem dX8_looksAt_244 : decode cX8_looksAt 244 = .ok (.getfield 140, 3) := by decide +kernel
theorem dX8_looksAt_247 : decode cX8_looksAt 247 = .ok (.iconst (-1), 1) := by decide +kernel
theorem dX8_looksAt_248 : decode cX8_looksAt 248 = .ok (.if_icmp .ne 14, 3) := by decide +kernel
theorem dX8_looksAt_251 : decode cX8_looksAt 251 = .ok (.aload_n 0, 1) := by decide +kernel
theorem dX8_looksAt_252 : decode cX8_looksAt 252 = .ok (.aload_n 0, 1) := by decide +kernel
theorem dX8_looksAt_253 : decode cX8_looksAt 253 = .ok (.getfield 137, 3) := by decide +kernel
theorem dX8_looksAt_256 : decode cX8_looksAt 256 = .ok (.iconst 1, 1) := by decide +kernel
theorem dX8_looksAt_257 : decode cX8_looksAt 257 = .ok (.iadd, 1) := by decide +kernel
theorem dX8_looksAt_258 : decode cX8_looksAt 258 = .ok (.putfield 146, 3) := by decide +kernel
theorem dX8_looksAt_261 : decode cX8_looksAt 261 = .ok (.return_, 1) := by decide +kernel
theorem dX8_looksAt_262 : decode cX8_looksAt 262 = .ok (.iconst 0, 1) := by decide +kernel
theorem dX8_looksAt_263 : decode cX8_looksAt 263 = .ok (.istore 7, 2) := by decide +kernel
theorem dX8_looksAt_265 : decode cX8_looksAt 265 = .ok (.iload 7, 2) := by decide +kernel
theorem dX8_looksAt_267 : decode cX8_looksAt 267 = .ok (.aload_n 0, 1) := by decide +kernel
theorem dX8_looksAt_268 : decode cX8_looksAt 268 = .ok (.getfield 130, 3) := by decide +kernel
theorem dX8_looksAt_271 : decode cX8_looksAt 271 = .ok (.if_icmp .ge 23, 3) := by decide +kernel
theorem dX8_looksAt_274 : decode cX8_looksAt 274 = .ok (.aload_n 0, 1) := by decide +kernel
theorem dX8_looksAt_275 : decode cX8_looksAt 275 = .ok (.getfield 31, 3) := by decide +kernel
theorem dX8_looksAt_278 : decode cX8_looksAt 278 = .ok (.iload 7, 2) := by decide +kernel
theorem dX8_looksAt_280 : decode cX8_looksAt 280 = .ok (.iaload, 1) := by decide +kernel
theorem dX8_looksAt_281 : decode cX8_looksAt 281 = .ok (.aload_n 0, 1) := by decide +kernel
theorem dX8_looksAt_282 : decode cX8_looksAt 282 = .ok (.getfield 140, 3) := by decide +kernel
theorem dX8_looksAt_285 : decode cX8_looksAt 285 = .ok (.if_icmp .gt 9, 3) := by decide +kernel
theorem dX8_looksAt_288 : decode cX8_looksAt 288 = .ok (.iinc 7 1, 3) := by decide +kernel
